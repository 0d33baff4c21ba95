/-! A new row, both sides -/
section MAD
variable {μ : Mem} {r w : Nat} {x y z : Int32}
theorem v_maddChk (hS : Sh μ) (hr : r < 6) (hw : mI μ 57 r = nI w) (hw3 : w ≤ 3) {Q : Int32 × Mem → Prop} (kk : ∀ b : Int32, (b = 0 ∨ b = 1) → (b = 0 ↔ ∃ i, i < w ∧ (pkI x y z i < 0 ∨ nI 16 ≤ pkI x y z i)) → Ev (fun n => F_MO_add n 1 56 (nI r) x y z b (nI w) 0 μ) Q) : ∀ (d i : Nat) (b : Int32), i + d = w → (b = 0 ∨ b = 1) → (b = 0 ↔ ∃ j, j < i ∧ (pkI x y z j < 0 ∨ nI 16 ≤ pkI x y z j)) → Ev (fun n => F_MO_add n 1 56 (nI r) x y z b (nI i) 0 μ) Q := by
  intro d
  induction d with
  | zero =>
    intro i b hi hb hb2
    have : i = w := by omega
    subst this
    exact kk b hb hb2
  | succ d ih =>
    intro i b hi hb hb2
    have hlt : i < w := by omega
    refine E_MO_add_1 ?_
    simp only [B_MO_add_1, hS.k (k := 56) (c := 6) (by decide), hS.r (k := 56) (j := 2) (v := 57) (by decide), hS.k (k := 57) (c := 100) (by decide), hS.z (show 57 < 71 by decide), show (kz 57).2 = 6 by decide, ib_i hr (show 6 < 2 ^ 31 by decide), nI_clamp (show r < 2 ^ 31 by omega), hw, nI_ge hlt (show w < 2 ^ 31 by omega), if_true, if_false, v_pick (show i < 3 by omega), Option.bind_some]
    have bad : (∃ j, j < i + 1 ∧ (pkI x y z j < 0 ∨ nI 16 ≤ pkI x y z j)) → Ev (fun n => F_MO_add n 2 56 (nI r) x y z 0 (nI i) 0 μ) Q := by
      intro hne
      refine E_MO_add_2 ?_
      simp only [B_MO_add_2]
      refine E_MO_add_3 ?_
      simp only [B_MO_add_3, Option.bind_some, nI_1]
      exact ih (i + 1) 0 (by omega) (Or.inl rfl) ⟨fun _ => hne, fun _ => rfl⟩
    rcases hb with rfl | rfl
    · simp only [if_true]
      obtain ⟨j, hj, hj2⟩ := hb2.mp rfl
      exact bad ⟨j, by omega, hj2⟩
    · simp only [show ¬ ((1 : Int32) = 0) by decide, if_false]
      refine Ev.i (fun h0 => bad ⟨i, by omega, Or.inl h0⟩) (fun h0 => Ev.i (fun h8 => bad ⟨i, by omega, Or.inr h8⟩) (fun h8 => ?_))
      refine E_MO_add_3 ?_
      simp only [B_MO_add_3, Option.bind_some, nI_1]
      refine ih (i + 1) 1 (by omega) (Or.inr rfl) ⟨fun z => absurd z (by decide), fun ⟨j, hj, hj2⟩ => ?_⟩
      rcases Nat.lt_or_ge j i with q | q
      · exact hb2.mpr ⟨j, q, hj2⟩
      · have : j = i := by omega
        subst this
        rcases hj2 with q2 | q2
        · exact absurd q2 h0
        · exact absurd q2 h8
theorem v_maddPut {G : Int32 × Mem → Prop} {N : Nat} (hr : r < 6) (hN : N < 12) (hw3 : w ≤ 3) (ν : Mem) (kk : ∀ μ', Fr (fun a j => (a = 59 ∧ 36 * r + 3 * N ≤ j ∧ j < 36 * r + 3 * N + w) ∨ (a = 58 ∧ j = r) ∨ (a = 56 ∧ j = 13)) ν μ' → (∀ i, i < w → mI μ' 59 (36 * r + 3 * N + i) = pkI x y z i) → mI μ' 58 r = nI (N + 1) → mI μ' 56 13 = 0 → G (1, μ')) : ∀ (d i : Nat) (μ : Mem), i + d = w → Sh μ → mI μ 57 r = nI w → mI μ 58 r = nI N → Fr (fun a j => (a = 59 ∧ 36 * r + 3 * N ≤ j ∧ j < 36 * r + 3 * N + w) ∨ (a = 58 ∧ j = r) ∨ (a = 56 ∧ j = 13)) ν μ → (∀ j, j < i → mI μ 59 (36 * r + 3 * N + j) = pkI x y z j) → Ev (fun n => F_MO_add n 4 56 (nI r) x y z 0 (nI i) 0 μ) G := by
  intro d
  induction d with
  | zero =>
    intro i μ hi hS hw hA hF hx
    have : i = w := by omega
    subst this
    refine E_MO_add_4 ?_
    simp only [B_MO_add_4, hS.k (k := 56) (c := 6) (by decide), hS.r (k := 56) (j := 2) (v := 57) (by decide), hS.k (k := 57) (c := 100) (by decide), hS.z (show 57 < 71 by decide), show (kz 57).2 = 6 by decide, ib_i hr (show 6 < 2 ^ 31 by decide), nI_clamp (show r < 2 ^ 31 by omega), hw, nI_le (Nat.le_refl i) (show i < 2 ^ 31 by omega), if_true, hS.r (k := 56) (j := 3) (v := 58) (by decide), hS.k (k := 58) (c := 100) (by decide), hS.z (show 58 < 71 by decide), show (kz 58).2 = 6 by decide, Option.bind_some, hA, nI_1]
    refine Ev.c (kk _ ((hF.i (by omega)).i (by omega)) (fun j hj => ?_) ?_ mI_ss)
    · rw [rd (Or.inl (by decide)), rd (Or.inl (by decide))]
      exact hx j hj
    · rw [rd (Or.inl (by decide))]
      exact mI_ss
  | succ d ih =>
    intro i μ hi hS hw hA hF hx
    have hlt : i < w := by omega
    have h3 : (36 : Int32) * nI r + 3 * nI N + nI i = nI (36 * r + 3 * N + i) := by rw [show (3 : Int32) = nI 3 from rfl, show (36 : Int32) = nI 36 from rfl, pk_mul, pk_mul, nI_add, nI_add]
    refine E_MO_add_4 ?_
    simp only [B_MO_add_4, hS.k (k := 56) (c := 6) (by decide), hS.r (k := 56) (j := 2) (v := 57) (by decide), hS.k (k := 57) (c := 100) (by decide), hS.z (show 57 < 71 by decide), show (kz 57).2 = 6 by decide, ib_i hr (show 6 < 2 ^ 31 by decide), nI_clamp (show r < 2 ^ 31 by omega), hw, nI_ge hlt (show w < 2 ^ 31 by omega), if_true, if_false, Option.bind_some, hS.r (k := 56) (j := 4) (v := 59) (by decide), hS.k (k := 59) (c := 100) (by decide), hS.r (k := 56) (j := 3) (v := 58) (by decide), hS.k (k := 58) (c := 100) (by decide), hS.z (show 58 < 71 by decide), show (kz 58).2 = 6 by decide, v_pick (show i < 3 by omega), hS.z (show 59 < 71 by decide), show (kz 59).2 = 216 by decide, hA, h3, ib_i (show 36 * r + 3 * N + i < 216 by omega) (show 216 < 2 ^ 31 by decide), nI_clamp (show 36 * r + 3 * N + i < 2 ^ 31 by omega), nI_1]
    have hF1 : Fr (fun a j => (a = 59 ∧ 36 * r + 3 * N ≤ j ∧ j < 36 * r + 3 * N + w) ∨ (a = 58 ∧ j = r) ∨ (a = 56 ∧ j = 13)) μ (sI μ 59 (36 * r + 3 * N + i) (pkI x y z i)) := Fr.rf.i (by omega)
    refine ih (i + 1) _ (by omega) (hS.fr hF1) ?_ ?_ (hF.tr hF1) (fun j hj => ?_)
    · rw [rd (Or.inl (by decide))]; exact hw
    · rw [rd (Or.inl (by decide))]; exact hA
    · rw [mI_g]
      by_cases hj2 : j = i
      · rw [if_pos ⟨rfl, by omega⟩, hj2]
      · rw [if_neg (fun z => by omega)]
        exact hx j (by omega)
end MAD
theorem enc_neg {o : Option Nat} (h : ∀ k, o = some k → k < 2 ^ 31) : enc o < 0 ↔ o = none := by
  cases o with
  | none => exact ⟨fun _ => rfl, fun _ => by decide⟩
  | some k => exact ⟨fun z => absurd z (nI_pos (h k rfl)), fun z => by cases z⟩
theorem Pl.lt {sz : Nat} {M : Nat → Prop} {o : Option Nat} (h : Pl sz M o) (hs : sz ≤ 12) : ∀ k, o = some k → k < 2 ^ 31 := by
  intro k hk
  rcases h with ⟨z, -⟩ | ⟨k', z, h1, -⟩
  · rw [z] at hk; cases hk
  · rw [z] at hk; cases hk; omega
theorem mt_u {p : Pic} (hWF : WF p) {r w : Nat} {x y z : Int32} (hr : r < pR p) : ∀ k k', k < pS p r → k' < pS p r → mt (pV p r) w x y z k → mt (pV p r) w x y z k' → k = k' := by
  intro k k' hk hk' h h'
  refine hWF.2.2.2.2.1 r k k' hk hk' (fun c hc => ?_)
  have := (h c hc).trans (h' c hc).symm
  rw [nI_eq (by have := (hWF.2.2.2.1 r hr k hk).1 c hc; omega) (by have := (hWF.2.2.2.1 r hr k' hk').1 c hc; omega)] at this
  exact this
theorem t_1 {μ : Mem} {p : Pic} {i4 : Int32} {L : Nat} {xs : Nat → Int32} (h : Inv μ p) (hI : Ix i4 L) : Ev (fun n => T_1 n 1 56 70 i4 L xs μ) Gd := by
  obtain ⟨i1, i2, i3, i4'⟩ := hI
  have hinv := h
  have hS := h.1
  have hWF := h.2.1
  obtain ⟨-, -, hCR, hCA, hCH, hCG, hMA, hMR, hMD, hVI, hKn⟩ := h
  obtain ⟨⟨w1, w2, w3, w4⟩, w5, w6, w7, w8, w9, w10, w11⟩ := id hWF
  have h0 : Inv (sI μ 56 0 0) p := hinv.sc (Or.inr (Or.inl ⟨rfl, Or.inl rfl⟩))
  simp only [T_1, i1, i2, i3, i4', hS.k (k := 1) (c := 5) (by decide), if_true]
  generalize xs (Int32.toNatClampNeg (i4 + 1)) = a
  generalize xs (Int32.toNatClampNeg (i4 + 2)) = x
  generalize xs (Int32.toNatClampNeg (i4 + 3)) = y
  generalize xs (Int32.toNatClampNeg (i4 + 4)) = z
  have finNo : Ev (fun n => C_MO_add n 56 a x y z μ) (fun q => q.1 = 0 ∧ Gd q.2) → Ev (fun n => if ok μ 56 6 = true then Option.bind (C_MO_add n 56 a x y z μ) (fun q12 => if (0 : Int32) = q12.1 then some q12.2 else none) else none) Gd := fun hr => by
    simp only [hS.k (k := 56) (c := 6) (by decide), if_true]
    refine Ev.b hr (fun q hq => ?_)
    simp only [hq.1, if_true]
    exact Ev.c hq.2
  rcases in_or (x := a) (pR p) (by omega) with ha | ⟨r, hr, rfl⟩
  · refine Ev.b (P := fun q => q = (0, μ)) ?_ (fun q hq => ?_)
    · simp only [C_JL_add, hS.k (k := 1) (c := 5) (by decide), if_true, hCR.1, v_bo ha, Option.bind_some]
      exact Ev.c rfl
    · subst hq
      refine finNo ?_
      unfold C_MO_add
      refine E_MO_add_0 ?_
      simp only [B_MO_add_0, hS.k (k := 56) (c := 6) (by decide), if_true, Option.bind_some, v_ro h0.1 h0.2.2.2.2.2.2.2.1.1 ha]
      exact Ev.c ⟨rfl, p, h0⟩
  have hr6 : r < 6 := by omega
  obtain ⟨v1, v3⟩ := w2 r hr
  have hwc := hCR.2.2 r hr
  have hwm := hMA.1 r hr
  have hRel := hCR.2.1 r hr6
  have hsz := w5 r
  have cls : ∀ (Q : Int32 × Mem → Prop), Ev (fun n => Option.bind (C_RE_put n (3 + 2 * r) x y z μ) (fun q7 => if q7.1 = 0 then some (0, q7.2) else some (1, q7.2))) Q → Ev (fun n => C_JL_add n 1 (nI r) x y z μ) Q := by
    intro Q hk
    simp only [C_JL_add, hS.k (k := 1) (c := 5) (by decide), if_true, hCR.1, v_bi hr (show pR p < 2 ^ 31 by omega), Option.bind_some, show ¬ ((1 : Int32) = 0) by decide, if_false, hS.r (k := 1) (j := 0) (v := 2) (by decide), hS.k (k := 2) (c := 102) (by decide), hS.z (show 2 < 71 by decide), show (kz 2).2 = 6 by decide, ib_i hr6 (show 6 < 2 ^ 31 by decide), nI_clamp (show r < 2 ^ 31 by omega), hS.rR hr6, hS.oR hr6]
    exact hk
  -- the reference up to its checks
  have ref : ∀ {μ1 : Mem} (hs : Sh μ1) (e1 : mI μ1 56 1 = nI (pR p)) (e57 : mI μ1 57 r = nI (pW p r)) (e58 : mI μ1 58 r = nI (pS p r)) (e59 : ∀ k, k < pS p r → ∀ i, i < pW p r → mI μ1 59 (36 * r + 3 * k + i) = nI (pV p r k i)) (Q : Int32 × Mem → Prop), (pS p r = 12 → Q (0, sI μ1 56 0 0)) → (pS p r < 12 → ∀ o, Pl (pS p r) (mt (pV p r) (pW p r) x y z) o → (o ≠ none → Q (0, sI μ1 56 0 0)) ∧ (o = none → Ev (fun n => F_MO_add n 1 56 (nI r) x y z 1 (nI 0) 0 (sI μ1 56 0 0)) Q)) → Ev (fun n => C_MO_add n 56 (nI r) x y z μ1) Q := by
    intro μ1 hs e1 e57 e58 e59 Q k1 k2
    have hF : Fr (fun a j => a = 56 ∧ j = 0) μ1 (sI μ1 56 0 0) := Fr.rf.i ⟨rfl, rfl⟩
    have hs1 := hs.fr hF
    have e1' : mI (sI μ1 56 0 0) 56 1 = nI (pR p) := by rw [rd (Or.inr (by decide))]; exact e1
    have e57' : mI (sI μ1 56 0 0) 57 r = nI (pW p r) := by rw [rd (Or.inl (by decide))]; exact e57
    have e58' : mI (sI μ1 56 0 0) 58 r = nI (pS p r) := by rw [rd (Or.inl (by decide))]; exact e58
    have e59' : ∀ k, k < pS p r → ∀ i, i < pW p r → mI (sI μ1 56 0 0) 59 (36 * r + 3 * k + i) = nI (pV p r k i) := fun k hk i hi => by rw [rd (Or.inl (by decide))]; exact e59 k hk i hi
    unfold C_MO_add
    refine E_MO_add_0 ?_
    simp only [B_MO_add_0, hs.k (k := 56) (c := 6) (by decide), if_true, Option.bind_some, v_ri hs1 e1' hr (show pR p < 2 ^ 31 by omega), show ¬ ((1 : Int32) = 0) by decide, if_false, hs1.k (k := 56) (c := 6) (by decide), hs1.r (k := 56) (j := 3) (v := 58) (by decide), hs1.k (k := 58) (c := 100) (by decide), hs1.z (show 58 < 71 by decide), show (kz 58).2 = 6 by decide, ib_i hr6 (show 6 < 2 ^ 31 by decide), nI_clamp (show r < 2 ^ 31 by omega), e58']
    refine Ev.i (fun h6 => ?_) (fun h6 => ?_)
    · have h6 : nI (pS p r) = nI 12 := h6
      rw [nI_eq (by omega) (by decide)] at h6
      exact Ev.c (k1 h6)
    · have hlt : pS p r < 12 := by
        rcases Nat.lt_or_ge (pS p r) 12 with q | q
        · exact q
        · exact absurd (by rw [show pS p r = 12 by omega]; rfl) h6
      refine Ev.b (v_mplace hs1 hr6 v1 v3 e57' e58' hsz e59' (fun k hk => (w7 r hr k hk).2)) (fun q hq => ?_)
      obtain ⟨q1, q2⟩ := q
      obtain ⟨rfl, o, ho, hP⟩ := hq
      have ho : q1 = enc o := ho
      subst ho
      obtain ⟨m1, m2⟩ := k2 hlt o hP
      refine Ev.i (fun hn => m2 ((enc_neg (hP.lt hsz)).mp hn)) (fun hn => Ev.c (m1 (fun q => hn ((enc_neg (hP.lt hsz)).mpr q))))
  have hwm0 : mI (sI μ 56 0 0) 57 r = nI (pW p r) := by rw [rd (Or.inl (by decide))]; exact hwm
  rcases in3 (pW p r) x y z 16 (by decide) with hbad | ⟨X, hX⟩
  · -- a value out of range
    refine Ev.b (P := fun q => q = (0, μ)) (cls _ ?_) (fun q hq => ?_)
    · refine Ev.b (P := fun q => q = (0, μ)) ?_ (fun q hq => ?_)
      · simp only [C_RE_put, hS.oR hr6, if_true]
        refine Ev.o (v_packNo hS hr6 hwc v3 hbad) ?_
        simp only [if_true]
        exact Ev.c rfl
      · subst hq
        simp only [if_true]
        exact Ev.c rfl
    · subst hq
      refine finNo (ref hS hMR.1 hwm (hMR.2.1 r hr6) (hMR.2.2 r hr) _ (fun _ => ⟨rfl, p, h0⟩) (fun hlt o ho => ⟨fun _ => ⟨rfl, p, h0⟩, fun _ => ?_⟩))
      refine v_maddChk h0.1 hr6 hwm0 v3 (fun b hb hb2 => ?_) (pW p r) 0 1 (by omega) (Or.inr rfl) ⟨fun q => absurd q (by decide), fun ⟨j, hj, _⟩ => absurd hj (Nat.not_lt_zero _)⟩
      have hb0 : b = 0 := by
        refine hb2.mpr ?_
        obtain ⟨i, hi, hi2⟩ := hbad
        rcases Nat.lt_or_ge i (pW p r) with q | q
        · exact ⟨i, q, by rw [← cl_pk q v3]; exact hi2⟩
        · rw [cl_hi q v1 hi] at hi2
          exact ⟨0, by omega, hi2⟩
      subst hb0
      refine E_MO_add_1 ?_
      simp only [B_MO_add_1, h0.1.k (k := 56) (c := 6) (by decide), h0.1.r (k := 56) (j := 2) (v := 57) (by decide), h0.1.k (k := 57) (c := 100) (by decide), h0.1.z (show 57 < 71 by decide), show (kz 57).2 = 6 by decide, ib_i hr6 (show 6 < 2 ^ 31 by decide), nI_clamp (show r < 2 ^ 31 by omega), hwm0, nI_le (Nat.le_refl (pW p r)) (show pW p r < 2 ^ 31 by omega), if_true]
      exact Ev.c ⟨rfl, p, h0⟩
  have hXs : X 0 + 16 * X 1 + 256 * X 2 < 4096 := by
    have := (hX 0 (by decide)).1
    have := (hX 1 (by decide)).1
    have := (hX 2 (by decide)).1
    omega
  have hrow : ¬ (nI (X 0 + 16 * X 1 + 256 * X 2) = -1) := fun q => by
    have := nI_pos (n := X 0 + 16 * X 1 + 256 * X 2) (by omega)
    rw [q] at this
    exact this (by decide)
  obtain ⟨o, hPl, hplace⟩ := v_cplace2 hS hr6 hRel hX
  by_cases h12 : pS p r = 12
  · have h12' : nI (pS p r) = 12 := by rw [h12]; rfl
    refine Ev.b (P := fun q => q = (0, μ)) (cls _ ?_) (fun q hq => ?_)
    · refine Ev.b (P := fun q => q = (0, μ)) ?_ (fun q hq => ?_)
      · simp only [C_RE_put, hS.oR hr6, if_true]
        refine Ev.o (v_packYes hS hr6 hwc v3 hX) ?_
        simp only [hrow, if_false, hS.oR hr6, hRel.1, h12', if_true]
        exact Ev.c rfl
      · subst hq
        simp only [if_true]
        exact Ev.c rfl
    · subst hq
      exact finNo (ref hS hMR.1 hwm (hMR.2.1 r hr6) (hMR.2.2 r hr) _ (fun _ => ⟨rfl, p, h0⟩) (fun hlt => absurd h12 (by omega)))
  have hlt : pS p r < 12 := by omega
  have hn12 : ¬ (nI (pS p r) = 12) := fun q => by
    have q : nI (pS p r) = nI 12 := q
    rw [nI_eq (by omega) (by decide)] at q
    exact h12 q
  by_cases hon : o = none
  case neg =>
    have henc : ¬ (enc o = -1) := fun q => hon ((enc_m1 (hPl.lt hsz)).mp q)
    refine Ev.b (P := fun q => q = (0, μ)) (cls _ ?_) (fun q hq => ?_)
    · refine Ev.b (P := fun q => q = (0, μ)) ?_ (fun q hq => ?_)
      · simp only [C_RE_put, hS.oR hr6, if_true]
        refine Ev.o (v_packYes hS hr6 hwc v3 hX) ?_
        simp only [hrow, if_false, hS.oR hr6, hRel.1, hn12, if_true]
        refine Ev.o hplace ?_
        simp only [henc, if_false]
        exact Ev.c rfl
      · subst hq
        simp only [if_true]
        exact Ev.c rfl
    · subst hq
      exact finNo (ref hS hMR.1 hwm (hMR.2.1 r hr6) (hMR.2.2 r hr) _ (fun q => absurd q h12) (fun _ o' ho' => ⟨fun _ => ⟨rfl, p, h0⟩, fun q => absurd ((Pl.u (mt_u hWF hr) hPl ho').trans q) hon⟩))
  subst hon
  have hno : ∀ k, k < pS p r → ¬ mt (pV p r) (pW p r) x y z k := by
    rcases hPl with ⟨-, q⟩ | ⟨k, q, -⟩
    · exact q
    · cases q
  -- it is new
  have hX16 : ∀ c, c < 3 → X c < 16 := fun c hc => (hX c hc).1
  have hXpad : ∀ c, c < 3 → pW p r ≤ c → X c = X 0 := fun c hc hwc => by
    have q1 := (hX c hc).2
    rw [cl_hi hwc v1 hc] at q1
    have q2 : x = nI (X 0) := (hX 0 (by decide)).2
    rw [q2, nI_eq (by have := hX16 0 (by decide); omega) (by have := hX16 c hc; omega)] at q1
    exact q1.symm
  generalize hX' : (fun c => if c < 3 then X c else X 0) = X'
  have hXe : ∀ c, c < 3 → X' c = X c := fun c hc => by rw [← hX']; simp [hc]
  generalize hp' : ((pR p, pW p, va_up (pS p) r (pS p r + 1), va_up (pV p) r (va_up (pV p r) (pS p r) X'), pA p, pL p, pX p, pH p, pD p) : Pic) = p'
  have pR' : pR p' = pR p := by rw [← hp']; rfl
  have pW' : pW p' = pW p := by rw [← hp']; rfl
  have pS' : pS p' = va_up (pS p) r (pS p r + 1) := by rw [← hp']; rfl
  have pV' : pV p' = va_up (pV p) r (va_up (pV p r) (pS p r) X') := by rw [← hp']; rfl
  have oS : ∀ r', r' ≠ r → pS p' r' = pS p r' ∧ pV p' r' = pV p r' := fun r' q => by rw [pS', pV']; exact ⟨va_up_ne _ _ q, va_up_ne _ _ q⟩
  have nS : pS p' r = pS p r + 1 := by rw [pS']; exact va_up_self _ _ _
  have nV : pV p' r = va_up (pV p r) (pS p r) X' := by rw [pV']; exact va_up_self _ _ _
  have nVo : ∀ k, k < pS p r → pV p' r k = pV p r k := fun k hk => by rw [nV]; exact va_up_ne _ _ (by omega)
  have nVn : pV p' r (pS p r) = X' := by rw [nV]; exact va_up_self _ _ _
  have spl : ∀ k, k < pS p' r → k < pS p r ∨ k = pS p r := fun k hk => by rw [nS] at hk; omega
  refine Ev.b (P := fun q => q = (1, sI (sI μ (4 + 2 * r) (pS p r) (nI (X 0 + 16 * X 1 + 256 * X 2))) (3 + 2 * r) 2 (nI (pS p r + 1)))) (cls _ ?_) (fun q hq => ?_)
  · refine Ev.b (P := fun q => q = (1, sI (sI μ (4 + 2 * r) (pS p r) (nI (X 0 + 16 * X 1 + 256 * X 2))) (3 + 2 * r) 2 (nI (pS p r + 1)))) ?_ (fun q hq => ?_)
    · simp only [C_RE_put, hS.oR hr6, if_true]
      refine Ev.o (v_packYes hS hr6 hwc v3 hX) ?_
      simp only [hrow, if_false, hS.oR hr6, hRel.1, hn12, if_true]
      refine Ev.o hplace ?_
      simp only [enc, if_true, hS.oR hr6, hS.rP hr6, hS.oP hr6, hS.zP hr6, hRel.1, ib_i hlt (show 12 < 2 ^ 31 by decide), nI_clamp (show pS p r < 2 ^ 31 by omega), Option.bind_some, rd (show 3 + 2 * r ≠ 4 + 2 * r ∨ (2 : Nat) ≠ pS p r from Or.inl (by omega)), nI_1]
      exact Ev.c rfl
    · subst hq
      simp only [show ¬ ((1 : Int32) = 0) by decide, if_false]
      exact Ev.c rfl
  · subst hq
    have hF1 : Fr (fun a j => (a = 4 + 2 * r ∧ j = pS p r) ∨ (a = 3 + 2 * r ∧ j = 2)) μ (sI (sI μ (4 + 2 * r) (pS p r) (nI (X 0 + 16 * X 1 + 256 * X 2))) (3 + 2 * r) 2 (nI (pS p r + 1))) := (Fr.rf.i (Or.inl ⟨rfl, rfl⟩)).i (Or.inr ⟨rfl, rfl⟩)
    have b1 : mI (sI (sI μ (4 + 2 * r) (pS p r) (nI (X 0 + 16 * X 1 + 256 * X 2))) (3 + 2 * r) 2 (nI (pS p r + 1))) (3 + 2 * r) 2 = nI (pS p r + 1) := mI_ss
    have b2 : mI (sI (sI μ (4 + 2 * r) (pS p r) (nI (X 0 + 16 * X 1 + 256 * X 2))) (3 + 2 * r) 2 (nI (pS p r + 1))) (4 + 2 * r) (pS p r) = nI (X 0 + 16 * X 1 + 256 * X 2) := by
      rw [rd (Or.inl (by omega))]
      exact mI_ss
    generalize (sI (sI μ (4 + 2 * r) (pS p r) (nI (X 0 + 16 * X 1 + 256 * X 2))) (3 + 2 * r) 2 (nI (pS p r + 1))) = μ1 at hF1 b1 b2
    have hs1 := hS.fr hF1
    have f1 := hF1.2.2.2.1
    simp only [hs1.k (k := 56) (c := 6) (by decide), if_true]
    refine Ev.b (P := fun q => q.1 = 1 ∧ Gd q.2) ?_ (fun q hq => ?_)
    · refine ref hs1 ((f1 56 1 (by omega)).trans hMR.1) ((f1 57 r (by omega)).trans hwm) ((f1 58 r (by omega)).trans (hMR.2.1 r hr6)) (fun k hk i hi => (f1 59 _ (by omega)).trans (hMR.2.2 r hr k hk i hi)) _ (fun q => absurd q h12) (fun _ o' ho' => ⟨fun q => absurd (Pl.u (mt_u hWF hr) ho' hPl) q, fun _ => ?_⟩)
      have hF0 : Fr (fun a j => a = 56 ∧ j = 0) μ1 (sI μ1 56 0 0) := Fr.rf.i ⟨rfl, rfl⟩
      have hs3 := hs1.fr hF0
      have c57' : mI (sI μ1 56 0 0) 57 r = nI (pW p r) := by rw [rd (Or.inl (by decide))]; exact (f1 57 r (by omega)).trans hwm
      have c58' : mI (sI μ1 56 0 0) 58 r = nI (pS p r) := by rw [rd (Or.inl (by decide))]; exact (f1 58 r (by omega)).trans (hMR.2.1 r hr6)
      generalize sI μ1 56 0 0 = μ3 at hF0 hs3 c57' c58'
      refine v_maddChk hs3 hr6 c57' v3 (fun b hb hb2 => ?_) (pW p r) 0 1 (by omega) (Or.inr rfl) ⟨fun q => absurd q (by decide), fun ⟨j, hj, _⟩ => absurd hj (Nat.not_lt_zero _)⟩
      have hb1 : b = 1 := by
        refine hb.resolve_left (fun q => ?_)
        obtain ⟨i, hi, hi2⟩ := hb2.mp q
        rw [← cl_pk hi v3] at hi2
        exact not_both (by decide) (hX i (by omega)).1 hi2 (hX i (by omega)).2
      subst hb1
      refine E_MO_add_1 ?_
      simp only [B_MO_add_1, hs3.k (k := 56) (c := 6) (by decide), hs3.r (k := 56) (j := 2) (v := 57) (by decide), hs3.k (k := 57) (c := 100) (by decide), hs3.z (show 57 < 71 by decide), show (kz 57).2 = 6 by decide, ib_i hr6 (show 6 < 2 ^ 31 by decide), nI_clamp (show r < 2 ^ 31 by omega), c57', nI_le (Nat.le_refl (pW p r)) (show pW p r < 2 ^ 31 by omega), if_true, show ¬ ((1 : Int32) = 0) by decide, if_false]
      refine v_maddPut hr6 hlt v3 μ3 (fun μ5 hF5 d1 d2 d3 => ⟨rfl, p', ?_⟩) (pW p r) 0 _ (by omega) hs3 c57' c58' Fr.rf (fun j hj => absurd hj (Nat.not_lt_zero _))
      have hG : Fr (fun a j => (a = 4 + 2 * r ∧ j = pS p r) ∨ (a = 3 + 2 * r ∧ j = 2) ∨ (a = 56 ∧ (j = 0 ∨ j = 13)) ∨ (a = 58 ∧ j = r) ∨ (a = 59 ∧ 36 * r + 3 * pS p r ≤ j ∧ j < 36 * r + 3 * pS p r + pW p r)) μ μ5 := ((hF1.mo (fun a j z => by omega)).tr (hF0.mo (fun a j z => by omega))).tr (hF5.mo (fun a j z => by omega))
      have hG2 : Fr (fun a j => (a = 56 ∧ (j = 0 ∨ j = 13)) ∨ a = 58 ∨ a = 59) μ1 μ5 := (hF0.mo (fun a j z => by omega)).tr (hF5.mo (fun a j z => by omega))
      have g := hG.2.2.2.1
      have g2 := hG2.2.2.2.1
      have hca : CA μ p' := by rw [← hp']; exact hCA
      have hch : CH μ p' := by rw [← hp']; exact hCH
      have hcg : CG μ p' := by rw [← hp']; exact hCG
      have hma : MA μ p' := by rw [← hp']; exact hMA
      have hmd : MD μ p' := by rw [← hp']; exact hMD
      have hwf : WF p' := by
        refine ⟨by rw [← hp']; exact ⟨w1, w2, w3, w4⟩, fun r' => ?_, fun r' hr' => ?_, fun r' hr' k hk => ?_, fun r' k k' hk hk' hh => ?_, by rw [← hp']; exact ⟨w9, w10, w11⟩⟩
        · by_cases q : r' = r
          · rw [q, nS]; omega
          · rw [(oS r' q).1]; exact w5 r'
        · rw [pR'] at hr'
          rw [(oS r' (by omega)).1]
          exact w6 r' hr'
        · rw [pR'] at hr'
          rw [pW']
          by_cases q : r' = r
          · subst q
            rcases spl k hk with q2 | q2
            · rw [nVo k q2]; exact w7 r' hr k q2
            · rw [q2, nVn]
              refine ⟨fun c hc => by rw [hXe c hc]; exact hX16 c hc, fun c hc => ?_⟩
              rw [hXe 0 (by decide)]
              by_cases h3 : c < 3
              · rw [hXe c h3]; exact hXpad c h3 hc
              · rw [← hX']; simp [h3]
          · rw [(oS r' q).1] at hk
            rw [(oS r' q).2]
            exact w7 r' hr' k hk
        · by_cases q : r' = r
          · subst q
            have nm : ∀ k, k < pS p r' → ¬ ∀ c, c < 3 → pV p r' k c = X' c := fun k hk hh => hno k hk (fun i hi => by rw [hh i hi, hXe i hi]; exact (hX i hi).2.symm)
            rcases spl k hk with q2 | q2 <;> rcases spl k' hk' with q3 | q3
            · rw [nVo k q2, nVo k' q3] at hh
              exact w8 r' k k' q2 q3 hh
            · rw [nVo k q2, q3, nVn] at hh
              exact absurd hh (nm k q2)
            · rw [nVo k' q3, q2, nVn] at hh
              exact absurd (fun c hc => (hh c hc).symm) (nm k' q3)
            · omega
          · rw [(oS r' q).1] at hk hk'
            rw [(oS r' q).2] at hh
            exact w8 r' k k' hk hk' hh
      refine ⟨hS.fr hG, hwf, ⟨by rw [pR', g 1 1 (by omega)]; exact hCR.1, fun r' hr' => ?_, fun r' hr' => ?_⟩, hca.fr hG (fun a j z => by omega) hwf.1.2.2.1, hch.fr hG (fun a j z => by omega), hcg.fr hG (fun a j z => by omega), hma.fr hG (fun j => by omega) (by omega), ⟨by rw [pR', g 56 1 (by omega)]; exact hMR.1, fun r' hr' => ?_, fun r' hr' k hk i hi => ?_⟩, hmd.fr hG (fun a j z => by omega), hVI.fr hG (fun a j z => by omega), Or.inl d3⟩
      · by_cases q : r' = r
        · subst q
          refine ⟨by rw [nS, g2 _ _ (by omega)]; exact b1, by rw [nS]; omega, fun k hk => ?_⟩
          rcases spl k hk with q2 | q2
          · rw [nVo k q2, g _ _ (by omega)]
            exact hRel.2.2 k q2
          · rw [q2, nVn, g2 _ _ (by omega), hXe 0 (by decide), hXe 1 (by decide), hXe 2 (by decide)]
            exact ⟨b2, fun c hc => by rw [hXe c hc]; exact hX16 c hc⟩
        · rw [(oS r' q).1, (oS r' q).2]
          obtain ⟨c1, c2, c3⟩ := hCR.2.1 r' hr'
          exact ⟨(g _ _ (by omega)).trans c1, c2, fun k hk => ⟨(g _ _ (by omega)).trans (c3 k hk).1, (c3 k hk).2⟩⟩
      · rw [pW', g _ _ (by omega)]
        exact hCR.2.2 r' (by rw [← pR']; exact hr')
      · by_cases q : r' = r
        · subst q
          rw [nS]; exact d2
        · rw [(oS r' q).1, g _ _ (by omega)]
          exact hMR.2.1 r' hr'
      · rw [pR'] at hr'
        rw [pW'] at hi
        have hi3 := (w2 r' hr').2
        by_cases q : r' = r
        · subst q
          rcases spl k hk with q2 | q2
          · rw [nVo k q2, g _ _ (by omega)]
            exact hMR.2.2 r' hr' k q2 i hi
          · rw [q2, nVn, d1 i hi, ← cl_pk hi v3, hXe i (by omega)]
            exact (hX i (by omega)).2
        · rw [(oS r' q).1] at hk
          have := w5 r'
          rw [(oS r' q).2, g _ _ (by omega)]
          exact hMR.2.2 r' hr' k hk i hi
    · simp only [hq.1, if_true]
      exact Ev.c hq.2
