/-! A new atom, both sides -/
section MAT
variable {μ : Mem} {r w N : Nat} {x y z : Int32}
/-- the reference's check of an atom's variables -/
theorem v_matChk (hS : Sh μ) (hr : r < 6) (hw : mI μ 57 r = nI w) (hw3 : w ≤ 3) {Q : Int32 × Mem → Prop} (kk : ∀ b : Int32, (b = 0 ∨ b = 1) → (b = 0 ↔ ∃ i, i < w ∧ (pkI x y z i < 0 ∨ nI 8 ≤ pkI x y z i)) → Ev (fun n => F_MO_atom n 1 56 (nI r) x y z b (nI w) 0 μ) Q) : ∀ (d i : Nat) (b : Int32), i + d = w → (b = 0 ∨ b = 1) → (b = 0 ↔ ∃ j, j < i ∧ (pkI x y z j < 0 ∨ nI 8 ≤ pkI x y z j)) → Ev (fun n => F_MO_atom n 1 56 (nI r) x y z b (nI i) 0 μ) Q := by
  intro d
  induction d with
  | zero =>
    intro i b hi hb hb2
    have : i = w := by omega
    subst this
    exact kk b hb hb2
  | succ d ih =>
    intro i b hi hb hb2
    have hlt : i < w := by omega
    refine E_MO_atom_1 ?_
    simp only [B_MO_atom_1, hS.k (k := 56) (c := 6) (by decide), hS.r (k := 56) (j := 2) (v := 57) (by decide), hS.k (k := 57) (c := 100) (by decide), hS.z (show 57 < 71 by decide), show (kz 57).2 = 6 by decide, ib_i hr (show 6 < 2 ^ 31 by decide), nI_clamp (show r < 2 ^ 31 by omega), hw, nI_ge hlt (show w < 2 ^ 31 by omega), if_true, if_false, v_pick (show i < 3 by omega), Option.bind_some]
    have bad : (∃ j, j < i + 1 ∧ (pkI x y z j < 0 ∨ nI 8 ≤ pkI x y z j)) → Ev (fun n => F_MO_atom n 2 56 (nI r) x y z 0 (nI i) 0 μ) Q := by
      intro hne
      refine E_MO_atom_2 ?_
      simp only [B_MO_atom_2]
      refine E_MO_atom_3 ?_
      simp only [B_MO_atom_3, Option.bind_some, nI_1]
      exact ih (i + 1) 0 (by omega) (Or.inl rfl) ⟨fun _ => hne, fun _ => rfl⟩
    rcases hb with rfl | rfl
    · simp only [if_true]
      obtain ⟨j, hj, hj2⟩ := hb2.mp rfl
      exact bad ⟨j, by omega, hj2⟩
    · simp only [show ¬ ((1 : Int32) = 0) by decide, if_false]
      refine Ev.i (fun h0 => bad ⟨i, by omega, Or.inl h0⟩) (fun h0 => Ev.i (fun h8 => bad ⟨i, by omega, Or.inr h8⟩) (fun h8 => ?_))
      refine E_MO_atom_3 ?_
      simp only [B_MO_atom_3, Option.bind_some, nI_1]
      refine ih (i + 1) 1 (by omega) (Or.inr rfl) ⟨fun z => absurd z (by decide), fun ⟨j, hj, hj2⟩ => ?_⟩
      rcases Nat.lt_or_ge j i with q | q
      · exact hb2.mpr ⟨j, q, hj2⟩
      · have : j = i := by omega
        subst this
        rcases hj2 with q2 | q2
        · exact absurd q2 h0
        · exact absurd q2 h8
/-- the reference's writing of an atom's variables -/
theorem v_matPut {G : Int32 × Mem → Prop} (hr : r < 6) (hN : N < 6) (hw3 : w ≤ 3) (ν : Mem) (kk : ∀ μ', Fr (fun a j => (a = 61 ∧ 3 * N ≤ j ∧ j < 3 * N + w) ∨ (a = 56 ∧ (j = 5 ∨ j = 13))) ν μ' → (∀ i, i < w → mI μ' 61 (3 * N + i) = pkI x y z i) → mI μ' 56 5 = nI (N + 1) → mI μ' 56 13 = 0 → G (nI N, μ')) : ∀ (d i : Nat) (μ : Mem), i + d = w → Sh μ → mI μ 57 r = nI w → mI μ 56 5 = nI N → Fr (fun a j => (a = 61 ∧ 3 * N ≤ j ∧ j < 3 * N + w) ∨ (a = 56 ∧ (j = 5 ∨ j = 13))) ν μ → (∀ j, j < i → mI μ 61 (3 * N + j) = pkI x y z j) → Ev (fun n => F_MO_atom n 4 56 (nI r) x y z 0 (nI i) 0 μ) G := by
  intro d
  induction d with
  | zero =>
    intro i μ hi hS hw hA hF hx
    have : i = w := by omega
    subst this
    refine E_MO_atom_4 ?_
    simp only [B_MO_atom_4, hS.k (k := 56) (c := 6) (by decide), hS.r (k := 56) (j := 2) (v := 57) (by decide), hS.k (k := 57) (c := 100) (by decide), hS.z (show 57 < 71 by decide), show (kz 57).2 = 6 by decide, ib_i hr (show 6 < 2 ^ 31 by decide), nI_clamp (show r < 2 ^ 31 by omega), hw, nI_le (Nat.le_refl i) (show i < 2 ^ 31 by omega), if_true, Option.bind_some, hA, nI_1, rd (show (56 : Nat) ≠ 56 ∨ (5 : Nat) ≠ 13 from Or.inr (by decide)), mI_ss, nI_pred]
    refine Ev.c (kk _ ((hF.i (by omega)).i (by omega)) (fun j hj => ?_) ?_ mI_ss)
    · rw [rd (Or.inl (by decide)), rd (Or.inl (by decide))]
      exact hx j hj
    · rw [rd (Or.inr (by decide))]
      exact mI_ss
  | succ d ih =>
    intro i μ hi hS hw hA hF hx
    have hlt : i < w := by omega
    have h3 : (3 : Int32) * nI N + nI i = nI (3 * N + i) := by rw [show (3 : Int32) = nI 3 from rfl, pk_mul, nI_add]
    refine E_MO_atom_4 ?_
    simp only [B_MO_atom_4, hS.k (k := 56) (c := 6) (by decide), hS.r (k := 56) (j := 2) (v := 57) (by decide), hS.k (k := 57) (c := 100) (by decide), hS.z (show 57 < 71 by decide), show (kz 57).2 = 6 by decide, ib_i hr (show 6 < 2 ^ 31 by decide), nI_clamp (show r < 2 ^ 31 by omega), hw, nI_ge hlt (show w < 2 ^ 31 by omega), if_true, if_false, Option.bind_some, hS.r (k := 56) (j := 7) (v := 61) (by decide), hS.k (k := 61) (c := 100) (by decide), v_pick (show i < 3 by omega), hS.z (show 61 < 71 by decide), show (kz 61).2 = 18 by decide, hA, h3, ib_i (show 3 * N + i < 18 by omega) (show 18 < 2 ^ 31 by decide), nI_clamp (show 3 * N + i < 2 ^ 31 by omega), nI_1]
    have hF1 : Fr (fun a j => (a = 61 ∧ 3 * N ≤ j ∧ j < 3 * N + w) ∨ (a = 56 ∧ (j = 5 ∨ j = 13))) μ (sI μ 61 (3 * N + i) (pkI x y z i)) := Fr.rf.i (by omega)
    refine ih (i + 1) _ (by omega) (hS.fr hF1) ?_ ?_ (hF.tr hF1) (fun j hj => ?_)
    · rw [rd (Or.inl (by decide))]; exact hw
    · rw [rd (Or.inl (by decide))]; exact hA
    · rw [mI_g]
      by_cases hj2 : j = i
      · rw [if_pos ⟨rfl, by omega⟩, hj2]
      · rw [if_neg (fun z => by omega)]
        exact hx j (by omega)
end MAT
theorem t_4 {μ : Mem} {p : Pic} {i4 : Int32} {L : Nat} {xs : Nat → Int32} (h : Inv μ p) (hI : Ix i4 L) : Ev (fun n => T_4 n 1 56 70 i4 L xs μ) Gd := by
  obtain ⟨i1, i2, i3, i4'⟩ := hI
  have hinv := h
  have hS := h.1
  obtain ⟨-, hWF, hCR, hCA, hCH, hCG, hMA, hMR, hMD, hVI, hKn⟩ := h
  obtain ⟨⟨w1, w2, w3, w4⟩, w5, w6, w7, w8, w9, w10, w11⟩ := hWF
  have h0 : Inv (sI μ 56 0 0) p := hinv.sc (Or.inr (Or.inl ⟨rfl, Or.inl rfl⟩))
  simp only [T_4, i1, i2, i3, i4', hS.k (k := 1) (c := 5) (by decide), if_true]
  generalize xs (Int32.toNatClampNeg (i4 + 1)) = a
  generalize xs (Int32.toNatClampNeg (i4 + 2)) = x
  generalize xs (Int32.toNatClampNeg (i4 + 3)) = y
  generalize xs (Int32.toNatClampNeg (i4 + 4)) = z
  have finNo : ∀ {μ1 : Mem} (hs : Sh μ1), Ev (fun n => C_MO_atom n 56 a x y z μ1) (fun q => q.1 = -1 ∧ Gd q.2) → Ev (fun n => if ok μ1 56 6 = true then Option.bind (C_MO_atom n 56 a x y z μ1) (fun q12 => if (-1 : Int32) = q12.1 then some q12.2 else none) else none) Gd := fun hs hr => by
    simp only [hs.k (k := 56) (c := 6) (by decide), if_true]
    refine Ev.b hr (fun q hq => ?_)
    simp only [hq.1, if_true]
    exact Ev.c hq.2
  rcases in_or (x := a) (pR p) (by omega) with ha | ⟨r, hr, rfl⟩
  · -- no such relation
    refine Ev.b (P := fun q => q = (-1, μ)) ?_ (fun q hq => ?_)
    · simp only [C_JL_atom, hS.k (k := 1) (c := 5) (by decide), if_true, hCR.1, v_bo ha, Option.bind_some]
      exact Ev.c rfl
    · subst hq
      refine finNo hS ?_
      unfold C_MO_atom
      refine E_MO_atom_0 ?_
      simp only [B_MO_atom_0, hS.k (k := 56) (c := 6) (by decide), if_true, Option.bind_some, v_ro h0.1 h0.2.2.2.2.2.2.2.1.1 ha]
      exact Ev.c ⟨rfl, p, h0⟩
  have hr6 : r < 6 := by omega
  obtain ⟨v1, v3⟩ := w2 r hr
  have hwc := hCR.2.2 r hr
  have hwm := hMA.1 r hr
  -- the class up to its putting of the atom
  have cls : ∀ (Q : Int32 × Mem → Prop), Ev (fun n => Option.bind (C_QU_putAtom n 15 (3 + 2 * r) x y z μ) (fun q8 => if q8.1 = 0 then some ((-1), q8.2) else if ok q8.2 1 5 = true then if ok q8.2 (mR q8.2 1 3) 3 = true then Option.bind (C_HA_hangAtoms n (mR q8.2 1 3) q8.2) (fun q11 => if ok q11 1 5 = true then if ok q11 (mR q11 1 2) 2 = true then some ((mI q11 (mR q11 1 2) 1) - 1, q11) else none else none) else none else none)) Q → Ev (fun n => C_JL_atom n 1 (nI r) x y z μ) Q := by
    intro Q hk
    simp only [C_JL_atom, hS.k (k := 1) (c := 5) (by decide), if_true, hCR.1, v_bi hr (show pR p < 2 ^ 31 by omega), Option.bind_some, show ¬ ((1 : Int32) = 0) by decide, if_false, hS.r (k := 1) (j := 2) (v := 15) (by decide), hS.k (k := 15) (c := 2) (by decide), hS.r (k := 1) (j := 0) (v := 2) (by decide), hS.k (k := 2) (c := 102) (by decide), hS.z (show 2 < 71 by decide), show (kz 2).2 = 6 by decide, ib_i hr6 (show 6 < 2 ^ 31 by decide), nI_clamp (show r < 2 ^ 31 by omega), hS.rR hr6, hS.oR hr6]
    exact hk
  -- the reference up to its checks
  have ref : ∀ {μ1 : Mem} (hs : Sh μ1) (e1 : mI μ1 56 1 = nI (pR p)) (e2 : mI μ1 56 5 = nI (pA p)) (Q : Int32 × Mem → Prop), (pA p = 6 → Q (-1, sI μ1 56 0 0)) → (pA p < 6 → Ev (fun n => F_MO_atom n 1 56 (nI r) x y z 1 (nI 0) 0 (sI μ1 56 0 0)) Q) → Ev (fun n => C_MO_atom n 56 (nI r) x y z μ1) Q := by
    intro μ1 hs e1 e2 Q k1 k2
    have hF : Fr (fun a j => a = 56 ∧ j = 0) μ1 (sI μ1 56 0 0) := Fr.rf.i ⟨rfl, rfl⟩
    have hs1 := hs.fr hF
    have e1' : mI (sI μ1 56 0 0) 56 1 = nI (pR p) := by rw [rd (Or.inr (by decide))]; exact e1
    have e2' : mI (sI μ1 56 0 0) 56 5 = nI (pA p) := by rw [rd (Or.inr (by decide))]; exact e2
    unfold C_MO_atom
    refine E_MO_atom_0 ?_
    simp only [B_MO_atom_0, hs.k (k := 56) (c := 6) (by decide), if_true, Option.bind_some, v_ri hs1 e1' hr (show pR p < 2 ^ 31 by omega), show ¬ ((1 : Int32) = 0) by decide, if_false, hs1.k (k := 56) (c := 6) (by decide), e2']
    refine Ev.i (fun h6 => ?_) (fun h6 => ?_)
    · have h6 : nI (pA p) = nI 6 := h6
      rw [nI_eq (by omega) (by decide)] at h6
      exact Ev.c (k1 h6)
    · refine k2 ?_
      rcases Nat.lt_or_ge (pA p) 6 with q | q
      · exact q
      · exact absurd (by rw [show pA p = 6 by omega]; rfl) h6
  by_cases hA6 : pA p = 6
  · have hA6' : nI (pA p) = 6 := by rw [hA6]; rfl
    refine Ev.b (P := fun q => q = (-1, μ)) (cls _ ?_) (fun q hq => ?_)
    · simp only [C_QU_putAtom, hS.k (k := 15) (c := 2) (by decide), if_true, hCA.1, hA6', Option.bind_some]
      exact Ev.c rfl
    · subst hq
      exact finNo hS (ref hS hMR.1 hMA.2.1 _ (fun _ => ⟨rfl, p, h0⟩) (fun q => absurd hA6 (by omega)))
  have hlt : pA p < 6 := by omega
  have hn6 : ¬ (nI (pA p) = 6) := fun q => by
    have q : nI (pA p) = nI 6 := q
    rw [nI_eq (by omega) (by decide)] at q
    exact hA6 q
  rcases in3 (pW p r) x y z 8 (by decide) with hbad | ⟨X, hX⟩
  · -- a variable out of range
    refine Ev.b (P := fun q => q = (-1, μ)) (cls _ ?_) (fun q hq => ?_)
    · simp only [C_QU_putAtom, hS.k (k := 15) (c := 2) (by decide), if_true, hCA.1, hn6, if_false, hS.r (k := 15) (j := 0) (v := 16) (by decide), hS.k (k := 16) (c := 103) (by decide), hS.z (show 16 < 71 by decide), show (kz 16).2 = 6 by decide, ib_i hlt (show 6 < 2 ^ 31 by decide), nI_clamp (show pA p < 2 ^ 31 by omega), hS.rA hlt, hS.oA hlt]
      refine Ev.b (P := fun q => q = (0, μ)) ?_ (fun q hq => ?_)
      · refine Ev.b (v_bindNo hS hr6 hwc v3 hbad) (fun q hq => ?_)
        subst hq
        simp only [if_true]
        exact Ev.c rfl
      · subst hq
        simp only [if_true]
        exact Ev.c rfl
    · subst hq
      refine finNo hS (ref hS hMR.1 hMA.2.1 _ (fun q => absurd q hA6) (fun _ => ?_))
      have hwm0 : mI (sI μ 56 0 0) 57 r = nI (pW p r) := by rw [rd (Or.inl (by decide))]; exact hwm
      refine v_matChk h0.1 hr6 hwm0 v3 (fun b hb hb2 => ?_) (pW p r) 0 1 (by omega) (Or.inr rfl) ⟨fun q => absurd q (by decide), fun ⟨j, hj, _⟩ => absurd hj (Nat.not_lt_zero _)⟩
      have hb0 : b = 0 := by
        refine hb2.mpr ?_
        obtain ⟨i, hi, hi2⟩ := hbad
        rcases Nat.lt_or_ge i (pW p r) with q | q
        · exact ⟨i, q, by rw [← cl_pk q v3]; exact hi2⟩
        · rw [cl_hi q v1 hi] at hi2
          exact ⟨0, by omega, hi2⟩
      subst hb0
      refine E_MO_atom_1 ?_
      simp only [B_MO_atom_1, h0.1.k (k := 56) (c := 6) (by decide), h0.1.r (k := 56) (j := 2) (v := 57) (by decide), h0.1.k (k := 57) (c := 100) (by decide), h0.1.z (show 57 < 71 by decide), show (kz 57).2 = 6 by decide, ib_i hr6 (show 6 < 2 ^ 31 by decide), nI_clamp (show r < 2 ^ 31 by omega), hwm0, nI_le (Nat.le_refl (pW p r)) (show pW p r < 2 ^ 31 by omega), if_true]
      exact Ev.c ⟨rfl, p, h0⟩
  -- it binds
  have hX8 : ∀ c, c < 3 → X c < 8 := fun c hc => (hX c hc).1
  have hXpad : ∀ c, c < 3 → pW p r ≤ c → X c = X 0 := fun c hc hwc => by
    have q1 := (hX c hc).2
    rw [cl_hi hwc v1 hc] at q1
    have q2 : x = nI (X 0) := (hX 0 (by decide)).2
    rw [q2, nI_eq (by have := hX8 0 (by decide); omega) (by have := hX8 c hc; omega)] at q1
    exact q1.symm
  generalize hX' : (fun c => if c < 3 then X c else X 0) = X'
  have hXe : ∀ c, c < 3 → X' c = X c := fun c hc => by rw [← hX']; simp [hc]
  have hvs : vsI X' = vsI X := by unfold vsI; rw [hXe 0 (by decide), hXe 1 (by decide), hXe 2 (by decide)]
  generalize hp' : ((pR p, pW p, pS p, pV p, pA p + 1, va_up (pL p) (pA p) r, va_up (pX p) (pA p) X', pH p, pD p) : Pic) = p'
  have pA' : pA p' = pA p + 1 := by rw [← hp']; rfl
  have pR' : pR p' = pR p := by rw [← hp']; rfl
  have pW' : pW p' = pW p := by rw [← hp']; rfl
  have pL' : pL p' = va_up (pL p) (pA p) r := by rw [← hp']; rfl
  have pX' : pX p' = va_up (pX p) (pA p) X' := by rw [← hp']; rfl
  have old : ∀ e, e < pA p → pL p' e = pL p e ∧ pX p' e = pX p e ∧ pvs p' e = pvs p e := fun e he => by
    have q : pX p' e = pX p e := by rw [pX']; exact va_up_ne _ _ (by omega)
    exact ⟨by rw [pL']; exact va_up_ne _ _ (by omega), q, by unfold pvs; rw [q]⟩
  have new : pL p' (pA p) = r ∧ pX p' (pA p) = X' ∧ pvs p' (pA p) = vsI X := by
    have q : pX p' (pA p) = X' := by rw [pX']; exact va_up_self _ _ _
    exact ⟨by rw [pL']; exact va_up_self _ _ _, q, by unfold pvs; rw [q]; exact hvs⟩
  have spl : ∀ e, e < pA p' → e < pA p ∨ e = pA p := fun e he => by rw [pA'] at he; omega
  have hSr := hS.sR hlt hr6
  -- the class
  refine Ev.b (P := fun q => q.1 = nI (pA p) ∧ Fr (fun a j => a = 19 + 2 * pA p ∨ (a = 18 + 2 * pA p ∧ j = 1) ∨ (a = 15 ∧ j = 1) ∨ (30 ≤ a ∧ a ≤ 33)) (sR μ (18 + 2 * pA p) 2 (3 + 2 * r)) q.2 ∧ (∀ c, c < 3 → mI q.2 (19 + 2 * pA p) c = nI (X c)) ∧ mI q.2 (18 + 2 * pA p) 1 = vsI X ∧ mI q.2 15 1 = nI (pA p + 1) ∧ HC q.2 (hangR (pA p') (pvs p') (pA p'))) (cls _ ?_) (fun q hq => ?_)
  · simp only [C_QU_putAtom, hS.k (k := 15) (c := 2) (by decide), if_true, hCA.1, hn6, if_false, hS.r (k := 15) (j := 0) (v := 16) (by decide), hS.k (k := 16) (c := 103) (by decide), hS.z (show 16 < 71 by decide), show (kz 16).2 = 6 by decide, ib_i hlt (show 6 < 2 ^ 31 by decide), nI_clamp (show pA p < 2 ^ 31 by omega), hS.rA hlt, hS.oA hlt]
    refine Ev.b (P := fun q => q.1 = 1 ∧ Fr (fun a j => a = 19 + 2 * pA p ∨ (a = 18 + 2 * pA p ∧ j = 1) ∨ (a = 15 ∧ j = 1)) (sR μ (18 + 2 * pA p) 2 (3 + 2 * r)) q.2 ∧ (∀ c, c < 3 → mI q.2 (19 + 2 * pA p) c = nI (X c)) ∧ mI q.2 (18 + 2 * pA p) 1 = vsI X ∧ mI q.2 15 1 = nI (pA p + 1)) ?_ (fun q hq => ?_)
    · refine Ev.b (v_bindYes hS hlt hr6 hwc v3 hX) (fun q hq => ?_)
      obtain ⟨q1, μ1⟩ := q
      obtain ⟨rfl, hF, b1, b2⟩ := hq
      have hs1 := hSr.fr hF
      have b3 : mI μ1 15 1 = nI (pA p) := (hF.2.2.2.1 15 1 (by omega)).trans hCA.1
      simp only [show ¬ ((1 : Int32) = 0) by decide, if_false, hs1.k (k := 15) (c := 2) (by decide), if_true, Option.bind_some, b3, nI_1]
      refine Ev.c ⟨rfl, (hF.mo (fun a j z => by omega)).i (by omega), fun c hc => ?_, ?_, mI_ss⟩
      · rw [rd (Or.inl (by omega))]; exact b1 c hc
      · rw [rd (Or.inl (by omega))]; exact b2
    · obtain ⟨q1, μ1⟩ := q
      obtain ⟨rfl, hF, b1, b2, b3⟩ := hq
      have hs1 := hSr.fr hF
      simp only [show ¬ ((1 : Int32) = 0) by decide, if_false, hs1.k (k := 1) (c := 5) (by decide), hs1.r (k := 1) (j := 3) (v := 30) (by decide), hs1.k (k := 30) (c := 3) (by decide), if_true]
      have hQ : QC μ1 (pA p') (pvs p') := by
        refine ⟨by rw [pA']; exact b3, by rw [pA']; omega, fun e he => ?_⟩
        rcases spl e he with q | q
        · rw [(old e q).2.2, hF.2.2.2.1 (18 + 2 * e) 1 (by omega)]
          exact (hCA.2 e q).2.2
        · rw [q, new.2.2]
          exact b2
      refine Ev.b (v_hang hs1 hQ) (fun μ2 h2 => ?_)
      have hs2 := hs1.fr h2.1
      have f2 := h2.1.2.2.2.1
      have b4 : mI μ2 15 1 = nI (pA p + 1) := (f2 15 1 (by unfold HP; omega)).trans b3
      simp only [hs2.k (k := 1) (c := 5) (by decide), hs2.r (k := 1) (j := 2) (v := 15) (by decide), hs2.k (k := 15) (c := 2) (by decide), if_true, b4, nI_pred]
      refine Ev.c ⟨rfl, (hF.mo (fun a j z => by omega)).tr (h2.1.mo (fun a j z => by unfold HP at z; omega)), fun c hc => ?_, ?_, b4, h2.2⟩
      · show mI μ2 _ _ = _
        rw [f2 _ _ (by unfold HP; omega)]; exact b1 c hc
      · show mI μ2 _ _ = _
        rw [f2 _ _ (by unfold HP; omega)]; exact b2
  · obtain ⟨q1, μ2⟩ := q
    obtain ⟨rfl, hF, b1, b2, b3, hH⟩ := hq
    have hs2 := hSr.fr hF
    have f := hF.2.2.2.1
    simp only [hs2.k (k := 56) (c := 6) (by decide), if_true]
    refine Ev.b (P := fun q => q.1 = nI (pA p) ∧ Gd q.2) ?_ (fun q hq => ?_)
    · have c1 : mI μ2 56 1 = nI (pR p) := (f 56 1 (by omega)).trans hMR.1
      have c5 : mI μ2 56 5 = nI (pA p) := (f 56 5 (by omega)).trans hMA.2.1
      have c57 : ∀ r, r < pR p → mI μ2 57 r = nI (pW p r) := fun r hr => (f 57 r (by omega)).trans (hMA.1 r hr)
      refine ref hs2 c1 c5 _ (fun q => absurd q hA6) (fun _ => ?_)
      have hF0 : Fr (fun a j => a = 56 ∧ j = 0) μ2 (sI μ2 56 0 0) := Fr.rf.i ⟨rfl, rfl⟩
      have hs3 := hs2.fr hF0
      have c57' : mI (sI μ2 56 0 0) 57 r = nI (pW p r) := by rw [rd (Or.inl (by decide))]; exact c57 r hr
      have c5' : mI (sI μ2 56 0 0) 56 5 = nI (pA p) := by rw [rd (Or.inr (by decide))]; exact c5
      generalize sI μ2 56 0 0 = μ3 at hF0 hs3 c57' c5'
      refine v_matChk hs3 hr6 c57' v3 (fun b hb hb2 => ?_) (pW p r) 0 1 (by omega) (Or.inr rfl) ⟨fun q => absurd q (by decide), fun ⟨j, hj, _⟩ => absurd hj (Nat.not_lt_zero _)⟩
      have hb1 : b = 1 := by
        refine hb.resolve_left (fun q => ?_)
        obtain ⟨i, hi, hi2⟩ := hb2.mp q
        rw [← cl_pk hi v3] at hi2
        exact not_both (by decide) (hX i (by omega)).1 hi2 (hX i (by omega)).2
      subst hb1
      refine E_MO_atom_1 ?_
      simp only [B_MO_atom_1, hs3.k (k := 56) (c := 6) (by decide), hs3.r (k := 56) (j := 2) (v := 57) (by decide), hs3.k (k := 57) (c := 100) (by decide), hs3.z (show 57 < 71 by decide), show (kz 57).2 = 6 by decide, ib_i hr6 (show 6 < 2 ^ 31 by decide), nI_clamp (show r < 2 ^ 31 by omega), c57', nI_le (Nat.le_refl (pW p r)) (show pW p r < 2 ^ 31 by omega), if_true, show ¬ ((1 : Int32) = 0) by decide, if_false, hs3.r (k := 56) (j := 6) (v := 60) (by decide), hs3.k (k := 60) (c := 100) (by decide), hs3.z (show 60 < 71 by decide), show (kz 60).2 = 6 by decide, c5', ib_i hlt (show 6 < 2 ^ 31 by decide), nI_clamp (show pA p < 2 ^ 31 by omega), Option.bind_some]
      have hF4 : Fr (fun a j => a = 60 ∧ j = pA p) μ3 (sI μ3 60 (pA p) (nI r)) := Fr.rf.i ⟨rfl, rfl⟩
      refine v_matPut hr6 hlt v3 (sI μ3 60 (pA p) (nI r)) (fun μ5 hF5 d1 d2 d3 => ⟨rfl, p', ?_⟩) (pW p r) 0 _ (by omega) (hs3.fr hF4) (by rw [rd (Or.inl (by decide))]; exact c57') (by rw [rd (Or.inl (by decide))]; exact c5') Fr.rf (fun j hj => absurd hj (Nat.not_lt_zero _))
      have d0 : mI μ5 60 (pA p) = nI r := by
        rw [hF5.2.2.2.1 60 _ (by omega)]
        exact mI_ss
      -- all writes together
      have hG : Fr (fun a j => a = 19 + 2 * pA p ∨ (a = 18 + 2 * pA p ∧ j = 1) ∨ (a = 15 ∧ j = 1) ∨ (30 ≤ a ∧ a ≤ 33) ∨ (a = 56 ∧ (j = 0 ∨ j = 5 ∨ j = 13)) ∨ (a = 60 ∧ j = pA p) ∨ (a = 61 ∧ 3 * pA p ≤ j)) (sR μ (18 + 2 * pA p) 2 (3 + 2 * r)) μ5 := (((hF.mo (fun a j z => by omega)).tr (hF0.mo (fun a j z => by omega))).tr (hF4.mo (fun a j z => by omega))).tr (hF5.mo (fun a j z => by omega))
      have hG2 : Fr (fun a j => (a = 56 ∧ (j = 0 ∨ j = 5 ∨ j = 13)) ∨ a = 60 ∨ a = 61) μ2 μ5 := ((hF0.mo (fun a j z => by omega)).tr (hF4.mo (fun a j z => by omega))).tr (hF5.mo (fun a j z => by omega))
      have g := hG.2.2.2.1
      have g2 := hG2.2.2.2.1
      have hcr : CR (sR μ (18 + 2 * pA p) 2 (3 + 2 * r)) p' := by
        rw [← hp']
        exact hCR
      have hch : CH (sR μ (18 + 2 * pA p) 2 (3 + 2 * r)) p' := by
        rw [← hp']
        exact hCH
      have hmr : MR (sR μ (18 + 2 * pA p) 2 (3 + 2 * r)) p' := by
        rw [← hp']
        exact hMR
      have hmd : MD (sR μ (18 + 2 * pA p) 2 (3 + 2 * r)) p' := by
        rw [← hp']
        exact hMD
      have hvi : VI (sR μ (18 + 2 * pA p) 2 (3 + 2 * r)) := hVI
      have hwf : WF p' := by
        refine ⟨⟨by rw [pR']; exact w1, fun r hr => ?_, by rw [pA']; omega, fun e he => ?_⟩, ?_⟩
        · rw [pW']; exact w2 r (by rw [← pR']; exact hr)
        · rw [pR', pW']
          rcases spl e he with q | q
          · rw [(old e q).1, (old e q).2.1]
            exact w4 e q
          · rw [q, new.1, new.2.1]
            refine ⟨hr, fun c hc => by rw [hXe c hc]; exact hX8 c hc, fun c hc => ?_⟩
            rw [hXe 0 (by decide)]
            by_cases h3 : c < 3
            · rw [hXe c h3]; exact hXpad c h3 hc
            · rw [← hX']; simp [h3]
        · rw [← hp']
          exact ⟨w5, w6, w7, w8, w9, w10, w11⟩
      refine ⟨hSr.fr hG, hwf, hcr.fr hG (fun a j z => by omega) hwf.1.1, ⟨?_, fun e he => ?_⟩, hch.fr hG (fun a j z => by omega), ?_, ⟨fun r' hr' => ?_, ?_, fun e he => ?_⟩, hmr.fr hG (fun a j z => by omega), hmd.fr hG (fun a j z => by omega), hvi.fr hG (fun a j z => by omega), Or.inl d3⟩
      · rw [pA', g2 15 1 (by omega)]; exact b3
      · rcases spl e he with q | q
        · rw [(old e q).1, (old e q).2.1, (old e q).2.2, hG.2.2.1, rdR (Or.inl (by omega)), g _ _ (by omega)]
          refine ⟨(hCA.2 e q).1, fun c hc => ?_, (hCA.2 e q).2.2⟩
          rw [g _ _ (by omega)]
          exact (hCA.2 e q).2.1 c hc
        · rw [q, new.1, new.2.1, new.2.2, hG.2.2.1, g2 _ _ (by omega)]
          refine ⟨mR_ss, fun c hc => ?_, b2⟩
          rw [g2 _ _ (by omega), hXe c hc]
          exact b1 c hc
      · exact (HC.w hH hwf.1.2.2.1).fr hG2 (fun a j z => by omega)
      · rw [pW', g _ _ (by omega)]
        exact hMA.1 r' (by rw [← pR']; exact hr')
      · rw [pA']; exact d2
      · rw [pW']
        rcases spl e he with q | q
        · rw [(old e q).1, (old e q).2.1, g _ _ (by omega)]
          refine ⟨(hMA.2.2 e q).1, fun i hi => ?_⟩
          have := (w2 _ (w4 e q).1).2
          rw [g _ _ (by omega)]
          exact (hMA.2.2 e q).2 i hi
        · rw [q, new.1, new.2.1]
          refine ⟨d0, fun i hi => ?_⟩
          rw [d1 i hi, ← cl_pk hi v3, hXe i (by omega)]
          exact (hX i (by omega)).2
    · simp only [hq.1, if_true]
      exact Ev.c hq.2
