/-! A row less, both sides -/
/-- the reference's moving of the last row -/
theorem v_mdrop {G : Int32 × Mem → Prop} {r k N : Nat} (hr : r < 6) (hk : k ≤ N) (hN : N < 12) (ν : Mem) (kk : ∀ μ', Fr (fun a j => (a = 59 ∧ 36 * r + 3 * k ≤ j ∧ j < 36 * r + 3 * k + 3) ∨ (a = 56 ∧ j = 13)) ν μ' → (∀ i, i < 3 → mI μ' 59 (36 * r + 3 * k + i) = mI ν 59 (36 * r + 3 * N + i)) → mI μ' 56 13 = 0 → G (1, μ')) : ∀ (d i : Nat) (μ : Mem), i + d = 3 → Sh μ → mI μ 58 r = nI N → Fr (fun a j => (a = 59 ∧ 36 * r + 3 * k ≤ j ∧ j < 36 * r + 3 * k + i) ∨ (a = 56 ∧ j = 13)) ν μ → (∀ j, j < i → mI μ 59 (36 * r + 3 * k + j) = mI ν 59 (36 * r + 3 * N + j)) → Ev (fun n => F_MO_drop n 2 56 (nI r) 0 0 0 (nI k) (nI i) 0 μ) G := by
  intro d
  induction d with
  | zero =>
    intro i μ hi hS hA hF hx
    have : i = 3 := by omega
    subst this
    refine E_MO_drop_2 ?_
    simp only [B_MO_drop_2, n3, if_true, hS.k (k := 56) (c := 6) (by decide), Option.bind_some]
    refine Ev.c (kk _ (hF.i (by omega)) (fun j hj => ?_) mI_ss)
    rw [rd (Or.inl (by decide))]
    exact hx j hj
  | succ d ih =>
    intro i μ hi hS hA hF hx
    have hlt : i < 3 := by omega
    have h3 : (36 : Int32) * nI r + 3 * nI N + nI i = nI (36 * r + 3 * N + i) := by rw [show (3 : Int32) = nI 3 from rfl, show (36 : Int32) = nI 36 from rfl, pk_mul, pk_mul, nI_add, nI_add]
    have h4 : (36 : Int32) * nI r + 3 * nI k + nI i = nI (36 * r + 3 * k + i) := by rw [show (3 : Int32) = nI 3 from rfl, show (36 : Int32) = nI 36 from rfl, pk_mul, pk_mul, nI_add, nI_add]
    refine E_MO_drop_2 ?_
    simp only [B_MO_drop_2, n3c hlt, if_false, hS.k (k := 56) (c := 6) (by decide), if_true, hS.r (k := 56) (j := 4) (v := 59) (by decide), hS.k (k := 59) (c := 100) (by decide), hS.r (k := 56) (j := 3) (v := 58) (by decide), hS.k (k := 58) (c := 100) (by decide), hS.z (show 58 < 71 by decide), show (kz 58).2 = 6 by decide, ib_i hr (show 6 < 2 ^ 31 by decide), nI_clamp (show r < 2 ^ 31 by omega), hA, h3, h4, hS.z (show 59 < 71 by decide), show (kz 59).2 = 216 by decide, ib_i (show 36 * r + 3 * N + i < 216 by omega) (show 216 < 2 ^ 31 by decide), ib_i (show 36 * r + 3 * k + i < 216 by omega) (show 216 < 2 ^ 31 by decide), nI_clamp (show 36 * r + 3 * N + i < 2 ^ 31 by omega), nI_clamp (show 36 * r + 3 * k + i < 2 ^ 31 by omega), Option.bind_some, nI_1]
    have hv : mI μ 59 (36 * r + 3 * N + i) = mI ν 59 (36 * r + 3 * N + i) := hF.2.2.2.1 59 _ (by omega)
    have hF1 : Fr (fun a j => (a = 59 ∧ 36 * r + 3 * k ≤ j ∧ j < 36 * r + 3 * k + (i + 1)) ∨ (a = 56 ∧ j = 13)) μ (sI μ 59 (36 * r + 3 * k + i) (mI μ 59 (36 * r + 3 * N + i))) := Fr.rf.i (by omega)
    refine ih (i + 1) _ (by omega) (hS.fr hF1) ?_ ((hF.mo (fun a j z => by omega)).tr hF1) (fun j hj => ?_)
    · rw [rd (Or.inl (by decide))]; exact hA
    · rw [mI_g]
      by_cases hj2 : j = i
      · rw [if_pos ⟨rfl, by omega⟩, hj2]
        exact hv
      · rw [if_neg (fun z => by omega)]
        exact hx j (by omega)
theorem t_2 {μ : Mem} {p : Pic} {i4 : Int32} {L : Nat} {xs : Nat → Int32} (h : Inv μ p) (hI : Ix i4 L) : Ev (fun n => T_2 n 1 56 70 i4 L xs μ) Gd := by
  obtain ⟨i1, i2, i3, i4'⟩ := hI
  have hinv := h
  have hS := h.1
  have hWF := h.2.1
  obtain ⟨-, -, hCR, hCA, hCH, hCG, hMA, hMR, hMD, hVI, hKn⟩ := h
  obtain ⟨⟨w1, w2, w3, w4⟩, w5, w6, w7, w8, w9, w10, w11⟩ := id hWF
  have h0 : Inv (sI μ 56 0 0) p := hinv.sc (Or.inr (Or.inl ⟨rfl, Or.inl rfl⟩))
  simp only [T_2, i1, i2, i3, i4', hS.k (k := 1) (c := 5) (by decide), if_true]
  generalize xs (Int32.toNatClampNeg (i4 + 1)) = a
  generalize xs (Int32.toNatClampNeg (i4 + 2)) = x
  generalize xs (Int32.toNatClampNeg (i4 + 3)) = y
  generalize xs (Int32.toNatClampNeg (i4 + 4)) = z
  have finNo : Ev (fun n => C_MO_drop n 56 a x y z μ) (fun q => q.1 = 0 ∧ Gd q.2) → Ev (fun n => if ok μ 56 6 = true then Option.bind (C_MO_drop n 56 a x y z μ) (fun q12 => if (0 : Int32) = q12.1 then some q12.2 else none) else none) Gd := fun hr => by
    simp only [hS.k (k := 56) (c := 6) (by decide), if_true]
    refine Ev.b hr (fun q hq => ?_)
    simp only [hq.1, if_true]
    exact Ev.c hq.2
  rcases in_or (x := a) (pR p) (by omega) with ha | ⟨r, hr, rfl⟩
  · refine Ev.b (P := fun q => q = (0, μ)) ?_ (fun q hq => ?_)
    · simp only [C_JL_drop, hS.k (k := 1) (c := 5) (by decide), if_true, hCR.1, v_bo ha, Option.bind_some]
      exact Ev.c rfl
    · subst hq
      refine finNo ?_
      unfold C_MO_drop
      refine E_MO_drop_0 ?_
      simp only [B_MO_drop_0, hS.k (k := 56) (c := 6) (by decide), if_true, Option.bind_some, v_ro h0.1 h0.2.2.2.2.2.2.2.1.1 ha]
      refine E_MO_drop_1 ?_
      simp only [B_MO_drop_1, show ¬ ((0 : Int32) ≤ -1) by decide, if_false]
      exact Ev.c ⟨rfl, p, h0⟩
  have hr6 : r < 6 := by omega
  obtain ⟨v1, v3⟩ := w2 r hr
  have hwc := hCR.2.2 r hr
  have hwm := hMA.1 r hr
  have hRel := hCR.2.1 r hr6
  have hsz := w5 r
  -- where the class finds it
  obtain ⟨o, hPl, row, hpack, hplace⟩ : ∃ o, Pl (pS p r) (mt (pV p r) (pW p r) x y z) o ∧ ∃ row, EvO (fun n => C_RE_pack n (3 + 2 * r) x y z μ) (some (row, μ)) ∧ EvO (fun n => C_RE_placeOf n (3 + 2 * r) row μ) (some (enc o, μ)) := by
    rcases in3 (pW p r) x y z 16 (by decide) with hbad | ⟨X, hX⟩
    · obtain ⟨o, q1, -, q2⟩ := v_cplace hS hr6 hRel hbad
      exact ⟨o, q1, -1, v_packNo hS hr6 hwc v3 hbad, q2⟩
    · obtain ⟨o, q1, q2⟩ := v_cplace2 hS hr6 hRel hX
      exact ⟨o, q1, _, v_packYes hS hr6 hwc v3 hX, q2⟩
  have cls : ∀ (Q : Int32 × Mem → Prop), Ev (fun n => Option.bind (C_RE_take n (3 + 2 * r) x y z μ) (fun q7 => if q7.1 = 0 then some (0, q7.2) else some (1, q7.2))) Q → Ev (fun n => C_JL_drop n 1 (nI r) x y z μ) Q := by
    intro Q hk
    simp only [C_JL_drop, hS.k (k := 1) (c := 5) (by decide), if_true, hCR.1, v_bi hr (show pR p < 2 ^ 31 by omega), Option.bind_some, show ¬ ((1 : Int32) = 0) by decide, if_false, hS.r (k := 1) (j := 0) (v := 2) (by decide), hS.k (k := 2) (c := 102) (by decide), hS.z (show 2 < 71 by decide), show (kz 2).2 = 6 by decide, ib_i hr6 (show 6 < 2 ^ 31 by decide), nI_clamp (show r < 2 ^ 31 by omega), hS.rR hr6, hS.oR hr6]
    exact hk
  have ref : ∀ {μ1 : Mem} (hs : Sh μ1) (e1 : mI μ1 56 1 = nI (pR p)) (e57 : mI μ1 57 r = nI (pW p r)) (e58 : mI μ1 58 r = nI (pS p r)) (e59 : ∀ k, k < pS p r → ∀ i, i < pW p r → mI μ1 59 (36 * r + 3 * k + i) = nI (pV p r k i)) (Q : Int32 × Mem → Prop), Ev (fun n => F_MO_drop n 1 56 (nI r) 0 0 0 0 0 (enc o) (sI μ1 56 0 0)) Q → Ev (fun n => C_MO_drop n 56 (nI r) x y z μ1) Q := by
    intro μ1 hs e1 e57 e58 e59 Q k2
    have hF : Fr (fun a j => a = 56 ∧ j = 0) μ1 (sI μ1 56 0 0) := Fr.rf.i ⟨rfl, rfl⟩
    have hs1 := hs.fr hF
    have e1' : mI (sI μ1 56 0 0) 56 1 = nI (pR p) := by rw [rd (Or.inr (by decide))]; exact e1
    have e57' : mI (sI μ1 56 0 0) 57 r = nI (pW p r) := by rw [rd (Or.inl (by decide))]; exact e57
    have e58' : mI (sI μ1 56 0 0) 58 r = nI (pS p r) := by rw [rd (Or.inl (by decide))]; exact e58
    have e59' : ∀ k, k < pS p r → ∀ i, i < pW p r → mI (sI μ1 56 0 0) 59 (36 * r + 3 * k + i) = nI (pV p r k i) := fun k hk i hi => by rw [rd (Or.inl (by decide))]; exact e59 k hk i hi
    unfold C_MO_drop
    refine E_MO_drop_0 ?_
    simp only [B_MO_drop_0, hs.k (k := 56) (c := 6) (by decide), if_true, Option.bind_some, v_ri hs1 e1' hr (show pR p < 2 ^ 31 by omega), show ¬ ((1 : Int32) = 0) by decide, if_false, hs1.k (k := 56) (c := 6) (by decide)]
    refine Ev.b (v_mplace hs1 hr6 v1 v3 e57' e58' hsz e59' (fun k hk => (w7 r hr k hk).2)) (fun q hq => ?_)
    obtain ⟨q1, q2⟩ := q
    obtain ⟨rfl, o', ho', hP⟩ := hq
    have ho' : q1 = enc o' := ho'
    subst ho'
    rw [Pl.u (mt_u hWF hr) hP hPl]
    exact k2
  rcases hPl with ⟨rfl, hno⟩ | ⟨k, rfl, hk, hm⟩
  · -- there is none
    refine Ev.b (P := fun q => q = (0, μ)) (cls _ ?_) (fun q hq => ?_)
    · refine Ev.b (P := fun q => q = (0, μ)) ?_ (fun q hq => ?_)
      · simp only [C_RE_take, hS.oR hr6, if_true]
        refine Ev.o hpack ?_
        simp only [hS.oR hr6, if_true]
        refine Ev.o hplace ?_
        simp only [enc, if_true]
        exact Ev.c rfl
      · subst hq
        simp only [if_true]
        exact Ev.c rfl
    · subst hq
      refine finNo (ref hS hMR.1 hwm (hMR.2.1 r hr6) (hMR.2.2 r hr) _ ?_)
      refine E_MO_drop_1 ?_
      simp only [B_MO_drop_1, enc, show ¬ ((0 : Int32) ≤ -1) by decide, if_false]
      exact Ev.c ⟨rfl, p, h0⟩
  -- it goes
  obtain ⟨N, hN⟩ : ∃ N, pS p r = N + 1 := ⟨pS p r - 1, by omega⟩
  have hkN : k ≤ N := by omega
  have hne : ¬ (nI k = -1) := fun q => by
    have := nI_pos (n := k) (by omega)
    rw [q] at this
    exact this (by decide)
  generalize hp' : ((pR p, pW p, va_up (pS p) r N, va_up (pV p) r (va_up (pV p r) k (pV p r N)), pA p, pL p, pX p, pH p, pD p) : Pic) = p'
  have pR' : pR p' = pR p := by rw [← hp']; rfl
  have pW' : pW p' = pW p := by rw [← hp']; rfl
  have pS' : pS p' = va_up (pS p) r N := by rw [← hp']; rfl
  have pV' : pV p' = va_up (pV p) r (va_up (pV p r) k (pV p r N)) := by rw [← hp']; rfl
  have oS : ∀ r', r' ≠ r → pS p' r' = pS p r' ∧ pV p' r' = pV p r' := fun r' q => by rw [pS', pV']; exact ⟨va_up_ne _ _ q, va_up_ne _ _ q⟩
  have nS : pS p' r = N := by rw [pS']; exact va_up_self _ _ _
  have nV : pV p' r = va_up (pV p r) k (pV p r N) := by rw [pV']; exact va_up_self _ _ _
  -- each row that is left is an old one, and no two are the same
  have from' : ∀ j, j < N → ∃ j', j' < pS p r ∧ pV p' r j = pV p r j' ∧ (j ≠ k → j' = j) ∧ (j = k → j' = N) := fun j hj => by
    by_cases q : j = k
    · exact ⟨N, by omega, by rw [nV, q]; exact va_up_self _ _ _, fun q2 => absurd q q2, fun _ => rfl⟩
    · exact ⟨j, by omega, by rw [nV]; exact va_up_ne _ _ q, fun _ => rfl, fun q2 => absurd q2 q⟩
  refine Ev.b (P := fun q => q = (1, sI (sI μ (3 + 2 * r) 2 (nI N)) (4 + 2 * r) k (mI μ (4 + 2 * r) N))) (cls _ ?_) (fun q hq => ?_)
  · refine Ev.b (P := fun q => q = (1, sI (sI μ (3 + 2 * r) 2 (nI N)) (4 + 2 * r) k (mI μ (4 + 2 * r) N))) ?_ (fun q hq => ?_)
    · simp only [C_RE_take, hS.oR hr6, if_true]
      refine Ev.o hpack ?_
      simp only [hS.oR hr6, if_true]
      refine Ev.o hplace ?_
      simp only [enc, hne, if_false, if_true, hS.oR hr6, hRel.1, hN, nI_pred, Option.bind_some, ok_sI, mR_sI, mZ_sI, hS.rP hr6, hS.oP hr6, hS.zP hr6, mI_ss, ib_i (show N < 12 by omega) (show 12 < 2 ^ 31 by decide), ib_i (show k < 12 by omega) (show 12 < 2 ^ 31 by decide), nI_clamp (show N < 2 ^ 31 by omega), nI_clamp (show k < 2 ^ 31 by omega), rd (show 4 + 2 * r ≠ 3 + 2 * r ∨ N ≠ 2 from Or.inl (by omega))]
      exact Ev.c rfl
    · subst hq
      simp only [show ¬ ((1 : Int32) = 0) by decide, if_false]
      exact Ev.c rfl
  · subst hq
    have hF1 : Fr (fun a j => (a = 4 + 2 * r ∧ j = k) ∨ (a = 3 + 2 * r ∧ j = 2)) μ (sI (sI μ (3 + 2 * r) 2 (nI N)) (4 + 2 * r) k (mI μ (4 + 2 * r) N)) := (Fr.rf.i (Or.inr ⟨rfl, rfl⟩)).i (Or.inl ⟨rfl, rfl⟩)
    have b1 : mI (sI (sI μ (3 + 2 * r) 2 (nI N)) (4 + 2 * r) k (mI μ (4 + 2 * r) N)) (3 + 2 * r) 2 = nI N := by
      rw [rd (Or.inl (by omega))]
      exact mI_ss
    have b2 : mI (sI (sI μ (3 + 2 * r) 2 (nI N)) (4 + 2 * r) k (mI μ (4 + 2 * r) N)) (4 + 2 * r) k = mI μ (4 + 2 * r) N := mI_ss
    generalize (sI (sI μ (3 + 2 * r) 2 (nI N)) (4 + 2 * r) k (mI μ (4 + 2 * r) N)) = μ1 at hF1 b1 b2
    have hs1 := hS.fr hF1
    have f1 := hF1.2.2.2.1
    simp only [hs1.k (k := 56) (c := 6) (by decide), if_true]
    refine Ev.b (P := fun q => q.1 = 1 ∧ Gd q.2) ?_ (fun q hq => ?_)
    · have e58 : mI μ1 58 r = nI (pS p r) := (f1 58 r (by omega)).trans (hMR.2.1 r hr6)
      have e59 : ∀ k, k < pS p r → ∀ i, i < pW p r → mI μ1 59 (36 * r + 3 * k + i) = nI (pV p r k i) := fun k hk i hi => (f1 59 _ (by omega)).trans (hMR.2.2 r hr k hk i hi)
      refine ref hs1 ((f1 56 1 (by omega)).trans hMR.1) ((f1 57 r (by omega)).trans hwm) e58 e59 _ ?_
      have hF0 : Fr (fun a j => a = 56 ∧ j = 0) μ1 (sI μ1 56 0 0) := Fr.rf.i ⟨rfl, rfl⟩
      have hs3 := hs1.fr hF0
      have c58' : mI (sI μ1 56 0 0) 58 r = nI (N + 1) := by rw [rd (Or.inl (by decide)), e58, hN]
      have c59' : ∀ k, k < pS p r → ∀ i, i < pW p r → mI (sI μ1 56 0 0) 59 (36 * r + 3 * k + i) = nI (pV p r k i) := fun k hk i hi => by rw [rd (Or.inl (by decide))]; exact e59 k hk i hi
      generalize sI μ1 56 0 0 = μ3 at hF0 hs3 c58' c59'
      refine E_MO_drop_1 ?_
      simp only [B_MO_drop_1, enc, nI_pos' (show k < 2 ^ 31 by omega), if_true, hs3.k (k := 56) (c := 6) (by decide), hs3.r (k := 56) (j := 3) (v := 58) (by decide), hs3.k (k := 58) (c := 100) (by decide), hs3.z (show 58 < 71 by decide), show (kz 58).2 = 6 by decide, ib_i hr6 (show 6 < 2 ^ 31 by decide), nI_clamp (show r < 2 ^ 31 by omega), c58', nI_pred, Option.bind_some]
      have hF4 : Fr (fun a j => a = 58 ∧ j = r) μ3 (sI μ3 58 r (nI N)) := Fr.rf.i ⟨rfl, rfl⟩
      have c58 : mI (sI μ3 58 r (nI N)) 58 r = nI N := mI_ss
      have c59 : ∀ k, k < pS p r → ∀ i, i < pW p r → mI (sI μ3 58 r (nI N)) 59 (36 * r + 3 * k + i) = nI (pV p r k i) := fun k hk i hi => by rw [rd (Or.inl (by decide))]; exact c59' k hk i hi
      generalize sI μ3 58 r (nI N) = μ4 at hF4 c58 c59
      refine v_mdrop hr6 hkN (by omega) μ4 (fun μ5 hF5 d1 d3 => ⟨rfl, p', ?_⟩) 3 0 μ4 (by omega) (hs3.fr hF4) c58 Fr.rf (fun j hj => absurd hj (Nat.not_lt_zero _))
      have d2 : mI μ5 58 r = nI N := (hF5.2.2.2.1 58 r (by omega)).trans c58
      have hG : Fr (fun a j => (a = 4 + 2 * r ∧ j = k) ∨ (a = 3 + 2 * r ∧ j = 2) ∨ (a = 56 ∧ (j = 0 ∨ j = 13)) ∨ (a = 58 ∧ j = r) ∨ (a = 59 ∧ 36 * r + 3 * k ≤ j ∧ j < 36 * r + 3 * k + 3)) μ μ5 := (((hF1.mo (fun a j z => by omega)).tr (hF0.mo (fun a j z => by omega))).tr (hF4.mo (fun a j z => by omega))).tr (hF5.mo (fun a j z => by omega))
      have hG2 : Fr (fun a j => (a = 56 ∧ (j = 0 ∨ j = 13)) ∨ a = 58 ∨ a = 59) μ1 μ5 := ((hF0.mo (fun a j z => by omega)).tr (hF4.mo (fun a j z => by omega))).tr (hF5.mo (fun a j z => by omega))
      have g := hG.2.2.2.1
      have g2 := hG2.2.2.2.1
      have hca : CA μ p' := by rw [← hp']; exact hCA
      have hch : CH μ p' := by rw [← hp']; exact hCH
      have hcg : CG μ p' := by rw [← hp']; exact hCG
      have hma : MA μ p' := by rw [← hp']; exact hMA
      have hmd : MD μ p' := by rw [← hp']; exact hMD
      have hwf : WF p' := by
        refine ⟨by rw [← hp']; exact ⟨w1, w2, w3, w4⟩, fun r' => ?_, fun r' hr' => ?_, fun r' hr' j hj => ?_, fun r' j j' hj hj' hh => ?_, by rw [← hp']; exact ⟨w9, w10, w11⟩⟩
        · by_cases q : r' = r
          · rw [q, nS]; omega
          · rw [(oS r' q).1]; exact w5 r'
        · rw [pR'] at hr'
          rw [(oS r' (by omega)).1]
          exact w6 r' hr'
        · rw [pR'] at hr'
          rw [pW']
          by_cases q : r' = r
          · subst q
            rw [nS] at hj
            obtain ⟨j', q1, q2, -, -⟩ := from' j hj
            rw [q2]
            exact w7 r' hr j' q1
          · rw [(oS r' q).1] at hj
            rw [(oS r' q).2]
            exact w7 r' hr' j hj
        · by_cases q : r' = r
          · subst q
            rw [nS] at hj hj'
            obtain ⟨a1, a2, a3, a4, a5⟩ := from' j hj
            obtain ⟨b1, b2, b3, b4, b5⟩ := from' j' hj'
            rw [a3, b3] at hh
            have he := w8 r' a1 b1 a2 b2 hh
            by_cases qk : j = k <;> by_cases qk' : j' = k
            · omega
            · have := a5 qk; have := b4 qk'; omega
            · have := a4 qk; have := b5 qk'; omega
            · have := a4 qk; have := b4 qk'; omega
          · rw [(oS r' q).1] at hj hj'
            rw [(oS r' q).2] at hh
            exact w8 r' j j' hj hj' hh
      refine ⟨hS.fr hG, hwf, ⟨by rw [pR', g 1 1 (by omega)]; exact hCR.1, fun r' hr' => ?_, fun r' hr' => ?_⟩, hca.fr hG (fun a j z => by omega) hwf.1.2.2.1, hch.fr hG (fun a j z => by omega), hcg.fr hG (fun a j z => by omega), hma.fr hG (fun j => by omega) (by omega), ⟨by rw [pR', g 56 1 (by omega)]; exact hMR.1, fun r' hr' => ?_, fun r' hr' j hj i hi => ?_⟩, hmd.fr hG (fun a j z => by omega), hVI.fr hG (fun a j z => by omega), Or.inl d3⟩
      · by_cases q : r' = r
        · subst q
          refine ⟨by rw [nS, g2 _ _ (by omega)]; exact b1, by rw [nS]; omega, fun j hj => ?_⟩
          rw [nS] at hj
          obtain ⟨j', q1, q2, q3, q4⟩ := from' j hj
          rw [q2]
          by_cases qk : j = k
          · rw [g2 _ _ (by omega), qk, b2, q4 qk]
            exact hRel.2.2 N (by omega)
          · rw [g _ _ (by omega), q3 qk]
            exact hRel.2.2 j (by omega)
        · rw [(oS r' q).1, (oS r' q).2]
          obtain ⟨c1, c2, c3⟩ := hCR.2.1 r' hr'
          exact ⟨(g _ _ (by omega)).trans c1, c2, fun k hk => ⟨(g _ _ (by omega)).trans (c3 k hk).1, (c3 k hk).2⟩⟩
      · rw [pW', g _ _ (by omega)]
        exact hCR.2.2 r' (by rw [← pR']; exact hr')
      · by_cases q : r' = r
        · subst q
          rw [nS]; exact d2
        · rw [(oS r' q).1, g _ _ (by omega)]
          exact hMR.2.1 r' hr'
      · rw [pR'] at hr'
        rw [pW'] at hi
        have hi3 := (w2 r' hr').2
        by_cases q : r' = r
        · subst q
          rw [nS] at hj
          obtain ⟨j', q1, q2, q3, q4⟩ := from' j hj
          rw [q2]
          by_cases qk : j = k
          · rw [qk, d1 i (by omega), q4 qk]
            exact c59 N (by omega) i hi
          · rw [g _ _ (by omega), q3 qk]
            exact hMR.2.2 r' hr' j (by omega) i hi
        · rw [(oS r' q).1] at hj
          have := w5 r'
          rw [(oS r' q).2, g _ _ (by omega)]
          exact hMR.2.2 r' hr' j hj i hi
    · simp only [hq.1, if_true]
      exact Ev.c hq.2
