/-! The reference's answers -/
theorem cnt_le {p : Pic} : ∀ a, cntA p a ≤ a
  | 0 => Nat.le_refl _
  | a + 1 => by
    rw [cntA_s]
    have := cnt_le (p := p) a
    by_cases h : isAns p a
    · rw [ind_t h]; omega
    · rw [ind_f h]; omega
theorem v_mcode {μ : Mem} {p : Pic} (h : Inv μ p) : Ev (fun n => C_MO_codeOfAnswers n 56 μ) (fun q => Inv q.2 p ∧ Fr RP μ q.2 ∧ ((¬ tree p ∧ q.1 = 1) ∨ (tree p ∧ ¬ bound p ∧ q.1 = 2) ∨ (tree p ∧ bound p ∧ 64 < cntA p 65536 ∧ q.1 = 3) ∨ (tree p ∧ bound p ∧ cntA p 65536 ≤ 64 ∧ q.1 = 0 ∧ mI q.2 56 19 = nI (cntA p 65536) ∧ ∀ a, a < 65536 → isAns p a → cntA p a < 64 → mI q.2 69 (cntA p a) = nI a))) := by
  simp only [C_MO_codeOfAnswers, h.1.k (k := 56) (c := 6) (by decide), if_true]
  refine Ev.b (v_misTree h) (fun q hq => ?_)
  obtain ⟨q1, μ1⟩ := q
  obtain ⟨hi, hF, ⟨rfl, ht⟩ | ⟨rfl, ht⟩⟩ := hq
  · simp only [show ¬ ((1 : Int32) = 0) by decide, if_false, hi.1.k (k := 56) (c := 6) (by decide), if_true]
    refine Ev.b (v_mhead hi) (fun q hq => ?_)
    obtain ⟨q1, μ2⟩ := q
    obtain ⟨rfl, ⟨rfl, hb⟩ | ⟨rfl, hb⟩⟩ := hq
    · simp only [show ¬ ((1 : Int32) = 0) by decide, if_false, hi.1.k (k := 56) (c := 6) (by decide), if_true]
      refine Ev.b (v_lookR hi) (fun μ3 h3 => ?_)
      have hk := (h3.1.kn.kn h3.2.1).2.2 hb
      have hc := cnt_le (p := p) 65536
      have h64 : (nI (cntA p 65536) ≤ 64) ↔ cntA p 65536 ≤ 64 := nI_leI (b := 64) (by omega) (by decide)
      simp only [h3.1.1.k (k := 56) (c := 6) (by decide), if_true, hk.1]
      refine Ev.i (fun hl => Ev.c ⟨h3.1, hF.tr h3.2.2.1, Or.inr (Or.inr (Or.inr ⟨ht, hb, h64.mp hl, rfl, hk⟩))⟩) (fun hl => Ev.c ⟨h3.1, hF.tr h3.2.2.1, Or.inr (Or.inr (Or.inl ⟨ht, hb, Nat.lt_of_not_le (fun z => hl (h64.mpr z)), rfl⟩))⟩)
    · simp only [if_true]
      exact Ev.c ⟨hi, hF, Or.inr (Or.inl ⟨ht, hb, rfl⟩)⟩
  · simp only [if_true]
    exact Ev.c ⟨hi, hF, Or.inl ⟨ht, rfl⟩⟩
theorem v_manswers {μ : Mem} {p : Pic} (h : Inv μ p) : Ev (fun n => C_MO_answers n 56 μ) (fun q => Inv q.2 p ∧ Fr RP μ q.2 ∧ ((¬ tree p ∧ mI q.2 56 0 = 1) ∨ (tree p ∧ ¬ bound p ∧ mI q.2 56 0 = 2) ∨ (tree p ∧ bound p ∧ 64 < cntA p 65536 ∧ mI q.2 56 0 = 3) ∨ (tree p ∧ bound p ∧ cntA p 65536 ≤ 64 ∧ mI q.2 56 0 = 0 ∧ q.1 = nI (cntA p 65536)))) := by
  simp only [C_MO_answers, h.1.k (k := 56) (c := 6) (by decide), if_true]
  refine Ev.b (v_mcode h) (fun q hq => ?_)
  obtain ⟨q1, μ1⟩ := q
  obtain ⟨hi, hF, hq⟩ := hq
  simp only [hi.1.k (k := 56) (c := 6) (by decide), if_true, Option.bind_some, mI_ss]
  have h0 := hi.code (v := q1)
  rcases hq with ⟨ht, z⟩ | ⟨ht, hb, z⟩ | ⟨ht, hb, hc, z⟩ | ⟨ht, hb, hc, z, z2, -⟩
  · have z : q1 = 1 := z
    subst z
    simp only [show ¬ ((1 : Int32) ≤ 0) by decide, if_false]
    exact Ev.c ⟨h0, hF.code, Or.inl ⟨ht, mI_ss⟩⟩
  · have z : q1 = 2 := z
    subst z
    simp only [show ¬ ((2 : Int32) ≤ 0) by decide, if_false]
    exact Ev.c ⟨h0, hF.code, Or.inr (Or.inl ⟨ht, hb, mI_ss⟩)⟩
  · have z : q1 = 3 := z
    subst z
    simp only [show ¬ ((3 : Int32) ≤ 0) by decide, if_false]
    exact Ev.c ⟨h0, hF.code, Or.inr (Or.inr (Or.inl ⟨ht, hb, hc, mI_ss⟩))⟩
  · have z : q1 = 0 := z
    subst z
    have z2 : mI μ1 56 19 = nI (cntA p 65536) := z2
    simp only [show (0 : Int32) ≤ 0 by decide, if_true, rd (show (56 : Nat) ≠ 56 ∨ (19 : Nat) ≠ 0 from Or.inr (by decide)), z2]
    exact Ev.c ⟨h0, hF.code, Or.inr (Or.inr (Or.inr ⟨ht, hb, hc, mI_ss, rfl⟩))⟩
/-- a value in an answer -/
theorem v_manswer {μ : Mem} {p : Pic} (h : Inv μ p) (k i : Int32) : Ev (fun n => C_MO_answer n 56 k i μ) (fun q => Inv q.2 p ∧ Fr RP μ q.2 ∧ ((¬ tree p ∧ mI q.2 56 0 = 1) ∨ (tree p ∧ ¬ bound p ∧ mI q.2 56 0 = 2) ∨ (tree p ∧ bound p ∧ 64 < cntA p 65536 ∧ mI q.2 56 0 = 3) ∨ (tree p ∧ bound p ∧ cntA p 65536 ≤ 64 ∧ ((k < 0 ∨ nI (cntA p 65536) ≤ k) ∨ (i < 0 ∨ nI (pH p) ≤ i)) ∧ mI q.2 56 0 = 4) ∨ (tree p ∧ bound p ∧ cntA p 65536 ≤ 64 ∧ ∃ k' i', k' < cntA p 65536 ∧ i' < pH p ∧ k = nI k' ∧ i = nI i' ∧ mI q.2 56 0 = 0 ∧ ∀ a, a < 65536 → isAns p a → cntA p a = k' → q.1 = (nI a >>> ((4 * (nI (pH p) - 1 - nI i')) &&& 31)) &&& 15))) := by
  have hH := h.2.1.2.2.2.2.2.1
  unfold C_MO_answer
  refine E_MO_answer_0 ?_
  simp only [B_MO_answer_0, h.1.k (k := 56) (c := 6) (by decide), if_true]
  refine Ev.b (v_mcode h) (fun q hq => ?_)
  obtain ⟨q1, μ1⟩ := q
  obtain ⟨hi, hF, hq⟩ := hq
  simp only [hi.1.k (k := 56) (c := 6) (by decide), if_true, Option.bind_some, mI_ss]
  have h0 := hi.code (v := q1)
  rcases hq with ⟨ht, z⟩ | ⟨ht, hb, z⟩ | ⟨ht, hb, hc, z⟩ | ⟨ht, hb, hc, z, z2, z3⟩
  · have z : q1 = 1 := z
    subst z
    simp only [show ¬ ((1 : Int32) ≤ 0) by decide, if_false]
    exact Ev.c ⟨h0, hF.code, Or.inl ⟨ht, mI_ss⟩⟩
  · have z : q1 = 2 := z
    subst z
    simp only [show ¬ ((2 : Int32) ≤ 0) by decide, if_false]
    exact Ev.c ⟨h0, hF.code, Or.inr (Or.inl ⟨ht, hb, mI_ss⟩)⟩
  · have z : q1 = 3 := z
    subst z
    simp only [show ¬ ((3 : Int32) ≤ 0) by decide, if_false]
    exact Ev.c ⟨h0, hF.code, Or.inr (Or.inr (Or.inl ⟨ht, hb, hc, mI_ss⟩))⟩
  have z : q1 = 0 := z
  subst z
  have z2 : mI μ1 56 19 = nI (cntA p 65536) := z2
  have z3 : ∀ a, a < 65536 → isAns p a → cntA p a < 64 → mI μ1 69 (cntA p a) = nI a := z3
  have z8 : mI μ1 56 8 = nI (pH p) := hi.2.2.2.2.2.2.2.2.1.1
  simp only [show (0 : Int32) ≤ 0 by decide, if_true, rd (show (56 : Nat) ≠ 56 ∨ (19 : Nat) ≠ 0 from Or.inr (by decide)), z2, rd (show (56 : Nat) ≠ 56 ∨ (8 : Nat) ≠ 0 from Or.inr (by decide)), z8]
  have four : ((k < 0 ∨ nI (cntA p 65536) ≤ k) ∨ (i < 0 ∨ nI (pH p) ≤ i)) → Ev (fun n => F_MO_answer n 1 56 0 0 (sI μ1 56 0 0)) (fun q => Inv q.2 p ∧ Fr RP μ q.2 ∧ ((¬ tree p ∧ mI q.2 56 0 = 1) ∨ (tree p ∧ ¬ bound p ∧ mI q.2 56 0 = 2) ∨ (tree p ∧ bound p ∧ 64 < cntA p 65536 ∧ mI q.2 56 0 = 3) ∨ (tree p ∧ bound p ∧ cntA p 65536 ≤ 64 ∧ ((k < 0 ∨ nI (cntA p 65536) ≤ k) ∨ (i < 0 ∨ nI (pH p) ≤ i)) ∧ mI q.2 56 0 = 4) ∨ (tree p ∧ bound p ∧ cntA p 65536 ≤ 64 ∧ ∃ k' i', k' < cntA p 65536 ∧ i' < pH p ∧ k = nI k' ∧ i = nI i' ∧ mI q.2 56 0 = 0 ∧ ∀ a, a < 65536 → isAns p a → cntA p a = k' → q.1 = (nI a >>> ((4 * (nI (pH p) - 1 - nI i')) &&& 31)) &&& 15))) := by
    intro hout
    refine E_MO_answer_1 ?_
    simp only [B_MO_answer_1, h0.1.k (k := 56) (c := 6) (by decide), if_true, Option.bind_some]
    exact Ev.c ⟨h0.code, hF.code.code, Or.inr (Or.inr (Or.inr (Or.inl ⟨ht, hb, hc, hout, mI_ss⟩)))⟩
  refine Ev.i (fun k0 => four (Or.inl (Or.inl k0))) (fun k0 => Ev.i (fun k1 => four (Or.inl (Or.inr k1))) (fun k1 => Ev.i (fun i0 => four (Or.inr (Or.inl i0))) (fun i0 => Ev.i (fun i1 => ?_) (fun i1 => four (Or.inr (Or.inr (Int32.not_lt.mp i1)))))))
  obtain ⟨k', hk', rfl⟩ : ∃ k', k' < cntA p 65536 ∧ k = nI k' := by
    rcases in_or (x := k) (cntA p 65536) (by omega) with z | z
    · rcases z with z | z
      · exact absurd z k0
      · exact absurd z k1
    · exact z
  obtain ⟨i', hi', rfl⟩ : ∃ i', i' < pH p ∧ i = nI i' := by
    rcases in_or (x := i) (pH p) (by omega) with z | z
    · rcases z with z | z
      · exact absurd z i0
      · exact absurd i1 (Int32.not_lt.mpr z)
    · exact z
  simp only [h0.1.r (k := 56) (j := 20) (v := 69) (by decide), h0.1.k (k := 69) (c := 100) (by decide), h0.1.z (show 69 < 71 by decide), show (kz 69).2 = 64 by decide, ib_i (show k' < 64 by omega) (show 64 < 2 ^ 31 by decide), nI_clamp (show k' < 2 ^ 31 by omega), if_true]
  refine Ev.c ⟨h0, hF.code, Or.inr (Or.inr (Or.inr (Or.inr ⟨ht, hb, hc, k', i', hk', hi', rfl, rfl, mI_ss, fun a ha hans hca => ?_⟩)))⟩
  show ((mI (sI μ1 56 0 0) 69 k') >>> _) &&& 15 = _
  rw [rd (Or.inl (by decide)), ← hca, z3 a ha hans (by omega)]
