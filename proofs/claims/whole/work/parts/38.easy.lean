/-! The calls that only look, and the new relation -/
theorem v_bi {n j N : Nat} {μ : Mem} (h : j < N) (hN : N < 2 ^ 31) : C_JL_isBelow n (nI j) (nI N) μ = some (1, μ) := by
  unfold C_JL_isBelow
  rw [if_neg (nI_pos (by omega)), if_neg (nI_ge h hN)]
theorem v_bo {n N : Nat} {x : Int32} {μ : Mem} (h : x < 0 ∨ nI N ≤ x) : C_JL_isBelow n x (nI N) μ = some (0, μ) := by
  unfold C_JL_isBelow
  by_cases h0 : x < 0
  · rw [if_pos h0]
  · rw [if_neg h0, if_pos (h.resolve_left h0)]
theorem v_ri {n j N : Nat} {μ : Mem} (hS : Sh μ) (hM : mI μ 56 1 = nI N) (h : j < N) (hN : N < 2 ^ 31) : C_MO_isRelation n 56 (nI j) μ = some (1, μ) := by
  unfold C_MO_isRelation
  rw [if_neg (nI_pos (by omega)), if_pos (hS.k (k := 56) (c := 6) (by decide)), hM, if_neg (nI_ge h hN)]
theorem v_ro {n N : Nat} {x : Int32} {μ : Mem} (hS : Sh μ) (hM : mI μ 56 1 = nI N) (h : x < 0 ∨ nI N ≤ x) : C_MO_isRelation n 56 x μ = some (0, μ) := by
  unfold C_MO_isRelation
  by_cases h0 : x < 0
  · rw [if_pos h0]
  · rw [if_neg h0, if_pos (hS.k (k := 56) (c := 6) (by decide)), hM, if_pos (h.resolve_left h0)]
theorem v_ai {n j N : Nat} {μ : Mem} (hS : Sh μ) (hM : mI μ 56 5 = nI N) (h : j < N) (hN : N < 2 ^ 31) : C_MO_isAtom n 56 (nI j) μ = some (1, μ) := by
  unfold C_MO_isAtom
  rw [if_neg (nI_pos (by omega)), if_pos (hS.k (k := 56) (c := 6) (by decide)), hM, if_neg (nI_ge h hN)]
theorem v_ao {n N : Nat} {x : Int32} {μ : Mem} (hS : Sh μ) (hM : mI μ 56 5 = nI N) (h : x < 0 ∨ nI N ≤ x) : C_MO_isAtom n 56 x μ = some (0, μ) := by
  unfold C_MO_isAtom
  by_cases h0 : x < 0
  · rw [if_pos h0]
  · rw [if_neg h0, if_pos (hS.k (k := 56) (c := 6) (by decide)), hM, if_pos (h.resolve_left h0)]
/-- below N, or not -/
theorem in_or {x : Int32} (N : Nat) (hN : N < 2 ^ 31) : (x < 0 ∨ nI N ≤ x) ∨ ∃ j, j < N ∧ x = nI j := by
  rcases pk_ix x hN with h | h | h
  · exact Or.inl (Or.inl h)
  · exact Or.inl (Or.inr h)
  · exact Or.inr h
def Ix (i4 : Int32) (L : Nat) : Prop := ib (i4 + 1) L = true ∧ ib (i4 + 2) L = true ∧ ib (i4 + 3) L = true ∧ ib (i4 + 4) L = true
def Gd (μ : Mem) : Prop := ∃ p, Inv μ p
theorem Inv.sc {μ : Mem} {p : Pic} {k j : Nat} {v : Int32} (h : Inv μ p) (hp : Sc k j) : Inv (sI μ k j v) p := h.fr (Fr.rf.i hp)
theorem t_3 {μ : Mem} {p : Pic} {i4 : Int32} {L : Nat} {xs : Nat → Int32} (h : Inv μ p) (hI : Ix i4 L) : Ev (fun n => T_3 n 1 56 70 i4 L xs μ) Gd := by
  obtain ⟨i1, i2, i3, i4'⟩ := hI
  have hS := h.1
  have hR6 := h.2.1.1.1
  have h0 : Inv (sI μ 56 0 0) p := h.sc (Or.inr (Or.inl ⟨rfl, Or.inl rfl⟩))
  simp only [T_3, i1, hS.k (k := 1) (c := 5) (by decide), if_true, C_JL_rows, C_MO_rows, h.2.2.1.1]
  generalize xs (Int32.toNatClampNeg (i4 + 1)) = a
  rcases in_or (x := a) (pR p) (by omega) with ha | ⟨r, hr, rfl⟩
  · simp only [v_bo ha, Option.bind_some, if_true, hS.k (k := 56) (c := 6) (by decide), v_ro h0.1 h0.2.2.2.2.2.2.2.1.1 ha]
    exact Ev.c ⟨p, h0⟩
  · simp only [v_bi hr (show pR p < 2 ^ 31 by omega), Option.bind_some, show ¬ ((1 : Int32) = 0) by decide, if_false, if_true, hS.k (k := 1) (c := 5) (by decide), hS.r (k := 1) (j := 0) (v := 2) (by decide), hS.k (k := 2) (c := 102) (by decide), hS.z (show 2 < 71 by decide), show (kz 2).2 = 6 by decide, ib_i (show r < 6 by omega) (show 6 < 2 ^ 31 by decide), nI_clamp (show r < 2 ^ 31 by omega), hS.rR (show r < 6 by omega), hS.oR (show r < 6 by omega), (h.2.2.1.2.1 r (by omega)).1, hS.k (k := 56) (c := 6) (by decide), v_ri h0.1 h0.2.2.2.2.2.2.2.1.1 hr (show pR p < 2 ^ 31 by omega), h0.1.k (k := 56) (c := 6) (by decide), h0.1.r (k := 56) (j := 3) (v := 58) (by decide), h0.1.k (k := 58) (c := 100) (by decide), h0.1.z (show 58 < 71 by decide), show (kz 58).2 = 6 by decide, h0.2.2.2.2.2.2.2.1.2.1 r (show r < 6 by omega)]
    exact Ev.c ⟨p, h0⟩
theorem t_7 {μ : Mem} {p : Pic} {i4 : Int32} {L : Nat} {xs : Nat → Int32} (h : Inv μ p) : Ev (fun n => T_7 n 1 56 70 i4 L xs μ) Gd := by
  have hS := h.1
  have hN := h.2.1.1.2.2.1
  have h0 : Inv (sI μ 56 0 0) p := h.sc (Or.inr (Or.inl ⟨rfl, Or.inl rfl⟩))
  have hG := h.2.2.2.2.2.1
  have hc := hangR_cnt (nA := pA p) (vs := pvs p) (pA p)
  have hsub : (1 < nI (pA p) - nI (hangR (pA p) (pvs p) (pA p)).2.1) ↔ ¬ (pA p - (hangR (pA p) (pvs p) (pA p)).2.1 ≤ 1) := by
    rw [pk_sub hc, show (1 : Int32) = nI 1 from rfl, nI_ltI (by decide) (by omega)]
    omega
  simp only [T_7, hS.k (k := 1) (c := 5) (by decide), if_true, C_JL_tree, hS.r (k := 1) (j := 3) (v := 30) (by decide), hS.k (k := 30) (c := 3) (by decide), C_HA_isTree, hS.r (k := 30) (j := 0) (v := 15) (by decide), hS.k (k := 15) (c := 2) (by decide), h.2.2.2.1.1, hG.2.1, hsub, C_MO_tree, hS.k (k := 56) (c := 6) (by decide), Option.bind_some]
  by_cases ht : pA p - (hangR (pA p) (pvs p) (pA p)).2.1 ≤ 1
  · simp only [ht, not_true, if_false, Option.bind_some, show (1 : Int32) = 1 from rfl, or_true, if_true, hS.k (k := 56) (c := 6) (by decide), C_MO_isTree, h0.1.k (k := 56) (c := 6) (by decide)]
    refine Ev.b (P := fun q => q.1 = 1 ∧ Gd q.2) ?_ (fun q hq => ?_)
    · refine Ev.b (P := fun q => q.1 = 1 ∧ Gd q.2) ?_ (fun q hq => ?_)
      · refine Ev.b (v_mhang h0.1 h.2.1.1 h0.2.2.2.2.2.2.1) (fun μ1 h1 => ?_)
        have hi1 : Inv μ1 p := h0.fr (h1.1.mo (fun a j z => by unfold MHP at z; unfold Sc; omega))
        simp only [hi1.1.k (k := 56) (c := 6) (by decide), if_true, h1.2.1, (tree_iff hN).mpr ht]
        exact Ev.c ⟨rfl, p, hi1⟩
      · simp only [hq.1, or_true, if_true]
        exact Ev.c ⟨rfl, hq.2⟩
    · simp only [hq.1, if_true]
      exact Ev.c hq.2
  · simp only [ht, not_false_iff, if_true, Option.bind_some, true_or, hS.k (k := 56) (c := 6) (by decide), C_MO_isTree, h0.1.k (k := 56) (c := 6) (by decide)]
    refine Ev.b (P := fun q => q.1 = 0 ∧ Gd q.2) ?_ (fun q hq => ?_)
    · refine Ev.b (P := fun q => q.1 = 0 ∧ Gd q.2) ?_ (fun q hq => ?_)
      · refine Ev.b (v_mhang h0.1 h.2.1.1 h0.2.2.2.2.2.2.1) (fun μ1 h1 => ?_)
        have hi1 : Inv μ1 p := h0.fr (h1.1.mo (fun a j z => by unfold MHP at z; unfold Sc; omega))
        have hf : ¬ (((hangR (pA p) (pvs p) (pA p)).1 &&& ((hangR (pA p) (pvs p) (pA p)).1 - 1)) = 0) := fun z => ht ((tree_iff hN).mp z)
        simp only [hi1.1.k (k := 56) (c := 6) (by decide), if_true, h1.2.1, hf, if_false]
        exact Ev.c ⟨rfl, p, hi1⟩
      · simp only [hq.1, true_or, if_true]
        exact Ev.c ⟨rfl, hq.2⟩
    · simp only [hq.1, if_true]
      exact Ev.c hq.2
theorem t_8 {μ : Mem} {p : Pic} {i4 : Int32} {L : Nat} {xs : Nat → Int32} (h : Inv μ p) (hI : Ix i4 L) : Ev (fun n => T_8 n 1 56 70 i4 L xs μ) Gd := by
  obtain ⟨i1, i2, i3, i4'⟩ := hI
  have hS := h.1
  have hN := h.2.1.1.2.2.1
  have h0 : Inv (sI μ 56 0 0) p := h.sc (Or.inr (Or.inl ⟨rfl, Or.inl rfl⟩))
  have hG := h.2.2.2.2.2.1
  simp only [T_8, i1, hS.k (k := 1) (c := 5) (by decide), if_true, C_JL_parent, C_MO_parent, hS.r (k := 1) (j := 2) (v := 15) (by decide), hS.k (k := 15) (c := 2) (by decide), h.2.2.2.1.1]
  generalize xs (Int32.toNatClampNeg (i4 + 1)) = a
  rcases in_or (x := a) (pA p) (by omega) with ha | ⟨e, he, rfl⟩
  · simp only [v_bo ha, Option.bind_some, if_true, hS.k (k := 56) (c := 6) (by decide)]
    refine Ev.b (P := fun q => q.1 = -1 ∧ Gd q.2) ?_ (fun q hq => ?_)
    · refine Ev.b (v_mhang h0.1 h.2.1.1 h0.2.2.2.2.2.2.1) (fun μ1 h1 => ?_)
      have hi1 : Inv μ1 p := h0.fr (h1.1.mo (fun a j z => by unfold MHP at z; unfold Sc; omega))
      simp only [hi1.1.k (k := 56) (c := 6) (by decide), if_true, v_ao hi1.1 hi1.2.2.2.2.2.2.1.2.1 ha, Option.bind_some]
      exact Ev.c ⟨rfl, p, hi1⟩
    · simp only [hq.1, if_true]
      exact Ev.c hq.2
  · simp only [v_bi he (show pA p < 2 ^ 31 by omega), Option.bind_some, show ¬ ((1 : Int32) = 0) by decide, if_false, if_true, hS.k (k := 1) (c := 5) (by decide), hS.r (k := 1) (j := 3) (v := 30) (by decide), hS.k (k := 30) (c := 3) (by decide), hS.r (k := 30) (j := 1) (v := 31) (by decide), hS.k (k := 31) (c := 100) (by decide), hS.z (show 31 < 71 by decide), show (kz 31).2 = 6 by decide, ib_i (show e < 6 by omega) (show 6 < 2 ^ 31 by decide), nI_clamp (show e < 2 ^ 31 by omega), hG.2.2.1 e he, hS.k (k := 56) (c := 6) (by decide)]
    refine Ev.b (P := fun q => q.1 = (hangR (pA p) (pvs p) (pA p)).2.2.1 e ∧ Gd q.2) ?_ (fun q hq => ?_)
    · refine Ev.b (v_mhang h0.1 h.2.1.1 h0.2.2.2.2.2.2.1) (fun μ1 h1 => ?_)
      have hi1 : Inv μ1 p := h0.fr (h1.1.mo (fun a j z => by unfold MHP at z; unfold Sc; omega))
      simp only [hi1.1.k (k := 56) (c := 6) (by decide), if_true, v_ai hi1.1 hi1.2.2.2.2.2.2.1.2.1 he (show pA p < 2 ^ 31 by omega), Option.bind_some, show ¬ ((1 : Int32) = 0) by decide, if_false, hi1.1.r (k := 56) (j := 11) (v := 63) (by decide), hi1.1.k (k := 63) (c := 100) (by decide), hi1.1.z (show 63 < 71 by decide), show (kz 63).2 = 6 by decide, ib_i (show e < 6 by omega) (show 6 < 2 ^ 31 by decide), (h1.2.2 e (by omega)).1]
      exact Ev.c ⟨rfl, p, hi1⟩
    · simp only [hq.1, if_true]
      exact Ev.c hq.2
theorem t_9 {μ : Mem} {p : Pic} {i4 : Int32} {L : Nat} {xs : Nat → Int32} (h : Inv μ p) (hI : Ix i4 L) : Ev (fun n => T_9 n 1 56 70 i4 L xs μ) Gd := by
  obtain ⟨i1, i2, i3, i4'⟩ := hI
  have hS := h.1
  have hN := h.2.1.1.2.2.1
  have h0 : Inv (sI μ 56 0 0) p := h.sc (Or.inr (Or.inl ⟨rfl, Or.inl rfl⟩))
  have hG := h.2.2.2.2.2.1
  simp only [T_9, i1, hS.k (k := 1) (c := 5) (by decide), if_true, C_JL_turn, C_MO_turn, hS.r (k := 1) (j := 2) (v := 15) (by decide), hS.k (k := 15) (c := 2) (by decide), h.2.2.2.1.1]
  generalize xs (Int32.toNatClampNeg (i4 + 1)) = a
  rcases in_or (x := a) (pA p) (by omega) with ha | ⟨e, he, rfl⟩
  · simp only [v_bo ha, Option.bind_some, if_true, hS.k (k := 56) (c := 6) (by decide)]
    refine Ev.b (P := fun q => q.1 = -1 ∧ Gd q.2) ?_ (fun q hq => ?_)
    · refine Ev.b (v_mhang h0.1 h.2.1.1 h0.2.2.2.2.2.2.1) (fun μ1 h1 => ?_)
      have hi1 : Inv μ1 p := h0.fr (h1.1.mo (fun a j z => by unfold MHP at z; unfold Sc; omega))
      simp only [hi1.1.k (k := 56) (c := 6) (by decide), if_true, v_ao hi1.1 hi1.2.2.2.2.2.2.1.2.1 ha, Option.bind_some]
      exact Ev.c ⟨rfl, p, hi1⟩
    · simp only [hq.1, if_true]
      exact Ev.c hq.2
  · simp only [v_bi he (show pA p < 2 ^ 31 by omega), Option.bind_some, show ¬ ((1 : Int32) = 0) by decide, if_false, if_true, hS.k (k := 1) (c := 5) (by decide), hS.r (k := 1) (j := 3) (v := 30) (by decide), hS.k (k := 30) (c := 3) (by decide), hS.r (k := 30) (j := 2) (v := 32) (by decide), hS.k (k := 32) (c := 100) (by decide), hS.z (show 32 < 71 by decide), show (kz 32).2 = 6 by decide, ib_i (show e < 6 by omega) (show 6 < 2 ^ 31 by decide), nI_clamp (show e < 2 ^ 31 by omega), hG.2.2.2.1 e he, hS.k (k := 56) (c := 6) (by decide)]
    refine Ev.b (P := fun q => q.1 = (hangR (pA p) (pvs p) (pA p)).2.2.2.1 e ∧ Gd q.2) ?_ (fun q hq => ?_)
    · refine Ev.b (v_mhang h0.1 h.2.1.1 h0.2.2.2.2.2.2.1) (fun μ1 h1 => ?_)
      have hi1 : Inv μ1 p := h0.fr (h1.1.mo (fun a j z => by unfold MHP at z; unfold Sc; omega))
      simp only [hi1.1.k (k := 56) (c := 6) (by decide), if_true, v_ai hi1.1 hi1.2.2.2.2.2.2.1.2.1 he (show pA p < 2 ^ 31 by omega), Option.bind_some, show ¬ ((1 : Int32) = 0) by decide, if_false, hi1.1.r (k := 56) (j := 12) (v := 64) (by decide), hi1.1.k (k := 64) (c := 100) (by decide), hi1.1.z (show 64 < 71 by decide), show (kz 64).2 = 6 by decide, ib_i (show e < 6 by omega) (show 6 < 2 ^ 31 by decide), (h1.2.2 e (by omega)).2]
      exact Ev.c ⟨rfl, p, hi1⟩
    · simp only [hq.1, if_true]
      exact Ev.c hq.2
theorem t_0 {μ : Mem} {p : Pic} {i4 : Int32} {L : Nat} {xs : Nat → Int32} (h : Inv μ p) (hI : Ix i4 L) : Ev (fun n => T_0 n 1 56 70 i4 L xs μ) Gd := by
  obtain ⟨i1, i2, i3, i4'⟩ := hI
  have hS := h.1
  have hR6 := h.2.1.1.1
  have h0 : Inv (sI μ 56 0 0) p := h.sc (Or.inr (Or.inl ⟨rfl, Or.inl rfl⟩))
  have hm1 : mI μ 1 1 = nI (pR p) := h.2.2.1.1
  have hm2 : mI μ 56 1 = nI (pR p) := h.2.2.2.2.2.2.2.1.1
  simp only [T_0, i1, hS.k (k := 1) (c := 5) (by decide), if_true, C_JL_relation, C_MO_relation, hm1]
  generalize xs (Int32.toNatClampNeg (i4 + 1)) = a
  by_cases a1 : a < 1
  · simp only [a1, if_true, Option.bind_some, hS.k (k := 56) (c := 6) (by decide)]
    exact Ev.c ⟨p, h0⟩
  by_cases a3 : 3 < a
  · simp only [a1, a3, if_true, if_false, Option.bind_some, hS.k (k := 56) (c := 6) (by decide)]
    exact Ev.c ⟨p, h0⟩
  by_cases a6 : pR p = 6
  · have : nI (pR p) = 6 := by rw [a6]; rfl
    simp only [a1, a3, this, if_true, if_false, Option.bind_some, hS.k (k := 56) (c := 6) (by decide), rd (Or.inr (show (1 : Nat) ≠ 0 by decide)), hm2]
    exact Ev.c ⟨p, h0⟩
  have hlt : pR p < 6 := by omega
  have hn6 : ¬ (nI (pR p) = 6) := fun z => by
    have : nI (pR p) = nI 6 := z
    rw [nI_eq (by omega) (by decide)] at this
    exact a6 this
  obtain ⟨w, hw1, hw3, rfl⟩ : ∃ w, 1 ≤ w ∧ w ≤ 3 ∧ a = nI w := by
    rcases pk_ix a (n := 4) (by decide) with z | z | ⟨j, hj, rfl⟩
    · exact absurd (Int32.lt_trans z (by decide)) a1
    · exact absurd (Int32.lt_of_lt_of_le (show (3 : Int32) < nI 4 by decide) z) a3
    · refine ⟨j, ?_, by omega, rfl⟩
      rcases Nat.eq_zero_or_pos j with z | z
      · subst z
        exact absurd (by decide) a1
      · exact z
  have hpw : nI (pR p + 1) - 1 = nI (pR p) := nI_pred _
  simp only [a1, a3, hn6, if_true, if_false, Option.bind_some, hS.r (k := 1) (j := 0) (v := 2) (by decide), hS.k (k := 2) (c := 102) (by decide), hS.z (show 2 < 71 by decide), show (kz 2).2 = 6 by decide, ib_i hlt (show 6 < 2 ^ 31 by decide), nI_clamp (show pR p < 2 ^ 31 by omega), hS.rR hlt, hS.oR hlt, rd (show (1 : Nat) ≠ 3 + 2 * pR p ∨ (1 : Nat) ≠ 1 from Or.inl (by omega)), hm1, nI_1, mI_ss, hpw, ok_sI, mR_sI, mZ_sI, hS.k (k := 56) (c := 6) (by decide), rd (show (56 : Nat) ≠ 56 ∨ (1 : Nat) ≠ 0 from Or.inr (by decide)), rd (show (56 : Nat) ≠ 1 ∨ (1 : Nat) ≠ 1 from Or.inl (by decide)), rd (show (56 : Nat) ≠ 3 + 2 * pR p ∨ (1 : Nat) ≠ 1 from Or.inl (by omega)), hm2, hS.r (k := 56) (j := 2) (v := 57) (by decide), hS.k (k := 57) (c := 100) (by decide), hS.z (show 57 < 71 by decide), show (kz 57).2 = 6 by decide, rd (show (56 : Nat) ≠ 57 ∨ (1 : Nat) ≠ pR p from Or.inl (by decide))]
  refine Ev.c ⟨(pR p + 1, va_up (pW p) (pR p) w, p.2.2), ?_⟩
  have hF : Fr (fun a j => (a = 3 + 2 * pR p ∧ j = 1) ∨ a = 1 ∨ (a = 56 ∧ (j = 0 ∨ j = 1)) ∨ (a = 57 ∧ j = pR p)) μ (sI (sI (sI (sI (sI μ (3 + 2 * pR p) 1 (nI w)) 1 1 (nI (pR p + 1))) 56 0 0) 57 (pR p) (nI w)) 56 1 (nI (pR p + 1))) := ((((Fr.rf.i (Or.inl ⟨rfl, rfl⟩)).i (Or.inr (Or.inl rfl))).i (Or.inr (Or.inr (Or.inl ⟨rfl, Or.inl rfl⟩)))).i (Or.inr (Or.inr (Or.inr ⟨rfl, rfl⟩)))).i (Or.inr (Or.inr (Or.inl ⟨rfl, Or.inr rfl⟩)))
  generalize hμ' : (sI (sI (sI (sI (sI μ (3 + 2 * pR p) 1 (nI w)) 1 1 (nI (pR p + 1))) 56 0 0) 57 (pR p) (nI w)) 56 1 (nI (pR p + 1))) = μ' at hF
  have e1 : mI μ' (3 + 2 * pR p) 1 = nI w := by
    rw [← hμ', rd (Or.inl (by omega)), rd (Or.inl (by omega)), rd (Or.inl (by omega)), rd (Or.inl (by omega))]
    exact mI_ss
  have e2 : mI μ' 1 1 = nI (pR p + 1) := by
    rw [← hμ', rd (Or.inl (by omega)), rd (Or.inl (by omega)), rd (Or.inl (by omega))]
    exact mI_ss
  have e3 : mI μ' 57 (pR p) = nI w := by
    rw [← hμ', rd (Or.inl (by omega))]
    exact mI_ss
  have e4 : mI μ' 56 1 = nI (pR p + 1) := by
    rw [← hμ']
    exact mI_ss
  clear hμ'
  obtain ⟨-, hWF, hCR, hCA, hCH, hCG, hMA, hMR, hMD, hVI, hKn⟩ := h
  have f := hF.2.2.2.1
  have hwe : ∀ r, r < pR p → va_up (pW p) (pR p) w r = pW p r := fun r hr => va_up_ne _ _ (by omega)
  obtain ⟨⟨w1, w2, w3, w4⟩, w5, w6, w7, w8⟩ := hWF
  refine ⟨hS.fr hF, ⟨⟨by show pR p + 1 ≤ 6; omega, fun r hr => ?_, w3, fun e he => ⟨Nat.lt_succ_of_lt (w4 e he).1, (w4 e he).2.1, fun c hc => (w4 e he).2.2 c ?_⟩⟩, w5, fun r hr => w6 r (by have : pR p + 1 ≤ r := hr; omega), fun r hr k hk => ?_, w8⟩, ⟨e2, fun r hr => ?_, fun r hr => ?_⟩, hCA.fr hF (fun a j z => by omega) w3, hCH.fr hF (fun a j z => by omega), hCG.fr hF (fun a j z => by omega), ⟨fun r hr => ?_, ?_, fun e he => ?_⟩, ⟨e4, fun r hr => ?_, fun r hr k hk i hi => ?_⟩, hMD.fr hF (fun a j z => by omega), hVI.fr hF (fun a j z => by omega), hKn.fr hF (fun a j z => by omega)⟩
  · have hr : r < pR p + 1 := hr
    show 1 ≤ va_up (pW p) (pR p) w r ∧ va_up (pW p) (pR p) w r ≤ 3
    rcases Nat.lt_or_ge r (pR p) with z | z
    · rw [hwe r z]
      exact w2 r z
    · have : r = pR p := by omega
      subst this
      rw [va_up_self]
      exact ⟨hw1, hw3⟩
  · have hc : va_up (pW p) (pR p) w (pL p e) ≤ c := hc
    rw [hwe _ (w4 e he).1] at hc
    exact hc
  · have hr : r < pR p + 1 := hr
    have hk : k < pS p r := hk
    rcases Nat.lt_or_ge r (pR p) with z | z
    · refine ⟨(w7 r z k hk).1, fun c hc => (w7 r z k hk).2 c ?_⟩
      have hc : va_up (pW p) (pR p) w r ≤ c := hc
      rw [hwe r z] at hc
      exact hc
    · rw [w6 r z] at hk
      exact absurd hk (Nat.not_lt_zero _)
  · obtain ⟨b1, b2, b3⟩ := hCR.2.1 r hr
    exact ⟨(f _ _ (by omega)).trans b1, b2, fun k hk => ⟨(f _ _ (by omega)).trans (b3 k hk).1, (b3 k hk).2⟩⟩
  · have hr : r < pR p + 1 := hr
    show _ = nI (va_up (pW p) (pR p) w r)
    rcases Nat.lt_or_ge r (pR p) with z | z
    · rw [hwe r z, f _ _ (by omega)]
      exact hCR.2.2 r z
    · have : r = pR p := by omega
      subst this
      rw [va_up_self]
      exact e1
  · have hr : r < pR p + 1 := hr
    show _ = nI (va_up (pW p) (pR p) w r)
    rcases Nat.lt_or_ge r (pR p) with z | z
    · rw [hwe r z, f _ _ (by omega)]
      exact hMA.1 r z
    · have : r = pR p := by omega
      subst this
      rw [va_up_self]
      exact e3
  · rw [f _ _ (by omega)]
    exact hMA.2.1
  · rw [f _ _ (by omega)]
    refine ⟨(hMA.2.2 e he).1, fun i hi => ?_⟩
    have hi : i < va_up (pW p) (pR p) w (pL p e) := hi
    rw [hwe _ (w4 e he).1] at hi
    rw [f _ _ (by omega)]
    exact (hMA.2.2 e he).2 i hi
  · rw [f _ _ (by omega)]
    exact hMR.2.1 r hr
  · have hr : r < pR p + 1 := hr
    have hk : k < pS p r := hk
    have hi : i < va_up (pW p) (pR p) w r := hi
    rcases Nat.lt_or_ge r (pR p) with z | z
    · rw [hwe r z] at hi
      rw [f _ _ (by omega)]
      exact hMR.2.2 r z k hk i hi
    · rw [w6 r z] at hk
      exact absurd hk (Nat.not_lt_zero _)
