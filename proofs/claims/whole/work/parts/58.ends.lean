/-! The calls that may throw: what the law hears of them -/
theorem EvO.xn {α : Type} {f g : Nat → Option α} {r : Option α} (h : EvO f none) (k : EvO g r) : EvO (fun n => orX (f n) (g n)) r := by
  obtain ⟨n1, h1⟩ := h
  obtain ⟨n2, h2⟩ := k
  refine ⟨n1 + n2, fun n hn => ?_⟩
  show orX (f n) (g n) = r
  rw [h1 n (by omega)]
  exact h2 n (by omega)
theorem EvO.xs {α : Type} {f g : Nat → Option α} {q : α} (h : EvO f (some q)) : EvO (fun n => orX (f n) (g n)) (some q) := by
  obtain ⟨n1, h1⟩ := h
  refine ⟨n1, fun n hn => ?_⟩
  show orX (f n) (g n) = some q
  rw [h1 n hn]
  rfl
theorem bind_no {α β : Type} (x : Option α) : Option.bind x (fun _ => (none : Option β)) = none := by cases x <;> rfl
theorem lc_self (x : Int64) : lg_cmp x x = 0 := by
  unfold lg_cmp
  rw [if_neg (Int64.lt_irrefl), if_pos rfl]
theorem v_isTree {μ : Mem} {p : Pic} (h : Inv μ p) (n : Nat) : (tree p → C_HA_isTree n 30 μ = some (1, μ)) ∧ (¬ tree p → C_HA_isTree n 30 μ = some (0, μ)) := by
  have hS := h.1
  have hN := h.2.1.1.2.2.1
  have hG := h.2.2.2.2.2.1
  have hc := hangR_cnt (nA := pA p) (vs := pvs p) (pA p)
  have hsub : (1 < nI (pA p) - nI (hangR (pA p) (pvs p) (pA p)).2.1) ↔ ¬ tree p := by
    unfold tree
    rw [pk_sub hc, show (1 : Int32) = nI 1 from rfl, nI_ltI (by decide) (by omega)]
    omega
  simp only [C_HA_isTree, hS.k (k := 30) (c := 3) (by decide), hS.r (k := 30) (j := 0) (v := 15) (by decide), hS.k (k := 15) (c := 2) (by decide), h.2.2.2.1.1, hG.2.1, if_true]
  exact ⟨fun z => if_neg (fun y => hsub.mp y z), fun z => if_pos (hsub.mpr z)⟩
theorem v_req {μ : Mem} {p : Pic} (h : Inv μ p) (n : Nat) : (tree p → C_JL_requireTree n 1 μ = some μ ∧ X_JL_requireTree n 1 μ = none) ∧ (¬ tree p → X_JL_requireTree n 1 μ = some (1, μ)) := by
  have hS := h.1
  obtain ⟨h1, h2⟩ := v_isTree h n
  simp only [C_JL_requireTree, X_JL_requireTree, hS.k (k := 1) (c := 5) (by decide), hS.r (k := 1) (j := 3) (v := 30) (by decide), hS.k (k := 30) (c := 3) (by decide), if_true]
  refine ⟨fun z => ?_, fun z => ?_⟩
  · rw [h1 z]
    exact ⟨rfl, rfl⟩
  · rw [h2 z]
    rfl
/-! ways -/
theorem v_dways {μ : Mem} {p : Pic} (h : Inv μ p) : Ev (fun n => D_LA_ways n 1 70 μ) (fun q => Inv q.2 p ∧ ((¬ tree p ∧ q.1 = 1) ∨ (tree p ∧ q.1 = 0 ∧ mL q.2 70 0 = lN (nW p)))) := by
  have hS := h.1
  by_cases ht : tree p
  · have hX : ∀ n, X_JL_ways n 1 μ = none := by
      intro n
      simp only [X_JL_ways, ((v_req h n).1 ht).1, ((v_req h n).1 ht).2, hS.k (k := 1) (c := 5) (by decide), if_true, Option.bind_some, hS.r (k := 1) (j := 4) (v := 34) (by decide), hS.k (k := 34) (c := 4) (by decide), bind_no, orX]
    simp only [D_LA_ways, hX, hS.k (k := 1) (c := 5) (by decide), if_true, C_LA_ways, C_JL_ways, ((v_req h _).1 ht).1, Option.bind_some, hS.r (k := 1) (j := 4) (v := 34) (by decide), hS.k (k := 34) (c := 4) (by decide)]
    refine Ev.b (P := fun q => Inv q.2 p ∧ q.1 = lN (nW p)) ?_ (fun q hq => ?_)
    · refine Ev.b (v_countWays h ht) (fun q hq => Ev.c hq)
    · obtain ⟨q1, q2⟩ := q
      obtain ⟨hi, rfl⟩ := hq
      simp only [hi.1.k (k := 70) (c := 101) (by decide), hi.1.z (show 70 < 71 by decide), show (kz 70).2 = 1 by decide, show ib 0 1 = true by decide, show Int32.toNatClampNeg 0 = 0 by decide, if_true, Option.bind_some]
      exact Ev.c ⟨hi.fr (Fr.rf.l (by unfold Sc; omega)), Or.inr ⟨ht, rfl, mL_ss⟩⟩
  · have hX : ∀ n, X_JL_ways n 1 μ = some (1, μ) := by
      intro n
      simp only [X_JL_ways, (v_req h n).2 ht, hS.k (k := 1) (c := 5) (by decide), if_true, orX]
    simp only [D_LA_ways, hX, hS.k (k := 1) (c := 5) (by decide), if_true]
    exact Ev.c ⟨h, Or.inl ⟨ht, rfl⟩⟩
theorem v_thrown {μ : Mem} (hS : Sh μ) (n : Nat) : C_MO_thrown n 56 μ = some (mI μ 56 0, μ) := by
  simp only [C_MO_thrown, hS.k (k := 56) (c := 6) (by decide), if_true]
theorem RP.out {μ ν : Mem} (h : Fr RP μ ν) : mL ν 70 0 = mL μ 70 0 := h.2.2.2.2 70 0 (by unfold RP; omega)
theorem t_10 {μ : Mem} {p : Pic} {i4 : Int32} {L : Nat} {xs : Nat → Int32} (h : Inv μ p) : Ev (fun n => T_10 n 1 56 70 i4 L xs μ) Gd := by
  simp only [T_10]
  refine Ev.b (v_dways h) (fun q hq => ?_)
  obtain ⟨q1, μ1⟩ := q
  obtain ⟨hi, hq⟩ := hq
  simp only [hi.1.k (k := 56) (c := 6) (by decide), if_true]
  refine Ev.b (v_mways hi) (fun q hq2 => ?_)
  obtain ⟨r1, μ2⟩ := q
  obtain ⟨hj, hF, hq2⟩ := hq2
  simp only [hj.1.k (k := 56) (c := 6) (by decide), if_true, v_thrown hj.1, Option.bind_some]
  rcases hq with ⟨ht, z⟩ | ⟨ht, z, z2⟩
  · rcases hq2 with ⟨ht2, -⟩ | ⟨-, y⟩
    · exact absurd ht2 ht
    · simp only [show q1 = 1 from z, show mI μ2 56 0 = 1 from y, if_true, show ¬ ((1 : Int32) = 0) by decide, if_false]
      exact Ev.c ⟨p, hj⟩
  · rcases hq2 with ⟨-, y, y2⟩ | ⟨ht2, -⟩
    · simp only [show q1 = 0 from z, show mI μ2 56 0 = 0 from y, if_true, hj.1.k (k := 70) (c := 101) (by decide), hj.1.z (show 70 < 71 by decide), show (kz 70).2 = 1 by decide, show ib 0 1 = true by decide, show Int32.toNatClampNeg 0 = 0 by decide, RP.out hF, show mL μ1 70 0 = lN (nW p) from z2, show r1 = lN (nW p) from y2, lc_self]
      exact Ev.c ⟨p, hj⟩
    · exact absurd ht ht2
/-! live -/
theorem v_dlive {μ : Mem} {p : Pic} (h : Inv μ p) (a : Int32) : Ev (fun n => D_LA_live n 1 a 70 μ) (fun q => Inv q.2 p ∧ ((¬ tree p ∧ q.1 = 1) ∨ (tree p ∧ (a < 0 ∨ nI (pA p) ≤ a) ∧ q.1 = 2) ∨ (tree p ∧ ∃ e, e < pA p ∧ a = nI e ∧ q.1 = 0 ∧ mL q.2 70 0 = (nI (nLv p e)).toInt64))) := by
  have hS := h.1
  have hN := h.2.1.1.2.2.1
  by_cases ht : tree p
  · rcases in_or (x := a) (pA p) (by omega) with ha | ⟨e, he, rfl⟩
    · have hX : ∀ n, X_JL_live n 1 a μ = some (4, μ) := by
        intro n
        simp only [X_JL_live, ((v_req h n).1 ht).1, ((v_req h n).1 ht).2, hS.k (k := 1) (c := 5) (by decide), if_true, Option.bind_some, hS.r (k := 1) (j := 2) (v := 15) (by decide), hS.k (k := 15) (c := 2) (by decide), h.2.2.2.1.1, v_bo ha, orX]
      simp only [D_LA_live, hX, hS.k (k := 1) (c := 5) (by decide), if_true, show ¬ ((4 : Nat) = 1) by decide, if_false]
      exact Ev.c ⟨h, Or.inr (Or.inl ⟨ht, ha, rfl⟩)⟩
    · have hX : ∀ n, X_JL_live n 1 (nI e) μ = none := by
        intro n
        simp only [X_JL_live, ((v_req h n).1 ht).1, ((v_req h n).1 ht).2, hS.k (k := 1) (c := 5) (by decide), if_true, Option.bind_some, hS.r (k := 1) (j := 2) (v := 15) (by decide), hS.k (k := 15) (c := 2) (by decide), h.2.2.2.1.1, v_bi he (show pA p < 2 ^ 31 by omega), show ¬ ((1 : Int32) = 0) by decide, if_false, hS.r (k := 1) (j := 4) (v := 34) (by decide), hS.k (k := 34) (c := 4) (by decide), bind_no, orX]
      simp only [D_LA_live, hX, hS.k (k := 1) (c := 5) (by decide), if_true, C_LA_live, C_JL_live, ((v_req h _).1 ht).1, Option.bind_some, hS.r (k := 1) (j := 2) (v := 15) (by decide), hS.k (k := 15) (c := 2) (by decide), h.2.2.2.1.1, v_bi he (show pA p < 2 ^ 31 by omega), show ¬ ((1 : Int32) = 0) by decide, if_false, hS.r (k := 1) (j := 4) (v := 34) (by decide), hS.k (k := 34) (c := 4) (by decide)]
      refine Ev.b (P := fun q => Inv q.2 p ∧ q.1 = nI (nLv p e)) ?_ (fun q hq => ?_)
      · refine Ev.b (v_countLive h ht he) (fun q hq => Ev.c hq)
      · obtain ⟨q1, q2⟩ := q
        obtain ⟨hi, rfl⟩ := hq
        simp only [hi.1.k (k := 70) (c := 101) (by decide), hi.1.z (show 70 < 71 by decide), show (kz 70).2 = 1 by decide, show ib 0 1 = true by decide, show Int32.toNatClampNeg 0 = 0 by decide, if_true, Option.bind_some]
        exact Ev.c ⟨hi.fr (Fr.rf.l (by unfold Sc; omega)), Or.inr (Or.inr ⟨ht, e, he, rfl, rfl, mL_ss⟩)⟩
  · have hX : ∀ n, X_JL_live n 1 a μ = some (1, μ) := by
      intro n
      simp only [X_JL_live, (v_req h n).2 ht, hS.k (k := 1) (c := 5) (by decide), if_true, orX]
    simp only [D_LA_live, hX, hS.k (k := 1) (c := 5) (by decide), if_true]
    exact Ev.c ⟨h, Or.inl ⟨ht, rfl⟩⟩
theorem t_11 {μ : Mem} {p : Pic} {i4 : Int32} {L : Nat} {xs : Nat → Int32} (h : Inv μ p) (hI : Ix i4 L) : Ev (fun n => T_11 n 1 56 70 i4 L xs μ) Gd := by
  obtain ⟨i1, -, -, -⟩ := hI
  have hN := h.2.1.1.2.2.1
  simp only [T_11, i1, if_true]
  generalize xs (Int32.toNatClampNeg (i4 + 1)) = a
  refine Ev.b (v_dlive h a) (fun q hq => ?_)
  obtain ⟨q1, μ1⟩ := q
  obtain ⟨hi, hq⟩ := hq
  simp only [hi.1.k (k := 56) (c := 6) (by decide), if_true]
  refine Ev.b (v_mlive hi a) (fun q hq2 => ?_)
  obtain ⟨r1, μ2⟩ := q
  obtain ⟨hj, hF, hq2⟩ := hq2
  simp only [hj.1.k (k := 56) (c := 6) (by decide), if_true, v_thrown hj.1, Option.bind_some]
  have out : ∀ e, e < pA p → ¬ (nI e < 0 ∨ nI (pA p) ≤ nI e) := by
    intro e he z
    rcases z with z | z
    · exact absurd z (nI_pos (by omega))
    · exact absurd z (nI_ge he (by omega))
  rcases hq with ⟨ht, z⟩ | ⟨ht, ha, z⟩ | ⟨ht, e, he, ha, z, z2⟩
  · rcases hq2 with ⟨-, y⟩ | ⟨ht2, -⟩ | ⟨ht2, -⟩
    · simp only [show q1 = 1 from z, show mI μ2 56 0 = 1 from y, if_true, show ¬ ((1 : Int32) = 0) by decide, if_false]
      exact Ev.c ⟨p, hj⟩
    · exact absurd ht2 ht
    · exact absurd ht2 ht
  · rcases hq2 with ⟨ht2, -⟩ | ⟨-, -, y⟩ | ⟨-, e, he, ha2, -⟩
    · exact absurd ht ht2
    · simp only [show q1 = 2 from z, show mI μ2 56 0 = 2 from y, if_true, show ¬ ((2 : Int32) = 0) by decide, if_false]
      exact Ev.c ⟨p, hj⟩
    · exact absurd (ha2 ▸ ha) (out e he)
  · rcases hq2 with ⟨ht2, -⟩ | ⟨-, ha2, -⟩ | ⟨-, e', he', ha2, y, y2⟩
    · exact absurd ht ht2
    · exact absurd (ha ▸ ha2) (out e he)
    · have : e = e' := (nI_eq (by omega) (by omega)).mp (ha.symm.trans ha2)
      subst this
      simp only [show q1 = 0 from z, show mI μ2 56 0 = 0 from y, if_true, hj.1.k (k := 70) (c := 101) (by decide), hj.1.z (show 70 < 71 by decide), show (kz 70).2 = 1 by decide, show ib 0 1 = true by decide, show Int32.toNatClampNeg 0 = 0 by decide, RP.out hF, show mL μ1 70 0 = (nI (nLv p e)).toInt64 from z2, show r1 = nI (nLv p e) from y2, lc_self]
      exact Ev.c ⟨p, hj⟩
/-! answers -/
theorem v_find {μ : Mem} {p : Pic} (h : Inv μ p) : (¬ tree p ∧ EvO (fun n => X_JL_findAnswers n 1 μ) (some (1, μ))) ∨ (tree p ∧ ¬ bound p ∧ EvO (fun n => X_JL_findAnswers n 1 μ) (some (2, μ))) ∨ (tree p ∧ bound p ∧ 64 < cntA p 65536 ∧ ∃ ν, Inv ν p ∧ EvO (fun n => X_JL_findAnswers n 1 μ) (some (3, ν))) ∨ (tree p ∧ bound p ∧ cntA p 65536 ≤ 64 ∧ ∃ ν, Inv ν p ∧ mI ν 34 6 = nI (cntA p 65536) ∧ (∀ b, b < 65536 → isAns p b → mI ν 55 (cntA p b) = nI b) ∧ EvO (fun n => X_JL_findAnswers n 1 μ) none ∧ EvO (fun n => C_JL_findAnswers n 1 μ) (some ν)) := by
  have hS := h.1
  by_cases ht : tree p
  case neg =>
    refine Or.inl ⟨ht, 0, fun n _ => ?_⟩
    simp only [X_JL_findAnswers, (v_req h n).2 ht, hS.k (k := 1) (c := 5) (by decide), if_true, orX]
  have hX : ∀ n, X_JL_findAnswers n 1 μ = Option.bind (C_QU_bindsHead n 15 μ) (fun q6 => if q6.1 = 0 then some (2, q6.2) else if ok q6.2 1 5 = true then if ok q6.2 (mR q6.2 1 4) 4 = true then Option.bind (C_JO_search n (mR q6.2 1 4) q6.2) (fun q9 => if ok q9 1 5 = true then if ok q9 (mR q9 1 4) 4 = true then if (mI q9 (mR q9 1 4) 6) ≤ 64 then none else some (3, q9) else none else none) else none else none) := by
    intro n
    simp only [X_JL_findAnswers, ((v_req h n).1 ht).1, ((v_req h n).1 ht).2, hS.k (k := 1) (c := 5) (by decide), if_true, Option.bind_some, hS.r (k := 1) (j := 2) (v := 15) (by decide), hS.k (k := 15) (c := 2) (by decide), orX]
  have hC : ∀ n, C_JL_findAnswers n 1 μ = Option.bind (C_QU_bindsHead n 15 μ) (fun q5 => if q5.1 = 0 then none else if ok q5.2 1 5 = true then if ok q5.2 (mR q5.2 1 4) 4 = true then Option.bind (C_JO_search n (mR q5.2 1 4) q5.2) (fun q8 => if ok q8 1 5 = true then if ok q8 (mR q8 1 4) 4 = true then if (mI q8 (mR q8 1 4) 6) ≤ 64 then some q8 else none else none else none) else none else none) := by
    intro n
    simp only [C_JL_findAnswers, ((v_req h n).1 ht).1, hS.k (k := 1) (c := 5) (by decide), if_true, Option.bind_some, hS.r (k := 1) (j := 2) (v := 15) (by decide), hS.k (k := 15) (c := 2) (by decide)]
  obtain ⟨q, hq, hB⟩ := v_binds h
  obtain ⟨q1, q2⟩ := q
  obtain ⟨rfl, hq⟩ := hq
  rcases hq with ⟨hq, hb⟩ | ⟨hq, hb⟩
  case inr =>
    have hq : q1 = 0 := hq
    subst hq
    refine Or.inr (Or.inl ⟨ht, hb, EvO.e hX (EvO.b hB ?_)⟩)
    simp only [if_true]
    exact EvO.c
  have hq : q1 = 1 := hq
  subst hq
  obtain ⟨ν, ⟨hi, hF⟩, hs⟩ := v_search h ht hb
  rcases hF with ⟨f1, f2, f3⟩ | ⟨f1, f2⟩
  · have hle : nI (cntA p 65536) ≤ 64 := nI_le (b := 64) f1 (by decide)
    refine Or.inr (Or.inr (Or.inr ⟨ht, hb, f1, ν, hi, f2, f3, EvO.e hX (EvO.b hB ?_), EvO.e hC (EvO.b hB ?_)⟩))
    · simp only [show ¬ ((1 : Int32) = 0) by decide, if_false, hS.k (k := 1) (c := 5) (by decide), if_true, hS.r (k := 1) (j := 4) (v := 34) (by decide), hS.k (k := 34) (c := 4) (by decide)]
      refine EvO.b hs ?_
      simp only [hi.1.k (k := 1) (c := 5) (by decide), if_true, hi.1.r (k := 1) (j := 4) (v := 34) (by decide), hi.1.k (k := 34) (c := 4) (by decide), f2, hle]
      exact EvO.c
    · simp only [show ¬ ((1 : Int32) = 0) by decide, if_false, hS.k (k := 1) (c := 5) (by decide), if_true, hS.r (k := 1) (j := 4) (v := 34) (by decide), hS.k (k := 34) (c := 4) (by decide)]
      refine EvO.b hs ?_
      simp only [hi.1.k (k := 1) (c := 5) (by decide), if_true, hi.1.r (k := 1) (j := 4) (v := 34) (by decide), hi.1.k (k := 34) (c := 4) (by decide), f2, hle]
      exact EvO.c
  · refine Or.inr (Or.inr (Or.inl ⟨ht, hb, f1, ν, hi, EvO.e hX (EvO.b hB ?_)⟩))
    simp only [show ¬ ((1 : Int32) = 0) by decide, if_false, hS.k (k := 1) (c := 5) (by decide), if_true, hS.r (k := 1) (j := 4) (v := 34) (by decide), hS.k (k := 34) (c := 4) (by decide)]
    refine EvO.b hs ?_
    simp only [hi.1.k (k := 1) (c := 5) (by decide), if_true, hi.1.r (k := 1) (j := 4) (v := 34) (by decide), hi.1.k (k := 34) (c := 4) (by decide), f2, show ¬ (nI 65 ≤ 64) by decide, if_false]
    exact EvO.c
theorem v_danswers {μ : Mem} {p : Pic} (h : Inv μ p) : Ev (fun n => D_LA_answers n 1 70 μ) (fun q => Inv q.2 p ∧ ((¬ tree p ∧ q.1 = 1) ∨ (tree p ∧ ¬ bound p ∧ q.1 = 2) ∨ (tree p ∧ bound p ∧ 64 < cntA p 65536 ∧ q.1 = 3) ∨ (tree p ∧ bound p ∧ cntA p 65536 ≤ 64 ∧ q.1 = 0 ∧ mL q.2 70 0 = (nI (cntA p 65536)).toInt64))) := by
  have hS := h.1
  have thr : ∀ c ν, EvO (fun n => X_JL_findAnswers n 1 μ) (some (c, ν)) → EvO (fun n => D_LA_answers n 1 70 μ) (if c = 1 then some (1, ν) else if c = 2 then some (2, ν) else if c = 3 then some (3, ν) else none) := by
    rintro c ν ⟨n1, h1⟩
    refine ⟨n1, fun n hn => ?_⟩
    simp only [D_LA_answers, X_JL_answers, h1 n hn, hS.k (k := 1) (c := 5) (by decide), if_true, orX]
  rcases v_find h with ⟨ht, hX⟩ | ⟨ht, hb, hX⟩ | ⟨ht, hb, hc, ν, hi, hX⟩ | ⟨ht, hb, hc, ν, hi, hf, hst, ⟨n1, hX⟩, ⟨n2, hC⟩⟩
  · exact ⟨(1, μ), ⟨h, Or.inl ⟨ht, rfl⟩⟩, thr 1 μ hX⟩
  · exact ⟨(2, μ), ⟨h, Or.inr (Or.inl ⟨ht, hb, rfl⟩)⟩, thr 2 μ hX⟩
  · exact ⟨(3, ν), ⟨hi, Or.inr (Or.inr (Or.inl ⟨ht, hb, hc, rfl⟩))⟩, thr 3 ν hX⟩
  · refine ⟨(0, sL ν 70 0 (nI (cntA p 65536)).toInt64), ⟨hi.fr (Fr.rf.l (by unfold Sc; omega)), Or.inr (Or.inr (Or.inr ⟨ht, hb, hc, rfl, mL_ss⟩))⟩, n1 + n2, fun n hn => ?_⟩
    have h1 := hX n (by omega)
    have h2 := hC n (by omega)
    simp only [D_LA_answers, X_JL_answers, C_LA_answers, C_JL_answers, h1, h2, hS.k (k := 1) (c := 5) (by decide), if_true, orX, Option.bind_some, hi.1.k (k := 1) (c := 5) (by decide), hi.1.r (k := 1) (j := 4) (v := 34) (by decide), hi.1.k (k := 34) (c := 4) (by decide), hf, hi.1.k (k := 70) (c := 101) (by decide), hi.1.z (show 70 < 71 by decide), show (kz 70).2 = 1 by decide, show ib 0 1 = true by decide, show Int32.toNatClampNeg 0 = 0 by decide]
theorem t_12 {μ : Mem} {p : Pic} {i4 : Int32} {L : Nat} {xs : Nat → Int32} (h : Inv μ p) : Ev (fun n => T_12 n 1 56 70 i4 L xs μ) Gd := by
  simp only [T_12]
  refine Ev.b (v_danswers h) (fun q hq => ?_)
  obtain ⟨q1, μ1⟩ := q
  obtain ⟨hi, hq⟩ := hq
  simp only [hi.1.k (k := 56) (c := 6) (by decide), if_true]
  refine Ev.b (v_manswers hi) (fun q hq2 => ?_)
  obtain ⟨r1, μ2⟩ := q
  obtain ⟨hj, hF, hq2⟩ := hq2
  simp only [hj.1.k (k := 56) (c := 6) (by decide), if_true, v_thrown hj.1, Option.bind_some]
  have thr : ∀ c : Int32, c ≠ 0 → q1 = c → mI μ2 56 0 = c → Ev (fun n => if mI μ2 56 0 = q1 then if q1 = 0 then if ok μ2 70 101 = true then if ib 0 (mZ μ2 70) = true then if lg_cmp (mL μ2 70 (Int32.toNatClampNeg 0)) r1.toInt64 = 0 then some μ2 else none else none else none else some μ2 else none) Gd := by
    intro c hc z y
    simp only [z, y, hc, if_true, if_false]
    exact Ev.c ⟨p, hj⟩
  rcases hq with ⟨ht, z⟩ | ⟨ht, hb, z⟩ | ⟨ht, hb, hc, z⟩ | ⟨ht, hb, hc, z, z2⟩
  · rcases hq2 with ⟨-, y⟩ | ⟨ht2, -⟩ | ⟨ht2, -⟩ | ⟨ht2, -⟩
    · exact thr 1 (by decide) z y
    · exact absurd ht2 ht
    · exact absurd ht2 ht
    · exact absurd ht2 ht
  · rcases hq2 with ⟨ht2, -⟩ | ⟨-, -, y⟩ | ⟨-, hb2, -⟩ | ⟨-, hb2, -⟩
    · exact absurd ht ht2
    · exact thr 2 (by decide) z y
    · exact absurd hb2 hb
    · exact absurd hb2 hb
  · rcases hq2 with ⟨ht2, -⟩ | ⟨-, hb2, -⟩ | ⟨-, -, -, y⟩ | ⟨-, -, hc2, -⟩
    · exact absurd ht ht2
    · exact absurd hb hb2
    · exact thr 3 (by decide) z y
    · exact absurd hc (by omega)
  · rcases hq2 with ⟨ht2, -⟩ | ⟨-, hb2, -⟩ | ⟨-, -, hc2, -⟩ | ⟨-, -, -, y, y2⟩
    · exact absurd ht ht2
    · exact absurd hb hb2
    · exact absurd hc (by omega)
    · simp only [show q1 = 0 from z, show mI μ2 56 0 = 0 from y, if_true, hj.1.k (k := 70) (c := 101) (by decide), hj.1.z (show 70 < 71 by decide), show (kz 70).2 = 1 by decide, show ib 0 1 = true by decide, show Int32.toNatClampNeg 0 = 0 by decide, RP.out hF, show mL μ1 70 0 = (nI (cntA p 65536)).toInt64 from z2, show r1 = nI (cntA p 65536) from y2, lc_self]
      exact Ev.c ⟨p, hj⟩
/-! answer -/
theorem cntA_at {p : Pic} {k : Nat} : ∀ {hi : Nat}, k < cntA p hi → ∃ b, b < hi ∧ isAns p b ∧ cntA p b = k
  | 0, h => absurd h (Nat.not_lt_zero _)
  | hi + 1, h => by
    rw [cntA_s] at h
    rcases Nat.lt_or_ge k (cntA p hi) with z | z
    · obtain ⟨b, h1, h2⟩ := cntA_at z
      exact ⟨b, by omega, h2⟩
    · by_cases ha : isAns p hi
      · rw [ind_t ha] at h
        exact ⟨hi, by omega, ha, by omega⟩
      · rw [ind_f ha] at h
        omega
theorem v_danswer {μ : Mem} {p : Pic} (h : Inv μ p) (k i : Int32) : Ev (fun n => D_LA_answer n 1 k i 70 μ) (fun q => Inv q.2 p ∧ ((¬ tree p ∧ q.1 = 1) ∨ (tree p ∧ ¬ bound p ∧ q.1 = 2) ∨ (tree p ∧ bound p ∧ 64 < cntA p 65536 ∧ q.1 = 3) ∨ (tree p ∧ bound p ∧ cntA p 65536 ≤ 64 ∧ ((k < 0 ∨ nI (cntA p 65536) ≤ k) ∨ (i < 0 ∨ nI (pH p) ≤ i)) ∧ q.1 = 4) ∨ (tree p ∧ bound p ∧ cntA p 65536 ≤ 64 ∧ ∃ b i', b < 65536 ∧ isAns p b ∧ cntA p b < cntA p 65536 ∧ i' < pH p ∧ k = nI (cntA p b) ∧ i = nI i' ∧ q.1 = 0 ∧ mL q.2 70 0 = ((nI b >>> ((4 * (nI (pH p) - 1 - nI i')) &&& 31)) &&& 15).toInt64))) := by
  have hS := h.1
  have hH := h.2.1.2.2.2.2.2.1
  have thr : ∀ c ν, EvO (fun n => X_JL_findAnswers n 1 μ) (some (c, ν)) → EvO (fun n => D_LA_answer n 1 k i 70 μ) (if c = 1 then some (1, ν) else if c = 2 then some (2, ν) else if c = 3 then some (3, ν) else if c = 4 then some (4, ν) else none) := by
    rintro c ν ⟨n1, h1⟩
    refine ⟨n1, fun n hn => ?_⟩
    simp only [D_LA_answer, X_JL_answer, h1 n hn, hS.k (k := 1) (c := 5) (by decide), if_true, orX]
  rcases v_find h with ⟨ht, hX⟩ | ⟨ht, hb, hX⟩ | ⟨ht, hb, hc, ν, hi, hX⟩ | ⟨ht, hb, hc, ν, hi, hf, hst, ⟨n1, hX⟩, ⟨n2, hC⟩⟩
  · exact ⟨(1, μ), ⟨h, Or.inl ⟨ht, rfl⟩⟩, thr 1 μ hX⟩
  · exact ⟨(2, μ), ⟨h, Or.inr (Or.inl ⟨ht, hb, rfl⟩)⟩, thr 2 μ hX⟩
  · exact ⟨(3, ν), ⟨hi, Or.inr (Or.inr (Or.inl ⟨ht, hb, hc, rfl⟩))⟩, thr 3 ν hX⟩
  · rcases in_or (x := k) (cntA p 65536) (by omega) with hk | ⟨k', hk', rfl⟩
    · refine ⟨(4, ν), ⟨hi, Or.inr (Or.inr (Or.inr (Or.inl ⟨ht, hb, hc, Or.inl hk, rfl⟩)))⟩, n1 + n2, fun n hn => ?_⟩
      have h1 := hX n (by omega)
      have h2 := hC n (by omega)
      simp only [D_LA_answer, X_JL_answer, h1, h2, hS.k (k := 1) (c := 5) (by decide), if_true, orX, Option.bind_some, hi.1.k (k := 1) (c := 5) (by decide), hi.1.r (k := 1) (j := 4) (v := 34) (by decide), hi.1.k (k := 34) (c := 4) (by decide), hf, v_bo hk]
      rfl
    · rcases in_or (x := i) (pH p) (by omega) with hi' | ⟨i', hi', rfl⟩
      · refine ⟨(4, ν), ⟨hi, Or.inr (Or.inr (Or.inr (Or.inl ⟨ht, hb, hc, Or.inr hi', rfl⟩)))⟩, n1 + n2, fun n hn => ?_⟩
        have h1 := hX n (by omega)
        have h2 := hC n (by omega)
        simp only [D_LA_answer, X_JL_answer, h1, h2, hS.k (k := 1) (c := 5) (by decide), if_true, orX, Option.bind_some, hi.1.k (k := 1) (c := 5) (by decide), hi.1.r (k := 1) (j := 4) (v := 34) (by decide), hi.1.k (k := 34) (c := 4) (by decide), hf, v_bi hk' (show cntA p 65536 < 2 ^ 31 by omega), show ¬ ((1 : Int32) = 0) by decide, if_false, hi.1.r (k := 1) (j := 2) (v := 15) (by decide), hi.1.k (k := 15) (c := 2) (by decide), hi.2.2.2.2.1.1, v_bo hi']
        rfl
      · obtain ⟨b, hb1, hb2, hb3⟩ := cntA_at hk'
        subst hb3
        have hX2 : EvO (fun n => X_JL_answer n 1 (nI (cntA p b)) (nI i') μ) none := by
          refine ⟨n1 + n2, fun n hn => ?_⟩
          have h1 := hX n (by omega)
          have h2 := hC n (by omega)
          simp only [X_JL_answer, h1, h2, hS.k (k := 1) (c := 5) (by decide), if_true, orX, Option.bind_some, hi.1.k (k := 1) (c := 5) (by decide), hi.1.r (k := 1) (j := 4) (v := 34) (by decide), hi.1.k (k := 34) (c := 4) (by decide), hf, v_bi hk' (show cntA p 65536 < 2 ^ 31 by omega), show ¬ ((1 : Int32) = 0) by decide, if_false, hi.1.r (k := 1) (j := 2) (v := 15) (by decide), hi.1.k (k := 15) (c := 2) (by decide), hi.2.2.2.2.1.1, v_bi hi' (show pH p < 2 ^ 31 by omega), bind_no]
        have hC2 : Ev (fun n => C_JL_answer n 1 (nI (cntA p b)) (nI i') μ) (fun q => q = ((nI b >>> ((4 * (nI (pH p) - 1 - nI i')) &&& 31)) &&& 15, ν)) := by
          unfold C_JL_answer
          refine E_JL_answer_0 ?_
          simp only [B_JL_answer_0, hS.k (k := 1) (c := 5) (by decide), if_true]
          refine Ev.o ⟨n2, hC⟩ ?_
          simp only [hi.1.k (k := 1) (c := 5) (by decide), if_true, hi.1.r (k := 1) (j := 4) (v := 34) (by decide), hi.1.k (k := 34) (c := 4) (by decide), hf, v_bi hk' (show cntA p 65536 < 2 ^ 31 by omega), show ¬ ((1 : Int32) = 0) by decide, if_false, hi.1.r (k := 1) (j := 2) (v := 15) (by decide), hi.1.k (k := 15) (c := 2) (by decide), hi.2.2.2.2.1.1, v_bi hi' (show pH p < 2 ^ 31 by omega), Option.bind_some, C_JO_valueInAnswer, hi.1.r (k := 34) (j := 5) (v := 55) (by decide), hi.1.k (k := 55) (c := 100) (by decide), hi.1.z (show 55 < 71 by decide), show (kz 55).2 = 64 by decide, ib_i (show cntA p b < 64 by omega) (show 64 < 2 ^ 31 by decide), nI_clamp (show cntA p b < 2 ^ 31 by omega), hi.1.r (k := 34) (j := 0) (v := 15) (by decide), hst b hb1 hb2]
          exact Ev.c rfl
        obtain ⟨n3, hX2⟩ := hX2
        obtain ⟨n4, hC2⟩ := hC2.eq
        refine ⟨(0, sL ν 70 0 ((nI b >>> ((4 * (nI (pH p) - 1 - nI i')) &&& 31)) &&& 15).toInt64), ⟨hi.fr (Fr.rf.l (by unfold Sc; omega)), Or.inr (Or.inr (Or.inr (Or.inr ⟨ht, hb, hc, b, i', hb1, hb2, hk', hi', rfl, rfl, rfl, mL_ss⟩)))⟩, n3 + n4, fun n hn => ?_⟩
        have h1 := hX2 n (by omega)
        have h2 := hC2 n (by omega)
        simp only [D_LA_answer, C_LA_answer, h1, h2, hS.k (k := 1) (c := 5) (by decide), if_true, Option.bind_some, hi.1.k (k := 70) (c := 101) (by decide), hi.1.z (show 70 < 71 by decide), show (kz 70).2 = 1 by decide, show ib 0 1 = true by decide, show Int32.toNatClampNeg 0 = 0 by decide]
theorem t_13 {μ : Mem} {p : Pic} {i4 : Int32} {L : Nat} {xs : Nat → Int32} (h : Inv μ p) (hI : Ix i4 L) : Ev (fun n => T_13 n 1 56 70 i4 L xs μ) Gd := by
  obtain ⟨i1, i2, -, -⟩ := hI
  have hH := h.2.1.2.2.2.2.2.1
  simp only [T_13, i1, i2, if_true]
  generalize xs (Int32.toNatClampNeg (i4 + 1)) = k
  generalize xs (Int32.toNatClampNeg (i4 + 2)) = i
  refine Ev.b (v_danswer h k i) (fun q hq => ?_)
  obtain ⟨q1, μ1⟩ := q
  obtain ⟨hi, hq⟩ := hq
  simp only [hi.1.k (k := 56) (c := 6) (by decide), if_true]
  refine Ev.b (v_manswer hi k i) (fun q hq2 => ?_)
  obtain ⟨r1, μ2⟩ := q
  obtain ⟨hj, hF, hq2⟩ := hq2
  simp only [hj.1.k (k := 56) (c := 6) (by decide), if_true, v_thrown hj.1, Option.bind_some]
  have thr : ∀ c : Int32, c ≠ 0 → q1 = c → mI μ2 56 0 = c → Ev (fun n => if mI μ2 56 0 = q1 then if q1 = 0 then if ok μ2 70 101 = true then if ib 0 (mZ μ2 70) = true then if lg_cmp (mL μ2 70 (Int32.toNatClampNeg 0)) r1.toInt64 = 0 then some μ2 else none else none else none else some μ2 else none) Gd := by
    intro c hc z y
    simp only [z, y, hc, if_true, if_false]
    exact Ev.c ⟨p, hj⟩
  have out : ∀ k' i', cntA p 65536 ≤ 64 → k' < cntA p 65536 → i' < pH p → ¬ ((nI k' < 0 ∨ nI (cntA p 65536) ≤ nI k') ∨ (nI i' < 0 ∨ nI (pH p) ≤ nI i')) := by
    intro k' i' hc hk hi z
    rcases z with (z | z) | (z | z)
    · exact absurd z (nI_pos (by omega))
    · exact absurd z (nI_ge hk (by omega))
    · exact absurd z (nI_pos (by omega))
    · exact absurd z (nI_ge hi (by omega))
  rcases hq with ⟨ht, z⟩ | ⟨ht, hb, z⟩ | ⟨ht, hb, hc, z⟩ | ⟨ht, hb, hc, ho, z⟩ | ⟨ht, hb, hc, b, i', w1, w2, w3, w4, w5, w6, z, z2⟩
  · rcases hq2 with ⟨-, y⟩ | ⟨ht2, -⟩ | ⟨ht2, -⟩ | ⟨ht2, -⟩ | ⟨ht2, -⟩
    · exact thr 1 (by decide) z y
    · exact absurd ht2 ht
    · exact absurd ht2 ht
    · exact absurd ht2 ht
    · exact absurd ht2 ht
  · rcases hq2 with ⟨ht2, -⟩ | ⟨-, -, y⟩ | ⟨-, hb2, -⟩ | ⟨-, hb2, -⟩ | ⟨-, hb2, -⟩
    · exact absurd ht ht2
    · exact thr 2 (by decide) z y
    · exact absurd hb2 hb
    · exact absurd hb2 hb
    · exact absurd hb2 hb
  · rcases hq2 with ⟨ht2, -⟩ | ⟨-, hb2, -⟩ | ⟨-, -, -, y⟩ | ⟨-, -, hc2, -⟩ | ⟨-, -, hc2, -⟩
    · exact absurd ht ht2
    · exact absurd hb hb2
    · exact thr 3 (by decide) z y
    · exact absurd hc (by omega)
    · exact absurd hc (by omega)
  · rcases hq2 with ⟨ht2, -⟩ | ⟨-, hb2, -⟩ | ⟨-, -, hc2, -⟩ | ⟨-, -, -, -, y⟩ | ⟨-, -, -, k', i', v1, v2, v3, v4, -⟩
    · exact absurd ht ht2
    · exact absurd hb hb2
    · exact absurd hc (by omega)
    · exact thr 4 (by decide) z y
    · subst v3 v4
      exact absurd ho (out k' i' hc v1 v2)
  · rcases hq2 with ⟨ht2, -⟩ | ⟨-, hb2, -⟩ | ⟨-, -, hc2, -⟩ | ⟨-, -, -, ho, -⟩ | ⟨-, -, -, k'', i'', v1, v2, v3, v4, y, y2⟩
    · exact absurd ht ht2
    · exact absurd hb hb2
    · exact absurd hc (by omega)
    · subst w5 w6
      exact absurd ho (out _ i' hc w3 w4)
    · have e1 : cntA p b = k'' := (nI_eq (by omega) (by omega)).mp (w5.symm.trans v3)
      have e2 : i' = i'' := (nI_eq (by omega) (by omega)).mp (w6.symm.trans v4)
      subst e2
      simp only [show q1 = 0 from z, show mI μ2 56 0 = 0 from y, if_true, hj.1.k (k := 70) (c := 101) (by decide), hj.1.z (show 70 < 71 by decide), show (kz 70).2 = 1 by decide, show ib 0 1 = true by decide, show Int32.toNatClampNeg 0 = 0 by decide, RP.out hF, show mL μ1 70 0 = ((nI b >>> ((4 * (nI (pH p) - 1 - nI i')) &&& 31)) &&& 15).toInt64 from z2, show r1 = (nI b >>> ((4 * (nI (pH p) - 1 - nI i')) &&& 31)) &&& 15 from y2 b w1 w2 e1, lc_self]
      exact Ev.c ⟨p, hj⟩
