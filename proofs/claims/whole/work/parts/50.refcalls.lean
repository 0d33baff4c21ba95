/-! The reference's calls on the question -/
def tree (p : Pic) : Prop := pA p - (hangR (pA p) (pvs p) (pA p)).2.1 ≤ 1
/-- nothing of the class, and not the law's out, was written -/
def RP : Nat → Nat → Prop := fun a _ => 56 ≤ a ∧ a ≤ 69
theorem v_misTree {μ : Mem} {p : Pic} (h : Inv μ p) : Ev (fun n => C_MO_isTree n 56 μ) (fun q => Inv q.2 p ∧ Fr RP μ q.2 ∧ ((q.1 = 1 ∧ tree p) ∨ (q.1 = 0 ∧ ¬ tree p))) := by
  simp only [C_MO_isTree, h.1.k (k := 56) (c := 6) (by decide), if_true]
  refine Ev.b (v_mhang h.1 h.2.1.1 h.2.2.2.2.2.2.1) (fun μ1 h1 => ?_)
  have hi1 : Inv μ1 p := h.fr (h1.1.mo (fun a j z => by unfold MHP at z; unfold Sc; omega))
  have hF : Fr RP μ μ1 := h1.1.mo (fun a j z => by unfold MHP at z; unfold RP; omega)
  simp only [hi1.1.k (k := 56) (c := 6) (by decide), if_true, h1.2.1]
  refine Ev.i (fun ht => Ev.c ⟨hi1, hF, Or.inl ⟨rfl, (tree_iff h.2.1.1.2.2.1).mp ht⟩⟩) (fun ht => Ev.c ⟨hi1, hF, Or.inr ⟨rfl, fun z => ht ((tree_iff h.2.1.1.2.2.1).mpr z)⟩⟩)
theorem Inv.code {μ : Mem} {p : Pic} {v : Int32} (h : Inv μ p) : Inv (sI μ 56 0 v) p := h.sc (Or.inr (Or.inl ⟨rfl, Or.inl rfl⟩))
theorem Fr.code {μ ν : Mem} {v : Int32} (h : Fr RP μ ν) : Fr RP μ (sI ν 56 0 v) := h.i (by unfold RP; omega)
/-- what it knows, known -/
theorem Kn.kn {μ : Mem} {p : Pic} (h : Kn μ p) (h1 : mI μ 56 13 = 1) : mL μ 56 14 = lN (nW p) ∧ (∀ e, e < pA p → ∀ k, k < 32 → (bt (mI μ 67 e) k = true ↔ ∃ w, isWay p w ∧ w e = k)) ∧ (bound p → mI μ 56 19 = nI (cntA p 65536) ∧ ∀ a, a < 65536 → isAns p a → cntA p a < 64 → mI μ 69 (cntA p a) = nI a) := by
  rcases h with z | z
  · rw [z] at h1
    exact absurd h1 (by decide)
  · exact z.2
theorem Inv.kn {μ : Mem} {p : Pic} (h : Inv μ p) : Kn μ p := h.2.2.2.2.2.2.2.2.2.2
theorem v_lookR {μ : Mem} {p : Pic} (h : Inv μ p) : Ev (fun n => C_MO_look n 56 μ) (fun μ' => Inv μ' p ∧ mI μ' 56 13 = 1 ∧ Fr RP μ μ' ∧ mI μ' 56 0 = mI μ 56 0) :=
  (v_look h).w (fun μ' q => ⟨q.1, q.2.1, q.2.2.mo (fun a j z => by unfold LKP SP at z; unfold RP; omega), q.2.2.2.2.2.1 56 0 (by unfold LKP SP; omega)⟩)
theorem v_mways {μ : Mem} {p : Pic} (h : Inv μ p) : Ev (fun n => C_MO_ways n 56 μ) (fun q => Inv q.2 p ∧ Fr RP μ q.2 ∧ ((tree p ∧ mI q.2 56 0 = 0 ∧ q.1 = lN (nW p)) ∨ (¬ tree p ∧ mI q.2 56 0 = 1))) := by
  unfold C_MO_ways
  refine E_MO_ways_0 ?_
  simp only [B_MO_ways_0, h.1.k (k := 56) (c := 6) (by decide), if_true]
  refine Ev.b (v_misTree h) (fun q hq => ?_)
  obtain ⟨q1, μ1⟩ := q
  obtain ⟨hi, hF, ⟨rfl, ht⟩ | ⟨rfl, ht⟩⟩ := hq
  · simp only [show ¬ ((1 : Int32) = 0) by decide, if_false]
    refine E_MO_ways_1 ?_
    have h0 := hi.code (v := 0)
    simp only [B_MO_ways_1, hi.1.k (k := 56) (c := 6) (by decide), if_true, Option.bind_some, h0.1.k (k := 56) (c := 6) (by decide), mI_ss, show (0 : Int32) ≤ 0 by decide]
    refine Ev.b (v_lookR h0) (fun μ2 h2 => ?_)
    simp only [h2.1.1.k (k := 56) (c := 6) (by decide), if_true]
    refine Ev.c ⟨h2.1, hF.code.tr h2.2.2.1, Or.inl ⟨ht, ?_, (h2.1.kn.kn h2.2.1).1⟩⟩
    exact h2.2.2.2.trans mI_ss
  · simp only [if_true]
    refine E_MO_ways_1 ?_
    have h0 := hi.code (v := 1)
    simp only [B_MO_ways_1, hi.1.k (k := 56) (c := 6) (by decide), if_true, Option.bind_some, h0.1.k (k := 56) (c := 6) (by decide), mI_ss, show ¬ ((1 : Int32) ≤ 0) by decide, if_false]
    exact Ev.c ⟨h0, hF.code, Or.inr ⟨ht, mI_ss⟩⟩
noncomputable def nLv (p : Pic) (e : Nat) : Nat := sm 12 (fun k => ind (∃ w, isWay p w ∧ w e = k))
theorem v_mlive {μ : Mem} {p : Pic} (h : Inv μ p) (a : Int32) : Ev (fun n => C_MO_live n 56 a μ) (fun q => Inv q.2 p ∧ Fr RP μ q.2 ∧ ((¬ tree p ∧ mI q.2 56 0 = 1) ∨ (tree p ∧ (a < 0 ∨ nI (pA p) ≤ a) ∧ mI q.2 56 0 = 2) ∨ (tree p ∧ ∃ e, e < pA p ∧ a = nI e ∧ mI q.2 56 0 = 0 ∧ q.1 = nI (nLv p e)))) := by
  have hN := h.2.1.1.2.2.1
  unfold C_MO_live
  refine E_MO_live_0 ?_
  simp only [B_MO_live_0, h.1.k (k := 56) (c := 6) (by decide), if_true]
  refine Ev.b (v_misTree h) (fun q hq => ?_)
  obtain ⟨q1, μ1⟩ := q
  obtain ⟨hi, hF, ⟨rfl, ht⟩ | ⟨rfl, ht⟩⟩ := hq
  · simp only [show ¬ ((1 : Int32) = 0) by decide, if_false, hi.1.k (k := 56) (c := 6) (by decide), if_true]
    rcases in_or (x := a) (pA p) (by omega) with ha | ⟨e, he, rfl⟩
    · simp only [v_ao hi.1 hi.2.2.2.2.2.2.1.2.1 ha, Option.bind_some, if_true]
      refine E_MO_live_1 ?_
      have h0 := hi.code (v := 2)
      simp only [B_MO_live_1, hi.1.k (k := 56) (c := 6) (by decide), if_true, Option.bind_some, h0.1.k (k := 56) (c := 6) (by decide), mI_ss, show ¬ ((2 : Int32) ≤ 0) by decide, if_false]
      exact Ev.c ⟨h0, hF.code, Or.inr (Or.inl ⟨ht, ha, mI_ss⟩)⟩
    · simp only [v_ai hi.1 hi.2.2.2.2.2.2.1.2.1 he (show pA p < 2 ^ 31 by omega), Option.bind_some, show ¬ ((1 : Int32) = 0) by decide, if_false]
      refine E_MO_live_1 ?_
      have h0 := hi.code (v := 0)
      simp only [B_MO_live_1, hi.1.k (k := 56) (c := 6) (by decide), if_true, Option.bind_some, h0.1.k (k := 56) (c := 6) (by decide), mI_ss, show (0 : Int32) ≤ 0 by decide]
      refine Ev.b (v_lookR h0) (fun μ2 h2 => ?_)
      have hkn := (h2.1.kn.kn h2.2.1).2.1 e he
      have c0 : mI μ2 56 0 = 0 := h2.2.2.2.trans mI_ss
      have loop : ∀ (t i : Nat), i + t = 12 → Ev (fun n => F_MO_live n 2 56 (nI e) (nI (sm i (fun k => ind (∃ w, isWay p w ∧ w e = k)))) (nI i) 0 0 μ2) (fun q => Inv q.2 p ∧ Fr RP μ q.2 ∧ ((¬ tree p ∧ mI q.2 56 0 = 1) ∨ (tree p ∧ (nI e < 0 ∨ nI (pA p) ≤ nI e) ∧ mI q.2 56 0 = 2) ∨ (tree p ∧ ∃ e', e' < pA p ∧ nI e = nI e' ∧ mI q.2 56 0 = 0 ∧ q.1 = nI (nLv p e')))) := by
        intro t
        induction t with
        | zero =>
          intro i hi'
          have : i = 12 := by omega
          subst this
          refine E_MO_live_2 ?_
          simp only [B_MO_live_2, show (12 : Int32) ≤ nI 12 by decide, if_true]
          exact Ev.c ⟨h2.1, hF.code.tr h2.2.2.1, Or.inr (Or.inr ⟨ht, e, he, rfl, c0, rfl⟩)⟩
        | succ t ih =>
          intro i hi'
          have hge : ¬ ((12 : Int32) ≤ nI i) := nI_ge (b := 12) (by omega) (by decide)
          have hbit : ((mI μ2 67 e >>> (nI i &&& 31)) &&& 1) = nI (ind (∃ w, isWay p w ∧ w e = i)) := by
            by_cases hb : bt (mI μ2 67 e) i = true
            · rw [(bt_is1 (by omega)).mpr hb, ind_t ((hkn i (by omega)).mp hb)]
              rfl
            · rw [(bt_is (by omega)).mpr (by simpa using hb), ind_f (fun z => hb ((hkn i (by omega)).mpr z))]
              rfl
          refine E_MO_live_2 ?_
          simp only [B_MO_live_2, hge, if_false, h2.1.1.k (k := 56) (c := 6) (by decide), h2.1.1.r (k := 56) (j := 17) (v := 67) (by decide), h2.1.1.k (k := 67) (c := 100) (by decide), h2.1.1.z (show 67 < 71 by decide), show (kz 67).2 = 6 by decide, ib_i (show e < 6 by omega) (show 6 < 2 ^ 31 by decide), nI_clamp (show e < 2 ^ 31 by omega), if_true, hbit, nI_add, Option.bind_some, nI_1]
          exact ih (i + 1) (by omega)
      exact loop 12 0 (by omega)
  · simp only [if_true]
    refine E_MO_live_1 ?_
    have h0 := hi.code (v := 1)
    simp only [B_MO_live_1, hi.1.k (k := 56) (c := 6) (by decide), if_true, Option.bind_some, h0.1.k (k := 56) (c := 6) (by decide), mI_ss, show ¬ ((1 : Int32) ≤ 0) by decide, if_false]
    exact Ev.c ⟨h0, hF.code, Or.inl ⟨ht, mI_ss⟩⟩
theorem v_mhead {μ : Mem} {p : Pic} (h : Inv μ p) : Ev (fun n => C_MO_isHeadBound n 56 μ) (fun q => q.2 = μ ∧ ((q.1 = 1 ∧ bound p) ∨ (q.1 = 0 ∧ ¬ bound p))) := by
  have hN := h.2.1.1.2.2.1
  have hH := h.2.1.2.2.2.2.2.1
  have hD8 := h.2.1.2.2.2.2.2.2.1
  have hS := h.1
  have hMA := h.2.2.2.2.2.2.1
  have hMD := h.2.2.2.2.2.2.2.2.1
  have loop : ∀ (t i : Nat) (b : Int32), i + t = pH p → (b = 0 ∨ b = 1) → (b = 1 ↔ ∀ j, j < i → ∃ e, e < pA p ∧ ∃ c, c < 3 ∧ pX p e c = pD p j) → Ev (fun n => F_MO_isHeadBound n 1 56 b (nI i) 0 μ) (fun q => q.2 = μ ∧ ((q.1 = 1 ∧ bound p) ∨ (q.1 = 0 ∧ ¬ bound p))) := by
    intro t
    induction t with
    | zero =>
      intro i b hi hb hb2
      have : i = pH p := by omega
      subst this
      refine E_MO_isHeadBound_1 ?_
      simp only [B_MO_isHeadBound_1, hS.k (k := 56) (c := 6) (by decide), hMD.1, nI_le (Nat.le_refl (pH p)) (show pH p < 2 ^ 31 by omega), if_true, hb]
      refine Ev.c ⟨rfl, ?_⟩
      rcases hb with rfl | rfl
      · exact Or.inr ⟨rfl, fun z => absurd (hb2.mpr z) (by decide)⟩
      · exact Or.inl ⟨rfl, hb2.mp rfl⟩
    | succ t ih =>
      intro i b hi hb hb2
      have hlt : i < pH p := by omega
      have hx8 := hD8 i hlt
      refine E_MO_isHeadBound_1 ?_
      simp only [B_MO_isHeadBound_1, hS.k (k := 56) (c := 6) (by decide), hMD.1, nI_ge hlt (show pH p < 2 ^ 31 by omega), if_true, if_false, hMA.2.1]
      have no : (¬ ∀ j, j < i + 1 → ∃ e, e < pA p ∧ ∃ c, c < 3 ∧ pX p e c = pD p j) → Ev (fun n => F_MO_isHeadBound n 2 56 0 (nI i) 0 μ) (fun q => q.2 = μ ∧ ((q.1 = 1 ∧ bound p) ∨ (q.1 = 0 ∧ ¬ bound p))) := by
        intro hne
        refine E_MO_isHeadBound_2 ?_
        simp only [B_MO_isHeadBound_2]
        refine E_MO_isHeadBound_3 ?_
        simp only [B_MO_isHeadBound_3, Option.bind_some, nI_1]
        exact ih (i + 1) 0 (by omega) (Or.inl rfl) ⟨fun z => absurd z (by decide), fun z => absurd z hne⟩
      rcases hb with rfl | rfl
      · simp only [if_true]
        exact no (fun z => absurd (hb2.mpr (fun j hj => z j (by omega))) (by decide))
      · simp only [show ¬ ((1 : Int32) = 0) by decide, if_false]
        refine Ev.o (v_before hS h.2.1.1 hMA (Nat.le_refl _)) ?_
        simp only [hS.k (k := 56) (c := 6) (by decide), hS.r (k := 56) (j := 9) (v := 62) (by decide), hS.k (k := 62) (c := 100) (by decide), hS.z (show 62 < 71 by decide), show (kz 62).2 = 4 by decide, ib_i (show i < 4 by omega) (show 4 < 2 ^ 31 by decide), nI_clamp (show i < 2 ^ 31 by omega), hMD.2 i hlt, if_true, bt_is1 (show pD p i < 32 by omega)]
        refine Ev.i (fun he => ?_) (fun he => no (fun z => he ((bt_orF h.2.1.1 (show pD p i < 32 by omega) (pA p) (Nat.le_refl _)).mpr (z i (by omega)))))
        have he := (bt_orF h.2.1.1 (show pD p i < 32 by omega) (pA p) (Nat.le_refl _)).mp he
        refine E_MO_isHeadBound_3 ?_
        simp only [B_MO_isHeadBound_3, Option.bind_some, nI_1]
        refine ih (i + 1) 1 (by omega) (Or.inr rfl) ⟨fun _ j hj => ?_, fun _ => rfl⟩
        rcases Nat.lt_or_ge j i with q | q
        · exact hb2.mp rfl j q
        · have : j = i := by omega
          subst this
          exact he
  unfold C_MO_isHeadBound
  refine E_MO_isHeadBound_0 ?_
  simp only [B_MO_isHeadBound_0]
  exact loop (pH p) 0 1 (by omega) (Or.inr rfl) ⟨fun _ j hj => absurd hj (Nat.not_lt_zero _), fun _ => rfl⟩
