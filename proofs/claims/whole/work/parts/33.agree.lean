/-! The class's atoms: rows that agree -/
theorem v_self {μ : Mem} (hS : Sh μ) {e r sz : Nat} {V : Nat → Nat → Nat} {X : Nat → Nat} (he : e < 6) (hA : AtC μ e r sz V X) {k : Nat} (hk : k < sz) : Ev (fun n => C_AT_agreesWithItself n (18 + 2 * e) (nI k) μ) (fun q => q.2 = μ ∧ (q.1 = 0 ↔ ¬ ∀ i, i < 3 → ∀ j, j < i → X i = X j → V k i = V k j)) := by
  obtain ⟨hr, hA2, hAX, -, hR⟩ := hA
  have hsz := hR.1
  have hsz2 := hR.2.1
  have hV := (hR.2.2 k hk).2
  have step : ∀ (Q : Int32 × Mem → Prop) (i j : Nat), j < i → i < 3 → ((X i = X j → V k i = V k j) → Ev (fun n => F_AT_agreesWithItself n 2 (18 + 2 * e) (nI k) (nI i) (nI (j + 1)) μ) Q) → (¬ (X i = X j → V k i = V k j) → Q (0, μ)) → Ev (fun n => F_AT_agreesWithItself n 2 (18 + 2 * e) (nI k) (nI i) (nI j) μ) Q := by
    intro Q i j hj hi h1 h2
    refine E_AT_agreesWithItself_2 ?_
    simp only [B_AT_agreesWithItself_2, nI_ge hj (show i < 2 ^ 31 by omega), if_false, hS.oA he, hA2, hS.oR hr, if_true, hS.rV he, hS.oV he, hS.zV he, ib_i hi (show 3 < 2 ^ 31 by decide), ib_i (show j < 3 by omega) (show 3 < 2 ^ 31 by decide), nI_clamp (show i < 2 ^ 31 by omega), nI_clamp (show j < 2 ^ 31 by omega), (hAX i hi).1, (hAX j (by omega)).1, nI_eq (show X i < 2 ^ 31 by have := (hAX i hi).2; omega) (show X j < 2 ^ 31 by have := (hAX j (by omega)).2; omega), v_valueAt hS hr hR hk hi, v_valueAt hS hr hR hk (show j < 3 by omega), Option.bind_some, nI_eq (show V k i < 2 ^ 31 by have := hV i hi; omega) (show V k j < 2 ^ 31 by have := hV j (by omega); omega)]
    refine Ev.i (fun hx => Ev.i (fun hv => ?_) (fun hv => ?_)) (fun hx => ?_)
    · refine E_AT_agreesWithItself_3 ?_
      simp only [B_AT_agreesWithItself_3, Option.bind_some, nI_1]
      exact h1 (fun _ => hv)
    · exact Ev.c (h2 (fun z => hv (z hx)))
    · refine E_AT_agreesWithItself_3 ?_
      simp only [B_AT_agreesWithItself_3, Option.bind_some, nI_1]
      exact h1 (fun z => absurd z hx)
  have fin : ∀ (Q : Int32 × Mem → Prop) (i : Nat), i < 3 → Ev (fun n => F_AT_agreesWithItself n 1 (18 + 2 * e) (nI k) (nI (i + 1)) 0 μ) Q → Ev (fun n => F_AT_agreesWithItself n 2 (18 + 2 * e) (nI k) (nI i) (nI i) μ) Q := by
    intro Q i hi h1
    refine E_AT_agreesWithItself_2 ?_
    simp only [B_AT_agreesWithItself_2, nI_le (Nat.le_refl i) (show i < 2 ^ 31 by omega), if_true, Option.bind_some, nI_1]
    exact h1
  unfold C_AT_agreesWithItself
  refine E_AT_agreesWithItself_0 ?_
  simp only [B_AT_agreesWithItself_0]
  refine E_AT_agreesWithItself_1 ?_
  simp only [B_AT_agreesWithItself_1, show ¬ ((3 : Int32) ≤ 1) by decide, if_false]
  refine step _ 1 0 (by decide) (by decide) (fun a => ?_) (fun a => ⟨rfl, fun _ z => a (z 1 (by decide) 0 (by decide)), fun _ => rfl⟩)
  refine fin _ 1 (by decide) ?_
  refine E_AT_agreesWithItself_1 ?_
  simp only [B_AT_agreesWithItself_1, n3c (show 1 + 1 < 3 by decide), if_false]
  refine step _ 2 0 (by decide) (by decide) (fun a2 => ?_) (fun a => ⟨rfl, fun _ z => a (z 2 (by decide) 0 (by decide)), fun _ => rfl⟩)
  refine step _ 2 1 (by decide) (by decide) (fun a3 => ?_) (fun a => ⟨rfl, fun _ z => a (z 2 (by decide) 1 (by decide)), fun _ => rfl⟩)
  refine fin _ 2 (by decide) ?_
  refine E_AT_agreesWithItself_1 ?_
  simp only [B_AT_agreesWithItself_1, n3, if_true]
  refine Ev.c ⟨rfl, fun z => absurd (show (1 : Int32) = 0 from z) (by decide), fun z => absurd (fun i hi j hj => ?_) z⟩
  have : (i = 1 ∧ j = 0) ∨ (i = 2 ∧ j = 0) ∨ (i = 2 ∧ j = 1) := by omega
  rcases this with ⟨rfl, rfl⟩ | ⟨rfl, rfl⟩ | ⟨rfl, rfl⟩
  · exact a
  · exact a2
  · exact a3
/-- self-agreement, in both ways of saying it -/
theorem self_iff {v : Nat → Nat} {X : Nat → Nat} : (∀ i, i < 3 → ∀ j, j < i → X i = X j → v i = v j) ↔ ∀ c, c < 3 → ∀ c', c' < 3 → X c = X c' → v c = v c' := by
  constructor
  · intro h c hc c' hc' hx
    rcases Nat.lt_trichotomy c c' with z | z | z
    · exact (h c' hc' c z hx.symm).symm
    · rw [z]
    · exact h c hc c' z hx
  · intro h i hi j hj hx
    exact h i hi j (by omega) hx
theorem v_selfs {μ : Mem} (hS : Sh μ) {e r sz : Nat} {V : Nat → Nat → Nat} {X : Nat → Nat} (he : e < 6) (hA : AtC μ e r sz V X) : Ev (fun n => C_AT_rowsAgreeingWithThemselves n (18 + 2 * e) μ) (fun q => q.2 = μ ∧ ∀ k, k < 32 → (bt q.1 k = true ↔ k < sz ∧ ∀ c, c < 3 → ∀ c', c' < 3 → X c = X c' → V k c = V k c')) := by
  have hA' := hA
  obtain ⟨hr, hA2, hAX, -, hR⟩ := hA
  have hsz := hR.1
  have hsz2 := hR.2.1
  have loop : ∀ (d i : Nat) (m : Int32), i + d = sz → (∀ k, k < 32 → (bt m k = true ↔ k < i ∧ ∀ c, c < 3 → ∀ c', c' < 3 → X c = X c' → V k c = V k c')) → Ev (fun n => F_AT_rowsAgreeingWithThemselves n 1 (18 + 2 * e) m (nI i) μ) (fun q => q.2 = μ ∧ ∀ k, k < 32 → (bt q.1 k = true ↔ k < sz ∧ ∀ c, c < 3 → ∀ c', c' < 3 → X c = X c' → V k c = V k c')) := by
    intro d
    induction d with
    | zero =>
      intro i m hi hm
      have : i = sz := by omega
      subst this
      refine E_AT_rowsAgreeingWithThemselves_1 ?_
      simp only [B_AT_rowsAgreeingWithThemselves_1, hS.oA he, hA2, hS.oR hr, hsz, nI_le (Nat.le_refl i) (show i < 2 ^ 31 by omega), if_true]
      exact Ev.c ⟨rfl, hm⟩
    | succ d ih =>
      intro i m hi hm
      have hlt : i < sz := by omega
      refine E_AT_rowsAgreeingWithThemselves_1 ?_
      simp only [B_AT_rowsAgreeingWithThemselves_1, hS.oA he, hA2, hS.oR hr, hsz, nI_ge hlt (show sz < 2 ^ 31 by omega), if_true, if_false]
      refine Ev.b (v_self hS he hA' hlt) (fun q hq => ?_)
      obtain ⟨q1, q2⟩ := q
      obtain ⟨rfl, hq⟩ := hq
      rw [self_iff] at hq
      refine Ev.i (fun h0 => ?_) (fun h0 => ?_)
      · refine E_AT_rowsAgreeingWithThemselves_2 ?_
        simp only [B_AT_rowsAgreeingWithThemselves_2, Option.bind_some, nI_1]
        refine ih (i + 1) m (by omega) (fun k h32 => ?_)
        rw [hm k h32]
        refine ⟨fun z => ⟨by omega, z.2⟩, fun z => ⟨?_, z.2⟩⟩
        rcases Nat.lt_or_ge k i with h | h
        · exact h
        · have : k = i := by omega
          subst this
          exact absurd z.2 (hq.mp h0)
      · simp only [Option.bind_some]
        refine E_AT_rowsAgreeingWithThemselves_2 ?_
        simp only [B_AT_rowsAgreeingWithThemselves_2, Option.bind_some, nI_1]
        refine ih (i + 1) _ (by omega) (fun k h32 => ?_)
        rw [bt_or, bt_one i (by omega) k h32, Bool.or_eq_true, hm k h32, decide_eq_true_eq]
        constructor
        · rintro (z | z)
          · exact ⟨by omega, z.2⟩
          · subst z
            exact ⟨by omega, Classical.byContradiction (fun y => h0 (hq.mpr y))⟩
        · rintro ⟨z1, z2⟩
          rcases Nat.lt_or_ge k i with h | h
          · exact Or.inl ⟨h, z2⟩
          · exact Or.inr (by omega)
  unfold C_AT_rowsAgreeingWithThemselves
  refine E_AT_rowsAgreeingWithThemselves_0 ?_
  simp only [B_AT_rowsAgreeingWithThemselves_0]
  exact loop sz 0 0 (by omega) (fun k _ => by rw [bt_0]; exact ⟨fun z => (by cases z), fun z => absurd z.1 (by omega)⟩)
/-- the rows of e that agree with the row k2 of e2 -/
theorem v_agree {μ : Mem} (hS : Sh μ) {e r sz e2 r2 sz2 : Nat} {V V2 : Nat → Nat → Nat} {X X2 : Nat → Nat} (he : e < 6) (hA : AtC μ e r sz V X) (he2 : e2 < 6) (hA2 : AtC μ e2 r2 sz2 V2 X2) {k2 : Nat} (hk : k2 < sz2) : Ev (fun n => C_AT_rowsAgreeingWith n (18 + 2 * e) (18 + 2 * e2) (nI k2) μ) (fun q => q.2 = μ ∧ ∀ k, k < 32 → (bt q.1 k = true ↔ k < sz ∧ ∀ c, c < 3 → ∀ c', c' < 3 → X2 c = X c' → V2 k2 c = V k c')) := by
  have hA' := hA
  obtain ⟨hr, hA1, -, -, hR⟩ := hA
  obtain ⟨hr2, hB1, hBX, -, hR2⟩ := hA2
  have loop : ∀ (d i : Nat) (m : Int32), i + d = 3 → (∀ k, k < 32 → (bt m k = true ↔ k < sz ∧ ∀ c, c < i → ∀ c', c' < 3 → X2 c = X c' → V2 k2 c = V k c')) → Ev (fun n => F_AT_rowsAgreeingWith n 1 (18 + 2 * e) (18 + 2 * e2) (nI k2) m (nI i) μ) (fun q => q.2 = μ ∧ ∀ k, k < 32 → (bt q.1 k = true ↔ k < sz ∧ ∀ c, c < 3 → ∀ c', c' < 3 → X2 c = X c' → V2 k2 c = V k c')) := by
    intro d
    induction d with
    | zero =>
      intro i m hi hm
      have : i = 3 := by omega
      subst this
      refine E_AT_rowsAgreeingWith_1 ?_
      simp only [B_AT_rowsAgreeingWith_1, n3, if_true]
      exact Ev.c ⟨rfl, hm⟩
    | succ d ih =>
      intro i m hi hm
      have hlt : i < 3 := by omega
      refine E_AT_rowsAgreeingWith_1 ?_
      simp only [B_AT_rowsAgreeingWith_1, n3c hlt, if_true, if_false, hS.oA he2, hB1, hS.oR hr2, v_valueAt hS hr2 hR2 hk hlt, Option.bind_some, hS.rV he2, hS.oV he2, hS.zV he2, ib_i hlt (show 3 < 2 ^ 31 by decide), hS.oA he, nI_clamp (show i < 2 ^ 31 by omega), (hBX i hlt).1]
      refine Ev.b (v_rowsAllowing hS he hA' (hBX i hlt).2 ((hR2.2.2 k2 hk).2 i hlt)) (fun q hq => ?_)
      obtain ⟨q1, q2⟩ := q
      obtain ⟨rfl, hq⟩ := hq
      simp only [nI_1]
      refine ih (i + 1) _ (by omega) (fun k h32 => ?_)
      rw [bt_and, Bool.and_eq_true, hm k h32, hq k h32]
      constructor
      · rintro ⟨⟨z1, z2⟩, -, z3⟩
        refine ⟨z1, fun c hc c' hc' hx => ?_⟩
        rcases Nat.lt_or_ge c i with h | h
        · exact z2 c h c' hc' hx
        · have : c = i := by omega
          subst this
          exact (z3 c' hc' hx.symm).symm
      · rintro ⟨z1, z2⟩
        exact ⟨⟨z1, fun c hc => z2 c (by omega)⟩, z1, fun c' hc' hx => (z2 i (by omega) c' hc' hx.symm).symm⟩
  unfold C_AT_rowsAgreeingWith
  refine E_AT_rowsAgreeingWith_0 ?_
  simp only [B_AT_rowsAgreeingWith_0, hS.oA he, hA1, hS.oR hr, hR.1, if_true, Option.bind_some]
  refine loop 3 0 _ (by omega) (fun k h32 => ?_)
  rw [bt_mask sz (by have := hR.2.1; omega) k h32, decide_eq_true_eq]
  exact ⟨fun h => ⟨h, fun _ h => by omega⟩, fun h => h.1⟩
/-- the values that rows of a set give to x -/
theorem v_valuesOf {μ : Mem} (hS : Sh μ) {e r sz : Nat} {V : Nat → Nat → Nat} {X : Nat → Nat} (he : e < 6) (hA : AtC μ e r sz V X) {x : Nat} {set : Int32} (hx : x < 8) : Ev (fun n => C_AT_valuesOf n (18 + 2 * e) (nI x) set μ) (fun q => q.2 = μ ∧ ∀ v, v < 32 → (bt q.1 v = true ↔ ∃ c, c < 3 ∧ X c = x ∧ ∃ k, k < sz ∧ bt set k = true ∧ V k c = v)) := by
  obtain ⟨hr, hA2, hAX, -, hR⟩ := hA
  have hsz := hR.1
  have hsz2 := hR.2.1
  have inner : ∀ (Q : Int32 × Mem → Prop) (c : Nat) (hc : c < 3) (d i : Nat) (m : Int32), i + d = sz → (∀ m', (∀ v, v < 32 → (bt m' v = true ↔ bt m v = true ∨ (X c = x ∧ ∃ k, i ≤ k ∧ k < sz ∧ bt set k = true ∧ V k c = v))) → Ev (fun n => F_AT_valuesOf n 4 (18 + 2 * e) (nI x) set m' (nI c) 0 μ) Q) → Ev (fun n => F_AT_valuesOf n 2 (18 + 2 * e) (nI x) set m (nI c) (nI i) μ) Q := by
    intro Q c hc d
    induction d with
    | zero =>
      intro i m hi hk
      refine E_AT_valuesOf_2 ?_
      simp only [B_AT_valuesOf_2, hS.oA he, hA2, hS.oR hr, hsz, nI_le (show sz ≤ i by omega) (show i < 2 ^ 31 by omega), if_true]
      refine hk m (fun v _ => ⟨fun h => Or.inl h, fun h => ?_⟩)
      rcases h with h | ⟨-, k, z1, z2, -⟩
      · exact h
      · omega
    | succ d ih =>
      intro i m hi hk
      refine E_AT_valuesOf_2 ?_
      have hlt : i < sz := by omega
      simp only [B_AT_valuesOf_2, hS.oA he, hA2, hS.oR hr, hsz, nI_ge hlt (show sz < 2 ^ 31 by omega), if_true, if_false, hS.rV he, hS.oV he, hS.zV he, ib_i hc (show 3 < 2 ^ 31 by decide), nI_clamp (show c < 2 ^ 31 by omega), (hAX c hc).1, nI_eq (show X c < 2 ^ 31 by have := (hAX c hc).2; omega) (show x < 2 ^ 31 by omega), v_valueAt hS hr hR hlt hc, Option.bind_some, v_isIn (show i < 32 by omega)]
      have hV := (hR.2.2 i hlt).2 c hc
      refine Ev.i (fun hxx => ?_) (fun hxx => ?_)
      · by_cases hb : bt set i = true
        · simp only [hb, if_true, show ¬ ((1 : Int32) = 0) by decide, if_false]
          refine E_AT_valuesOf_3 ?_
          simp only [B_AT_valuesOf_3, Option.bind_some, nI_1]
          refine ih (i + 1) _ (by omega) (fun m' hm' => hk m' (fun v h32 => ?_))
          rw [hm' v h32, bt_or, Bool.or_eq_true, bt_one (V i c) (by omega) v h32, decide_eq_true_eq, or_assoc]
          refine or_congr_right ⟨?_, ?_⟩
          · rintro (z | ⟨z, k, z1, z2⟩)
            · exact ⟨hxx, i, Nat.le_refl _, hlt, hb, z.symm⟩
            · exact ⟨z, k, by omega, z2⟩
          · rintro ⟨z, k, z1, z2, z3, z4⟩
            by_cases hki : k = i
            · subst hki
              exact Or.inl z4.symm
            · exact Or.inr ⟨z, k, by omega, z2, z3, z4⟩
        · simp only [hb, if_false, if_true, Bool.false_eq_true]
          refine E_AT_valuesOf_3 ?_
          simp only [B_AT_valuesOf_3, Option.bind_some, nI_1]
          refine ih (i + 1) _ (by omega) (fun m' hm' => hk m' (fun v h32 => ?_))
          rw [hm' v h32]
          refine or_congr_right ⟨?_, ?_⟩
          · rintro ⟨z, k, z1, z2⟩
            exact ⟨z, k, by omega, z2⟩
          · rintro ⟨z, k, z1, z2, z3, z4⟩
            by_cases hki : k = i
            · subst hki
              exact absurd z3 hb
            · exact ⟨z, k, by omega, z2, z3, z4⟩
      · refine hk m (fun v _ => ⟨fun h => Or.inl h, fun h => ?_⟩)
        rcases h with h | ⟨z, -⟩
        · exact h
        · exact absurd z hxx
  have outer : ∀ (d c : Nat) (m : Int32), c + d = 3 → (∀ v, v < 32 → (bt m v = true ↔ ∃ c', c' < c ∧ X c' = x ∧ ∃ k, k < sz ∧ bt set k = true ∧ V k c' = v)) → Ev (fun n => F_AT_valuesOf n 1 (18 + 2 * e) (nI x) set m (nI c) 0 μ) (fun q => q.2 = μ ∧ ∀ v, v < 32 → (bt q.1 v = true ↔ ∃ c, c < 3 ∧ X c = x ∧ ∃ k, k < sz ∧ bt set k = true ∧ V k c = v)) := by
    intro d
    induction d with
    | zero =>
      intro c m hc hm
      have : c = 3 := by omega
      subst this
      refine E_AT_valuesOf_1 ?_
      simp only [B_AT_valuesOf_1, n3, if_true]
      exact Ev.c ⟨rfl, hm⟩
    | succ d ih =>
      intro c m hc hm
      refine E_AT_valuesOf_1 ?_
      simp only [B_AT_valuesOf_1, n3c (show c < 3 by omega), if_false]
      refine inner _ c (by omega) sz 0 m (by omega) (fun m' hm' => ?_)
      refine E_AT_valuesOf_4 ?_
      simp only [B_AT_valuesOf_4, Option.bind_some, nI_1]
      refine ih (c + 1) m' (by omega) (fun v h32 => ?_)
      rw [hm' v h32, hm v h32]
      constructor
      · rintro (⟨c', z1, z2⟩ | ⟨z1, k, -, z2⟩)
        · exact ⟨c', by omega, z2⟩
        · exact ⟨c, by omega, z1, k, z2⟩
      · rintro ⟨c', z1, z2, k, z3⟩
        rcases Nat.lt_or_ge c' c with h | h
        · exact Or.inl ⟨c', h, z2, k, z3⟩
        · have : c' = c := by omega
          subst this
          exact Or.inr ⟨z2, k, Nat.zero_le _, z3⟩
  unfold C_AT_valuesOf
  refine E_AT_valuesOf_0 ?_
  simp only [B_AT_valuesOf_0]
  refine outer 3 0 0 (by omega) (fun v _ => ?_)
  rw [bt_0]
  exact ⟨fun z => (by cases z), fun ⟨c', z, _⟩ => absurd z (by omega)⟩
