/-! Where a row lies -/
theorem pack3 : ∀ a, a < 16 → ∀ b, b < 16 → ∀ c, c < 16 → ((nI a ||| (nI b <<< (4 &&& 31))) ||| (nI c <<< (8 &&& 31))) = nI (a + 16 * b + 256 * c) := by decide +kernel
section PK
variable {μ : Mem} {r w : Nat} {x y z : Int32}
theorem v_pack0 (hS : Sh μ) (hr : r < 6) (hw : mI μ (3 + 2 * r) 1 = nI w) (hw3 : w ≤ 3) {Q : Int32 × Mem → Prop} (h : Ev (fun n => F_RE_pack n 2 0 x 0 0 (cl w x y z 1) (cl w x y z 2) μ) Q) : Ev (fun n => C_RE_pack n (3 + 2 * r) x y z μ) Q := by
  obtain ⟨l1, l2⟩ := le1 hw3
  unfold C_RE_pack
  refine E_RE_pack_0 ?_
  simp only [B_RE_pack_0, hS.oR hr, hw, if_true, l1]
  have k1 : Ev (fun n => F_RE_pack n 1 (3 + 2 * r) x 0 z 0 (cl w x y z 1) μ) Q := by
    refine E_RE_pack_1 ?_
    simp only [B_RE_pack_1, hS.oR hr, hw, if_true, l2]
    refine Ev.i (fun h2 => ?_) (fun h2 => ?_)
    · have : cl w x y z 2 = x := by simp [cl, h2]
      rw [this] at h
      exact h
    · have : cl w x y z 2 = z := by simp [cl, h2]
      rw [this] at h
      exact h
  refine Ev.i (fun h1 => ?_) (fun h1 => ?_)
  · have : cl w x y z 1 = x := by simp [cl, h1]
    rw [this] at k1
    exact k1
  · have : cl w x y z 1 = y := by simp [cl, h1]
    rw [this] at k1
    exact k1
theorem v_packNo (hS : Sh μ) (hr : r < 6) (hw : mI μ (3 + 2 * r) 1 = nI w) (hw3 : w ≤ 3) (h : ∃ i, i < 3 ∧ (cl w x y z i < 0 ∨ nI 16 ≤ cl w x y z i)) : EvO (fun n => C_RE_pack n (3 + 2 * r) x y z μ) (some (-1, μ)) := by
  refine Ev.eq (v_pack0 hS hr hw hw3 ?_)
  refine E_RE_pack_2 ?_
  simp only [B_RE_pack_2]
  have out : ∀ {a : Int32} (n : Nat), (a < 0 ∨ nI 16 ≤ a) → C_JL_isBelow n a 16 μ = some (0, μ) := fun n ha => v_bo (N := 16) ha
  have inn : ∀ {j : Nat} (n : Nat), j < 16 → C_JL_isBelow n (nI j) 16 μ = some (1, μ) := fun n hj => v_bi (N := 16) hj (by decide)
  rcases in_or (x := x) 16 (by decide) with h0 | ⟨a, ha, h0⟩
  · simp only [out _ h0, Option.bind_some, if_true]
    exact Ev.c rfl
  rcases in_or (x := cl w x y z 1) 16 (by decide) with h1 | ⟨b, hb, h1⟩
  · simp only [h0, inn _ ha, out _ (h0 ▸ h1), Option.bind_some, if_true, show ¬ ((1 : Int32) = 0) by decide, if_false]
    exact Ev.c rfl
  rcases in_or (x := cl w x y z 2) 16 (by decide) with h2 | ⟨c, hc, h2⟩
  · simp only [h1]
    simp only [h0, inn _ ha, inn _ hb, out _ (h0 ▸ h2), Option.bind_some, if_true, show ¬ ((1 : Int32) = 0) by decide, if_false]
    exact Ev.c rfl
  · obtain ⟨i, hi, h⟩ := h
    have : i = 0 ∨ i = 1 ∨ i = 2 := by omega
    rcases this with rfl | rfl | rfl
    · exact (not_both (by decide) ha h h0).elim
    · exact (not_both (by decide) hb h h1).elim
    · exact (not_both (by decide) hc h h2).elim
theorem v_packYes (hS : Sh μ) (hr : r < 6) (hw : mI μ (3 + 2 * r) 1 = nI w) (hw3 : w ≤ 3) {X : Nat → Nat} (h : ∀ i, i < 3 → X i < 16 ∧ cl w x y z i = nI (X i)) : EvO (fun n => C_RE_pack n (3 + 2 * r) x y z μ) (some (nI (X 0 + 16 * X 1 + 256 * X 2), μ)) := by
  refine Ev.eq (v_pack0 hS hr hw hw3 ?_)
  refine E_RE_pack_2 ?_
  obtain ⟨ha, h0⟩ := h 0 (by decide)
  obtain ⟨hb, h1⟩ := h 1 (by decide)
  obtain ⟨hc, h2⟩ := h 2 (by decide)
  have h0 : x = nI (X 0) := h0
  have inn : ∀ {j : Nat} (n : Nat), j < 16 → C_JL_isBelow n (nI j) 16 μ = some (1, μ) := fun n hj => v_bi (N := 16) hj (by decide)
  simp only [B_RE_pack_2, h1, h2]
  simp only [h0, inn _ ha, inn _ hb, inn _ hc, Option.bind_some, show ¬ ((1 : Int32) = 0) by decide, if_false, pack3 _ ha _ hb _ hc]
  exact Ev.c rfl
/-- the class's place of a packed row -/
theorem v_place (hS : Sh μ) (hr : r < 6) {sz : Nat} {V : Nat → Nat → Nat} (hR : RelC μ r sz V) (row : Int32) : EvO (fun n => C_RE_placeOf n (3 + 2 * r) row μ) (some (enc (fd (fun k => decide (mI μ (4 + 2 * r) k = row)) sz 0), μ)) := by
  have h1 := hR.1
  have h2 := hR.2.1
  have loop : ∀ (d i : Nat), i + d = sz → Ev (fun n => F_RE_placeOf n 1 (3 + 2 * r) row (nI i) μ) (fun q => q = (enc (fd (fun k => decide (mI μ (4 + 2 * r) k = row)) d i), μ)) := by
    intro d
    induction d with
    | zero =>
      intro i hi
      have : i = sz := by omega
      subst this
      refine E_RE_placeOf_1 ?_
      simp only [B_RE_placeOf_1, hS.oR hr, h1, nI_le (Nat.le_refl i) (show i < 2 ^ 31 by omega), if_true]
      exact Ev.c rfl
    | succ d ih =>
      intro i hi
      have hlt : i < sz := by omega
      refine E_RE_placeOf_1 ?_
      simp only [B_RE_placeOf_1, hS.oR hr, h1, nI_ge hlt (show sz < 2 ^ 31 by omega), if_true, if_false, hS.rP hr, hS.oP hr, hS.zP hr, ib_i (show i < 12 by omega) (show 12 < 2 ^ 31 by decide), nI_clamp (show i < 2 ^ 31 by omega), Option.bind_some, nI_1]
      refine Ev.i (fun he => ?_) (fun he => ?_)
      · simp only [fd, he, decide_true, if_true]
        exact Ev.c rfl
      · simp only [fd, he, decide_false, if_false, Bool.false_eq_true]
        exact ih (i + 1) (by omega)
  refine Ev.eq ?_
  unfold C_RE_placeOf
  refine E_RE_placeOf_0 ?_
  simp only [B_RE_placeOf_0]
  exact loop sz 0 (by omega)
end PK
/-- row k is the row that x, y, z name -/
def mt (V : Nat → Nat → Nat) (w : Nat) (x y z : Int32) (k : Nat) : Prop := ∀ i, i < 3 → nI (V k i) = cl w x y z i
def Pl (sz : Nat) (M : Nat → Prop) (o : Option Nat) : Prop := (o = none ∧ ∀ k, k < sz → ¬ M k) ∨ ∃ k, o = some k ∧ k < sz ∧ M k
/-- what is in range, in the class and in the reference -/
theorem v_cplace {μ : Mem} {r w sz : Nat} {V : Nat → Nat → Nat} {x y z : Int32} (hS : Sh μ) (hr : r < 6) (hR : RelC μ r sz V) : (∃ i, i < 3 ∧ (cl w x y z i < 0 ∨ nI 16 ≤ cl w x y z i)) → ∃ o, Pl sz (mt V w x y z) o ∧ o = none ∧ EvO (fun n => C_RE_placeOf n (3 + 2 * r) (-1) μ) (some (enc o, μ)) := by
  rintro ⟨i, hi, hbad⟩
  have hn : fd (fun k => decide (mI μ (4 + 2 * r) k = -1)) sz 0 = none := by
    refine fd_none.mpr (fun k _ hk => ?_)
    obtain ⟨h3, h4⟩ := hR.2.2 k (by omega)
    have a0 := h4 0 (by decide)
    have a1 := h4 1 (by decide)
    have a2 := h4 2 (by decide)
    rw [decide_eq_false_iff_not, h3]
    intro z
    have := nI_pos (n := V k 0 + 16 * V k 1 + 256 * V k 2) (by omega)
    rw [z] at this
    exact this (by decide)
  refine ⟨none, Or.inl ⟨rfl, fun k hk hm => ?_⟩, rfl, ?_⟩
  · have h4 := (hR.2.2 k hk).2 i hi
    exact not_both (by decide) h4 hbad (hm i hi).symm
  · have := v_place hS hr hR (-1)
    rw [hn] at this
    exact this
theorem v_cplace2 {μ : Mem} {r w sz : Nat} {V : Nat → Nat → Nat} {x y z : Int32} {X : Nat → Nat} (hS : Sh μ) (hr : r < 6) (hR : RelC μ r sz V) (hX : ∀ i, i < 3 → X i < 16 ∧ cl w x y z i = nI (X i)) : ∃ o, Pl sz (mt V w x y z) o ∧ EvO (fun n => C_RE_placeOf n (3 + 2 * r) (nI (X 0 + 16 * X 1 + 256 * X 2)) μ) (some (enc o, μ)) := by
  have key : ∀ k, k < sz → (mI μ (4 + 2 * r) k = nI (X 0 + 16 * X 1 + 256 * X 2) ↔ mt V w x y z k) := by
    intro k hk
    obtain ⟨h3, h4⟩ := hR.2.2 k hk
    have a0 := h4 0 (by decide)
    have a1 := h4 1 (by decide)
    have a2 := h4 2 (by decide)
    obtain ⟨b0, c0⟩ := hX 0 (by decide)
    obtain ⟨b1, c1⟩ := hX 1 (by decide)
    obtain ⟨b2, c2⟩ := hX 2 (by decide)
    rw [h3, nI_eq (by omega) (by omega)]
    constructor
    · intro he i hi
      rw [(hX i hi).2]
      have : i = 0 ∨ i = 1 ∨ i = 2 := by omega
      rcases this with rfl | rfl | rfl
      · rw [show V k 0 = X 0 by omega]
      · rw [show V k 1 = X 1 by omega]
      · rw [show V k 2 = X 2 by omega]
    · intro hm
      have m0 := hm 0 (by decide)
      have m1 := hm 1 (by decide)
      have m2 := hm 2 (by decide)
      rw [c0, nI_eq (by omega) (by omega)] at m0
      rw [c1, nI_eq (by omega) (by omega)] at m1
      rw [c2, nI_eq (by omega) (by omega)] at m2
      rw [m0, m1, m2]
  refine ⟨_, ?_, v_place hS hr hR _⟩
  cases hf : fd (fun k => decide (mI μ (4 + 2 * r) k = nI (X 0 + 16 * X 1 + 256 * X 2))) sz 0 with
  | none =>
    refine Or.inl ⟨rfl, fun k hk hm => ?_⟩
    have := fd_none.mp hf k (Nat.zero_le _) (by omega)
    rw [decide_eq_false_iff_not] at this
    exact this ((key k hk).mpr hm)
  | some k =>
    obtain ⟨-, h2, h3, -⟩ := fd_some hf
    rw [decide_eq_true_eq] at h3
    exact Or.inr ⟨k, rfl, by omega, (key k (by omega)).mp h3⟩
/-- the reference's place of a row -/
theorem v_mplace {μ : Mem} {r w sz : Nat} {V : Nat → Nat → Nat} {x y z : Int32} (hS : Sh μ) (hr : r < 6) (hw1 : 1 ≤ w) (hw3 : w ≤ 3) (h57 : mI μ 57 r = nI w) (h58 : mI μ 58 r = nI sz) (hsz : sz ≤ 12) (h59 : ∀ k, k < sz → ∀ i, i < w → mI μ 59 (36 * r + 3 * k + i) = nI (V k i)) (hpad : ∀ k, k < sz → ∀ c, w ≤ c → V k c = V k 0) : Ev (fun n => C_MO_placeOf n 56 (nI r) x y z μ) (fun q => q.2 = μ ∧ ∃ o, q.1 = enc o ∧ Pl sz (mt V w x y z) o) := by
  generalize hG : (fun (q : Int32 × Mem) => q.2 = μ ∧ ∃ o, q.1 = enc o ∧ Pl sz (mt V w x y z) o) = G
  have mtw : ∀ k, k < sz → ((∀ i, i < w → nI (V k i) = pkI x y z i) ↔ mt V w x y z k) := by
    intro k hk
    constructor
    · intro h i hi
      rcases Nat.lt_or_ge i w with q | q
      · rw [h i q, cl_pk q hw3]
      · rw [hpad k hk i q, cl_hi q hw1 hi, h 0 (by omega)]
        rfl
    · intro h i hi
      rw [h i (by omega), cl_pk hi hw3]
  have inner : ∀ (k : Nat) (f : Int32) (hk : k < sz) (kk : ∀ s : Int32, (s = 0 ∨ s = 1) → (s = 1 ↔ ∀ i, i < w → nI (V k i) = pkI x y z i) → Ev (fun n => F_MO_placeOf n 2 56 (nI r) x y z f (nI k) s (nI w) 0 μ) G) (d i : Nat) (s : Int32), i + d = w → (s = 0 ∨ s = 1) → (s = 1 ↔ ∀ j, j < i → nI (V k j) = pkI x y z j) → Ev (fun n => F_MO_placeOf n 2 56 (nI r) x y z f (nI k) s (nI i) 0 μ) G := by
    intro k f hk kk d
    induction d with
    | zero =>
      intro i s hi hs hs2
      have : i = w := by omega
      subst this
      exact kk s hs hs2
    | succ d ih =>
      intro i s hi hs hs2
      have hlt : i < w := by omega
      have h3 : (36 : Int32) * nI r + 3 * nI k + nI i = nI (36 * r + 3 * k + i) := by rw [show (3 : Int32) = nI 3 from rfl, show (36 : Int32) = nI 36 from rfl, pk_mul, pk_mul, nI_add, nI_add]
      refine E_MO_placeOf_2 ?_
      simp only [B_MO_placeOf_2, hS.k (k := 56) (c := 6) (by decide), hS.r (k := 56) (j := 2) (v := 57) (by decide), hS.k (k := 57) (c := 100) (by decide), hS.z (show 57 < 71 by decide), show (kz 57).2 = 6 by decide, ib_i hr (show 6 < 2 ^ 31 by decide), nI_clamp (show r < 2 ^ 31 by omega), h57, nI_ge hlt (show w < 2 ^ 31 by omega), if_true, if_false, hS.r (k := 56) (j := 4) (v := 59) (by decide), hS.k (k := 59) (c := 100) (by decide), hS.z (show 59 < 71 by decide), show (kz 59).2 = 216 by decide, h3, ib_i (show 36 * r + 3 * k + i < 216 by omega) (show 216 < 2 ^ 31 by decide), nI_clamp (show 36 * r + 3 * k + i < 2 ^ 31 by omega), v_pick (show i < 3 by omega), Option.bind_some, h59 k hk i hlt]
      have no : (¬ ∀ j, j < i + 1 → nI (V k j) = pkI x y z j) → Ev (fun n => F_MO_placeOf n 3 56 (nI r) x y z f (nI k) 0 (nI i) 0 μ) G := by
        intro hne
        refine E_MO_placeOf_3 ?_
        simp only [B_MO_placeOf_3]
        refine E_MO_placeOf_4 ?_
        simp only [B_MO_placeOf_4, Option.bind_some, nI_1]
        exact ih (i + 1) 0 (by omega) (Or.inl rfl) ⟨fun q => absurd q (by decide), fun q => absurd q hne⟩
      rcases hs with rfl | rfl
      · simp only [if_true]
        exact no (fun q => absurd (hs2.mpr (fun j hj => q j (by omega))) (by decide))
      · simp only [show ¬ ((1 : Int32) = 0) by decide, if_false]
        refine Ev.i (fun he => ?_) (fun he => no (fun q => he (q i (by omega))))
        refine E_MO_placeOf_4 ?_
        simp only [B_MO_placeOf_4, Option.bind_some, nI_1]
        refine ih (i + 1) 1 (by omega) (Or.inr rfl) ⟨fun _ j hj => ?_, fun _ => rfl⟩
        rcases Nat.lt_or_ge j i with q | q
        · exact hs2.mp rfl j q
        · have : j = i := by omega
          subst this
          exact he
  have outer : ∀ (d k : Nat) (o : Option Nat), k + d = sz → Pl k (mt V w x y z) o → Ev (fun n => F_MO_placeOf n 1 56 (nI r) x y z (enc o) (nI k) 0 0 0 μ) G := by
    intro d
    induction d with
    | zero =>
      intro k o hk ho
      have : k = sz := by omega
      subst this
      refine E_MO_placeOf_1 ?_
      simp only [B_MO_placeOf_1, hS.k (k := 56) (c := 6) (by decide), hS.r (k := 56) (j := 3) (v := 58) (by decide), hS.k (k := 58) (c := 100) (by decide), hS.z (show 58 < 71 by decide), show (kz 58).2 = 6 by decide, ib_i hr (show 6 < 2 ^ 31 by decide), nI_clamp (show r < 2 ^ 31 by omega), h58, nI_le (Nat.le_refl k) (show k < 2 ^ 31 by omega), if_true]
      refine Ev.c ?_
      rw [← hG]
      exact ⟨rfl, o, rfl, ho⟩
    | succ d ih =>
      intro k o hk ho
      have hlt : k < sz := by omega
      refine E_MO_placeOf_1 ?_
      simp only [B_MO_placeOf_1, hS.k (k := 56) (c := 6) (by decide), hS.r (k := 56) (j := 3) (v := 58) (by decide), hS.k (k := 58) (c := 100) (by decide), hS.z (show 58 < 71 by decide), show (kz 58).2 = 6 by decide, ib_i hr (show 6 < 2 ^ 31 by decide), nI_clamp (show r < 2 ^ 31 by omega), h58, nI_ge hlt (show sz < 2 ^ 31 by omega), if_true, if_false]
      refine inner k (enc o) hlt (fun s hs hs2 => ?_) w 0 1 (by omega) (Or.inr rfl) ⟨fun _ j hj => absurd hj (Nat.not_lt_zero _), fun _ => rfl⟩
      rw [mtw k hlt] at hs2
      refine E_MO_placeOf_2 ?_
      simp only [B_MO_placeOf_2, hS.k (k := 56) (c := 6) (by decide), hS.r (k := 56) (j := 2) (v := 57) (by decide), hS.k (k := 57) (c := 100) (by decide), hS.z (show 57 < 71 by decide), show (kz 57).2 = 6 by decide, ib_i hr (show 6 < 2 ^ 31 by decide), nI_clamp (show r < 2 ^ 31 by omega), h57, nI_le (Nat.le_refl w) (show w < 2 ^ 31 by omega), if_true]
      rcases hs with rfl | rfl
      · simp only [if_true]
        refine E_MO_placeOf_5 ?_
        simp only [B_MO_placeOf_5, Option.bind_some, nI_1]
        refine ih (k + 1) o (by omega) ?_
        rcases ho with ⟨ho, h⟩ | ⟨k', ho, h1, h2⟩
        · refine Or.inl ⟨ho, fun j hj hm => ?_⟩
          rcases Nat.lt_or_ge j k with q | q
          · exact h j q hm
          · have : j = k := by omega
            subst this
            exact absurd (hs2.mpr hm) (by decide)
        · exact Or.inr ⟨k', ho, by omega, h2⟩
      · simp only [show ¬ ((1 : Int32) = 0) by decide, if_false]
        refine E_MO_placeOf_5 ?_
        simp only [B_MO_placeOf_5, Option.bind_some, nI_1]
        exact ih (k + 1) (some k) (by omega) (Or.inr ⟨k, rfl, by omega, hs2.mp rfl⟩)
  unfold C_MO_placeOf
  refine E_MO_placeOf_0 ?_
  simp only [B_MO_placeOf_0]
  exact outer sz 0 none (by omega) (Or.inl ⟨rfl, fun k hk => absurd hk (Nat.not_lt_zero _)⟩)
theorem Pl.u {sz : Nat} {M : Nat → Prop} {o o' : Option Nat} (hu : ∀ k k', k < sz → k' < sz → M k → M k' → k = k') (h : Pl sz M o) (h' : Pl sz M o') : o = o' := by
  rcases h with ⟨rfl, h⟩ | ⟨k, rfl, h1, h2⟩
  · rcases h' with ⟨rfl, -⟩ | ⟨k', rfl, h1', h2'⟩
    · rfl
    · exact absurd h2' (h k' h1')
  · rcases h' with ⟨rfl, h⟩ | ⟨k', rfl, h1', h2'⟩
    · exact absurd h2 (h k h1)
    · rw [hu k k' h1 h1' h2 h2']
