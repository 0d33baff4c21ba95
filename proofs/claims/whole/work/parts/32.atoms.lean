/-! The class's relations and atoms: what they hold, and what their methods answer -/
def RelC (μ : Mem) (r sz : Nat) (V : Nat → Nat → Nat) : Prop := mI μ (3 + 2 * r) 2 = nI sz ∧ sz ≤ 12 ∧ ∀ k, k < sz → mI μ (4 + 2 * r) k = nI (V k 0 + 16 * V k 1 + 256 * V k 2) ∧ ∀ c, c < 3 → V k c < 16
def vsI (X : Nat → Nat) : Int32 := ((1 <<< (nI (X 0) &&& 31)) ||| (1 <<< (nI (X 1) &&& 31))) ||| (1 <<< (nI (X 2) &&& 31))
def AtC (μ : Mem) (e r sz : Nat) (V : Nat → Nat → Nat) (X : Nat → Nat) : Prop := r < 6 ∧ mR μ (18 + 2 * e) 2 = 3 + 2 * r ∧ (∀ c, c < 3 → mI μ (19 + 2 * e) c = nI (X c) ∧ X c < 8) ∧ mI μ (18 + 2 * e) 1 = vsI X ∧ RelC μ r sz V
theorem kR : ∀ r, r < 6 → (decide (0 < 3 + 2 * r) && (decide (3 + 2 * r ≤ 70) && decide ((kz (3 + 2 * r)).1 = 0))) = true ∧ (decide (0 < 4 + 2 * r) && (decide (4 + 2 * r ≤ 70) && decide ((kz (4 + 2 * r)).1 = 100))) = true ∧ (kz (4 + 2 * r)).2 = 12 ∧ (decide (0 < 18 + 2 * r) && (decide (18 + 2 * r ≤ 70) && decide ((kz (18 + 2 * r)).1 = 1))) = true ∧ (decide (0 < 19 + 2 * r) && (decide (19 + 2 * r ≤ 70) && decide ((kz (19 + 2 * r)).1 = 100))) = true ∧ (kz (19 + 2 * r)).2 = 3 ∧ (decide (0 < 36 + r) && (decide (36 + r ≤ 70) && decide ((kz (36 + r)).1 = 100))) = true ∧ (kz (36 + r)).2 = 12 ∧ (decide (0 < 49 + r) && (decide (49 + r ≤ 70) && decide ((kz (49 + r)).1 = 101))) = true ∧ (kz (49 + r)).2 = 12 := by decide +kernel
theorem Sh.oR {μ : Mem} (h : Sh μ) {r : Nat} (hr : r < 6) : ok μ (3 + 2 * r) 0 = true := h.k (kR r hr).1
theorem Sh.oP {μ : Mem} (h : Sh μ) {r : Nat} (hr : r < 6) : ok μ (4 + 2 * r) 100 = true := h.k (kR r hr).2.1
theorem Sh.zP {μ : Mem} (h : Sh μ) {r : Nat} (hr : r < 6) : mZ μ (4 + 2 * r) = 12 := (h.z (by omega)).trans (kR r hr).2.2.1
theorem Sh.oA {μ : Mem} (h : Sh μ) {r : Nat} (hr : r < 6) : ok μ (18 + 2 * r) 1 = true := h.k (kR r hr).2.2.2.1
theorem Sh.oV {μ : Mem} (h : Sh μ) {r : Nat} (hr : r < 6) : ok μ (19 + 2 * r) 100 = true := h.k (kR r hr).2.2.2.2.1
theorem Sh.zV {μ : Mem} (h : Sh μ) {r : Nat} (hr : r < 6) : mZ μ (19 + 2 * r) = 3 := (h.z (by omega)).trans (kR r hr).2.2.2.2.2.1
theorem Sh.oG {μ : Mem} (h : Sh μ) {r : Nat} (hr : r < 6) : ok μ (36 + r) 100 = true := h.k (kR r hr).2.2.2.2.2.2.1
theorem Sh.zG {μ : Mem} (h : Sh μ) {r : Nat} (hr : r < 6) : mZ μ (36 + r) = 12 := (h.z (by omega)).trans (kR r hr).2.2.2.2.2.2.2.1
theorem Sh.oW {μ : Mem} (h : Sh μ) {r : Nat} (hr : r < 6) : ok μ (49 + r) 101 = true := h.k (kR r hr).2.2.2.2.2.2.2.2.1
theorem Sh.zW {μ : Mem} (h : Sh μ) {r : Nat} (hr : r < 6) : mZ μ (49 + r) = 12 := (h.z (by omega)).trans (kR r hr).2.2.2.2.2.2.2.2.2
theorem Sh.rR {μ : Mem} (h : Sh μ) {r : Nat} (hr : r < 6) : mR μ 2 r = 3 + 2 * r := (h.2.2.2 r hr).1
theorem Sh.rP {μ : Mem} (h : Sh μ) {r : Nat} (hr : r < 6) : mR μ (3 + 2 * r) 0 = 4 + 2 * r := (h.2.2.2 r hr).2.1
theorem Sh.rA {μ : Mem} (h : Sh μ) {r : Nat} (hr : r < 6) : mR μ 16 r = 18 + 2 * r := (h.2.2.2 r hr).2.2.1
theorem Sh.rV {μ : Mem} (h : Sh μ) {r : Nat} (hr : r < 6) : mR μ (18 + 2 * r) 0 = 19 + 2 * r := (h.2.2.2 r hr).2.2.2.1
theorem Sh.rG {μ : Mem} (h : Sh μ) {r : Nat} (hr : r < 6) : mR μ 35 r = 36 + r := (h.2.2.2 r hr).2.2.2.2.1
theorem Sh.rW {μ : Mem} (h : Sh μ) {r : Nat} (hr : r < 6) : mR μ 48 r = 49 + r := (h.2.2.2 r hr).2.2.2.2.2.1
theorem pk_val {x : Nat} (hx : x < 4096) {c : Nat} (hc : c < 3) : (nI x >>> ((4 * nI c) &&& 31)) &&& 15 = nI (x / 16 ^ c % 16) := by
  have h1 : ∀ c, c < 3 → (((4 * nI c) &&& 31).toBitVec.smod 32).toNat = 4 * c := by decide +kernel
  rw [pk_shrN (by omega) _ (4 * c) (h1 c hc), pk_andN (Nat.lt_of_le_of_lt (Nat.div_le_self _ _) (by omega)) 4 (by decide), Nat.pow_mul]
theorem pk_dig {a b d : Nat} (ha : a < 16) (hb : b < 16) (hd : d < 16) : (a + 16 * b + 256 * d) / 16 ^ 0 % 16 = a ∧ (a + 16 * b + 256 * d) / 16 ^ 1 % 16 = b ∧ (a + 16 * b + 256 * d) / 16 ^ 2 % 16 = d := by
  refine ⟨by omega, by omega, by omega⟩
theorem v_valueAt {μ : Mem} (hS : Sh μ) {r sz : Nat} {V : Nat → Nat → Nat} (hr : r < 6) (hR : RelC μ r sz V) {k c : Nat} (hk : k < sz) (hc : c < 3) (n : Nat) : C_RE_valueAt n (3 + 2 * r) (nI k) (nI c) μ = some (nI (V k c), μ) := by
  obtain ⟨h1, h2, h3⟩ := hR
  obtain ⟨h3, h4⟩ := h3 k hk
  have a0 := h4 0 (by decide)
  have a1 := h4 1 (by decide)
  have a2 := h4 2 (by decide)
  have hi : ib (nI k) 12 = true := ib_i (by omega) (by decide)
  simp only [C_RE_valueAt, hS.oR hr, hS.rP hr, hS.oP hr, hS.zP hr, hi, if_true, nI_clamp (show k < 2 ^ 31 by omega), h3, pk_val (show V k 0 + 16 * V k 1 + 256 * V k 2 < 4096 by omega) hc]
  obtain ⟨d0, d1, d2⟩ := pk_dig a0 a1 a2
  have : c = 0 ∨ c = 1 ∨ c = 2 := by omega
  rcases this with rfl | rfl | rfl
  · rw [d0]
  · rw [d1]
  · rw [d2]
theorem n3c {c : Nat} (h : c < 3) : ¬ ((3 : Int32) ≤ nI c) := nI_ge (b := 3) h (by decide)
theorem n3 : (3 : Int32) ≤ nI 3 := by decide
/-- the rows that give x no other value than v -/
theorem v_rowsAllowing {μ : Mem} (hS : Sh μ) {e r sz : Nat} {V : Nat → Nat → Nat} {X : Nat → Nat} (he : e < 6) (hA : AtC μ e r sz V X) {x v : Nat} (hx : x < 8) (hv : v < 16) : Ev (fun n => C_AT_rowsAllowing n (18 + 2 * e) (nI x) (nI v) μ) (fun q => q.2 = μ ∧ ∀ k, k < 32 → (bt q.1 k = true ↔ k < sz ∧ ∀ c, c < 3 → X c = x → V k c = v)) := by
  obtain ⟨hr, hA2, hAX, -, hR⟩ := hA
  have hsz := hR.1
  have hsz2 := hR.2.1
  -- the inner loop
  have inner : ∀ (Q : Int32 × Mem → Prop) (c : Nat) (hc : c < 3) (d i : Nat) (m : Int32), i + d = sz → (∀ m', (∀ k, k < 32 → (bt m' k = true ↔ bt m k = true ∧ ¬ (i ≤ k ∧ k < sz ∧ X c = x ∧ V k c ≠ v))) → Ev (fun n => F_AT_rowsAllowing n 4 (18 + 2 * e) (nI x) (nI v) m' (nI c) 0 μ) Q) → Ev (fun n => F_AT_rowsAllowing n 2 (18 + 2 * e) (nI x) (nI v) m (nI c) (nI i) μ) Q := by
    intro Q c hc d
    induction d with
    | zero =>
      intro i m hi hk
      refine E_AT_rowsAllowing_2 ?_
      simp only [B_AT_rowsAllowing_2, hS.oA he, hA2, hS.oR hr, hsz, nI_le (show sz ≤ i by omega) (show i < 2 ^ 31 by omega), if_true]
      exact hk m (fun k _ => ⟨fun h => ⟨h, fun z => by omega⟩, fun h => h.1⟩)
    | succ d ih =>
      intro i m hi hk
      refine E_AT_rowsAllowing_2 ?_
      have hlt : i < sz := by omega
      simp only [B_AT_rowsAllowing_2, hS.oA he, hA2, hS.oR hr, hsz, nI_ge hlt (show sz < 2 ^ 31 by omega), if_true, if_false, hS.rV he, hS.oV he, hS.zV he, ib_i hc (show 3 < 2 ^ 31 by decide), nI_clamp (show c < 2 ^ 31 by omega), (hAX c hc).1, nI_eq (show X c < 2 ^ 31 by have := (hAX c hc).2; omega) (show x < 2 ^ 31 by omega), v_valueAt hS hr hR hlt hc, Option.bind_some]
      have hV := (hR.2.2 i hlt).2 c hc
      simp only [nI_eq (show V i c < 2 ^ 31 by omega) (show v < 2 ^ 31 by omega)]
      refine Ev.i (fun hxx => Ev.i (fun hvv => ?_) (fun hvv => ?_)) (fun hxx => ?_)
      · refine E_AT_rowsAllowing_3 ?_
        simp only [B_AT_rowsAllowing_3, Option.bind_some, nI_1]
        refine ih (i + 1) m (by omega) (fun m' hm' => hk m' (fun k h32 => ?_))
        rw [hm' k h32]
        refine and_congr_right (fun _ => not_congr ⟨fun z => ⟨by omega, z.2⟩, fun z => ⟨?_, z.2⟩⟩)
        rcases Nat.lt_or_ge i k with h | h
        · exact h
        · have : k = i := by omega
          subst this
          exact absurd hvv z.2.2.2
      · refine E_AT_rowsAllowing_3 ?_
        simp only [B_AT_rowsAllowing_3, Option.bind_some, nI_1]
        refine ih (i + 1) _ (by omega) (fun m' hm' => hk m' (fun k h32 => ?_))
        rw [hm' k h32, bt_and, bt_not h32, bt_one i (by omega) k h32]
        by_cases hki : k = i
        · subst hki
          simp [hxx, hvv, hlt]
        · simp only [hki, decide_false, Bool.not_false, Bool.and_true]
          exact and_congr_right (fun _ => not_congr ⟨fun z => ⟨by omega, z.2⟩, fun z => ⟨by omega, z.2⟩⟩)
      · exact hk m (fun k _ => ⟨fun h => ⟨h, fun z => hxx z.2.2.1⟩, fun h => h.1⟩)
  have outer : ∀ (d c : Nat) (m : Int32), c + d = 3 → (∀ k, k < 32 → (bt m k = true ↔ k < sz ∧ ∀ c', c' < c → X c' = x → V k c' = v)) → Ev (fun n => F_AT_rowsAllowing n 1 (18 + 2 * e) (nI x) (nI v) m (nI c) 0 μ) (fun q => q.2 = μ ∧ ∀ k, k < 32 → (bt q.1 k = true ↔ k < sz ∧ ∀ c, c < 3 → X c = x → V k c = v)) := by
    intro d
    induction d with
    | zero =>
      intro c m hc hm
      have : c = 3 := by omega
      subst this
      refine E_AT_rowsAllowing_1 ?_
      simp only [B_AT_rowsAllowing_1, n3, if_true]
      exact Ev.c ⟨rfl, hm⟩
    | succ d ih =>
      intro c m hc hm
      refine E_AT_rowsAllowing_1 ?_
      simp only [B_AT_rowsAllowing_1, n3c (show c < 3 by omega), if_false]
      refine inner _ c (by omega) sz 0 m (by omega) (fun m' hm' => ?_)
      refine E_AT_rowsAllowing_4 ?_
      simp only [B_AT_rowsAllowing_4, Option.bind_some, nI_1]
      refine ih (c + 1) m' (by omega) (fun k h32 => ?_)
      rw [hm' k h32, hm k h32]
      constructor
      · rintro ⟨⟨h1, h2⟩, h3⟩
        refine ⟨h1, fun c' hc' hX => ?_⟩
        rcases Nat.lt_or_ge c' c with h | h
        · exact h2 c' h hX
        · have : c' = c := by omega
          subst this
          exact Classical.byContradiction (fun z => h3 ⟨Nat.zero_le _, h1, hX, z⟩)
      · rintro ⟨h1, h2⟩
        exact ⟨⟨h1, fun c' hc' hX => h2 c' (by omega) hX⟩, fun z => z.2.2.2 (h2 c (by omega) z.2.2.1)⟩
  unfold C_AT_rowsAllowing
  refine E_AT_rowsAllowing_0 ?_
  simp only [B_AT_rowsAllowing_0, hS.oA he, hA2, hS.oR hr, hsz, if_true, Option.bind_some]
  refine outer 3 0 _ (by omega) (fun k h32 => ?_)
  rw [bt_mask sz (by omega) k h32, decide_eq_true_eq]
  exact ⟨fun h => ⟨h, fun _ h => by omega⟩, fun h => h.1⟩
