/-! Functions with fuel: from some fuel on one answer -/
def EvO {α : Type} (f : Nat → Option α) (r : Option α) : Prop := ∃ n0, ∀ n, n0 ≤ n → f n = r
def Ev {α : Type} (f : Nat → Option α) (Q : α → Prop) : Prop := ∃ r, Q r ∧ EvO f (some r)
theorem EvO.c {α : Type} {r : Option α} : EvO (fun _ => r) r := ⟨0, fun _ _ => rfl⟩
theorem EvO.b {α β : Type} {f : Nat → Option α} {g : Nat → α → Option β} {q : α} {r : Option β} (h : EvO f (some q)) (k : EvO (fun n => g n q) r) : EvO (fun n => Option.bind (f n) (g n)) r := by
  obtain ⟨n1, h1⟩ := h
  obtain ⟨n2, h2⟩ := k
  refine ⟨n1 + n2, fun n hn => ?_⟩
  show Option.bind (f n) (g n) = r
  rw [h1 n (by omega)]
  exact h2 n (by omega)
theorem EvO.t {α : Type} {c : Prop} [Decidable c] {f g : Nat → Option α} {r : Option α} (hc : c) (h : EvO f r) : EvO (fun n => if c then f n else g n) r := by
  obtain ⟨n1, h1⟩ := h
  exact ⟨n1, fun n hn => by show (if c then f n else g n) = r; rw [if_pos hc]; exact h1 n hn⟩
theorem EvO.f {α : Type} {c : Prop} [Decidable c] {f g : Nat → Option α} {r : Option α} (hc : ¬ c) (h : EvO g r) : EvO (fun n => if c then f n else g n) r := by
  obtain ⟨n1, h1⟩ := h
  exact ⟨n1, fun n hn => by show (if c then f n else g n) = r; rw [if_neg hc]; exact h1 n hn⟩
theorem EvO.s {α : Type} {f g : Nat → Option α} {r : Option α} (he : ∀ n, f (n + 1) = g n) (h : EvO g r) : EvO f r := by
  obtain ⟨n1, h1⟩ := h
  refine ⟨n1 + 1, fun n hn => ?_⟩
  obtain ⟨m, rfl⟩ : ∃ m, n = m + 1 := ⟨n - 1, by omega⟩
  rw [he]
  exact h1 m (by omega)
theorem EvO.e {α : Type} {f g : Nat → Option α} {r : Option α} (he : ∀ n, f n = g n) (h : EvO g r) : EvO f r := by
  obtain ⟨n1, h1⟩ := h
  exact ⟨n1, fun n hn => (he n).trans (h1 n hn)⟩
theorem Ev.c {α : Type} {r : α} {Q : α → Prop} (h : Q r) : Ev (fun _ => some r) Q := ⟨r, h, EvO.c⟩
theorem Ev.b {α β : Type} {f : Nat → Option α} {g : Nat → α → Option β} {P : α → Prop} {Q : β → Prop} (h : Ev f P) (k : ∀ q, P q → Ev (fun n => g n q) Q) : Ev (fun n => Option.bind (f n) (g n)) Q := by
  obtain ⟨q, hq, h⟩ := h
  obtain ⟨r, hr, k⟩ := k q hq
  exact ⟨r, hr, EvO.b h k⟩
theorem Ev.o {α β : Type} {f : Nat → Option α} {g : Nat → α → Option β} {q : α} {Q : β → Prop} (h : EvO f (some q)) (k : Ev (fun n => g n q) Q) : Ev (fun n => Option.bind (f n) (g n)) Q := by
  obtain ⟨r, hr, k⟩ := k
  exact ⟨r, hr, EvO.b h k⟩
theorem Ev.t {α : Type} {c : Prop} [Decidable c] {f g : Nat → Option α} {Q : α → Prop} (hc : c) (h : Ev f Q) : Ev (fun n => if c then f n else g n) Q := by
  obtain ⟨r, hr, h⟩ := h
  exact ⟨r, hr, EvO.t hc h⟩
theorem Ev.f {α : Type} {c : Prop} [Decidable c] {f g : Nat → Option α} {Q : α → Prop} (hc : ¬ c) (h : Ev g Q) : Ev (fun n => if c then f n else g n) Q := by
  obtain ⟨r, hr, h⟩ := h
  exact ⟨r, hr, EvO.f hc h⟩
theorem Ev.i {α : Type} {c : Prop} [Decidable c] {f g : Nat → Option α} {Q : α → Prop} (h1 : c → Ev f Q) (h2 : ¬ c → Ev g Q) : Ev (fun n => if c then f n else g n) Q := by
  by_cases hc : c
  · exact Ev.t hc (h1 hc)
  · exact Ev.f hc (h2 hc)
theorem Ev.s {α : Type} {f g : Nat → Option α} {Q : α → Prop} (he : ∀ n, f (n + 1) = g n) (h : Ev g Q) : Ev f Q := by
  obtain ⟨r, hr, h⟩ := h
  exact ⟨r, hr, EvO.s he h⟩
theorem Ev.e {α : Type} {f g : Nat → Option α} {Q : α → Prop} (he : ∀ n, f n = g n) (h : Ev g Q) : Ev f Q := by
  obtain ⟨r, hr, h⟩ := h
  exact ⟨r, hr, EvO.e he h⟩
theorem Ev.w {α : Type} {f : Nat → Option α} {P Q : α → Prop} (h : Ev f P) (k : ∀ r, P r → Q r) : Ev f Q := by
  obtain ⟨r, hr, h⟩ := h
  exact ⟨r, k r hr, h⟩
theorem Ev.eq {α : Type} {f : Nat → Option α} {r : α} (h : Ev f (fun q => q = r)) : EvO f (some r) := by
  obtain ⟨q, rfl, h⟩ := h
  exact h
theorem EvO.ev {α : Type} {f : Nat → Option α} {r : α} (h : EvO f (some r)) : Ev f (fun q => q = r) := ⟨r, rfl, h⟩
/-! The memory's shape: kinds and lengths, and the references that never change -/
def kz : Nat → Nat × Nat := fun k => ([(0, 0), (5, 0), (102, 6), (0, 0), (100, 12), (0, 0), (100, 12), (0, 0), (100, 12), (0, 0), (100, 12), (0, 0), (100, 12), (0, 0), (100, 12), (2, 0), (103, 6), (100, 4), (1, 0), (100, 3), (1, 0), (100, 3), (1, 0), (100, 3), (1, 0), (100, 3), (1, 0), (100, 3), (1, 0), (100, 3), (3, 0), (100, 6), (100, 6), (100, 6), (4, 0), (104, 6), (100, 12), (100, 12), (100, 12), (100, 12), (100, 12), (100, 12), (104, 5), (100, 6), (100, 6), (100, 6), (100, 6), (100, 6), (105, 6), (101, 12), (101, 12), (101, 12), (101, 12), (101, 12), (101, 12), (100, 64), (6, 0), (100, 6), (100, 6), (100, 216), (100, 6), (100, 18), (100, 4), (100, 6), (100, 6), (100, 8), (100, 7), (100, 6), (100, 2048), (100, 64), (101, 1)] : List (Nat × Nat)).getD k (0, 0)
def shR : List (Nat × Nat × Nat) := [(1, 0, 2), (1, 2, 15), (1, 3, 30), (1, 4, 34), (15, 0, 16), (15, 2, 17), (30, 0, 15), (30, 1, 31), (30, 2, 32), (30, 3, 33), (34, 0, 15), (34, 1, 30), (34, 2, 35), (34, 3, 42), (34, 4, 48), (34, 5, 55), (56, 2, 57), (56, 3, 58), (56, 4, 59), (56, 6, 60), (56, 7, 61), (56, 9, 62), (56, 11, 63), (56, 12, 64), (56, 15, 65), (56, 16, 66), (56, 17, 67), (56, 18, 68), (56, 20, 69), (42, 0, 43), (42, 1, 44), (42, 2, 45), (42, 3, 46), (42, 4, 47)]
def Sh (μ : Mem) : Prop := mN μ = 70 ∧ (∀ k, k < 71 → μ.2.1 k = kz k) ∧ (∀ q ∈ shR, mR μ q.1 q.2.1 = q.2.2) ∧ ∀ j, j < 6 → mR μ 2 j = 3 + 2 * j ∧ mR μ (3 + 2 * j) 0 = 4 + 2 * j ∧ mR μ 16 j = 18 + 2 * j ∧ mR μ (18 + 2 * j) 0 = 19 + 2 * j ∧ mR μ 35 j = 36 + j ∧ mR μ 48 j = 49 + j ∧ ∃ r, r < 6 ∧ mR μ (18 + 2 * j) 2 = 3 + 2 * r
def shB (μ : Mem) : Bool := decide (mN μ = 70) && ((List.range 71).all (fun k => decide (μ.2.1 k = kz k))) && (shR.all (fun q => decide (mR μ q.1 q.2.1 = q.2.2))) && ((List.range 6).all (fun j => decide (mR μ 2 j = 3 + 2 * j) && decide (mR μ (3 + 2 * j) 0 = 4 + 2 * j) && decide (mR μ 16 j = 18 + 2 * j) && decide (mR μ (18 + 2 * j) 0 = 19 + 2 * j) && decide (mR μ 35 j = 36 + j) && decide (mR μ 48 j = 49 + j) && decide (mR μ (18 + 2 * j) 2 = 3 + 2 * 0))) && decide (mI μ 1 1 = 0) && decide (mI μ 15 1 = 0) && decide (mI μ 15 3 = 0) && decide (mI μ 15 4 = 0) && decide (mI μ 30 4 = 0) && decide (mI μ 30 5 = 0) && decide (mI μ 56 1 = 0) && decide (mI μ 56 5 = 0) && decide (mI μ 56 8 = 0) && decide (mI μ 56 13 = 0)
def proB : Bool := match Pro 0 m0 with
  | some (r1, r2, r3, μ) => decide (r1 = 1) && decide (r2 = 56) && decide (r3 = 70) && shB μ
  | none => false
set_option maxRecDepth 100000 in
set_option maxHeartbeats 4000000 in
theorem proB_ok : proB = true := by decide +kernel
