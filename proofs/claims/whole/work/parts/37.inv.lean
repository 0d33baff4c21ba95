/-! What stands between the calls -/
def Va (p : Pic) : Nat → Nat → Nat → Nat := fun e => pV p (pL p e)
def aS (p : Pic) : Nat → Nat := fun e => pS p (pL p e)
def isWay (p : Pic) (w : Nat → Nat) : Prop := Way (Va p) (pX p) (fun e => e < pA p) (fun e k => k < aS p e) w
noncomputable def nW (p : Pic) : Nat := Zs 12 (Va p) (pX p) (List.range (pA p)) (fun e k => ind (k < aS p e)) (fun _ => 0)
def vl (p : Pic) (w : Nat → Nat) (x v : Nat) : Prop := ∃ e, e < pA p ∧ ∃ c, c < 3 ∧ pX p e c = x ∧ Va p e (w e) c = v
def isAns (p : Pic) (a : Nat) : Prop := ∃ w, isWay p w ∧ a < 16 ^ pH p ∧ ∀ i, i < pH p → vl p w (pD p i) (a / 16 ^ (pH p - 1 - i) % 16)
noncomputable def cntA (p : Pic) (a : Nat) : Nat := sm a (fun b => ind (isAns p b))
def bound (p : Pic) : Prop := ∀ i, i < pH p → ∃ e, e < pA p ∧ ∃ c, c < 3 ∧ pX p e c = pD p i
/-- what the reference knows, if it says so -/
def Kn (μ : Mem) (p : Pic) : Prop := mI μ 56 13 = 0 ∨ (mI μ 56 13 = 1 ∧ mL μ 56 14 = lN (nW p) ∧ (∀ e, e < pA p → ∀ k, k < 32 → (bt (mI μ 67 e) k = true ↔ ∃ w, isWay p w ∧ w e = k)) ∧ (bound p → mI μ 56 19 = nI (cntA p 65536) ∧ ∀ a, a < 65536 → isAns p a → cntA p a < 64 → mI μ 69 (cntA p a) = nI a))
def WF (p : Pic) : Prop := WA p ∧ (∀ r, pS p r ≤ 12) ∧ (∀ r, pR p ≤ r → pS p r = 0) ∧ (∀ r, r < pR p → ∀ k, k < pS p r → (∀ c, c < 3 → pV p r k c < 16) ∧ ∀ c, pW p r ≤ c → pV p r k c = pV p r k 0) ∧ (∀ r k k', k < pS p r → k' < pS p r → (∀ c, c < 3 → pV p r k c = pV p r k' c) → k = k') ∧ pH p ≤ 4 ∧ (∀ i, i < pH p → pD p i < 8) ∧ ∀ i j, i < pH p → j < pH p → pD p i = pD p j → i = j
def HCw (μ : Mem) (nA : Nat) (s : HS) : Prop := mI μ 30 5 = s.1 ∧ mI μ 30 4 = nI s.2.1 ∧ (∀ j, j < nA → mI μ 31 j = s.2.2.1 j) ∧ (∀ j, j < nA → mI μ 32 j = s.2.2.2.1 j) ∧ ∀ j, j < s.2.1 → mI μ 33 j = s.2.2.2.2 j
def CR (μ : Mem) (p : Pic) : Prop := mI μ 1 1 = nI (pR p) ∧ (∀ r, r < 6 → RelC μ r (pS p r) (pV p r)) ∧ ∀ r, r < pR p → mI μ (3 + 2 * r) 1 = nI (pW p r)
def CA (μ : Mem) (p : Pic) : Prop := mI μ 15 1 = nI (pA p) ∧ ∀ e, e < pA p → mR μ (18 + 2 * e) 2 = 3 + 2 * pL p e ∧ (∀ c, c < 3 → mI μ (19 + 2 * e) c = nI (pX p e c)) ∧ mI μ (18 + 2 * e) 1 = pvs p e
def CH (μ : Mem) (p : Pic) : Prop := mI μ 15 3 = nI (pH p) ∧ (∀ i, i < pH p → mI μ 17 i = nI (pD p i)) ∧ ∀ x, x < 32 → (bt (mI μ 15 4) x = true ↔ ∃ i, i < pH p ∧ pD p i = x)
def CG (μ : Mem) (p : Pic) : Prop := HCw μ (pA p) (hangR (pA p) (pvs p) (pA p))
def MR (μ : Mem) (p : Pic) : Prop := mI μ 56 1 = nI (pR p) ∧ (∀ r, r < 6 → mI μ 58 r = nI (pS p r)) ∧ ∀ r, r < pR p → ∀ k, k < pS p r → ∀ i, i < pW p r → mI μ 59 (36 * r + 3 * k + i) = nI (pV p r k i)
def MD (μ : Mem) (p : Pic) : Prop := mI μ 56 8 = nI (pH p) ∧ ∀ i, i < pH p → mI μ 62 i = nI (pD p i)
def VI (μ : Mem) : Prop := ∀ x, x < 8 → ∃ v, v < 16 ∧ mI μ 65 x = nI v
def Inv (μ : Mem) (p : Pic) : Prop := Sh μ ∧ WF p ∧ CR μ p ∧ CA μ p ∧ CH μ p ∧ CG μ p ∧ MA μ p ∧ MR μ p ∧ MD μ p ∧ VI μ ∧ Kn μ p
section FR
variable {P : Nat → Nat → Prop} {μ μ' : Mem} {p : Pic}
theorem CR.fr (h : CR μ p) (k : Fr P μ μ') (hp : ∀ a j, P a j → a ≠ 1 ∧ ¬ (3 ≤ a ∧ a ≤ 14)) (hR : pR p ≤ 6) : CR μ' p := by
  have f : ∀ a j, (a = 1 ∨ (3 ≤ a ∧ a ≤ 14)) → mI μ' a j = mI μ a j := fun a j z => k.2.2.2.1 a j (fun y => by have := hp a j y; omega)
  refine ⟨(f 1 1 (by omega)).trans h.1, fun r hr => ?_, fun r hr => (f _ _ (by omega)).trans (h.2.2 r hr)⟩
  obtain ⟨h1, h2, h3⟩ := h.2.1 r hr
  exact ⟨(f _ _ (by omega)).trans h1, h2, fun k hk => ⟨(f _ _ (by omega)).trans (h3 k hk).1, (h3 k hk).2⟩⟩
theorem CA.fr (h : CA μ p) (k : Fr P μ μ') (hp : ∀ a j, P a j → ¬ (a = 15 ∧ j = 1) ∧ ¬ (18 ≤ a ∧ a ≤ 29)) (hA : pA p ≤ 6) : CA μ' p := by
  have f : ∀ a j, ((a = 15 ∧ j = 1) ∨ (18 ≤ a ∧ a ≤ 29)) → mI μ' a j = mI μ a j := fun a j z => k.2.2.2.1 a j (fun y => by have := hp a j y; omega)
  refine ⟨(f 15 1 (by omega)).trans h.1, fun e he => ?_⟩
  obtain ⟨h1, h2, h3⟩ := h.2 e he
  exact ⟨by rw [k.2.2.1]; exact h1, fun c hc => (f _ _ (by omega)).trans (h2 c hc), (f _ _ (by omega)).trans h3⟩
theorem CH.fr (h : CH μ p) (k : Fr P μ μ') (hp : ∀ a j, P a j → ¬ (a = 15 ∧ (j = 3 ∨ j = 4)) ∧ a ≠ 17) : CH μ' p := by
  have f : ∀ a j, ((a = 15 ∧ (j = 3 ∨ j = 4)) ∨ a = 17) → mI μ' a j = mI μ a j := fun a j z => k.2.2.2.1 a j (fun y => by have := hp a j y; omega)
  refine ⟨(f 15 3 (by omega)).trans h.1, fun i hi => (f 17 i (by omega)).trans (h.2.1 i hi), fun x hx => ?_⟩
  rw [f 15 4 (by omega)]
  exact h.2.2 x hx
theorem CG.fr (h : CG μ p) (k : Fr P μ μ') (hp : ∀ a j, P a j → ¬ (30 ≤ a ∧ a ≤ 33)) : CG μ' p := by
  have f : ∀ a j, (30 ≤ a ∧ a ≤ 33) → mI μ' a j = mI μ a j := fun a j z => k.2.2.2.1 a j (fun y => hp a j y z)
  obtain ⟨h1, h2, h3, h4, h5⟩ := h
  exact ⟨(f 30 5 (by omega)).trans h1, (f 30 4 (by omega)).trans h2, fun j hj => (f 31 j (by omega)).trans (h3 j hj), fun j hj => (f 32 j (by omega)).trans (h4 j hj), fun j hj => (f 33 j (by omega)).trans (h5 j hj)⟩
theorem MR.fr (h : MR μ p) (k : Fr P μ μ') (hp : ∀ a j, P a j → ¬ (a = 56 ∧ j = 1) ∧ a ≠ 58 ∧ a ≠ 59) : MR μ' p := by
  have f : ∀ a j, ((a = 56 ∧ j = 1) ∨ a = 58 ∨ a = 59) → mI μ' a j = mI μ a j := fun a j z => k.2.2.2.1 a j (fun y => by have := hp a j y; omega)
  exact ⟨(f 56 1 (by omega)).trans h.1, fun r hr => (f 58 r (by omega)).trans (h.2.1 r hr), fun r hr k hk i hi => (f 59 _ (by omega)).trans (h.2.2 r hr k hk i hi)⟩
theorem MD.fr (h : MD μ p) (k : Fr P μ μ') (hp : ∀ a j, P a j → ¬ (a = 56 ∧ j = 8) ∧ a ≠ 62) : MD μ' p := by
  have f : ∀ a j, ((a = 56 ∧ j = 8) ∨ a = 62) → mI μ' a j = mI μ a j := fun a j z => k.2.2.2.1 a j (fun y => by have := hp a j y; omega)
  exact ⟨(f 56 8 (by omega)).trans h.1, fun i hi => (f 62 i (by omega)).trans (h.2 i hi)⟩
theorem VI.fr (h : VI μ) (k : Fr P μ μ') (hp : ∀ a j, P a j → a ≠ 65) : VI μ' := fun x hx => by
  rw [k.2.2.2.1 65 x (fun y => hp 65 x y rfl)]
  exact h x hx
theorem Kn.fr (h : Kn μ p) (k : Fr P μ μ') (hp : ∀ a j, P a j → ¬ (a = 56 ∧ (j = 13 ∨ j = 14 ∨ j = 19)) ∧ a ≠ 67 ∧ a ≠ 69) : Kn μ' p := by
  have f : ∀ a j, ((a = 56 ∧ (j = 13 ∨ j = 14 ∨ j = 19)) ∨ a = 67 ∨ a = 69) → mI μ' a j = mI μ a j := fun a j z => k.2.2.2.1 a j (fun y => by have := hp a j y; omega)
  unfold Kn
  rw [f 56 13 (by omega), f 56 19 (by omega), k.2.2.2.2 56 14 (fun y => (hp 56 14 y).1 ⟨rfl, by omega⟩)]
  rcases h with h | ⟨h0, h1, h2, h3⟩
  · exact Or.inl h
  · refine Or.inr ⟨h0, h1, fun e he k hk => ?_, fun hb => ⟨(h3 hb).1, fun a ha hi hc => ?_⟩⟩
    · rw [f 67 e (by omega)]
      exact h2 e he k hk
    · rw [f 69 _ (by omega)]
      exact (h3 hb).2 a ha hi hc
/-- writes that touch nothing of the picture -/
def Sc : Nat → Nat → Prop := fun a j => (34 ≤ a ∧ a ≤ 55) ∨ (a = 56 ∧ (j = 0 ∨ j = 10)) ∨ a = 63 ∨ a = 64 ∨ a = 66 ∨ a = 68 ∨ a = 70
theorem Inv.fr (h : Inv μ p) (k : Fr Sc μ μ') : Inv μ' p := by
  obtain ⟨h1, h2, h3, h4, h5, h6, h7, h8, h9, h10, h11⟩ := h
  refine ⟨h1.fr k, h2, h3.fr k (fun a j z => ?_) h2.1.1, h4.fr k (fun a j z => ?_) h2.1.2.2.1, h5.fr k (fun a j z => ?_), h6.fr k (fun a j z => ?_), h7.fr k (fun j => ?_) ?_, h8.fr k (fun a j z => ?_), h9.fr k (fun a j z => ?_), h10.fr k (fun a j z => ?_), h11.fr k (fun a j z => ?_)⟩
  all_goals unfold Sc at *
  all_goals omega
end FR
def zB : Bool := match Pro 0 m0 with
  | some (_, _, _, μ) => (List.range 6).all (fun j => decide (mI μ (3 + 2 * j) 2 = 0) && decide (mI μ 58 j = 0)) && (List.range 8).all (fun x => decide (mI μ 65 x = 0))
  | none => false
set_option maxRecDepth 100000 in
set_option maxHeartbeats 4000000 in
theorem zB_ok : zB = true := by decide +kernel
def p0 : Pic := (0, fun _ => 0, fun _ => 0, fun _ _ _ => 0, 0, fun _ => 0, fun _ _ => 0, 0, fun _ => 0)
/-- the start -/
theorem inv0 : ∃ μ, (∀ n, Pro n m0 = some (1, 56, 70, μ)) ∧ Inv μ p0 := by
  obtain ⟨μ, h1, h2⟩ := pro_ok
  have hz := zB_ok
  unfold zB at hz
  rw [h1 0] at hz
  simp only [Bool.and_eq_true, decide_eq_true_eq, List.all_eq_true, List.mem_range] at hz
  obtain ⟨hS, a1, a2, a3, a4, a5, a6, a7, a8, a9, a10⟩ := shB_ok h2
  refine ⟨μ, h1, hS, ?_, ⟨a1, fun r hr => ⟨(hz.1 r hr).1, Nat.zero_le _, fun k hk => absurd hk (Nat.not_lt_zero _)⟩, fun r hr => absurd hr (Nat.not_lt_zero _)⟩, ⟨a2, fun r hr => absurd hr (Nat.not_lt_zero _)⟩, ⟨a3, fun r hr => absurd hr (Nat.not_lt_zero _), fun x hx => ?_⟩, ⟨a6, a5, fun r hr => absurd hr (Nat.not_lt_zero _), fun r hr => absurd hr (Nat.not_lt_zero _), fun r hr => absurd hr (Nat.not_lt_zero _)⟩, ⟨fun r hr => absurd hr (Nat.not_lt_zero _), a8, fun r hr => absurd hr (Nat.not_lt_zero _)⟩, ⟨a7, fun r hr => (hz.1 r hr).2, fun r hr => absurd hr (Nat.not_lt_zero _)⟩, ⟨a9, fun r hr => absurd hr (Nat.not_lt_zero _)⟩, fun x hx => ⟨0, by decide, hz.2 x hx⟩, Or.inl a10⟩
  · refine ⟨⟨by decide, fun r hr => absurd hr (Nat.not_lt_zero _), by decide, fun r hr => absurd hr (Nat.not_lt_zero _)⟩, fun _ => Nat.zero_le _, fun _ _ => rfl, fun r hr => absurd hr (Nat.not_lt_zero _), fun r k k' hk => absurd hk (Nat.not_lt_zero _), by decide, fun r hr => absurd hr (Nat.not_lt_zero _), fun i j hr => absurd hr (Nat.not_lt_zero _)⟩
  · rw [a4, bt_0]
    exact ⟨fun z => (by cases z), fun ⟨i, hi, _⟩ => absurd hi (Nat.not_lt_zero _)⟩
