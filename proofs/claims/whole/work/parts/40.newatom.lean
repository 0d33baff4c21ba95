/-! A new atom -/
theorem ok_sR {μ : Mem} {k j a c v : Nat} : ok (sR μ k j v) a c = ok μ a c := rfl
theorem mZ_sR {μ : Mem} {k j a v : Nat} : mZ (sR μ k j v) a = mZ μ a := rfl
theorem mI_sR {μ : Mem} {k j v : Nat} : mI (sR μ k j v) = mI μ := rfl
theorem rdR {μ : Mem} {k j a i v : Nat} (h : a ≠ k ∨ i ≠ j) : mR (sR μ k j v) a i = mR μ a i := by
  by_cases hk : a = k
  · subst hk
    exact mR_sn (h.resolve_left (fun z => z rfl))
  · rw [mR_n hk]
theorem Sh.sR {μ : Mem} (h : Sh μ) {e r : Nat} (he : e < 6) (hr : r < 6) : Sh (sR μ (18 + 2 * e) 2 (3 + 2 * r)) := by
  obtain ⟨h1, h2, h3, h4⟩ := h
  refine ⟨h1, h2, fun q hq => ?_, fun j hj => ?_⟩
  · have : ∀ q ∈ shR, ∀ e, e < 6 → (q.1 ≠ 18 + 2 * e ∨ q.2.1 ≠ 2) := by decide
    rw [rdR (this q hq e he)]
    exact h3 q hq
  · obtain ⟨a1, a2, a3, a4, a5, a6, r', hr', a7⟩ := h4 j hj
    rw [rdR (Or.inl (by omega)), rdR (Or.inl (by omega)), rdR (Or.inl (by omega)), rdR (Or.inr (by decide)), rdR (Or.inl (by omega)), rdR (Or.inl (by omega))]
    refine ⟨a1, a2, a3, a4, a5, a6, ?_⟩
    by_cases hj2 : j = e
    · subst hj2
      exact ⟨r, hr, mR_ss⟩
    · exact ⟨r', hr', by rw [rdR (Or.inl (by omega))]; exact a7⟩
/-- the columns that count: what stands beyond the width is the first -/
def cl (w : Nat) (x y z : Int32) (i : Nat) : Int32 := if i = 0 then x else if i = 1 then (if w ≤ 1 then x else y) else (if w ≤ 2 then x else z)
def pkI (x y z : Int32) (i : Nat) : Int32 := if i = 0 then x else if i = 1 then y else z
theorem cl_pk {w i : Nat} {x y z : Int32} (h : i < w) (h3 : w ≤ 3) : cl w x y z i = pkI x y z i := by
  have : i = 0 ∨ i = 1 ∨ i = 2 := by omega
  rcases this with rfl | rfl | rfl
  · rfl
  · simp [cl, pkI, show ¬ w ≤ 1 by omega]
  · simp [cl, pkI, show ¬ w ≤ 2 by omega]
theorem cl_hi {w i : Nat} {x y z : Int32} (h : w ≤ i) (h0 : 1 ≤ w) (hi : i < 3) : cl w x y z i = x := by
  have : i = 1 ∨ i = 2 := by omega
  rcases this with rfl | rfl
  · simp [cl, show w ≤ 1 by omega]
  · simp [cl, show w ≤ 2 by omega]
theorem v_pick {n i : Nat} {x y z : Int32} {μ : Mem} (hi : i < 3) : C_MO_pick n (nI i) x y z μ = some (pkI x y z i, μ) := by
  have : i = 0 ∨ i = 1 ∨ i = 2 := by omega
  rcases this with rfl | rfl | rfl <;> rfl
theorem le1 {w : Nat} (h : w ≤ 3) : (nI w ≤ 1 ↔ w ≤ 1) ∧ (nI w ≤ 2 ↔ w ≤ 2) := by
  refine ⟨?_, ?_⟩
  · exact nI_leI (a := w) (b := 1) (by omega) (by decide)
  · exact nI_leI (a := w) (b := 2) (by omega) (by decide)
/-- in range, all three or not -/
theorem in3 (w : Nat) (x y z : Int32) (N : Nat) (hN : N < 2 ^ 31) : (∃ i, i < 3 ∧ (cl w x y z i < 0 ∨ nI N ≤ cl w x y z i)) ∨ ∃ X : Nat → Nat, ∀ i, i < 3 → X i < N ∧ cl w x y z i = nI (X i) := by
  rcases in_or (x := cl w x y z 0) N hN with h | ⟨a, ha, h0⟩
  · exact Or.inl ⟨0, by decide, h⟩
  rcases in_or (x := cl w x y z 1) N hN with h | ⟨b, hb, h1⟩
  · exact Or.inl ⟨1, by decide, h⟩
  rcases in_or (x := cl w x y z 2) N hN with h | ⟨c, hc, h2⟩
  · exact Or.inl ⟨2, by decide, h⟩
  refine Or.inr ⟨fun i => if i = 0 then a else if i = 1 then b else c, fun i hi => ?_⟩
  have : i = 0 ∨ i = 1 ∨ i = 2 := by omega
  rcases this with rfl | rfl | rfl
  · exact ⟨ha, h0⟩
  · exact ⟨hb, h1⟩
  · exact ⟨hc, h2⟩
theorem not_both {x : Int32} {N : Nat} (hN : N < 2 ^ 31) {j : Nat} (hj : j < N) (h : x < 0 ∨ nI N ≤ x) (hx : x = nI j) : False := by
  subst hx
  rcases h with h | h
  · exact nI_pos (by omega) h
  · exact nI_ge hj hN h
section BD
variable {μ : Mem} {e r w : Nat} {x y z : Int32}
/-- the class's binding of an atom, up to its checks -/
theorem v_bind0 (hS : Sh μ) (hr : r < 6) (hw : mI μ (3 + 2 * r) 1 = nI w) (hw3 : w ≤ 3) {Q : Int32 × Mem → Prop} (h : Ev (fun n => F_AT_bind n 2 (18 + 2 * e) (3 + 2 * r) x 0 0 (cl w x y z 1) (cl w x y z 2) μ) Q) : Ev (fun n => C_AT_bind n (18 + 2 * e) (3 + 2 * r) x y z μ) Q := by
  obtain ⟨l1, l2⟩ := le1 hw3
  unfold C_AT_bind
  refine E_AT_bind_0 ?_
  simp only [B_AT_bind_0, hS.oR hr, hw, if_true, l1]
  have k1 : Ev (fun n => F_AT_bind n 1 (18 + 2 * e) (3 + 2 * r) x 0 z 0 (cl w x y z 1) μ) Q := by
    refine E_AT_bind_1 ?_
    simp only [B_AT_bind_1, hS.oR hr, hw, if_true, l2]
    refine Ev.i (fun h2 => ?_) (fun h2 => ?_)
    · have : cl w x y z 2 = x := by simp [cl, h2]
      rw [this] at h
      exact h
    · have : cl w x y z 2 = z := by simp [cl, h2]
      rw [this] at h
      exact h
  refine Ev.i (fun h1 => ?_) (fun h1 => ?_)
  · have : cl w x y z 1 = x := by simp [cl, h1]
    rw [this] at k1
    exact k1
  · have : cl w x y z 1 = y := by simp [cl, h1]
    rw [this] at k1
    exact k1
theorem v_bindNo (hS : Sh μ) (hr : r < 6) (hw : mI μ (3 + 2 * r) 1 = nI w) (hw3 : w ≤ 3) (h : ∃ i, i < 3 ∧ (cl w x y z i < 0 ∨ nI 8 ≤ cl w x y z i)) : Ev (fun n => C_AT_bind n (18 + 2 * e) (3 + 2 * r) x y z μ) (fun q => q = (0, μ)) := by
  refine v_bind0 hS hr hw hw3 ?_
  refine E_AT_bind_2 ?_
  simp only [B_AT_bind_2]
  have hcl : cl w x y z 0 = x := rfl
  have out : ∀ {a : Int32} (n : Nat), (a < 0 ∨ nI 8 ≤ a) → C_JL_isBelow n a 8 μ = some (0, μ) := fun n ha => v_bo (N := 8) ha
  have inn : ∀ {j : Nat} (n : Nat), j < 8 → C_JL_isBelow n (nI j) 8 μ = some (1, μ) := fun n hj => v_bi (N := 8) hj (by decide)
  rcases in_or (x := x) 8 (by decide) with h0 | ⟨a, ha, h0⟩
  · simp only [out _ h0, Option.bind_some, if_true]
    exact Ev.c rfl
  rcases in_or (x := cl w x y z 1) 8 (by decide) with h1 | ⟨b, hb, h1⟩
  · simp only [h0, inn _ ha, out _ (h0 ▸ h1), Option.bind_some, if_true, show ¬ ((1 : Int32) = 0) by decide, if_false]
    exact Ev.c rfl
  rcases in_or (x := cl w x y z 2) 8 (by decide) with h2 | ⟨c, hc, h2⟩
  · simp only [h1]
    simp only [h0, inn _ ha, inn _ hb, out _ (h0 ▸ h2), Option.bind_some, if_true, show ¬ ((1 : Int32) = 0) by decide, if_false]
    exact Ev.c rfl
  · obtain ⟨i, hi, h⟩ := h
    have : i = 0 ∨ i = 1 ∨ i = 2 := by omega
    rcases this with rfl | rfl | rfl
    · exact (not_both (by decide) ha h h0).elim
    · exact (not_both (by decide) hb h h1).elim
    · exact (not_both (by decide) hc h h2).elim
theorem v_bindYes (hS : Sh μ) (he : e < 6) (hr : r < 6) (hw : mI μ (3 + 2 * r) 1 = nI w) (hw3 : w ≤ 3) {X : Nat → Nat} (h : ∀ i, i < 3 → X i < 8 ∧ cl w x y z i = nI (X i)) : Ev (fun n => C_AT_bind n (18 + 2 * e) (3 + 2 * r) x y z μ) (fun q => q.1 = 1 ∧ Fr (fun a j => a = 19 + 2 * e ∨ (a = 18 + 2 * e ∧ j = 1)) (sR μ (18 + 2 * e) 2 (3 + 2 * r)) q.2 ∧ (∀ c, c < 3 → mI q.2 (19 + 2 * e) c = nI (X c)) ∧ mI q.2 (18 + 2 * e) 1 = vsI X) := by
  refine v_bind0 hS hr hw hw3 ?_
  refine E_AT_bind_2 ?_
  obtain ⟨ha, h0⟩ := h 0 (by decide)
  obtain ⟨hb, h1⟩ := h 1 (by decide)
  obtain ⟨hc, h2⟩ := h 2 (by decide)
  have h0 : x = nI (X 0) := h0
  have inn : ∀ {j : Nat} (n : Nat), j < 8 → C_JL_isBelow n (nI j) 8 μ = some (1, μ) := fun n hj => v_bi (N := 8) hj (by decide)
  have hSr := hS.sR he hr
  have t0 : Int32.toNatClampNeg 0 = 0 := by decide
  have t1 : Int32.toNatClampNeg 1 = 1 := by decide
  have t2 : Int32.toNatClampNeg 2 = 2 := by decide
  simp only [B_AT_bind_2, h1, h2]
  simp only [h0, inn _ ha, inn _ hb, inn _ hc, Option.bind_some, show ¬ ((1 : Int32) = 0) by decide, if_false, hS.oA he, hS.oR hr, if_true, mR_sI, ok_sI, mZ_sI, hSr.rV he, hSr.oV he, hSr.zV he, show ib 0 3 = true by decide, show ib 1 3 = true by decide, show ib 2 3 = true by decide, t0, t1, t2]
  refine Ev.c ⟨rfl, ?_, fun c hc => ?_, ?_⟩
  · exact (((Fr.rf.i (Or.inl rfl)).i (Or.inl rfl)).i (Or.inl rfl)).i (Or.inr ⟨rfl, rfl⟩)
  · have : c = 0 ∨ c = 1 ∨ c = 2 := by omega
    rw [rd (Or.inl (by omega))]
    rcases this with rfl | rfl | rfl
    · rw [rd (Or.inr (by decide)), rd (Or.inr (by decide))]
      exact mI_ss
    · rw [rd (Or.inr (by decide))]
      exact mI_ss
    · exact mI_ss
  · exact mI_ss
end BD
