/-! The class compares rows -/
theorem Inv.at {μ : Mem} {p : Pic} (h : Inv μ p) {e : Nat} (he : e < pA p) : AtC μ e (pL p e) (aS p e) (Va p e) (pX p e) := by
  obtain ⟨hS, hWF, hCR, hCA, -⟩ := h
  obtain ⟨h1, h2, h3⟩ := hWF.1.2.2.2 e he
  have hR6 := hWF.1.1
  obtain ⟨c1, c2, c3⟩ := hCA.2 e he
  exact ⟨by omega, c1, fun c hc => ⟨c2 c hc, h2 c hc⟩, c3, hCR.2.1 _ (by omega)⟩
def KS (μ : Mem) (cell : Nat) (p : Pic) (S : Nat → Nat → Prop) : Prop := ∀ e, e < pA p → ∀ k, k < 32 → (bt (mI μ cell e) k = true ↔ S e k)
def AGr (μ : Mem) (p : Pic) : Prop := ∀ x ∈ earsOf p, ∀ k, k < aS p x.2 → ∀ k', k' < 32 → (bt (mI μ (36 + x.1) k) k' = true ↔ k' < aS p x.1 ∧ Ag (Va p) (pX p) x.2 k x.1 k')
def S0 (p : Pic) : Nat → Nat → Prop := fun e k => k < aS p e ∧ Ag (Va p) (pX p) e k e k
def JP : Nat → Nat → Prop := fun a _ => a = 43 ∨ (36 ≤ a ∧ a ≤ 41)
theorem ears_in {p : Pic} (hW : WA p) (ht : tree p) {x : Nat × Nat} (hx : x ∈ earsOf p) : x.1 < pA p ∧ x.2 < pA p := hung_off _ _ (ears_ok hW ht).1 x hx
/-- the place i in the order, its ear and parent in the class's memory -/
theorem Inv.ear {μ : Mem} {p : Pic} (h : Inv μ p) (ht : tree p) {i : Nat} {x : Nat × Nat} (hx : (earsOf p)[i]? = some x) : i < (earsOf p).length ∧ (earsOf p).length ≤ pA p ∧ mI μ 30 4 = nI (earsOf p).length ∧ mI μ 33 i = nI x.1 ∧ mI μ 31 x.1 = nI x.2 ∧ x.1 < pA p ∧ x.2 < pA p := by
  have hW := h.2.1.1
  have hG := h.2.2.2.2.2.1
  obtain ⟨-, e2, e3⟩ := ears_ok hW ht
  have hi : i < (earsOf p).length := (List.getElem?_eq_some_iff.mp hx).1
  have hxi := ears_in hW ht (List.mem_of_getElem? hx)
  have hc := hangR_cnt (nA := pA p) (vs := pvs p) (pA p)
  obtain ⟨a1, a2⟩ := e3 i x hx
  refine ⟨hi, by omega, by rw [e2]; exact hG.2.1, ?_, ?_, hxi⟩
  · rw [hG.2.2.2.2 i (by omega)]; exact a1
  · rw [hG.2.2.1 x.1 hxi.1]; exact a2
theorem Inv.len {μ : Mem} {p : Pic} (h : Inv μ p) (ht : tree p) : mI μ 30 4 = nI (earsOf p).length ∧ (earsOf p).length ≤ pA p := by
  have hW := h.2.1.1
  have hG := h.2.2.2.2.2.1
  obtain ⟨-, e2, -⟩ := ears_ok hW ht
  have hc := hangR_cnt (nA := pA p) (vs := pvs p) (pA p)
  exact ⟨by rw [e2]; exact hG.2.1, by omega⟩
theorem JP.sc {a j : Nat} (h : JP a j) : Sc a j := by unfold JP at h; unfold Sc; omega
theorem v_compare {μ : Mem} {p : Pic} (h : Inv μ p) (ht : tree p) : Ev (fun n => C_JO_compareRows n 34 μ) (fun μ' => Fr JP μ μ' ∧ KS μ' 43 p (S0 p) ∧ AGr μ' p) := by
  have hW := h.2.1.1
  have hN := hW.2.2.1
  have hs12 : ∀ e, aS p e ≤ 12 := fun e => h.2.1.2.1 _
  generalize hG : (fun μ' => Fr JP μ μ' ∧ KS μ' 43 p (S0 p) ∧ AGr μ' p) = G
  -- one ear: all rows of its parent
  have rows : ∀ (i : Nat) (x : Nat × Nat) (hx : (earsOf p)[i]? = some x) (kk : ∀ ν, Fr JP μ ν → KS ν 43 p (S0 p) → (∀ j, j ≤ i → ∀ y, (earsOf p)[j]? = some y → ∀ k, k < aS p y.2 → ∀ k', k' < 32 → (bt (mI ν (36 + y.1) k) k' = true ↔ k' < aS p y.1 ∧ Ag (Va p) (pX p) y.2 k y.1 k')) → Ev (fun n => F_JO_compareRows n 2 34 (nI (i + 1)) 0 0 0 ν) G) (t r : Nat) (ν : Mem), r + t = aS p x.2 → Fr JP μ ν → KS ν 43 p (S0 p) → (∀ j, j < i → ∀ y, (earsOf p)[j]? = some y → ∀ k, k < aS p y.2 → ∀ k', k' < 32 → (bt (mI ν (36 + y.1) k) k' = true ↔ k' < aS p y.1 ∧ Ag (Va p) (pX p) y.2 k y.1 k')) → (∀ k, k < r → ∀ k', k' < 32 → (bt (mI ν (36 + x.1) k) k' = true ↔ k' < aS p x.1 ∧ Ag (Va p) (pX p) x.2 k x.1 k')) → Ev (fun n => F_JO_compareRows n 3 34 (nI i) (nI x.1) (18 + 2 * x.2) (nI r) ν) G := by
    intro i x hx kk t
    obtain ⟨b1, b2, -, -, -, b6, b7⟩ := h.ear ht hx
    induction t with
    | zero =>
      intro r ν hr hF hK hold hnew
      have : r = aS p x.2 := by omega
      subst this
      have hi := h.fr (hF.mo (fun a j z => JP.sc z))
      have hA2 := hi.at b7
      have := hs12 x.2
      refine E_JO_compareRows_3 ?_
      simp only [B_JO_compareRows_3, hi.1.oA (show x.2 < 6 by omega), hA2.2.1, hi.1.oR hA2.1, hA2.2.2.2.2.1, nI_le (Nat.le_refl (aS p x.2)) (show aS p x.2 < 2 ^ 31 by omega), if_true, Option.bind_some, nI_1]
      refine kk ν hF hK (fun j hj y hy => ?_)
      rcases Nat.lt_or_ge j i with q | q
      · exact hold j q y hy
      · have : j = i := by omega
        subst this
        rw [hx] at hy
        cases hy
        exact hnew
    | succ t ih =>
      intro r ν hr hF hK hold hnew
      have hlt : r < aS p x.2 := by omega
      have := hs12 x.2
      have hi := h.fr (hF.mo (fun a j z => JP.sc z))
      have hA2 := hi.at b7
      have hA1 := hi.at b6
      refine E_JO_compareRows_3 ?_
      simp only [B_JO_compareRows_3, hi.1.oA (show x.2 < 6 by omega), hA2.2.1, hi.1.oR hA2.1, hA2.2.2.2.2.1, nI_ge hlt (show aS p x.2 < 2 ^ 31 by omega), if_true, if_false, hi.1.k (k := 34) (c := 4) (by decide), hi.1.r (k := 34) (j := 2) (v := 35) (by decide), hi.1.k (k := 35) (c := 104) (by decide), hi.1.z (show 35 < 71 by decide), show (kz 35).2 = 6 by decide, ib_i (show x.1 < 6 by omega) (show 6 < 2 ^ 31 by decide), nI_clamp (show x.1 < 2 ^ 31 by omega), hi.1.rG (show x.1 < 6 by omega), hi.1.oG (show x.1 < 6 by omega), hi.1.r (k := 34) (j := 0) (v := 15) (by decide), hi.1.k (k := 15) (c := 2) (by decide), hi.1.r (k := 15) (j := 0) (v := 16) (by decide), hi.1.k (k := 16) (c := 103) (by decide), hi.1.z (show 16 < 71 by decide), show (kz 16).2 = 6 by decide, hi.1.rA (show x.1 < 6 by omega), hi.1.oA (show x.1 < 6 by omega)]
      refine Ev.b (v_agree hi.1 (show x.1 < 6 by omega) hA1 (show x.2 < 6 by omega) hA2 hlt) (fun q hq => ?_)
      obtain ⟨q1, q2⟩ := q
      obtain ⟨rfl, hq⟩ := hq
      simp only [hi.1.oG (show x.1 < 6 by omega), hi.1.zG (show x.1 < 6 by omega), ib_i (show r < 12 by omega) (show 12 < 2 ^ 31 by decide), nI_clamp (show r < 2 ^ 31 by omega), if_true, Option.bind_some, nI_1]
      have hF1 : Fr (fun a j => a = 36 + x.1 ∧ j = r) q2 (sI q2 (36 + x.1) r q1) := Fr.rf.i ⟨rfl, rfl⟩
      refine ih (r + 1) _ (by omega) (hF.tr (hF1.mo (fun a j z => by unfold JP; omega))) (fun e he k hk => ?_) (fun j hj y hy k hk k' hk' => ?_) (fun k hk k' hk' => ?_)
      · rw [rd (Or.inl (by omega))]
        exact hK e he k hk
      · rw [mI_g]
        by_cases q : 36 + y.1 = 36 + x.1 ∧ k = r
        · have hyx : y.1 = x.1 := by omega
          obtain ⟨-, -, -, -, g5, -, -⟩ := h.ear ht hy
          obtain ⟨-, -, -, -, g5', -, -⟩ := h.ear ht hx
          obtain ⟨-, -, -, -, -, f6, f7⟩ := h.ear ht hy
          have h2 : y.2 = x.2 := by
            rw [hyx, g5', nI_eq (by omega) (by omega)] at g5
            exact g5.symm
          rw [if_pos q, hyx, h2, q.2]
          exact hq k' hk'
        · rw [if_neg q]
          exact hold j hj y hy k hk k' hk'
      · rw [mI_g]
        by_cases q : k = r
        · rw [if_pos ⟨rfl, q⟩, q]
          exact hq k' hk'
        · rw [if_neg (fun z => q z.2)]
          exact hnew k (by omega) k' hk'
  have loop2 : ∀ (t i : Nat) (ν : Mem), i + t = (earsOf p).length → Fr JP μ ν → KS ν 43 p (S0 p) → (∀ j, j < i → ∀ y, (earsOf p)[j]? = some y → ∀ k, k < aS p y.2 → ∀ k', k' < 32 → (bt (mI ν (36 + y.1) k) k' = true ↔ k' < aS p y.1 ∧ Ag (Va p) (pX p) y.2 k y.1 k')) → Ev (fun n => F_JO_compareRows n 2 34 (nI i) 0 0 0 ν) G := by
    intro t
    induction t with
    | zero =>
      intro i ν hi' hF hK hold
      have hi := h.fr (hF.mo (fun a j z => JP.sc z))
      obtain ⟨l1, l2⟩ := hi.len ht
      have : i = (earsOf p).length := by omega
      subst this
      refine E_JO_compareRows_2 ?_
      simp only [B_JO_compareRows_2, hi.1.k (k := 34) (c := 4) (by decide), hi.1.r (k := 34) (j := 1) (v := 30) (by decide), hi.1.k (k := 30) (c := 3) (by decide), l1, nI_le (Nat.le_refl (earsOf p).length) (show (earsOf p).length < 2 ^ 31 by omega), if_true]
      refine Ev.c ?_
      rw [← hG]
      refine ⟨hF, hK, fun x hx => ?_⟩
      obtain ⟨j, hj, he⟩ := List.getElem_of_mem hx
      exact hold j hj x (by rw [List.getElem?_eq_getElem hj, he])
    | succ t ih =>
      intro i ν hi' hF hK hold
      have hi := h.fr (hF.mo (fun a j z => JP.sc z))
      obtain ⟨l1, l2⟩ := hi.len ht
      have hlt : i < (earsOf p).length := by omega
      have hx : (earsOf p)[i]? = some (earsOf p)[i] := List.getElem?_eq_getElem hlt
      generalize (earsOf p)[i] = x at hx
      obtain ⟨b1, b2, b3, b4, b5, b6, b7⟩ := hi.ear ht hx
      refine E_JO_compareRows_2 ?_
      simp only [B_JO_compareRows_2, hi.1.k (k := 34) (c := 4) (by decide), hi.1.r (k := 34) (j := 1) (v := 30) (by decide), hi.1.k (k := 30) (c := 3) (by decide), l1, nI_ge hlt (show (earsOf p).length < 2 ^ 31 by omega), if_true, if_false, hi.1.r (k := 30) (j := 3) (v := 33) (by decide), hi.1.k (k := 33) (c := 100) (by decide), hi.1.z (show 33 < 71 by decide), show (kz 33).2 = 6 by decide, ib_i (show i < 6 by omega) (show 6 < 2 ^ 31 by decide), nI_clamp (show i < 2 ^ 31 by omega), b4, Option.bind_some, hi.1.r (k := 34) (j := 0) (v := 15) (by decide), hi.1.k (k := 15) (c := 2) (by decide), hi.1.r (k := 15) (j := 0) (v := 16) (by decide), hi.1.k (k := 16) (c := 103) (by decide), hi.1.r (k := 30) (j := 1) (v := 31) (by decide), hi.1.k (k := 31) (c := 100) (by decide), hi.1.z (show 31 < 71 by decide), show (kz 31).2 = 6 by decide, ib_i (show x.1 < 6 by omega) (show 6 < 2 ^ 31 by decide), nI_clamp (show x.1 < 2 ^ 31 by omega), b5, hi.1.z (show 16 < 71 by decide), show (kz 16).2 = 6 by decide, ib_i (show x.2 < 6 by omega) (show 6 < 2 ^ 31 by decide), nI_clamp (show x.2 < 2 ^ 31 by omega), hi.1.rA (show x.2 < 6 by omega), hi.1.oA (show x.2 < 6 by omega)]
      exact rows i x hx (fun ν' g1 g2 g3 => ih (i + 1) ν' (by omega) g1 g2 (fun j hj => g3 j (by omega))) (aS p x.2) 0 ν (by omega) hF hK hold (fun k hk => absurd hk (Nat.not_lt_zero _))
  have loop1 : ∀ (t i : Nat) (ν : Mem), i + t = pA p → Fr JP μ ν → (∀ e, e < i → ∀ k, k < 32 → (bt (mI ν 43 e) k = true ↔ S0 p e k)) → Ev (fun n => F_JO_compareRows n 1 34 (nI i) 0 0 0 ν) G := by
    intro t
    induction t with
    | zero =>
      intro i ν hi' hF hK
      have hi := h.fr (hF.mo (fun a j z => JP.sc z))
      have : i = pA p := by omega
      subst this
      refine E_JO_compareRows_1 ?_
      simp only [B_JO_compareRows_1, hi.1.k (k := 34) (c := 4) (by decide), hi.1.r (k := 34) (j := 0) (v := 15) (by decide), hi.1.k (k := 15) (c := 2) (by decide), hi.2.2.2.1.1, nI_le (Nat.le_refl (pA p)) (show pA p < 2 ^ 31 by omega), if_true]
      exact loop2 (earsOf p).length 0 ν (by omega) hF hK (fun j hj => absurd hj (Nat.not_lt_zero _))
    | succ t ih =>
      intro i ν hi' hF hK
      have hi := h.fr (hF.mo (fun a j z => JP.sc z))
      have hlt : i < pA p := by omega
      have t0 : Int32.toNatClampNeg 0 = 0 := by decide
      refine E_JO_compareRows_1 ?_
      simp only [B_JO_compareRows_1, hi.1.k (k := 34) (c := 4) (by decide), hi.1.r (k := 34) (j := 0) (v := 15) (by decide), hi.1.k (k := 15) (c := 2) (by decide), hi.2.2.2.1.1, nI_ge hlt (show pA p < 2 ^ 31 by omega), if_true, if_false, hi.1.r (k := 34) (j := 3) (v := 42) (by decide), hi.1.k (k := 42) (c := 104) (by decide), hi.1.z (show 42 < 71 by decide), show (kz 42).2 = 5 by decide, show ib 0 5 = true by decide, t0, hi.1.r (k := 42) (j := 0) (v := 43) (by decide), hi.1.k (k := 43) (c := 100) (by decide), hi.1.r (k := 15) (j := 0) (v := 16) (by decide), hi.1.k (k := 16) (c := 103) (by decide), hi.1.z (show 16 < 71 by decide), show (kz 16).2 = 6 by decide, ib_i (show i < 6 by omega) (show 6 < 2 ^ 31 by decide), nI_clamp (show i < 2 ^ 31 by omega), hi.1.rA (show i < 6 by omega), hi.1.oA (show i < 6 by omega)]
      refine Ev.b (v_selfs hi.1 (show i < 6 by omega) (hi.at hlt)) (fun q hq => ?_)
      obtain ⟨q1, q2⟩ := q
      obtain ⟨rfl, hq⟩ := hq
      simp only [hi.1.k (k := 43) (c := 100) (by decide), hi.1.z (show 43 < 71 by decide), show (kz 43).2 = 6 by decide, ib_i (show i < 6 by omega) (show 6 < 2 ^ 31 by decide), if_true, Option.bind_some, nI_1]
      refine ih (i + 1) _ (by omega) (hF.i (Or.inl rfl)) (fun e he k hk => ?_)
      rw [mI_g]
      by_cases q : e = i
      · rw [if_pos ⟨rfl, q⟩, q]
        exact hq k hk
      · rw [if_neg (fun z => q z.2)]
        exact hK e (by omega) k hk
  unfold C_JO_compareRows
  refine E_JO_compareRows_0 ?_
  simp only [B_JO_compareRows_0]
  exact loop1 (pA p) 0 μ (by omega) Fr.rf (fun e he => absurd he (Nat.not_lt_zero _))
