/-! The reference's hanging is the same -/
def pc (x : Int32) : Nat → Nat
  | 0 => 0
  | n + 1 => pc x n + (if bt x n = true then 1 else 0)
theorem pc_eq {x y : Int32} : ∀ {n : Nat}, (∀ k, k < n → bt x k = bt y k) → pc x n = pc y n
  | 0, _ => rfl
  | n + 1, h => by
    unfold pc
    rw [pc_eq (fun k hk => h k (by omega)), h n (by omega)]
theorem pc_mask {m : Nat} (hm : m < 13) : ∀ n, n ≤ m → pc ((1 <<< (nI m &&& 31)) - 1) n = n
  | 0, _ => rfl
  | n + 1, h => by
    unfold pc
    rw [pc_mask hm n (by omega), bt_mask m hm n (by omega)]
    simp [show n < m by omega]
theorem pc_rest {x : Int32} {e : Nat} (hb : bt x e = true) : ∀ n, n ≤ 32 → e < n → pc (rest x e) n + 1 = pc x n
  | 0, _, h => absurd h (Nat.not_lt_zero _)
  | n + 1, hn, h => by
    unfold pc
    by_cases he : e = n
    · subst he
      rw [bt_rs (by omega), hb, pc_eq (y := x) (fun k hk => by rw [bt_rest (by omega) (by omega)]; simp [show k ≠ e by omega])]
      simp
    · have := pc_rest hb n (by omega) (by omega)
      rw [bt_rest (by omega) (by omega)]
      simp only [show n ≠ e by omega, ne_eq, not_false_iff, decide_true, Bool.and_true]
      omega
theorem ear_in {nA : Nat} {vs : Nat → Int32} {left : Int32} {e : Nat} (h : ear nA vs left = some e) : e < nA ∧ bt left e = true ∧ ∃ q, hold nA vs left e = some q := by
  obtain ⟨-, h2, h3, -⟩ := fd_some h
  refine ⟨by omega, ?_, Option.isSome_iff_exists.mp h3⟩
  unfold hold at h3
  by_cases hb : bt left e = true
  · exact hb
  · rw [if_neg hb] at h3
    cases h3
theorem hangR_pc {nA : Nat} {vs : Nat → Int32} (hN : nA ≤ 6) : ∀ i, (hangR nA vs i).2.1 + pc (hangR nA vs i).1 nA = nA
  | 0 => by
    show 0 + pc ((1 <<< (nI nA &&& 31)) - 1) nA = nA
    rw [pc_mask (by omega) nA (Nat.le_refl _)]
    omega
  | i + 1 => by
    have ih := hangR_pc (vs := vs) hN i
    show (hstep nA vs (hangR nA vs i)).2.1 + pc (hstep nA vs (hangR nA vs i)).1 nA = nA
    unfold hstep
    split
    · exact ih
    · rename_i e he
      obtain ⟨h1, h2, -⟩ := ear_in he
      have := pc_rest h2 nA (by omega) h1
      show (hangR nA vs i).2.1 + 1 + pc (rest (hangR nA vs i).1 e) nA = nA
      omega
theorem hangR_hi {nA : Nat} {vs : Nat → Int32} (hN : nA ≤ 6) : ∀ i k, nA ≤ k → k < 32 → bt (hangR nA vs i).1 k = false
  | 0, k, h1, h2 => by
    show bt ((1 <<< (nI nA &&& 31)) - 1) k = false
    rw [bt_mask nA (by omega) k h2]
    simp [show ¬ k < nA by omega]
  | i + 1, k, h1, h2 => by
    have ih := hangR_hi (vs := vs) hN i k h1 h2
    show bt (hstep nA vs (hangR nA vs i)).1 k = false
    unfold hstep
    split
    · exact ih
    · rename_i e he
      have h3 := (ear_in he).1
      show bt (rest _ e) k = false
      rw [bt_rest (by omega) h2, ih]
      rfl
theorem hangR_fix {nA : Nat} {vs : Nat → Int32} {i : Nat} (h : ear nA vs (hangR nA vs i).1 = none) : ∀ d, hangR nA vs (i + d) = hangR nA vs i
  | 0 => rfl
  | d + 1 => by
    show hstep nA vs (hangR nA vs (i + d)) = _
    rw [hangR_fix h d]
    unfold hstep
    rw [h]
theorem pc_pos {x : Int32} {e : Nat} (hb : bt x e = true) : ∀ n, e < n → 0 < pc x n
  | 0, h => absurd h (Nat.not_lt_zero _)
  | n + 1, h => by
    unfold pc
    by_cases he : e = n
    · subst he
      rw [hb]
      simp
    · have := pc_pos hb n (by omega)
      omega
/-- the reference's hanging stands in the memory; all of its own else is as it was -/
def MH (μ : Mem) (s : HS) : Prop := mI μ 56 10 = s.1 ∧ ∀ j, j < 6 → mI μ 63 j = s.2.2.1 j ∧ mI μ 64 j = s.2.2.2.1 j
theorem v_mhang {μ : Mem} {p : Pic} (hS : Sh μ) (hW : WA p) (hM : MA μ p) : Ev (fun n => C_MO_hang n 56 μ) (fun μ' => Fr MHP μ μ' ∧ MH μ' (hangR (pA p) (pvs p) (pA p))) := by
  have hN := hW.2.2.1
  have hMf : ∀ {μ1}, Fr MHP μ μ1 → MA μ1 p := fun k => hM.fr k (fun j => by unfold MHP; omega) (by unfold MHP; omega)
  generalize hG : (fun μ' => Fr MHP μ μ' ∧ MH μ' (hangR (pA p) (pvs p) (pA p))) = G
  -- one round
  have body : ∀ (i d : Nat) (μ1 : Mem), i + d = pA p → Fr MHP μ μ1 → MH μ1 (hangR (pA p) (pvs p) i) → (hangR (pA p) (pvs p) i).2.1 = i → (∀ μ2, i < pA p → Fr MHP μ μ2 → MH μ2 (hangR (pA p) (pvs p) (i + 1)) → (hangR (pA p) (pvs p) (i + 1)).2.1 = i + 1 → Ev (fun n => F_MO_hang n 2 56 (nI (i + 1)) 1 0 0 μ2) G) → Ev (fun n => F_MO_hang n 2 56 (nI i) 1 0 0 μ1) G := by
    intro i d μ1 hi hF hH hc kk
    have hS1 := hS.fr hF
    have hM1 := hMf hF
    have search : ∀ (d e : Nat), e + d = pA p → fd (fun e => (hold (pA p) (pvs p) (hangR (pA p) (pvs p) i).1 e).isSome) d e = ear (pA p) (pvs p) (hangR (pA p) (pvs p) i).1 → Ev (fun n => F_MO_hang n 5 56 (nI i) 0 (nI ((ear (pA p) (pvs p) (hangR (pA p) (pvs p) i).1).getD (pA p))) 0 μ1) G → Ev (fun n => F_MO_hang n 3 56 (nI i) 0 (nI e) 0 μ1) G := by
      intro d
      induction d with
      | zero =>
        intro e he hf h5
        have : e = pA p := by omega
        subst this
        refine E_MO_hang_3 ?_
        simp only [B_MO_hang_3, hS1.k (k := 56) (c := 6) (by decide), hM1.2.1, nI_le (Nat.le_refl (pA p)) (show pA p < 2 ^ 31 by omega), if_true]
        have hf : none = ear (pA p) (pvs p) (hangR (pA p) (pvs p) i).1 := hf
        rw [← hf] at h5
        exact h5
      | succ d ih =>
        intro e he hf h5
        have hlt : e < pA p := by omega
        refine E_MO_hang_3 ?_
        simp only [B_MO_hang_3, hS1.k (k := 56) (c := 6) (by decide), hM1.2.1, nI_ge hlt (show pA p < 2 ^ 31 by omega), if_true, if_false, v_mleft hS1 (show e < 32 by omega), Option.bind_some, hH.1]
        simp only [fd] at hf
        by_cases hb : bt (hangR (pA p) (pvs p) i).1 e = true
        · simp only [hb, if_true, show ¬ ((1 : Int32) = 0) by decide, if_false]
          refine Ev.o (v_mholder hS1 hW hM1 hlt (by rw [hH.1]; exact hb)) ?_
          rw [hH.1]
          cases ho : hold (pA p) (pvs p) (hangR (pA p) (pvs p) i).1 e with
          | none =>
            simp only [ho, Option.isSome_none, if_false, Bool.false_eq_true] at hf
            simp only [enc, show ¬ ((0 : Int32) ≤ -1) by decide, if_false]
            refine E_MO_hang_4 ?_
            simp only [B_MO_hang_4, Option.bind_some, nI_1]
            exact ih (e + 1) (by omega) hf h5
          | some h =>
            simp only [ho, Option.isSome_some, if_true] at hf
            have hh := hold_lt ho
            simp only [enc, nI_pos' (show h < 2 ^ 31 by omega), if_true]
            rw [← hf] at h5
            exact h5
        · have ho : hold (pA p) (pvs p) (hangR (pA p) (pvs p) i).1 e = none := by
            unfold hold
            rw [if_neg hb]
          simp only [ho, Option.isSome_none, if_false, Bool.false_eq_true] at hf
          simp only [hb, if_true, if_false, Bool.false_eq_true]
          refine E_MO_hang_4 ?_
          simp only [B_MO_hang_4, Option.bind_some, nI_1]
          exact ih (e + 1) (by omega) hf h5
    refine E_MO_hang_2 ?_
    simp only [B_MO_hang_2, show ¬ ((1 : Int32) = 0) by decide, if_false]
    refine search (pA p) 0 (by omega) rfl ?_
    cases hear : ear (pA p) (pvs p) (hangR (pA p) (pvs p) i).1 with
    | none =>
      refine E_MO_hang_5 ?_
      simp only [B_MO_hang_5, Option.getD_none, hS1.k (k := 56) (c := 6) (by decide), hM1.2.1, nI_le (Nat.le_refl (pA p)) (show pA p < 2 ^ 31 by omega), if_true]
      refine E_MO_hang_6 ?_
      simp only [B_MO_hang_6, if_true]
      refine E_MO_hang_7 ?_
      simp only [B_MO_hang_7]
      refine E_MO_hang_2 ?_
      simp only [B_MO_hang_2, if_true]
      refine Ev.c ?_
      rw [← hG]
      refine ⟨hF, ?_⟩
      have := hangR_fix hear d
      rw [hi] at this
      rw [this]
      exact hH
    | some e =>
      obtain ⟨he, hb, q, hq⟩ := ear_in hear
      have hqn := hold_lt hq
      have hpc := hangR_pc (vs := pvs p) hN i
      have hpp := pc_pos hb (pA p) he
      refine E_MO_hang_5 ?_
      simp only [B_MO_hang_5, Option.getD_some, hS1.k (k := 56) (c := 6) (by decide), hM1.2.1, nI_ge he (show pA p < 2 ^ 31 by omega), if_true, if_false]
      refine E_MO_hang_6 ?_
      simp only [B_MO_hang_6, show ¬ ((1 : Int32) = 0) by decide, if_false, hS1.k (k := 56) (c := 6) (by decide), hS1.r (k := 56) (j := 11) (v := 63) (by decide), hS1.k (k := 63) (c := 100) (by decide), if_true]
      refine Ev.o (v_mholder hS1 hW hM1 he (by rw [hH.1]; exact hb)) ?_
      rw [hH.1, hq]
      simp only [hS1.k (k := 63) (c := 100) (by decide), hS1.z (show 63 < 71 by decide), show (kz 63).2 = 6 by decide, ib_i (show e < 6 by omega) (show 6 < 2 ^ 31 by decide), nI_clamp (show e < 2 ^ 31 by omega), if_true, Option.bind_some, ok_sI, mZ_sI, mR_sI, hS1.k (k := 56) (c := 6) (by decide), hS1.r (k := 56) (j := 12) (v := 64) (by decide), hS1.k (k := 64) (c := 100) (by decide), hS1.z (show 64 < 71 by decide), show (kz 64).2 = 6 by decide, nI_1, rd (Or.inl (show (56 : Nat) ≠ 63 by decide)), rd (Or.inl (show (56 : Nat) ≠ 64 by decide)), hH.1]
      refine E_MO_hang_7 ?_
      simp only [B_MO_hang_7]
      have hst : hangR (pA p) (pvs p) (i + 1) = (rest (hangR (pA p) (pvs p) i).1 e, (hangR (pA p) (pvs p) i).2.1 + 1, upd (hangR (pA p) (pvs p) i).2.2.1 e (nI q), upd (hangR (pA p) (pvs p) i).2.2.2.1 e (nI (hangR (pA p) (pvs p) i).2.1), upd (hangR (pA p) (pvs p) i).2.2.2.2 (hangR (pA p) (pvs p) i).2.1 (nI e)) := by
        show hstep _ _ _ = _
        simp only [hstep, hear, hq, enc]
      refine kk _ (by omega) (((hF.i (Or.inl rfl)).i (Or.inr (Or.inl rfl))).i (Or.inr (Or.inr ⟨rfl, rfl⟩))) ?_ (by rw [hst]; show _ + 1 = _; omega)
      rw [hst]
      refine ⟨mI_ss, fun j hj => ⟨?_, ?_⟩⟩
      · rw [rd (Or.inl (by decide)), rd (Or.inl (by decide)), mI_s]
        show upd _ _ _ _ = upd _ _ _ _
        unfold upd
        rw [(hH.2 j hj).1]
        rfl
      · rw [rd (Or.inl (by decide)), mI_s]
        show upd _ _ _ _ = upd _ _ _ _
        unfold upd
        rw [rd (Or.inl (by decide)), (hH.2 j hj).2, hc]
  have loop2 : ∀ (d i : Nat) (μ1 : Mem), i + d = pA p → Fr MHP μ μ1 → MH μ1 (hangR (pA p) (pvs p) i) → (hangR (pA p) (pvs p) i).2.1 = i → Ev (fun n => F_MO_hang n 2 56 (nI i) 1 0 0 μ1) G := by
    intro d
    induction d with
    | zero =>
      intro i μ1 hi hF hH hc
      exact body i 0 μ1 hi hF hH hc (fun μ2 h => absurd h (by omega))
    | succ d ih =>
      intro i μ1 hi hF hH hc
      exact body i (d + 1) μ1 hi hF hH hc (fun μ2 h hF2 hH2 hc2 => ih (i + 1) μ2 (by omega) hF2 hH2 hc2)
  -- the start
  have loop1 : ∀ (d i : Nat) (μ1 : Mem), i + d = 6 → Fr MHP μ μ1 → mI μ1 56 10 = (1 <<< (nI (pA p) &&& 31)) - 1 → (∀ j, j < i → mI μ1 63 j = -1 ∧ mI μ1 64 j = -1) → Ev (fun n => F_MO_hang n 1 56 0 1 (nI i) 0 μ1) G := by
    intro d
    induction d with
    | zero =>
      intro i μ1 hi hF a1 a3
      have : i = 6 := by omega
      subst this
      refine E_MO_hang_1 ?_
      simp only [B_MO_hang_1, show (6 : Int32) ≤ nI 6 by decide, if_true]
      exact loop2 (pA p) 0 μ1 (by omega) hF ⟨a1, fun j hj => a3 j hj⟩ rfl
    | succ d ih =>
      intro i μ1 hi hF a1 a3
      have hlt : i < 6 := by omega
      have hS1 := hS.fr hF
      refine E_MO_hang_1 ?_
      simp only [B_MO_hang_1, n6c hlt, if_false, if_true, hS1.k (k := 56) (c := 6) (by decide), hS1.r (k := 56) (j := 11) (v := 63) (by decide), hS1.k (k := 63) (c := 100) (by decide), hS1.z (show 63 < 71 by decide), show (kz 63).2 = 6 by decide, ib_i hlt (show 6 < 2 ^ 31 by decide), nI_clamp (show i < 2 ^ 31 by omega), Option.bind_some, ok_sI, mZ_sI, mR_sI, hS1.r (k := 56) (j := 12) (v := 64) (by decide), hS1.k (k := 64) (c := 100) (by decide), hS1.z (show 64 < 71 by decide), show (kz 64).2 = 6 by decide, nI_1]
      refine ih (i + 1) _ (by omega) ((hF.i (Or.inl rfl)).i (Or.inr (Or.inl rfl))) ?_ (fun j hj => ⟨?_, ?_⟩)
      · rw [rd (Or.inl (by decide)), rd (Or.inl (by decide)), a1]
      · rw [rd (Or.inl (by decide)), mI_g]
        by_cases hj2 : j = i
        · rw [if_pos ⟨rfl, hj2⟩]
        · rw [if_neg (fun z => hj2 z.2)]
          exact (a3 j (by omega)).1
      · rw [mI_g]
        by_cases hj2 : j = i
        · rw [if_pos ⟨rfl, hj2⟩]
        · rw [if_neg (fun z => hj2 z.2), rd (Or.inl (by decide))]
          exact (a3 j (by omega)).2
  unfold C_MO_hang
  refine E_MO_hang_0 ?_
  simp only [B_MO_hang_0, hS.k (k := 56) (c := 6) (by decide), hM.2.1, if_true, Option.bind_some]
  exact loop1 6 0 _ (by omega) (Fr.rf.i (Or.inr (Or.inr ⟨rfl, rfl⟩))) mI_ss (fun j hj => absurd hj (Nat.not_lt_zero _))
theorem tree_64 : ∀ x, x < 64 → ((nI x &&& (nI x - 1)) = 0 ↔ pc (nI x) 6 ≤ 1) := by decide +kernel
theorem small_64 {x : Int32} (h : ∀ k, 6 ≤ k → k < 32 → bt x k = false) : ∃ y, y < 64 ∧ x = nI y := by
  obtain ⟨y, hy, h2⟩ := pk_andE x (m := 63) 6 (by decide)
  refine ⟨y, hy, ?_⟩
  rw [← h2]
  refine bt_ext (fun k hk => ?_)
  rw [bt_and]
  by_cases h6 : k < 6
  · have : ∀ k, k < 6 → bt 63 k = true := by decide
    rw [this k h6, Bool.and_true]
  · rw [h k (by omega) hk, Bool.false_and]
theorem pc_up {x : Int32} {n : Nat} : ∀ d, (∀ k, n ≤ k → k < n + d → bt x k = false) → pc x (n + d) = pc x n
  | 0, _ => rfl
  | d + 1, h => by
    show pc x (n + d) + (if bt x (n + d) = true then 1 else 0) = _
    rw [pc_up d (fun k h1 h2 => h k h1 (by omega)), h (n + d) (by omega) (by omega)]
    simp
/-- both sides' word for a tree -/
theorem tree_iff {nA : Nat} {vs : Nat → Int32} (hN : nA ≤ 6) : ((hangR nA vs nA).1 &&& ((hangR nA vs nA).1 - 1)) = 0 ↔ nA - (hangR nA vs nA).2.1 ≤ 1 := by
  have h1 := hangR_pc (vs := vs) hN nA
  have h2 := hangR_hi (vs := vs) hN nA
  obtain ⟨y, hy, he⟩ := small_64 (fun k a b => h2 k (by omega) b)
  have h3 := pc_up (x := (hangR nA vs nA).1) (n := nA) (6 - nA) (fun k a b => h2 k a (by omega))
  rw [show nA + (6 - nA) = 6 by omega] at h3
  rw [he, tree_64 y hy, ← he, h3]
  omega
