/-! The reference's look: what it knows then -/
def LKP : Nat → Nat → Prop := fun a j => SP a j ∨ a = 69 ∨ (a = 56 ∧ (j = 13 ∨ j = 19))
theorem cntA_s {p : Pic} (a : Nat) : cntA p (a + 1) = cntA p a + ind (isAns p a) := rfl
theorem v_look {μ : Mem} {p : Pic} (h : Inv μ p) : Ev (fun n => C_MO_look n 56 μ) (fun μ' => Inv μ' p ∧ mI μ' 56 13 = 1 ∧ Fr LKP μ μ') := by
  have hinv := h
  obtain ⟨hS, hWF, hCR, hCA, hCH, hCG, hMA, hMR, hMD, hVI, hKn⟩ := h
  have hN := hWF.1.2.2.1
  by_cases hk : mI μ 56 13 = 0
  case neg =>
    have h1 : mI μ 56 13 = 1 := by
      rcases hKn with z | z
      · exact absurd z hk
      · exact z.1
    unfold C_MO_look
    refine E_MO_look_0 ?_
    simp only [B_MO_look_0, hS.k (k := 56) (c := 6) (by decide), hk, if_true, if_false]
    exact Ev.c ⟨hinv, h1, Fr.rf⟩
  generalize hG : (fun μ' => Inv μ' p ∧ mI μ' 56 13 = 1 ∧ Fr LKP μ μ') = G
  have fin : ∀ μ', Fr LKP μ μ' → VI μ' → mI μ' 56 13 = 1 → mL μ' 56 14 = lN (nW p) → (∀ e, e < pA p → ∀ k, k < 32 → (bt (mI μ' 67 e) k = true ↔ ∃ w, isWay p w ∧ w e = k)) → (bound p → mI μ' 56 19 = nI (cntA p 65536) ∧ ∀ a, a < 65536 → isAns p a → cntA p a < 64 → mI μ' 69 (cntA p a) = nI a) → G μ' := by
    intro μ' hF hV h13 h14 h67 hb
    rw [← hG]
    refine ⟨⟨hS.fr hF, hWF, hCR.fr hF (fun a j z => ?_) hWF.1.1, hCA.fr hF (fun a j z => ?_) hN, hCH.fr hF (fun a j z => ?_), hCG.fr hF (fun a j z => ?_), hMA.fr hF (fun j => ?_) ?_, hMR.fr hF (fun a j z => ?_), hMD.fr hF (fun a j z => ?_), hV, Or.inr ⟨h13, h14, h67, hb⟩⟩, h13, hF⟩
    all_goals unfold LKP SP at *
    all_goals omega
  -- the codes
  have loop4 : ∀ (t a c : Nat) (ν : Mem), a + t = 65536 → c ≤ a → Fr LKP μ ν → VI ν → mI ν 56 13 = 1 → Ac ν p (nW p) (fun e k => ∃ w, isWay p w ∧ w e = k) (fun a => isAns p a) → mI ν 56 19 = nI c → (bound p → c = cntA p a ∧ ∀ b, b < a → isAns p b → cntA p b < 64 → mI ν 69 (cntA p b) = nI b) → Ev (fun n => F_MO_look n 4 56 0 (nI a) ν) G := by
    intro t
    induction t with
    | zero =>
      intro a c ν ha hc hF hV h13 hA h19 hb
      have : a = 65536 := by omega
      subst this
      refine E_MO_look_4 ?_
      simp only [B_MO_look_4, show (65536 : Int32) ≤ nI 65536 by decide, if_true]
      exact Ev.c (fin ν hF hV h13 hA.1 hA.2.1 (fun hbd => ⟨by rw [h19, (hb hbd).1], (hb hbd).2⟩))
    | succ t ih =>
      intro a c ν ha hc hF hV h13 hA h19 hb
      have hs := hS.fr hF
      have hge : ¬ ((65536 : Int32) ≤ nI a) := nI_ge (b := 65536) (by omega) (by decide)
      have h5 : nI a >>> ((5 : Int32) &&& 31) = nI (a / 32) := pk_shrN (by omega) _ 5 (by decide)
      have h31 : (nI a &&& 31) = nI (a % 32) := pk_andN (by omega) 5 (by decide)
      have six : ∀ (ν' : Mem) (c' : Nat), c' ≤ a + 1 → Fr LKP μ ν' → VI ν' → mI ν' 56 13 = 1 → Ac ν' p (nW p) (fun e k => ∃ w, isWay p w ∧ w e = k) (fun a => isAns p a) → mI ν' 56 19 = nI c' → (bound p → c' = cntA p (a + 1) ∧ ∀ b, b < a + 1 → isAns p b → cntA p b < 64 → mI ν' 69 (cntA p b) = nI b) → Ev (fun n => F_MO_look n 6 56 0 (nI a) ν') G := by
        intro ν' c' q1 q2 q3 q4 q5 q6 q7
        refine E_MO_look_6 ?_
        simp only [B_MO_look_6, Option.bind_some, nI_1]
        exact ih (a + 1) c' ν' (by omega) q1 q2 q3 q4 q5 q6 q7
      refine E_MO_look_4 ?_
      simp only [B_MO_look_4, hge, if_false, hs.k (k := 56) (c := 6) (by decide), hs.r (k := 56) (j := 18) (v := 68) (by decide), hs.k (k := 68) (c := 100) (by decide), hs.z (show 68 < 71 by decide), show (kz 68).2 = 2048 by decide, h5, h31, ib_i (show a / 32 < 2048 by omega) (show 2048 < 2 ^ 31 by decide), nI_clamp (show a / 32 < 2 ^ 31 by omega), if_true, bt_is1 (show a % 32 < 32 by omega), h19]
      -- one answer more
      have five : ∀ (ν' : Mem), Fr (fun x _ => x = 69) ν ν' → (bound p → isAns p a → ∀ b, b < a + 1 → isAns p b → cntA p b < 64 → mI ν' 69 (cntA p b) = nI b) → bt (mI ν 68 (a / 32)) (a % 32) = true → Ev (fun n => F_MO_look n 5 56 0 (nI a) ν') G := by
        intro ν' hF' hfst hbit
        have hF1 : Fr LKP μ ν' := hF.tr (hF'.mo (fun a j z => by unfold LKP; omega))
        have hs' := hS.fr hF1
        have h19' : mI ν' 56 19 = nI c := (hF'.2.2.2.1 56 19 (by omega)).trans h19
        refine E_MO_look_5 ?_
        simp only [B_MO_look_5, hs'.k (k := 56) (c := 6) (by decide), if_true, h19', nI_1, Option.bind_some]
        have hF2 : Fr (fun x j => x = 56 ∧ j = 19) ν' (sI ν' 56 19 (nI (c + 1))) := Fr.rf.i ⟨rfl, rfl⟩
        refine six _ (c + 1) (by omega) (hF1.tr (hF2.mo (fun a j z => by unfold LKP; omega))) ((hV.fr hF' (fun a j z => by omega)).fr hF2 (fun a j z => by omega)) ?_ ((hA.fr hF' (fun a j z => by omega)).fr hF2 (fun a j z => by omega)) mI_ss (fun hbd => ?_)
        · rw [rd (Or.inr (by decide)), hF'.2.2.2.1 56 13 (by omega)]
          exact h13
        · have hans : isAns p a := (hA.2.2 hbd a (by omega)).mp hbit
          refine ⟨by rw [cntA_s, ind_t hans, (hb hbd).1], fun b hb1 hb2 hb3 => ?_⟩
          rw [rd (Or.inl (by decide))]
          exact hfst hbd hans b hb1 hb2 hb3
      refine Ev.i (fun hbit => ?_) (fun hbit => ?_)
      · refine Ev.i (fun h64 => ?_) (fun h64 => ?_)
        · refine five ν Fr.rf (fun hbd hans b hb1 hb2 hb3 => ?_) hbit
          rcases Nat.lt_or_ge b a with q | q
          · exact (hb hbd).2 b q hb2 hb3
          · have : b = a := by omega
            subst this
            rw [← (hb hbd).1] at hb3
            exact absurd h64 (nI_ge (b := 64) hb3 (by decide))
        · have hc64 : c < 64 := by
            rcases Nat.lt_or_ge c 64 with q | q
            · exact q
            · exact absurd (nI_le (a := 64) q (by omega)) h64
          simp only [hs.r (k := 56) (j := 20) (v := 69) (by decide), hs.k (k := 69) (c := 100) (by decide), hs.z (show 69 < 71 by decide), show (kz 69).2 = 64 by decide, ib_i hc64 (show 64 < 2 ^ 31 by decide), nI_clamp (show c < 2 ^ 31 by omega), if_true, Option.bind_some]
          refine five _ (Fr.rf.i rfl) (fun hbd hans b hb1 hb2 hb3 => ?_) hbit
          obtain ⟨hcc, hold⟩ := hb hbd
          rw [mI_g]
          rcases Nat.lt_or_ge b a with q | q
          · have hlt : cntA p b < cntA p a := by
              have : ∀ d, cntA p (b + 1) ≤ cntA p (b + 1 + d) := fun d => by
                induction d with
                | zero => exact Nat.le_refl _
                | succ d ihd => exact Nat.le_trans ihd (Nat.le_add_right _ _)
              have h1 := this (a - (b + 1))
              rw [show b + 1 + (a - (b + 1)) = a by omega, cntA_s, ind_t hb2] at h1
              omega
            rw [if_neg (fun z => by omega)]
            exact hold b q hb2 hb3
          · have : b = a := by omega
            subst this
            rw [if_pos ⟨rfl, hcc.symm⟩]
      · refine six ν c (by omega) hF hV h13 hA h19 (fun hbd => ?_)
        have hna : ¬ isAns p a := fun z => hbit ((hA.2.2 hbd a (by omega)).mpr z)
        refine ⟨by rw [cntA_s, ind_f hna]; exact (hb hbd).1, fun b hb1 hb2 hb3 => ?_⟩
        rcases Nat.lt_or_ge b a with q | q
        · exact (hb hbd).2 b q hb2 hb3
        · have : b = a := by omega
          subst this
          exact absurd hb2 hna
  -- the search
  have srch : ∀ (ν : Mem), Fr LKP μ ν → VI ν → mI ν 56 13 = 1 → mL ν 56 14 = 0 → (∀ j, j < 6 → mI ν 67 j = 0) → (∀ j, j < 2048 → mI ν 68 j = 0) → mI ν 66 0 = 0 → Ev (fun n => F_MO_look n 3 56 (nI 0) 0 ν) G := by
    intro ν hF hV h13 h14 h67 h68 h66
    have hs := hS.fr hF
    have hM : MA ν p := hMA.fr hF (fun j => by unfold LKP SP; omega) (by unfold LKP SP; omega)
    have hR : MR ν p := hMR.fr hF (fun a j z => by unfold LKP SP at z; omega)
    have hD : MD ν p := hMD.fr hF (fun a j z => by unfold LKP SP at z; omega)
    refine v_srch hs hWF hM hR hD (pA p) 0 (fun _ => 0) ν 0 (fun _ _ => False) (fun _ => False) (by omega) (fun e he => absurd he (Nat.not_lt_zero _)) ⟨Fr.rf, hV, fun e he => absurd he (Nat.not_lt_zero _), fun e he => absurd he (Nat.not_lt_zero _)⟩ ⟨h14, fun e he k hk => ?_, fun _ a ha => ?_⟩ h66 (fun μ' hL hA => ?_)
    · rw [h67 e (by omega), bt_0]
      exact ⟨fun z => (by cases z), fun z => z.elim⟩
    · rw [h68 _ (by omega), bt_0]
      exact ⟨fun z => (by cases z), fun z => z.elim⟩
    · obtain ⟨hF', hV', -, -⟩ := hL
      have hFb : Fr LKP μ μ' := hF.tr (hF'.mo (fun a j z => Or.inl z))
      have hs' := hS.fr hFb
      refine E_MO_look_3 ?_
      simp only [B_MO_look_3, show nI 0 - 1 < 0 by decide, if_true, hs'.k (k := 56) (c := 6) (by decide), Option.bind_some]
      have hF2 : Fr (fun x j => x = 56 ∧ j = 19) μ' (sI μ' 56 19 0) := Fr.rf.i ⟨rfl, rfl⟩
      refine loop4 65536 0 0 _ (by omega) (Nat.le_refl _) (hFb.tr (hF2.mo (fun a j z => by unfold LKP; omega))) (hV'.fr hF2 (fun a j z => by omega)) ?_ ((hA.fr hF2 (fun a j z => by omega)).to (by rw [nW_cw, Nat.zero_add]) (fun e he q => ?_) (fun a => ?_)) mI_ss (fun _ => ⟨rfl, fun b hb => absurd hb (Nat.not_lt_zero _)⟩)
      · rw [rd (Or.inr (by decide)), hF'.2.2.2.1 56 13 (by unfold SP; omega)]
        exact h13
      · constructor
        · rintro (z | ⟨w', z1, z2⟩)
          · exact z.elim
          · exact ⟨w', z1.1, z2⟩
        · rintro ⟨w', z1, z2⟩
          exact Or.inr ⟨w', ⟨z1, fun e he => absurd he (Nat.not_lt_zero _)⟩, z2⟩
      · constructor
        · rintro (z | ⟨w', z1, z2⟩)
          · exact z.elim
          · exact ⟨w', z1.1, z2⟩
        · rintro ⟨w', z1, z2⟩
          exact Or.inr ⟨w', ⟨z1, fun e he => absurd he (Nat.not_lt_zero _)⟩, z2⟩
  have loop2 : ∀ (t i : Nat) (ν : Mem), i + t = 2048 → Fr LKP μ ν → VI ν → mI ν 56 13 = 1 → mL ν 56 14 = 0 → (∀ j, j < 6 → mI ν 67 j = 0) → (∀ j, j < i → mI ν 68 j = 0) → Ev (fun n => F_MO_look n 2 56 (nI i) 0 ν) G := by
    intro t
    induction t with
    | zero =>
      intro i ν hi hF hV h13 h14 h67 h68
      have : i = 2048 := by omega
      subst this
      have hs := hS.fr hF
      refine E_MO_look_2 ?_
      simp only [B_MO_look_2, show (2048 : Int32) ≤ nI 2048 by decide, if_true, hs.k (k := 56) (c := 6) (by decide), hs.r (k := 56) (j := 16) (v := 66) (by decide), hs.k (k := 66) (c := 100) (by decide), hs.z (show 66 < 71 by decide), show (kz 66).2 = 7 by decide, show ib 0 7 = true by decide, show Int32.toNatClampNeg 0 = 0 by decide, Option.bind_some]
      have hF2 : Fr (fun x j => x = 66) ν (sI ν 66 0 0) := Fr.rf.i rfl
      refine srch _ (hF.tr (hF2.mo (fun a j z => by unfold LKP SP; omega))) (hV.fr hF2 (fun a j z => by omega)) ?_ h14 (fun j hj => ?_) (fun j hj => ?_) mI_ss
      · rw [rd (Or.inl (by decide))]; exact h13
      · rw [rd (Or.inl (by decide))]; exact h67 j hj
      · rw [rd (Or.inl (by decide))]; exact h68 j hj
    | succ t ih =>
      intro i ν hi hF hV h13 h14 h67 h68
      have hs := hS.fr hF
      have hge : ¬ ((2048 : Int32) ≤ nI i) := nI_ge (b := 2048) (by omega) (by decide)
      refine E_MO_look_2 ?_
      simp only [B_MO_look_2, hge, if_false, if_true, hs.k (k := 56) (c := 6) (by decide), hs.r (k := 56) (j := 18) (v := 68) (by decide), hs.k (k := 68) (c := 100) (by decide), hs.z (show 68 < 71 by decide), show (kz 68).2 = 2048 by decide, ib_i (show i < 2048 by omega) (show 2048 < 2 ^ 31 by decide), nI_clamp (show i < 2 ^ 31 by omega), Option.bind_some, nI_1]
      have hF2 : Fr (fun x j => x = 68) ν (sI ν 68 i 0) := Fr.rf.i rfl
      refine ih (i + 1) _ (by omega) (hF.tr (hF2.mo (fun a j z => by unfold LKP SP; omega))) (hV.fr hF2 (fun a j z => by omega)) ?_ h14 (fun j hj => ?_) (fun j hj => ?_)
      · rw [rd (Or.inl (by decide))]; exact h13
      · rw [rd (Or.inl (by decide))]; exact h67 j hj
      · rw [mI_g]
        by_cases q : j = i
        · rw [if_pos ⟨rfl, q⟩]
        · rw [if_neg (fun z => q z.2)]; exact h68 j (by omega)
  have loop1 : ∀ (t i : Nat) (ν : Mem), i + t = 6 → Fr LKP μ ν → VI ν → mI ν 56 13 = 1 → mL ν 56 14 = 0 → (∀ j, j < i → mI ν 67 j = 0) → Ev (fun n => F_MO_look n 1 56 (nI i) 0 ν) G := by
    intro t
    induction t with
    | zero =>
      intro i ν hi hF hV h13 h14 h67
      have : i = 6 := by omega
      subst this
      refine E_MO_look_1 ?_
      simp only [B_MO_look_1, show (6 : Int32) ≤ nI 6 by decide, if_true]
      exact loop2 2048 0 ν (by omega) hF hV h13 h14 h67 (fun j hj => absurd hj (Nat.not_lt_zero _))
    | succ t ih =>
      intro i ν hi hF hV h13 h14 h67
      have hs := hS.fr hF
      refine E_MO_look_1 ?_
      simp only [B_MO_look_1, n6c (show i < 6 by omega), if_false, if_true, hs.k (k := 56) (c := 6) (by decide), hs.r (k := 56) (j := 17) (v := 67) (by decide), hs.k (k := 67) (c := 100) (by decide), hs.z (show 67 < 71 by decide), show (kz 67).2 = 6 by decide, ib_i (show i < 6 by omega) (show 6 < 2 ^ 31 by decide), nI_clamp (show i < 2 ^ 31 by omega), Option.bind_some, nI_1]
      have hF2 : Fr (fun x j => x = 67) ν (sI ν 67 i 0) := Fr.rf.i rfl
      refine ih (i + 1) _ (by omega) (hF.tr (hF2.mo (fun a j z => by unfold LKP SP; omega))) (hV.fr hF2 (fun a j z => by omega)) ?_ h14 (fun j hj => ?_)
      · rw [rd (Or.inl (by decide))]; exact h13
      · rw [mI_g]
        by_cases q : j = i
        · rw [if_pos ⟨rfl, q⟩]
        · rw [if_neg (fun z => q z.2)]; exact h67 j (by omega)
  unfold C_MO_look
  refine E_MO_look_0 ?_
  simp only [B_MO_look_0, hS.k (k := 56) (c := 6) (by decide), hk, if_true, Option.bind_some]
  have hFa : Fr (fun x j => x = 56 ∧ (j = 13 ∨ j = 14)) μ (sL (sI μ 56 13 1) 56 14 0) := (Fr.rf.i ⟨rfl, by omega⟩).l ⟨rfl, by omega⟩
  exact loop1 6 0 _ (by omega) (hFa.mo (fun a j z => by unfold LKP SP; omega)) (hVI.fr hFa (fun a j z => by omega)) (by rw [mI_sL]; exact mI_ss) mL_ss (fun j hj => absurd hj (Nat.not_lt_zero _))
