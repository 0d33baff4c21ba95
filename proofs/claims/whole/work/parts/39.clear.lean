/-! Clearing the question, and its head -/
theorem HC.w {μ : Mem} {s : HS} {nA : Nat} (h : HC μ s) (hN : nA ≤ 6) : HCw μ nA s := ⟨h.1, h.2.1, fun j hj => h.2.2.1 j (by omega), fun j hj => h.2.2.2.1 j (by omega), h.2.2.2.2⟩
theorem HCw.fr {P : Nat → Nat → Prop} {μ μ' : Mem} {nA : Nat} {s : HS} (h : HCw μ nA s) (k : Fr P μ μ') (hp : ∀ a j, P a j → ¬ (30 ≤ a ∧ a ≤ 33)) : HCw μ' nA s := by
  have f : ∀ a j, (30 ≤ a ∧ a ≤ 33) → mI μ' a j = mI μ a j := fun a j z => k.2.2.2.1 a j (fun y => hp a j y z)
  obtain ⟨h1, h2, h3, h4, h5⟩ := h
  exact ⟨(f 30 5 (by omega)).trans h1, (f 30 4 (by omega)).trans h2, fun j hj => (f 31 j (by omega)).trans (h3 j hj), fun j hj => (f 32 j (by omega)).trans (h4 j hj), fun j hj => (f 33 j (by omega)).trans (h5 j hj)⟩
theorem t_6 {μ : Mem} {p : Pic} {i4 : Int32} {L : Nat} {xs : Nat → Int32} (h : Inv μ p) : Ev (fun n => T_6 n 1 56 70 i4 L xs μ) Gd := by
  have hS := h.1
  obtain ⟨-, hWF, hCR, hCA, hCH, hCG, hMA, hMR, hMD, hVI, hKn⟩ := h
  obtain ⟨⟨w1, w2, w3, w4⟩, w5, w6, w7, w8, w9⟩ := hWF
  simp only [T_6, hS.k (k := 1) (c := 5) (by decide), if_true, C_JL_clear, hS.r (k := 1) (j := 2) (v := 15) (by decide), hS.k (k := 15) (c := 2) (by decide), hCA.1, Option.bind_some, C_QU_empty, ok_sI, mR_sI, hS.r (k := 1) (j := 3) (v := 30) (by decide), hS.k (k := 30) (c := 3) (by decide)]
  have hF1 : Fr (fun a j => a = 15 ∧ (j = 1 ∨ j = 3 ∨ j = 4)) μ (sI (sI (sI μ 15 1 0) 15 3 0) 15 4 0) := ((Fr.rf.i ⟨rfl, by omega⟩).i ⟨rfl, by omega⟩).i ⟨rfl, by omega⟩
  have b1 : mI (sI (sI (sI μ 15 1 0) 15 3 0) 15 4 0) 15 1 = 0 := by
    rw [rd (Or.inr (by decide)), rd (Or.inr (by decide))]
    exact mI_ss
  have b2 : mI (sI (sI (sI μ 15 1 0) 15 3 0) 15 4 0) 15 3 = 0 := by
    rw [rd (Or.inr (by decide))]
    exact mI_ss
  have b3 : mI (sI (sI (sI μ 15 1 0) 15 3 0) 15 4 0) 15 4 = 0 := mI_ss
  generalize sI (sI (sI μ 15 1 0) 15 3 0) 15 4 0 = μ1 at hF1 b1 b2 b3
  have hQ : QC μ1 0 (pvs p) := ⟨b1, by decide, fun e he => absurd he (Nat.not_lt_zero _)⟩
  refine Ev.b (P := fun q => q.1 = nI (pA p) ∧ Fr HP μ1 q.2 ∧ HC q.2 (hangR 0 (pvs p) 0)) ?_ (fun q hq => ?_)
  · refine Ev.b (v_hang (hS.fr hF1) hQ) (fun μ2 h2 => ?_)
    exact Ev.c ⟨rfl, h2⟩
  · obtain ⟨q1, μ2⟩ := q
    obtain ⟨q2, hF2, hH⟩ := hq
    have q2 : q1 = nI (pA p) := q2
    subst q2
    have hS2 : Sh μ2 := (hS.fr hF1).fr hF2
    have hF3 : Fr (fun a j => (a = 15 ∧ (j = 1 ∨ j = 3 ∨ j = 4)) ∨ HP a j) μ μ2 := (hF1.mo (fun a j z => Or.inl z)).tr (hF2.mo (fun a j z => Or.inr z))
    have c5 : mI μ2 56 5 = nI (pA p) := (hF3.2.2.2.1 56 5 (by unfold HP; omega)).trans hMA.2.1
    simp only [hS2.k (k := 56) (c := 6) (by decide), if_true, C_MO_clear, Option.bind_some, rd (show (56 : Nat) ≠ 56 ∨ (5 : Nat) ≠ 0 from Or.inr (by decide)), c5]
    refine Ev.c ⟨(pR p, pW p, pS p, pV p, 0, pL p, pX p, 0, pD p), ?_⟩
    have hF4 : Fr (fun a j => a = 56 ∧ (j = 0 ∨ j = 5 ∨ j = 8 ∨ j = 13)) μ2 (sI (sI (sI (sI μ2 56 0 0) 56 5 0) 56 8 0) 56 13 0) := (((Fr.rf.i ⟨rfl, by omega⟩).i ⟨rfl, by omega⟩).i ⟨rfl, by omega⟩).i ⟨rfl, by omega⟩
    have e1 : mI (sI (sI (sI (sI μ2 56 0 0) 56 5 0) 56 8 0) 56 13 0) 56 5 = 0 := by
      rw [rd (Or.inr (by decide)), rd (Or.inr (by decide))]
      exact mI_ss
    have e2 : mI (sI (sI (sI (sI μ2 56 0 0) 56 5 0) 56 8 0) 56 13 0) 56 8 = 0 := by
      rw [rd (Or.inr (by decide))]
      exact mI_ss
    have e3 : mI (sI (sI (sI (sI μ2 56 0 0) 56 5 0) 56 8 0) 56 13 0) 56 13 = 0 := mI_ss
    generalize sI (sI (sI (sI μ2 56 0 0) 56 5 0) 56 8 0) 56 13 0 = μ3 at hF4 e1 e2 e3
    have hF : Fr (fun a j => (a = 15 ∧ (j = 1 ∨ j = 3 ∨ j = 4)) ∨ (30 ≤ a ∧ a ≤ 33) ∨ (a = 56 ∧ (j = 0 ∨ j = 5 ∨ j = 8 ∨ j = 13))) μ μ3 := (hF3.mo (fun a j z => by unfold HP at z; omega)).tr (hF4.mo (fun a j z => by omega))
    have g1 : ∀ j, mI μ3 15 j = mI μ2 15 j := fun j => hF4.2.2.2.1 15 j (by omega)
    have g2 : ∀ j, mI μ2 15 j = mI μ1 15 j := fun j => hF2.2.2.2.1 15 j (by unfold HP; omega)
    refine ⟨hS.fr hF, ⟨⟨w1, w2, Nat.zero_le _, fun e he => absurd he (Nat.not_lt_zero _)⟩, w5, w6, w7, w8, Nat.zero_le _, fun i hi => absurd hi (Nat.not_lt_zero _), fun i j hi => absurd hi (Nat.not_lt_zero _)⟩, hCR.fr hF (fun a j z => by omega) w1, ⟨((g1 1).trans (g2 1)).trans b1, fun e he => absurd he (Nat.not_lt_zero _)⟩, ⟨((g1 3).trans (g2 3)).trans b2, fun e he => absurd he (Nat.not_lt_zero _), fun x hx => ?_⟩, ?_, ⟨fun r hr => (hF.2.2.2.1 57 r (by omega)).trans (hMA.1 r hr), e1, fun e he => absurd he (Nat.not_lt_zero _)⟩, hMR.fr hF (fun a j z => by omega), ⟨e2, fun e he => absurd he (Nat.not_lt_zero _)⟩, hVI.fr hF (fun a j z => by omega), Or.inl e3⟩
    · rw [(g1 4).trans (g2 4), b3, bt_0]
      exact ⟨fun z => (by cases z), fun ⟨i, hi, _⟩ => absurd hi (Nat.not_lt_zero _)⟩
    · exact (HC.w (nA := 0) hH (by decide)).fr hF4 (fun a j z => by omega)
theorem t_5 {μ : Mem} {p : Pic} {i4 : Int32} {L : Nat} {xs : Nat → Int32} (h : Inv μ p) (hI : Ix i4 L) : Ev (fun n => T_5 n 1 56 70 i4 L xs μ) Gd := by
  obtain ⟨i1, i2, i3, i4'⟩ := hI
  have hinv := h
  have hS := h.1
  obtain ⟨-, hWF, hCR, hCA, hCH, hCG, hMA, hMR, hMD, hVI, hKn⟩ := h
  obtain ⟨⟨w1, w2, w3, w4⟩, w5, w6, w7, w8, w9, w10, w11⟩ := hWF
  simp only [T_5, i1, hS.k (k := 1) (c := 5) (by decide), if_true, C_JL_head, hS.r (k := 1) (j := 2) (v := 15) (by decide), hS.k (k := 15) (c := 2) (by decide), C_QU_putInHead]
  generalize xs (Int32.toNatClampNeg (i4 + 1)) = a
  -- the reference's loop
  have loop : ∀ (Q : Int32 × Mem → Prop) (ν : Mem) (hSv : Sh ν) (hM8 : mI ν 56 8 = nI (pH p)) (hM62 : ∀ i, i < pH p → mI ν 62 i = nI (pD p i)) (d i : Nat) (b : Int32), i + d = pH p → (b = 0 ∨ b = 1) → (b = 0 ↔ ∀ j, j < i → ¬ nI (pD p j) = a) → (∀ b : Int32, (b = 0 ∨ b = 1) → (b = 0 ↔ ∀ j, j < pH p → ¬ nI (pD p j) = a) → Ev (fun n => F_MO_head n 1 56 a b (nI (pH p)) 0 ν) Q) → Ev (fun n => F_MO_head n 1 56 a b (nI i) 0 ν) Q := by
    intro Q ν hSv hM8 hM62 d
    induction d with
    | zero =>
      intro i b hi hb hb2 kk
      have : i = pH p := by omega
      subst this
      exact kk b hb hb2
    | succ d ih =>
      intro i b hi hb hb2 kk
      have hlt : i < pH p := by omega
      refine E_MO_head_1 ?_
      simp only [B_MO_head_1, hSv.k (k := 56) (c := 6) (by decide), hM8, nI_ge hlt (show pH p < 2 ^ 31 by omega), if_true, if_false, hSv.r (k := 56) (j := 9) (v := 62) (by decide), hSv.k (k := 62) (c := 100) (by decide), hSv.z (show 62 < 71 by decide), show (kz 62).2 = 4 by decide, ib_i (show i < 4 by omega) (show 4 < 2 ^ 31 by decide), nI_clamp (show i < 2 ^ 31 by omega), hM62 i hlt]
      have one : (¬ ∀ j, j < i + 1 → ¬ nI (pD p j) = a) → Ev (fun n => F_MO_head n 2 56 a 0 (nI i) 0 ν) Q := by
        intro hne
        refine E_MO_head_2 ?_
        simp only [B_MO_head_2]
        refine E_MO_head_3 ?_
        simp only [B_MO_head_3, Option.bind_some, nI_1]
        exact ih (i + 1) 1 (by omega) (Or.inr rfl) ⟨fun z => absurd z (by decide), fun z => absurd z hne⟩ kk
      rcases hb with rfl | rfl
      · simp only [if_true]
        refine Ev.i (fun he => one (fun z => z i (by omega) he)) (fun he => ?_)
        refine E_MO_head_3 ?_
        simp only [B_MO_head_3, Option.bind_some, nI_1]
        refine ih (i + 1) 0 (by omega) (Or.inl rfl) ⟨fun _ j hj => ?_, fun _ => rfl⟩ kk
        rcases Nat.lt_or_ge j i with z | z
        · exact hb2.mp rfl j z
        · have : j = i := by omega
          subst this
          exact he
      · simp only [show ¬ ((1 : Int32) = 0) by decide, if_false]
        exact one (fun z => absurd (hb2.mpr (fun j hj => z j (by omega))) (by decide))
  have h0 : Inv (sI μ 56 0 0) p := hinv.sc (Or.inr (Or.inl ⟨rfl, Or.inl rfl⟩))
  have hz0 : (0 : Int32) = nI 0 := rfl
  -- the reference says no
  have refNo : (a < 0 ∨ 7 < a ∨ (∃ j, j < pH p ∧ nI (pD p j) = a) ∨ pH p = 4) → Ev (fun n => C_MO_head n 56 a μ) (fun q => q.1 = -1 ∧ Gd q.2) := by
    intro hno
    unfold C_MO_head
    refine E_MO_head_0 ?_
    simp only [B_MO_head_0, hS.k (k := 56) (c := 6) (by decide), if_true, Option.bind_some]
    refine loop _ _ h0.1 h0.2.2.2.2.2.2.2.2.1.1 h0.2.2.2.2.2.2.2.2.1.2 (pH p) 0 0 (by omega) (Or.inl rfl) ⟨fun _ j hj => absurd hj (Nat.not_lt_zero _), fun _ => rfl⟩ (fun b hb hb2 => ?_)
    refine E_MO_head_1 ?_
    simp only [B_MO_head_1, h0.1.k (k := 56) (c := 6) (by decide), h0.2.2.2.2.2.2.2.2.1.1, nI_le (Nat.le_refl (pH p)) (show pH p < 2 ^ 31 by omega), if_true]
    have fin : Ev (fun _ => some ((-1 : Int32), sI μ 56 0 0)) (fun q => q.1 = -1 ∧ Gd q.2) := Ev.c ⟨rfl, p, h0⟩
    refine Ev.i (fun _ => fin) (fun n1 => Ev.i (fun _ => fin) (fun n2 => Ev.i (fun n3 => ?_) (fun _ => fin)))
    refine Ev.i (fun _ => fin) (fun n4 => ?_)
    rcases hno with z | z | ⟨j, z1, z2⟩ | z
    · exact absurd z n1
    · exact absurd z n2
    · exact absurd z2 (hb2.mp n3 j z1)
    · exact absurd (by rw [z]; rfl) n4
  have noEnd : (a < 0 ∨ 7 < a ∨ (∃ j, j < pH p ∧ nI (pD p j) = a) ∨ pH p = 4) → Ev (fun n => Option.bind (C_MO_head n 56 a μ) (fun q6 => if (-1 : Int32) = q6.1 then some q6.2 else none)) Gd := by
    intro hno
    refine Ev.b (refNo hno) (fun q hq => ?_)
    simp only [hq.1, if_true]
    exact Ev.c hq.2
  rcases in_or (x := a) 8 (by decide) with ha | ⟨x, hx, rfl⟩
  · have hb : ∀ n, C_JL_isBelow n a 8 μ = some (0, μ) := fun n => v_bo (N := 8) ha
    simp only [hb, Option.bind_some, if_true, hS.k (k := 56) (c := 6) (by decide)]
    refine noEnd ?_
    rcases ha with z | z
    · exact Or.inl z
    · exact Or.inr (Or.inl (Int32.lt_of_lt_of_le (show (7 : Int32) < nI 8 by decide) z))
  have hb : ∀ n, C_JL_isBelow n (nI x) 8 μ = some (1, μ) := fun n => v_bi (N := 8) hx (by decide)
  simp only [hb, Option.bind_some, show ¬ ((1 : Int32) = 0) by decide, if_false, hS.k (k := 15) (c := 2) (by decide), if_true, v_isIn (show x < 32 by omega), hCH.1]
  by_cases hin : bt (mI μ 15 4) x = true
  · simp only [hin, if_true, show ¬ ((1 : Int32) = 0) by decide, if_false, Option.bind_some, hS.k (k := 56) (c := 6) (by decide)]
    obtain ⟨i, hi, hxi⟩ := (hCH.2.2 x (by omega)).mp hin
    exact noEnd (Or.inr (Or.inr (Or.inl ⟨i, hi, by rw [hxi]⟩)))
  by_cases h4 : pH p = 4
  · have h4' : nI (pH p) = 4 := by rw [h4]; rfl
    simp only [hin, h4', if_true, if_false, Bool.false_eq_true, Option.bind_some, hS.k (k := 56) (c := 6) (by decide)]
    exact noEnd (Or.inr (Or.inr (Or.inr h4)))
  have hlt : pH p < 4 := by omega
  have hn4 : ¬ (nI (pH p) = 4) := fun z => by
    have : nI (pH p) = nI 4 := z
    rw [nI_eq (by omega) (by decide)] at this
    exact h4 this
  have hnew : ∀ j, j < pH p → ¬ pD p j = x := fun j hj z => hin ((hCH.2.2 x (by omega)).mpr ⟨j, hj, z⟩)
  simp only [hin, hn4, if_true, if_false, Bool.false_eq_true, Option.bind_some, hS.r (k := 15) (j := 2) (v := 17) (by decide), hS.k (k := 17) (c := 100) (by decide), hS.z (show 17 < 71 by decide), show (kz 17).2 = 4 by decide, ib_i hlt (show 4 < 2 ^ 31 by decide), nI_clamp (show pH p < 2 ^ 31 by omega), rd (show (15 : Nat) ≠ 17 ∨ (3 : Nat) ≠ pH p from Or.inl (by decide)), rd (show (15 : Nat) ≠ 17 ∨ (4 : Nat) ≠ pH p from Or.inl (by decide)), rd (show (15 : Nat) ≠ 15 ∨ (4 : Nat) ≠ 3 from Or.inr (by decide)), rd (show (15 : Nat) ≠ 15 ∨ (3 : Nat) ≠ 4 from Or.inr (by decide)), hCH.1, nI_1, show ¬ ((1 : Int32) = 0) by decide, ok_sI, mR_sI, hS.k (k := 1) (c := 5) (by decide), hS.r (k := 1) (j := 2) (v := 15) (by decide), hS.k (k := 15) (c := 2) (by decide), mI_ss, nI_pred, hS.k (k := 56) (c := 6) (by decide)]
  have hF1 : Fr (fun a j => a = 17 ∨ (a = 15 ∧ (j = 3 ∨ j = 4))) μ (sI (sI (sI μ 17 (pH p) (nI x)) 15 3 (nI (pH p + 1))) 15 4 (mI μ 15 4 ||| 1 <<< (nI x &&& 31))) := ((Fr.rf.i (Or.inl rfl)).i (Or.inr ⟨rfl, by omega⟩)).i (Or.inr ⟨rfl, by omega⟩)
  have b1 : mI (sI (sI (sI μ 17 (pH p) (nI x)) 15 3 (nI (pH p + 1))) 15 4 (mI μ 15 4 ||| 1 <<< (nI x &&& 31))) 15 3 = nI (pH p + 1) := by
    rw [rd (Or.inr (by decide))]
    exact mI_ss
  have b2 : mI (sI (sI (sI μ 17 (pH p) (nI x)) 15 3 (nI (pH p + 1))) 15 4 (mI μ 15 4 ||| 1 <<< (nI x &&& 31))) 15 4 = mI μ 15 4 ||| 1 <<< (nI x &&& 31) := mI_ss
  have b3 : ∀ j, mI (sI (sI (sI μ 17 (pH p) (nI x)) 15 3 (nI (pH p + 1))) 15 4 (mI μ 15 4 ||| 1 <<< (nI x &&& 31))) 17 j = if j = pH p then nI x else mI μ 17 j := fun j => by
    rw [rd (Or.inl (by decide)), rd (Or.inl (by decide)), mI_g]
    by_cases hj : j = pH p
    · rw [if_pos ⟨rfl, hj⟩, if_pos hj]
    · rw [if_neg (fun z => hj z.2), if_neg hj]
  generalize (sI (sI (sI μ 17 (pH p) (nI x)) 15 3 (nI (pH p + 1))) 15 4 (mI μ 15 4 ||| 1 <<< (nI x &&& 31))) = μ1 at hF1 b1 b2 b3
  have hS1 := hS.fr hF1
  have hF2 : Fr (fun a j => a = 17 ∨ (a = 15 ∧ (j = 3 ∨ j = 4)) ∨ (a = 56 ∧ (j = 0 ∨ j = 8 ∨ j = 13)) ∨ a = 62) μ (sI μ1 56 0 0) := (hF1.mo (fun a j z => by omega)).i (by omega)
  have c8 : mI (sI μ1 56 0 0) 56 8 = nI (pH p) := by
    rw [rd (Or.inr (by decide)), hF1.2.2.2.1 56 8 (by omega)]
    exact hMD.1
  have c62 : ∀ i, i < pH p → mI (sI μ1 56 0 0) 62 i = nI (pD p i) := fun i hi => by
    rw [rd (Or.inl (by decide)), hF1.2.2.2.1 62 i (by omega)]
    exact hMD.2 i hi
  refine Ev.b (P := fun q => q.1 = nI (pH p) ∧ Gd q.2) ?_ (fun q hq => ?_)
  · unfold C_MO_head
    refine E_MO_head_0 ?_
    simp only [B_MO_head_0, hS1.k (k := 56) (c := 6) (by decide), if_true, Option.bind_some]
    have hS2 : Sh (sI μ1 56 0 0) := hS.fr hF2
    refine loop _ _ hS2 c8 c62 (pH p) 0 0 (by omega) (Or.inl rfl) ⟨fun _ j hj => absurd hj (Nat.not_lt_zero _), fun _ => rfl⟩ (fun b hb hb2 => ?_)
    have hb0 : b = 0 := hb2.mpr (fun j hj z => hnew j hj (by rw [nI_eq (by have := w10 j hj; omega) (by omega)] at z; exact z))
    subst hb0
    refine E_MO_head_1 ?_
    have h7 : ¬ ((7 : Int32) < nI x) := nI_nlt (a := 7) (by omega) (by decide)
    simp only [B_MO_head_1, hS2.k (k := 56) (c := 6) (by decide), c8, nI_le (Nat.le_refl (pH p)) (show pH p < 2 ^ 31 by omega), if_true, nI_pos (show x < 2 ^ 31 by omega), h7, if_false, hn4, hS2.r (k := 56) (j := 9) (v := 62) (by decide), hS2.k (k := 62) (c := 100) (by decide), hS2.z (show 62 < 71 by decide), show (kz 62).2 = 4 by decide, ib_i hlt (show 4 < 2 ^ 31 by decide), nI_clamp (show pH p < 2 ^ 31 by omega), Option.bind_some, rd (show (56 : Nat) ≠ 62 ∨ (8 : Nat) ≠ pH p from Or.inl (by decide)), nI_1, rd (show (56 : Nat) ≠ 56 ∨ (8 : Nat) ≠ 13 from Or.inr (by decide)), mI_ss, nI_pred]
    refine Ev.c ⟨rfl, (pR p, pW p, pS p, pV p, pA p, pL p, pX p, pH p + 1, va_up (pD p) (pH p) x), ?_⟩
    have hF : Fr (fun a j => a = 17 ∨ (a = 15 ∧ (j = 3 ∨ j = 4)) ∨ (a = 56 ∧ (j = 0 ∨ j = 8 ∨ j = 13)) ∨ a = 62) μ (sI (sI (sI (sI μ1 56 0 0) 62 (pH p) (nI x)) 56 8 (nI (pH p + 1))) 56 13 0) := ((hF2.i (by omega)).i (by omega)).i (by omega)
    have hF3 : Fr (fun a j => (a = 56 ∧ (j = 0 ∨ j = 8 ∨ j = 13)) ∨ a = 62) μ1 (sI (sI (sI (sI μ1 56 0 0) 62 (pH p) (nI x)) 56 8 (nI (pH p + 1))) 56 13 0) := (((Fr.rf.i (by omega)).i (by omega)).i (by omega)).i (by omega)
    have e1 : mI (sI (sI (sI (sI μ1 56 0 0) 62 (pH p) (nI x)) 56 8 (nI (pH p + 1))) 56 13 0) 56 8 = nI (pH p + 1) := by
      rw [rd (Or.inr (by decide))]
      exact mI_ss
    have e2 : mI (sI (sI (sI (sI μ1 56 0 0) 62 (pH p) (nI x)) 56 8 (nI (pH p + 1))) 56 13 0) 56 13 = 0 := mI_ss
    have e3 : ∀ j, mI (sI (sI (sI (sI μ1 56 0 0) 62 (pH p) (nI x)) 56 8 (nI (pH p + 1))) 56 13 0) 62 j = if j = pH p then nI x else mI (sI μ1 56 0 0) 62 j := fun j => by
      rw [rd (Or.inl (by decide)), rd (Or.inl (by decide)), mI_g]
      by_cases hj : j = pH p
      · rw [if_pos ⟨rfl, hj⟩, if_pos hj]
      · rw [if_neg (fun z => hj z.2), if_neg hj]
    generalize (sI (sI (sI (sI μ1 56 0 0) 62 (pH p) (nI x)) 56 8 (nI (pH p + 1))) 56 13 0) = μ3 at hF hF3 e1 e2 e3
    have g1 : ∀ a j, (a = 15 ∨ a = 17) → mI μ3 a j = mI μ1 a j := fun a j z => hF3.2.2.2.1 a j (by omega)
    have hup : ∀ j, j < pH p + 1 → (j < pH p ∧ va_up (pD p) (pH p) x j = pD p j) ∨ (j = pH p ∧ va_up (pD p) (pH p) x j = x) := fun j hj => by
      rcases Nat.lt_or_ge j (pH p) with z | z
      · exact Or.inl ⟨z, va_up_ne _ _ (by omega)⟩
      · have : j = pH p := by omega
        subst this
        exact Or.inr ⟨rfl, va_up_self _ _ _⟩
    refine ⟨hS.fr hF, ⟨⟨w1, w2, w3, w4⟩, w5, w6, w7, w8, by show pH p + 1 ≤ 4; omega, fun i hi => ?_, fun i j hi hj => ?_⟩, hCR.fr hF (fun a j z => by omega) w1, hCA.fr hF (fun a j z => by omega) w3, ⟨(g1 15 3 (by omega)).trans b1, fun i hi => ?_, fun y hy => ?_⟩, hCG.fr hF (fun a j z => by omega), hMA.fr hF (fun j => by omega) (by omega), hMR.fr hF (fun a j z => by omega), ⟨e1, fun i hi => ?_⟩, hVI.fr hF (fun a j z => by omega), Or.inl e2⟩
    · show va_up (pD p) (pH p) x i < 8
      rcases hup i hi with ⟨z, e⟩ | ⟨z, e⟩
      · rw [e]; exact w10 i z
      · rw [e]; exact hx
    · show va_up (pD p) (pH p) x i = va_up (pD p) (pH p) x j → i = j
      rcases hup i hi with ⟨z, e⟩ | ⟨z, e⟩ <;> rcases hup j hj with ⟨z2, e2⟩ | ⟨z2, e2⟩ <;> rw [e, e2]
      · exact w11 i j z z2
      · exact fun q => absurd q (hnew i z)
      · exact fun q => absurd q.symm (hnew j z2)
      · exact fun _ => by omega
    · show _ = nI (va_up (pD p) (pH p) x i)
      rw [g1 17 i (by omega), b3]
      rcases hup i hi with ⟨z, e⟩ | ⟨z, e⟩
      · rw [e, if_neg (by omega)]
        exact hCH.2.1 i z
      · rw [e, if_pos z]
    · rw [g1 15 4 (by omega), b2, bt_or, Bool.or_eq_true, hCH.2.2 y hy, bt_one x (by omega) y hy, decide_eq_true_eq]
      constructor
      · rintro (⟨i, hi, z⟩ | z)
        · refine ⟨i, Nat.lt_succ_of_lt hi, ?_⟩
          show va_up (pD p) (pH p) x i = y
          rw [va_up_ne _ _ (by omega)]
          exact z
        · exact ⟨pH p, Nat.lt_succ_self _, (va_up_self _ _ _).trans z.symm⟩
      · rintro ⟨i, hi, z⟩
        have z : va_up (pD p) (pH p) x i = y := z
        rcases hup i hi with ⟨z2, e⟩ | ⟨z2, e⟩
        · exact Or.inl ⟨i, z2, by rw [← e]; exact z⟩
        · exact Or.inr (by rw [← e]; exact z.symm)
    · show _ = nI (va_up (pD p) (pH p) x i)
      rw [e3]
      rcases hup i hi with ⟨z, e⟩ | ⟨z, e⟩
      · rw [e, if_neg (by omega)]
        exact c62 i z
      · rw [e, if_pos z]
  · simp only [hq.1, if_true]
    exact Ev.c hq.2
