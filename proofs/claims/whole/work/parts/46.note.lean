/-! The reference: a way is noted -/
theorem dig_up {a v i j : Nat} (hv : v < 16) (hj : j < i) : (16 * a + v) / 16 ^ (i - j) % 16 = a / 16 ^ (i - 1 - j) % 16 := by
  rw [show i - j = (i - 1 - j) + 1 by omega, Nat.pow_succ, Nat.mul_comm (16 ^ (i - 1 - j)) 16, ← Nat.div_div_eq_div_mul, show (16 * a + v) / 16 = a by omega]
theorem v_note {μ : Mem} {p : Pic} (hS : Sh μ) (hWF : WF p) (hM : MA μ p) (hD : MD μ p) (hV : VI μ) {w : Nat → Nat} (hw : ∀ e, e < pA p → w e < aS p e) (ht : ∀ e, e < pA p → mI μ 66 e = nI (w e + 1)) (hVW : VW μ p w (pA p)) : Ev (fun n => C_MO_note n 56 μ) (fun μ' => Fr (fun a j => a = 67 ∨ a = 68 ∨ (a = 56 ∧ j = 14)) μ μ' ∧ mL μ' 56 14 = mL μ 56 14 + 1 ∧ (∀ e, e < pA p → mI μ' 67 e = mI μ 67 e ||| (1 <<< (nI (w e) &&& 31))) ∧ ∃ a, a < 16 ^ pH p ∧ (bound p → ∀ i, i < pH p → vl p w (pD p i) (a / 16 ^ (pH p - 1 - i) % 16)) ∧ ∀ j, mI μ' 68 j = if j = a / 32 then mI μ 68 j ||| (1 <<< (nI (a % 32) &&& 31)) else mI μ 68 j) := by
  generalize hG : (fun μ' => Fr (fun a j => a = 67 ∨ a = 68 ∨ (a = 56 ∧ j = 14)) μ μ' ∧ mL μ' 56 14 = mL μ 56 14 + 1 ∧ (∀ e, e < pA p → mI μ' 67 e = mI μ 67 e ||| (1 <<< (nI (w e) &&& 31))) ∧ ∃ a, a < 16 ^ pH p ∧ (bound p → ∀ i, i < pH p → vl p w (pD p i) (a / 16 ^ (pH p - 1 - i) % 16)) ∧ ∀ j, mI μ' 68 j = if j = a / 32 then mI μ 68 j ||| (1 <<< (nI (a % 32) &&& 31)) else mI μ 68 j) = G
  have hN := hWF.1.2.2.1
  have hH := hWF.2.2.2.2.2.1
  have hD8 := hWF.2.2.2.2.2.2.1
  -- the answer's code
  have loop2 : ∀ (t i a : Nat) (ν : Mem), i + t = pH p → Fr (fun a j => a = 67 ∨ (a = 56 ∧ j = 14)) μ ν → mL ν 56 14 = mL μ 56 14 + 1 → (∀ e, e < pA p → mI ν 67 e = mI μ 67 e ||| (1 <<< (nI (w e) &&& 31))) → a < 16 ^ i → (bound p → ∀ j, j < i → vl p w (pD p j) (a / 16 ^ (i - 1 - j) % 16)) → Ev (fun n => F_MO_note n 2 56 (nI a) (nI i) ν) G := by
    intro t
    induction t with
    | zero =>
      intro i a ν hi hF hl hL ha hb
      have : i = pH p := by omega
      subst this
      have hs := hS.fr hF
      have h8 : mI ν 56 8 = nI (pH p) := (hF.2.2.2.1 56 8 (by omega)).trans hD.1
      have ha2 : a < 65536 := Nat.lt_of_lt_of_le ha (Nat.le_trans (Nat.pow_le_pow_right (by decide) hH) (by decide))
      have h5 : nI a >>> ((5 : Int32) &&& 31) = nI (a / 32) := pk_shrN (by omega) _ 5 (by decide)
      have h31 : (nI a &&& 31) = nI (a % 32) := pk_andN (by omega) 5 (by decide)
      refine E_MO_note_2 ?_
      simp only [B_MO_note_2, hs.k (k := 56) (c := 6) (by decide), h8, nI_le (Nat.le_refl (pH p)) (show pH p < 2 ^ 31 by omega), if_true, hs.r (k := 56) (j := 18) (v := 68) (by decide), hs.k (k := 68) (c := 100) (by decide), hs.z (show 68 < 71 by decide), show (kz 68).2 = 2048 by decide, h5, h31, ib_i (show a / 32 < 2048 by omega) (show 2048 < 2 ^ 31 by decide), nI_clamp (show a / 32 < 2 ^ 31 by omega), Option.bind_some]
      refine Ev.c ?_
      rw [← hG]
      have h68 : ∀ j, mI ν 68 j = mI μ 68 j := fun j => hF.2.2.2.1 68 j (by omega)
      refine ⟨(hF.mo (fun a j z => by omega)).i (by omega), hl, fun e he => ?_, a, ha, hb, fun j => ?_⟩
      · rw [rd (Or.inl (by decide))]
        exact hL e he
      · rw [mI_g]
        by_cases q : j = a / 32
        · rw [if_pos ⟨rfl, q⟩, if_pos q, q, h68]
        · rw [if_neg (fun z => q z.2), if_neg q, h68]
    | succ t ih =>
      intro i a ν hi hF hl hL ha hb
      have hlt : i < pH p := by omega
      have hs := hS.fr hF
      have h8 : mI ν 56 8 = nI (pH p) := (hF.2.2.2.1 56 8 (by omega)).trans hD.1
      have h62 : mI ν 62 i = nI (pD p i) := (hF.2.2.2.1 62 i (by omega)).trans (hD.2 i hlt)
      have hx8 := hD8 i hlt
      obtain ⟨v, hv, h65⟩ := hV (pD p i) hx8
      have h65' : mI ν 65 (pD p i) = nI v := (hF.2.2.2.1 65 _ (by omega)).trans h65
      have hmul : (16 : Int32) * nI a + nI v = nI (16 * a + v) := by rw [show (16 : Int32) = nI 16 from rfl, pk_mul, nI_add]
      refine E_MO_note_2 ?_
      simp only [B_MO_note_2, hs.k (k := 56) (c := 6) (by decide), h8, nI_ge hlt (show pH p < 2 ^ 31 by omega), if_true, if_false, hs.r (k := 56) (j := 15) (v := 65) (by decide), hs.k (k := 65) (c := 100) (by decide), hs.r (k := 56) (j := 9) (v := 62) (by decide), hs.k (k := 62) (c := 100) (by decide), hs.z (show 62 < 71 by decide), show (kz 62).2 = 4 by decide, ib_i (show i < 4 by omega) (show 4 < 2 ^ 31 by decide), nI_clamp (show i < 2 ^ 31 by omega), h62, hs.z (show 65 < 71 by decide), show (kz 65).2 = 8 by decide, ib_i hx8 (show 8 < 2 ^ 31 by decide), nI_clamp (show pD p i < 2 ^ 31 by omega), h65', Option.bind_some, hmul, nI_1]
      refine ih (i + 1) (16 * a + v) ν (by omega) hF hl hL (by rw [Nat.pow_succ]; omega) (fun hbd j hj => ?_)
      rw [show i + 1 - 1 - j = i - j by omega]
      rcases Nat.lt_or_ge j i with q | q
      · rw [dig_up hv q]
        exact hb hbd j q
      · have : j = i := by omega
        subst this
        rw [Nat.sub_self, Nat.pow_zero, Nat.div_one, show (16 * a + v) % 16 = v by omega]
        obtain ⟨e, he, c, hc, hx⟩ := hbd j hlt
        refine ⟨e, he, c, hc, hx, ?_⟩
        have h1 := hVW e he c hc
        rw [hx, h65] at h1
        have b1 : Va p e (w e) c < 16 := (hWF.2.2.2.1 (pL p e) (hWF.1.2.2.2 e he).1 (w e) (hw e he)).1 c hc
        rw [nI_eq (by omega) (by omega)] at h1
        exact h1.symm
  -- the rows that live
  have loop1 : ∀ (t i : Nat) (ν : Mem), i + t = pA p → Fr (fun a j => a = 67 ∨ (a = 56 ∧ j = 14)) μ ν → mL ν 56 14 = mL μ 56 14 + 1 → (∀ e, e < pA p → mI ν 67 e = if e < i then mI μ 67 e ||| (1 <<< (nI (w e) &&& 31)) else mI μ 67 e) → Ev (fun n => F_MO_note n 1 56 (nI i) 0 ν) G := by
    intro t
    induction t with
    | zero =>
      intro i ν hi hF hl hL
      have : i = pA p := by omega
      subst this
      have hs := hS.fr hF
      have h5 : mI ν 56 5 = nI (pA p) := (hF.2.2.2.1 56 5 (by omega)).trans hM.2.1
      refine E_MO_note_1 ?_
      simp only [B_MO_note_1, hs.k (k := 56) (c := 6) (by decide), h5, nI_le (Nat.le_refl (pA p)) (show pA p < 2 ^ 31 by omega), if_true]
      refine loop2 (pH p) 0 0 ν (by omega) hF hl (fun e he => ?_) (by decide) (fun _ j hj => absurd hj (Nat.not_lt_zero _))
      rw [hL e he, if_pos he]
    | succ t ih =>
      intro i ν hi hF hl hL
      have hlt : i < pA p := by omega
      have hs := hS.fr hF
      have h5 : mI ν 56 5 = nI (pA p) := (hF.2.2.2.1 56 5 (by omega)).trans hM.2.1
      have h66 : mI ν 66 i = nI (w i + 1) := (hF.2.2.2.1 66 i (by omega)).trans (ht i hlt)
      refine E_MO_note_1 ?_
      simp only [B_MO_note_1, hs.k (k := 56) (c := 6) (by decide), h5, nI_ge hlt (show pA p < 2 ^ 31 by omega), if_true, if_false, hs.r (k := 56) (j := 17) (v := 67) (by decide), hs.k (k := 67) (c := 100) (by decide), hs.z (show 67 < 71 by decide), show (kz 67).2 = 6 by decide, ib_i (show i < 6 by omega) (show 6 < 2 ^ 31 by decide), nI_clamp (show i < 2 ^ 31 by omega), hs.r (k := 56) (j := 16) (v := 66) (by decide), hs.k (k := 66) (c := 100) (by decide), hs.z (show 66 < 71 by decide), show (kz 66).2 = 7 by decide, ib_i (show i < 7 by omega) (show 7 < 2 ^ 31 by decide), h66, nI_pred, Option.bind_some, nI_1]
      refine ih (i + 1) _ (by omega) (hF.i (by omega)) hl (fun e he => ?_)
      rw [mI_g]
      by_cases q : e = i
      · rw [if_pos ⟨rfl, q⟩, if_pos (by omega), q, hL i hlt, if_neg (by omega)]
      · rw [if_neg (fun z => q z.2), hL e he]
        by_cases q2 : e < i
        · rw [if_pos q2, if_pos (by omega)]
        · rw [if_neg q2, if_neg (by omega)]
  unfold C_MO_note
  refine E_MO_note_0 ?_
  simp only [B_MO_note_0, hS.k (k := 56) (c := 6) (by decide), if_true, Option.bind_some]
  refine loop1 (pA p) 0 _ (by omega) (Fr.rf.l (by omega)) mL_ss (fun e he => ?_)
  rw [if_neg (Nat.not_lt_zero _)]
  rfl
