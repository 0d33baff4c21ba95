/-! The picture of both sides; how the reference's atoms hang -/
/-- relations, their widths, sizes, rows; atoms, their relations, variables; head's length, its variables -/
abbrev Pic : Type := Nat × (Nat → Nat) × (Nat → Nat) × (Nat → Nat → Nat → Nat) × Nat × (Nat → Nat) × (Nat → Nat → Nat) × Nat × (Nat → Nat)
def pR (p : Pic) : Nat := p.1
def pW (p : Pic) : Nat → Nat := p.2.1
def pS (p : Pic) : Nat → Nat := p.2.2.1
def pV (p : Pic) : Nat → Nat → Nat → Nat := p.2.2.2.1
def pA (p : Pic) : Nat := p.2.2.2.2.1
def pL (p : Pic) : Nat → Nat := p.2.2.2.2.2.1
def pX (p : Pic) : Nat → Nat → Nat := p.2.2.2.2.2.2.1
def pH (p : Pic) : Nat := p.2.2.2.2.2.2.2.1
def pD (p : Pic) : Nat → Nat := p.2.2.2.2.2.2.2.2
def pvs (p : Pic) : Nat → Int32 := fun e => vsI (pX p e)
/-- atoms and widths are as they may be -/
def WA (p : Pic) : Prop := pR p ≤ 6 ∧ (∀ r, r < pR p → 1 ≤ pW p r ∧ pW p r ≤ 3) ∧ pA p ≤ 6 ∧ ∀ e, e < pA p → pL p e < pR p ∧ (∀ c, c < 3 → pX p e c < 8) ∧ ∀ c, pW p (pL p e) ≤ c → pX p e c = pX p e 0
/-- the reference's atoms -/
def MA (μ : Mem) (p : Pic) : Prop := (∀ r, r < pR p → mI μ 57 r = nI (pW p r)) ∧ mI μ 56 5 = nI (pA p) ∧ ∀ e, e < pA p → mI μ 60 e = nI (pL p e) ∧ ∀ i, i < pW p (pL p e) → mI μ 61 (3 * e + i) = nI (pX p e i)
def MHP : Nat → Nat → Prop := fun k j => k = 63 ∨ k = 64 ∨ (k = 56 ∧ j = 10)
theorem MA.fr {P : Nat → Nat → Prop} {μ μ' : Mem} {p : Pic} (h : MA μ p) (k : Fr P μ μ') (h1 : ∀ j, ¬ P 57 j ∧ ¬ P 60 j ∧ ¬ P 61 j) (h2 : ¬ P 56 5) : MA μ' p :=
  ⟨fun r hr => (k.2.2.2.1 57 r (h1 r).1).trans (h.1 r hr), (k.2.2.2.1 56 5 h2).trans h.2.1, fun e he => ⟨(k.2.2.2.1 60 e (h1 e).2.1).trans (h.2.2 e he).1, fun i hi => (k.2.2.2.1 61 _ (h1 _).2.2).trans ((h.2.2 e he).2 i hi)⟩⟩
theorem or_x (x : Int32) : x ||| x = x := bt_ext (fun k _ => by rw [bt_or, Bool.or_self])
theorem or_0 (x : Int32) : 0 ||| x = x := bt_ext (fun k _ => by rw [bt_or, bt_0, Bool.false_or])
theorem v_mset {μ : Mem} {p : Pic} (hS : Sh μ) (hW : WA p) (hM : MA μ p) {e : Nat} (he : e < pA p) : EvO (fun n => C_MO_setOf n 56 (nI e) μ) (some (pvs p e, μ)) := by
  obtain ⟨w1, w2, w3, w4⟩ := hW
  obtain ⟨w4, w5, w6⟩ := w4 e he
  obtain ⟨m1, m2, m3⟩ := hM
  obtain ⟨m3, m4⟩ := m3 e he
  obtain ⟨v1, v2⟩ := w2 _ w4
  have go : ∀ (Q : Int32 × Mem → Prop) (i : Nat) (acc : Int32), i < pW p (pL p e) → Ev (fun n => F_MO_setOf n 1 56 (nI e) (acc ||| (1 <<< (nI (pX p e i) &&& 31))) (nI (i + 1)) μ) Q → Ev (fun n => F_MO_setOf n 1 56 (nI e) acc (nI i) μ) Q := by
    intro Q i acc hi hn
    refine E_MO_setOf_1 ?_
    have h3 : (3 : Int32) * nI e + nI i = nI (3 * e + i) := by rw [show (3 : Int32) = nI 3 from rfl, pk_mul, nI_add]
    simp only [B_MO_setOf_1, hS.k (k := 56) (c := 6) (by decide), hS.r (k := 56) (j := 2) (v := 57) (by decide), hS.k (k := 57) (c := 100) (by decide), hS.r (k := 56) (j := 6) (v := 60) (by decide), hS.k (k := 60) (c := 100) (by decide), hS.z (show 60 < 71 by decide), show (kz 60).2 = 6 by decide, ib_i (show e < 6 by omega) (show 6 < 2 ^ 31 by decide), nI_clamp (show e < 2 ^ 31 by omega), m3, hS.z (show 57 < 71 by decide), show (kz 57).2 = 6 by decide, ib_i (show pL p e < 6 by omega) (show 6 < 2 ^ 31 by decide), nI_clamp (show pL p e < 2 ^ 31 by omega), m1 _ w4, nI_ge hi (show pW p (pL p e) < 2 ^ 31 by omega), hS.r (k := 56) (j := 7) (v := 61) (by decide), hS.k (k := 61) (c := 100) (by decide), hS.z (show 61 < 71 by decide), show (kz 61).2 = 18 by decide, h3, ib_i (show 3 * e + i < 18 by omega) (show 18 < 2 ^ 31 by decide), nI_clamp (show 3 * e + i < 2 ^ 31 by omega), m4 i hi, if_true, if_false, Option.bind_some, nI_1]
    exact hn
  have fin : ∀ (acc : Int32), acc = pvs p e → Ev (fun n => F_MO_setOf n 1 56 (nI e) acc (nI (pW p (pL p e))) μ) (fun q => q = (pvs p e, μ)) := by
    intro acc ha
    refine E_MO_setOf_1 ?_
    simp only [B_MO_setOf_1, hS.k (k := 56) (c := 6) (by decide), hS.r (k := 56) (j := 2) (v := 57) (by decide), hS.k (k := 57) (c := 100) (by decide), hS.r (k := 56) (j := 6) (v := 60) (by decide), hS.k (k := 60) (c := 100) (by decide), hS.z (show 60 < 71 by decide), show (kz 60).2 = 6 by decide, ib_i (show e < 6 by omega) (show 6 < 2 ^ 31 by decide), nI_clamp (show e < 2 ^ 31 by omega), m3, hS.z (show 57 < 71 by decide), show (kz 57).2 = 6 by decide, ib_i (show pL p e < 6 by omega) (show 6 < 2 ^ 31 by decide), nI_clamp (show pL p e < 2 ^ 31 by omega), m1 _ w4, nI_le (Nat.le_refl (pW p (pL p e))) (show pW p (pL p e) < 2 ^ 31 by omega), if_true]
    exact Ev.c (by rw [ha])
  refine Ev.eq ?_
  unfold C_MO_setOf
  refine E_MO_setOf_0 ?_
  simp only [B_MO_setOf_0]
  show Ev (fun n => F_MO_setOf n 1 56 (nI e) 0 (nI 0) μ) _
  have hw : pW p (pL p e) = 1 ∨ pW p (pL p e) = 2 ∨ pW p (pL p e) = 3 := by omega
  refine go _ 0 0 (by omega) ?_
  rcases hw with hw | hw | hw
  · have := fin ((0 : Int32) ||| (1 <<< (nI (pX p e 0) &&& 31))) (by
      unfold pvs vsI
      rw [w6 1 (by omega), w6 2 (by omega), or_0, or_x, or_x])
    rw [hw] at this
    exact this
  · refine go _ 1 _ (by omega) ?_
    have := fin ((0 : Int32) ||| (1 <<< (nI (pX p e 0) &&& 31)) ||| (1 <<< (nI (pX p e 1) &&& 31))) (by
      unfold pvs vsI
      rw [w6 2 (by omega), or_0]
      refine bt_ext (fun k _ => ?_)
      rw [bt_or, bt_or, bt_or]
      cases bt (1 <<< (nI (pX p e 0) &&& 31)) k <;> cases bt (1 <<< (nI (pX p e 1) &&& 31)) k <;> rfl)
    rw [hw] at this
    exact this
  · refine go _ 1 _ (by omega) ?_
    refine go _ 2 _ (by omega) ?_
    have := fin ((0 : Int32) ||| (1 <<< (nI (pX p e 0) &&& 31)) ||| (1 <<< (nI (pX p e 1) &&& 31)) ||| (1 <<< (nI (pX p e 2) &&& 31))) (by
      unfold pvs vsI
      rw [or_0])
    rw [hw] at this
    exact this
theorem v_mleft {μ : Mem} (hS : Sh μ) {e : Nat} (he : e < 32) (n : Nat) : C_MO_isLeft n 56 (nI e) μ = some (if bt (mI μ 56 10) e = true then 1 else 0, μ) := by
  unfold C_MO_isLeft
  rw [if_pos (hS.k (k := 56) (c := 6) (by decide))]
  by_cases hb : bt (mI μ 56 10) e = true
  · rw [if_pos ((bt_is1 he).mpr hb), if_pos hb]
  · rw [if_neg (fun z => hb ((bt_is1 he).mp z)), if_neg hb]
theorem bt_rest {left : Int32} {e k : Nat} (he : e < 32) (hk : k < 32) : bt (rest left e) k = (bt left k && decide (k ≠ e)) := by
  unfold rest
  rw [bt_and, bt_not hk, bt_one e he k hk]
  by_cases h : k = e <;> simp [h]
theorem bt_rs {left : Int32} {e : Nat} (he : e < 32) : bt (rest left e) e = false := by
  rw [bt_rest he he]
  simp
theorem v_mholder {μ : Mem} {p : Pic} (hS : Sh μ) (hW : WA p) (hM : MA μ p) {e : Nat} (he : e < pA p) (hb : bt (mI μ 56 10) e = true) : EvO (fun n => C_MO_holder n 56 (nI e) μ) (some (enc (hold (pA p) (pvs p) (mI μ 56 10) e), μ)) := by
  have hN := hW.2.2.1
  have hA := hM.2.1
  generalize hl : mI μ 56 10 = left at hb
  have down : ∀ (j : Nat), j ≤ pA p → Ev (fun n => F_MO_holder n 4 56 (nI e) (orS (pvs p) (rest left e) (pA p)) (enc (fd (hp (pA p) (pvs p) left e) (pA p - j) j)) (nI j - 1) 0 μ) (fun q => q = (enc (hold (pA p) (pvs p) left e), μ)) := by
    intro j
    induction j with
    | zero =>
      intro _
      refine E_MO_holder_4 ?_
      simp only [B_MO_holder_4, show nI 0 - 1 < 0 by decide, if_true]
      refine Ev.c ?_
      simp only [hold, hb, if_true, Nat.sub_zero]
    | succ j ih =>
      intro hj
      have hn := ih (by omega)
      have hlt : j < pA p := by omega
      rw [nI_pred]
      have hfd : fd (hp (pA p) (pvs p) left e) (pA p - j) j = if hp (pA p) (pvs p) left e j = true then some j else fd (hp (pA p) (pvs p) left e) (pA p - (j + 1)) (j + 1) := by
        rw [show pA p - j = (pA p - (j + 1)) + 1 by omega]
        rfl
      refine E_MO_holder_4 ?_
      have goOn : hp (pA p) (pvs p) left e j = false → Ev (fun n => F_MO_holder n 5 56 (nI e) (orS (pvs p) (rest left e) (pA p)) (enc (fd (hp (pA p) (pvs p) left e) (pA p - (j + 1)) (j + 1))) (nI j) 0 μ) (fun q => q = (enc (hold (pA p) (pvs p) left e), μ)) := by
        intro hf
        rw [hfd, hf, if_neg (by decide)] at hn
        refine E_MO_holder_5 ?_
        simp only [B_MO_holder_5]
        refine E_MO_holder_6 ?_
        simp only [B_MO_holder_6, Option.bind_some]
        rw [show nI j + -1 = nI j - 1 from (Int32.sub_eq_add_neg _ _).symm]
        exact hn
      simp only [B_MO_holder_4, nI_pos (show j < 2 ^ 31 by omega), if_false, nI_eq (show j < 2 ^ 31 by omega) (show e < 2 ^ 31 by omega), hS.k (k := 56) (c := 6) (by decide), if_true, v_mleft hS (show j < 32 by omega), Option.bind_some, hl]
      refine Ev.i (fun hje => ?_) (fun hje => ?_)
      · exact goOn (by simp only [hp, hje, bt_rs (show e < 32 by omega), Bool.false_and])
      · by_cases hb2 : bt left j = true
        · simp only [hb2, if_true, show ¬ ((1 : Int32) = 0) by decide, if_false]
          refine Ev.o (v_mset hS hW hM he) ?_
          simp only [hS.k (k := 56) (c := 6) (by decide), if_true]
          refine Ev.o (v_mset hS hW hM hlt) ?_
          refine Ev.i (fun hz => ?_) (fun hz => ?_)
          · have hf : hp (pA p) (pvs p) left e j = true := by simp only [hp, bt_rest (show e < 32 by omega) (show j < 32 by omega), hb2, hje, hz, ne_eq, not_false_iff, decide_true, Bool.and_self]
            rw [hfd, hf, if_pos rfl] at hn
            refine E_MO_holder_6 ?_
            simp only [B_MO_holder_6, Option.bind_some]
            rw [show nI j + -1 = nI j - 1 from (Int32.sub_eq_add_neg _ _).symm]
            exact hn
          · exact goOn (by simp only [hp, hz, decide_false, Bool.and_false])
        · simp only [hb2, if_true, if_false, Bool.false_eq_true]
          exact goOn (by simp only [hp, bt_rest (show e < 32 by omega) (show j < 32 by omega), hb2, Bool.false_and])
  have up : ∀ (d i : Nat), i + d = pA p → Ev (fun n => F_MO_holder n 1 56 (nI e) (orS (pvs p) (rest left e) i) (nI i) 0 0 μ) (fun q => q = (enc (hold (pA p) (pvs p) left e), μ)) := by
    intro d
    induction d with
    | zero =>
      intro i hi
      have : i = pA p := by omega
      subst this
      refine E_MO_holder_1 ?_
      simp only [B_MO_holder_1, hS.k (k := 56) (c := 6) (by decide), hA, nI_le (Nat.le_refl (pA p)) (show pA p < 2 ^ 31 by omega), if_true, Option.bind_some]
      have := down (pA p) (Nat.le_refl _)
      rw [Nat.sub_self] at this
      exact this
    | succ d ih =>
      intro i hi
      have hlt : i < pA p := by omega
      have hn := ih (i + 1) (by omega)
      refine E_MO_holder_1 ?_
      simp only [B_MO_holder_1, hS.k (k := 56) (c := 6) (by decide), hA, nI_ge hlt (show pA p < 2 ^ 31 by omega), if_true, if_false, nI_eq (show i < 2 ^ 31 by omega) (show e < 2 ^ 31 by omega), v_mleft hS (show i < 32 by omega), Option.bind_some, hl]
      have goOn : bt (rest left e) i = false → Ev (fun n => F_MO_holder n 2 56 (nI e) (orS (pvs p) (rest left e) i) (nI i) 0 0 μ) (fun q => q = (enc (hold (pA p) (pvs p) left e), μ)) := by
        intro hf
        simp only [orS, hf, if_false, Bool.false_eq_true] at hn
        refine E_MO_holder_2 ?_
        simp only [B_MO_holder_2]
        refine E_MO_holder_3 ?_
        simp only [B_MO_holder_3, Option.bind_some, nI_1]
        exact hn
      refine Ev.i (fun hie => ?_) (fun hie => ?_)
      · exact goOn (by rw [hie]; exact bt_rs (by omega))
      · by_cases hb2 : bt left i = true
        · simp only [hb2, if_true, show ¬ ((1 : Int32) = 0) by decide, if_false]
          refine Ev.o (v_mset hS hW hM hlt) ?_
          have hf : bt (rest left e) i = true := by simp only [bt_rest (show e < 32 by omega) (show i < 32 by omega), hb2, hie, ne_eq, not_false_iff, decide_true, Bool.and_self]
          simp only [orS, hf, if_true] at hn
          refine E_MO_holder_3 ?_
          simp only [B_MO_holder_3, Option.bind_some, nI_1]
          exact hn
        · simp only [hb2, if_true, if_false, Bool.false_eq_true]
          exact goOn (by simp only [bt_rest (show e < 32 by omega) (show i < 32 by omega), hb2, Bool.false_and])
  refine Ev.eq ?_
  unfold C_MO_holder
  refine E_MO_holder_0 ?_
  simp only [B_MO_holder_0]
  exact up (pA p) 0 (by omega)
