/-! Values of the head, chosen one after the other: what they leave -/
def Sv (p : Pic) (d a : Nat) : Nat → Nat → Prop := fun e k => S0 p e k ∧ ∀ i, i < d → ∀ c, c < 3 → pX p e c = pD p i → Va p e k c = a / 16 ^ (d - 1 - i) % 16
def Pf (p : Pic) (d a : Nat) : Prop := ∃ w, Way (Va p) (pX p) (fun q => q < pA p) (Sv p d a) w
theorem Pf_ans {p : Pic} (hb : bound p) {b : Nat} : isAns p b ↔ b < 16 ^ pH p ∧ Pf p (pH p) b := by
  constructor
  · rintro ⟨w, hw, hlt, hv⟩
    refine ⟨hlt, w, fun q hq => ⟨(isWay_S0.mp hw).1 q hq, fun i hi c hc hx => ?_⟩, hw.2⟩
    exact vl_u hw ⟨q, hq, c, hc, hx, rfl⟩ (hv i hi)
  · rintro ⟨hlt, w, hw⟩
    refine ⟨w, isWay_S0.mpr ⟨fun q hq => (hw.1 q hq).1, hw.2⟩, hlt, fun i hi => ?_⟩
    obtain ⟨e, he, c, hc, hx⟩ := hb i hi
    exact ⟨e, he, c, hc, hx, (hw.1 e he).2 i hi c hc hx⟩
theorem Pf_pre {p : Pic} {d m b : Nat} (hd : d + m = pH p) (h : Pf p (pH p) b) : Pf p d (b / 16 ^ m) := by
  obtain ⟨w, hw⟩ := h
  refine ⟨w, fun q hq => ⟨(hw.1 q hq).1, fun i hi c hc hx => ?_⟩, hw.2⟩
  rw [(hw.1 q hq).2 i (by omega) c hc hx, Nat.div_div_eq_div_mul, ← Nat.pow_add]
  congr 3
  omega
theorem no_ans {p : Pic} (hb : bound p) {d m a : Nat} (hd : d + m = pH p) (h : ¬ Pf p d a) {b : Nat} (h1 : a * 16 ^ m ≤ b) (h2 : b < (a + 1) * 16 ^ m) : ¬ isAns p b := by
  intro hi
  have := Pf_pre hd ((Pf_ans hb).mp hi).2
  rw [Nat.div_eq_of_lt_le h1 h2] at this
  exact h this
theorem cntA_cut {p : Pic} {lo hi : Nat} (hl : lo ≤ hi) (h : ∀ b, lo ≤ b → b < hi → ¬ isAns p b) : cntA p hi = cntA p lo := by
  obtain ⟨d, rfl⟩ : ∃ d, hi = lo + d := ⟨hi - lo, by omega⟩
  exact sm_cut d (fun k h1 h2 => ind_f (h k h1 h2))
theorem cntA_mono {p : Pic} : ∀ {lo hi : Nat}, lo ≤ hi → cntA p lo ≤ cntA p hi := by
  intro lo hi h
  induction hi with
  | zero => rw [show lo = 0 by omega]; exact Nat.le_refl _
  | succ n ih =>
    rw [cntA_s]
    rcases Nat.lt_or_ge n lo with z | z
    · rw [show lo = n + 1 by omega, cntA_s]; exact Nat.le_refl _
    · have := ih z
      omega
theorem Sv_S0 {p : Pic} {e k : Nat} : Sv p 0 0 e k ↔ S0 p e k := ⟨fun h => h.1, fun h => ⟨h, fun i hi => absurd hi (Nat.not_lt_zero _)⟩⟩
/-- what is left when one more value is chosen, before passing up and down -/
def Sn (p : Pic) (d a v : Nat) : Nat → Nat → Prop := fun e k => e < pA p ∧ LvS p (Sv p d a) e k ∧ (k < aS p e ∧ ∀ c, c < 3 → pX p e c = pD p d → Va p e k c = v)
theorem way_next {p : Pic} {d a v : Nat} (hv : v < 16) (w : Nat → Nat) : Way (Va p) (pX p) (fun q => q < pA p) (Sn p d a v) w ↔ Way (Va p) (pX p) (fun q => q < pA p) (Sv p (d + 1) (16 * a + v)) w := by
  have dig : ∀ i, i < d → (16 * a + v) / 16 ^ (d + 1 - 1 - i) % 16 = a / 16 ^ (d - 1 - i) % 16 := fun i hi => dig_up hv hi
  have dig0 : (16 * a + v) / 16 ^ (d + 1 - 1 - d) % 16 = v := by
    rw [show d + 1 - 1 - d = 0 by omega, Nat.pow_zero, Nat.div_one]
    omega
  constructor
  · intro h
    refine ⟨fun q hq => ?_, h.2⟩
    obtain ⟨-, ⟨w', hw', he⟩, -, h3⟩ := h.1 q hq
    have h4 := hw'.1 q hq
    rw [he] at h4
    refine ⟨h4.1, fun i hi c hc hx => ?_⟩
    rcases Nat.lt_or_ge i d with z | z
    · rw [dig i z]
      exact h4.2 i z c hc hx
    · have : i = d := by omega
      subst this
      rw [dig0]
      exact h3 c hc hx
  · intro h
    have hd : Way (Va p) (pX p) (fun q => q < pA p) (Sv p d a) w := ⟨fun q hq => ⟨(h.1 q hq).1, fun i hi c hc hx => by rw [← dig i hi]; exact (h.1 q hq).2 i (by omega) c hc hx⟩, h.2⟩
    refine ⟨fun q hq => ⟨hq, ⟨w, hd, rfl⟩, (h.1 q hq).1.1, fun c hc hx => ?_⟩, h.2⟩
    have := (h.1 q hq).2 d (by omega) c hc hx
    rw [dig0] at this
    exact this
theorem LvS_next {p : Pic} {d a v : Nat} (hv : v < 16) {e k : Nat} : LvS p (Sn p d a v) e k ↔ LvS p (Sv p (d + 1) (16 * a + v)) e k :=
  ⟨fun ⟨w, h1, h2⟩ => ⟨w, (way_next hv w).mp h1, h2⟩, fun ⟨w, h1, h2⟩ => ⟨w, (way_next hv w).mpr h1, h2⟩⟩
theorem Sn_S0 {p : Pic} {d a v : Nat} {e k : Nat} (h : Sn p d a v e k) : S0 p e k := by
  obtain ⟨he, ⟨w, hw, rfl⟩, -⟩ := h
  exact (hw.1 e he).1
/-- a value that live rows hold leads on -/
theorem val_next {p : Pic} {d a v e : Nat} (hv : v < 16) (he : e < pA p) (hx : ∃ c, c < 3 ∧ pX p e c = pD p d) : (∃ c, c < 3 ∧ pX p e c = pD p d ∧ ∃ k, k < aS p e ∧ LvS p (Sv p d a) e k ∧ Va p e k c = v) ↔ Pf p (d + 1) (16 * a + v) := by
  constructor
  · rintro ⟨c, hc, hxc, k, hk, ⟨w, hw, rfl⟩, hV⟩
    refine ⟨w, (way_next hv w).mp ⟨fun q hq => ⟨hq, ⟨w, hw, rfl⟩, (hw.1 q hq).1.1, fun c' hc' hx' => ?_⟩, hw.2⟩⟩
    rw [← hV]
    exact (hw.2 e q he hq c hc c' hc' (hxc.trans hx'.symm)).symm
  · rintro ⟨w, hw⟩
    obtain ⟨c, hc, hxc⟩ := hx
    obtain ⟨-, h2, h3, h4⟩ := ((way_next hv w).mpr hw).1 e he
    exact ⟨c, hc, hxc, w e, h3, h2, h4 c hc hxc⟩
/-! the machine's side -/
theorem v_binds {μ : Mem} {p : Pic} (h : Inv μ p) : Ev (fun n => C_QU_bindsHead n 15 μ) (fun q => q.2 = μ ∧ ((q.1 = 1 ∧ bound p) ∨ (q.1 = 0 ∧ ¬ bound p))) := by
  have hN := h.2.1.1.2.2.1
  have hD8 := h.2.1.2.2.2.2.2.2.1
  have hS := h.1
  have hCH := h.2.2.2.2.1
  have hCA := h.2.2.2.1
  generalize hG : (fun q : Int32 × Mem => q.2 = μ ∧ ((q.1 = 1 ∧ bound p) ∨ (q.1 = 0 ∧ ¬ bound p))) = G
  have loop : ∀ (t i : Nat), i + t = pA p → Ev (fun n => F_QU_bindsHead n 1 15 (orF (pvs p) i) (nI i) μ) G := by
    intro t
    induction t with
    | zero =>
      intro i hi
      have : i = pA p := by omega
      subst this
      refine E_QU_bindsHead_1 ?_
      simp only [B_QU_bindsHead_1, hS.k (k := 15) (c := 2) (by decide), hCA.1, nI_le (Nat.le_refl (pA p)) (show pA p < 2 ^ 31 by omega), if_true]
      have hz : (mI μ 15 4 &&& (orF (pvs p) (pA p) ^^^ (-1))) = 0 ↔ bound p := by
        rw [bt_z]
        constructor
        · intro z i hi
          have hx := hD8 i hi
          have h1 := z (pD p i) (by omega)
          rw [bt_and, bt_not (by omega), (hCH.2.2 (pD p i) (by omega)).mpr ⟨i, hi, rfl⟩] at h1
          exact (bt_orF h.2.1.1 (by omega) (pA p) (Nat.le_refl _)).mp (by simpa using h1)
        · intro z k hk
          rw [bt_and, bt_not hk]
          cases hb : bt (mI μ 15 4) k with
          | false => rfl
          | true =>
            obtain ⟨i, hi, rfl⟩ := (hCH.2.2 k hk).mp hb
            rw [(bt_orF h.2.1.1 hk (pA p) (Nat.le_refl _)).mpr (z i hi)]
            rfl
      refine Ev.i (fun c => Ev.c ?_) (fun c => Ev.c ?_)
      · rw [← hG]
        exact ⟨rfl, Or.inl ⟨rfl, hz.mp c⟩⟩
      · rw [← hG]
        exact ⟨rfl, Or.inr ⟨rfl, fun z => c (hz.mpr z)⟩⟩
    | succ t ih =>
      intro i hi
      have hlt : i < pA p := by omega
      refine E_QU_bindsHead_1 ?_
      simp only [B_QU_bindsHead_1, hS.k (k := 15) (c := 2) (by decide), hCA.1, nI_ge hlt (show pA p < 2 ^ 31 by omega), if_true, if_false, hS.r (k := 15) (j := 0) (v := 16) (by decide), hS.k (k := 16) (c := 103) (by decide), hS.z (show 16 < 71 by decide), show (kz 16).2 = 6 by decide, ib_i (show i < 6 by omega) (show 6 < 2 ^ 31 by decide), nI_clamp (show i < 2 ^ 31 by omega), hS.rA (show i < 6 by omega), hS.oA (show i < 6 by omega), (hCA.2 i hlt).2.2, Option.bind_some, nI_1]
      exact ih (i + 1) (by omega)
  unfold C_QU_bindsHead
  refine E_QU_bindsHead_0 ?_
  simp only [B_QU_bindsHead_0]
  exact loop (pA p) 0 (by omega)
theorem v_atomWith {μ : Mem} {p : Pic} (h : Inv μ p) {x : Nat} (hx : x < 8) (hex : ∃ e, e < pA p ∧ ∃ c, c < 3 ∧ pX p e c = x) : Ev (fun n => C_QU_atomWith n 15 (nI x) μ) (fun q => q.2 = μ ∧ ∃ e, e < pA p ∧ q.1 = nI e ∧ ∃ c, c < 3 ∧ pX p e c = x) := by
  have hN := h.2.1.1.2.2.1
  have hS := h.1
  have hCA := h.2.2.2.1
  generalize hG : (fun q : Int32 × Mem => q.2 = μ ∧ ∃ e, e < pA p ∧ q.1 = nI e ∧ ∃ c, c < 3 ∧ pX p e c = x) = G
  have loop : ∀ (t i : Nat), i + t = pA p → (∀ e, e < i → ¬ ∃ c, c < 3 ∧ pX p e c = x) → Ev (fun n => F_QU_atomWith n 1 15 (nI x) (nI i) μ) G := by
    intro t
    induction t with
    | zero =>
      intro i hi hno
      obtain ⟨e, he, hc⟩ := hex
      exact absurd hc (hno e (by omega))
    | succ t ih =>
      intro i hi hno
      have hlt : i < pA p := by omega
      refine E_QU_atomWith_1 ?_
      simp only [B_QU_atomWith_1, hS.k (k := 15) (c := 2) (by decide), hCA.1, nI_ge hlt (show pA p < 2 ^ 31 by omega), if_true, if_false, hS.r (k := 15) (j := 0) (v := 16) (by decide), hS.k (k := 16) (c := 103) (by decide), hS.z (show 16 < 71 by decide), show (kz 16).2 = 6 by decide, ib_i (show i < 6 by omega) (show 6 < 2 ^ 31 by decide), nI_clamp (show i < 2 ^ 31 by omega), hS.rA (show i < 6 by omega), hS.oA (show i < 6 by omega), (hCA.2 i hlt).2.2, v_isIn (show x < 32 by omega), Option.bind_some, nI_1]
      have hbv : bt (pvs p i) x = true ↔ ∃ c, c < 3 ∧ pX p i c = x := bt_vs (h.2.1.1.2.2.2 i hlt).2.1 (by omega)
      by_cases hb : bt (pvs p i) x = true
      · rw [if_pos hb]
        simp only [show ¬ ((1 : Int32) = 0) by decide, if_false]
        refine Ev.c ?_
        rw [← hG]
        exact ⟨rfl, i, hlt, rfl, hbv.mp hb⟩
      · rw [if_neg hb]
        simp only [if_true]
        refine ih (i + 1) (by omega) (fun e he => ?_)
        rcases Nat.lt_or_ge e i with z | z
        · exact hno e z
        · have : e = i := by omega
          subst this
          exact fun y => hb (hbv.mpr y)
  unfold C_QU_atomWith
  refine E_QU_atomWith_0 ?_
  simp only [B_QU_atomWith_0]
  exact loop (pA p) 0 (by omega) (fun e he => absurd he (Nat.not_lt_zero _))
theorem v_liveVals {μ : Mem} {p : Pic} {S : Nat → Nat → Prop} {g : Nat} (h : Inv μ p) (hg : g < 5) (hK : KS μ (43 + g) p S) {x : Nat} (hx : x < 8) (hex : ∃ e, e < pA p ∧ ∃ c, c < 3 ∧ pX p e c = x) : Ev (fun n => C_JO_liveValuesOf n 34 (nI x) (43 + g) μ) (fun q => q.2 = μ ∧ ∃ e, e < pA p ∧ (∃ c, c < 3 ∧ pX p e c = x) ∧ ∀ v, v < 32 → (bt q.1 v = true ↔ ∃ c, c < 3 ∧ pX p e c = x ∧ ∃ k, k < aS p e ∧ S e k ∧ Va p e k c = v)) := by
  have hN := h.2.1.1.2.2.1
  simp only [C_JO_liveValuesOf, h.1.k (k := 34) (c := 4) (by decide), h.1.r (k := 34) (j := 0) (v := 15) (by decide), h.1.k (k := 15) (c := 2) (by decide), if_true]
  refine Ev.b (v_atomWith h hx hex) (fun q hq => ?_)
  obtain ⟨q1, q2⟩ := q
  obtain ⟨rfl, e, he, rfl, hc⟩ := hq
  have hnm : ¬ (nI e = -1) := fun z => by
    have := nI_pos (n := e) (by omega)
    rw [z] at this
    exact absurd (by decide) this
  simp only [hnm, if_false, h.1.k (k := 34) (c := 4) (by decide), h.1.r (k := 34) (j := 0) (v := 15) (by decide), h.1.k (k := 15) (c := 2) (by decide), h.1.r (k := 15) (j := 0) (v := 16) (by decide), h.1.k (k := 16) (c := 103) (by decide), h.1.z (show 16 < 71 by decide), show (kz 16).2 = 6 by decide, ib_i (show e < 6 by omega) (show 6 < 2 ^ 31 by decide), nI_clamp (show e < 2 ^ 31 by omega), h.1.rA (show e < 6 by omega), h.1.oA (show e < 6 by omega), h.1.oK hg, h.1.zK hg, if_true]
  refine Ev.b (v_valuesOf h.1 (show e < 6 by omega) (h.at he) hx) (fun q hq => ?_)
  obtain ⟨q1, q2⟩ := q
  obtain ⟨rfl, hq⟩ := hq
  refine Ev.c ⟨rfl, e, he, hc, fun v hv => ?_⟩
  rw [hq v hv]
  have h12 : aS p e ≤ 12 := h.2.1.2.1 _
  constructor
  · rintro ⟨c, h1, h2, k, h3, h4, h5⟩
    exact ⟨c, h1, h2, k, h3, (hK e he k (by omega)).mp h4, h5⟩
  · rintro ⟨c, h1, h2, k, h3, h4, h5⟩
    exact ⟨c, h1, h2, k, h3, (hK e he k (by omega)).mpr h4, h5⟩
theorem v_keepWith {μ : Mem} {p : Pic} {d a v : Nat} (h : Inv μ p) (ht : tree p) (hA : AGr μ p) (hd : d < 4) (hK : KS μ (43 + d) p (LvS p (Sv p d a))) (hx : pD p d < 8) (hv : v < 16) : Ev (fun n => C_JO_keepRowsWith n 34 (nI d) (nI (pD p d)) (nI v) μ) (fun μ' => Fr (KP (d + 1)) μ μ' ∧ KS μ' (43 + (d + 1)) p (LvS p (Sv p (d + 1) (16 * a + v)))) := by
  have hN := h.2.1.1.2.2.1
  generalize hG : (fun μ' => Fr (KP (d + 1)) μ μ' ∧ KS μ' (43 + (d + 1)) p (LvS p (Sv p (d + 1) (16 * a + v)))) = G
  have loop : ∀ (t i : Nat) (ν : Mem), i + t = pA p → Fr (KP (d + 1)) μ ν → (∀ e, e < i → ∀ k, k < 32 → (bt (mI ν (43 + (d + 1)) e) k = true ↔ Sn p d a v e k)) → Ev (fun n => F_JO_keepRowsWith n 1 34 (nI d) (nI (pD p d)) (nI v) (43 + (d + 1)) (nI i) ν) G := by
    intro t
    induction t with
    | zero =>
      intro i ν hi' hF hq
      have hi := KP.inv h (by omega) hF
      have : i = pA p := by omega
      subst this
      refine E_JO_keepRowsWith_1 ?_
      simp only [B_JO_keepRowsWith_1, hi.1.k (k := 34) (c := 4) (by decide), hi.1.r (k := 34) (j := 0) (v := 15) (by decide), hi.1.k (k := 15) (c := 2) (by decide), hi.2.2.2.1.1, nI_le (Nat.le_refl (pA p)) (show pA p < 2 ^ 31 by omega), if_true]
      refine Ev.b (v_live hi ht (hA.to h.2.1.1 ht hF) (show d + 1 < 5 by omega) hq (fun e k z => Sn_S0 z)) (fun ν' hν => ?_)
      refine Ev.c ?_
      rw [← hG]
      exact ⟨hF.tr hν.1, fun e he k hk => (hν.2 e he k hk).trans (LvS_next hv)⟩
    | succ t ih =>
      intro i ν hi' hF hq
      have hi := KP.inv h (by omega) hF
      have hlt : i < pA p := by omega
      refine E_JO_keepRowsWith_1 ?_
      simp only [B_JO_keepRowsWith_1, hi.1.k (k := 34) (c := 4) (by decide), hi.1.r (k := 34) (j := 0) (v := 15) (by decide), hi.1.k (k := 15) (c := 2) (by decide), hi.2.2.2.1.1, nI_ge hlt (show pA p < 2 ^ 31 by omega), if_true, if_false, hi.1.r (k := 15) (j := 0) (v := 16) (by decide), hi.1.k (k := 16) (c := 103) (by decide), hi.1.z (show 16 < 71 by decide), show (kz 16).2 = 6 by decide, ib_i (show i < 6 by omega) (show 6 < 2 ^ 31 by decide), nI_clamp (show i < 2 ^ 31 by omega), hi.1.rA (show i < 6 by omega), hi.1.oA (show i < 6 by omega)]
      refine Ev.b (v_rowsAllowing hi.1 (show i < 6 by omega) (hi.at hlt) hx hv) (fun q hq1 => ?_)
      obtain ⟨q1, q2⟩ := q
      obtain ⟨rfl, hq1⟩ := hq1
      simp only [hi.1.k (k := 34) (c := 4) (by decide), hi.1.r (k := 34) (j := 3) (v := 42) (by decide), hi.1.k (k := 42) (c := 104) (by decide), hi.1.z (show 42 < 71 by decide), show (kz 42).2 = 5 by decide, ib_i (show d < 5 by omega) (show 5 < 2 ^ 31 by decide), nI_clamp (show d < 2 ^ 31 by omega), hi.1.rK (show d < 5 by omega), hi.1.oK (show d < 5 by omega), hi.1.zK (show d < 5 by omega), hi.1.oK (show d + 1 < 5 by omega), hi.1.zK (show d + 1 < 5 by omega), ib_i (show i < 6 by omega) (show 6 < 2 ^ 31 by decide), nI_clamp (show i < 2 ^ 31 by omega), if_true, Option.bind_some, nI_1]
      refine ih (i + 1) _ (by omega) (hF.i rfl) (fun e he k hk => ?_)
      rw [mI_g]
      by_cases z : e = i
      · subst z
        rw [if_pos ⟨rfl, rfl⟩, bt_and, Bool.and_eq_true, hq1 k hk, hF.2.2.2.1 (43 + d) e (by unfold KP; omega), hK e hlt k hk]
        exact ⟨fun y => ⟨hlt, y.1, y.2⟩, fun y => ⟨y.2.1, y.2.2⟩⟩
      · rw [if_neg (fun y => z y.2)]
        exact hq e (by omega) k hk
  unfold C_JO_keepRowsWith
  refine E_JO_keepRowsWith_0 ?_
  simp only [B_JO_keepRowsWith_0, h.1.k (k := 34) (c := 4) (by decide), h.1.r (k := 34) (j := 3) (v := 42) (by decide), h.1.k (k := 42) (c := 104) (by decide), h.1.z (show 42 < 71 by decide), show (kz 42).2 = 5 by decide, nI_1, ib_i (show d + 1 < 5 by omega) (show 5 < 2 ^ 31 by decide), nI_clamp (show d + 1 < 2 ^ 31 by omega), h.1.rK (show d + 1 < 5 by omega), h.1.oK (show d + 1 < 5 by omega), if_true]
  exact loop (pA p) 0 μ (by omega) Fr.rf (fun e he => absurd he (Nat.not_lt_zero _))
theorem v_hasWay {μ : Mem} {p : Pic} (h : Inv μ p) (ht : tree p) (hK : KS μ 43 p (LvS p (S0 p))) : Ev (fun n => C_JO_hasWay n 34 43 μ) (fun q => q.2 = μ ∧ ((q.1 = 0 ∧ ¬ ∃ w, isWay p w) ∨ (q.1 = 1 ∧ ∃ w, isWay p w))) := by
  have hN := h.2.1.1.2.2.1
  have h12 : ∀ e, aS p e ≤ 12 := fun e => h.2.1.2.1 _
  generalize hG : (fun q : Int32 × Mem => q.2 = μ ∧ ((q.1 = 0 ∧ ¬ ∃ w, isWay p w) ∨ (q.1 = 1 ∧ ∃ w, isWay p w))) = G
  have yes : (∃ w, isWay p w) → Ev (fun n => F_JO_hasWay n 1 0 0 μ) G := by
    intro hw
    refine E_JO_hasWay_1 ?_
    simp only [B_JO_hasWay_1]
    refine Ev.c ?_
    rw [← hG]
    exact ⟨rfl, Or.inr ⟨rfl, hw⟩⟩
  unfold C_JO_hasWay
  refine E_JO_hasWay_0 ?_
  simp only [B_JO_hasWay_0, h.1.k (k := 34) (c := 4) (by decide), h.1.r (k := 34) (j := 1) (v := 30) (by decide), h.1.k (k := 30) (c := 3) (by decide), if_true]
  refine Ev.o (v_root h) ?_
  rcases Nat.eq_zero_or_pos (pA p) with z0 | z0
  · rw [root_none z0]
    simp only [enc, if_true]
    exact yes ⟨fun _ => 0, fun q hq => absurd hq (by omega), fun a b ha => absurd ha (by omega)⟩
  · obtain ⟨r, r1, r2, -⟩ := root_some h.2.1.1 ht z0
    have hnm : ¬ (nI r = -1) := fun z => by
      have := nI_pos (n := r) (by omega)
      rw [z] at this
      exact absurd (by decide) this
    rw [r2]
    simp only [enc, hnm, if_false, h.1.k (k := 43) (c := 100) (by decide), h.1.z (show 43 < 71 by decide), show (kz 43).2 = 6 by decide, ib_i (show r < 6 by omega) (show 6 < 2 ^ 31 by decide), nI_clamp (show r < 2 ^ 31 by omega), if_true]
    refine Ev.i (fun c => ?_) (fun c => ?_)
    · refine Ev.c ?_
      rw [← hG]
      refine ⟨rfl, Or.inl ⟨rfl, ?_⟩⟩
      rintro ⟨w, hw⟩
      have h1 := hw.1 r r1
      have h2 := h12 r
      have h1 : w r < aS p r := h1
      have h3 := bt_z.mp c (w r) (by omega)
      rw [(hK r r1 (w r) (by omega)).mpr ⟨w, isWay_S0.mp hw, rfl⟩] at h3
      cases h3
    · refine yes (Classical.byContradiction (fun hn => c (bt_z.mpr (fun k hk => ?_))))
      cases hb : bt (mI μ 43 r) k with
      | false => rfl
      | true =>
        obtain ⟨w, hw, -⟩ := (hK r r1 k hk).mp hb
        exact absurd ⟨w, isWay_S0.mpr hw⟩ hn
