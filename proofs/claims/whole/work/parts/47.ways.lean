/-! Ways that go on from what was chosen; how many, and their answers -/
/-- ways, from the atom d on, t of them -/
noncomputable def cw (p : Pic) : Nat → Nat → (Nat → Nat) → Nat
  | 0, _, w => ind (isWay p w)
  | t + 1, d, w => sm 12 (fun k => cw p t (d + 1) (va_up w d k))
def ex (p : Pic) (d : Nat) (w w' : Nat → Nat) : Prop := isWay p w' ∧ ∀ e, e < d → w' e = w e
def cd (p : Pic) (w : Nat → Nat) (a : Nat) : Prop := a < 16 ^ pH p ∧ ∀ i, i < pH p → vl p w (pD p i) (a / 16 ^ (pH p - 1 - i) % 16)
theorem isWay.congr {p : Pic} {w w' : Nat → Nat} (h : ∀ e, e < pA p → w' e = w e) (hw : isWay p w) : isWay p w' := by
  refine ⟨fun e he => by rw [h e he]; exact hw.1 e he, fun e e' he he' => ?_⟩
  rw [h e he, h e' he']
  exact hw.2 e e' he he'
theorem cw_zero {p : Pic} : ∀ (t d : Nat) (w : Nat → Nat), d + t = pA p → (¬ ∃ w', ex p d w w') → cw p t d w = 0
  | 0, d, w, h, hn => ind_f (fun z => hn ⟨w, z, fun _ _ => rfl⟩)
  | t + 1, d, w, h, hn => by
    show sm 12 (fun k => cw p t (d + 1) (va_up w d k)) = 0
    rw [sm_congr (g := fun _ => 0) (fun k _ => cw_zero t (d + 1) _ (by omega) (fun ⟨w', h1, h2⟩ => hn ⟨w', h1, fun e he => by
      have := h2 e (by omega)
      rw [va_up_ne _ _ (by omega)] at this
      exact this⟩))]
    exact sm_zero 12
theorem sm_cut {f : Nat → Nat} {n : Nat} : ∀ d, (∀ k, n ≤ k → k < n + d → f k = 0) → sm (n + d) f = sm n f
  | 0, _ => rfl
  | d + 1, h => by
    show sm (n + d) f + f (n + d) = sm n f
    rw [sm_cut d (fun k h1 h2 => h k h1 (by omega)), h (n + d) (by omega) (by omega)]
    rfl
/-- beyond the rows there is no way -/
theorem cw_rows {p : Pic} (hs : ∀ e, aS p e ≤ 12) {t d : Nat} {w : Nat → Nat} (h : d + (t + 1) = pA p) : cw p (t + 1) d w = sm (aS p d) (fun k => cw p t (d + 1) (va_up w d k)) := by
  have h12 := hs d
  show sm 12 (fun k => cw p t (d + 1) (va_up w d k)) = _
  have := sm_cut (f := fun k => cw p t (d + 1) (va_up w d k)) (n := aS p d) (12 - aS p d) (fun k h1 h2 => cw_zero t (d + 1) _ (by omega) (fun ⟨w', q1, q2⟩ => by
    have q3 := q2 d (by omega)
    rw [va_up_self] at q3
    have := q1.1 d (show d < pA p by omega)
    have : w' d < aS p d := this
    omega))
  rw [show aS p d + (12 - aS p d) = 12 by omega] at this
  exact this
theorem vl_u {p : Pic} {w : Nat → Nat} (hw : isWay p w) {x v v' : Nat} (h : vl p w x v) (h' : vl p w x v') : v = v' := by
  obtain ⟨e, he, c, hc, hx, hv⟩ := h
  obtain ⟨e', he', c', hc', hx', hv'⟩ := h'
  rw [← hv, ← hv']
  exact hw.2 e e' he he' c hc c' hc' (hx.trans hx'.symm)
theorem dig_eq : ∀ {h a a' : Nat}, a < 16 ^ h → a' < 16 ^ h → (∀ i, i < h → a / 16 ^ (h - 1 - i) % 16 = a' / 16 ^ (h - 1 - i) % 16) → a = a'
  | 0, a, a', h1, h2, _ => by
    have h1 : a < 1 := h1
    have h2 : a' < 1 := h2
    omega
  | h + 1, a, a', h1, h2, hd => by
    have hp : 0 < 16 ^ h := Nat.pow_pos (by decide)
    have e0 := hd 0 (by omega)
    rw [show h + 1 - 1 - 0 = h by omega] at e0
    rw [Nat.pow_succ] at h1 h2
    have q1 : a / 16 ^ h < 16 := Nat.div_lt_of_lt_mul h1
    have q2 : a' / 16 ^ h < 16 := Nat.div_lt_of_lt_mul h2
    rw [Nat.mod_eq_of_lt q1, Nat.mod_eq_of_lt q2] at e0
    have m1 : ∀ b i, i < h → (b % 16 ^ h) / 16 ^ (h - 1 - i) % 16 = b / 16 ^ (h - 1 - i) % 16 := by
      intro b i hi
      have hk : (16 : Nat) ^ h = 16 ^ (h - 1 - i) * 16 ^ (i + 1) := by rw [← Nat.pow_add]; congr 1; omega
      rw [hk, Nat.mod_mul_right_div_self, Nat.pow_succ, Nat.mul_comm, Nat.mod_mul_right_mod]
    have := dig_eq (h := h) (a := a % 16 ^ h) (a' := a' % 16 ^ h) (Nat.mod_lt _ hp) (Nat.mod_lt _ hp) (fun i hi => by
      rw [m1 a i hi, m1 a' i hi]
      have := hd (i + 1) (by omega)
      rw [show h + 1 - 1 - (i + 1) = h - 1 - i by omega] at this
      exact this)
    rw [← Nat.div_add_mod a (16 ^ h), ← Nat.div_add_mod a' (16 ^ h), e0, this]
theorem cd_u {p : Pic} {w : Nat → Nat} (hw : isWay p w) {a a' : Nat} (h : cd p w a) (h' : cd p w a') : a = a' := dig_eq h.1 h'.1 (fun i hi => vl_u hw (h.2 i hi) (h'.2 i hi))
theorem vl.congr {p : Pic} {w w' : Nat → Nat} (h : ∀ e, e < pA p → w' e = w e) {x v : Nat} (hv : vl p w x v) : vl p w' x v := by
  obtain ⟨e, he, c, hc, hx, hv⟩ := hv
  exact ⟨e, he, c, hc, hx, by rw [h e he]; exact hv⟩
theorem cd.congr {p : Pic} {w w' : Nat → Nat} (h : ∀ e, e < pA p → w' e = w e) {a : Nat} (hv : cd p w a) : cd p w' a := ⟨hv.1, fun i hi => (hv.2 i hi).congr h⟩
/-- all ways, by atoms in their order, are the ways -/
theorem cw_ns {p : Pic} : ∀ (t d : Nat) (w : Nat → Nat), cw p t d w = ns 12 (List.range' d t) (fun w => ind (isWay p w)) w
  | 0, _, _ => rfl
  | t + 1, d, w => by
    show sm 12 (fun k => cw p t (d + 1) (va_up w d k)) = sm 12 (fun k => ns 12 (List.range' (d + 1) t) (fun w => ind (isWay p w)) (va_up w d k))
    exact sm_congr (fun k _ => cw_ns t (d + 1) _)
theorem pr_ind {P : Nat → Prop} : ∀ (es : List Nat), pr es (fun q => ind (P q)) = ind (∀ q, q ∈ es → P q)
  | [] => (ind_t (fun q hq => absurd hq List.not_mem_nil)).symm
  | e :: es => by
    show ind (P e) * pr es (fun q => ind (P q)) = _
    rw [pr_ind es, ← ind_and]
    exact ind_iff (List.forall_mem_cons).symm
theorem nW_cw {p : Pic} : nW p = cw p (pA p) 0 (fun _ => 0) := by
  rw [cw_ns]
  unfold nW Zs
  rw [List.range_eq_range']
  refine ns_congr (fun w => ?_)
  rw [pr_ind, ← ind_and]
  refine ind_iff ?_
  have hm : ∀ q, q ∈ List.range' 0 (pA p) ↔ q < pA p := fun q => by simp [List.mem_range'_1]
  constructor
  · rintro ⟨h1, h2⟩
    exact ⟨fun q hq => h2 q ((hm q).mpr hq), (Con.iff (fun q => hm q) w).mp h1⟩
  · rintro ⟨h1, h2⟩
    exact ⟨(Con.iff (fun q => hm q) w).mpr h2, fun q hq => h1 q ((hm q).mp hq)⟩
