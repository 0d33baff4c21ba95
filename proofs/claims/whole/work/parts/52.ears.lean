/-! The class's order of hanging, as a list of ears -/
def hlist (nA : Nat) (vs : Nat → Int32) : Nat → Nat → List (Nat × Nat)
  | 0, _ => []
  | d + 1, i => match ear nA vs (hangR nA vs i).1 with
    | none => []
    | some e => (e, (hold nA vs (hangR nA vs i).1 e).getD 0) :: hlist nA vs d (i + 1)
theorem bt_orS {vs : Nat → Int32} {set : Int32} {x : Nat} : ∀ n, (bt (orS vs set n) x = true ↔ ∃ e, e < n ∧ bt set e = true ∧ bt (vs e) x = true)
  | 0 => by
    show bt 0 x = true ↔ _
    rw [bt_0]
    exact ⟨fun z => (by cases z), fun ⟨e, he, _⟩ => absurd he (Nat.not_lt_zero _)⟩
  | n + 1 => by
    show bt (if bt set n = true then orS vs set n ||| vs n else orS vs set n) x = true ↔ _
    have ih := bt_orS (vs := vs) (set := set) (x := x) n
    by_cases hb : bt set n = true
    · rw [if_pos hb, bt_or, Bool.or_eq_true, ih]
      constructor
      · rintro (⟨e, he, z⟩ | z)
        · exact ⟨e, by omega, z⟩
        · exact ⟨n, by omega, hb, z⟩
      · rintro ⟨e, he, z1, z2⟩
        rcases Nat.lt_or_ge e n with q | q
        · exact Or.inl ⟨e, q, z1, z2⟩
        · have : e = n := by omega
          subst this
          exact Or.inr z2
    · rw [if_neg hb, ih]
      constructor
      · rintro ⟨e, he, z⟩
        exact ⟨e, by omega, z⟩
      · rintro ⟨e, he, z1, z2⟩
        rcases Nat.lt_or_ge e n with q | q
        · exact ⟨e, q, z1, z2⟩
        · have : e = n := by omega
          subst this
          exact absurd z1 hb
theorem hold_ear {p : Pic} (hW : WA p) {left : Int32} {e h : Nat} (he : e < pA p) (hh : hold (pA p) (pvs p) left e = some h) : Ear (pX p) (fun q => q < pA p ∧ bt left q = true) e h := by
  have hN := hW.2.2.1
  unfold hold at hh
  by_cases hb : bt left e = true
  case neg => rw [if_neg hb] at hh; cases hh
  rw [if_pos hb] at hh
  obtain ⟨-, h2, h3, -⟩ := fd_some hh
  simp only [hp, Bool.and_eq_true, decide_eq_true_eq] at h3
  obtain ⟨h3, h4⟩ := h3
  rw [bt_rest (by omega) (by omega), Bool.and_eq_true, decide_eq_true_eq] at h3
  refine ⟨⟨he, hb⟩, ⟨by omega, h3.1⟩, h3.2, fun c hc e' he' hne c' hc' hx => ?_⟩
  have hx8 := (hW.2.2.2 e he).2.1 c hc
  have b1 : bt (pvs p e) (pX p e c) = true := (bt_vs (hW.2.2.2 e he).2.1 (by omega)).mpr ⟨c, hc, rfl⟩
  have b2 : bt (orS (pvs p) (rest left e) (pA p)) (pX p e c) = true := by
    refine (bt_orS _).mpr ⟨e', he'.1, ?_, ?_⟩
    · rw [bt_rest (by omega) (by have := he'.1; omega), he'.2]
      simp [hne]
    · exact (bt_vs (hW.2.2.2 e' he'.1).2.1 (by omega)).mpr ⟨c', hc', hx.symm⟩
  have b3 := bt_z.mp h4 (pX p e c) (by omega)
  rw [bt_and, bt_and, b1, b2, bt_not (by omega)] at b3
  have b4 : bt (pvs p h) (pX p e c) = true := by simpa using b3
  exact (bt_vs (hW.2.2.2 h (by omega)).2.1 (by omega)).mp b4
theorem pc_two {x : Int32} {a b : Nat} (ha : bt x a = true) (hb : bt x b = true) (hab : a < b) : ∀ n, b < n → 2 ≤ pc x n
  | 0, h => absurd h (Nat.not_lt_zero _)
  | n + 1, h => by
    unfold pc
    by_cases q : b = n
    · subst q
      rw [hb]
      have := pc_pos ha b hab
      simp
      omega
    · have := pc_two ha hb hab n (by omega)
      omega
section ST
variable {nA : Nat} {vs : Nat → Int32}
theorem left_down {i q : Nat} (hN : nA ≤ 6) (hq : q < 32) (h : bt (hangR nA vs i).1 q = false) : bt (hangR nA vs (i + 1)).1 q = false := by
  show bt (hstep nA vs (hangR nA vs i)).1 q = false
  unfold hstep
  split
  · exact h
  · rename_i e he
    have := (ear_in he).1
    show bt (rest _ e) q = false
    rw [bt_rest (by omega) hq, h]
    rfl
theorem par_fix {i q : Nat} (hN : nA ≤ 6) (hq : q < 32) (h : bt (hangR nA vs i).1 q = false) : ∀ d, bt (hangR nA vs (i + d)).1 q = false ∧ (hangR nA vs (i + d)).2.2.1 q = (hangR nA vs i).2.2.1 q
  | 0 => ⟨h, rfl⟩
  | d + 1 => by
    obtain ⟨h1, h2⟩ := par_fix hN hq h d
    refine ⟨left_down hN hq h1, ?_⟩
    show (hstep nA vs (hangR nA vs (i + d))).2.2.1 q = _
    unfold hstep
    split
    · exact h2
    · rename_i e he
      have hb := (ear_in he).2.1
      show upd _ e _ q = _
      rw [pk_un (fun z => by rw [z, hb] at h1; cases h1)]
      exact h2
theorem cnt_up (i : Nat) : ∀ d, (hangR nA vs i).2.1 ≤ (hangR nA vs (i + d)).2.1
  | 0 => Nat.le_refl _
  | d + 1 => by
    have := cnt_up i d
    show _ ≤ (hstep nA vs (hangR nA vs (i + d))).2.1
    unfold hstep
    split
    · exact this
    · show _ ≤ _ + 1
      omega
theorem ord_fix {i j : Nat} (h : j < (hangR nA vs i).2.1) : ∀ d, (hangR nA vs (i + d)).2.2.2.2 j = (hangR nA vs i).2.2.2.2 j
  | 0 => rfl
  | d + 1 => by
    have h2 := ord_fix h d
    have h3 := cnt_up (nA := nA) (vs := vs) i d
    show (hstep nA vs (hangR nA vs (i + d))).2.2.2.2 j = _
    unfold hstep
    split
    · exact h2
    · show upd _ _ _ j = _
      rw [pk_un (by omega)]
      exact h2
end ST
theorem Hung.iff {X : Nat → Nat → Nat} : ∀ {xs : List (Nat × Nat)} {P P' : Nat → Prop}, (∀ q, P q ↔ P' q) → Hung X xs P → Hung X xs P'
  | [], P, P', h, hh => fun a b ha hb => hh a b ((h a).mpr ha) ((h b).mpr hb)
  | x :: xs, P, P', h, hh => by
    obtain ⟨⟨h1, h2, h3, h4⟩, h5⟩ := hh
    refine ⟨⟨(h _).mp h1, (h _).mp h2, h3, fun c hc e' he' => h4 c hc e' ((h _).mpr he')⟩, Hung.iff (fun q => ?_) h5⟩
    exact and_congr_left (fun _ => h q)
theorem hlist_ok {p : Pic} (hW : WA p) (ht : tree p) : ∀ d i, i + d = pA p → (hangR (pA p) (pvs p) i).2.1 = i → Hung (pX p) (hlist (pA p) (pvs p) d i) (fun q => q < pA p ∧ bt (hangR (pA p) (pvs p) i).1 q = true) ∧ i + (hlist (pA p) (pvs p) d i).length = (hangR (pA p) (pvs p) (pA p)).2.1 ∧ ∀ j x, (hlist (pA p) (pvs p) d i)[j]? = some x → (hangR (pA p) (pvs p) (pA p)).2.2.2.2 (i + j) = nI x.1 ∧ (hangR (pA p) (pvs p) (pA p)).2.2.1 x.1 = nI x.2 := by
  have hN := hW.2.2.1
  have endd : ∀ i d, i + d = pA p → ear (pA p) (pvs p) (hangR (pA p) (pvs p) i).1 = none → (hangR (pA p) (pvs p) i).2.1 = i → Hung (pX p) [] (fun q => q < pA p ∧ bt (hangR (pA p) (pvs p) i).1 q = true) ∧ i + 0 = (hangR (pA p) (pvs p) (pA p)).2.1 := by
    intro i d hi he hc
    have hfix := hangR_fix he d
    rw [hi] at hfix
    refine ⟨fun a b ha hb => ?_, by rw [hfix, hc]; rfl⟩
    have hp := hangR_pc (vs := pvs p) hN i
    have ht' : pA p - (hangR (pA p) (pvs p) i).2.1 ≤ 1 := by
      have := ht
      unfold tree at this
      rw [hfix] at this
      exact this
    rcases Nat.lt_trichotomy a b with z | z | z
    · have := pc_two ha.2 hb.2 z (pA p) hb.1
      omega
    · exact z
    · have := pc_two hb.2 ha.2 z (pA p) ha.1
      omega
  intro d
  induction d with
  | zero =>
    intro i hi hc
    have hnone : ear (pA p) (pvs p) (hangR (pA p) (pvs p) i).1 = none := by
      cases he : ear (pA p) (pvs p) (hangR (pA p) (pvs p) i).1 with
      | none => rfl
      | some e =>
        obtain ⟨h1, h2, -⟩ := ear_in he
        have := pc_pos h2 (pA p) h1
        have := hangR_pc (vs := pvs p) hN i
        omega
    obtain ⟨h1, h2⟩ := endd i 0 hi hnone hc
    exact ⟨h1, h2, fun j x hx => by cases hx⟩
  | succ d ih =>
    intro i hi hc
    cases he : ear (pA p) (pvs p) (hangR (pA p) (pvs p) i).1 with
    | none =>
      obtain ⟨h1, h2⟩ := endd i (d + 1) hi he hc
      simp only [hlist, he]
      exact ⟨h1, h2, fun j x hx => by cases hx⟩
    | some e =>
      obtain ⟨h1, h2, q, hq⟩ := ear_in he
      have hst : hangR (pA p) (pvs p) (i + 1) = (rest (hangR (pA p) (pvs p) i).1 e, (hangR (pA p) (pvs p) i).2.1 + 1, upd (hangR (pA p) (pvs p) i).2.2.1 e (nI q), upd (hangR (pA p) (pvs p) i).2.2.2.1 e (nI (hangR (pA p) (pvs p) i).2.1), upd (hangR (pA p) (pvs p) i).2.2.2.2 (hangR (pA p) (pvs p) i).2.1 (nI e)) := by
        show hstep _ _ _ = _
        simp only [hstep, he, hq, enc]
      have hc1 : (hangR (pA p) (pvs p) (i + 1)).2.1 = i + 1 := by rw [hst]; show _ + 1 = _; omega
      obtain ⟨a1, a2, a3⟩ := ih (i + 1) (by omega) hc1
      simp only [hlist, he, hq, Option.getD_some]
      refine ⟨⟨hold_ear hW h1 hq, a1.iff (fun x => ?_)⟩, by rw [List.length_cons]; omega, fun j x hx => ?_⟩
      · show _ ↔ (x < pA p ∧ _) ∧ x ≠ e
        constructor
        · rintro ⟨z1, z2⟩
          rw [hst] at z2
          have z2 : bt (rest _ e) x = true := z2
          rw [bt_rest (by omega) (by omega), Bool.and_eq_true, decide_eq_true_eq] at z2
          exact ⟨⟨z1, z2.1⟩, z2.2⟩
        · rintro ⟨⟨z1, z2⟩, z3⟩
          refine ⟨z1, ?_⟩
          rw [hst]
          show bt (rest _ e) x = true
          rw [bt_rest (by omega) (by omega), z2]
          simp [z3]
      · cases j with
        | zero =>
          have hx : (e, q) = x := Option.some.inj hx
          subst hx
          have o1 := ord_fix (nA := pA p) (vs := pvs p) (i := i + 1) (j := i) (by omega) d
          rw [show i + 1 + d = pA p by omega] at o1
          have b0 : bt (hangR (pA p) (pvs p) (i + 1)).1 e = false := by
            rw [hst]
            exact bt_rs (by omega)
          have o2 := (par_fix (nA := pA p) (vs := pvs p) hN (show e < 32 by omega) b0 d).2
          rw [show i + 1 + d = pA p by omega] at o2
          refine ⟨?_, ?_⟩
          · rw [Nat.add_zero, o1, hst, hc]
            exact pk_us
          · rw [o2, hst]
            exact pk_us
        | succ j =>
          have hx : (hlist (pA p) (pvs p) d (i + 1))[j]? = some x := hx
          have := a3 j x hx
          rw [show i + (j + 1) = i + 1 + j by omega]
          exact this
/-- the ears, in their order -/
def earsOf (p : Pic) : List (Nat × Nat) := hlist (pA p) (pvs p) (pA p) 0
theorem ears_ok {p : Pic} (hW : WA p) (ht : tree p) : Hung (pX p) (earsOf p) (fun q => q < pA p) ∧ (earsOf p).length = (hangR (pA p) (pvs p) (pA p)).2.1 ∧ ∀ j x, (earsOf p)[j]? = some x → (hangR (pA p) (pvs p) (pA p)).2.2.2.2 j = nI x.1 ∧ (hangR (pA p) (pvs p) (pA p)).2.2.1 x.1 = nI x.2 := by
  obtain ⟨h1, h2, h3⟩ := hlist_ok hW ht (pA p) 0 (by omega) rfl
  have hN := hW.2.2.1
  have k1 : ∀ q, (q < pA p ∧ bt (hangR (pA p) (pvs p) 0).1 q = true) ↔ q < pA p := by
    intro q
    refine ⟨fun z => z.1, fun z => ⟨z, ?_⟩⟩
    show bt ((1 <<< (nI (pA p) &&& 31)) - 1) q = true
    rw [bt_mask (pA p) (by omega) q (by omega)]
    simp [z]
  have k2 : ∀ j x, (earsOf p)[j]? = some x → (hangR (pA p) (pvs p) (pA p)).2.2.2.2 j = nI x.1 ∧ (hangR (pA p) (pvs p) (pA p)).2.2.1 x.1 = nI x.2 := by
    intro j x hx
    have := h3 j x hx
    rw [Nat.zero_add] at this
    exact this
  exact ⟨h1.iff k1, by rw [← h2]; exact (Nat.zero_add _).symm, k2⟩
