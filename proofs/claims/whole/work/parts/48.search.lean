/-! The reference's search: all ways are noted, and no other -/
def SP : Nat → Nat → Prop := fun a j => a = 65 ∨ a = 66 ∨ a = 67 ∨ a = 68 ∨ (a = 56 ∧ j = 14)
def Ac (μ : Mem) (p : Pic) (N : Nat) (Lv : Nat → Nat → Prop) (An : Nat → Prop) : Prop := mL μ 56 14 = lN N ∧ (∀ e, e < pA p → ∀ k, k < 32 → (bt (mI μ 67 e) k = true ↔ Lv e k)) ∧ (bound p → ∀ a, a < 65536 → (bt (mI μ 68 (a / 32)) (a % 32) = true ↔ An a))
def LkS (μ0 μ : Mem) (p : Pic) (w : Nat → Nat) (d : Nat) : Prop := Fr SP μ0 μ ∧ VI μ ∧ VW μ p w d ∧ ∀ e, e < d → mI μ 66 e = nI (w e + 1)
theorem Ac.to {μ : Mem} {p : Pic} {N N' : Nat} {Lv Lv' : Nat → Nat → Prop} {An An' : Nat → Prop} (h : Ac μ p N Lv An) (hN : N = N') (hL : ∀ e, e < pA p → ∀ k, Lv e k ↔ Lv' e k) (hA : ∀ a, An a ↔ An' a) : Ac μ p N' Lv' An' := ⟨by rw [← hN]; exact h.1, fun e he k hk => (h.2.1 e he k hk).trans (hL e he k), fun hb a ha => (h.2.2 hb a ha).trans (hA a)⟩
theorem Ac.fr {P : Nat → Nat → Prop} {μ μ' : Mem} {p : Pic} {N : Nat} {Lv : Nat → Nat → Prop} {An : Nat → Prop} (h : Ac μ p N Lv An) (k : Fr P μ μ') (hp : ∀ a j, P a j → a ≠ 67 ∧ a ≠ 68 ∧ ¬ (a = 56 ∧ j = 14)) : Ac μ' p N Lv An := by
  refine ⟨(k.2.2.2.2 56 14 (fun z => (hp _ _ z).2.2 ⟨rfl, rfl⟩)).trans h.1, fun e he q hq => ?_, fun hb a ha => ?_⟩
  · rw [k.2.2.2.1 67 e (fun z => (hp _ _ z).1 rfl)]
    exact h.2.1 e he q hq
  · rw [k.2.2.2.1 68 _ (fun z => (hp _ _ z).2.1 rfl)]
    exact h.2.2 hb a ha
theorem v_srch {μ0 : Mem} {p : Pic} (hS0 : Sh μ0) (hWF : WF p) (hM0 : MA μ0 p) (hR0 : MR μ0 p) (hD0 : MD μ0 p) {G : Mem → Prop} : ∀ (t d : Nat) (w : Nat → Nat) (μ : Mem) (N : Nat) (Lv : Nat → Nat → Prop) (An : Nat → Prop), d + t = pA p → (∀ e, e < d → w e < aS p e) → LkS μ0 μ p w d → Ac μ p N Lv An → mI μ 66 d = nI 0 → (∀ μ', LkS μ0 μ' p w d → Ac μ' p (N + cw p t d w) (fun e q => Lv e q ∨ ∃ w', ex p d w w' ∧ w' e = q) (fun a => An a ∨ ∃ w', ex p d w w' ∧ cd p w' a) → Ev (fun n => F_MO_look n 3 56 (nI d - 1) 0 μ') G) → Ev (fun n => F_MO_look n 3 56 (nI d) 0 μ) G := by
  have hN := hWF.1.2.2.1
  have hH := hWF.2.2.2.2.2.1
  have hs12 : ∀ e, aS p e ≤ 12 := fun e => hWF.2.1 _
  have frM : ∀ {μ}, Fr SP μ0 μ → MA μ p := fun k => hM0.fr k (fun j => by unfold SP; omega) (by unfold SP; omega)
  have frR : ∀ {μ}, Fr SP μ0 μ → MR μ p := fun k => hR0.fr k (fun a j z => by unfold SP at z; omega)
  have frD : ∀ {μ}, Fr SP μ0 μ → MD μ p := fun k => hD0.fr k (fun a j z => by unfold SP at z; omega)
  intro t
  induction t with
  | zero =>
    intro d w μ N Lv An hd hw hL hA h66 kk
    have : d = pA p := by omega
    subst this
    obtain ⟨hF, hV, hVW, ht⟩ := hL
    have hS := hS0.fr hF
    have hM := frM hF
    have hway : isWay p w := ⟨hw, hVW.con hWF (Nat.le_refl _) hw⟩
    refine E_MO_look_3 ?_
    simp only [B_MO_look_3, nI_pos (show pA p < 2 ^ 31 by omega), if_false, hS.k (k := 56) (c := 6) (by decide), hM.2.1, if_true]
    refine Ev.b (v_note hS hWF hM (frD hF) hV hw ht hVW) (fun μ' h' => ?_)
    simp only [Option.bind_some]
    obtain ⟨hF', b1, b2, a, ha, hcd, b3⟩ := h'
    have ha2 : a < 65536 := Nat.lt_of_lt_of_le ha (Nat.le_trans (Nat.pow_le_pow_right (by decide) hH) (by decide))
    refine kk μ' ⟨hF.tr (hF'.mo (fun a j z => by unfold SP; omega)), fun x hx => ?_, fun e he c hc => ?_, fun e he => ?_⟩ ⟨?_, fun e he k hk => ?_, fun hb a' ha' => ?_⟩
    · rw [hF'.2.2.2.1 65 x (by omega)]; exact hV x hx
    · rw [hF'.2.2.2.1 65 _ (by omega)]; exact hVW e he c hc
    · rw [hF'.2.2.2.1 66 _ (by omega)]; exact ht e he
    · rw [b1, hA.1, lN_1]
      show _ = lN (N + ind (isWay p w))
      rw [ind_t hway]
    · have hwe := hw e he
      have := hs12 e
      rw [b2 e he, bt_or, Bool.or_eq_true, hA.2.1 e he k hk, bt_one (w e) (by omega) k hk, decide_eq_true_eq]
      refine or_congr_right ⟨fun z => ⟨w, ⟨hway, fun _ _ => rfl⟩, z.symm⟩, fun ⟨w', z1, z2⟩ => ?_⟩
      rw [← z2, z1.2 e he]
    · have hcd := hcd hb
      have key : (∃ w', ex p (pA p) w w' ∧ cd p w' a') ↔ a' = a := by
        constructor
        · rintro ⟨w', z1, z2⟩
          exact cd_u z1.1 z2 (cd.congr (w := w) (fun e he => z1.2 e he) ⟨ha, hcd⟩)
        · intro z
          rw [z]
          exact ⟨w, ⟨hway, fun _ _ => rfl⟩, ha, hcd⟩
      show _ ↔ An a' ∨ ∃ w', ex p (pA p) w w' ∧ cd p w' a'
      rw [key, b3]
      by_cases q : a' / 32 = a / 32
      · rw [if_pos q, bt_or, Bool.or_eq_true, hA.2.2 hb a' ha', bt_one (a % 32) (by omega) (a' % 32) (by omega), decide_eq_true_eq]
        exact or_congr_right ⟨fun z => by omega, fun z => by rw [z]⟩
      · rw [if_neg q, hA.2.2 hb a' ha']
        exact ⟨fun z => Or.inl z, fun z => z.resolve_right (fun y => q (by rw [y]))⟩
  | succ t ih =>
    intro d w μ N Lv An hd hw hL hA h66 kk
    have hlt : d < pA p := by omega
    have hsd := hs12 d
    obtain ⟨hLr, -, -⟩ := hWF.1.2.2.2 d hlt
    have hR6 := hWF.1.1
    have rows : ∀ (s k : Nat) (μ : Mem), k + s = aS p d → LkS μ0 μ p w d → Ac μ p (N + sm k (fun k' => cw p t (d + 1) (va_up w d k'))) (fun e q => Lv e q ∨ ∃ w', ex p d w w' ∧ w' d < k ∧ w' e = q) (fun a => An a ∨ ∃ w', ex p d w w' ∧ w' d < k ∧ cd p w' a) → mI μ 66 d = nI k → Ev (fun n => F_MO_look n 3 56 (nI d) 0 μ) G := by
      intro s
      induction s with
      | zero =>
        intro k μ hk hL hA h66
        have : k = aS p d := by omega
        subst this
        have hL' := hL
        obtain ⟨hF, hV, hVW, ht⟩ := hL
        have hS := hS0.fr hF
        have hM := frM hF
        have hR := frR hF
        have hne : ¬ (nI d = nI (pA p)) := fun z => by rw [nI_eq (by omega) (by omega)] at z; omega
        have h58 : mI μ 58 (pL p d) = nI (aS p d) := hR.2.1 _ (by omega)
        refine E_MO_look_3 ?_
        simp only [B_MO_look_3, nI_pos (show d < 2 ^ 31 by omega), if_false, hS.k (k := 56) (c := 6) (by decide), hM.2.1, if_true, hne, hS.r (k := 56) (j := 16) (v := 66) (by decide), hS.k (k := 66) (c := 100) (by decide), hS.z (show 66 < 71 by decide), show (kz 66).2 = 7 by decide, ib_i (show d < 7 by omega) (show 7 < 2 ^ 31 by decide), hS.r (k := 56) (j := 3) (v := 58) (by decide), hS.k (k := 58) (c := 100) (by decide), hS.r (k := 56) (j := 6) (v := 60) (by decide), hS.k (k := 60) (c := 100) (by decide), hS.z (show 60 < 71 by decide), show (kz 60).2 = 6 by decide, ib_i (show d < 6 by omega) (show 6 < 2 ^ 31 by decide), nI_clamp (show d < 2 ^ 31 by omega), (hM.2.2 d hlt).1, hS.z (show 58 < 71 by decide), show (kz 58).2 = 6 by decide, ib_i (show pL p d < 6 by omega) (show 6 < 2 ^ 31 by decide), nI_clamp (show pL p d < 2 ^ 31 by omega), h66, h58, Option.bind_some]
        refine kk μ hL' (hA.to (by rw [cw_rows hs12 hd]) (fun e he q => or_congr_right ⟨fun ⟨w', z1, _, z2⟩ => ⟨w', z1, z2⟩, fun ⟨w', z1, z2⟩ => ⟨w', z1, z1.1.1 d hlt, z2⟩⟩) (fun a => or_congr_right ⟨fun ⟨w', z1, _, z2⟩ => ⟨w', z1, z2⟩, fun ⟨w', z1, z2⟩ => ⟨w', z1, z1.1.1 d hlt, z2⟩⟩))
      | succ s ihs =>
        intro k μ hk hL hA h66
        have hks : k < aS p d := by omega
        obtain ⟨hF, hV, hVW, ht⟩ := hL
        have hS := hS0.fr hF
        have hM := frM hF
        have hR := frR hF
        have hne : ¬ (nI d = nI (pA p)) := fun z => by rw [nI_eq (by omega) (by omega)] at z; omega
        have h58 : mI μ 58 (pL p d) = nI (aS p d) := hR.2.1 _ (by omega)
        have hne2 : ¬ (nI k = nI (aS p d)) := fun z => by rw [nI_eq (by omega) (by omega)] at z; omega
        refine E_MO_look_3 ?_
        simp only [B_MO_look_3, nI_pos (show d < 2 ^ 31 by omega), if_false, hS.k (k := 56) (c := 6) (by decide), hM.2.1, if_true, hne, hS.r (k := 56) (j := 16) (v := 66) (by decide), hS.k (k := 66) (c := 100) (by decide), hS.z (show 66 < 71 by decide), show (kz 66).2 = 7 by decide, ib_i (show d < 7 by omega) (show 7 < 2 ^ 31 by decide), hS.r (k := 56) (j := 3) (v := 58) (by decide), hS.k (k := 58) (c := 100) (by decide), hS.r (k := 56) (j := 6) (v := 60) (by decide), hS.k (k := 60) (c := 100) (by decide), hS.z (show 60 < 71 by decide), show (kz 60).2 = 6 by decide, ib_i (show d < 6 by omega) (show 6 < 2 ^ 31 by decide), nI_clamp (show d < 2 ^ 31 by omega), (hM.2.2 d hlt).1, hS.z (show 58 < 71 by decide), show (kz 58).2 = 6 by decide, ib_i (show pL p d < 6 by omega) (show 6 < 2 ^ 31 by decide), nI_clamp (show pL p d < 2 ^ 31 by omega), h66, h58, hne2, Option.bind_some, nI_1, ok_sI, mR_sI, mZ_sI, mI_ss, nI_pred]
        have hF1 : Fr (fun a j => a = 66 ∧ j = d) μ (sI μ 66 d (nI (k + 1))) := Fr.rf.i ⟨rfl, rfl⟩
        have e66 : mI (sI μ 66 d (nI (k + 1))) 66 d = nI (k + 1) := mI_ss
        generalize sI μ 66 d (nI (k + 1)) = μ1 at hF1 e66
        have hF01 : Fr SP μ0 μ1 := hF.tr (hF1.mo (fun a j z => by unfold SP; omega))
        have hV1 : VI μ1 := hV.fr hF1 (fun a j z => by omega)
        have hVW1 : VW μ1 p w d := fun e he c hc => by rw [hF1.2.2.2.1 65 _ (by omega)]; exact hVW e he c hc
        have ht1 : ∀ e, e < d → mI μ1 66 e = nI (w e + 1) := fun e he => by rw [hF1.2.2.2.1 66 e (by omega)]; exact ht e he
        refine Ev.b (v_fits (hS0.fr hF01) hWF (frM hF01) (frR hF01) hV1 hlt hks hVW1) (fun q hq => ?_)
        obtain ⟨q1, μ2⟩ := q
        obtain ⟨hF2, hV2, hVW2, hor⟩ := hq
        have hF02 : Fr SP μ0 μ2 := hF01.tr (hF2.mo (fun a j z => by unfold SP; omega))
        have hA2 : Ac μ2 p (N + sm k (fun k' => cw p t (d + 1) (va_up w d k'))) (fun e q => Lv e q ∨ ∃ w', ex p d w w' ∧ w' d < k ∧ w' e = q) (fun a => An a ∨ ∃ w', ex p d w w' ∧ w' d < k ∧ cd p w' a) := (hA.fr hF1 (fun a j z => by omega)).fr hF2 (fun a j z => by omega)
        have ht2 : ∀ e, e < d → mI μ2 66 e = nI (w e + 1) := fun e he => by rw [hF2.2.2.2.1 66 e (by omega)]; exact ht1 e he
        have e66' : mI μ2 66 d = nI (k + 1) := by rw [hF2.2.2.2.1 66 d (by omega)]; exact e66
        -- what goes on from w with k at d
        have exk : ∀ w', (ex p (d + 1) (va_up w d k) w' ↔ ex p d w w' ∧ w' d = k) := fun w' => by
          constructor
          · rintro ⟨z1, z2⟩
            refine ⟨⟨z1, fun e he => ?_⟩, ?_⟩
            · rw [z2 e (by omega), va_up_ne _ _ (by omega)]
            · rw [z2 d (by omega), va_up_self]
          · rintro ⟨⟨z1, z2⟩, z3⟩
            refine ⟨z1, fun e he => ?_⟩
            by_cases q : e = d
            · rw [q, va_up_self, z3]
            · rw [va_up_ne _ _ q]; exact z2 e (by omega)
        have stepL : ∀ (R : (Nat → Nat) → Prop), ((∃ w', ex p d w w' ∧ w' d < k ∧ R w') ∨ ∃ w', ex p (d + 1) (va_up w d k) w' ∧ R w') ↔ ∃ w', ex p d w w' ∧ w' d < k + 1 ∧ R w' := fun R => by
          constructor
          · rintro (⟨w', z1, z2, z3⟩ | ⟨w', z1, z3⟩)
            · exact ⟨w', z1, by omega, z3⟩
            · have := (exk w').mp z1
              exact ⟨w', this.1, by omega, z3⟩
          · rintro ⟨w', z1, z2, z3⟩
            rcases Nat.lt_or_ge (w' d) k with q | q
            · exact Or.inl ⟨w', z1, q, z3⟩
            · exact Or.inr ⟨w', (exk w').mpr ⟨z1, by omega⟩, z3⟩
        rcases hor with ⟨rfl, hVW3⟩ | ⟨rfl, hbad⟩
        · have hS2 := hS0.fr hF02
          simp only [show ¬ ((1 : Int32) = 0) by decide, if_false, hS2.k (k := 56) (c := 6) (by decide), hS2.r (k := 56) (j := 16) (v := 66) (by decide), hS2.k (k := 66) (c := 100) (by decide), hS2.z (show 66 < 71 by decide), show (kz 66).2 = 7 by decide, ib_i (show d + 1 < 7 by omega) (show 7 < 2 ^ 31 by decide), nI_clamp (show d + 1 < 2 ^ 31 by omega), if_true]
          have hF3 : Fr (fun a j => a = 66 ∧ j = d + 1) μ2 (sI μ2 66 (d + 1) 0) := Fr.rf.i ⟨rfl, rfl⟩
          have f66 : mI (sI μ2 66 (d + 1) 0) 66 (d + 1) = 0 := mI_ss
          generalize sI μ2 66 (d + 1) 0 = μ3 at hF3 f66
          refine ih (d + 1) (va_up w d k) μ3 _ _ _ (by omega) (fun e he => ?_) ⟨hF02.tr (hF3.mo (fun a j z => by unfold SP; omega)), hV2.fr hF3 (fun a j z => by omega), fun e he c hc => by rw [hF3.2.2.2.1 65 _ (by omega)]; exact hVW3 e he c hc, fun e he => ?_⟩ (hA2.fr hF3 (fun a j z => by omega)) f66 (fun μ' hL' hA' => ?_)
          · by_cases q : e = d
            · rw [q, va_up_self]; exact hks
            · rw [va_up_ne _ _ q]; exact hw e (by omega)
          · rw [hF3.2.2.2.1 66 e (by omega)]
            by_cases q : e = d
            · rw [q, va_up_self]; exact e66'
            · rw [va_up_ne _ _ q]; exact ht2 e (by omega)
          · rw [nI_pred]
            refine ihs (k + 1) μ' (by omega) ⟨hL'.1, hL'.2.1, fun e he c hc => ?_, fun e he => ?_⟩ (hA'.to (by show _ = N + (sm k _ + cw p t (d + 1) (va_up w d k)); omega) (fun e he q => by rw [or_assoc]; exact or_congr_right (stepL (fun w' => w' e = q))) (fun a => by rw [or_assoc]; exact or_congr_right (stepL (fun w' => cd p w' a)))) ?_
            · have := hL'.2.2.1 e (by omega) c hc
              rw [va_up_ne _ _ (by omega)] at this
              exact this
            · have := hL'.2.2.2 e (by omega)
              rw [va_up_ne _ _ (by omega)] at this
              exact this
            · have := hL'.2.2.2 d (by omega)
              rw [va_up_self] at this
              exact this
        · simp only [if_true]
          have none' : ¬ ∃ w', ex p (d + 1) (va_up w d k) w' := fun ⟨w', z1, z2⟩ => hbad (by
            intro e e' he he'
            rw [← z2 e he, ← z2 e' he']
            exact z1.2 e e' (show e < pA p by have : e < d + 1 := he; omega) (show e' < pA p by have : e' < d + 1 := he'; omega))
          refine ihs (k + 1) μ2 (by omega) ⟨hF02, hV2, hVW2, ht2⟩ (hA2.to ?_ (fun e he q => or_congr_right ?_) (fun a => or_congr_right ?_)) e66'
          · show _ = N + (sm k _ + cw p t (d + 1) (va_up w d k))
            rw [cw_zero t (d + 1) _ (by omega) none']
            rfl
          · rw [← stepL (fun w' => w' e = q)]
            exact ⟨fun z => Or.inl z, fun z => z.resolve_right (fun ⟨w', z1, _⟩ => none' ⟨w', z1⟩)⟩
          · rw [← stepL (fun w' => cd p w' a)]
            exact ⟨fun z => Or.inl z, fun z => z.resolve_right (fun ⟨w', z1, _⟩ => none' ⟨w', z1⟩)⟩
    refine rows (aS p d) 0 μ (by omega) hL (hA.to rfl (fun e he q => ⟨fun z => Or.inl z, fun z => z.resolve_right (fun ⟨w', _, z2, _⟩ => absurd z2 (Nat.not_lt_zero _))⟩) (fun a => ⟨fun z => Or.inl z, fun z => z.resolve_right (fun ⟨w', _, z2, _⟩ => absurd z2 (Nat.not_lt_zero _))⟩)) h66
