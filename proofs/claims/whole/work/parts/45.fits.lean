/-! The reference: whether a row fits what was chosen before it -/
def orF (vs : Nat → Int32) : Nat → Int32
  | 0 => 0
  | n + 1 => orF vs n ||| vs n
theorem bt_vs {X : Nat → Nat} (hX : ∀ c, c < 3 → X c < 8) {x : Nat} (hx : x < 32) : bt (vsI X) x = true ↔ ∃ c, c < 3 ∧ X c = x := by
  have h0 := hX 0 (by decide)
  have h1 := hX 1 (by decide)
  have h2 := hX 2 (by decide)
  unfold vsI
  rw [bt_or, bt_or, bt_one _ (by omega) x hx, bt_one _ (by omega) x hx, bt_one _ (by omega) x hx]
  simp only [Bool.or_eq_true, decide_eq_true_eq]
  constructor
  · rintro ((h | h) | h)
    · exact ⟨0, by decide, h.symm⟩
    · exact ⟨1, by decide, h.symm⟩
    · exact ⟨2, by decide, h.symm⟩
  · rintro ⟨c, hc, h⟩
    have : c = 0 ∨ c = 1 ∨ c = 2 := by omega
    rcases this with rfl | rfl | rfl
    · exact Or.inl (Or.inl h.symm)
    · exact Or.inl (Or.inr h.symm)
    · exact Or.inr h.symm
theorem bt_orF {p : Pic} (hW : WA p) {x : Nat} (hx : x < 32) : ∀ d, d ≤ pA p → (bt (orF (pvs p) d) x = true ↔ ∃ e, e < d ∧ ∃ c, c < 3 ∧ pX p e c = x)
  | 0, _ => by
    show bt 0 x = true ↔ _
    rw [bt_0]
    exact ⟨fun z => (by cases z), fun ⟨e, he, _⟩ => absurd he (Nat.not_lt_zero _)⟩
  | d + 1, h => by
    show bt (orF (pvs p) d ||| pvs p d) x = true ↔ _
    rw [bt_or, Bool.or_eq_true, bt_orF hW hx d (by omega)]
    unfold pvs
    rw [bt_vs (hW.2.2.2 d (by omega)).2.1 hx]
    constructor
    · rintro (⟨e, he, z⟩ | z)
      · exact ⟨e, by omega, z⟩
      · exact ⟨d, by omega, z⟩
    · rintro ⟨e, he, z⟩
      rcases Nat.lt_or_ge e d with q | q
      · exact Or.inl ⟨e, q, z⟩
      · have : e = d := by omega
        subst this
        exact Or.inr z
theorem v_before {μ : Mem} {p : Pic} (hS : Sh μ) (hW : WA p) (hM : MA μ p) {d : Nat} (hd : d ≤ pA p) : EvO (fun n => C_MO_before n 56 (nI d) μ) (some (orF (pvs p) d, μ)) := by
  have hN := hW.2.2.1
  have loop : ∀ (t i : Nat), i + t = d → Ev (fun n => F_MO_before n 1 56 (nI d) (orF (pvs p) i) (nI i) μ) (fun q => q = (orF (pvs p) d, μ)) := by
    intro t
    induction t with
    | zero =>
      intro i hi
      have : i = d := by omega
      subst this
      refine E_MO_before_1 ?_
      simp only [B_MO_before_1, nI_le (Nat.le_refl i) (show i < 2 ^ 31 by omega), if_true]
      exact Ev.c rfl
    | succ t ih =>
      intro i hi
      refine E_MO_before_1 ?_
      simp only [B_MO_before_1, nI_ge (show i < d by omega) (show d < 2 ^ 31 by omega), if_false, hS.k (k := 56) (c := 6) (by decide), if_true]
      refine Ev.o (v_mset hS hW hM (show i < pA p by omega)) ?_
      simp only [Option.bind_some, nI_1]
      exact ih (i + 1) (by omega)
  refine Ev.eq ?_
  unfold C_MO_before
  refine E_MO_before_0 ?_
  simp only [B_MO_before_0]
  exact loop d 0 (by omega)
/-- the values of what was chosen -/
def VW (μ : Mem) (p : Pic) (w : Nat → Nat) (d : Nat) : Prop := ∀ e, e < d → ∀ c, c < 3 → mI μ 65 (pX p e c) = nI (Va p e (w e) c)
theorem VW.con {μ : Mem} {p : Pic} {w : Nat → Nat} {d : Nat} (hWF : WF p) (hd : d ≤ pA p) (hw : ∀ e, e < d → w e < aS p e) (h : VW μ p w d) : Con (Va p) (pX p) (fun e => e < d) w := by
  intro e e' he he' c hc c' hc' hx
  have h1 := h e he c hc
  have h2 := h e' he' c' hc'
  rw [hx, h2] at h1
  have b1 := (hWF.2.2.2.1 (pL p e) (hWF.1.2.2.2 e (by omega)).1 (w e) (hw e he)).1 c hc
  have b2 := (hWF.2.2.2.1 (pL p e') (hWF.1.2.2.2 e' (by omega)).1 (w e') (hw e' he')).1 c' hc'
  have : Va p e' (w e') c' = Va p e (w e) c := by
    rw [nI_eq (by unfold Va; omega) (by unfold Va; omega)] at h1
    exact h1
  exact this.symm
theorem v_fits {μ : Mem} {p : Pic} (hS : Sh μ) (hWF : WF p) (hM : MA μ p) (hR : MR μ p) (hV : VI μ) {w : Nat → Nat} {d k : Nat} (hd : d < pA p) (hk : k < aS p d) (hVW : VW μ p w d) : Ev (fun n => C_MO_fits n 56 (nI d) (nI k) μ) (fun q => Fr (fun a _ => a = 65) μ q.2 ∧ VI q.2 ∧ VW q.2 p w d ∧ ((q.1 = 1 ∧ VW q.2 p (va_up w d k) (d + 1)) ∨ (q.1 = 0 ∧ ¬ Con (Va p) (pX p) (fun e => e < d + 1) (va_up w d k)))) := by
  generalize hG : (fun (q : Int32 × Mem) => Fr (fun a _ => a = 65) μ q.2 ∧ VI q.2 ∧ VW q.2 p w d ∧ ((q.1 = 1 ∧ VW q.2 p (va_up w d k) (d + 1)) ∨ (q.1 = 0 ∧ ¬ Con (Va p) (pX p) (fun e => e < d + 1) (va_up w d k)))) = G
  have hN := hWF.1.2.2.1
  have hR6 := hWF.1.1
  obtain ⟨hL, hX8, hXp⟩ := hWF.1.2.2.2 d hd
  obtain ⟨w1, w3⟩ := hWF.1.2.1 _ hL
  obtain ⟨hV16, hVp⟩ := hWF.2.2.2.1 _ hL k hk
  have hsz := hWF.2.1 (pL p d)
  have hk12 : k < 12 := by unfold aS at hk; omega
  have hrel : mI μ 60 d = nI (pL p d) := (hM.2.2 d hd).1
  -- the loop
  have loop : ∀ (t i : Nat) (B : Int32) (ν : Mem), i + t = pW p (pL p d) → Fr (fun a _ => a = 65) μ ν → VI ν → VW ν p w d → (∀ j, j < i → mI ν 65 (pX p d j) = nI (Va p d k j)) → (∀ x, x < 8 → (bt B x = true ↔ (∃ e, e < d ∧ ∃ c, c < 3 ∧ pX p e c = x) ∨ ∃ j, j < i ∧ pX p d j = x)) → Ev (fun n => F_MO_fits n 1 56 (nI d) (nI k) (nI (pL p d)) B 1 (nI i) 0 0 0 0 0 ν) G := by
    intro t
    induction t with
    | zero =>
      intro i B ν hi hF hVI hW hown hB
      have : i = pW p (pL p d) := by omega
      subst this
      have hs := hS.fr hF
      have hM1 := hM.fr hF (fun j => by omega) (by omega)
      refine E_MO_fits_1 ?_
      simp only [B_MO_fits_1, hs.k (k := 56) (c := 6) (by decide), hs.r (k := 56) (j := 2) (v := 57) (by decide), hs.k (k := 57) (c := 100) (by decide), hs.z (show 57 < 71 by decide), show (kz 57).2 = 6 by decide, ib_i (show pL p d < 6 by omega) (show 6 < 2 ^ 31 by decide), nI_clamp (show pL p d < 2 ^ 31 by omega), hM1.1 _ hL, nI_le (Nat.le_refl (pW p (pL p d))) (show pW p (pL p d) < 2 ^ 31 by omega), if_true, or_true]
      refine Ev.c ?_
      rw [← hG]
      refine ⟨hF, hVI, hW, Or.inl ⟨rfl, fun e he c hc => ?_⟩⟩
      rcases Nat.lt_or_ge e d with q | q
      · rw [va_up_ne _ _ (by omega)]
        exact hW e q c hc
      · have : e = d := by omega
        subst this
        rw [va_up_self]
        rcases Nat.lt_or_ge c (pW p (pL p e)) with q2 | q2
        · exact hown c q2
        · rw [hXp c q2]
          have : Va p e k c = Va p e k 0 := hVp c q2
          rw [this]
          exact hown 0 (by omega)
    | succ t ih =>
      intro i B ν hi hF hVI hW hown hB
      have hlt : i < pW p (pL p d) := by omega
      have hi3 : i < 3 := by omega
      have hs := hS.fr hF
      have hM1 := hM.fr hF (fun j => by omega) (by omega)
      have hx8 := hX8 i hi3
      have hv16 : Va p d k i < 16 := hV16 i hi3
      have h3 : (3 : Int32) * nI d + nI i = nI (3 * d + i) := by rw [show (3 : Int32) = nI 3 from rfl, pk_mul, nI_add]
      have h36 : (36 : Int32) * nI (pL p d) + 3 * nI k + nI i = nI (36 * pL p d + 3 * k + i) := by rw [show (3 : Int32) = nI 3 from rfl, show (36 : Int32) = nI 36 from rfl, pk_mul, pk_mul, nI_add, nI_add]
      have hval : mI ν 59 (36 * pL p d + 3 * k + i) = nI (Va p d k i) := (hF.2.2.2.1 59 _ (by omega)).trans (hR.2.2 _ hL k hk i hlt)
      refine E_MO_fits_1 ?_
      simp only [B_MO_fits_1, hs.k (k := 56) (c := 6) (by decide), hs.r (k := 56) (j := 2) (v := 57) (by decide), hs.k (k := 57) (c := 100) (by decide), hs.z (show 57 < 71 by decide), show (kz 57).2 = 6 by decide, ib_i (show pL p d < 6 by omega) (show 6 < 2 ^ 31 by decide), nI_clamp (show pL p d < 2 ^ 31 by omega), hM1.1 _ hL, nI_ge hlt (show pW p (pL p d) < 2 ^ 31 by omega), if_true, if_false, show ¬ ((1 : Int32) = 0) by decide, hs.r (k := 56) (j := 7) (v := 61) (by decide), hs.k (k := 61) (c := 100) (by decide), hs.z (show 61 < 71 by decide), show (kz 61).2 = 18 by decide, h3, ib_i (show 3 * d + i < 18 by omega) (show 18 < 2 ^ 31 by decide), nI_clamp (show 3 * d + i < 2 ^ 31 by omega), (hM1.2.2 d hd).2 i hlt, Option.bind_some, hs.r (k := 56) (j := 4) (v := 59) (by decide), hs.k (k := 59) (c := 100) (by decide), hs.z (show 59 < 71 by decide), show (kz 59).2 = 216 by decide, h36, ib_i (show 36 * pL p d + 3 * k + i < 216 by omega) (show 216 < 2 ^ 31 by decide), nI_clamp (show 36 * pL p d + 3 * k + i < 2 ^ 31 by omega), hval, hs.r (k := 56) (j := 15) (v := 65) (by decide), hs.k (k := 65) (c := 100) (by decide), hs.z (show 65 < 71 by decide), show (kz 65).2 = 8 by decide, ib_i hx8 (show 8 < 2 ^ 31 by decide), nI_clamp (show pX p d i < 2 ^ 31 by omega), bt_is (show pX p d i < 32 by omega)]
      -- the write, and on
      have on : ∀ (g : Int32) (v : Int32), (bt B (pX p d i) = false → v = nI (Va p d k i)) → (bt B (pX p d i) = true → v = mI ν 65 (pX p d i)) → (Ev (fun n => F_MO_fits n 1 56 (nI d) (nI k) (nI (pL p d)) (B ||| 1 <<< (nI (pX p d i) &&& 31)) g (nI (i + 1)) 0 0 0 0 0 (sI ν 65 (pX p d i) v)) G) → Ev (fun n => F_MO_fits n 3 56 (nI d) (nI k) (nI (pL p d)) B 0 (nI i) (nI (pX p d i)) (nI (Va p d k i)) g 0 0 ν) G := by
        intro g v hv0 hv1 hn
        refine E_MO_fits_3 ?_
        have four : Ev (fun n => F_MO_fits n 4 56 (nI d) (nI k) (nI (pL p d)) B g (nI i) (nI (pX p d i)) 0 v (nI (pX p d i)) 65 ν) G := by
          refine E_MO_fits_4 ?_
          simp only [B_MO_fits_4, hs.k (k := 65) (c := 100) (by decide), hs.z (show 65 < 71 by decide), show (kz 65).2 = 8 by decide, ib_i hx8 (show 8 < 2 ^ 31 by decide), nI_clamp (show pX p d i < 2 ^ 31 by omega), if_true, Option.bind_some, nI_1]
          exact hn
        simp only [B_MO_fits_3, hs.k (k := 56) (c := 6) (by decide), hs.r (k := 56) (j := 15) (v := 65) (by decide), hs.k (k := 65) (c := 100) (by decide), hs.z (show 65 < 71 by decide), show (kz 65).2 = 8 by decide, ib_i hx8 (show 8 < 2 ^ 31 by decide), nI_clamp (show pX p d i < 2 ^ 31 by omega), if_true, bt_is (show pX p d i < 32 by omega)]
        refine Ev.i (fun hb => ?_) (fun hb => ?_)
        · rw [hv0 hb] at four
          exact four
        · rw [hv1 (by simpa using hb)] at four
          exact four
      -- a good one
      have good : ∀ (v : Int32), v = nI (Va p d k i) → (bt B (pX p d i) = true → mI ν 65 (pX p d i) = v) → Ev (fun n => F_MO_fits n 2 56 (nI d) (nI k) (nI (pL p d)) B 0 (nI i) (nI (pX p d i)) (nI (Va p d k i)) 0 0 0 ν) G := by
        intro v hv hv1
        refine E_MO_fits_2 ?_
        simp only [B_MO_fits_2]
        refine on 1 v (fun _ => hv) (fun q => (hv1 q).symm) ?_
        have hF1 : Fr (fun a _ => a = 65) ν (sI ν 65 (pX p d i) v) := Fr.rf.i rfl
        refine ih (i + 1) _ _ (by omega) (hF.tr hF1) (fun x hx => ?_) (fun e he c hc => ?_) (fun j hj => ?_) (fun x hx => ?_)
        · rw [mI_g]
          by_cases q : x = pX p d i
          · rw [if_pos ⟨rfl, q⟩]
            exact ⟨_, hv16, hv⟩
          · rw [if_neg (fun z => q z.2)]
            exact hVI x hx
        · rw [mI_g]
          by_cases q : pX p e c = pX p d i
          · rw [if_pos ⟨rfl, q⟩, ← hv1 ((hB _ hx8).mpr (Or.inl ⟨e, he, c, hc, q⟩)), ← q]
            exact hW e he c hc
          · rw [if_neg (fun z => q z.2)]
            exact hW e he c hc
        · rw [mI_g]
          by_cases q : pX p d j = pX p d i
          · rw [if_pos ⟨rfl, q⟩]
            rcases Nat.lt_or_ge j i with q2 | q2
            · rw [← hv1 ((hB _ hx8).mpr (Or.inr ⟨j, q2, q⟩)), ← q]
              exact hown j q2
            · have : j = i := by omega
              subst this
              exact hv
          · rw [if_neg (fun z => q z.2)]
            rcases Nat.lt_or_ge j i with q2 | q2
            · exact hown j q2
            · have : j = i := by omega
              subst this
              exact absurd rfl q
        · rw [bt_or, Bool.or_eq_true, hB x hx, bt_one _ (by omega) x (by omega), decide_eq_true_eq]
          constructor
          · rintro ((z | ⟨j, hj, z⟩) | z)
            · exact Or.inl z
            · exact Or.inr ⟨j, by omega, z⟩
            · exact Or.inr ⟨i, by omega, z.symm⟩
          · rintro (z | ⟨j, hj, z⟩)
            · exact Or.inl (Or.inl z)
            · rcases Nat.lt_or_ge j i with q2 | q2
              · exact Or.inl (Or.inr ⟨j, q2, z⟩)
              · have : j = i := by omega
                subst this
                exact Or.inr z.symm
      refine Ev.i (fun hb => good _ rfl (fun q => by rw [hb] at q; cases q)) (fun hb => Ev.i (fun he => good _ rfl (fun _ => he)) (fun he => ?_))
      -- a bad one
      have hb1 : bt B (pX p d i) = true := by simpa using hb
      have hbad : ¬ Con (Va p) (pX p) (fun e => e < d + 1) (va_up w d k) := by
        intro hc
        rcases (hB _ hx8).mp hb1 with ⟨e, he1, c, hc1, hx⟩ | ⟨j, hj, hx⟩
        · have := hc e d (show e < d + 1 by omega) (show d < d + 1 by omega) c hc1 i hi3 hx
          rw [va_up_self, va_up_ne _ _ (by omega)] at this
          apply he
          rw [← hx, hW e he1 c hc1, this]
        · have := hc d d (show d < d + 1 by omega) (show d < d + 1 by omega) j (by omega) i hi3 hx
          rw [va_up_self] at this
          apply he
          rw [← hx, hown j hj, this]
      refine on 0 (mI ν 65 (pX p d i)) (fun q => by rw [q] at hb1; cases hb1) (fun _ => rfl) ?_
      have hF1 : Fr (fun a _ => a = 65) ν (sI ν 65 (pX p d i) (mI ν 65 (pX p d i))) := Fr.rf.i rfl
      have same : ∀ x, mI (sI ν 65 (pX p d i) (mI ν 65 (pX p d i))) 65 x = mI ν 65 x := fun x => by
        rw [mI_g]
        by_cases q : x = pX p d i
        · rw [if_pos ⟨rfl, q⟩, q]
        · rw [if_neg (fun z => q z.2)]
      have fin : G (0, sI ν 65 (pX p d i) (mI ν 65 (pX p d i))) := by
        rw [← hG]
        refine ⟨hF.tr hF1, fun x hx => ?_, fun e he c hc => ?_, Or.inr ⟨rfl, hbad⟩⟩
        · rw [same]; exact hVI x hx
        · rw [same]; exact hW e he c hc
      have hs1 := hs.fr hF1
      have hM2 := hM1.fr hF1 (fun j => by omega) (by omega)
      refine E_MO_fits_1 ?_
      simp only [B_MO_fits_1, hs1.k (k := 56) (c := 6) (by decide), hs1.r (k := 56) (j := 2) (v := 57) (by decide), hs1.k (k := 57) (c := 100) (by decide), hs1.z (show 57 < 71 by decide), show (kz 57).2 = 6 by decide, ib_i (show pL p d < 6 by omega) (show 6 < 2 ^ 31 by decide), nI_clamp (show pL p d < 2 ^ 31 by omega), hM2.1 _ hL, if_true, true_or]
      exact Ev.i (fun _ => Ev.c fin) (fun _ => Ev.c fin)
  unfold C_MO_fits
  refine E_MO_fits_0 ?_
  simp only [B_MO_fits_0, hS.k (k := 56) (c := 6) (by decide), hS.r (k := 56) (j := 6) (v := 60) (by decide), hS.k (k := 60) (c := 100) (by decide), hS.z (show 60 < 71 by decide), show (kz 60).2 = 6 by decide, ib_i (show d < 6 by omega) (show 6 < 2 ^ 31 by decide), nI_clamp (show d < 2 ^ 31 by omega), hrel, if_true, Option.bind_some]
  refine Ev.o (v_before hS hWF.1 hM (show d ≤ pA p by omega)) ?_
  refine loop (pW p (pL p d)) 0 _ μ (by omega) Fr.rf hV hVW (fun j hj => absurd hj (Nat.not_lt_zero _)) (fun x hx => ?_)
  rw [bt_orF hWF.1 (by omega) d (by omega)]
  exact ⟨fun z => Or.inl z, fun z => z.resolve_right (fun ⟨j, hj, _⟩ => absurd hj (Nat.not_lt_zero _))⟩
