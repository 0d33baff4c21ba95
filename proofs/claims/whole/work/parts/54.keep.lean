/-! The class keeps live rows -/
theorem kK : ∀ i, i < 5 → (decide (0 < 43 + i) && (decide (43 + i ≤ 70) && decide ((kz (43 + i)).1 = 100))) = true ∧ (kz (43 + i)).2 = 6 ∧ (42, i, 43 + i) ∈ shR := by decide
theorem Sh.oK {μ : Mem} (h : Sh μ) {i : Nat} (hi : i < 5) : ok μ (43 + i) 100 = true := h.k (kK i hi).1
theorem Sh.zK {μ : Mem} (h : Sh μ) {i : Nat} (hi : i < 5) : mZ μ (43 + i) = 6 := (h.z (by omega)).trans (kK i hi).2.1
theorem Sh.rK {μ : Mem} (h : Sh μ) {i : Nat} (hi : i < 5) : mR μ 42 i = 43 + i := h.r (kK i hi).2.2
theorem n12c {c : Nat} (h : c < 12) : ¬ ((12 : Int32) ≤ nI c) := nI_ge (b := 12) h (by decide)
theorem n12 : (12 : Int32) ≤ nI 12 := by decide
def KP (g : Nat) : Nat → Nat → Prop := fun a _ => a = 43 + g
theorem KP.sc {g a j : Nat} (hg : g < 5) (h : KP g a j) : Sc a j := by unfold KP at h; unfold Sc; omega
theorem AGr.fr {P : Nat → Nat → Prop} {μ μ' : Mem} {p : Pic} (h : AGr μ p) (k : Fr P μ μ') (hp : ∀ a j, P a j → ¬ (36 ≤ a ∧ a ≤ 41)) (hx : ∀ x ∈ earsOf p, x.1 < 6) : AGr μ' p := by
  intro x hxm r hr k' hk'
  have := hx x hxm
  rw [k.2.2.2.1 (36 + x.1) r (fun y => hp _ _ y (by omega))]
  exact h x hxm r hr k' hk'
def Bd (p : Pic) (S : Nat → Nat → Prop) : Prop := ∀ e k, S e k → k < aS p e
theorem v_keepP {μ : Mem} {p : Pic} {S : Nat → Nat → Prop} {g i : Nat} {x : Nat × Nat} (h : Inv μ p) (ht : tree p) (hA : AGr μ p) (hg : g < 5) (hx : (earsOf p)[i]? = some x) (hne : x.2 ≠ x.1) (hK : KS μ (43 + g) p S) (hB : Bd p S) : Ev (fun n => C_JO_keepRowsOfParent n 34 (43 + g) (nI x.1) μ) (fun μ' => Fr (KP g) μ μ' ∧ KS μ' (43 + g) p (Up (Va p) (pX p) S x.1 x.2)) := by
  have hN := h.2.1.1.2.2.1
  have hs12 : ∀ e, aS p e ≤ 12 := fun e => h.2.1.2.1 _
  obtain ⟨b1, b2, b3, b4, b5, b6, b7⟩ := h.ear ht hx
  generalize hG : (fun μ' => Fr (KP g) μ μ' ∧ KS μ' (43 + g) p (Up (Va p) (pX p) S x.1 x.2)) = G
  have loop : ∀ (t r : Nat) (ν : Mem), r + t = 12 → Fr (fun a j => a = 43 + g ∧ j = x.2) μ ν → (∀ k, k < 32 → (bt (mI ν (43 + g) x.2) k = true ↔ S x.2 k ∧ (k < r → ∃ k', S x.1 k' ∧ Ag (Va p) (pX p) x.2 k x.1 k'))) → Ev (fun n => F_JO_keepRowsOfParent n 1 34 (43 + g) (nI x.1) (nI x.2) (nI r) ν) G := by
    intro t
    induction t with
    | zero =>
      intro r ν hr hF hq
      have : r = 12 := by omega
      subst this
      refine E_JO_keepRowsOfParent_1 ?_
      simp only [B_JO_keepRowsOfParent_1, n12, if_true]
      refine Ev.c ?_
      rw [← hG]
      refine ⟨hF.mo (fun a j z => z.1), fun e he k hk => ?_⟩
      by_cases q : e = x.2
      · subst q
        rw [hq k hk]
        constructor
        · rintro ⟨z1, z2⟩
          have := hB _ _ z1
          have := hs12 x.2
          exact ⟨z1, fun _ => z2 (by omega)⟩
        · rintro ⟨z1, z2⟩
          exact ⟨z1, fun _ => z2 rfl⟩
      · rw [hF.2.2.2.1 (43 + g) e (fun z => q z.2), hK e he k hk]
        exact ⟨fun z => ⟨z, fun y => absurd y q⟩, fun z => z.1⟩
    | succ t ih =>
      intro r ν hr hF hq
      have hr12 : r < 12 := by omega
      have hi := h.fr (hF.mo (fun a j z => KP.sc hg z.1))
      have hAν := hA.fr hF (fun a j z => by omega) (fun y hy => by have := ears_in h.2.1.1 ht hy; omega)
      have he1 : mI ν (43 + g) x.1 = mI μ (43 + g) x.1 := hF.2.2.2.1 _ _ (fun z => hne z.2.symm)
      refine E_JO_keepRowsOfParent_1 ?_
      simp only [B_JO_keepRowsOfParent_1, n12c hr12, if_false, hi.1.oK hg, if_true, hi.1.zK hg, ib_i (show x.2 < 6 by omega) (show 6 < 2 ^ 31 by decide), nI_clamp (show x.2 < 2 ^ 31 by omega), v_isIn (show r < 32 by omega), Option.bind_some]
      have next : ∀ ν', Fr (fun a j => a = 43 + g ∧ j = x.2) μ ν' → (∀ k, k < 32 → (bt (mI ν' (43 + g) x.2) k = true ↔ S x.2 k ∧ (k < r + 1 → ∃ k', S x.1 k' ∧ Ag (Va p) (pX p) x.2 k x.1 k'))) → Ev (fun n => F_JO_keepRowsOfParent n 2 34 (43 + g) (nI x.1) (nI x.2) (nI r) ν') G := by
        intro ν' hF' hq'
        refine E_JO_keepRowsOfParent_2 ?_
        simp only [B_JO_keepRowsOfParent_2, Option.bind_some, nI_1]
        exact ih (r + 1) ν' (by omega) hF' hq'
      by_cases hb : bt (mI ν (43 + g) x.2) r = true
      case neg =>
        rw [if_neg hb]
        simp only [if_true]
        refine next ν hF (fun k hk => ?_)
        rw [hq k hk]
        by_cases z : k = r
        · subst z
          have := fun z => hb ((hq k hk).mpr z)
          exact ⟨fun y => absurd y this, fun y => absurd ⟨y.1, fun w => absurd w (Nat.lt_irrefl k)⟩ this⟩
        · exact and_congr_right (fun _ => ⟨fun y w => y (by omega), fun y w => y (by omega)⟩)
      case pos =>
        have hSr : S x.2 r := ((hq r (by omega)).mp hb).1
        have hrs := hB _ _ hSr
        rw [if_pos hb]
        simp only [show ¬ ((1 : Int32) = 0) by decide, if_false, hi.1.k (k := 34) (c := 4) (by decide), hi.1.r (k := 34) (j := 2) (v := 35) (by decide), hi.1.k (k := 35) (c := 104) (by decide), hi.1.z (show 35 < 71 by decide), show (kz 35).2 = 6 by decide, ib_i (show x.1 < 6 by omega) (show 6 < 2 ^ 31 by decide), nI_clamp (show x.1 < 2 ^ 31 by omega), hi.1.rG (show x.1 < 6 by omega), hi.1.oG (show x.1 < 6 by omega), hi.1.zG (show x.1 < 6 by omega), ib_i (show r < 12 by omega) (show 12 < 2 ^ 31 by decide), nI_clamp (show r < 2 ^ 31 by omega), hi.1.oK hg, hi.1.zK hg, if_true, he1, ib_i (show x.2 < 6 by omega) (show 6 < 2 ^ 31 by decide), nI_clamp (show x.2 < 2 ^ 31 by omega), Option.bind_some]
        have hz : (mI ν (36 + x.1) r &&& mI μ (43 + g) x.1) = 0 ↔ ¬ ∃ k', S x.1 k' ∧ Ag (Va p) (pX p) x.2 r x.1 k' := by
          rw [bt_z]
          constructor
          · rintro z ⟨k', y1, y2⟩
            have := hB _ _ y1
            have := hs12 x.1
            have h1 := z k' (by omega)
            rw [bt_and, (hAν x (List.mem_of_getElem? hx) r hrs k' (by omega)).mpr ⟨by omega, y2⟩, (hK x.1 b6 k' (by omega)).mpr y1] at h1
            cases h1
          · intro z k' hk'
            rw [bt_and]
            cases hb1 : bt (mI ν (36 + x.1) r) k' with
            | false => rfl
            | true =>
              cases hb2 : bt (mI μ (43 + g) x.1) k' with
              | false => rfl
              | true => exact absurd ⟨k', (hK x.1 b6 k' hk').mp hb2, ((hAν x (List.mem_of_getElem? hx) r hrs k' hk').mp hb1).2⟩ z
        refine Ev.i (fun c => ?_) (fun c => ?_)
        · have c := hz.mp c
          refine next _ (hF.i ⟨rfl, rfl⟩) (fun k hk => ?_)
          rw [mI_ss, bt_and, bt_not hk, bt_one r (by omega) k hk, Bool.and_eq_true, hq k hk]
          by_cases z : k = r
          · subst z
            simp only [decide_true, Bool.not_true]
            exact ⟨fun y => (by cases y.2), fun y => absurd (y.2 (by omega)) c⟩
          · simp only [z, decide_false, Bool.not_false, and_true]
            exact and_congr_right (fun _ => ⟨fun y w => y (by omega), fun y w => y (by omega)⟩)
        · have c := Classical.not_not.mp (fun z => c (hz.mpr z))
          refine next ν hF (fun k hk => ?_)
          rw [hq k hk]
          by_cases z : k = r
          · subst z
            exact and_congr_right (fun _ => ⟨fun y w => c, fun y w => c⟩)
          · exact and_congr_right (fun _ => ⟨fun y w => y (by omega), fun y w => y (by omega)⟩)
  unfold C_JO_keepRowsOfParent
  refine E_JO_keepRowsOfParent_0 ?_
  simp only [B_JO_keepRowsOfParent_0, h.1.k (k := 34) (c := 4) (by decide), h.1.r (k := 34) (j := 1) (v := 30) (by decide), h.1.k (k := 30) (c := 3) (by decide), h.1.r (k := 30) (j := 1) (v := 31) (by decide), h.1.k (k := 31) (c := 100) (by decide), h.1.z (show 31 < 71 by decide), show (kz 31).2 = 6 by decide, ib_i (show x.1 < 6 by omega) (show 6 < 2 ^ 31 by decide), nI_clamp (show x.1 < 2 ^ 31 by omega), b5, if_true, Option.bind_some]
  exact loop 12 0 μ (by omega) Fr.rf (fun k hk => (hK x.2 b7 k hk).trans ⟨fun y => ⟨y, fun w => absurd w (Nat.not_lt_zero _)⟩, fun y => y.1⟩)
theorem v_keepC {μ : Mem} {p : Pic} {S : Nat → Nat → Prop} {g i : Nat} {x : Nat × Nat} (h : Inv μ p) (ht : tree p) (hA : AGr μ p) (hg : g < 5) (hx : (earsOf p)[i]? = some x) (hK : KS μ (43 + g) p S) (hB : Bd p S) : Ev (fun n => C_JO_keepRowsOfChild n 34 (43 + g) (nI x.1) μ) (fun μ' => Fr (KP g) μ μ' ∧ KS μ' (43 + g) p (Dn (Va p) (pX p) S x.1 x.2)) := by
  have hN := h.2.1.1.2.2.1
  have hs12 : ∀ e, aS p e ≤ 12 := fun e => h.2.1.2.1 _
  obtain ⟨b1, b2, b3, b4, b5, b6, b7⟩ := h.ear ht hx
  generalize hG : (fun μ' => Fr (KP g) μ μ' ∧ KS μ' (43 + g) p (Dn (Va p) (pX p) S x.1 x.2)) = G
  have loop : ∀ (t r : Nat) (wd : Int32), r + t = 12 → (∀ k, k < 32 → (bt wd k = true ↔ k < aS p x.1 ∧ ∃ k', k' < r ∧ S x.2 k' ∧ Ag (Va p) (pX p) x.2 k' x.1 k)) → Ev (fun n => F_JO_keepRowsOfChild n 1 34 (43 + g) (nI x.1) (nI x.2) wd (nI r) μ) G := by
    intro t
    induction t with
    | zero =>
      intro r wd hr hq
      have : r = 12 := by omega
      subst this
      refine E_JO_keepRowsOfChild_1 ?_
      simp only [B_JO_keepRowsOfChild_1, n12, if_true, h.1.oK hg, h.1.zK hg, ib_i (show x.1 < 6 by omega) (show 6 < 2 ^ 31 by decide), nI_clamp (show x.1 < 2 ^ 31 by omega), Option.bind_some]
      refine Ev.c ?_
      rw [← hG]
      refine ⟨Fr.rf.i rfl, fun e he k hk => ?_⟩
      rw [mI_g]
      by_cases q : e = x.1
      · subst q
        rw [if_pos ⟨rfl, rfl⟩, bt_and, Bool.and_eq_true, hK _ b6 k hk, hq k hk]
        constructor
        · rintro ⟨z1, z2, k', z3, z4⟩
          exact ⟨z1, fun _ => ⟨k', z4⟩⟩
        · rintro ⟨z1, z2⟩
          obtain ⟨k', z3, z4⟩ := z2 rfl
          have := hB _ _ z3
          have := hs12 x.2
          exact ⟨z1, hB _ _ z1, k', by omega, z3, z4⟩
      · rw [if_neg (fun z => q z.2), hK e he k hk]
        exact ⟨fun z => ⟨z, fun y => absurd y q⟩, fun z => z.1⟩
    | succ t ih =>
      intro r wd hr hq
      have hr12 : r < 12 := by omega
      refine E_JO_keepRowsOfChild_1 ?_
      simp only [B_JO_keepRowsOfChild_1, n12c hr12, if_false, h.1.oK hg, if_true, h.1.zK hg, ib_i (show x.2 < 6 by omega) (show 6 < 2 ^ 31 by decide), nI_clamp (show x.2 < 2 ^ 31 by omega), v_isIn (show r < 32 by omega), Option.bind_some]
      have next : ∀ wd', (∀ k, k < 32 → (bt wd' k = true ↔ k < aS p x.1 ∧ ∃ k', k' < r + 1 ∧ S x.2 k' ∧ Ag (Va p) (pX p) x.2 k' x.1 k)) → Ev (fun n => F_JO_keepRowsOfChild n 2 34 (43 + g) (nI x.1) (nI x.2) wd' (nI r) μ) G := by
        intro wd' hq'
        refine E_JO_keepRowsOfChild_2 ?_
        simp only [B_JO_keepRowsOfChild_2, Option.bind_some, nI_1]
        exact ih (r + 1) wd' (by omega) hq'
      by_cases hb : bt (mI μ (43 + g) x.2) r = true
      case neg =>
        rw [if_neg hb]
        simp only [if_true]
        refine next wd (fun k hk => ?_)
        rw [hq k hk]
        refine and_congr_right (fun _ => ⟨fun ⟨k', y1, y2⟩ => ⟨k', by omega, y2⟩, fun ⟨k', y1, y2⟩ => ⟨k', ?_, y2⟩⟩)
        rcases Nat.lt_or_ge k' r with z | z
        · exact z
        · have : k' = r := by omega
          subst this
          exact absurd ((hK x.2 b7 k' (by omega)).mpr y2.1) hb
      case pos =>
        have hSr : S x.2 r := (hK x.2 b7 r (by omega)).mp hb
        have hrs := hB _ _ hSr
        rw [if_pos hb]
        simp only [show ¬ ((1 : Int32) = 0) by decide, if_false, h.1.k (k := 34) (c := 4) (by decide), h.1.r (k := 34) (j := 2) (v := 35) (by decide), h.1.k (k := 35) (c := 104) (by decide), h.1.z (show 35 < 71 by decide), show (kz 35).2 = 6 by decide, ib_i (show x.1 < 6 by omega) (show 6 < 2 ^ 31 by decide), nI_clamp (show x.1 < 2 ^ 31 by omega), h.1.rG (show x.1 < 6 by omega), h.1.oG (show x.1 < 6 by omega), h.1.zG (show x.1 < 6 by omega), ib_i (show r < 12 by omega) (show 12 < 2 ^ 31 by decide), nI_clamp (show r < 2 ^ 31 by omega), if_true, Option.bind_some]
        refine next _ (fun k hk => ?_)
        rw [bt_or, Bool.or_eq_true, hq k hk, hA x (List.mem_of_getElem? hx) r hrs k hk]
        constructor
        · rintro (⟨z1, k', z2, z3⟩ | ⟨z1, z2⟩)
          · exact ⟨z1, k', by omega, z3⟩
          · exact ⟨z1, r, by omega, hSr, z2⟩
        · rintro ⟨z1, k', z2, z3⟩
          rcases Nat.lt_or_ge k' r with z | z
          · exact Or.inl ⟨z1, k', z, z3⟩
          · have : k' = r := by omega
            subst this
            exact Or.inr ⟨z1, z3.2⟩
  unfold C_JO_keepRowsOfChild
  refine E_JO_keepRowsOfChild_0 ?_
  simp only [B_JO_keepRowsOfChild_0, h.1.k (k := 34) (c := 4) (by decide), h.1.r (k := 34) (j := 1) (v := 30) (by decide), h.1.k (k := 30) (c := 3) (by decide), h.1.r (k := 30) (j := 1) (v := 31) (by decide), h.1.k (k := 31) (c := 100) (by decide), h.1.z (show 31 < 71 by decide), show (kz 31).2 = 6 by decide, ib_i (show x.1 < 6 by omega) (show 6 < 2 ^ 31 by decide), nI_clamp (show x.1 < 2 ^ 31 by omega), b5, if_true, Option.bind_some]
  exact loop 12 0 0 (by omega) (fun k hk => by rw [bt_0]; exact ⟨fun z => (by cases z), fun ⟨_, k', y, _⟩ => absurd y (Nat.not_lt_zero _)⟩)
theorem i_m1 (x : Int32) : x + (-1) = x - 1 := (Int32.sub_eq_add_neg x 1).symm
theorem Up.bd {p : Pic} {S : Nat → Nat → Prop} {e q : Nat} (h : Bd p S) : Bd p (Up (Va p) (pX p) S e q) := fun a k z => h a k z.1
theorem Dn.bd {p : Pic} {S : Nat → Nat → Prop} {e q : Nat} (h : Bd p S) : Bd p (Dn (Va p) (pX p) S e q) := fun a k z => h a k z.1
theorem dnAll.bd {p : Pic} {S : Nat → Nat → Prop} (h : Bd p S) : ∀ xs : List (Nat × Nat), Bd p (dnAll (Va p) (pX p) xs S)
  | [] => h
  | x :: xs => Dn.bd (dnAll.bd h xs)
theorem hung_ne {X : Nat → Nat → Nat} : ∀ (xs : List (Nat × Nat)) (P : Nat → Prop), Hung X xs P → ∀ x ∈ xs, x.2 ≠ x.1
  | [], _, _, _, hx => absurd hx List.not_mem_nil
  | y :: ys, P, h, x, hx => by
    rcases List.mem_cons.mp hx with z | z
    · rw [z]
      exact h.1.2.2.1
    · exact hung_ne ys _ h.2 x z
theorem v_keepLive {μ : Mem} {p : Pic} {S : Nat → Nat → Prop} {g : Nat} (h : Inv μ p) (ht : tree p) (hA : AGr μ p) (hg : g < 5) (hK : KS μ (43 + g) p S) (hB : Bd p S) : Ev (fun n => C_JO_keepLiveRows n 34 (43 + g) μ) (fun μ' => Fr (KP g) μ μ' ∧ KS μ' (43 + g) p (dnAll (Va p) (pX p) (earsOf p) (upAll (Va p) (pX p) (earsOf p) S))) := by
  have hN := h.2.1.1.2.2.1
  have hE := (ears_ok h.2.1.1 ht).1
  generalize hG : (fun μ' => Fr (KP g) μ μ' ∧ KS μ' (43 + g) p (dnAll (Va p) (pX p) (earsOf p) (upAll (Va p) (pX p) (earsOf p) S))) = G
  generalize hU : upAll (Va p) (pX p) (earsOf p) S = U at hG
  have hAf : ∀ ν, Fr (KP g) μ ν → AGr ν p := fun ν hF => hA.fr hF (fun a j z => by unfold KP at z; omega) (fun y hy => by have := ears_in h.2.1.1 ht hy; omega)
  have down : ∀ (t : Nat) (ν : Mem), t ≤ (earsOf p).length → Fr (KP g) μ ν → Bd p U → KS ν (43 + g) p (dnAll (Va p) (pX p) ((earsOf p).drop t) U) → Ev (fun n => F_JO_keepLiveRows n 2 34 (43 + g) (nI t - 1) ν) G := by
    intro t
    induction t with
    | zero =>
      intro ν hl hF hBU hKν
      refine E_JO_keepLiveRows_2 ?_
      simp only [B_JO_keepLiveRows_2, show nI 0 - 1 < 0 by decide, if_true]
      refine Ev.c ?_
      rw [← hG]
      exact ⟨hF, hKν⟩
    | succ t ih =>
      intro ν hl hF hBU hKν
      have hi := h.fr (hF.mo (fun a j z => KP.sc hg z))
      have hx : (earsOf p)[t]? = some (earsOf p)[t] := List.getElem?_eq_getElem (by omega)
      have hd : (earsOf p).drop t = (earsOf p)[t] :: (earsOf p).drop (t + 1) := List.drop_eq_getElem_cons (by omega)
      generalize (earsOf p)[t] = x at hx hd
      obtain ⟨b1, b2, b3, b4, b5, b6, b7⟩ := hi.ear ht hx
      refine E_JO_keepLiveRows_2 ?_
      simp only [B_JO_keepLiveRows_2, nI_pred, nI_pos (show t < 2 ^ 31 by omega), if_false, if_true, hi.1.k (k := 34) (c := 4) (by decide), hi.1.r (k := 34) (j := 1) (v := 30) (by decide), hi.1.k (k := 30) (c := 3) (by decide), hi.1.r (k := 30) (j := 3) (v := 33) (by decide), hi.1.k (k := 33) (c := 100) (by decide), hi.1.z (show 33 < 71 by decide), show (kz 33).2 = 6 by decide, ib_i (show t < 6 by omega) (show 6 < 2 ^ 31 by decide), nI_clamp (show t < 2 ^ 31 by omega), b4]
      refine Ev.b (v_keepC hi ht (hAf ν hF) hg hx hKν (dnAll.bd hBU _)) (fun ν' hν => ?_)
      simp only [Option.bind_some, i_m1]
      refine ih ν' (by omega) (hF.tr hν.1) hBU ?_
      rw [hd]
      exact hν.2
  have up : ∀ (t i : Nat) (ν : Mem) (T : Nat → Nat → Prop), i + t = (earsOf p).length → Fr (KP g) μ ν → Bd p T → upAll (Va p) (pX p) ((earsOf p).drop i) T = U → KS ν (43 + g) p T → Ev (fun n => F_JO_keepLiveRows n 1 34 (43 + g) (nI i) ν) G := by
    intro t
    induction t with
    | zero =>
      intro i ν T hl hF hBT hT hKν
      have hi := h.fr (hF.mo (fun a j z => KP.sc hg z))
      obtain ⟨l1, l2⟩ := hi.len ht
      have : i = (earsOf p).length := by omega
      subst this
      rw [List.drop_length] at hT
      have hT : T = U := hT
      refine E_JO_keepLiveRows_1 ?_
      simp only [B_JO_keepLiveRows_1, hi.1.k (k := 34) (c := 4) (by decide), hi.1.r (k := 34) (j := 1) (v := 30) (by decide), hi.1.k (k := 30) (c := 3) (by decide), l1, nI_le (Nat.le_refl (earsOf p).length) (show (earsOf p).length < 2 ^ 31 by omega), if_true, Option.bind_some]
      refine down _ ν (Nat.le_refl _) hF (hT ▸ hBT) ?_
      rw [List.drop_length]
      exact hT ▸ hKν
    | succ t ih =>
      intro i ν T hl hF hBT hT hKν
      have hi := h.fr (hF.mo (fun a j z => KP.sc hg z))
      obtain ⟨l1, l2⟩ := hi.len ht
      have hlt : i < (earsOf p).length := by omega
      have hx : (earsOf p)[i]? = some (earsOf p)[i] := List.getElem?_eq_getElem hlt
      have hd : (earsOf p).drop i = (earsOf p)[i] :: (earsOf p).drop (i + 1) := List.drop_eq_getElem_cons hlt
      generalize (earsOf p)[i] = x at hx hd
      obtain ⟨b1, b2, b3, b4, b5, b6, b7⟩ := hi.ear ht hx
      refine E_JO_keepLiveRows_1 ?_
      simp only [B_JO_keepLiveRows_1, hi.1.k (k := 34) (c := 4) (by decide), hi.1.r (k := 34) (j := 1) (v := 30) (by decide), hi.1.k (k := 30) (c := 3) (by decide), l1, nI_ge hlt (show (earsOf p).length < 2 ^ 31 by omega), if_true, if_false, hi.1.r (k := 30) (j := 3) (v := 33) (by decide), hi.1.k (k := 33) (c := 100) (by decide), hi.1.z (show 33 < 71 by decide), show (kz 33).2 = 6 by decide, ib_i (show i < 6 by omega) (show 6 < 2 ^ 31 by decide), nI_clamp (show i < 2 ^ 31 by omega), b4]
      refine Ev.b (v_keepP hi ht (hAf ν hF) hg hx (hung_ne _ _ hE x (List.mem_of_getElem? hx)) hKν hBT) (fun ν' hν => ?_)
      simp only [Option.bind_some, nI_1]
      refine ih (i + 1) ν' (Up (Va p) (pX p) T x.1 x.2) (by omega) (hF.tr hν.1) (Up.bd hBT) ?_ hν.2
      rw [hd] at hT
      exact hT
  unfold C_JO_keepLiveRows
  refine E_JO_keepLiveRows_0 ?_
  simp only [B_JO_keepLiveRows_0]
  exact up (earsOf p).length 0 μ S (by omega) Fr.rf hB hU hK
/-- the rows of some way among rows of S -/
def LvS (p : Pic) (S : Nat → Nat → Prop) : Nat → Nat → Prop := fun e k => ∃ w, Way (Va p) (pX p) (fun q => q < pA p) S w ∧ w e = k
theorem v_live {μ : Mem} {p : Pic} {S : Nat → Nat → Prop} {g : Nat} (h : Inv μ p) (ht : tree p) (hA : AGr μ p) (hg : g < 5) (hK : KS μ (43 + g) p S) (hB : ∀ e k, S e k → S0 p e k) : Ev (fun n => C_JO_keepLiveRows n 34 (43 + g) μ) (fun μ' => Fr (KP g) μ μ' ∧ KS μ' (43 + g) p (LvS p S)) := by
  refine (v_keepLive h ht hA hg hK (fun e k z => (hB e k z).1)).w (fun μ' hμ => ⟨hμ.1, fun e he k hk => ?_⟩)
  rw [hμ.2 e he k hk]
  exact live_rows _ _ _ (ears_ok h.2.1.1 ht).1 (fun q k z => (hB q k z).2) e he k
theorem isWay_S0 {p : Pic} {w : Nat → Nat} : isWay p w ↔ Way (Va p) (pX p) (fun q => q < pA p) (S0 p) w :=
  ⟨fun h => ⟨fun q hq => ⟨h.1 q hq, h.2 q q hq hq⟩, h.2⟩, fun h => ⟨fun q hq => (h.1 q hq).1, h.2⟩⟩
theorem AGr.to {μ μ' : Mem} {p : Pic} {g : Nat} (h : AGr μ p) (hW : WA p) (ht : tree p) (k : Fr (KP g) μ μ') : AGr μ' p := h.fr k (fun a j z => by unfold KP at z; omega) (fun y hy => by have := ears_in hW ht hy; have := hW.2.2.1; omega)
theorem JP.inv {μ μ' : Mem} {p : Pic} (h : Inv μ p) (k : Fr JP μ μ') : Inv μ' p := h.fr (k.mo (fun a j z => JP.sc z))
theorem KP.inv {μ μ' : Mem} {p : Pic} {g : Nat} (h : Inv μ p) (hg : g < 5) (k : Fr (KP g) μ μ') : Inv μ' p := h.fr (k.mo (fun a j z => KP.sc hg z))
/-! bits counted -/
theorem pc_ind {x : Int32} : ∀ n, pc x n = sm n (fun k => ind (bt x k = true))
  | 0 => rfl
  | n + 1 => by
    show pc x n + _ = sm n _ + ind (bt x n = true)
    rw [pc_ind n]
    congr 1
    by_cases hb : bt x n = true
    · rw [ind_t hb, hb]
      rfl
    · rw [ind_f hb]
      simp [hb]
set_option maxRecDepth 100000 in
theorem bc12 : ∀ m, m < 4096 → (C_JI_bitCount 0 (nI m) m0).map (fun q => q.1) = some (nI (pc (nI m) 12)) := by decide +kernel
theorem v_bitCount {x : Int32} (h : ∀ k, k < 32 → bt x k = true → k < 12) (n : Nat) (μ : Mem) : C_JI_bitCount n x μ = some (nI (pc x 12), μ) := by
  have e1 : x &&& 4095 = x := bt_ext (fun k hk => by
    rw [bt_and]
    cases hb : bt x k with
    | false => rfl
    | true => exact (by decide +kernel : ∀ k, k < 12 → (true && bt 4095 k) = true) k (h k hk hb))
  have e2 : x &&& 4095 = nI (x.toBitVec.toNat % 2 ^ 12) := pk_and x 12 (by decide)
  have hm : x.toBitVec.toNat % 2 ^ 12 < 4096 := Nat.mod_lt _ (by decide)
  rw [e1] at e2
  generalize x.toBitVec.toNat % 2 ^ 12 = m at e2 hm
  subst e2
  have h1 := bc12 m hm
  simp only [C_JI_bitCount, Option.bind_some, Option.map_some, Option.some.injEq, Prod.mk.injEq, and_true] at h1 ⊢
  exact h1
theorem v_countLive {μ : Mem} {p : Pic} (h : Inv μ p) (ht : tree p) {e : Nat} (he : e < pA p) : Ev (fun n => C_JO_countLiveRows n 34 (nI e) μ) (fun q => Inv q.2 p ∧ q.1 = nI (nLv p e)) := by
  have hN := h.2.1.1.2.2.1
  have t0 : Int32.toNatClampNeg 0 = 0 := by decide
  simp only [C_JO_countLiveRows, h.1.k (k := 34) (c := 4) (by decide), if_true]
  refine Ev.b (v_compare h ht) (fun ν hν => ?_)
  obtain ⟨f1, f2, f3⟩ := hν
  have hi := JP.inv h f1
  simp only [hi.1.k (k := 34) (c := 4) (by decide), hi.1.r (k := 34) (j := 3) (v := 42) (by decide), hi.1.k (k := 42) (c := 104) (by decide), hi.1.z (show 42 < 71 by decide), show (kz 42).2 = 5 by decide, show ib 0 5 = true by decide, t0, hi.1.r (k := 42) (j := 0) (v := 43) (by decide), hi.1.k (k := 43) (c := 100) (by decide), if_true]
  refine Ev.b (v_live (g := 0) hi ht f3 (by decide) f2 (fun e k z => z)) (fun ν' hν => ?_)
  obtain ⟨g1, g2⟩ := hν
  have hj := KP.inv hi (by decide) g1
  simp only [hj.1.k (k := 34) (c := 4) (by decide), hj.1.r (k := 34) (j := 3) (v := 42) (by decide), hj.1.k (k := 42) (c := 104) (by decide), hj.1.z (show 42 < 71 by decide), show (kz 42).2 = 5 by decide, show ib 0 5 = true by decide, t0, hj.1.r (k := 42) (j := 0) (v := 43) (by decide), hj.1.k (k := 43) (c := 100) (by decide), hj.1.z (show 43 < 71 by decide), show (kz 43).2 = 6 by decide, ib_i (show e < 6 by omega) (show 6 < 2 ^ 31 by decide), nI_clamp (show e < 2 ^ 31 by omega), if_true]
  have hbits := g2 e he
  rw [show 43 + 0 = 43 from rfl] at hbits
  have h12 : ∀ k, k < 32 → bt (mI ν' 43 e) k = true → k < 12 := by
    intro k hk hb
    obtain ⟨w, hw, rfl⟩ := (hbits k hk).mp hb
    have h1 := (hw.1 e he).1
    have h2 : aS p e ≤ 12 := h.2.1.2.1 _
    omega
  simp only [v_bitCount h12, Option.bind_some]
  refine Ev.c ⟨hj, ?_⟩
  show nI (pc (mI ν' 43 e) 12) = _
  rw [pc_ind]
  congr 1
  refine sm_congr (fun k hk => ind_iff ?_)
  rw [hbits k (by omega)]
  exact ⟨fun ⟨w, hw, y⟩ => ⟨w, isWay_S0.mpr hw, y⟩, fun ⟨w, hw, y⟩ => ⟨w, isWay_S0.mp hw, y⟩⟩
