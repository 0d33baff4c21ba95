/-! The class counts ways -/
def erA : List (Nat × Nat) → List Nat → List Nat
  | [], L => L
  | x :: xs, L => erA xs (L.erase x.1)
noncomputable def wtA (B : Nat) (V : Nat → Nat → Nat → Nat) (X : Nat → Nat → Nat) : List (Nat × Nat) → (Nat → Nat → Nat) → Nat → Nat → Nat
  | [], wt => wt
  | x :: xs, wt => wtA B V X xs (wtUp B V X wt x.1 x.2)
theorem wtUp_z {B : Nat} {V : Nat → Nat → Nat → Nat} {X : Nat → Nat → Nat} {wt : Nat → Nat → Nat} {e p q k : Nat} (h : wt q k = 0) : wtUp B V X wt e p q k = 0 := by
  unfold wtUp
  by_cases z : q = p
  · subst z
    rw [if_pos rfl, h, Nat.zero_mul]
  · rw [if_neg z]
    exact h
theorem Zs_all {B : Nat} {V : Nat → Nat → Nat → Nat} {X : Nat → Nat → Nat} (w : Nat → Nat) : ∀ (xs : List (Nat × Nat)) (Ls : List Nat) (wt : Nat → Nat → Nat), Ls.Nodup → Hung X xs (fun q => q ∈ Ls) → (∀ q k, wt q k ≠ 0 → Ag V X q k q k) → Zs B V X Ls wt w = Zs B V X (erA xs Ls) (wtA B V X xs wt) w
  | [], _, _, _, _, _ => rfl
  | x :: xs, Ls, wt, hn, hh, ha => by
    rw [Zs_step hn hh.1 (fun k => ha x.1 k) w]
    refine Zs_all w xs _ _ (hn.erase _) (hh.2.iff (fun q => ?_)) (fun q k hz => ha q k (fun z => hz (wtUp_z z)))
    exact (and_comm.trans (List.Nodup.mem_erase_iff hn).symm)
theorem erA_ok {X : Nat → Nat → Nat} : ∀ (xs : List (Nat × Nat)) (Ls : List Nat), Ls.Nodup → Hung X xs (fun q => q ∈ Ls) → 0 < Ls.length → (erA xs Ls).Nodup ∧ 0 < (erA xs Ls).length ∧ (erA xs Ls).length + xs.length = Ls.length ∧ (∀ a b, a ∈ erA xs Ls → b ∈ erA xs Ls → a = b) ∧ ∀ q, q ∈ Ls → (∀ x ∈ xs, q ≠ x.1) → q ∈ erA xs Ls
  | [], Ls, hn, hh, hl => ⟨hn, hl, rfl, hh, fun q hq _ => hq⟩
  | x :: xs, Ls, hn, hh, hl => by
    have hp : x.2 ∈ Ls.erase x.1 := (List.Nodup.mem_erase_iff hn).mpr ⟨hh.1.2.2.1, hh.1.2.1⟩
    have hle : (Ls.erase x.1).length = Ls.length - 1 := List.length_erase_of_mem hh.1.1
    obtain ⟨a1, a2, a3, a4, a5⟩ := erA_ok xs (Ls.erase x.1) (hn.erase _) (hh.2.iff (fun q => and_comm.trans (List.Nodup.mem_erase_iff hn).symm)) (List.length_pos_of_mem hp)
    refine ⟨a1, a2, ?_, a4, fun q hq hx => ?_⟩
    · show (erA xs (Ls.erase x.1)).length + (xs.length + 1) = _
      omega
    · exact a5 q ((List.Nodup.mem_erase_iff hn).mpr ⟨hx x List.mem_cons_self, hq⟩) (fun y hy => hx y (List.mem_cons_of_mem _ hy))
theorem hlist_out {nA : Nat} {vs : Nat → Int32} (hN : nA ≤ 6) : ∀ d i, i + d = nA → ∀ x ∈ hlist nA vs d i, bt (hangR nA vs nA).1 x.1 = false
  | 0, _, _, x, hx => by cases hx
  | d + 1, i, hi, x, hx => by
    cases he : ear nA vs (hangR nA vs i).1 with
    | none =>
      simp only [hlist, he] at hx
      cases hx
    | some e =>
      simp only [hlist, he] at hx
      rcases List.mem_cons.mp hx with z | z
      · obtain ⟨h1, h2, -⟩ := ear_in he
        rw [z]
        have b0 : bt (hangR nA vs (i + 1)).1 e = false := by
          show bt (hstep nA vs (hangR nA vs i)).1 e = false
          simp only [hstep, he]
          exact bt_rs (by omega)
        have := (par_fix (nA := nA) (vs := vs) hN (show e < 32 by omega) b0 d).1
        rw [show i + 1 + d = nA by omega] at this
        exact this
      · exact hlist_out hN d (i + 1) (by omega) x z
theorem pc_none {x : Int32} : ∀ n, (∀ k, k < n → bt x k = false) → pc x n = 0
  | 0, _ => rfl
  | n + 1, h => by
    show pc x n + _ = 0
    rw [pc_none n (fun k hk => h k (by omega)), h n (by omega)]
    rfl
/-- the atom that is left of a tree -/
def rootO (p : Pic) : Option Nat := fd (fun e => bt (hangR (pA p) (pvs p) (pA p)).1 e) (pA p) 0
theorem root_some {p : Pic} (hW : WA p) (ht : tree p) (h0 : 0 < pA p) : ∃ r, r < pA p ∧ rootO p = some r ∧ erA (earsOf p) (List.range (pA p)) = [r] := by
  have hN := hW.2.2.1
  obtain ⟨e1, e2, -⟩ := ears_ok hW ht
  obtain ⟨a1, a2, a3, a4, a5⟩ := erA_ok (X := pX p) (earsOf p) (List.range (pA p)) List.nodup_range (e1.iff (fun q => List.mem_range.symm)) (by rw [List.length_range]; exact h0)
  rw [List.length_range] at a3
  have hpc := hangR_pc (vs := pvs p) hN (pA p)
  cases hr : rootO p with
  | none =>
    have h1 := fd_none.mp hr
    have := pc_none (pA p) (fun k hk => h1 k (Nat.zero_le _) (by omega))
    omega
  | some r =>
    obtain ⟨-, r2, r3, -⟩ := fd_some hr
    refine ⟨r, by omega, rfl, ?_⟩
    have hm : r ∈ erA (earsOf p) (List.range (pA p)) := a5 r (List.mem_range.mpr (by omega)) (fun x hx z => by
      have := hlist_out (vs := pvs p) hN (pA p) 0 (by omega) x hx
      rw [← z] at this
      rw [this] at r3
      cases r3)
    generalize erA (earsOf p) (List.range (pA p)) = Ls at a1 a4 hm
    match Ls, a1, a4, hm with
    | [], _, _, hm => cases hm
    | [a], _, a4, hm => rw [a4 a r (List.mem_singleton.mpr rfl) hm]
    | a :: b :: l, a1, a4, _ =>
      have := a4 a b List.mem_cons_self (List.mem_cons_of_mem _ List.mem_cons_self)
      rw [this] at a1
      exact absurd List.mem_cons_self (List.nodup_cons.mp a1).1
theorem root_none {p : Pic} (h0 : pA p = 0) : rootO p = none := by
  unfold rootO
  rw [h0]
  rfl
noncomputable def wS (p : Pic) : Nat → Nat → Nat := fun e k => ind (S0 p e k)
theorem nW_wS {p : Pic} : nW p = Zs 12 (Va p) (pX p) (List.range (pA p)) (wS p) (fun _ => 0) := by
  unfold nW Zs
  refine ns_congr (fun w => ?_)
  by_cases hc : Con (Va p) (pX p) (fun q => q ∈ List.range (pA p)) w
  · congr 1
    refine pr_congr (fun q hq => ind_iff ?_)
    exact ⟨fun z => ⟨z, hc q q hq hq⟩, fun z => z.1⟩
  · rw [ind_f hc, Nat.zero_mul, Nat.zero_mul]
theorem wtA_z {p : Pic} : ∀ (xs : List (Nat × Nat)) (wt : Nat → Nat → Nat), (∀ e k, ¬ S0 p e k → wt e k = 0) → ∀ e k, ¬ S0 p e k → wtA 12 (Va p) (pX p) xs wt e k = 0
  | [], _, h => h
  | x :: xs, wt, h => wtA_z xs _ (fun e k z => wtUp_z (h e k z))
theorem nW_root {p : Pic} (hW : WA p) (ht : tree p) {r : Nat} (hr : erA (earsOf p) (List.range (pA p)) = [r]) : nW p = sm 12 (fun k => wtA 12 (Va p) (pX p) (earsOf p) (wS p) r k) := by
  obtain ⟨e1, -, -⟩ := ears_ok hW ht
  have hz0 : ∀ e k, ¬ S0 p e k → wS p e k = 0 := fun e k z => ind_f z
  rw [nW_wS, Zs_all _ (earsOf p) _ _ List.nodup_range (e1.iff (fun q => List.mem_range.symm)) (fun q k z => Classical.byContradiction (fun y => z (hz0 q k (fun s => y s.2)))), hr]
  show sm 12 _ = _
  refine sm_congr (fun k _ => ?_)
  show ind _ * (wtA 12 (Va p) (pX p) (earsOf p) (wS p) r (va_up (fun _ => 0) r k r) * 1) = _
  rw [va_up_self, Nat.mul_one]
  by_cases z : S0 p r k
  · rw [ind_t, Nat.one_mul]
    intro a b ha hb
    rw [List.mem_singleton.mp ha, List.mem_singleton.mp hb, va_up_self]
    exact z.2
  · rw [wtA_z _ _ hz0 r k z, Nat.mul_zero]
theorem nW_none {p : Pic} (h0 : pA p = 0) : nW p = 1 := by
  unfold nW
  rw [h0]
  show ind _ * 1 = 1
  have hc : Con (Va p) (pX p) (fun q => q ∈ List.range 0) (fun _ => 0) := fun a b ha _ => absurd ha List.not_mem_nil
  rw [ind_t hc]
/-! the machine's side -/
theorem v_root {μ : Mem} {p : Pic} (h : Inv μ p) : EvO (fun n => C_HA_root n 30 μ) (some (enc (rootO p), μ)) := by
  have hN := h.2.1.1.2.2.1
  have hS := h.1
  have h1 := h.2.2.2.1.1
  have hl : mI μ 30 5 = (hangR (pA p) (pvs p) (pA p)).1 := h.2.2.2.2.2.1.1
  refine Ev.eq ?_
  unfold C_HA_root
  refine E_HA_root_0 ?_
  simp only [B_HA_root_0]
  have loop : ∀ (d i : Nat), i + d = pA p → Ev (fun n => F_HA_root n 1 30 (nI i) μ) (fun q => q = (enc (fd (fun e => bt (hangR (pA p) (pvs p) (pA p)).1 e) d i), μ)) := by
    intro d
    induction d with
    | zero =>
      intro i hi
      have : i = pA p := by omega
      subst this
      refine E_HA_root_1 ?_
      simp only [B_HA_root_1, hS.k (k := 30) (c := 3) (by decide), hS.r (k := 30) (j := 0) (v := 15) (by decide), hS.k (k := 15) (c := 2) (by decide), h1, nI_le (Nat.le_refl (pA p)) (show pA p < 2 ^ 31 by omega), if_true]
      exact Ev.c rfl
    | succ d ih =>
      intro i hi
      have hlt : i < pA p := by omega
      have hn := ih (i + 1) (by omega)
      refine E_HA_root_1 ?_
      simp only [B_HA_root_1, hS.k (k := 30) (c := 3) (by decide), hS.r (k := 30) (j := 0) (v := 15) (by decide), hS.k (k := 15) (c := 2) (by decide), h1, nI_ge hlt (show pA p < 2 ^ 31 by omega), if_true, if_false, v_isIn (show i < 32 by omega), Option.bind_some, hl]
      by_cases hb : bt (hangR (pA p) (pvs p) (pA p)).1 i = true
      · simp only [fd, hb, if_true, show ¬ ((1 : Int32) = 0) by decide, if_false]
        exact Ev.c rfl
      · simp only [fd, hb, if_true, if_false, Bool.false_eq_true, nI_1]
        exact hn
  exact loop (pA p) 0 (by omega)
def WP : Nat → Nat → Prop := fun a _ => 49 ≤ a ∧ a ≤ 54
theorem WP.sc {a j : Nat} (h : WP a j) : Sc a j := by unfold WP at h; unfold Sc; omega
theorem v_startW {μ : Mem} {p : Pic} (h : Inv μ p) : Ev (fun n => C_JO_startWeights n 34 μ) (fun μ' => Fr WP μ μ' ∧ ∀ e, e < pA p → ∀ k, k < 12 → mL μ' (49 + e) k = lN 1) := by
  have hN := h.2.1.1.2.2.1
  generalize hG : (fun μ' => Fr WP μ μ' ∧ ∀ e, e < pA p → ∀ k, k < 12 → mL μ' (49 + e) k = lN 1) = G
  have outer : ∀ (t i : Nat) (ν : Mem), i + t = pA p → Fr WP μ ν → (∀ e, e < i → ∀ k, k < 12 → mL ν (49 + e) k = lN 1) → Ev (fun n => F_JO_startWeights n 1 34 (nI i) 0 ν) G := by
    intro t
    induction t with
    | zero =>
      intro i ν hi' hF hw
      have hi := h.fr (hF.mo (fun a j z => WP.sc z))
      have : i = pA p := by omega
      subst this
      refine E_JO_startWeights_1 ?_
      simp only [B_JO_startWeights_1, hi.1.k (k := 34) (c := 4) (by decide), hi.1.r (k := 34) (j := 0) (v := 15) (by decide), hi.1.k (k := 15) (c := 2) (by decide), hi.2.2.2.1.1, nI_le (Nat.le_refl (pA p)) (show pA p < 2 ^ 31 by omega), if_true]
      refine Ev.c ?_
      rw [← hG]
      exact ⟨hF, hw⟩
    | succ t ih =>
      intro i ν hi' hF hw
      have hi := h.fr (hF.mo (fun a j z => WP.sc z))
      have hlt : i < pA p := by omega
      refine E_JO_startWeights_1 ?_
      simp only [B_JO_startWeights_1, hi.1.k (k := 34) (c := 4) (by decide), hi.1.r (k := 34) (j := 0) (v := 15) (by decide), hi.1.k (k := 15) (c := 2) (by decide), hi.2.2.2.1.1, nI_ge hlt (show pA p < 2 ^ 31 by omega), if_true, if_false]
      have inner : ∀ (s r : Nat) (ν : Mem), r + s = 12 → Fr WP μ ν → (∀ e, e < i → ∀ k, k < 12 → mL ν (49 + e) k = lN 1) → (∀ k, k < r → mL ν (49 + i) k = lN 1) → Ev (fun n => F_JO_startWeights n 2 34 (nI i) (nI r) ν) G := by
        intro s
        induction s with
        | zero =>
          intro r ν hr hF hw hw2
          have : r = 12 := by omega
          subst this
          refine E_JO_startWeights_2 ?_
          simp only [B_JO_startWeights_2, n12, if_true, Option.bind_some, nI_1]
          refine ih (i + 1) ν (by omega) hF (fun e he k hk => ?_)
          rcases Nat.lt_or_ge e i with z | z
          · exact hw e z k hk
          · have : e = i := by omega
            subst this
            exact hw2 k hk
        | succ s ih2 =>
          intro r ν hr hF hw hw2
          have hi := h.fr (hF.mo (fun a j z => WP.sc z))
          refine E_JO_startWeights_2 ?_
          simp only [B_JO_startWeights_2, n12c (show r < 12 by omega), if_true, if_false, hi.1.k (k := 34) (c := 4) (by decide), hi.1.r (k := 34) (j := 4) (v := 48) (by decide), hi.1.k (k := 48) (c := 105) (by decide), hi.1.z (show 48 < 71 by decide), show (kz 48).2 = 6 by decide, ib_i (show i < 6 by omega) (show 6 < 2 ^ 31 by decide), nI_clamp (show i < 2 ^ 31 by omega), hi.1.rW (show i < 6 by omega), hi.1.oW (show i < 6 by omega), hi.1.zW (show i < 6 by omega), ib_i (show r < 12 by omega) (show 12 < 2 ^ 31 by decide), nI_clamp (show r < 2 ^ 31 by omega), Option.bind_some, nI_1]
          refine ih2 (r + 1) _ (by omega) (hF.l (by unfold WP; omega)) (fun e he k hk => ?_) (fun k hk => ?_)
          · rw [mL_g, if_neg (by omega)]
            exact hw e he k hk
          · rw [mL_g]
            by_cases z : k = r
            · rw [if_pos ⟨rfl, z⟩]
              rfl
            · rw [if_neg (fun y => z y.2)]
              exact hw2 k (by omega)
      exact inner 12 0 ν (by omega) hF hw (fun k hk => absurd hk (Nat.not_lt_zero _))
  unfold C_JO_startWeights
  refine E_JO_startWeights_0 ?_
  simp only [B_JO_startWeights_0]
  exact outer (pA p) 0 μ (by omega) Fr.rf (fun e he => absurd he (Nat.not_lt_zero _))
theorem v_weightOf {μ : Mem} (hS : Sh μ) {e : Nat} (he : e < 6) {set : Int32} {f : Nat → Nat} (hf : ∀ k, k < 12 → bt set k = true → mL μ (49 + e) k = lN (f k)) : EvO (fun n => C_JO_weightOf n 34 (nI e) set μ) (some (lN (sm 12 (fun k => ind (bt set k = true) * f k)), μ)) := by
  refine Ev.eq ?_
  unfold C_JO_weightOf
  refine E_JO_weightOf_0 ?_
  simp only [B_JO_weightOf_0]
  have loop : ∀ (t r : Nat), r + t = 12 → Ev (fun n => F_JO_weightOf n 1 34 (nI e) set (lN (sm r (fun k => ind (bt set k = true) * f k))) (nI r) μ) (fun q => q = (lN (sm 12 (fun k => ind (bt set k = true) * f k)), μ)) := by
    intro t
    induction t with
    | zero =>
      intro r hr
      have : r = 12 := by omega
      subst this
      refine E_JO_weightOf_1 ?_
      simp only [B_JO_weightOf_1, n12, if_true]
      exact Ev.c rfl
    | succ t ih =>
      intro r hr
      have hn := ih (r + 1) (by omega)
      refine E_JO_weightOf_1 ?_
      simp only [B_JO_weightOf_1, n12c (show r < 12 by omega), if_false, v_isIn (show r < 32 by omega), Option.bind_some]
      by_cases hb : bt set r = true
      · simp only [hb, if_true, show ¬ ((1 : Int32) = 0) by decide, if_false, hS.k (k := 34) (c := 4) (by decide), hS.r (k := 34) (j := 4) (v := 48) (by decide), hS.k (k := 48) (c := 105) (by decide), hS.z (show 48 < 71 by decide), show (kz 48).2 = 6 by decide, ib_i he (show 6 < 2 ^ 31 by decide), nI_clamp (show e < 2 ^ 31 by omega), hS.rW he, hS.oW he, hS.zW he, ib_i (show r < 12 by omega) (show 12 < 2 ^ 31 by decide), nI_clamp (show r < 2 ^ 31 by omega), hf r (by omega) hb, lN_add]
        refine E_JO_weightOf_2 ?_
        simp only [B_JO_weightOf_2, Option.bind_some, nI_1]
        have e1 : sm (r + 1) (fun k => ind (bt set k = true) * f k) = sm r (fun k => ind (bt set k = true) * f k) + f r := by
          show sm r _ + ind (bt set r = true) * f r = _
          rw [ind_t hb, Nat.one_mul]
        rw [e1] at hn
        exact hn
      · simp only [hb, if_true, if_false, Bool.false_eq_true]
        refine E_JO_weightOf_2 ?_
        simp only [B_JO_weightOf_2, Option.bind_some, nI_1]
        have e1 : sm (r + 1) (fun k => ind (bt set k = true) * f k) = sm r (fun k => ind (bt set k = true) * f k) := by
          show sm r _ + ind (bt set r = true) * f r = _
          rw [ind_f hb, Nat.zero_mul, Nat.add_zero]
        rw [e1] at hn
        exact hn
  exact loop 12 0 (by omega)
def WS (μ : Mem) (p : Pic) (wt : Nat → Nat → Nat) : Prop := ∀ e, e < pA p → ∀ k, S0 p e k → mL μ (49 + e) k = lN (wt e k)
theorem v_weigh {μ : Mem} {p : Pic} {wt : Nat → Nat → Nat} {i : Nat} {x : Nat × Nat} (h : Inv μ p) (ht : tree p) (hA : AGr μ p) (hK : KS μ 43 p (S0 p)) (hx : (earsOf p)[i]? = some x) (hne : x.2 ≠ x.1) (hz : ∀ e k, ¬ S0 p e k → wt e k = 0) (hw : WS μ p wt) : Ev (fun n => C_JO_weighIntoParent n 34 (nI x.1) μ) (fun μ' => Fr WP μ μ' ∧ WS μ' p (wtUp 12 (Va p) (pX p) wt x.1 x.2)) := by
  have hN := h.2.1.1.2.2.1
  have hs12 : ∀ e, aS p e ≤ 12 := fun e => h.2.1.2.1 _
  have t0 : Int32.toNatClampNeg 0 = 0 := by decide
  obtain ⟨b1, b2, b3, b4, b5, b6, b7⟩ := h.ear ht hx
  have hup : ∀ k, wtUp 12 (Va p) (pX p) wt x.1 x.2 x.2 k = wt x.2 k * sm 12 (fun k' => ind (Ag (Va p) (pX p) x.2 k x.1 k') * wt x.1 k') := fun k => if_pos rfl
  have hun : ∀ q k, q ≠ x.2 → wtUp 12 (Va p) (pX p) wt x.1 x.2 q k = wt q k := fun q k z => if_neg z
  generalize hG : (fun μ' => Fr WP μ μ' ∧ WS μ' p (wtUp 12 (Va p) (pX p) wt x.1 x.2)) = G
  have loop : ∀ (t r : Nat) (ν : Mem), r + t = 12 → Fr (fun a j => a = 49 + x.2 ∧ j < r) μ ν → (∀ k, k < r → S0 p x.2 k → mL ν (49 + x.2) k = lN (wtUp 12 (Va p) (pX p) wt x.1 x.2 x.2 k)) → Ev (fun n => F_JO_weighIntoParent n 1 34 (nI x.1) (nI x.2) (nI r) ν) G := by
    intro t
    induction t with
    | zero =>
      intro r ν hr hF hq
      have : r = 12 := by omega
      subst this
      refine E_JO_weighIntoParent_1 ?_
      simp only [B_JO_weighIntoParent_1, n12, if_true]
      refine Ev.c ?_
      rw [← hG]
      refine ⟨hF.mo (fun a j z => by unfold WP; omega), fun e he k hk => ?_⟩
      by_cases q : e = x.2
      · subst q
        have := hs12 x.2
        exact hq k (by have := hk.1; omega) hk
      · rw [hF.2.2.2.2 (49 + e) k (fun z => q (by omega)), hw e he k hk, hun e k q]
    | succ t ih =>
      intro r ν hr hF hq
      have hr12 : r < 12 := by omega
      have hi := h.fr (hF.mo (fun a j z => WP.sc (by unfold WP; omega)))
      have hcI : ∀ a j, a < 49 → mI ν a j = mI μ a j := fun a j z => hF.2.2.2.1 a j (fun y => by omega)
      refine E_JO_weighIntoParent_1 ?_
      simp only [B_JO_weighIntoParent_1, n12c hr12, if_false, hi.1.k (k := 34) (c := 4) (by decide), hi.1.r (k := 34) (j := 3) (v := 42) (by decide), hi.1.k (k := 42) (c := 104) (by decide), hi.1.z (show 42 < 71 by decide), show (kz 42).2 = 5 by decide, show ib 0 5 = true by decide, t0, hi.1.r (k := 42) (j := 0) (v := 43) (by decide), hi.1.k (k := 43) (c := 100) (by decide), hi.1.z (show 43 < 71 by decide), show (kz 43).2 = 6 by decide, if_true, ib_i (show x.2 < 6 by omega) (show 6 < 2 ^ 31 by decide), nI_clamp (show x.2 < 2 ^ 31 by omega), v_isIn (show r < 32 by omega), Option.bind_some, hcI 43 x.2 (by decide)]
      have next : ∀ ν', Fr (fun a j => a = 49 + x.2 ∧ j < r + 1) μ ν' → (∀ k, k < r + 1 → S0 p x.2 k → mL ν' (49 + x.2) k = lN (wtUp 12 (Va p) (pX p) wt x.1 x.2 x.2 k)) → Ev (fun n => F_JO_weighIntoParent n 2 34 (nI x.1) (nI x.2) (nI r) ν') G := by
        intro ν' hF' hq'
        refine E_JO_weighIntoParent_2 ?_
        simp only [B_JO_weighIntoParent_2, Option.bind_some, nI_1]
        exact ih (r + 1) ν' (by omega) hF' hq'
      by_cases hb : bt (mI μ 43 x.2) r = true
      case neg =>
        rw [if_neg hb]
        simp only [if_true]
        refine next ν (hF.mo (fun a j z => by omega)) (fun k hk hs => ?_)
        rcases Nat.lt_or_ge k r with z | z
        · exact hq k z hs
        · have : k = r := by omega
          subst this
          exact absurd ((hK x.2 b7 k (by omega)).mpr hs) hb
      case pos =>
        have hSr : S0 p x.2 r := (hK x.2 b7 r (by omega)).mp hb
        rw [if_pos hb]
        simp only [show ¬ ((1 : Int32) = 0) by decide, if_false, hi.1.k (k := 34) (c := 4) (by decide), hi.1.r (k := 34) (j := 4) (v := 48) (by decide), hi.1.k (k := 48) (c := 105) (by decide), hi.1.z (show 48 < 71 by decide), show (kz 48).2 = 6 by decide, ib_i (show x.2 < 6 by omega) (show 6 < 2 ^ 31 by decide), nI_clamp (show x.2 < 2 ^ 31 by omega), hi.1.rW (show x.2 < 6 by omega), hi.1.oW (show x.2 < 6 by omega), hi.1.zW (show x.2 < 6 by omega), ib_i (show r < 12 by omega) (show 12 < 2 ^ 31 by decide), nI_clamp (show r < 2 ^ 31 by omega), hi.1.r (k := 34) (j := 2) (v := 35) (by decide), hi.1.k (k := 35) (c := 104) (by decide), hi.1.z (show 35 < 71 by decide), show (kz 35).2 = 6 by decide, ib_i (show x.1 < 6 by omega) (show 6 < 2 ^ 31 by decide), nI_clamp (show x.1 < 2 ^ 31 by omega), hi.1.rG (show x.1 < 6 by omega), hi.1.oG (show x.1 < 6 by omega), hi.1.zG (show x.1 < 6 by omega), hi.1.r (k := 34) (j := 3) (v := 42) (by decide), hi.1.k (k := 42) (c := 104) (by decide), hi.1.z (show 42 < 71 by decide), show (kz 42).2 = 5 by decide, show ib 0 5 = true by decide, t0, hi.1.r (k := 42) (j := 0) (v := 43) (by decide), hi.1.k (k := 43) (c := 100) (by decide), hi.1.z (show 43 < 71 by decide), show (kz 43).2 = 6 by decide, if_true, hcI 43 x.1 (by decide), hcI (36 + x.1) r (by omega)]
        have hbit : ∀ k, k < 12 → (bt (mI μ (36 + x.1) r &&& mI μ 43 x.1) k = true ↔ S0 p x.1 k ∧ Ag (Va p) (pX p) x.2 r x.1 k) := by
          intro k hk
          rw [bt_and, Bool.and_eq_true, hA x (List.mem_of_getElem? hx) r hSr.1 k (by omega), hK x.1 b6 k (by omega)]
          exact ⟨fun z => ⟨z.2, z.1.2⟩, fun z => ⟨⟨z.1.1, z.2⟩, z.1⟩⟩
        refine Ev.o (v_weightOf hi.1 (show x.1 < 6 by omega) (f := wt x.1) (fun k hk hb => ?_)) ?_
        · rw [hF.2.2.2.2 (49 + x.1) k (fun z => hne (by omega))]
          exact hw x.1 b6 k ((hbit k hk).mp hb).1
        have hsum : sm 12 (fun k => ind (bt (mI μ (36 + x.1) r &&& mI μ 43 x.1) k = true) * wt x.1 k) = sm 12 (fun k' => ind (Ag (Va p) (pX p) x.2 r x.1 k') * wt x.1 k') := by
          refine sm_congr (fun k hk => ?_)
          by_cases z : S0 p x.1 k
          · rw [ind_iff ((hbit k hk).trans ⟨fun y => y.2, fun y => ⟨z, y⟩⟩)]
          · rw [hz x.1 k z, Nat.mul_zero, Nat.mul_zero]
        simp only [hi.1.oW (show x.2 < 6 by omega), hi.1.zW (show x.2 < 6 by omega), ib_i (show r < 12 by omega) (show 12 < 2 ^ 31 by decide), if_true, Option.bind_some, hsum, hF.2.2.2.2 (49 + x.2) r (fun z => absurd z.2 (Nat.lt_irrefl r)), hw x.2 b7 r hSr, lN_mul]
        refine next _ ((hF.mo (fun a j z => by omega)).l ⟨rfl, by omega⟩) (fun k hk hs => ?_)
        rw [mL_g]
        by_cases z : k = r
        · rw [if_pos ⟨rfl, z⟩, z, hup]
        · rw [if_neg (fun y => z y.2)]
          exact hq k (by omega) hs
  unfold C_JO_weighIntoParent
  refine E_JO_weighIntoParent_0 ?_
  simp only [B_JO_weighIntoParent_0, h.1.k (k := 34) (c := 4) (by decide), h.1.r (k := 34) (j := 1) (v := 30) (by decide), h.1.k (k := 30) (c := 3) (by decide), h.1.r (k := 30) (j := 1) (v := 31) (by decide), h.1.k (k := 31) (c := 100) (by decide), h.1.z (show 31 < 71 by decide), show (kz 31).2 = 6 by decide, ib_i (show x.1 < 6 by omega) (show 6 < 2 ^ 31 by decide), nI_clamp (show x.1 < 2 ^ 31 by omega), b5, if_true, Option.bind_some]
  exact loop 12 0 μ (by omega) Fr.rf (fun k hk => absurd hk (Nat.not_lt_zero _))
theorem v_countWays {μ : Mem} {p : Pic} (h : Inv μ p) (ht : tree p) : Ev (fun n => C_JO_countWays n 34 μ) (fun q => Inv q.2 p ∧ q.1 = lN (nW p)) := by
  have hN := h.2.1.1.2.2.1
  have hW := h.2.1.1
  have t0 : Int32.toNatClampNeg 0 = 0 := by decide
  generalize hG : (fun q : Int64 × Mem => Inv q.2 p ∧ q.1 = lN (nW p)) = G
  unfold C_JO_countWays
  refine E_JO_countWays_0 ?_
  simp only [B_JO_countWays_0, h.1.k (k := 34) (c := 4) (by decide), h.1.r (k := 34) (j := 1) (v := 30) (by decide), h.1.k (k := 30) (c := 3) (by decide), if_true]
  refine Ev.o (v_root h) ?_
  rcases Nat.eq_zero_or_pos (pA p) with z0 | z0
  · rw [root_none z0]
    simp only [enc, if_true]
    refine Ev.c ?_
    rw [← hG]
    refine ⟨h, ?_⟩
    rw [nW_none z0]
    rfl
  · obtain ⟨r, r1, r2, r3⟩ := root_some hW ht z0
    have hE := (ears_ok hW ht).1
    have hnm : ¬ (nI r = -1) := fun z => by
      have := nI_pos (n := r) (by omega)
      rw [z] at this
      exact absurd (by decide) this
    rw [r2]
    simp only [enc, hnm, if_false, h.1.k (k := 34) (c := 4) (by decide), if_true]
    refine Ev.b (v_compare h ht) (fun ν hν => ?_)
    obtain ⟨f1, f2, f3⟩ := hν
    have hi := JP.inv h f1
    simp only [hi.1.k (k := 34) (c := 4) (by decide), if_true]
    refine Ev.b (v_startW hi) (fun ν1 hν1 => ?_)
    obtain ⟨g1, g2⟩ := hν1
    have loop : ∀ (t i : Nat) (ν' : Mem) (wt : Nat → Nat → Nat), i + t = (earsOf p).length → Fr WP ν ν' → (∀ e k, ¬ S0 p e k → wt e k = 0) → WS ν' p wt → wtA 12 (Va p) (pX p) ((earsOf p).drop i) wt = wtA 12 (Va p) (pX p) (earsOf p) (wS p) → Ev (fun n => F_JO_countWays n 1 34 (nI r) (nI i) ν') G := by
      intro t
      induction t with
      | zero =>
        intro i ν' wt hl hF hz hw he
        have hj := hi.fr (hF.mo (fun a j z => WP.sc z))
        obtain ⟨l1, l2⟩ := hj.len ht
        have : i = (earsOf p).length := by omega
        subst this
        rw [List.drop_length] at he
        have he : wt = wtA 12 (Va p) (pX p) (earsOf p) (wS p) := he
        refine E_JO_countWays_1 ?_
        simp only [B_JO_countWays_1, hj.1.k (k := 34) (c := 4) (by decide), hj.1.r (k := 34) (j := 1) (v := 30) (by decide), hj.1.k (k := 30) (c := 3) (by decide), l1, nI_le (Nat.le_refl (earsOf p).length) (show (earsOf p).length < 2 ^ 31 by omega), if_true, hj.1.r (k := 34) (j := 3) (v := 42) (by decide), hj.1.k (k := 42) (c := 104) (by decide), hj.1.z (show 42 < 71 by decide), show (kz 42).2 = 5 by decide, show ib 0 5 = true by decide, t0, hj.1.r (k := 42) (j := 0) (v := 43) (by decide), hj.1.k (k := 43) (c := 100) (by decide), hj.1.z (show 43 < 71 by decide), show (kz 43).2 = 6 by decide, ib_i (show r < 6 by omega) (show 6 < 2 ^ 31 by decide), nI_clamp (show r < 2 ^ 31 by omega), hF.2.2.2.1 43 r (by unfold WP; omega)]
        have hbit : ∀ k, k < 12 → (bt (mI ν 43 r) k = true ↔ S0 p r k) := fun k hk => f2 r r1 k (by omega)
        refine Ev.o (v_weightOf hj.1 (show r < 6 by omega) (f := wt r) (fun k hk hb => hw r r1 k ((hbit k hk).mp hb))) ?_
        refine Ev.c ?_
        rw [← hG]
        refine ⟨hj, ?_⟩
        rw [nW_root hW ht r3, ← he]
        show lN _ = lN _
        congr 1
        refine sm_congr (fun k hk => ?_)
        by_cases z : S0 p r k
        · rw [ind_t ((hbit k hk).mpr z), Nat.one_mul]
        · rw [hz r k z, Nat.mul_zero]
      | succ t ih =>
        intro i ν' wt hl hF hz hw he
        have hj := hi.fr (hF.mo (fun a j z => WP.sc z))
        obtain ⟨l1, l2⟩ := hj.len ht
        have hlt : i < (earsOf p).length := by omega
        have hx : (earsOf p)[i]? = some (earsOf p)[i] := List.getElem?_eq_getElem hlt
        have hd : (earsOf p).drop i = (earsOf p)[i] :: (earsOf p).drop (i + 1) := List.drop_eq_getElem_cons hlt
        generalize (earsOf p)[i] = x at hx hd
        obtain ⟨b1, b2, b3, b4, b5, b6, b7⟩ := hj.ear ht hx
        refine E_JO_countWays_1 ?_
        simp only [B_JO_countWays_1, hj.1.k (k := 34) (c := 4) (by decide), hj.1.r (k := 34) (j := 1) (v := 30) (by decide), hj.1.k (k := 30) (c := 3) (by decide), l1, nI_ge hlt (show (earsOf p).length < 2 ^ 31 by omega), if_true, if_false, hj.1.r (k := 30) (j := 3) (v := 33) (by decide), hj.1.k (k := 33) (c := 100) (by decide), hj.1.z (show 33 < 71 by decide), show (kz 33).2 = 6 by decide, ib_i (show i < 6 by omega) (show 6 < 2 ^ 31 by decide), nI_clamp (show i < 2 ^ 31 by omega), b4]
        refine Ev.b (v_weigh hj ht (f3.fr hF (fun a j z => by unfold WP at z; omega) (fun y hy => by have := ears_in hW ht hy; omega)) (fun e he k hk => by rw [hF.2.2.2.1 43 e (by unfold WP; omega)]; exact f2 e he k hk) hx (hung_ne _ _ hE x (List.mem_of_getElem? hx)) hz hw) (fun ν2 hν2 => ?_)
        simp only [Option.bind_some, nI_1]
        refine ih (i + 1) ν2 (wtUp 12 (Va p) (pX p) wt x.1 x.2) (by omega) (hF.tr hν2.1) (fun e k z => wtUp_z (hz e k z)) hν2.2 ?_
        rw [hd] at he
        exact he
    exact loop (earsOf p).length 0 ν1 (wS p) (by omega) g1 (fun e k z => ind_f z) (fun e he k hk => by rw [g2 e he k (by have h1 := hk.1; have h2 : aS p e ≤ 12 := h.2.1.2.1 _; omega)]; unfold wS; rw [ind_t hk]) rfl
