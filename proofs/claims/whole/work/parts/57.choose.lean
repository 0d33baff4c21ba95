/-! The class's search: it keeps the fuel it began with for the calls of itself, so there are two of them -/
def E2 {α : Type} (f : Nat → Nat → Option α) (Q : α → Prop) : Prop := ∃ r, Q r ∧ ∃ n0, ∀ N n, n0 ≤ N → n0 ≤ n → f N n = some r
theorem E2.c {α : Type} {r : α} {Q : α → Prop} (h : Q r) : E2 (fun _ _ => some r) Q := ⟨r, h, 0, fun _ _ _ _ => rfl⟩
theorem E2.b {α β : Type} {f : Nat → Option α} {g : Nat → Nat → α → Option β} {P : α → Prop} {Q : β → Prop} (h : Ev f P) (k : ∀ q, P q → E2 (fun N n => g N n q) Q) : E2 (fun N n => Option.bind (f n) (g N n)) Q := by
  obtain ⟨q, hq, n1, h⟩ := h
  obtain ⟨r, hr, n2, k⟩ := k q hq
  refine ⟨r, hr, n1 + n2, fun N n h1 h2 => ?_⟩
  show Option.bind (f n) (g N n) = some r
  rw [h n (by omega)]
  exact k N n (by omega) (by omega)
theorem E2.r {α β : Type} {f : Nat → Option α} {g : Nat → Nat → α → Option β} {P : α → Prop} {Q : β → Prop} (h : Ev f P) (k : ∀ q, P q → E2 (fun N n => g N n q) Q) : E2 (fun N n => Option.bind (f N) (g N n)) Q := by
  obtain ⟨q, hq, n1, h⟩ := h
  obtain ⟨r, hr, n2, k⟩ := k q hq
  refine ⟨r, hr, n1 + n2, fun N n h1 h2 => ?_⟩
  show Option.bind (f N) (g N n) = some r
  rw [h N (by omega)]
  exact k N n (by omega) (by omega)
theorem E2.i {α : Type} {c : Prop} [Decidable c] {f g : Nat → Nat → Option α} {Q : α → Prop} (h1 : c → E2 f Q) (h2 : ¬ c → E2 g Q) : E2 (fun N n => if c then f N n else g N n) Q := by
  by_cases hc : c
  · obtain ⟨r, hr, n1, k⟩ := h1 hc
    exact ⟨r, hr, n1, fun N n a b => by show (if c then f N n else g N n) = _; rw [if_pos hc]; exact k N n a b⟩
  · obtain ⟨r, hr, n1, k⟩ := h2 hc
    exact ⟨r, hr, n1, fun N n a b => by show (if c then f N n else g N n) = _; rw [if_neg hc]; exact k N n a b⟩
theorem E2.s {α : Type} {f g : Nat → Nat → Option α} {Q : α → Prop} (he : ∀ N n, f N (n + 1) = g N n) (h : E2 g Q) : E2 f Q := by
  obtain ⟨r, hr, n1, h1⟩ := h
  refine ⟨r, hr, n1 + 1, fun N n a b => ?_⟩
  obtain ⟨m, rfl⟩ : ∃ m, n = m + 1 := ⟨n - 1, by omega⟩
  rw [he]
  exact h1 N m (by omega) (by omega)
theorem E2.ev {α : Type} {f : Nat → Nat → Option α} {Q : α → Prop} (h : E2 f Q) : Ev (fun n => f n n) Q := by
  obtain ⟨r, hr, n1, h1⟩ := h
  exact ⟨r, hr, n1, fun n a => h1 n n a a⟩
/-! what was found -/
def FdA (μ : Mem) (p : Pic) (lo : Nat) : Prop := (cntA p lo ≤ 64 ∧ mI μ 34 6 = nI (cntA p lo) ∧ ∀ b, b < lo → isAns p b → mI μ 55 (cntA p b) = nI b) ∨ (64 < cntA p lo ∧ mI μ 34 6 = nI 65)
def CP (d : Nat) : Nat → Nat → Prop := fun a j => (43 + d < a ∧ a ≤ 47) ∨ (a = 34 ∧ j = 6) ∨ a = 55
theorem CP.sc {d a j : Nat} (h : CP d a j) : Sc a j := by unfold CP at h; unfold Sc; omega
theorem FdA.fr {P : Nat → Nat → Prop} {μ μ' : Mem} {p : Pic} {lo : Nat} (h : FdA μ p lo) (k : Fr P μ μ') (hp : ∀ a j, P a j → ¬ (a = 34 ∧ j = 6) ∧ a ≠ 55) : FdA μ' p lo := by
  unfold FdA
  rw [k.2.2.2.1 34 6 (fun z => (hp _ _ z).1 ⟨rfl, rfl⟩)]
  rcases h with ⟨h1, h2, h3⟩ | h
  · exact Or.inl ⟨h1, h2, fun b hb hi => by rw [k.2.2.2.1 55 _ (fun z => (hp _ _ z).2 rfl)]; exact h3 b hb hi⟩
  · exact Or.inr h
theorem FdA.up {μ : Mem} {p : Pic} {lo hi : Nat} (h : FdA μ p lo) (hl : lo ≤ hi) (hn : ∀ b, lo ≤ b → b < hi → ¬ isAns p b) : FdA μ p hi := by
  unfold FdA
  rw [cntA_cut hl hn]
  rcases h with ⟨h1, h2, h3⟩ | h
  · refine Or.inl ⟨h1, h2, fun b hb hi => ?_⟩
    rcases Nat.lt_or_ge b lo with z | z
    · exact h3 b z hi
    · exact absurd hi (hn b z hb)
  · exact Or.inr h
theorem v_store {μ : Mem} {p : Pic} {a : Nat} (hS : Sh μ) (hF : FdA μ p a) (hc : cntA p a ≤ 64) (ha : isAns p a) : Ev (fun n => C_JO_storeAnswer n 34 (nI a) μ) (fun μ' => Fr (fun a j => (a = 34 ∧ j = 6) ∨ a = 55) μ μ' ∧ FdA μ' p (a + 1)) := by
  have hF : mI μ 34 6 = nI (cntA p a) ∧ ∀ b, b < a → isAns p b → mI μ 55 (cntA p b) = nI b := by
    rcases hF with h | h
    · exact h.2
    · exact absurd h.1 (by omega)
  obtain ⟨h1, h2⟩ := hF
  have hs : cntA p (a + 1) = cntA p a + 1 := by rw [cntA_s, ind_t ha]
  generalize hG : (fun μ' => Fr (fun a j => (a = 34 ∧ j = 6) ∨ a = 55) μ μ' ∧ FdA μ' p (a + 1)) = G
  unfold C_JO_storeAnswer
  refine E_JO_storeAnswer_0 ?_
  simp only [B_JO_storeAnswer_0, hS.k (k := 34) (c := 4) (by decide), h1, if_true]
  rcases Nat.lt_or_ge (cntA p a) 64 with z | z
  · simp only [show ¬ ((64 : Int32) ≤ nI (cntA p a)) from nI_ge (b := 64) z (by decide), if_false, hS.r (k := 34) (j := 5) (v := 55) (by decide), hS.k (k := 55) (c := 100) (by decide), hS.z (show 55 < 71 by decide), show (kz 55).2 = 64 by decide, ib_i z (show 64 < 2 ^ 31 by decide), nI_clamp (show cntA p a < 2 ^ 31 by omega), if_true, Option.bind_some]
    refine E_JO_storeAnswer_1 ?_
    simp only [B_JO_storeAnswer_1, ok_sI, hS.k (k := 34) (c := 4) (by decide), if_true, Option.bind_some]
    rw [rd (Or.inl (by decide)), h1, nI_1]
    refine Ev.c ?_
    rw [← hG]
    refine ⟨(Fr.rf.i (Or.inr rfl)).i (Or.inl ⟨rfl, rfl⟩), Or.inl ⟨by omega, ?_, fun b hb hi => ?_⟩⟩
    · rw [mI_ss, hs]
    · rw [rd (Or.inl (by decide)), mI_g]
      rcases Nat.lt_or_ge b a with y | y
      · have h3 := cntA_mono (p := p) (show b + 1 ≤ a by omega)
        rw [cntA_s, ind_t hi] at h3
        rw [if_neg (by omega)]
        exact h2 b y hi
      · have : b = a := by omega
        subst this
        rw [if_pos ⟨rfl, rfl⟩]
  · have hc64 : cntA p a = 64 := by omega
    rw [hc64] at h1 hs
    simp only [hc64, show (64 : Int32) ≤ nI 64 by decide, if_true]
    refine E_JO_storeAnswer_1 ?_
    simp only [B_JO_storeAnswer_1, hS.k (k := 34) (c := 4) (by decide), if_true, Option.bind_some, h1, nI_1]
    refine Ev.c ?_
    rw [← hG]
    exact ⟨Fr.rf.i (Or.inl ⟨rfl, rfl⟩), Or.inr ⟨by omega, mI_ss⟩⟩
theorem sh_or {a v : Nat} (ha : a < 65536) (hv : v < 16) : (nI a <<< (4 &&& 31)) ||| nI v = nI (16 * a + v) := by
  have h1 : nI a <<< ((4 : Int32) &&& 31) = nI (a * 2 ^ 4) := pk_shlN _ 4 (by decide) (by omega)
  rw [h1]
  apply Int32.toBitVec_inj.mp
  rw [Int32.toBitVec_or]
  show BitVec.ofNat 32 (a * 2 ^ 4) ||| BitVec.ofNat 32 v = BitVec.ofNat 32 (16 * a + v)
  rw [← BitVec.ofNat_or, Nat.mul_comm a, ← Nat.two_pow_add_eq_or_of_lt (i := 4) hv]
theorem v_choose {p : Pic} (hW : WF p) (ht : tree p) (hb : bound p) : ∀ (m D d a : Nat) (μ : Mem), d + m = pH p → m ≤ D → a < 16 ^ d → Inv μ p → AGr μ p → KS μ (43 + d) p (LvS p (Sv p d a)) → Pf p d a → cntA p (a * 16 ^ m) ≤ 64 → FdA μ p (a * 16 ^ m) → Ev (fun n => C_JO_choose (D + 1) n 34 (nI d) (nI a) μ) (fun μ' => Fr (CP d) μ μ' ∧ FdA μ' p ((a + 1) * 16 ^ m)) := by
  have hH : pH p ≤ 4 := hW.2.2.2.2.2.1
  have hD8 := hW.2.2.2.2.2.2.1
  intro m
  induction m with
  | zero =>
    intro D d a μ hd hm ha hi hA hK hP hc hF
    rw [Nat.pow_zero, Nat.mul_one] at hc hF ⊢
    have hd : d = pH p := by omega
    subst hd
    refine E2.ev (f := fun N n => F_JO_choose (fun w0 w1 w2 ν => C_JO_choose D N w0 w1 w2 ν) n 0 34 (nI (pH p)) (nI a) 0 0 0 μ) ?_
    refine E2.s (g := fun N n => B_JO_choose_0 (fun w0 w1 w2 ν => C_JO_choose D N w0 w1 w2 ν) n (F_JO_choose (fun w0 w1 w2 ν => C_JO_choose D N w0 w1 w2 ν) n) 34 (nI (pH p)) (nI a) 0 0 0 μ) (fun _ _ => rfl) ?_
    simp only [B_JO_choose_0, hi.1.k (k := 34) (c := 4) (by decide), hi.1.r (k := 34) (j := 0) (v := 15) (by decide), hi.1.k (k := 15) (c := 2) (by decide), hi.2.2.2.2.1.1, nI_nlt (Nat.le_refl (pH p)) (show pH p < 2 ^ 31 by omega), if_true, if_false]
    refine E2.b (v_store hi.1 hF hc ((Pf_ans hb).mpr ⟨ha, hP⟩)) (fun ν hν => ?_)
    exact E2.c ⟨hν.1.mo (fun a j z => Or.inr z), hν.2⟩
  | succ m ih =>
    intro D d a μ hd hm ha hi hA hK hP hc hF
    obtain ⟨D, rfl⟩ : ∃ D', D = D' + 1 := ⟨D - 1, by omega⟩
    have hdh : d < pH p := by omega
    have hx8 := hD8 d hdh
    have hpos : 0 < 16 ^ m := Nat.pow_pos (by decide)
    have hpw : 16 ^ (m + 1) = 16 * 16 ^ m := by rw [Nat.pow_succ, Nat.mul_comm]
    have ha4 : a < 65536 := by
      have : 16 ^ d ≤ 16 ^ 4 := Nat.pow_le_pow_right (by decide) (by omega)
      omega
    have lo0 : a * 16 ^ (m + 1) = (16 * a + 0) * 16 ^ m := by rw [hpw, ← Nat.mul_assoc, Nat.mul_comm a 16, Nat.add_zero]
    have hi0 : (a + 1) * 16 ^ (m + 1) = (16 * a + 16) * 16 ^ m := by rw [hpw, ← Nat.mul_assoc]; congr 1; omega
    generalize hG : (fun μ' => Fr (CP d) μ μ' ∧ FdA μ' p ((a + 1) * 16 ^ (m + 1))) = G
    refine E2.ev (f := fun N n => F_JO_choose (fun w0 w1 w2 ν => C_JO_choose (D + 1) N w0 w1 w2 ν) n 0 34 (nI d) (nI a) 0 0 0 μ) ?_
    refine E2.s (g := fun N n => B_JO_choose_0 (fun w0 w1 w2 ν => C_JO_choose (D + 1) N w0 w1 w2 ν) n (F_JO_choose (fun w0 w1 w2 ν => C_JO_choose (D + 1) N w0 w1 w2 ν) n) 34 (nI d) (nI a) 0 0 0 μ) (fun _ _ => rfl) ?_
    simp only [B_JO_choose_0, hi.1.k (k := 34) (c := 4) (by decide), hi.1.r (k := 34) (j := 0) (v := 15) (by decide), hi.1.k (k := 15) (c := 2) (by decide), hi.2.2.2.2.1.1, nI_lt hdh (show pH p < 2 ^ 31 by omega), if_true, hi.1.r (k := 15) (j := 2) (v := 17) (by decide), hi.1.k (k := 17) (c := 100) (by decide), hi.1.z (show 17 < 71 by decide), show (kz 17).2 = 4 by decide, ib_i (show d < 4 by omega) (show 4 < 2 ^ 31 by decide), nI_clamp (show d < 2 ^ 31 by omega), hi.2.2.2.2.1.2.1 d hdh, Option.bind_some, hi.1.r (k := 34) (j := 3) (v := 42) (by decide), hi.1.k (k := 42) (c := 104) (by decide), hi.1.z (show 42 < 71 by decide), show (kz 42).2 = 5 by decide, ib_i (show d < 5 by omega) (show 5 < 2 ^ 31 by decide), hi.1.rK (show d < 5 by omega), hi.1.oK (show d < 5 by omega)]
    refine E2.b (v_liveVals hi (show d < 5 by omega) hK hx8 (hb d hdh)) (fun q hq => ?_)
    obtain ⟨vs, q2⟩ := q
    obtain ⟨rfl, e, he, hxe, hvs⟩ := hq
    have hvs : ∀ v, v < 16 → (bt vs v = true ↔ Pf p (d + 1) (16 * a + v)) := fun v hv => (hvs v (by omega)).trans (val_next hv he hxe)
    have loop : ∀ (t v : Nat) (ν : Mem), v + t = 16 → Fr (CP d) q2 ν → FdA ν p ((16 * a + v) * 16 ^ m) → E2 (fun N n => F_JO_choose (fun w0 w1 w2 ν => C_JO_choose (D + 1) N w0 w1 w2 ν) n 1 34 (nI d) (nI a) (nI (pD p d)) vs (nI v) ν) G := by
      intro t
      induction t with
      | zero =>
        intro v ν hv hFr hFd
        have : v = 16 := by omega
        subst this
        refine E2.s (g := fun N n => B_JO_choose_1 (fun w0 w1 w2 ν => C_JO_choose (D + 1) N w0 w1 w2 ν) n (F_JO_choose (fun w0 w1 w2 ν => C_JO_choose (D + 1) N w0 w1 w2 ν) n) 34 (nI d) (nI a) (nI (pD p d)) vs (nI 16) ν) (fun _ _ => rfl) ?_
        simp only [B_JO_choose_1, show (16 : Int32) ≤ nI 16 by decide, if_true]
        refine E2.c ?_
        rw [← hG]
        refine ⟨hFr, ?_⟩
        rw [hi0]
        exact hFd
      | succ t ih2 =>
        intro v ν hv hFr hFd
        have hv16 : v < 16 := by omega
        have hj := hi.fr (hFr.mo (fun a j z => CP.sc z))
        have hle : (16 * a + v) * 16 ^ m ≤ (16 * a + v + 1) * 16 ^ m := Nat.mul_le_mul_right _ (by omega)
        have next : ∀ ν', Fr (CP d) q2 ν' → FdA ν' p ((16 * a + v + 1) * 16 ^ m) → E2 (fun N n => F_JO_choose (fun w0 w1 w2 ν => C_JO_choose (D + 1) N w0 w1 w2 ν) n 2 34 (nI d) (nI a) (nI (pD p d)) vs (nI v) ν') G := by
          intro ν' h1 h2
          refine E2.s (g := fun N n => B_JO_choose_2 (fun w0 w1 w2 ν => C_JO_choose (D + 1) N w0 w1 w2 ν) n (F_JO_choose (fun w0 w1 w2 ν => C_JO_choose (D + 1) N w0 w1 w2 ν) n) 34 (nI d) (nI a) (nI (pD p d)) vs (nI v) ν') (fun _ _ => rfl) ?_
          simp only [B_JO_choose_2, Option.bind_some, nI_1]
          exact ih2 (v + 1) ν' (by omega) h1 h2
        refine E2.s (g := fun N n => B_JO_choose_1 (fun w0 w1 w2 ν => C_JO_choose (D + 1) N w0 w1 w2 ν) n (F_JO_choose (fun w0 w1 w2 ν => C_JO_choose (D + 1) N w0 w1 w2 ν) n) 34 (nI d) (nI a) (nI (pD p d)) vs (nI v) ν) (fun _ _ => rfl) ?_
        simp only [B_JO_choose_1, show ¬ ((16 : Int32) ≤ nI v) from nI_ge (b := 16) hv16 (by decide), if_false, hj.1.k (k := 34) (c := 4) (by decide), if_true]
        rcases Nat.lt_or_ge 64 (cntA p ((16 * a + v) * 16 ^ m)) with z | z
        · have h65 : mI ν 34 6 = nI 65 := by
            rcases hFd with y | y
            · exact absurd y.1 (by omega)
            · exact y.2
          simp only [h65, show (64 : Int32) < nI 65 by decide, if_true]
          refine E2.c ?_
          rw [← hG]
          refine ⟨hFr, Or.inr ⟨?_, h65⟩⟩
          have := cntA_mono (p := p) (show (16 * a + v) * 16 ^ m ≤ (a + 1) * 16 ^ (m + 1) by rw [hi0]; exact Nat.mul_le_mul_right _ (by omega))
          omega
        · have hfo : mI ν 34 6 = nI (cntA p ((16 * a + v) * 16 ^ m)) := by
            rcases hFd with y | y
            · exact y.2.1
            · exact absurd y.1 (by omega)
          simp only [hfo, show ¬ ((64 : Int32) < nI (cntA p ((16 * a + v) * 16 ^ m))) from nI_nlt (a := 64) z (by decide), if_false, v_isIn (show v < 32 by omega), Option.bind_some]
          by_cases hbv : bt vs v = true
          · have hPv := (hvs v hv16).mp hbv
            rw [if_pos hbv]
            simp only [show ¬ ((1 : Int32) = 0) by decide, if_false, hj.1.k (k := 34) (c := 4) (by decide), if_true]
            have hKν : KS ν (43 + d) p (LvS p (Sv p d a)) := fun e he k hk => by rw [hFr.2.2.2.1 (43 + d) e (by unfold CP; omega)]; exact hK e he k hk
            have hAν : AGr ν p := hA.fr hFr (fun a j y => by unfold CP at y; omega) (fun y hy => by have := ears_in hW.1 ht hy; have := hW.1.2.2.1; omega)
            refine E2.b (v_keepWith hj ht hAν (show d < 4 by omega) hKν hx8 hv16) (fun ν1 hν1 => ?_)
            obtain ⟨g1, g2⟩ := hν1
            have hk := KP.inv hj (show d + 1 < 5 by omega) g1
            simp only [hk.1.k (k := 34) (c := 4) (by decide), if_true, nI_1, sh_or ha4 hv16]
            have ha1 : 16 * a + v < 16 ^ (d + 1) := by
              rw [Nat.pow_succ]
              omega
            refine E2.r (ih D (d + 1) (16 * a + v) ν1 (by omega) (by omega) ha1 hk (hAν.to hW.1 ht g1) g2 hPv z (hFd.fr g1 (fun a j y => by unfold KP at y; omega))) (fun ν2 hν2 => ?_)
            exact next ν2 (hFr.tr ((g1.mo (fun a j y => by unfold KP at y; unfold CP; omega)).tr (hν2.1.mo (fun a j y => by unfold CP at y ⊢; omega)))) hν2.2
          · rw [if_neg hbv]
            simp only [if_true]
            exact next ν hFr (hFd.up hle (fun b h1 h2 => no_ans hb (show d + 1 + m = pH p by omega) (fun y => hbv ((hvs v hv16).mpr y)) h1 h2))
    exact loop 16 0 q2 (by omega) Fr.rf (by rw [← lo0]; exact hF)
theorem cntA_end {p : Pic} (hH : pH p ≤ 4) : 16 ^ pH p ≤ 65536 ∧ ∀ b, 16 ^ pH p ≤ b → b < 65536 → ¬ isAns p b := by
  refine ⟨?_, fun b h1 _ h3 => ?_⟩
  · exact Nat.pow_le_pow_right (n := 16) (by decide) hH
  · obtain ⟨w, -, h4, -⟩ := h3
    omega
theorem v_search {μ : Mem} {p : Pic} (h : Inv μ p) (ht : tree p) (hb : bound p) : Ev (fun n => C_JO_search n 34 μ) (fun μ' => Inv μ' p ∧ FdA μ' p 65536) := by
  have hW := h.2.1
  have hH : pH p ≤ 4 := hW.2.2.2.2.2.1
  have t0 : Int32.toNatClampNeg 0 = 0 := by decide
  obtain ⟨c1, c2⟩ := cntA_end hH
  generalize hG : (fun μ' => Inv μ' p ∧ FdA μ' p 65536) = G
  simp only [C_JO_search, h.1.k (k := 34) (c := 4) (by decide), if_true, Option.bind_some]
  have h0 : Inv (sI μ 34 6 0) p := h.sc (Or.inl (by decide))
  have hz : mI (sI μ 34 6 0) 34 6 = 0 := mI_ss
  generalize sI μ 34 6 0 = μ0 at h0 hz
  refine Ev.b (v_compare h0 ht) (fun ν hν => ?_)
  obtain ⟨f1, f2, f3⟩ := hν
  have hi := JP.inv h0 f1
  have hz1 : mI ν 34 6 = 0 := (f1.2.2.2.1 34 6 (by unfold JP; omega)).trans hz
  simp only [hi.1.k (k := 34) (c := 4) (by decide), hi.1.r (k := 34) (j := 3) (v := 42) (by decide), hi.1.k (k := 42) (c := 104) (by decide), hi.1.z (show 42 < 71 by decide), show (kz 42).2 = 5 by decide, show ib 0 5 = true by decide, t0, hi.1.r (k := 42) (j := 0) (v := 43) (by decide), hi.1.k (k := 43) (c := 100) (by decide), if_true]
  refine Ev.b (v_live (g := 0) hi ht f3 (by decide) f2 (fun e k z => z)) (fun ν' hν => ?_)
  obtain ⟨g1, g2⟩ := hν
  have hj := KP.inv hi (by decide) g1
  have hz2 : mI ν' 34 6 = 0 := (g1.2.2.2.1 34 6 (by unfold KP; omega)).trans hz1
  simp only [hj.1.k (k := 34) (c := 4) (by decide), hj.1.r (k := 34) (j := 3) (v := 42) (by decide), hj.1.k (k := 42) (c := 104) (by decide), hj.1.z (show 42 < 71 by decide), show (kz 42).2 = 5 by decide, show ib 0 5 = true by decide, t0, hj.1.r (k := 42) (j := 0) (v := 43) (by decide), hj.1.k (k := 43) (c := 100) (by decide), if_true]
  refine Ev.b (v_hasWay hj ht g2) (fun q hq => ?_)
  obtain ⟨q1, q2⟩ := q
  obtain ⟨rfl, hq⟩ := hq
  have hF0 : FdA q2 p 0 := Or.inl ⟨Nat.zero_le _, hz2, fun b hb => absurd hb (Nat.not_lt_zero _)⟩
  rcases hq with ⟨hq, hn⟩ | ⟨hq, hn⟩
  · simp only [show q1 = 0 from hq, if_true]
    refine Ev.c ?_
    rw [← hG]
    refine ⟨hj, hF0.up (Nat.zero_le _) (fun b _ _ z => hn ?_)⟩
    obtain ⟨w, hw, -⟩ := z
    exact ⟨w, hw⟩
  · simp only [show q1 = 1 from hq, show ¬ ((1 : Int32) = 0) by decide, if_false, hj.1.k (k := 34) (c := 4) (by decide), if_true]
    obtain ⟨w, hw⟩ := hn
    have hK0 : KS q2 (43 + 0) p (LvS p (Sv p 0 0)) := fun e he k hk => (g2 e he k hk).trans ⟨fun ⟨w, h1, h2⟩ => ⟨w, ⟨fun q hq => Sv_S0.mpr (h1.1 q hq), h1.2⟩, h2⟩, fun ⟨w, h1, h2⟩ => ⟨w, ⟨fun q hq => Sv_S0.mp (h1.1 q hq), h1.2⟩, h2⟩⟩
    have hP0 : Pf p 0 0 := ⟨w, ⟨fun q hq => Sv_S0.mpr ((isWay_S0.mp hw).1 q hq), hw.2⟩⟩
    have hch := v_choose hW ht hb (pH p) 5 0 0 q2 (by omega) (by omega) (by decide) hj (f3.to hW.1 ht g1) hK0 hP0 (by rw [Nat.zero_mul]; exact Nat.zero_le _) (by rw [Nat.zero_mul]; exact hF0)
    refine Ev.b (f := fun n => C_JO_choose 6 n 34 0 0 q2) hch (fun ν2 hν2 => ?_)
    refine Ev.c ?_
    rw [← hG]
    have hF2 := hν2.2
    rw [Nat.zero_add, Nat.one_mul] at hF2
    exact ⟨hj.fr (hν2.1.mo (fun a j z => CP.sc z)), hF2.up c1 c2⟩
