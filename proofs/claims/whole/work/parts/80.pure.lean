/-! All cases, all calls -/
theorem t_all {μ : Mem} {i L : Nat} {xs : Nat → Int32} (hL : L ≤ 2560) (hi : i + 5 ≤ L) (h : Gd μ) : Ev (fun n => Tsw n 1 56 70 (nI i) L xs μ) Gd := by
  obtain ⟨p, h⟩ := h
  have hb : ∀ k, k < 5 → ib (nI (i + k)) L = true := fun k hk => ib_i (by omega) (by omega)
  have hI : Ix (nI i) L := ⟨by rw [show nI i + 1 = nI (i + 1) from nI_add i 1]; exact hb 1 (by decide), by rw [show nI i + 2 = nI (i + 2) from nI_add i 2]; exact hb 2 (by decide), by rw [show nI i + 3 = nI (i + 3) from nI_add i 3]; exact hb 3 (by decide), by rw [show nI i + 4 = nI (i + 4) from nI_add i 4]; exact hb 4 (by decide)⟩
  have h0 : ib (nI i) L = true := hb 0 (by decide)
  simp only [Tsw, h0, if_true, Tv]
  refine Ev.i (fun _ => t_0 h hI) (fun _ => ?_)
  refine Ev.i (fun _ => t_1 h hI) (fun _ => ?_)
  refine Ev.i (fun _ => t_2 h hI) (fun _ => ?_)
  refine Ev.i (fun _ => t_3 h hI) (fun _ => ?_)
  refine Ev.i (fun _ => t_4 h hI) (fun _ => ?_)
  refine Ev.i (fun _ => t_5 h hI) (fun _ => ?_)
  refine Ev.i (fun _ => t_6 h) (fun _ => ?_)
  refine Ev.i (fun _ => t_7 h) (fun _ => ?_)
  refine Ev.i (fun _ => t_8 h hI) (fun _ => ?_)
  refine Ev.i (fun _ => t_9 h hI) (fun _ => ?_)
  refine Ev.i (fun _ => t_10 h) (fun _ => ?_)
  refine Ev.i (fun _ => t_11 h hI) (fun _ => ?_)
  refine Ev.i (fun _ => t_12 h) (fun _ => ?_)
  refine Ev.i (fun _ => t_13 h hI) (fun _ => ?_)
  exact Ev.c ⟨p, h⟩
theorem lp_all {L : Nat} {xs : Nat → Int32} (hL : L ≤ 2560) : ∀ (t i : Nat) (μ : Mem), i + 5 * t ≤ L → Gd μ → Ev (fun n => Lp n 1 56 70 L xs t i μ) (fun _ => True)
  | 0, _, _, _, _ => Ev.c trivial
  | t + 1, i, μ, hi, h => by
    show Ev (fun n => Option.bind (Tsw n 1 56 70 (nI i) L xs μ) (fun μ1 => Lp n 1 56 70 L xs t (i + 5) μ1)) _
    exact Ev.b (t_all hL (by omega) h) (fun μ1 h1 => lp_all hL t (i + 5) μ1 (by omega) h1)
theorem pure_ok : Pure_ok := by
  intro L xs hL
  obtain ⟨μ, hP, hI⟩ := inv0
  obtain ⟨res, -, n0, hr⟩ := lp_all (xs := xs) hL (L / 5) 0 μ (by omega) ⟨p0, hI⟩
  exact ⟨n0, 1, 56, 70, μ, res, hP n0, hr n0 (Nat.le_refl _)⟩
