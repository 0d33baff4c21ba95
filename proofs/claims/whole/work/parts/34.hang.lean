/-! How atoms hang: the pure value, and the class's -/
/-- the first place from i on, d of them, where P holds -/
def fd (P : Nat → Bool) : Nat → Nat → Option Nat
  | 0, _ => none
  | d + 1, i => if P i = true then some i else fd P d (i + 1)
def enc : Option Nat → Int32
  | none => -1
  | some h => nI h
theorem fd_some {P : Nat → Bool} : ∀ {d i k : Nat}, fd P d i = some k → i ≤ k ∧ k < i + d ∧ P k = true ∧ ∀ j, i ≤ j → j < k → P j = false
  | 0, _, _, h => by cases h
  | d + 1, i, k, h => by
    unfold fd at h
    by_cases hP : P i = true
    · rw [if_pos hP] at h
      cases h
      exact ⟨Nat.le_refl _, by omega, hP, fun j h1 h2 => by omega⟩
    · rw [if_neg hP] at h
      obtain ⟨h1, h2, h3, h4⟩ := fd_some h
      refine ⟨by omega, by omega, h3, fun j a1 a2 => ?_⟩
      by_cases hj : j = i
      · subst hj
        simpa using hP
      · exact h4 j (by omega) a2
theorem fd_none {P : Nat → Bool} : ∀ {d i : Nat}, fd P d i = none ↔ ∀ j, i ≤ j → j < i + d → P j = false
  | 0, i => ⟨fun _ j h1 h2 => by omega, fun _ => rfl⟩
  | d + 1, i => by
    unfold fd
    by_cases hP : P i = true
    · rw [if_pos hP]
      exact ⟨(fun h => by cases h), (fun h => by rw [h i (Nat.le_refl _) (by omega)] at hP; cases hP)⟩
    · rw [if_neg hP, fd_none]
      refine ⟨fun h j h1 h2 => ?_, fun h j h1 h2 => h j (by omega) (by omega)⟩
      by_cases hj : j = i
      · subst hj
        simpa using hP
      · exact h j (by omega) (by omega)
theorem fd_is {P : Nat → Bool} {d i k : Nat} (h1 : i ≤ k) (h2 : k < i + d) (h3 : P k = true) (h4 : ∀ j, i ≤ j → j < k → P j = false) : fd P d i = some k := by
  cases h : fd P d i with
  | none => rw [fd_none.mp h k h1 h2] at h3; cases h3
  | some q =>
    obtain ⟨a1, a2, a3, a4⟩ := fd_some h
    rcases Nat.lt_trichotomy q k with z | z | z
    · rw [h4 q a1 z] at a3; cases a3
    · rw [z]
    · rw [a4 k h1 z] at h3; cases h3
theorem enc_m1 {o : Option Nat} (h : ∀ k, o = some k → k < 2 ^ 31) : enc o = -1 ↔ o = none := by
  cases o with
  | none => exact ⟨fun _ => rfl, fun _ => rfl⟩
  | some k =>
    refine ⟨fun z => ?_, fun z => by cases z⟩
    have h1 := nI_pos (h k rfl)
    have h2 : nI k = -1 := z
    rw [h2] at h1
    exact absurd (by decide) h1
def orS (vs : Nat → Int32) (set : Int32) : Nat → Int32
  | 0 => 0
  | n + 1 => if bt set n = true then orS vs set n ||| vs n else orS vs set n
def rest (left : Int32) (e : Nat) : Int32 := left &&& ((1 <<< (nI e &&& 31)) ^^^ (-1))
def hp (nA : Nat) (vs : Nat → Int32) (left : Int32) (e h : Nat) : Bool := bt (rest left e) h && decide (((vs e &&& orS vs (rest left e) nA) &&& (vs h ^^^ (-1))) = 0)
def hold (nA : Nat) (vs : Nat → Int32) (left : Int32) (e : Nat) : Option Nat := if bt left e = true then fd (hp nA vs left e) nA 0 else none
def ear (nA : Nat) (vs : Nat → Int32) (left : Int32) : Option Nat := fd (fun e => (hold nA vs left e).isSome) nA 0
/-- left, how many hang, parents, turns, order -/
abbrev HS : Type := Int32 × Nat × (Nat → Int32) × (Nat → Int32) × (Nat → Int32)
def hstep (nA : Nat) (vs : Nat → Int32) (s : HS) : HS := match ear nA vs s.1 with
  | none => s
  | some e => (rest s.1 e, s.2.1 + 1, upd s.2.2.1 e (enc (hold nA vs s.1 e)), upd s.2.2.2.1 e (nI s.2.1), upd s.2.2.2.2 s.2.1 (nI e))
def hangR (nA : Nat) (vs : Nat → Int32) : Nat → HS
  | 0 => ((1 <<< (nI nA &&& 31)) - 1, 0, fun _ => -1, fun _ => -1, fun _ => 0)
  | i + 1 => hstep nA vs (hangR nA vs i)
def HC (μ : Mem) (s : HS) : Prop := mI μ 30 5 = s.1 ∧ mI μ 30 4 = nI s.2.1 ∧ (∀ j, j < 6 → mI μ 31 j = s.2.2.1 j) ∧ (∀ j, j < 6 → mI μ 32 j = s.2.2.2.1 j) ∧ ∀ j, j < s.2.1 → mI μ 33 j = s.2.2.2.2 j
def QC (μ : Mem) (nA : Nat) (vs : Nat → Int32) : Prop := mI μ 15 1 = nI nA ∧ nA ≤ 6 ∧ ∀ e, e < nA → mI μ (18 + 2 * e) 1 = vs e
def HP : Nat → Nat → Prop := fun k j => k = 31 ∨ k = 32 ∨ k = 33 ∨ (k = 30 ∧ (j = 4 ∨ j = 5))
theorem QC.fr {μ μ' : Mem} {nA : Nat} {vs : Nat → Int32} (h : QC μ nA vs) (k : Fr HP μ μ') : QC μ' nA vs := by
  obtain ⟨h1, h2, h3⟩ := h
  refine ⟨(k.2.2.2.1 15 1 (by unfold HP; omega)).trans h1, h2, fun e he => ?_⟩
  exact (k.2.2.2.1 (18 + 2 * e) 1 (by unfold HP; omega)).trans (h3 e he)
theorem hangR_cnt {nA : Nat} {vs : Nat → Int32} : ∀ i, (hangR nA vs i).2.1 ≤ i
  | 0 => Nat.le_refl _
  | i + 1 => by
    have := hangR_cnt (nA := nA) (vs := vs) i
    show (hstep nA vs (hangR nA vs i)).2.1 ≤ i + 1
    unfold hstep
    split
    · omega
    · show _ + 1 ≤ _
      omega
section HG
variable {μ : Mem} {nA : Nat} {vs : Nat → Int32}
theorem v_varsOf (hS : Sh μ) (hQ : QC μ nA vs) (set : Int32) : EvO (fun n => C_HA_variablesOf n 30 set μ) (some (orS vs set nA, μ)) := by
  obtain ⟨h1, h2, h3⟩ := hQ
  have loop : ∀ (d i : Nat), i + d = nA → Ev (fun n => F_HA_variablesOf n 1 30 set (orS vs set i) (nI i) μ) (fun q => q = (orS vs set nA, μ)) := by
    intro d
    induction d with
    | zero =>
      intro i hi
      have : i = nA := by omega
      subst this
      refine E_HA_variablesOf_1 ?_
      simp only [B_HA_variablesOf_1, hS.k (k := 30) (c := 3) (by decide), hS.r (k := 30) (j := 0) (v := 15) (by decide), hS.k (k := 15) (c := 2) (by decide), h1, nI_le (Nat.le_refl i) (show i < 2 ^ 31 by omega), if_true]
      exact Ev.c rfl
    | succ d ih =>
      intro i hi
      have hlt : i < nA := by omega
      refine E_HA_variablesOf_1 ?_
      simp only [B_HA_variablesOf_1, hS.k (k := 30) (c := 3) (by decide), hS.r (k := 30) (j := 0) (v := 15) (by decide), hS.k (k := 15) (c := 2) (by decide), h1, nI_ge hlt (show nA < 2 ^ 31 by omega), if_true, if_false, v_isIn (show i < 32 by omega), Option.bind_some, hS.r (k := 15) (j := 0) (v := 16) (by decide), hS.k (k := 16) (c := 103) (by decide), hS.z (show 16 < 71 by decide), show (kz 16).2 = 6 by decide, ib_i (show i < 6 by omega) (show 6 < 2 ^ 31 by decide), nI_clamp (show i < 2 ^ 31 by omega), hS.rA (show i < 6 by omega), hS.oA (show i < 6 by omega), h3 i hlt]
      have hn := ih (i + 1) (by omega)
      by_cases hb : bt set i = true
      · simp only [hb, if_true, show ¬ ((1 : Int32) = 0) by decide, if_false]
        refine E_HA_variablesOf_2 ?_
        simp only [B_HA_variablesOf_2, Option.bind_some, nI_1]
        simp only [orS, hb, if_true] at hn
        exact hn
      · simp only [hb, if_true, if_false, Bool.false_eq_true]
        refine E_HA_variablesOf_2 ?_
        simp only [B_HA_variablesOf_2, Option.bind_some, nI_1]
        simp only [orS, hb, if_false, Bool.false_eq_true] at hn
        exact hn
  refine Ev.eq ?_
  unfold C_HA_variablesOf
  refine E_HA_variablesOf_0 ?_
  simp only [B_HA_variablesOf_0]
  exact loop nA 0 (by omega)
theorem v_holder (hS : Sh μ) (hQ : QC μ nA vs) {e : Nat} (he : e < nA) : EvO (fun n => C_HA_leastHolderOf n 30 (nI e) μ) (some (enc (hold nA vs (mI μ 30 5) e), μ)) := by
  have hQ' := hQ
  obtain ⟨h1, h2, h3⟩ := hQ
  refine Ev.eq ?_
  unfold C_HA_leastHolderOf
  refine E_HA_leastHolderOf_0 ?_
  simp only [B_HA_leastHolderOf_0, hS.k (k := 30) (c := 3) (by decide), v_isIn (show e < 32 by omega), Option.bind_some, if_true]
  by_cases hb : bt (mI μ 30 5) e = true
  · simp only [hb, if_true, show ¬ ((1 : Int32) = 0) by decide, if_false, hS.r (k := 30) (j := 0) (v := 15) (by decide), hS.k (k := 15) (c := 2) (by decide), hS.r (k := 15) (j := 0) (v := 16) (by decide), hS.k (k := 16) (c := 103) (by decide), hS.z (show 16 < 71 by decide), show (kz 16).2 = 6 by decide, ib_i (show e < 6 by omega) (show 6 < 2 ^ 31 by decide), nI_clamp (show e < 2 ^ 31 by omega), hS.rA (show e < 6 by omega), hS.oA (show e < 6 by omega), h3 e he]
    refine Ev.o (v_varsOf hS hQ' _) ?_
    have loop : ∀ (d i : Nat), i + d = nA → Ev (fun n => F_HA_leastHolderOf n 1 30 0 (rest (mI μ 30 5) e) (vs e &&& orS vs (rest (mI μ 30 5) e) nA) (nI i) μ) (fun q => q = (enc (fd (hp nA vs (mI μ 30 5) e) d i), μ)) := by
      intro d
      induction d with
      | zero =>
        intro i hi
        have : i = nA := by omega
        subst this
        refine E_HA_leastHolderOf_1 ?_
        simp only [B_HA_leastHolderOf_1, hS.k (k := 30) (c := 3) (by decide), hS.r (k := 30) (j := 0) (v := 15) (by decide), hS.k (k := 15) (c := 2) (by decide), h1, nI_le (Nat.le_refl i) (show i < 2 ^ 31 by omega), if_true]
        exact Ev.c rfl
      | succ d ih =>
        intro i hi
        have hlt : i < nA := by omega
        have hn := ih (i + 1) (by omega)
        refine E_HA_leastHolderOf_1 ?_
        simp only [B_HA_leastHolderOf_1, hS.k (k := 30) (c := 3) (by decide), hS.r (k := 30) (j := 0) (v := 15) (by decide), hS.k (k := 15) (c := 2) (by decide), h1, nI_ge hlt (show nA < 2 ^ 31 by omega), if_true, if_false, v_isIn (show i < 32 by omega), Option.bind_some, hS.r (k := 15) (j := 0) (v := 16) (by decide), hS.k (k := 16) (c := 103) (by decide), hS.z (show 16 < 71 by decide), show (kz 16).2 = 6 by decide, ib_i (show i < 6 by omega) (show 6 < 2 ^ 31 by decide), nI_clamp (show i < 2 ^ 31 by omega), hS.rA (show i < 6 by omega), hS.oA (show i < 6 by omega), h3 i hlt]
        have goOn : hp nA vs (mI μ 30 5) e i = false → Ev (fun n => F_HA_leastHolderOf n 2 30 0 (rest (mI μ 30 5) e) (vs e &&& orS vs (rest (mI μ 30 5) e) nA) (nI i) μ) (fun q => q = (enc (fd (hp nA vs (mI μ 30 5) e) (d + 1) i), μ)) := by
          intro hf
          refine E_HA_leastHolderOf_2 ?_
          simp only [B_HA_leastHolderOf_2, Option.bind_some, nI_1, fd, hf, if_false, Bool.false_eq_true]
          exact hn
        by_cases hb2 : bt (rest (mI μ 30 5) e) i = true
        · simp only [hb2, if_true, show ¬ ((1 : Int32) = 0) by decide, if_false]
          refine Ev.i (fun hz => ?_) (fun hz => ?_)
          · have hf : hp nA vs (mI μ 30 5) e i = true := by simp only [hp, hb2, hz, decide_true, Bool.and_self]
            simp only [fd, hf, if_true]
            exact Ev.c rfl
          · exact goOn (by simp only [hp, hz, decide_false, Bool.and_false])
        · simp only [hb2, if_true, if_false, Bool.false_eq_true]
          exact goOn (by simp [hp, hb2])
    simp only [hold, hb, if_true]
    exact loop nA 0 (by omega)
  · simp only [hb, if_true, if_false, Bool.false_eq_true]
    refine Ev.c ?_
    simp only [hold, hb, if_false, Bool.false_eq_true]
    rfl
end HG
theorem rd {μ : Mem} {k j a i : Nat} {v : Int32} (h : a ≠ k ∨ i ≠ j) : mI (sI μ k j v) a i = mI μ a i := by
  rw [mI_g, if_neg (fun z => by rcases h with h | h; exact h z.1; exact h z.2)]
theorem hold_lt {nA : Nat} {vs : Nat → Int32} {left : Int32} {e k : Nat} (h : hold nA vs left e = some k) : k < nA := by
  unfold hold at h
  split at h
  · have := (fd_some h).2.1
    omega
  · cases h
theorem v_hangStep {μ : Mem} {nA : Nat} {vs : Nat → Int32} {s : HS} (hS : Sh μ) (hQ : QC μ nA vs) (hH : HC μ s) (hc : s.2.1 < 6) : Ev (fun n => C_HA_hangLeastEar n 30 μ) (fun μ' => Fr HP μ μ' ∧ HC μ' (hstep nA vs s)) := by
  have hQ' := hQ
  obtain ⟨h1, h2, h3⟩ := hQ
  obtain ⟨g1, g2, g3, g4, g5⟩ := hH
  have loop : ∀ (d i : Nat), i + d = nA → (fd (fun e => (hold nA vs s.1 e).isSome) d i = ear nA vs s.1) → Ev (fun n => F_HA_hangLeastEar n 1 30 (nI i) μ) (fun μ' => Fr HP μ μ' ∧ HC μ' (hstep nA vs s)) := by
    intro d
    induction d with
    | zero =>
      intro i hi hf
      have : i = nA := by omega
      subst this
      refine E_HA_hangLeastEar_1 ?_
      simp only [B_HA_hangLeastEar_1, hS.k (k := 30) (c := 3) (by decide), hS.r (k := 30) (j := 0) (v := 15) (by decide), hS.k (k := 15) (c := 2) (by decide), h1, nI_le (Nat.le_refl i) (show i < 2 ^ 31 by omega), if_true]
      have hf : none = ear i vs s.1 := hf
      refine Ev.c ⟨Fr.rf, ?_⟩
      simp only [hstep, ← hf]
      exact ⟨g1, g2, g3, g4, g5⟩
    | succ d ih =>
      intro i hi hf
      have hlt : i < nA := by omega
      refine E_HA_hangLeastEar_1 ?_
      simp only [B_HA_hangLeastEar_1, hS.k (k := 30) (c := 3) (by decide), hS.r (k := 30) (j := 0) (v := 15) (by decide), hS.k (k := 15) (c := 2) (by decide), h1, nI_ge hlt (show nA < 2 ^ 31 by omega), if_true, if_false]
      have hvh := v_holder hS hQ' hlt
      rw [g1] at hvh
      refine Ev.o hvh ?_
      simp only [fd] at hf
      cases ho : hold nA vs s.1 i with
      | none =>
        simp only [ho, Option.isSome_none, if_false, Bool.false_eq_true] at hf
        simp only [enc, if_true, Option.bind_some, nI_1]
        exact ih (i + 1) (by omega) hf
      | some h =>
        simp only [ho, Option.isSome_some, if_true] at hf
        have hh : h < nA := hold_lt ho
        have hne : ¬ (nI h = -1) := fun z => by
          have := nI_pos (n := h) (by omega)
          rw [z] at this
          exact this (by decide)
        simp only [enc, hne, if_false, hS.k (k := 30) (c := 3) (by decide), hS.r (k := 30) (j := 1) (v := 31) (by decide), hS.k (k := 31) (c := 100) (by decide), hS.z (show 31 < 71 by decide), show (kz 31).2 = 6 by decide, ib_i (show i < 6 by omega) (show 6 < 2 ^ 31 by decide), nI_clamp (show i < 2 ^ 31 by omega), if_true, Option.bind_some, ok_sI, mZ_sI, mR_sI, hS.r (k := 30) (j := 2) (v := 32) (by decide), hS.k (k := 32) (c := 100) (by decide), hS.z (show 32 < 71 by decide), show (kz 32).2 = 6 by decide, hS.r (k := 30) (j := 3) (v := 33) (by decide), hS.k (k := 33) (c := 100) (by decide), hS.z (show 33 < 71 by decide), show (kz 33).2 = 6 by decide, rd (Or.inl (show (30 : Nat) ≠ 31 by decide)), rd (Or.inl (show (30 : Nat) ≠ 32 by decide)), rd (Or.inl (show (30 : Nat) ≠ 33 by decide)), rd (Or.inr (show (5 : Nat) ≠ 4 by decide)), g2, ib_i hc (show 6 < 2 ^ 31 by decide), nI_clamp (show s.2.1 < 2 ^ 31 by omega), nI_1, g1]
        refine Ev.c ⟨?_, ?_⟩
        · exact ((((Fr.rf.i (Or.inl rfl)).i (Or.inr (Or.inl rfl))).i (Or.inr (Or.inr (Or.inl rfl)))).i (Or.inr (Or.inr (Or.inr ⟨rfl, Or.inl rfl⟩)))).i (Or.inr (Or.inr (Or.inr ⟨rfl, Or.inr rfl⟩)))
        · have he : hstep nA vs s = (rest s.1 i, s.2.1 + 1, upd s.2.2.1 i (nI h), upd s.2.2.2.1 i (nI s.2.1), upd s.2.2.2.2 s.2.1 (nI i)) := by
            simp only [hstep, ← hf, ho, enc]
          rw [he]
          refine ⟨mI_ss, ?_, fun j hj => ?_, fun j hj => ?_, fun j hj => ?_⟩
          · rw [rd (Or.inr (by decide))]
            exact mI_ss
          · rw [rd (Or.inl (by decide)), rd (Or.inl (by decide)), rd (Or.inl (by decide)), rd (Or.inl (by decide)), mI_s]
            show upd _ _ _ _ = upd _ _ _ _
            unfold upd
            rw [g3 j hj]
          · rw [rd (Or.inl (by decide)), rd (Or.inl (by decide)), rd (Or.inl (by decide)), mI_s]
            show upd _ _ _ _ = upd _ _ _ _
            unfold upd
            rw [rd (Or.inl (by decide)), g4 j hj]
          · rw [rd (Or.inl (by decide)), rd (Or.inl (by decide)), mI_g]
            by_cases hj2 : j = s.2.1
            · rw [if_pos ⟨rfl, hj2⟩, hj2]
              exact pk_us.symm
            · rw [if_neg (fun z => hj2 z.2), rd (Or.inl (by decide)), rd (Or.inl (by decide))]
              show _ = upd _ _ _ _
              rw [pk_un hj2]
              have : j < s.2.1 + 1 := hj
              exact g5 j (by omega)
  unfold C_HA_hangLeastEar
  refine E_HA_hangLeastEar_0 ?_
  simp only [B_HA_hangLeastEar_0]
  exact loop nA 0 (by omega) rfl
theorem n6c {c : Nat} (h : c < 6) : ¬ ((6 : Int32) ≤ nI c) := nI_ge (b := 6) h (by decide)
theorem v_hang {μ : Mem} {nA : Nat} {vs : Nat → Int32} (hS : Sh μ) (hQ : QC μ nA vs) : Ev (fun n => C_HA_hangAtoms n 30 μ) (fun μ' => Fr HP μ μ' ∧ HC μ' (hangR nA vs nA)) := by
  have hN := hQ.2.1
  -- the rounds
  have loop2 : ∀ (d i : Nat) (μ1 : Mem), i + d = nA → Fr HP μ μ1 → HC μ1 (hangR nA vs i) → Ev (fun n => F_HA_hangAtoms n 2 30 (nI i) μ1) (fun μ' => Fr HP μ μ' ∧ HC μ' (hangR nA vs nA)) := by
    intro d
    induction d with
    | zero =>
      intro i μ1 hi hF hH
      have : i = nA := by omega
      subst this
      have hS1 := hS.fr hF
      refine E_HA_hangAtoms_2 ?_
      simp only [B_HA_hangAtoms_2, hS1.k (k := 30) (c := 3) (by decide), hS1.r (k := 30) (j := 0) (v := 15) (by decide), hS1.k (k := 15) (c := 2) (by decide), (hQ.fr hF).1, nI_le (Nat.le_refl i) (show i < 2 ^ 31 by omega), if_true]
      exact Ev.c ⟨hF, hH⟩
    | succ d ih =>
      intro i μ1 hi hF hH
      have hlt : i < nA := by omega
      have hS1 := hS.fr hF
      refine E_HA_hangAtoms_2 ?_
      simp only [B_HA_hangAtoms_2, hS1.k (k := 30) (c := 3) (by decide), hS1.r (k := 30) (j := 0) (v := 15) (by decide), hS1.k (k := 15) (c := 2) (by decide), (hQ.fr hF).1, nI_ge hlt (show nA < 2 ^ 31 by omega), if_true, if_false]
      refine Ev.b (v_hangStep hS1 (hQ.fr hF) hH (by have := hangR_cnt (nA := nA) (vs := vs) i; omega)) (fun μ2 h2 => ?_)
      simp only [Option.bind_some, nI_1]
      exact ih (i + 1) μ2 (by omega) (hF.tr h2.1) h2.2
  -- the start
  have loop1 : ∀ (d i : Nat) (μ1 : Mem), i + d = 6 → Fr HP μ μ1 → mI μ1 30 5 = (1 <<< (nI nA &&& 31)) - 1 → mI μ1 30 4 = 0 → (∀ j, j < i → mI μ1 31 j = -1 ∧ mI μ1 32 j = -1) → Ev (fun n => F_HA_hangAtoms n 1 30 (nI i) μ1) (fun μ' => Fr HP μ μ' ∧ HC μ' (hangR nA vs nA)) := by
    intro d
    induction d with
    | zero =>
      intro i μ1 hi hF a1 a2 a3
      have : i = 6 := by omega
      subst this
      refine E_HA_hangAtoms_1 ?_
      simp only [B_HA_hangAtoms_1, show (6 : Int32) ≤ nI 6 by decide, if_true]
      exact loop2 nA 0 μ1 (by omega) hF ⟨a1, a2, fun j hj => (a3 j hj).1, fun j hj => (a3 j hj).2, fun j hj => absurd hj (Nat.not_lt_zero _)⟩
    | succ d ih =>
      intro i μ1 hi hF a1 a2 a3
      have hlt : i < 6 := by omega
      have hS1 := hS.fr hF
      refine E_HA_hangAtoms_1 ?_
      simp only [B_HA_hangAtoms_1, n6c hlt, if_false, if_true, hS1.k (k := 30) (c := 3) (by decide), hS1.r (k := 30) (j := 1) (v := 31) (by decide), hS1.k (k := 31) (c := 100) (by decide), hS1.z (show 31 < 71 by decide), show (kz 31).2 = 6 by decide, ib_i hlt (show 6 < 2 ^ 31 by decide), nI_clamp (show i < 2 ^ 31 by omega), Option.bind_some, ok_sI, mZ_sI, mR_sI, hS1.r (k := 30) (j := 2) (v := 32) (by decide), hS1.k (k := 32) (c := 100) (by decide), hS1.z (show 32 < 71 by decide), show (kz 32).2 = 6 by decide, nI_1]
      refine ih (i + 1) _ (by omega) ((hF.i (Or.inl rfl)).i (Or.inr (Or.inl rfl))) ?_ ?_ (fun j hj => ⟨?_, ?_⟩)
      · rw [rd (Or.inl (by decide)), rd (Or.inl (by decide)), a1]
      · rw [rd (Or.inl (by decide)), rd (Or.inl (by decide)), a2]
      · rw [rd (Or.inl (by decide)), mI_g]
        by_cases hj2 : j = i
        · rw [if_pos ⟨rfl, hj2⟩]
        · rw [if_neg (fun z => hj2 z.2)]
          exact (a3 j (by omega)).1
      · rw [mI_g]
        by_cases hj2 : j = i
        · rw [if_pos ⟨rfl, hj2⟩]
        · rw [if_neg (fun z => hj2 z.2), rd (Or.inl (by decide))]
          exact (a3 j (by omega)).2
  unfold C_HA_hangAtoms
  refine E_HA_hangAtoms_0 ?_
  simp only [B_HA_hangAtoms_0, hS.k (k := 30) (c := 3) (by decide), hS.r (k := 30) (j := 0) (v := 15) (by decide), hS.k (k := 15) (c := 2) (by decide), hQ.1, if_true, Option.bind_some]
  refine loop1 6 0 _ (by omega) ((Fr.rf.i (Or.inr (Or.inr (Or.inr ⟨rfl, Or.inr rfl⟩)))).i (Or.inr (Or.inr (Or.inr ⟨rfl, Or.inl rfl⟩)))) ?_ ?_ (fun j hj => absurd hj (Nat.not_lt_zero _))
  · rw [rd (Or.inr (by decide))]
    exact mI_ss
  · exact mI_ss
