/-! The start, and bits -/
set_option maxRecDepth 100000 in
set_option maxHeartbeats 4000000 in
theorem Pro_n (n : Nat) : Pro n m0 = Pro 0 m0 := by
  unfold Pro C_JL_init C_RE_init C_QU_init C_AT_init C_HA_init C_JO_init C_MO_init
  rfl
theorem shB_ok {μ : Mem} (h : shB μ = true) : Sh μ ∧ mI μ 1 1 = 0 ∧ mI μ 15 1 = 0 ∧ mI μ 15 3 = 0 ∧ mI μ 15 4 = 0 ∧ mI μ 30 4 = 0 ∧ mI μ 30 5 = 0 ∧ mI μ 56 1 = 0 ∧ mI μ 56 5 = 0 ∧ mI μ 56 8 = 0 ∧ mI μ 56 13 = 0 := by
  simp only [shB, Bool.and_eq_true, decide_eq_true_eq, List.all_eq_true, List.mem_range, and_assoc] at h
  obtain ⟨h1, h2, h3, h4, h5⟩ := h
  refine ⟨⟨h1, h2, h3, fun j hj => ?_⟩, h5⟩
  obtain ⟨a1, a2, a3, a4, a5, a6, a7⟩ := h4 j hj
  exact ⟨a1, a2, a3, a4, a5, a6, 0, by decide, a7⟩
theorem pro_ok : ∃ μ, (∀ n, Pro n m0 = some (1, 56, 70, μ)) ∧ shB μ = true := by
  have h := proB_ok
  unfold proB at h
  generalize hP : Pro 0 m0 = P at h
  match P, h, hP with
  | some (r1, r2, r3, μ), h, hP =>
    simp only [Bool.and_eq_true, decide_eq_true_eq] at h
    obtain ⟨⟨⟨rfl, rfl⟩, rfl⟩, h⟩ := h
    exact ⟨μ, fun n => (Pro_n n).trans hP, h⟩
  | none, h, hP => cases h
/-- bit k -/
def bt (x : Int32) (k : Nat) : Bool := x.toBitVec.getLsbD k
theorem bt_ext {x y : Int32} (h : ∀ k, k < 32 → bt x k = bt y k) : x = y := by
  apply Int32.toBitVec_inj.mp
  exact BitVec.eq_of_getLsbD_eq (fun k hk => h k hk)
theorem bt_hi {x : Int32} {k : Nat} (h : 32 ≤ k) : bt x k = false := BitVec.getLsbD_of_ge _ _ h
theorem bt_and (x y : Int32) (k : Nat) : bt (x &&& y) k = (bt x k && bt y k) := by
  unfold bt
  rw [Int32.toBitVec_and, BitVec.getLsbD_and]
theorem bt_or (x y : Int32) (k : Nat) : bt (x ||| y) k = (bt x k || bt y k) := by
  unfold bt
  rw [Int32.toBitVec_or, BitVec.getLsbD_or]
theorem bt_m1 : ∀ k, k < 32 → bt (-1) k = true := by decide +kernel
theorem bt_not {x : Int32} {k : Nat} (h : k < 32) : bt (x ^^^ (-1)) k = !bt x k := by
  have h1 := bt_m1 k h
  unfold bt at h1 ⊢
  rw [Int32.toBitVec_xor, BitVec.getLsbD_xor, h1, Bool.xor_true]
theorem bt_0 (k : Nat) : bt 0 k = false := by
  by_cases h : k < 32
  · exact (by decide +kernel : ∀ k, k < 32 → bt 0 k = false) k h
  · exact bt_hi (by omega)
theorem bt_one : ∀ k, k < 32 → ∀ j, j < 32 → bt (1 <<< (nI k &&& 31)) j = decide (j = k) := by decide +kernel
theorem bt_mask : ∀ n, n < 13 → ∀ j, j < 32 → bt ((1 <<< (nI n &&& 31)) - 1) j = decide (j < n) := by decide +kernel
theorem bt_sm : ∀ k, k < 32 → ((nI k &&& 31).toBitVec.smod 32).toNat = k := by decide +kernel
theorem bt_one0 : ∀ k, k < 32 → bt 1 k = decide (k = 0) := by decide +kernel
theorem bt_shr {x : Int32} {k : Nat} (h : k < 32) : bt (x >>> (nI k &&& 31)) 0 = bt x k := by
  unfold bt
  rw [Int32.toBitVec_shiftRight, BitVec.sshiftRight_eq', bt_sm k h, BitVec.getLsbD_sshiftRight]
  simp [h]
theorem bt_is {x : Int32} {k : Nat} (h : k < 32) : ((x >>> (nI k &&& 31)) &&& 1) = 0 ↔ bt x k = false := by
  constructor
  · intro e
    have h1 := congrArg (fun z => bt z 0) e
    simp only [bt_and, bt_shr h, bt_one0 0 (by decide), bt_0] at h1
    simpa using h1
  · intro e
    apply bt_ext
    intro j hj
    rw [bt_and, bt_one0 j hj, bt_0]
    by_cases h0 : j = 0
    · subst h0
      rw [bt_shr h, e]
      rfl
    · simp [h0]
theorem bt_is1 {x : Int32} {k : Nat} (h : k < 32) : ((x >>> (nI k &&& 31)) &&& 1) = 1 ↔ bt x k = true := by
  constructor
  · intro e
    have h1 := congrArg (fun z => bt z 0) e
    simp only [bt_and, bt_shr h, bt_one0 0 (by decide)] at h1
    simpa using h1
  · intro e
    apply bt_ext
    intro j hj
    rw [bt_and, bt_one0 j hj]
    by_cases h0 : j = 0
    · subst h0
      rw [bt_shr h, e]
      rfl
    · simp [h0]
theorem v_isIn {n : Nat} {k : Nat} {x : Int32} {μ : Mem} (h : k < 32) : C_JL_isIn n (nI k) x μ = some (if bt x k = true then 1 else 0, μ) := by
  unfold C_JL_isIn
  by_cases hb : bt x k = true
  · rw [if_neg (fun z => by rw [(bt_is h).mp z] at hb; cases hb), if_pos hb]
  · rw [if_pos ((bt_is h).mpr (by simpa using hb)), if_neg hb]
theorem bt_z {x : Int32} : x = 0 ↔ ∀ k, k < 32 → bt x k = false := ⟨fun h k _ => by rw [h, bt_0], fun h => bt_ext (fun k hk => by rw [h k hk, bt_0])⟩
/-! Reading a memory that was written to -/
theorem ok_sI {μ : Mem} {k j a c : Nat} {v : Int32} : ok (sI μ k j v) a c = ok μ a c := rfl
theorem ok_sL {μ : Mem} {k j a c : Nat} {v : Int64} : ok (sL μ k j v) a c = ok μ a c := rfl
theorem mZ_sI {μ : Mem} {k j a : Nat} {v : Int32} : mZ (sI μ k j v) a = mZ μ a := rfl
theorem mZ_sL {μ : Mem} {k j a : Nat} {v : Int64} : mZ (sL μ k j v) a = mZ μ a := rfl
theorem mR_sI {μ : Mem} {k j : Nat} {v : Int32} : mR (sI μ k j v) = mR μ := rfl
theorem mR_sL {μ : Mem} {k j : Nat} {v : Int64} : mR (sL μ k j v) = mR μ := rfl
theorem mI_sL {μ : Mem} {k j : Nat} {v : Int64} : mI (sL μ k j v) = mI μ := rfl
theorem mL_sI {μ : Mem} {k j : Nat} {v : Int32} : mL (sI μ k j v) = mL μ := rfl
theorem mI_g {μ : Mem} {k j a i : Nat} {v : Int32} : mI (sI μ k j v) a i = if a = k ∧ i = j then v else mI μ a i := by
  by_cases h : a = k
  · subst h
    by_cases h2 : i = j
    · subst h2
      rw [if_pos ⟨rfl, rfl⟩, mI_ss]
    · rw [if_neg (fun z => h2 z.2), mI_sn h2]
  · rw [if_neg (fun z => h z.1), mI_n h]
theorem mL_g {μ : Mem} {k j a i : Nat} {v : Int64} : mL (sL μ k j v) a i = if a = k ∧ i = j then v else mL μ a i := by
  by_cases h : a = k
  · subst h
    by_cases h2 : i = j
    · subst h2
      rw [if_pos ⟨rfl, rfl⟩, mL_ss]
    · rw [if_neg (fun z => h2 z.2), mL_sn h2]
  · rw [if_neg (fun z => h z.1), mL_n h]
/-- what P names may have changed, all else not -/
def Fr (P : Nat → Nat → Prop) (μ μ' : Mem) : Prop := mN μ' = mN μ ∧ μ'.2.1 = μ.2.1 ∧ mR μ' = mR μ ∧ (∀ k j, ¬ P k j → mI μ' k j = mI μ k j) ∧ ∀ k j, ¬ P k j → mL μ' k j = mL μ k j
theorem Fr.rf {P : Nat → Nat → Prop} {μ : Mem} : Fr P μ μ := ⟨rfl, rfl, rfl, fun _ _ _ => rfl, fun _ _ _ => rfl⟩
theorem Fr.tr {P : Nat → Nat → Prop} {μ μ1 μ2 : Mem} (h : Fr P μ μ1) (k : Fr P μ1 μ2) : Fr P μ μ2 := ⟨k.1.trans h.1, k.2.1.trans h.2.1, k.2.2.1.trans h.2.2.1, fun a j z => (k.2.2.2.1 a j z).trans (h.2.2.2.1 a j z), fun a j z => (k.2.2.2.2 a j z).trans (h.2.2.2.2 a j z)⟩
theorem Fr.mo {P P' : Nat → Nat → Prop} {μ μ1 : Mem} (h : Fr P μ μ1) (k : ∀ a j, P a j → P' a j) : Fr P' μ μ1 := ⟨h.1, h.2.1, h.2.2.1, fun a j z => h.2.2.2.1 a j (fun y => z (k a j y)), fun a j z => h.2.2.2.2 a j (fun y => z (k a j y))⟩
theorem Fr.i {P : Nat → Nat → Prop} {μ μ1 : Mem} {k j : Nat} {v : Int32} (h : Fr P μ μ1) (hp : P k j) : Fr P μ (sI μ1 k j v) := ⟨h.1, h.2.1, h.2.2.1, fun a i z => by rw [mI_g, if_neg (fun y => z (by rw [y.1, y.2]; exact hp))]; exact h.2.2.2.1 a i z, h.2.2.2.2⟩
theorem Fr.l {P : Nat → Nat → Prop} {μ μ1 : Mem} {k j : Nat} {v : Int64} (h : Fr P μ μ1) (hp : P k j) : Fr P μ (sL μ1 k j v) := ⟨h.1, h.2.1, h.2.2.1, h.2.2.2.1, fun a i z => by rw [mL_g, if_neg (fun y => z (by rw [y.1, y.2]; exact hp))]; exact h.2.2.2.2 a i z⟩
theorem Sh.fr {P : Nat → Nat → Prop} {μ μ1 : Mem} (h : Sh μ) (k : Fr P μ μ1) : Sh μ1 := by
  obtain ⟨a1, a2, a3, -, -⟩ := k
  unfold Sh
  rw [a1, a2, a3]
  exact h
theorem Sh.k {μ : Mem} (h : Sh μ) {k c : Nat} (h1 : (decide (0 < k) && (decide (k ≤ 70) && decide ((kz k).1 = c))) = true) : ok μ k c = true := by
  simp only [Bool.and_eq_true, decide_eq_true_eq] at h1
  have h2 := h.2.1 k (by omega)
  simp only [ok, Bool.and_eq_true, decide_eq_true_eq]
  refine ⟨h1.1, by rw [h.1]; omega, ?_⟩
  unfold mK
  rw [h2]
  exact h1.2.2
theorem Sh.z {μ : Mem} (h : Sh μ) {k : Nat} (h1 : k < 71) : mZ μ k = (kz k).2 := by
  unfold mZ
  rw [h.2.1 k h1]
theorem Sh.r {μ : Mem} (h : Sh μ) {k j v : Nat} (h1 : (k, j, v) ∈ shR) : mR μ k j = v := h.2.2.1 (k, j, v) h1
theorem ib_i {j n : Nat} (h : j < n) (hn : n < 2 ^ 31) : ib (nI j) n = true := by
  unfold ib
  rw [nI_clamp (by omega)]
  have := nI_pos (n := j) (by omega)
  simp [this, h]
