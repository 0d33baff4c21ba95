/-! new int[N][K], new long[N][K]: the outer array, then its rows -/
/-- the memory with an outer array of kind ko and N rows of kind ki and length K -/
def alM (μ : Mem) (ko ki N K : Nat) : Mem := (μ.1 + 1 + N,
  fun q => if q = μ.1 + 1 then (ko, N) else if μ.1 + 1 < q ∧ q ≤ μ.1 + 1 + N then (ki, K) else μ.2.1 q,
  fun q => if μ.1 < q ∧ q ≤ μ.1 + 1 + N then (fun _ => 0) else μ.2.2.1 q,
  fun q => if μ.1 < q ∧ q ≤ μ.1 + 1 + N then (fun _ => 0) else μ.2.2.2.1 q,
  fun q => if q = μ.1 + 1 then (fun j => if j < N then μ.1 + 2 + j else 0) else if μ.1 + 1 < q ∧ q ≤ μ.1 + 1 + N then (fun _ => 0) else μ.2.2.2.2 q)
theorem gr_outer (c : ClassId) (N h0 : Nat) : ∀ i : Nat, Jvm.Free.Multi.outerC c N h0 i = arrV c N (fun j => va_rf (if j < i then some (h0 + 1 + j) else none))
  | 0 => by
    show ({ cls := c, slots := Array.replicate N .null, vm := .none } : Cell) = _
    rw [arrV_new]
    exact congrArg (arrV c N) (funext fun j => rfl)
  | i + 1 => by
    show (Jvm.Free.Multi.outerC c N h0 i).setSlot i (.ref (h0 + 1 + i)) = _
    rw [gr_outer c N h0 i, arrV_store]
    refine congrArg (arrV c N) (funext fun j => ?_)
    unfold updV
    by_cases e : j = i
    · subst e
      rw [if_pos rfl, if_pos (Nat.lt_succ_self _)]
      rfl
    · rw [if_neg e]
      dsimp only
      by_cases h : j < i
      · rw [if_pos h, if_pos (Nat.lt_succ_of_lt h)]
      · rw [if_neg h, if_neg (by omega)]
theorem alM_old {b : Nat} {cs : Nat → ClassId} {μ : Mem} {ko ki N K q : Nat} (h : q ≤ mN μ) : ce b cs (alM μ ko ki N K) q = ce b cs μ q := by
  have h : q ≤ μ.1 := h
  have h1 : ¬ q = μ.1 + 1 := by omega
  have h2 : ¬ (μ.1 + 1 < q ∧ q ≤ μ.1 + 1 + N) := by omega
  have h3 : ¬ (μ.1 < q ∧ q ≤ μ.1 + 1 + N) := by omega
  refine ce_congr ?_ ?_ ?_ ?_
  · show (if q = μ.1 + 1 then (ko, N) else if μ.1 + 1 < q ∧ q ≤ μ.1 + 1 + N then (ki, K) else μ.2.1 q) = μ.2.1 q
    rw [if_neg h1, if_neg h2]
  · show (if μ.1 < q ∧ q ≤ μ.1 + 1 + N then (fun _ => 0) else μ.2.2.1 q) = μ.2.2.1 q
    rw [if_neg h3]
  · show (if μ.1 < q ∧ q ≤ μ.1 + 1 + N then (fun _ => 0) else μ.2.2.2.1 q) = μ.2.2.2.1 q
    rw [if_neg h3]
  · show (if q = μ.1 + 1 then (fun j => if j < N then μ.1 + 2 + j else 0) else if μ.1 + 1 < q ∧ q ≤ μ.1 + 1 + N then (fun _ => 0) else μ.2.2.2.2 q) = μ.2.2.2.2 q
    rw [if_neg h1, if_neg h2]
theorem alM_out {b : Nat} {cs : Nat → ClassId} {μ : Mem} {t ki N K : Nat} : ce b cs (alM μ (102 + t) ki N K) (mN μ + 1) = .inl (cs (2 + t), N, .inr (.inr (.inr (.inr (fun j => if j < N then some (b + (mN μ + 1) + 1 + j) else none))))) := by
  have e1 : (alM μ (102 + t) ki N K).2.1 (mN μ + 1) = (102 + t, N) := if_pos rfl
  have e2 : mR (alM μ (102 + t) ki N K) (mN μ + 1) = fun j => if j < N then μ.1 + 2 + j else 0 := if_pos rfl
  have e3 : mK (alM μ (102 + t) ki N K) (mN μ + 1) = 102 + t := by unfold mK; rw [e1]
  have e4 : mZ (alM μ (102 + t) ki N K) (mN μ + 1) = N := by unfold mZ; rw [e1]
  rw [ce_refs e3, e4, e2]
  refine congrArg (fun z => (Sum.inl (cs (2 + t), N, .inr (.inr (.inr (.inr z)))) : va_E)) (funext fun j => ?_)
  show ro b (if j < N then μ.1 + 2 + j else 0) = (if j < N then some (b + (mN μ + 1) + 1 + j) else none)
  by_cases h : j < N
  · rw [show (if j < N then μ.1 + 2 + j else 0) = μ.1 + 2 + j from if_pos h, if_pos h]
    unfold ro
    rw [if_neg (by omega)]
    exact congrArg some (by show b + (μ.1 + 2 + j) = b + (μ.1 + 1) + 1 + j; omega)
  · rw [show (if j < N then μ.1 + 2 + j else 0) = 0 from if_neg h, if_neg h]
    rfl
theorem alM_row {μ : Mem} {ko ki N K j : Nat} (h : j < N) : (alM μ ko ki N K).2.1 (mN μ + 2 + j) = (ki, K) ∧ mI (alM μ ko ki N K) (mN μ + 2 + j) = (fun _ => 0) ∧ mL (alM μ ko ki N K) (mN μ + 2 + j) = (fun _ => 0) := by
  have h1 : ¬ mN μ + 2 + j = μ.1 + 1 := by unfold mN; omega
  have h2 : μ.1 + 1 < mN μ + 2 + j ∧ mN μ + 2 + j ≤ μ.1 + 1 + N := by unfold mN; omega
  have h3 : μ.1 < mN μ + 2 + j ∧ mN μ + 2 + j ≤ μ.1 + 1 + N := by unfold mN; omega
  refine ⟨?_, ?_, ?_⟩
  · show (if mN μ + 2 + j = μ.1 + 1 then (ko, N) else if μ.1 + 1 < mN μ + 2 + j ∧ mN μ + 2 + j ≤ μ.1 + 1 + N then (ki, K) else μ.2.1 (mN μ + 2 + j)) = _
    rw [if_neg h1, if_pos h2]
  · show (if μ.1 < mN μ + 2 + j ∧ mN μ + 2 + j ≤ μ.1 + 1 + N then (fun _ => 0) else μ.2.2.1 (mN μ + 2 + j)) = _
    rw [if_pos h3]
  · show (if μ.1 < mN μ + 2 + j ∧ mN μ + 2 + j ≤ μ.1 + 1 + N then (fun _ => 0) else μ.2.2.2.1 (mN μ + 2 + j)) = _
    rw [if_pos h3]
section JG
variable {p : Program} {l : Launch} {e : Env} {R : Room} {s : State} {m : MethodId} {args : Array Value} {below : List Frame} {meth : Method} {c : Code} {H H0 : Heap} {locs : List Loc} {cells slots : Nat} {Q : State → Prop} {cc : ByteArray} {pc : Nat} {ls : Array Slot} {rest : List Value} {b : Nat} {cs : Nat → ClassId} {D : va_G} {μ : Mem}
theorem g_mna (hx : p.tables.exec = Jvm.exec) (hb : c.code = cc) {own : String} {index : Nat} (ty : FieldType) (t ki : Nat) {cy : ClassId} {z : Nat → vp_A} (hown : s.vm.findClass own = some m.cls) (hclink : (Cond.classLink own index ("[" ++ (FieldType.array ty).toString)).before args s = true) (hover : (Cond.arrayOver (.array ty)).before args s = true) (harr : (Cond.arrayClass ty).before args s = true) (hcy : s.vm.findClass (FieldType.array ty).toString = some cy) (hcA : s.vm.findClass ("[" ++ (FieldType.array ty).toString) = some (cs (2 + t))) (hM : Wd (Ab b) b cs D H0 μ H locs) (hcs : s.heap.size + cells = b + mN μ + 1) {n k : Int32} {N K : Nat} (hn : ¬ n < 0) (hk : ¬ k < 0) (hN : n.toNatClampNeg = N) (hKk : k.toNatClampNeg = K)
    (hb1 : N * 4 ≤ 536870912) (hb2 : K * componentBytes ty ≤ 536870912) (hb3 : K ≤ 536870912) (hdf : fits ty (defaultValue ty) = true) (hdd : (defaultValue ty).isDefault = true) (hcells : cells + (1 + N) ≤ R.cells) (hslots : slots + (N + N * K) ≤ R.slots) (hrow : ∀ j, j < N → ce b cs (alM μ (102 + t) ki N K) (mN μ + 2 + j) = .inl (cy, z K)) (hz : ∀ c : ClassId, vp_cell c (z K) = arrV c K (fun _ => defaultValue ty)) (hdg : decode cc pc = .ok (.multianewarray index 2, 4))
    (kk : ∀ H : Heap, Wd (Ab b) b cs D H0 (alM μ (102 + t) ki N K) H locs → W p l e R s m args below meth c H locs (cells + 1 + N) (slots + N + N * K) Q (F0 m (pc + 4) ls (.ref (b + (mN μ + 1)) :: rest))) : W p l e R s m args below meth c H locs cells slots Q (F0 m pc ls (.int k :: .int n :: rest)) := by
  subst hN
  subst hKk
  refine W.sized fun hle => ?_
  have hsz : H.size = b + (mN μ + 1) := by have := hM.1; omega
  intro T hT Xs
  obtain ⟨vm₁, cA, comp, -, fA, fC, hO, -, X', step⟩ := Xs.multianewarray2F hx hown hclink hover harr (g := F0 m pc ls (.int k :: .int n :: rest)) rfl (by rw [hb]; exact hdg) rfl hn hk hb1 hb2 hb3 hdf hdd hcells hslots
  cases hcy.symm.trans fC
  cases hcA.symm.trans fA
  have hTh : (T.setVm vm₁).heap = H := hT
  obtain ⟨f1, f2, -, -⟩ := Jvm.Free.Multi.fill_facts (T.setVm vm₁) (cs (2 + t)) cy n.toNatClampNeg k.toNatClampNeg (defaultValue ty) n.toNatClampNeg
  have hold : ∀ x : Nat, x < H.size → (Jvm.Free.Multi.fill (T.setVm vm₁) (cs (2 + t)) cy n.toNatClampNeg k.toNatClampNeg (defaultValue ty) n.toNatClampNeg).heap[x]? = H[x]? := fun x hx9 => by
    rw [Jvm.Free.Multi.fill_old (T.setVm vm₁) (cs (2 + t)) cy n.toNatClampNeg k.toNatClampNeg (defaultValue ty) (a := x) (by rw [hTh]; exact hx9) n.toNatClampNeg, hTh]
  have hin : ∀ j : Nat, j < n.toNatClampNeg → (Jvm.Free.Multi.fill (T.setVm vm₁) (cs (2 + t)) cy n.toNatClampNeg k.toNatClampNeg (defaultValue ty) n.toNatClampNeg).heap[H.size + 1 + j]? = some (Jvm.Free.Multi.innerC cy k.toNatClampNeg (defaultValue ty)) := fun j hj => by
    rw [← hTh]
    exact Jvm.Free.Multi.fill_inner (T.setVm vm₁) (cs (2 + t)) cy n.toNatClampNeg k.toNatClampNeg (defaultValue ty) n.toNatClampNeg j hj
  rw [hTh] at f1 f2
  generalize hF : Jvm.Free.Multi.fill (T.setVm vm₁) (cs (2 + t)) cy n.toNatClampNeg k.toNatClampNeg (defaultValue ty) n.toNatClampNeg = F at X' step f1 f2 hold hin
  have hW : Wd (Ab b) b cs D H0 (alM μ (102 + t) ki n.toNatClampNeg k.toNatClampNeg) F.heap locs := by
    refine ⟨?_, ?_, ?_, fun k9 h1 _ => by show b < b + k9; omega⟩
    · show b + (mN μ + 1 + n.toNatClampNeg) < F.heap.size
      omega
    · intro i q hq
      obtain ⟨hi, rfl⟩ := en_at hq
      have hi : i < mN μ + 1 + n.toNatClampNeg := hi
      by_cases h1 : i + 1 ≤ mN μ
      · rw [alM_old h1]
        exact (hM.2.1 i _ (by have := en_get (b := b) (cs := cs) (k := i + 1) (Nat.succ_pos _) h1; exact this)).kept (hold _ (by rw [hsz]; show b + (i + 1) < _; omega))
      · by_cases h2 : i = mN μ
        · subst h2
          rw [alM_out]
          show F.heap[b + (mN μ + 1)]? = some (vp_cell _ _)
          rw [vp_cell_q, ← hsz, f2, gr_outer]
        · obtain ⟨j, rfl⟩ : ∃ j, i = mN μ + 1 + j := ⟨i - (mN μ + 1), by omega⟩
          have hj : j < n.toNatClampNeg := by omega
          rw [show mN μ + 1 + j + 1 = mN μ + 2 + j by omega, hrow j hj]
          show F.heap[b + (mN μ + 2 + j)]? = some (vp_cell _ _)
          rw [hz, show b + (mN μ + 2 + j) = H.size + 1 + j by omega, hin j hj, ← arrV_new]
          rfl
    · have hS := hM.2.2.1
      exact ⟨Nat.le_trans hS.1 (by omega), fun x h1 h2 => (hold x (Nat.lt_of_lt_of_le h1 hS.1)).trans (hS.2.1 x h1 h2), hS.2.2⟩
  obtain ⟨t9, a1, b1⟩ := kk F.heap hW F rfl X'
  refine ⟨t9, step t9 ?_, b1⟩
  have hTs : T.heap.size = b + (mN μ + 1) := by rw [hT]; exact hsz
  rw [hTs]
  exact a1
theorem g_mnaI (hx : p.tables.exec = Jvm.exec) (hb : c.code = cc) {own : String} {index : Nat} (hown : s.vm.findClass own = some m.cls) (hclink : (Cond.classLink own index ("[" ++ (FieldType.array .int).toString)).before args s = true) (harr : (Cond.arrayClass .int).before args s = true) (hK : Kw cs D s) (hM : Wd (Ab b) b cs D H0 μ H locs) (hcs : s.heap.size + cells = b + mN μ + 1) {n k : Int32} {N K : Nat} (hn : ¬ n < 0) (hk : ¬ k < 0) (hN : n.toNatClampNeg = N) (hKk : k.toNatClampNeg = K)
    (hb1 : N * 4 ≤ 536870912) (hb2 : K * 4 ≤ 536870912) (hcells : cells + (1 + N) ≤ R.cells) (hslots : slots + (N + N * K) ≤ R.slots) (hdg : decode cc pc = .ok (.multianewarray index 2, 4))
    (kk : ∀ H : Heap, Wd (Ab b) b cs D H0 (alM μ 104 100 N K) H locs → W p l e R s m args below meth c H locs (cells + 1 + N) (slots + N + N * K) Q (F0 m (pc + 4) ls (.ref (b + (mN μ + 1)) :: rest))) : W p l e R s m args below meth c H locs cells slots Q (F0 m pc ls (.int k :: .int n :: rest)) := by
  refine g_mna (z := fun K => (K, .inl (fun _ => 0))) (cy := cs 0) hx hb .int 2 100 hown hclink hK.over_I harr (hK.1.2 0 _ rfl).2 (hK.1.2 4 _ rfl).2 hM hcs hn hk hN hKk hb1 hb2 (by omega) rfl rfl hcells hslots (fun j hj => ?_) (fun c9 => vp_cell_i ..) hdg kk
  obtain ⟨e1, e2, -⟩ := alM_row (μ := μ) (ko := 104) (ki := 100) (K := K) hj
  have e3 : mK (alM μ 104 100 N K) (mN μ + 2 + j) = 100 := by unfold mK; rw [e1]
  have e4 : mZ (alM μ 104 100 N K) (mN μ + 2 + j) = K := by unfold mZ; rw [e1]
  rw [ce_int e3, e4, e2]
theorem g_mnaJ (hx : p.tables.exec = Jvm.exec) (hb : c.code = cc) {own : String} {index : Nat} (hown : s.vm.findClass own = some m.cls) (hclink : (Cond.classLink own index ("[" ++ (FieldType.array .long).toString)).before args s = true) (harr : (Cond.arrayClass .long).before args s = true) (hK : Kw cs D s) (hM : Wd (Ab b) b cs D H0 μ H locs) (hcs : s.heap.size + cells = b + mN μ + 1) {n k : Int32} {N K : Nat} (hn : ¬ n < 0) (hk : ¬ k < 0) (hN : n.toNatClampNeg = N) (hKk : k.toNatClampNeg = K)
    (hb1 : N * 4 ≤ 536870912) (hb2 : K * 8 ≤ 536870912) (hcells : cells + (1 + N) ≤ R.cells) (hslots : slots + (N + N * K) ≤ R.slots) (hdg : decode cc pc = .ok (.multianewarray index 2, 4))
    (kk : ∀ H : Heap, Wd (Ab b) b cs D H0 (alM μ 105 101 N K) H locs → W p l e R s m args below meth c H locs (cells + 1 + N) (slots + N + N * K) Q (F0 m (pc + 4) ls (.ref (b + (mN μ + 1)) :: rest))) : W p l e R s m args below meth c H locs cells slots Q (F0 m pc ls (.int k :: .int n :: rest)) := by
  refine g_mna (z := fun K => (K, .inr (.inl (fun _ => 0)))) (cy := cs 1) hx hb .long 3 101 hown hclink hK.over_J harr (hK.1.2 1 _ rfl).2 (hK.1.2 5 _ rfl).2 hM hcs hn hk hN hKk hb1 hb2 (by omega) rfl rfl hcells hslots (fun j hj => ?_) (fun c9 => vp_cell_l ..) hdg kk
  obtain ⟨e1, -, e2⟩ := alM_row (μ := μ) (ko := 105) (ki := 101) (K := K) hj
  have e3 : mK (alM μ 105 101 N K) (mN μ + 2 + j) = 101 := by unfold mK; rw [e1]
  have e4 : mZ (alM μ 105 101 N K) (mN μ + 2 + j) = K := by unfold mZ; rw [e1]
  rw [ce_long e3, e4, e2]
end JG
