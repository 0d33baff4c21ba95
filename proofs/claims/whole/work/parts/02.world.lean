/-! The world of this claim: all cells that the law makes, numbered 1 .. N in the order of their making; cell k lies at the address b + k. A memory holds, for each cell, its kind and length, and its ints, longs and references (a reference is a cell's number, 0 is null). -/
abbrev Mem : Type := Nat × (Nat → Nat × Nat) × (Nat → Nat → Int32) × (Nat → Nat → Int64) × (Nat → Nat → Nat)
def mN (μ : Mem) : Nat := μ.1
def mK (μ : Mem) (k : Nat) : Nat := (μ.2.1 k).1
def mZ (μ : Mem) (k : Nat) : Nat := (μ.2.1 k).2
def mI (μ : Mem) : Nat → Nat → Int32 := μ.2.2.1
def mL (μ : Mem) : Nat → Nat → Int64 := μ.2.2.2.1
def mR (μ : Mem) : Nat → Nat → Nat := μ.2.2.2.2
def sI (μ : Mem) (k j : Nat) (v : Int32) : Mem := (μ.1, μ.2.1, va_up μ.2.2.1 k (upd (μ.2.2.1 k) j v), μ.2.2.2.1, μ.2.2.2.2)
def sL (μ : Mem) (k j : Nat) (v : Int64) : Mem := (μ.1, μ.2.1, μ.2.2.1, va_up μ.2.2.2.1 k (vp_updL (μ.2.2.2.1 k) j v), μ.2.2.2.2)
def sR (μ : Mem) (k j : Nat) (v : Nat) : Mem := (μ.1, μ.2.1, μ.2.2.1, μ.2.2.2.1, va_up μ.2.2.2.2 k (va_up (μ.2.2.2.2 k) j v))
/-- a new cell of kind c and length z: its number is N + 1 -/
def al (μ : Mem) (c z : Nat) : Mem := (μ.1 + 1, va_up μ.2.1 (μ.1 + 1) (c, z), va_up μ.2.2.1 (μ.1 + 1) (fun _ => 0), va_up μ.2.2.2.1 (μ.1 + 1) (fun _ => 0), va_up μ.2.2.2.2 (μ.1 + 1) (fun _ => 0))
/-- cell k is there, and of kind c -/
def ok (μ : Mem) (k c : Nat) : Bool := decide (0 < k) && (decide (k ≤ mN μ) && decide (mK μ k = c))
/-- an index in range -/
def ib (i : Int32) (n : Nat) : Bool := !(decide (i < 0)) && decide (i.toNatClampNeg < n)
theorem ok_e {μ : Mem} {k c : Nat} (h : ok μ k c = true) : 0 < k ∧ k ≤ mN μ ∧ mK μ k = c := by
  simpa [ok] using h
theorem ib_in {i : Int32} {n : Nat} (h : ib i n = true) : vp_in i n := by
  simp only [ib, Bool.and_eq_true, Bool.not_eq_true', decide_eq_false_iff_not, decide_eq_true_eq] at h
  intro q
  rcases q with q | q
  · exact h.1 q
  · omega
/-- fields of the classes by their places -/
def jN (ci : Nat) : Nat := match vwCl[ci]? with
  | some r => r.2.2
  | none => 0
def rv (b r : Nat) : Value := if r = 0 then .null else .ref (b + r)
def ro (b r : Nat) : Option Nat := if r = 0 then none else some (b + r)
def fv (b : Nat) (μ : Mem) (k j : Nat) (ty : FieldType) : Value := match ty with
  | .int => .int (mI μ k j)
  | .boolean => .int (mI μ k j)
  | .long => .long (mL μ k j)
  | _ => rv b (mR μ k j)
def fl (b : Nat) (μ : Mem) (k ci : Nat) : List Value := (List.range (jN ci)).map (fun j => fv b μ k j (jT ci j))
def ce (b : Nat) (cs : Nat → ClassId) (μ : Mem) (k : Nat) : va_E :=
  if mK μ k < 100 then .inr (mK μ k, fl b μ k (mK μ k))
  else if mK μ k = 100 then .inl (cs 0, mZ μ k, .inl (mI μ k))
  else if mK μ k = 101 then .inl (cs 1, mZ μ k, .inr (.inl (mL μ k)))
  else .inl (cs (mK μ k - 100), mZ μ k, .inr (.inr (.inr (.inr (fun j => ro b (mR μ k j))))))
def en (b : Nat) (cs : Nat → ClassId) (μ : Mem) : va_W := (List.range (mN μ)).map (fun i => (b + (i + 1), ce b cs μ (i + 1)))
theorem en_at {b : Nat} {cs : Nat → ClassId} {μ : Mem} {i : Nat} {q : Nat × va_E} (h : (en b cs μ)[i]? = some q) : i < mN μ ∧ q = (b + (i + 1), ce b cs μ (i + 1)) := by
  unfold en at h
  rw [List.getElem?_map] at h
  by_cases hi : i < mN μ
  · rw [List.getElem?_range hi] at h
    exact ⟨hi, (Option.some.inj h).symm⟩
  · rw [List.getElem?_eq_none (by simpa using hi)] at h
    cases h
theorem en_get {b : Nat} {cs : Nat → ClassId} {μ : Mem} {k : Nat} (h0 : 0 < k) (h1 : k ≤ mN μ) : (en b cs μ)[k - 1]? = some (b + k, ce b cs μ k) := by
  obtain ⟨i, rfl⟩ : ∃ i, k = i + 1 := ⟨k - 1, by omega⟩
  unfold en
  rw [List.getElem?_map, show i + 1 - 1 = i by omega, List.getElem?_range (by omega)]
  rfl
theorem en_D {A : Nat → Prop} {b : Nat} {cs : Nat → ClassId} {μ : Mem} (hA : ∀ k, 0 < k → k ≤ mN μ → A (b + k)) : va_D A (en b cs μ) := by
  refine ⟨fun i j p q hi hj hpq => ?_, fun k q hk => ?_⟩
  · obtain ⟨-, rfl⟩ := en_at hi
    obtain ⟨-, rfl⟩ := en_at hj
    have : b + (i + 1) = b + (j + 1) := hpq
    omega
  · obtain ⟨hlt, rfl⟩ := en_at hk
    exact hA (k + 1) (Nat.succ_pos _) hlt
theorem en_len {b : Nat} {cs : Nat → ClassId} {μ : Mem} : (en b cs μ).length = mN μ := by simp [en]
theorem en_set {b : Nat} {cs : Nat → ClassId} {μ μ' : Mem} {k : Nat} {x : va_E} (hN : mN μ' = mN μ) (h0 : 0 < k) (hd : ∀ q, q ≠ k → ce b cs μ' q = ce b cs μ q) (hx : ce b cs μ' k = x) : (en b cs μ).set (k - 1) (b + k, x) = en b cs μ' := by
  subst hx
  apply List.ext_getElem?
  intro i
  rw [List.getElem?_set, en_len]
  by_cases hk : k - 1 = i
  · subst hk
    rw [if_pos rfl]
    by_cases hl : k - 1 < mN μ
    · rw [if_pos hl, en_get h0 (by omega)]
    · rw [if_neg hl, List.getElem?_eq_none (by rw [en_len]; omega)]
  · rw [if_neg hk]
    unfold en
    rw [List.getElem?_map, List.getElem?_map, hN]
    by_cases hl : i < mN μ
    · rw [List.getElem?_range hl]
      show some (b + (i + 1), ce b cs μ (i + 1)) = some (b + (i + 1), ce b cs μ' (i + 1))
      rw [hd (i + 1) (by omega)]
    · rw [List.getElem?_eq_none (by simpa using hl)]
      rfl
theorem ce_congr {b : Nat} {cs : Nat → ClassId} {μ μ' : Mem} {q : Nat} (h1 : μ'.2.1 q = μ.2.1 q) (h2 : mI μ' q = mI μ q) (h3 : mL μ' q = mL μ q) (h4 : mR μ' q = mR μ q) : ce b cs μ' q = ce b cs μ q := by
  have hK : mK μ' q = mK μ q := by unfold mK; rw [h1]
  have hZ : mZ μ' q = mZ μ q := by unfold mZ; rw [h1]
  have hf : ∀ ci, fl b μ' q ci = fl b μ q ci := by
    intro ci
    unfold fl
    apply List.map_congr_left
    intro j _
    unfold fv
    rw [h2, h3, h4]
  unfold ce
  rw [hK, hZ, h2, h3, h4, hf]
theorem ce_obj {b : Nat} {cs : Nat → ClassId} {μ : Mem} {k ci : Nat} (h : mK μ k = ci) (hc : ci < 100) : ce b cs μ k = .inr (ci, fl b μ k ci) := by
  unfold ce
  rw [h, if_pos hc]
theorem ce_int {b : Nat} {cs : Nat → ClassId} {μ : Mem} {k : Nat} (h : mK μ k = 100) : ce b cs μ k = .inl (cs 0, mZ μ k, .inl (mI μ k)) := by
  unfold ce
  rw [h]
  rfl
theorem ce_long {b : Nat} {cs : Nat → ClassId} {μ : Mem} {k : Nat} (h : mK μ k = 101) : ce b cs μ k = .inl (cs 1, mZ μ k, .inr (.inl (mL μ k))) := by
  unfold ce
  rw [h]
  rfl
theorem ce_refs {b : Nat} {cs : Nat → ClassId} {μ : Mem} {k t : Nat} (h : mK μ k = 102 + t) : ce b cs μ k = .inl (cs (2 + t), mZ μ k, .inr (.inr (.inr (.inr (fun j => ro b (mR μ k j)))))) := by
  unfold ce
  rw [h, if_neg (by omega), if_neg (by omega), if_neg (by omega), show 102 + t - 100 = 2 + t by omega]
/-- the object k of class ci, as the rows of the kit want it -/
theorem en_obj {b : Nat} {cs : Nat → ClassId} {μ : Mem} {k ci : Nat} (h : ok μ k ci = true) (hc : ci < 100) : (en b cs μ)[k - 1]? = some (b + k, .inr (ci, fl b μ k ci)) := by
  obtain ⟨h0, h1, h2⟩ := ok_e h
  rw [en_get h0 h1, ce_obj h2 hc]
theorem en_int {b : Nat} {cs : Nat → ClassId} {μ : Mem} {k : Nat} (h : ok μ k 100 = true) : (en b cs μ)[k - 1]? = some (b + k, .inl (cs 0, mZ μ k, .inl (mI μ k))) := by
  obtain ⟨h0, h1, h2⟩ := ok_e h
  rw [en_get h0 h1, ce_int h2]
theorem en_long {b : Nat} {cs : Nat → ClassId} {μ : Mem} {k : Nat} (h : ok μ k 101 = true) : (en b cs μ)[k - 1]? = some (b + k, .inl (cs 1, mZ μ k, .inr (.inl (mL μ k)))) := by
  obtain ⟨h0, h1, h2⟩ := ok_e h
  rw [en_get h0 h1, ce_long h2]
theorem en_refs {b : Nat} {cs : Nat → ClassId} {μ : Mem} {k : Nat} (t : Nat) (h : ok μ k (102 + t) = true) : (en b cs μ)[k - 1]? = some (b + k, .inl (cs (2 + t), mZ μ k, .inr (.inr (.inr (.inr (fun j => ro b (mR μ k j))))))) := by
  obtain ⟨h0, h1, h2⟩ := ok_e h
  rw [en_get h0 h1, ce_refs h2]
theorem fl_get {b : Nat} {μ : Mem} {k ci j : Nat} {v : Value} (hj : j < jN ci) (hv : fv b μ k j (jT ci j) = v) : (fl b μ k ci)[j]? = some v := by
  unfold fl
  rw [List.getElem?_map, List.getElem?_range hj]
  exact congrArg some hv
theorem fl_len {b : Nat} {μ : Mem} {k ci : Nat} : (fl b μ k ci).length = jN ci := by simp [fl]
theorem fl_set {b : Nat} {μ μ' : Mem} {k ci j : Nat} {v : Value} (ho : ∀ i, i ≠ j → fv b μ' k i (jT ci i) = fv b μ k i (jT ci i)) (hv : fv b μ' k j (jT ci j) = v) : (fl b μ k ci).set j v = fl b μ' k ci := by
  subst hv
  apply List.ext_getElem?
  intro i
  rw [List.getElem?_set, fl_len]
  by_cases hk : j = i
  · subst hk
    rw [if_pos rfl]
    by_cases hl : j < jN ci
    · rw [if_pos hl, fl_get hl rfl]
    · rw [if_neg hl, List.getElem?_eq_none (by rw [fl_len]; omega)]
  · rw [if_neg hk]
    by_cases hl : i < jN ci
    · rw [fl_get hl rfl, fl_get hl rfl, ho i (Ne.symm hk)]
    · rw [List.getElem?_eq_none (by rw [fl_len]; omega), List.getElem?_eq_none (by rw [fl_len]; omega)]
/-- the array classes, by their places: kind 100 + place -/
abbrev tl (cs : Nat → ClassId) : List (ClassId × FieldType) := jA cs
/-- the world: the heap H holds the memory μ; since H0 nothing has changed but what A names; A names every cell of the memory -/
def Wd (A : Nat → Prop) (b : Nat) (cs : Nat → ClassId) (D : va_G) (H0 : Heap) (μ : Mem) (H : Heap) (locs : List Loc) : Prop := b + mN μ < H.size ∧ va_P D vwCl (en b cs μ) H ∧ va_S A H0 H locs ∧ ∀ k, 0 < k → k ≤ mN μ → A (b + k)
/-- what a state knows of the classes: the tables' classes and array classes, and the links between nest mates -/
def Kw (cs : Nat → ClassId) (D : va_G) (U : State) : Prop := va_K D vwCl (tl cs) U ∧ (∀ w ∈ jNest, va_Nw w U) ∧ va_AO "JoinedLeaves$Relation" U ∧ va_AO "JoinedLeaves$Atom" U ∧ (Cond.arrayOver (.array .int)).before #[] U = true ∧ (Cond.arrayOver (.array .long)).before #[] U = true
/-- a contract's world behind it, and its start -/
def Bw (b : Nat) (cs : Nat → ClassId) (D : va_G) (μ : Mem) (t : State) : Prop := b + mN μ < t.heap.size ∧ va_P D vwCl (en b cs μ) t.heap
abbrev Pw (b : Nat) (cs : Nat → ClassId) (D : va_G) (μ : Mem) (av : List Value) : Array Value → State → Prop := va_Pc av (fun U => Bw b cs D μ U ∧ Kw cs D U)
def isNest : Cond → Bool
  | .fieldLinkNest _ _ _ _ _ _ => true
  | .methodLinkNest _ _ _ _ => true
  | .castable _ _ => true
  | .declares _ => true
  | _ => false
theorem isNest_warm {w : Cond} (h : isNest w = true) {u U : State} (hW : u.WarmedH U.vm) (hZ : va_Nw w u) : va_Nw w U := by
  cases w <;> first | (cases h; done) | exact va_Nw.warmF hW hZ | exact va_Nw.warmM hW hZ | exact va_Nw.warmC hW hZ | exact va_Nw.warmD hW hZ
theorem isNest_same {w : Cond} (h : isNest w = true) {u U : State} (hW : u.vm = U.vm) (hZ : va_Nw w u) : va_Nw w U := by
  cases w <;> first | (cases h; done) | exact va_Nw.same rfl hW hZ
theorem jNest_ok : ∀ w ∈ jNest, isNest w = true := by decide +kernel
theorem Kw.warm {cs : Nat → ClassId} {D : va_G} {u U : State} (hW : u.WarmedH U.vm) (h : Kw cs D u) : Kw cs D U := ⟨va_K.moved hW.alike h.1, fun w hw => isNest_warm (jNest_ok w hw) hW (h.2.1 w hw), va_AO.moved hW.alike h.2.2.1, va_AO.moved hW.alike h.2.2.2.1, over_moved hW.alike h.2.2.2.2.1, over_moved hW.alike h.2.2.2.2.2⟩
theorem Kw.same {cs : Nat → ClassId} {D : va_G} {u U : State} (hW : u.vm = U.vm) (h : Kw cs D u) : Kw cs D U := ⟨va_K.moved (by rw [hW]; exact Vm.Alike.refl _) h.1, fun w hw => isNest_same (jNest_ok w hw) hW (h.2.1 w hw), va_AO.moved (by rw [hW]; exact Vm.Alike.refl _) h.2.2.1, va_AO.moved (by rw [hW]; exact Vm.Alike.refl _) h.2.2.2.1, over_moved (by rw [hW]; exact Vm.Alike.refl _) h.2.2.2.2.1, over_moved (by rw [hW]; exact Vm.Alike.refl _) h.2.2.2.2.2⟩
theorem Kw.nest {cs : Nat → ClassId} {D : va_G} {u : State} {a : Array Value} (h : Kw cs D u) (w : Cond) (hw : w ∈ jNest) (ho : w.onTables = true) : w.before a u = true := va_Nw.use ho (h.2.1 w hw)
theorem Kw.over_RE {cs : Nat → ClassId} {D : va_G} {u : State} {a : Array Value} (h : Kw cs D u) : (Cond.arrayOver (.object "JoinedLeaves$Relation")).before a u = true := va_AO.use h.2.2.1
theorem Kw.over_AT {cs : Nat → ClassId} {D : va_G} {u : State} {a : Array Value} (h : Kw cs D u) : (Cond.arrayOver (.object "JoinedLeaves$Atom")).before a u = true := va_AO.use h.2.2.2.1
theorem Kw.over_I {cs : Nat → ClassId} {D : va_G} {u : State} {a : Array Value} (h : Kw cs D u) : (Cond.arrayOver (.array .int)).before a u = true := over_moved (Vm.Alike.refl _) h.2.2.2.2.1
theorem Kw.over_J {cs : Nat → ClassId} {D : va_G} {u : State} {a : Array Value} (h : Kw cs D u) : (Cond.arrayOver (.array .long)).before a u = true := over_moved (Vm.Alike.refl _) h.2.2.2.2.2
/-- the cells 1 .. n of a memory -/
def Aw (b n : Nat) : Nat → Prop := fun q => b < q ∧ q ≤ b + n
theorem Aw.all {b n : Nat} : ∀ k, 0 < k → k ≤ n → Aw b n (b + k) := fun k h1 h2 => ⟨by omega, by omega⟩
theorem Aw.le {b n k : Nat} (h : ∀ j, 0 < j → j ≤ k → Aw b n (b + j)) : k ≤ n := by
  by_cases h0 : 0 < k
  · have := (h k h0 (Nat.le_refl _)).2
    omega
  · omega
theorem Aw.sub {A : Nat → Prop} {b n q : Nat} (h : ∀ k, 0 < k → k ≤ n → A (b + k)) (hq : Aw b n q) : A q := by
  obtain ⟨k, rfl⟩ : ∃ k, q = b + k := ⟨q - b, by have := hq.1; omega⟩
  exact h k (by have := hq.1; omega) (by have := hq.2; omega)
/-- contracts: int, long, void; res: the answer and the memory behind it -/
abbrev MetI (l : Launch) (y : MethodName) (ws : List Cond) (fr lo b : Nat) (cs : Nat → ClassId) (D : va_G) (μ : Mem) (av : List Value) (res : Int32 × Mem) : Prop := Met l y ws { frames := fr, cells := 0, slots := 0, locals := lo } (Pw b cs D μ av) (va_Qi (fun r μ' => (r, μ') = res ∧ mN μ' ≤ mN μ) (Bw b cs D) (Aw b (mN μ))) 0 0 (Aw b (mN μ))
abbrev MetL (l : Launch) (y : MethodName) (ws : List Cond) (fr lo b : Nat) (cs : Nat → ClassId) (D : va_G) (μ : Mem) (av : List Value) (res : Int64 × Mem) : Prop := Met l y ws { frames := fr, cells := 0, slots := 0, locals := lo } (Pw b cs D μ av) (va_Ql (fun r μ' => (r, μ') = res ∧ mN μ' ≤ mN μ) (Bw b cs D) (Aw b (mN μ))) 0 0 (Aw b (mN μ))
abbrev MetV (l : Launch) (y : MethodName) (ws : List Cond) (fr lo b : Nat) (cs : Nat → ClassId) (D : va_G) (μ : Mem) (av : List Value) (res : Mem) : Prop := Met l y ws { frames := fr, cells := 0, slots := 0, locals := lo } (Pw b cs D μ av) (va_Qv (fun μ' => μ' = res ∧ mN μ' ≤ mN μ) (Bw b cs D) (Aw b (mN μ))) 0 0 (Aw b (mN μ))
theorem of_g {α : Type} {c : Prop} [Decidable c] {E : Option α} {r : α} (h : (if c then E else none) = some r) : c ∧ E = some r := by
  by_cases hc : c
  · rw [if_pos hc] at h
    exact ⟨hc, h⟩
  · rw [if_neg hc] at h
    cases h
theorem of_b {α β : Type} {x : Option α} {f : α → Option β} {r : β} (h : Option.bind x f = some r) : ∃ q, x = some q ∧ f q = some r := by
  cases x with
  | none => cases h
  | some q => exact ⟨q, rfl, h⟩
theorem Pw_blind {b : Nat} {cs : Nat → ClassId} {D : va_G} {μ : Mem} {av : List Value} : FrameBlind (Pw b cs D μ av) := fun a U g mk q => by
  obtain ⟨q0, q1, qK⟩ := q
  exact ⟨q0, q1, Kw.same (u := U) (U := U.calling g mk a) rfl qK⟩
section JW
variable {p : Program} {l : Launch} {e : Env} {R : Room} {s : State} {m : MethodId} {args : Array Value} {below : List Frame} {meth : Method} {c : Code} {H H0 : Heap} {locs : List Loc} {cells slots : Nat} {Q : State → Prop} {cc : ByteArray} {pc : Nat} {ls : Array Slot} {rest : List Value} {b : Nat} {cs : Nat → ClassId} {D : va_G} {μ : Mem} {A : Nat → Prop}
theorem Wd.start {av : List Value} (h : Pw b cs D μ av args s) : args = av.toArray ∧ Kw cs D s ∧ Wd (Aw b (mN μ)) b cs D s.heap μ s.heap [] := ⟨h.1, h.2.2, h.2.1.1, h.2.1.2, va_S.rf, Aw.all⟩
theorem Wd.preS {As : List Value} (hK : Kw cs D s) (hM : Wd A b cs D H0 μ H locs) : PreS s H (Pw b cs D μ As) As := ⟨Pw_blind, fun U hU hW => ⟨rfl, ⟨by rw [hU]; exact hM.1, by rw [hU]; exact hM.2.1⟩, Kw.warm hW hK⟩⟩
theorem Wd.preV {As : List Value} {k ci : Nat} {q : vw_C} (hK : Kw cs D s) (hM : Wd A b cs D H0 μ H locs) (ho : ok μ k ci = true) (hc : vwCl[ci]? = some q) (h1 : ci < 100) : PreV s H q.1 (b + k) (Pw b cs D μ (.ref (b + k) :: As)) As := ⟨Pw_blind, va_recv hK.1 hM.2.1 hc (en_obj ho h1), fun U hU hW => ⟨rfl, ⟨by rw [hU]; exact hM.1, by rw [hU]; exact hM.2.1⟩, Kw.warm hW hK⟩⟩
/-- behind a call: the world is the callee's -/
theorem Wd.back {t : State} {H1 : Heap} {locs1 : List Loc} {μ' : Mem} (hM : Wd A b cs D H0 μ H locs) (hn : mN μ' ≤ mN μ) (hB : Bw b cs D μ' t) (ht : t.heap = H1) (hS : va_S A H0 H1 locs1) : Wd A b cs D H0 μ' H1 locs1 := by
  subst ht
  exact ⟨hB.1, hB.2, hS, fun k h1 h2 => hM.2.2.2 k h1 (Nat.le_trans h2 hn)⟩
theorem g_calli {a : Array Value} {st0 : List Value} {q : Int32 × Mem} (hr : va_Run p l e R s m args below meth c H locs cells slots 0 0 (F0 m pc ls st0) rest (va_Qi (fun r0 μ0 => (r0, μ0) = q ∧ mN μ0 ≤ mN μ) (Bw b cs D) (Aw b (mN μ)) a) (Aw b (mN μ))) (hM : Wd A b cs D H0 μ H locs)
    (kk : ∀ (H1 : Heap) (locs1 : List Loc), Wd A b cs D H0 q.2 H1 locs1 → W p l e R s m args below meth c H1 locs1 cells slots Q (F0 m (pc + 3) ls (.int q.1 :: rest))) : W p l e R s m args below meth c H locs cells slots Q (F0 m pc ls st0) := by
  refine va_calli hr hM.2.2.1 (fun _ _ h => Aw.sub hM.2.2.2 h) (fun _ h => Aw.sub hM.2.2.2 h) (fun r0 u t H1 locs1 ht hvm hp hB hz hk hS => ?_)
  obtain ⟨hp, hn⟩ := hp
  cases hp
  exact kk H1 locs1 (Wd.back hM hn hB ht hS)
theorem g_calll {a : Array Value} {st0 : List Value} {q : Int64 × Mem} (hr : va_Run p l e R s m args below meth c H locs cells slots 0 0 (F0 m pc ls st0) rest (va_Ql (fun r0 μ0 => (r0, μ0) = q ∧ mN μ0 ≤ mN μ) (Bw b cs D) (Aw b (mN μ)) a) (Aw b (mN μ))) (hM : Wd A b cs D H0 μ H locs)
    (kk : ∀ (H1 : Heap) (locs1 : List Loc), Wd A b cs D H0 q.2 H1 locs1 → W p l e R s m args below meth c H1 locs1 cells slots Q (F0 m (pc + 3) ls (.long q.1 :: rest))) : W p l e R s m args below meth c H locs cells slots Q (F0 m pc ls st0) := by
  refine va_calll hr hM.2.2.1 (fun _ _ h => Aw.sub hM.2.2.2 h) (fun _ h => Aw.sub hM.2.2.2 h) (fun r0 u t H1 locs1 ht hvm hp hB hz hk hS => ?_)
  obtain ⟨hp, hn⟩ := hp
  cases hp
  exact kk H1 locs1 (Wd.back hM hn hB ht hS)
theorem g_callv {a : Array Value} {st0 : List Value} {q : Mem} (hr : va_Run p l e R s m args below meth c H locs cells slots 0 0 (F0 m pc ls st0) rest (va_Qv (fun μ0 => μ0 = q ∧ mN μ0 ≤ mN μ) (Bw b cs D) (Aw b (mN μ)) a) (Aw b (mN μ))) (hM : Wd A b cs D H0 μ H locs)
    (kk : ∀ (H1 : Heap) (locs1 : List Loc), Wd A b cs D H0 q H1 locs1 → W p l e R s m args below meth c H1 locs1 cells slots Q (F0 m (pc + 3) ls rest)) : W p l e R s m args below meth c H locs cells slots Q (F0 m pc ls st0) := by
  refine va_callv hr hM.2.2.1 (fun _ _ h => Aw.sub hM.2.2.2 h) (fun _ h => Aw.sub hM.2.2.2 h) (fun u t H1 locs1 ht hvm hp hB hz hk hS => ?_)
  obtain ⟨hp, hn⟩ := hp
  cases hp
  exact kk H1 locs1 (Wd.back hM hn hB ht hS)
end JW
theorem mI_s {μ : Mem} {k j : Nat} {v : Int32} : mI (sI μ k j v) k = upd (mI μ k) j v := va_up_self _ _ _
theorem mI_n {μ : Mem} {k j q : Nat} {v : Int32} (h : q ≠ k) : mI (sI μ k j v) q = mI μ q := va_up_ne _ _ h
theorem mI_ss {μ : Mem} {k j : Nat} {v : Int32} : mI (sI μ k j v) k j = v := by rw [mI_s]; exact pk_us
theorem mI_sn {μ : Mem} {k j i : Nat} {v : Int32} (h : i ≠ j) : mI (sI μ k j v) k i = mI μ k i := by rw [mI_s]; exact pk_un h
theorem mL_s {μ : Mem} {k j : Nat} {v : Int64} : mL (sL μ k j v) k = vp_updL (mL μ k) j v := va_up_self _ _ _
theorem mL_n {μ : Mem} {k j q : Nat} {v : Int64} (h : q ≠ k) : mL (sL μ k j v) q = mL μ q := va_up_ne _ _ h
theorem mL_ss {μ : Mem} {k j : Nat} {v : Int64} : mL (sL μ k j v) k j = v := by rw [mL_s]; exact pk_uLs
theorem mL_sn {μ : Mem} {k j i : Nat} {v : Int64} (h : i ≠ j) : mL (sL μ k j v) k i = mL μ k i := by rw [mL_s]; exact pk_uLn h
theorem mR_s {μ : Mem} {k j v : Nat} : mR (sR μ k j v) k = va_up (mR μ k) j v := va_up_self _ _ _
theorem mR_n {μ : Mem} {k j q v : Nat} (h : q ≠ k) : mR (sR μ k j v) q = mR μ q := va_up_ne _ _ h
theorem mR_ss {μ : Mem} {k j v : Nat} : mR (sR μ k j v) k j = v := by rw [mR_s]; exact va_up_self _ _ _
theorem mR_sn {μ : Mem} {k j i v : Nat} (h : i ≠ j) : mR (sR μ k j v) k i = mR μ k i := by rw [mR_s]; exact va_up_ne _ _ h
theorem en_lt {b : Nat} {cs : Nat → ClassId} {D : va_G} {μ : Mem} {H : Heap} (hP : va_P D vwCl (en b cs μ) H) (h : 0 < mN μ) : b + mN μ < H.size := (hP _ _ (en_get h (Nat.le_refl _))).lt
theorem Wd.to {A : Nat → Prop} {b : Nat} {cs : Nat → ClassId} {D : va_G} {H0 H1 : Heap} {μ μ' : Mem} {locs1 : List Loc} {k : Nat} {x : va_E} (h0 : 0 < k) (h1 : k ≤ mN μ) (hN : mN μ' = mN μ) (hd : ∀ q, q ≠ k → ce b cs μ' q = ce b cs μ q) (hx : ce b cs μ' k = x) (hP : va_P D vwCl ((en b cs μ).set (k - 1) (b + k, x)) H1) (hS : va_S A H0 H1 locs1) (hA : ∀ k, 0 < k → k ≤ mN μ → A (b + k)) : Wd A b cs D H0 μ' H1 locs1 := by
  rw [en_set hN h0 hd hx] at hP
  exact ⟨en_lt hP (by omega), hP, hS, fun k h1 h2 => hA k h1 (by omega)⟩
theorem Wd.puti {A : Nat → Prop} {b : Nat} {cs : Nat → ClassId} {D : va_G} {H0 H1 : Heap} {μ : Mem} {locs1 : List Loc} {k ci j : Nat} {v : Int32} (ho : ok μ k ci = true) (hc : ci < 100) (hty : jT ci j = .int ∨ jT ci j = .boolean) (hP : va_P D vwCl ((en b cs μ).set (k - 1) (b + k, .inr (ci, (fl b μ k ci).set j (.int v)))) H1) (hS : va_S A H0 H1 locs1) (hA : ∀ k, 0 < k → k ≤ mN μ → A (b + k)) : Wd A b cs D H0 (sI μ k j v) H1 locs1 := by
  obtain ⟨h0, h1, h2⟩ := ok_e ho
  refine Wd.to h0 h1 rfl (fun q hq => ce_congr rfl (mI_n hq) rfl rfl) ?_ hP hS hA
  rw [ce_obj (μ := sI μ k j v) h2 hc]
  refine congrArg (fun z => Sum.inr (ci, z)) (fl_set (fun i hi => ?_) ?_).symm
  · unfold fv
    rw [mI_sn hi]
    rfl
  · rcases hty with h | h
    · rw [h]
      exact congrArg Value.int mI_ss
    · rw [h]
      exact congrArg Value.int mI_ss
theorem Wd.putl {A : Nat → Prop} {b : Nat} {cs : Nat → ClassId} {D : va_G} {H0 H1 : Heap} {μ : Mem} {locs1 : List Loc} {k ci j : Nat} {v : Int64} (ho : ok μ k ci = true) (hc : ci < 100) (hty : jT ci j = .long) (hP : va_P D vwCl ((en b cs μ).set (k - 1) (b + k, .inr (ci, (fl b μ k ci).set j (.long v)))) H1) (hS : va_S A H0 H1 locs1) (hA : ∀ k, 0 < k → k ≤ mN μ → A (b + k)) : Wd A b cs D H0 (sL μ k j v) H1 locs1 := by
  obtain ⟨h0, h1, h2⟩ := ok_e ho
  refine Wd.to h0 h1 rfl (fun q hq => ce_congr rfl rfl (mL_n hq) rfl) ?_ hP hS hA
  rw [ce_obj (μ := sL μ k j v) h2 hc]
  refine congrArg (fun z => Sum.inr (ci, z)) (fl_set (fun i hi => ?_) ?_).symm
  · unfold fv
    rw [mL_sn hi]
    rfl
  · rw [hty]
    exact congrArg Value.long mL_ss
theorem Wd.putr {A : Nat → Prop} {b : Nat} {cs : Nat → ClassId} {D : va_G} {H0 H1 : Heap} {μ : Mem} {locs1 : List Loc} {k ci j v : Nat} (ho : ok μ k ci = true) (hc : ci < 100) (hty : ∀ x, fv b x k j (jT ci j) = rv b (mR x k j)) (hv : 0 < v) (hP : va_P D vwCl ((en b cs μ).set (k - 1) (b + k, .inr (ci, (fl b μ k ci).set j (.ref (b + v))))) H1) (hS : va_S A H0 H1 locs1) (hA : ∀ k, 0 < k → k ≤ mN μ → A (b + k)) : Wd A b cs D H0 (sR μ k j v) H1 locs1 := by
  obtain ⟨h0, h1, h2⟩ := ok_e ho
  refine Wd.to h0 h1 rfl (fun q hq => ce_congr rfl rfl rfl (mR_n hq)) ?_ hP hS hA
  rw [ce_obj (μ := sR μ k j v) h2 hc]
  refine congrArg (fun z => Sum.inr (ci, z)) (fl_set (fun i hi => ?_) ?_).symm
  · unfold fv
    rw [mR_sn hi]
    rfl
  · rw [hty, mR_ss]
    unfold rv
    rw [if_neg (by omega)]
theorem Wd.asti {A : Nat → Prop} {b : Nat} {cs : Nat → ClassId} {D : va_G} {H0 H1 : Heap} {μ : Mem} {locs1 : List Loc} {k j : Nat} {v : Int32} (ho : ok μ k 100 = true) (hP : va_P D vwCl ((en b cs μ).set (k - 1) (b + k, .inl (cs 0, mZ μ k, .inl (upd (mI μ k) j v)))) H1) (hS : va_S A H0 H1 locs1) (hA : ∀ k, 0 < k → k ≤ mN μ → A (b + k)) : Wd A b cs D H0 (sI μ k j v) H1 locs1 := by
  obtain ⟨h0, h1, h2⟩ := ok_e ho
  refine Wd.to h0 h1 rfl (fun q hq => ce_congr rfl (mI_n hq) rfl rfl) ?_ hP hS hA
  rw [ce_int (μ := sI μ k j v) h2, mI_s]
  rfl
theorem Wd.astl {A : Nat → Prop} {b : Nat} {cs : Nat → ClassId} {D : va_G} {H0 H1 : Heap} {μ : Mem} {locs1 : List Loc} {k j : Nat} {v : Int64} (ho : ok μ k 101 = true) (hP : va_P D vwCl ((en b cs μ).set (k - 1) (b + k, .inl (cs 1, mZ μ k, .inr (.inl (vp_updL (mL μ k) j v))))) H1) (hS : va_S A H0 H1 locs1) (hA : ∀ k, 0 < k → k ≤ mN μ → A (b + k)) : Wd A b cs D H0 (sL μ k j v) H1 locs1 := by
  obtain ⟨h0, h1, h2⟩ := ok_e ho
  refine Wd.to h0 h1 rfl (fun q hq => ce_congr rfl rfl (mL_n hq) rfl) ?_ hP hS hA
  rw [ce_long (μ := sL μ k j v) h2, mL_s]
  rfl
theorem Wd.astr {A : Nat → Prop} {b : Nat} {cs : Nat → ClassId} {D : va_G} {H0 H1 : Heap} {μ : Mem} {locs1 : List Loc} {k j v : Nat} (t : Nat) (ho : ok μ k (102 + t) = true) (hv : 0 < v) (hP : va_P D vwCl ((en b cs μ).set (k - 1) (b + k, .inl (cs (2 + t), mZ μ k, .inr (.inr (.inr (.inr (va_up (fun j => ro b (mR μ k j)) j (some (b + v))))))))) H1) (hS : va_S A H0 H1 locs1) (hA : ∀ k, 0 < k → k ≤ mN μ → A (b + k)) : Wd A b cs D H0 (sR μ k j v) H1 locs1 := by
  obtain ⟨h0, h1, h2⟩ := ok_e ho
  refine Wd.to h0 h1 rfl (fun q hq => ce_congr rfl rfl rfl (mR_n hq)) ?_ hP hS hA
  rw [ce_refs (μ := sR μ k j v) h2, mR_s]
  refine congrArg (fun z => (Sum.inl (cs (2 + t), mZ μ k, .inr (.inr (.inr (.inr z)))) : va_E)) (funext fun i => ?_)
  by_cases hi : i = j
  · subst hi
    rw [va_up_self, va_up_self]
    unfold ro
    rw [if_neg (by omega)]
  · rw [va_up_ne _ _ hi, va_up_ne _ _ hi]
