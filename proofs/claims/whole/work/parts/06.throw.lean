/-! Exceptions that the class throws, in launches without stack traces: the making and throwing of one, its way out of a method, its catching. -/
/-- the words on Throwable's two statics: the heap decides them too -/
def xS : List Cond := [.isRef (.static Bundle.tN "UNASSIGNED_STACK" Bundle.steD), .isRef (.static Bundle.tN "SUPPRESSED_SENTINEL" Bundle.listD), .laysStatic Bundle.tN "UNASSIGNED_STACK" Bundle.steD, .laysStatic Bundle.tN "SUPPRESSED_SENTINEL" Bundle.listD]
/-- the class's texts, by their entries -/
def jS : List (Nat × String) := [(143, "the question is no tree"), (104, "no such atom"), (130, "a variable of the head is in no atom"), (138, "more than 64 answers"), (119, "no such answer, or no such value in it")]
/-- which of the exceptions are not of which class -/
def jC : List (String × String) := [("java/lang/IllegalArgumentException", "java/lang/IllegalStateException"), ("java/lang/UnsupportedOperationException", "java/lang/IllegalStateException"), ("java/lang/UnsupportedOperationException", "java/lang/IllegalArgumentException"), ("java/lang/IndexOutOfBoundsException", "java/lang/IllegalStateException"), ("java/lang/IndexOutOfBoundsException", "java/lang/IllegalArgumentException"), ("java/lang/IndexOutOfBoundsException", "java/lang/UnsupportedOperationException")]
/-- what a state knows for throwing: the words held in some earlier state u0, all of whose cells lie at or below b and are as they were; and where the texts lie -/
def Zx (b : Nat) (U : State) (H : Heap) : Prop := (∃ u0 : State, (∀ w ∈ xS, w.before #[] u0 = true) ∧ u0.vm.Alike U.vm ∧ u0.heap.size ≤ b + 1 ∧ ∀ q : Nat, q < u0.heap.size → H[q]? = u0.heap[q]?) ∧ (∀ q ∈ jS, ∃ sa, vk_R "JoinedLeaves" q.1 q.2 sa U) ∧ ∀ q ∈ jC, va_Nc q.1 q.2 U
theorem Zx.to {b : Nat} {u U : State} {H H1 : Heap} (hW : u.WarmedH U.vm) (h : Zx b u H) (hq : ∀ a : Nat, a < H.size → a ≤ b → H1[a]? = H[a]?) : Zx b U H1 := by
  obtain ⟨⟨u0, h1, h2, h3, h4⟩, h5, h7⟩ := h
  refine ⟨⟨u0, h1, h2.trans hW.alike, h3, fun q hlt => ?_⟩, fun q hm => ?_, fun q hm => va_Nc.moved hW.alike (h7 q hm)⟩
  · have hsome : H[q]? = some u0.heap[q] := (h4 q hlt).trans (Array.getElem?_eq_getElem hlt)
    rw [hq q (Array.getElem?_eq_some_iff.mp hsome).1 (by omega)]
    exact h4 q hlt
  · obtain ⟨sa, h6⟩ := h5 q hm
    exact ⟨sa, vk_R.warm hW h6⟩
abbrev Px (b : Nat) (cs : Nat → ClassId) (D : va_G) (μ : Mem) (av : List Value) : Array Value → State → Prop := va_Pc av (fun U => Bw b cs D μ U ∧ Kw cs D U ∧ Zx b U U.heap)
/-- a method has thrown an E, with the memory μ' behind it -/
def QT (b : Nat) (cs : Nat → ClassId) (D : va_G) (E : String) (μ μ' : Mem) : Array Value → State → Outcome → State → Prop := fun _ st o t => ∃ (q : Addr) (ce : Cell) (L : List Loc), o = .threw q ∧ t.heap[q]? = some ce ∧ ce.vm = .none ∧ st.vm.findClass E = some ce.cls ∧ Bw b cs D μ' t ∧ va_F (Aw b (mN μ)) st t ∧ st.WarmedH t.vm ∧ st.sameButNew ({ t with vm := st.vm } : State) L 1 6 ∧ mN μ' ≤ mN μ ∧ ∀ z ∈ L, Aw b (mN μ) z.base
def MT (below : List Frame) (b : Nat) (cs : Nat → ClassId) (D : va_G) (E : String) (μ μ' : Mem) (a : Array Value) (s : State) : State → Prop := fun t => ∃ o, t.status = .running ∧ Ended t below o ∧ QT b cs D E μ μ' a s o t
def MetT (l : Launch) (y : MethodName) (ws : List Cond) (fr lo b : Nat) (cs : Nat → ClassId) (D : va_G) (μ : Mem) (av : List Value) (E : String) (μ' : Mem) : Prop := MetFree l y (headSpec ws { frames := fr, cells := 1, slots := 6, locals := lo }) (Px b cs D μ av) (fun _ _ _ _ _ => True) (QT b cs D E μ μ')
theorem MetT.ofW {l : Launch} {y : MethodName} {ws ws' : List Cond} {fr lo b : Nat} {cs : Nat → ClassId} {D : va_G} {μ μ' : Mem} {av : List Value} {E : String} {cc : ByteArray} {maxL : Nat} {ret : Option FieldType} (hy : plainName y.cls = true) (hw : ws = Cond.code y cc maxL ret :: ws')
    (body : ∀ p e s m args below meth c s₁, BodyLoose p l y (headSpec ws { frames := fr, cells := 1, slots := 6, locals := lo }) cc maxL ret e s m args below meth c s₁ → c.maxLocals = maxL → c.exceptionTable.isEmpty = true → Px b cs D μ av args s →
      W p l e (headSpec ws { frames := fr, cells := 1, slots := 6, locals := lo }).room s m args below meth c s.heap [] 0 0 (MT below b cs D E μ μ' args s) (entryFrame m args maxL)) : MetT l y ws fr lo b cs D μ av E μ' := by
  have hcode : ∀ (args : Array Value) (s : State), (headSpec ws { frames := fr, cells := 1, slots := 6, locals := lo }).pre.before args s = true → (Cond.code y cc maxL ret).before args s = true := fun args s h => atoms_spec (ws := ws) h _ (by rw [hw]; exact List.mem_cons_self)
  refine MetFree.of_bodyS (code := cc) (maxLocals := maxL) (ret := ret) hy ?_ ?_
  · intro args s m h hn
    obtain ⟨meth, c, h1, h2, h3, h4, h5, h6, -, -⟩ := Cond.code_spec hn (hcode args s h)
    exact ⟨meth, c, h1, h2, h3, h4, h5, h6⟩
  · intro p e s m args below meth c s₁ B hml hP _
    have hh0 : s₁.heap = s.heap := by rw [B.state]; rfl
    obtain ⟨t, a1, o, b1, b2, b3⟩ := body p e s m args below meth c s₁ B hml (B.noHandlers (hcode args s B.pre)) hP s₁ hh0 (Stand.of_body B)
    exact ⟨t, o, a1, b1, b2, b3⟩
section JX
variable {p : Program} {l : Launch} {e : Env} {R : Room} {s : State} {m : MethodId} {args : Array Value} {below : List Frame} {meth : Method} {c : Code} {H H0 : Heap} {locs : List Loc} {cells slots : Nat} {Q : State → Prop} {cc : ByteArray} {pc : Nat} {ls : Array Slot} {rest : List Value} {b : Nat} {cs : Nat → ClassId} {D : va_G} {μ : Mem}
theorem Wd.startX {av : List Value} (h : Px b cs D μ av args s) : args = av.toArray ∧ Kw cs D s ∧ Zx b s s.heap ∧ Wd (Aw b (mN μ)) b cs D s.heap μ s.heap [] := ⟨h.1, h.2.2.1, h.2.2.2, h.2.1.1, h.2.1.2, va_S.rf, Aw.all⟩
end JX
/-- the words on the two statics hold where the cells at or below b are as they were -/
theorem x_lays {args args0 : Array Value} {u s : State} {n d : String} (h : (Cond.laysStatic Bundle.tN n d).before args0 u = true) (hal : u.vm.Alike s.vm) (hh : ∀ q : Nat, q < u.heap.size → s.heap[q]? = u.heap[q]?) : ∃ (k : Class) (f : Field) (a : Nat) (cell : Cell) (c i : Nat), s.fieldFound? Bundle.tN n d = some (c, k, i, f) ∧ f.isStatic = true ∧ k.statics = some a ∧ u.heap[a]? = some cell ∧ s.heap[a]? = some cell ∧ cell.vm.isStatics = true ∧ (Cond.laysStatic Bundle.tN n d).before args s = true := by
  obtain ⟨c, k, i, f, a, cell, h1, h2, h3, h4, h5, h6, h7, h8, h9⟩ := Cond.laysStatic_spec (Cond.laysStatic_setVm hal h)
  have h5 : u.heap[a]? = some cell := h5
  have h10 : s.heap[a]? = some cell := (hh a (Array.getElem?_eq_some_iff.mp h5).1).trans h5
  exact ⟨k, f, a, cell, c, i, h2, h3, h4, h5, h10, h6, Cond.laysStatic_of (s := s) h1 h2 h3 h4 h10 h6 h7 h8 h9⟩
theorem x_ref {args args0 : Array Value} {u s : State} {n d : String} (hl : (Cond.laysStatic Bundle.tN n d).before args0 u = true) (h : (Cond.isRef (.static Bundle.tN n d)).before args0 u = true) (hal : u.vm.Alike s.vm) (hh : ∀ q : Nat, q < u.heap.size → s.heap[q]? = u.heap[q]?) : (Cond.isRef (.static Bundle.tN n d)).before args s = true := by
  obtain ⟨k, f, a, cell, c, i, h1, h2, h3, h4, h5, h6, -⟩ := x_lays (args := args) hl hal hh
  have hv := Cond.value_setVm (args := args0) (o := none) hal (.isRef (.static Bundle.tN n d)) [] rfl
  have hu : (Cond.isRef (.static Bundle.tN n d)).value args0 (u.setVm s.vm) none (u.setVm s.vm) [] = some true := by
    rw [hv]
    simpa [Cond.before, Cond.holds] using h
  have h1u : (u.setVm s.vm).fieldFound? Bundle.tN n d = some (c, k, i, f) := h1
  have h4u : (u.setVm s.vm).heap[a]? = some cell := h4
  have ev : ∀ (S : State) (A : Array Value), S.fieldFound? Bundle.tN n d = some (c, k, i, f) → S.heap[a]? = some cell → (Term.static Bundle.tN n d).eval A S none [] S = cell.slots[f.slot]? := by
    intro S A g1 g2
    simp [Term.eval, State.fieldNamed?, g1, h2, h3, g2, h6]
  simp only [Cond.value, ev _ _ h1u h4u] at hu
  simp only [Cond.before, Cond.holds, Cond.value, ev _ _ h1 h5, hu]
  rfl
theorem Zx.word {b : Nat} {s : State} {args : Array Value} (hZ : Zx b s s.heap) : ∀ w ∈ xS, w.before args s = true := by
  obtain ⟨⟨u0, h1, h2, -, h4⟩, -, -⟩ := hZ
  have m0 := h1 _ (List.mem_of_getElem? (i := 0) rfl)
  have m1 := h1 _ (List.mem_of_getElem? (i := 1) rfl)
  have m2 := h1 _ (List.mem_of_getElem? (i := 2) rfl)
  have m3 := h1 _ (List.mem_of_getElem? (i := 3) rfl)
  obtain ⟨-, -, -, -, -, -, -, -, -, -, -, -, l2⟩ := x_lays (args := args) m2 h2 h4
  obtain ⟨-, -, -, -, -, -, -, -, -, -, -, -, l3⟩ := x_lays (args := args) m3 h2 h4
  intro w hw
  simp only [xS, List.mem_cons, List.not_mem_nil, or_false] at hw
  rcases hw with rfl | rfl | rfl | rfl
  · exact x_ref m2 m0 h2 h4
  · exact x_ref m3 m1 h2 h4
  · exact l2
  · exact l3
