/-! A call whose exception the caller catches -/
section JH
variable {p : Program} {l : Launch} {e : Env} {R : Room} {s : State} {m : MethodId} {args : Array Value} {below : List Frame} {meth : Method} {c : Code} {H H0 : Heap} {locs : List Loc} {cells slots : Nat} {Q : State → Prop} {cc : ByteArray} {pc : Nat} {ls : Array Slot} {rest : List Value} {b : Nat} {cs : Nat → ClassId} {D : va_G} {μ μ0 μ' : Mem}
theorem g_catchV {own C : String} {index nL n maxL fr lo : Nat} {y : MethodName} {bytes : ByteArray} {ret : Option FieldType} {k ci : Nat} {As : List Value} {E : String} {q : vw_C} (hx : p.tables.exec = Jvm.exec) (hb : c.code = cc) (hml : c.maxLocals = nL) (hown : s.vm.findClass own = some m.cls) (hts : ∀ w ∈ jW, w.before args s = true) (hK : Kw cs D s) (hZ : Zx b s s.heap) (hM : Wd (Aw b (mN μ0)) b cs D s.heap μ H locs)
    (hM1 : MetT l y (Cond.code y bytes maxL ret :: jW) fr lo b cs D μ (.ref (b + k) :: As) E μ') (hc : Cond.code y bytes maxL ret ∈ jW) (hi : Cond.initialized y.cls ∈ jW) (hlink : Cond.methodLink own index y ∈ jW) (hinst : Cond.instanceMethod y ∈ jW) (hsel : Cond.selects C y y ∈ jW) (hy : y.cls ≠ "java/lang/invoke/MethodHandle" ∧ y.cls ≠ "java/lang/invoke/VarHandle" ∧ (parseMethodDescriptor y.desc).map (fun d => d.parameters.length) = some n) (hfr : fr + 1 ≤ R.frames) (hlo : 8 + (maxL + 11) + lo ≤ R.locals)
    (ho : ok μ k ci = true) (hci : ci < 100) (hcl : vwCl[ci]? = some q) (hqC : q.1 = C) (hn : As.length = n) (hls : ls.size = nL) (hcat : (rest.map fun v => v.category).sum ≤ 8) (hdg : decode cc pc = .ok (.invokevirtual index, 3)) (hRc : cells + 1 ≤ R.cells) (hRs : slots + 6 ≤ R.slots)
    (pre : List ExceptionTableEntry) (x : ExceptionTableEntry) (suf : List ExceptionTableEntry) (hsplit : c.exceptionTable.toList = pre ++ x :: suf) (hpass : ∀ z ∈ pre, z.catchType ≠ 0 ∧ ∃ nm : String, Cond.classLink own z.catchType nm ∈ jW ∧ va_Nc E nm s) (hcov : covers x pc = true) (h0 : x.catchType ≠ 0) (hck : Cond.classLink own x.catchType E ∈ jW) (hcast : Cond.castable E E ∈ jNest) {hpc : Nat} (hh : x.handlerPc = hpc)
    (kk : ∀ (a : Addr) (H : Heap) (locs : List Loc), Wd (Aw b (mN μ0)) b cs D s.heap μ' H locs → W p l e R s m args below meth c H locs (cells + 1) (slots + 6) Q (F0 m hpc ls [.ref a])) : W p l e R s m args below meth c H locs cells slots Q (F0 m pc ls (As.reverse ++ .ref (b + k) :: rest)) := by
  subst hh
  intro T hT X
  obtain ⟨a, T1, L, ce, X2, g1, g2, g3, g4, g5, st⟩ := x_runV hx hb hml hown hts hK hZ hM (fun z h1 h2 => by have := h2.1; omega) hM1 hc hi hlink hinst hsel hy hfr hlo ho hci hcl hqC hn hls hcat hdg hRc hRs hT X
  have hpl : e.platform.magicAccessors = ({} : Platform).magicAccessors := by rw [X.admits.platform]
  obtain ⟨c3, c4, hc3, hc4, hasg⟩ := Cond.castable_spec (hK.nest (a := args) _ hcast rfl)
  cases hc3.symm.trans g4
  cases hc4.symm.trans g4
  obtain ⟨c5, hc5, hl5⟩ := Cond.classLink_spec hown (hts _ hck) e.platform hpl
  cases hc5.symm.trans g4
  obtain ⟨k9, hk9, -⟩ := Vm.findClass_spec g4
  obtain ⟨vm2, X3, st3⟩ := X2.thenCaughtThrough a (g := F0 m pc ls rest) rfl (Steps.refl _) g2 (by rw [g3]; rfl) ⟨k9, hk9⟩ pre x suf hsplit (fun z hz => by
    obtain ⟨hz0, nm, hz1, a8, b8, z1, z2, z3⟩ := hpass z hz
    cases z1.symm.trans g4
    obtain ⟨c6, hc6, hl6⟩ := Cond.classLink_spec hown (hts _ hz1) e.platform hpl
    cases z2.symm.trans hc6
    exact Or.inr ⟨hz0, _, hl6, z3⟩) hcov (Or.inr ⟨h0, _, hl5, hasg⟩)
  obtain ⟨t, a1, b1⟩ := kk a T1.heap (locs ++ L) g5 (T1.setVm vm2) rfl X3
  exact ⟨t, st _ (st3.trans a1), b1⟩
end JH
/-- the rows of a table of handlers, by what the words say of them -/
def hRow (x : ExceptionTableEntry) : Nat × Nat × Nat × Nat := (x.startPc, x.endPc, x.handlerPc, x.catchType)
theorem hTab {L : List ExceptionTableEntry} {a : Nat × Nat × Nat × Nat} {as : List (Nat × Nat × Nat × Nat)} (h : L.map (fun h => (h.startPc, h.endPc, h.handlerPc, h.catchType)) = a :: as) : ∃ x xs, L = x :: xs ∧ (x.startPc = a.1 ∧ x.endPc = a.2.1 ∧ x.handlerPc = a.2.2.1 ∧ x.catchType = a.2.2.2) ∧ xs.map (fun h => (h.startPc, h.endPc, h.handlerPc, h.catchType)) = as := by
  cases L with
  | nil => cases h
  | cons x xs =>
    rw [List.map_cons] at h
    injection h with h1 h2
    subst h1
    exact ⟨x, xs, rfl, ⟨rfl, rfl, rfl, rfl⟩, h2⟩
theorem hNil {L : List ExceptionTableEntry} (h : L.map (fun h => (h.startPc, h.endPc, h.handlerPc, h.catchType)) = []) : L = [] := List.map_eq_nil_iff.mp h
