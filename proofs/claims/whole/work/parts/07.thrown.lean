/-! 'throw new E("text")' from the 'new' on, over the library's Stand.ctorThrowS -/
section JT
variable {p : Program} {l : Launch} {e : Env} {R : Room} {s : State} {m : MethodId} {args : Array Value} {below : List Frame} {meth : Method} {c : Code} {H H0 : Heap} {locs : List Loc} {cells slots : Nat} {Q : State → Prop} {cc : ByteArray} {pc : Nat} {ls : Array Slot} {rest : List Value} {b : Nat} {cs : Nat → ClassId} {D : va_G} {μ μ0 : Mem}
set_option maxRecDepth 100000 in
/-- a frame that stands may be taken as a call that begins in the heap as it is now: what is left of the room is its room -/
theorem x_anew {T : State} (X : Stand p l e R s m args below meth c T locs cells slots) (hc : cells + 1 ≤ R.cells) (hs : slots + 6 ≤ R.slots) :
    ∃ s' : State, s'.vm = s.vm ∧ s'.heap = T.heap ∧ s' = (T.setVm s.vm).setFrames (.invoking m args :: below) ∧ Stand p l e { frames := R.frames, cells := 1, slots := 6, locals := R.locals } s' m args below meth c T [] 0 0 := by
  obtain ⟨g0, hg0⟩ := X.frames_eq
  have hTf : (T.setVm s.vm).frames = .java g0 :: below := hg0
  obtain ⟨th, hth, -⟩ := State.frames_cons hTf
  have hcur : (T.setVm s.vm).cur < (T.setVm s.vm).threads.size := (Array.getElem?_eq_some_iff.mp hth).1
  obtain ⟨s', hs'⟩ : ∃ z, z = (T.setVm s.vm).setFrames (.invoking m args :: below) := ⟨_, rfl⟩
  have hF : s'.frames = .invoking m args :: below := by rw [hs']; exact State.frames_setFrames _ hcur
  have hback : T.setVm s.vm = s'.setFrames T.frames := by
    rw [hs', State.setFrames_setFrames]
    exact (State.setFrames_self hth).symm
  have hvm : s'.vm = s.vm := by rw [hs']; rfl
  have hheap : s'.heap = T.heap := by rw [hs']; rfl
  have hmeth : s'.vm.method? m = some meth := by rw [hvm]; exact X.method
  have hlim : e.platform.stackLimits s'.me = e.platform.stackLimits T.me := by rw [hs', State.stackLimits_setFrames]; rfl
  have hbyt : s'.me.stackBytes = T.me.stackBytes := by rw [hs', State.stackBytes_setFrames]; rfl
  have hloc : s'.localsInUse = s.localsInUse := by
    rw [State.localsInUse_invoking hF hmeth X.code, State.localsInUse_invoking X.frames X.method X.code]
  have hlen : s'.frames.length = s.frames.length := by rw [hF, X.frames, List.length_cons]
  have hreal := State.hasRoom_real X.room
  obtain ⟨r1, -, r3, -⟩ := State.hasRoom_stack X.room
  have hroom : s'.hasRoom e.platform { frames := R.frames, cells := 1, slots := 6, locals := R.locals } = true := by
    refine State.hasRoom_of ?_ ?_ ?_ ?_ ?_ ?_ ?_
    · rw [hbyt, X.bytes]
      exact State.hasRoom_plain X.room
    · rw [hlen]
      exact r1
    · rw [hloc]
      exact r3
    · rw [hheap]
      exact X.cellsAbove hc
    · rw [show s'.slotsUsed = T.slotsUsed by rw [hs']; rfl]
      exact X.slotsAbove hs
    · rw [hs']
      exact X.book
    · rw [hloc]
      exact hreal
  have hth' : s'.cur < s'.threads.size := State.cur_lt_of_frames hF
  obtain ⟨th', ht', -⟩ := State.frames_cons hF
  refine ⟨s', hvm, hheap, hs', X.admits, X.cas, X.clock, hF, hroom, ?_, hmeth, X.code, X.here, X.tail, ?_, hlim.symm, hbyt.symm, ?_⟩
  · rw [hs']
    exact X.hears
  · have h := X.warmed
    rw [hs']
    exact h
  · rw [hvm, hback]
    exact (State.sameButNew.refl s' ht').setFrames T.frames hth'
theorem isNest_on {w : Cond} (h : isNest w = true) : w.onTables = true := by
  cases w <;> first | rfl | (cases h; done)
/-- the words of a throw, where the tables are those of s and the cells at or below b are as they were -/
theorem x_words {s' : State} {L : List Cond} (hvm : s'.vm = s.vm) (hts : ∀ w ∈ jW, w.before args s = true) (hK : Kw cs D s) (hZ : Zx b s s.heap) (hh : ∀ q : Nat, q < s.heap.size → q ≤ b → s'.heap[q]? = s.heap[q]?) (hL : ∀ w ∈ L, w ∈ jW ∨ w ∈ jNest ∨ w ∈ xS) : ∀ w ∈ L, w.before args s' = true := by
  have hW : s.WarmedH s'.vm := by rw [hvm]; exact State.WarmedH.refl s
  intro w hw
  rcases hL w hw with h | h | h
  · exact word_at hW (good_of_word (List.all_eq_true.mp jW_good w h)) (hts w h)
  · exact va_Nw.use (isNest_on (jNest_ok w h)) (isNest_same (jNest_ok w h) hvm.symm (hK.2.1 w h))
  · exact (hZ.to (U := s') (H1 := s'.heap) hW hh).word w h
theorem g_throw (hx : p.tables.exec = Jvm.exec) (hb : c.code = cc) (hl : l.stackTraces = false) {own E text : String} {ik is ic sa : Nat} (names : List String) (hown : s.vm.findClass own = some m.cls) (hE : Bundle.fit E = true) (hnm : ∀ n ∈ names, Bundle.fit n = true) (hts : ∀ w ∈ jW, w.before args s = true) (hK : Kw cs D s) (hZ : Zx b s s.heap) (hk : Cond.classLink own ik E ∈ jW) (hi : Cond.initialized E ∈ jW) (hstr : vk_R own is text sa s) (hL : ∀ w ∈ Bundle.ownAtoms own ic E names, w ∈ jW ∨ w ∈ jNest ∨ w ∈ xS)
    (hM : Wd (Aw b (mN μ0)) b cs D s.heap μ H locs) (hsize : ls.size = c.maxLocals) (d0 : decode cc pc = .ok (.new ik, 3)) (d3 : decode cc (pc + 3) = .ok (.dup, 1)) (d4 : decode cc (pc + 4) = .ok (.ldc is, 2)) (d6 : decode cc (pc + 6) = .ok (.invokespecial ic, 3)) (d9 : decode cc (pc + 9) = .ok (.athrow, 1)) (hout : c.exceptionTable.isEmpty = true)
    (hRf : names.length + 3 < R.frames) (hRl : (rest.map fun v => v.category).sum + (13 * (names.length + 1) + 43) ≤ R.locals) (hRc : cells + 1 ≤ R.cells) (hRs : slots + 6 ≤ R.slots) (hc1 : cells = 0) (hs1 : slots = 0) (hlocks : meth.locks = false) : W p l e R s m args below meth c H locs cells slots (MT below b cs D E μ0 μ args s) (F0 m pc ls rest) := by
  subst hc1
  subst hs1
  intro T hT X
  have htr : e.platform.stackTraces = false := by
    have h : e.platform.stackTraces = l.stackTraces := by rw [X.admits.platform]
    rw [h]
    exact hl
  obtain ⟨s', hvm, hheap, hs', Y⟩ := x_anew X hRc hRs
  have hW0 : s.WarmedH s'.vm := by rw [hvm]; exact State.WarmedH.refl s
  have hold : ∀ q : Nat, q < s.heap.size → q ≤ b → s'.heap[q]? = s.heap[q]? := fun q h1 h2 => by
    rw [hheap, hT]
    exact hM.2.2.1.2.1 q h1 (fun z => by have := z.1; omega)
  have hw := x_words hvm hts hK hZ hold hL
  have hg := x_words (L := [Cond.classLink own ik E, Cond.initialized E]) hvm hts hK hZ hold (fun w h => by
    rcases List.mem_cons.mp h with rfl | h
    · exact Or.inl hk
    · rw [List.mem_singleton.mp h]
      exact Or.inl hi)
  have hown' : s'.vm.findClass own = some m.cls := by rw [hvm]; exact hown
  obtain ⟨vm1, cX, kX, hfX, hkX, -, -, X1, st1⟩ := Y.newCold hx (own := own) (C := E) (index := ik) (n := 6) hown' (hg _ List.mem_cons_self) (hw (.instantiable E 6) (by simp [Bundle.ownAtoms])) (hg _ (List.mem_cons_of_mem _ List.mem_cons_self)) (g := F0 m pc ls rest) rfl (by rw [hb]; exact d0) (Nat.le_refl _) (Nat.le_refl _)
  have hnew : ((T.setVm vm1).pushCell { cls := cX, slots := kX.instanceTypes.map defaultValue, vm := .none }).heap[T.heap.size]? = some (freshCell cX kX) := State.heap_pushCell_size _ _
  generalize (T.setVm vm1).pushCell { cls := cX, slots := kX.instanceTypes.map defaultValue, vm := .none } = T1 at X1 st1 hnew
  have hstr' := vk_R.warm hW0 hstr
  obtain ⟨U, hst, hrun, hend, hW, hsame, ce, hce, hO⟩ := X1.ctorThrowS hx htr (own := own) (cls := E) (names := names) (ic := ic) hown' hE hnm hw (fun x hx => absurd hx List.not_mem_nil) hfX hkX hnew (by rw [hheap]; exact Nat.le_refl _) (msg := .ref sa) rfl
    (g := F0 m (pc + 6) ls (.ref sa :: .ref T.heap.size :: .ref T.heap.size :: rest)) rfl hsize rfl rfl (rest := rest) rfl (by rw [hb]; exact d6) (by rw [hb]; exact d9) (by
      intro x hx9
      rw [Array.isEmpty_iff] at hout
      rw [hout] at hx9
      exact absurd hx9 (by simp)) hRf (by
      show 2 * 0 + (1 + (rest.map fun v => v.category).sum) + (13 * (names.length + 1) + 42) ≤ R.locals
      omega) hlocks
  have hkeep : ∀ q : Nat, q < T.heap.size → U.heap[q]? = T.heap[q]? := fun q hq => by
    have h1 : s'.heap[q]? = some T.heap[q] := by rw [hheap]; exact Array.getElem?_eq_getElem hq
    rw [Array.getElem?_eq_getElem hq]
    exact State.sameButNew.old_cell hsame h1
  have hgrow : T.heap.size ≤ U.heap.size := by rw [← hheap]; exact hsame.2.1
  have hfin : Bw b cs D μ U := ⟨Nat.lt_of_lt_of_le (by rw [hT]; exact hM.1) hgrow, hM.2.1.kept (fun k q hq => by
    have h2 := (hM.2.1 k q hq).lt
    rw [← hT] at h2 ⊢
    exact hkeep q.1 h2)⟩
  have hframe : va_F (Aw b (mN μ0)) s U := ⟨Nat.le_trans (by rw [hT]; exact hM.2.2.1.1) hgrow, fun q h1 h2 => by
    have h3 := hM.2.2.1.2.1 q h1 h2
    rw [hkeep q (Nat.lt_of_lt_of_le h1 (by rw [hT]; exact hM.2.2.1.1)), hT]
    exact h3⟩
  have hsame2 : s.sameButNew ({ U with vm := s.vm } : State) locs 1 6 := by
    have h1 := X.same.setFrames (.invoking m args :: below) X.cur
    rw [← hs'] at h1
    have h2 := h1.trans hsame
    rw [List.append_nil, hvm] at h2
    exact h2
  exact ⟨U, st1 _ (by
    show Steps p.tables e below (State.setTop _ (F0 m (pc + 3) ls (.ref T.heap.size :: rest))) _
    have d3' : decode c.code (pc + 3) = .ok (.dup, 1) := by rw [hb]; exact d3
    have hcat : (Value.ref T.heap.size).category = 1 := rfl
    jvm_step X1.here [X1.here.top, hx, d3', hcat]
    exact X1.ldcString hx (own := own) (text := text) (index := is) (a := sa) hown' hstr'.1 hstr'.2 (g := F0 m (pc + 4) ls (.ref T.heap.size :: .ref T.heap.size :: rest)) rfl (by rw [hb]; exact d4) _ hst), .threw T.heap.size, hrun, hend, T.heap.size, ce, locs, rfl, hce, hO.vm, by rw [← hvm]; exact hO.cls, hfin, hframe, hW0.trans hW, hsame2, Aw.le hM.2.2.2, hM.2.2.1.2.2⟩
end JT
