/-! Calls of methods that throw: the exception goes on to the caller's caller, or is caught -/
/-- what a call of a throwing method begins with, and what stands behind it -/
def PreT (R : Room) (b : Nat) (cs : Nat → ClassId) (D : va_G) (μ : Mem) (av : List Value) : Pt → Array Value → Prop := fun A a => A.cells + 1 ≤ R.cells ∧ A.slots + 6 ≤ R.slots ∧ Px b cs D μ av a A.U
def PostT (b : Nat) (cs : Nat → ClassId) (D : va_G) (E : String) (μ μ' : Mem) : Pt → Array Value → Addr → Pt → Prop := fun A _ x B => ∃ (ce : Cell) (L : List Loc), B.U.heap[x]? = some ce ∧ ce.vm = .none ∧ A.U.vm.findClass E = some ce.cls ∧ Bw b cs D μ' B.U ∧ va_F (Aw b (mN μ)) A.U B.U ∧ mN μ' ≤ mN μ ∧ B.locs = A.locs ++ L ∧ (∀ z ∈ L, Aw b (mN μ) z.base) ∧ B.cells = A.cells + 1 ∧ B.slots = A.slots + 6
theorem Px_blind {b : Nat} {cs : Nat → ClassId} {D : va_G} {μ : Mem} {av : List Value} : FrameBlind (Px b cs D μ av) := fun a U g mk q => by
  obtain ⟨q0, q1, qK, qZ⟩ := q
  exact ⟨q0, q1, Kw.same (u := U) (U := U.calling g mk a) rfl qK, qZ.to (U := U.calling g mk a) (H1 := (U.calling g mk a).heap) (State.WarmedH.refl U) (fun _ _ _ => rfl)⟩
section JB
variable {p : Program} {l : Launch} {e : Env} {R : Room} {s : State} {m : MethodId} {args : Array Value} {below : List Frame} {meth : Method} {c : Code} {H H0 : Heap} {locs : List Loc} {cells slots : Nat} {Q : State → Prop} {cc : ByteArray} {pc : Nat} {ls : Array Slot} {rest : List Value} {b : Nat} {cs : Nat → ClassId} {D : va_G} {μ μ0 μ' : Mem}
theorem x_back {y : MethodName} {bytes : ByteArray} {maxL fr lo : Nat} {ret : Option FieldType} {av : List Value} {E : String} (hM : MetT l y (Cond.code y bytes maxL ret :: jW) fr lo b cs D μ av E μ') (hts : ∀ w ∈ jW, w.before args s = true) (hc : Cond.code y bytes maxL ret ∈ jW) (hi : Cond.initialized y.cls ∈ jW) (hfr : fr + 1 ≤ R.frames) (hlo : 8 + (maxL + 11) + lo ≤ R.locals) :
    Jvm.Free.BackT l R p e below s args y 3 8 (PreT R b cs D μ av) (PostT b cs D E μ μ') := by
  have hall : ∀ w ∈ Cond.code y bytes maxL ret :: jW, ∀ (a' : Array Value) (U : State), s.WarmedH U.vm → w.before a' U = true := pay_in hts (goodIn_g hc)
  refine Jvm.Free.BackT.of_free (bytes := bytes) (maxL := maxL) (ret := ret) (E := fun _ _ _ _ L k n => k = 1 ∧ n = 6 ∧ ∀ z ∈ L, Aw b (mN μ) z.base) hM hfr hlo ?_ ?_ (fun _ _ _ _ _ _ _ _ _ => trivial) ?_ ?_
  · intro m meth c A a X hp
    exact ⟨atoms_intro fun w hw => hall w hw _ _ X.warmed, hall _ List.mem_cons_self _ _ X.warmed, hall _ (List.mem_cons_of_mem _ hi) _ _ X.warmed, hp.1, hp.2.1⟩
  · intro m meth c A a g mk X hp
    exact Px_blind a A.U g mk hp.2.2
  · intro a st o t hq
    obtain ⟨q, ce, L, h1, h2, h3, h4, h5, h6, h7, h8, h9, h10⟩ := hq
    exact ⟨L, 1, 6, ⟨⟨q, h1⟩, h7, h8⟩, rfl, rfl, h10⟩
  · intro m meth c A a g mk v t L k n X hp hq hF hE
    obtain ⟨rfl, rfl, hL⟩ := hE
    obtain ⟨q, ce, L2, h1, h2, h3, h4, h5, h6, h7, h8, h9, h10⟩ := hq
    cases h1
    exact ⟨ce, L, h2, h3, h4, h5, h6, h9, rfl, hL, rfl, rfl⟩
/-- a call by invokevirtual that throws: the exception lies over the caller's frame -/
theorem x_runV {own C : String} {index nL n maxL fr lo : Nat} {y : MethodName} {bytes : ByteArray} {ret : Option FieldType} {k ci : Nat} {As : List Value} {E : String} {A0 : Nat → Prop} {q : vw_C} (hx : p.tables.exec = Jvm.exec) (hb : c.code = cc) (hml : c.maxLocals = nL) (hown : s.vm.findClass own = some m.cls) (hts : ∀ w ∈ jW, w.before args s = true) (hK : Kw cs D s) (hZ : Zx b s s.heap) (hM : Wd A0 b cs D s.heap μ H locs) (hb0 : ∀ x : Nat, x ≤ b → ¬ A0 x)
    (hM1 : MetT l y (Cond.code y bytes maxL ret :: jW) fr lo b cs D μ (.ref (b + k) :: As) E μ') (hc : Cond.code y bytes maxL ret ∈ jW) (hi : Cond.initialized y.cls ∈ jW) (hlink : Cond.methodLink own index y ∈ jW) (hinst : Cond.instanceMethod y ∈ jW) (hsel : Cond.selects C y y ∈ jW) (hy : y.cls ≠ "java/lang/invoke/MethodHandle" ∧ y.cls ≠ "java/lang/invoke/VarHandle" ∧ (parseMethodDescriptor y.desc).map (fun d => d.parameters.length) = some n) (hfr : fr + 1 ≤ R.frames) (hlo : 8 + (maxL + 11) + lo ≤ R.locals)
    (ho : ok μ k ci = true) (hci : ci < 100) (hcl : vwCl[ci]? = some q) (hqC : q.1 = C) (hn : As.length = n) (hls : ls.size = nL) (hcat : (rest.map fun v => v.category).sum ≤ 8) (hdg : decode cc pc = .ok (.invokevirtual index, 3)) (hRc : cells + 1 ≤ R.cells) (hRs : slots + 6 ≤ R.slots) {T : State} (hT : T.heap = H) (X : Stand p l e R s m args below meth c T locs cells slots) :
    ∃ (x : Addr) (T1 : State) (L : List Loc) (ce : Cell), Stand p l e R s m args below meth c T1 (locs ++ L) (cells + 1) (slots + 6) ∧ (∀ z ∈ L, Aw b (mN μ) z.base) ∧ T1.heap[x]? = some ce ∧ ce.vm = .none ∧ s.vm.findClass E = some ce.cls ∧ Wd A0 b cs D s.heap μ' T1.heap (locs ++ L) ∧
      ∀ target, Steps p.tables e below ((T1.setTop (F0 m pc ls rest)).pushFrame (.throwing x)) target → Steps p.tables e below (T.setTop (F0 m pc ls (As.reverse ++ .ref (b + k) :: rest))) target := by
  have hT1 := x_back (e := e) (p := p) (below := below) (R := R) hM1 hts hc hi hfr hlo
  obtain ⟨cellB, hcB, hoB, hclB⟩ := va_recv hK.1 hM.2.1 hcl (en_obj (b := b) (cs := cs) ho hci)
  obtain ⟨mk, methM, hnamed, hmethM, hstM, habM⟩ := Cond.instanceMethod_spec (hts _ hinst)
  obtain ⟨methM', cM, hmethM', -, -, -, -, -, -, hsigM⟩ := Cond.code_spec hnamed (hts _ hc)
  cases hmethM.symm.trans hmethM'
  obtain ⟨c2, r2, m2, q1, q2, q3, q4, kP, hkP, hkPi⟩ := Cond.selects_spec (hts _ hsel)
  rw [hqC] at hclB
  cases hclB.symm.trans q1
  cases (State.methodFound?_of_named hnamed ⟨hy.1, hy.2.1⟩).symm.trans q2
  cases hnamed.symm.trans q3
  have hselP : selectMethod e.platform s.vm cellB.cls mk = .method mk := by rw [Launch.admits_selectMethod X.admits]; exact q4
  have hlen : As.length = methM.sig.parameters.length := by
    have h1 := hy.2.2
    rw [hsigM] at h1
    rw [hn]
    exact (Option.some.inj h1).symm
  obtain ⟨vm1, X1, st1⟩ := X.invokevirtual hx hown (hts _ hlink) hnamed hmethM hstM hkP hkPi ⟨hy.1, hy.2.1⟩ (a := b + k) (cell := cellB) (by rw [hT]; exact hcB) (fun z h => by rw [h] at hoB; cases hoB) hselP hmethM habM hkP hkPi (g := F0 m pc ls (As.reverse ++ .ref (b + k) :: rest)) rfl (argsL := As) (rest := rest) hlen rfl (by rw [hb]; exact hdg)
  have hpre : PreT R b cs D μ (.ref (b + k) :: As) ⟨T.setVm vm1, locs, cells, slots⟩ (Value.ref (b + k) :: As).toArray := ⟨hRc, hRs, rfl, ⟨by show b + mN μ < T.heap.size; rw [hT]; exact hM.1, by show va_P D vwCl (en b cs μ) T.heap; rw [hT]; exact hM.2.1⟩, Kw.warm X1.warmed hK, hZ.to X1.warmed (fun a h1 h2 => by show T.heap[a]? = _; rw [hT]; exact hM.2.2.1.2.1 a h1 (hb0 a h2))⟩
  obtain ⟨x, B, X2, ⟨ce, L, g1, g2, g3, g4, g5, g6, g7, g8, g9, g10⟩, st2⟩ := hT1 m meth c ⟨T.setVm vm1, locs, cells, slots⟩ (F0 m pc ls rest) (.invokevirtual index) mk (Value.ref (b + k) :: As).toArray X1 rfl (hls.trans hml.symm) (by rw [hb]; exact hdg) (lv_room hcat) (X1.named hnamed) hpre
  obtain ⟨U2, L2, c9, s9⟩ := B
  dsimp only [Pt.U, Pt.locs, Pt.cells, Pt.slots] at X2 g1 g2 g3 g4 g5 g7 g9 g10 st2
  subst g7
  subst g9
  subst g10
  have hS : va_S A0 s.heap U2.heap (locs ++ L) := by
    have hS0 := hM.2.2.1
    have g5' : T.heap.size ≤ U2.heap.size ∧ ∀ z : Nat, z < T.heap.size → ¬ Aw b (mN μ) z → U2.heap[z]? = T.heap[z]? := g5
    rw [hT] at g5'
    refine ⟨Nat.le_trans hS0.1 g5'.1, fun z h1 h2 => ?_, fun z hz => ?_⟩
    · rw [g5'.2 z (Nat.lt_of_lt_of_le h1 hS0.1) (fun h => h2 (Aw.sub hM.2.2.2 h))]
      exact hS0.2.1 z h1 h2
    · rcases List.mem_append.mp hz with h | h
      · exact hS0.2.2 z h
      · exact Aw.sub hM.2.2.2 (g8 z h)
  refine ⟨x, U2, L, ce, X2, g8, g1, g2, ?_, Wd.back hM g6 g4 rfl hS, fun target h => st1 _ fun acts => by rw [doInvoke_state]; exact st2.trans h⟩
  have hal : s.vm.Alike vm1 := X1.warmed.alike
  have g3' : vm1.findClass E = some ce.cls := g3
  rw [hal.findClass] at g3'
  exact g3'
/-- not caught here: it goes on to the caller -/
theorem g_outV {own C : String} {index nL n maxL fr lo : Nat} {y : MethodName} {bytes : ByteArray} {ret : Option FieldType} {k ci : Nat} {As : List Value} {E : String} {q : vw_C} (hx : p.tables.exec = Jvm.exec) (hb : c.code = cc) (hml : c.maxLocals = nL) (hown : s.vm.findClass own = some m.cls) (hts : ∀ w ∈ jW, w.before args s = true) (hK : Kw cs D s) (hZ : Zx b s s.heap) (hM : Wd (Aw b (mN μ0)) b cs D s.heap μ H locs)
    (hM1 : MetT l y (Cond.code y bytes maxL ret :: jW) fr lo b cs D μ (.ref (b + k) :: As) E μ') (hc : Cond.code y bytes maxL ret ∈ jW) (hi : Cond.initialized y.cls ∈ jW) (hlink : Cond.methodLink own index y ∈ jW) (hinst : Cond.instanceMethod y ∈ jW) (hsel : Cond.selects C y y ∈ jW) (hy : y.cls ≠ "java/lang/invoke/MethodHandle" ∧ y.cls ≠ "java/lang/invoke/VarHandle" ∧ (parseMethodDescriptor y.desc).map (fun d => d.parameters.length) = some n) (hfr : fr + 1 ≤ R.frames) (hlo : 8 + (maxL + 11) + lo ≤ R.locals)
    (ho : ok μ k ci = true) (hci : ci < 100) (hcl : vwCl[ci]? = some q) (hqC : q.1 = C) (hn : As.length = n) (hls : ls.size = nL) (hcat : (rest.map fun v => v.category).sum ≤ 8) (hdg : decode cc pc = .ok (.invokevirtual index, 3)) (hRc : 0 + 1 ≤ R.cells) (hRs : 0 + 6 ≤ R.slots) (hout : c.exceptionTable.isEmpty = true) (hlocks : meth.locks = false) : W p l e R s m args below meth c H locs 0 0 (MT below b cs D E μ0 μ' args s) (F0 m pc ls (As.reverse ++ .ref (b + k) :: rest)) := by
  intro T hT X
  obtain ⟨x, T1, L, ce, X2, g1, g2, g3, g4, g5, st⟩ := x_runV hx hb hml hown hts hK hZ hM (fun z h1 h2 => by have := h2.1; omega) hM1 hc hi hlink hinst hsel hy hfr hlo ho hci hcl hqC hn hls hcat hdg hRc hRs hT X
  obtain ⟨w1, w2, w3, w4, w5⟩ := X2.leaveThrown x (g := F0 m pc ls rest) rfl rfl rfl (by
    intro z hz
    rw [Array.isEmpty_iff] at hout
    rw [hout] at hz
    exact absurd hz (by simp)) hlocks
  exact ⟨_, st _ w1, .threw x, w2, w3, x, ce, locs ++ L, rfl, g2, g3, g4, ⟨g5.1, g5.2.1⟩, g5.2.2.1.F rfl, w4, w5, Aw.le g5.2.2.2, g5.2.2.1.2.2⟩
end JB
