/-! Rows for the law's own body: its catching calls (static, with handlers), its script -/
section JL0
variable {p : Program} {l : Launch} {e : Env} {R : Room} {s : State} {m : MethodId} {args : Array Value} {below : List Frame} {meth : Method} {c : Code} {H H0 : Heap} {locs : List Loc} {cells slots : Nat} {Q : State → Prop} {cc : ByteArray} {pc : Nat} {ls : Array Slot} {rest : List Value} {b : Nat} {cs : Nat → ClassId} {D : va_G} {μ : Mem} {A : Nat → Prop}
theorem g_callA {own : String} {index nL n maxL fr lo : Nat} {y : MethodName} {bytes : ByteArray} {ret : Option FieldType} {hh : List (Nat × Nat × Nat × Nat)} {As : List Value} {q : Int32 × Mem} (hx : p.tables.exec = Jvm.exec) (hb : c.code = cc) (hml : c.maxLocals = nL) (hown : s.vm.findClass own = some m.cls) (hts : ∀ w ∈ jW, w.before args s = true) (hK : Kw cs D s) (hZ : Zx b s s.heap) (hM : Wd A b cs D s.heap μ H locs) (hb0 : ∀ x : Nat, x ≤ b → ¬ A x)
    (hM1 : MetA l y (Cond.codeWith y bytes maxL ret hh :: jW) fr lo b cs D μ As q) (hc : Cond.codeWith y bytes maxL ret hh ∈ jW) (hi : Cond.initialized y.cls ∈ jW) (hlink : Cond.methodLink own index y ∈ jW) (hstat : Cond.static y ∈ jW) (hy : y.cls ≠ "java/lang/invoke/MethodHandle" ∧ y.cls ≠ "java/lang/invoke/VarHandle" ∧ (parseMethodDescriptor y.desc).map (fun d => d.parameters.length) = some n) (hfr : fr + 1 ≤ R.frames) (hlo : 8 + (maxL + 11) + lo ≤ R.locals)
    (hn : As.length = n) (hls : ls.size = nL) (hcat : (rest.map fun v => v.category).sum ≤ 8) (hdg : decode cc pc = .ok (.invokestatic index, 3)) (hRc : cells + 1 ≤ R.cells) (hRs : slots + 6 ≤ R.slots)
    (kk : ∀ (H : Heap) (locs : List Loc), Wd A b cs D s.heap q.2 H locs → W p l e R s m args below meth c H locs (cells + 1) (slots + 6) Q (F0 m (pc + 3) ls (.int q.1 :: rest))) : W p l e R s m args below meth c H locs cells slots Q (F0 m pc ls (As.reverse ++ rest)) := by
  intro T hT X
  have hall : ∀ w ∈ Cond.codeWith y bytes maxL ret hh :: jW, ∀ (a' : Array Value) (U : State), s.WarmedH U.vm → w.before a' U = true := pay_in hts (goodIn_g hc)
  have hB := va_backW (e := e) (p := p) (below := below) (R := R) (len := 3) (W := 8) (sargs := args) (hh := hh) hM1 Px_blind rfl rfl hfr hlo hall List.mem_cons_self (hall _ (List.mem_cons_of_mem _ hi))
  obtain ⟨mk, methM, cM, hnamed, hmethM, -, -, -, -, -, -, hsigM⟩ := Cond.codeWith_spec (hts _ hc)
  have hstatic : methM.isStatic = true := Cond.static_spec hnamed hmethM (hts _ hstat)
  obtain ⟨kP, hkP, -⟩ := className_of_methodNamed hnamed
  have hinitP : kP.init = .initialized := Cond.initialized_spec (findClass_of_methodNamed hnamed) hkP (hts _ hi)
  have hlen : As.length = methM.sig.parameters.length := by
    have h1 := hy.2.2
    rw [hsigM] at h1
    rw [hn]
    exact (Option.some.inj h1).symm
  obtain ⟨vm1, X1, st1⟩ := X.invokestatic hx hown (hts _ hlink) hnamed hmethM hstatic hkP hinitP ⟨hy.1, hy.2.1⟩ (g := F0 m pc ls (As.reverse ++ rest)) rfl (argsL := As) (rest := rest) hlen rfl (by rw [hb]; exact hdg)
  have hpre : PreOf R 1 6 (Px b cs D μ As) ⟨T.setVm vm1, locs, cells, slots⟩ As.toArray := ⟨hRc, hRs, rfl, ⟨by show b + mN μ < T.heap.size; rw [hT]; exact hM.1, by show va_P D vwCl (en b cs μ) T.heap; rw [hT]; exact hM.2.1⟩, Kw.warm X1.warmed hK, hZ.to X1.warmed (fun a h1 h2 => by show T.heap[a]? = _; rw [hT]; exact hM.2.2.1.2.1 a h1 (hb0 a h2))⟩
  obtain ⟨v, B, X2, ⟨g9, mk9, t9, L, e1, e2, hq, e3, hL, e4, e5⟩, st2⟩ := hB m meth c ⟨T.setVm vm1, locs, cells, slots⟩ (F0 m pc ls rest) (.invokestatic index) mk As.toArray X1 rfl (hls.trans hml.symm) (by rw [hb]; exact hdg) (lv_room hcat) (X1.named hnamed) hpre
  obtain ⟨U2, L2, c9, s9⟩ := B
  dsimp only [Pt.U, Pt.locs, Pt.cells, Pt.slots] at X2 e1 e2 hq e3 e4 e5 st2
  subst e3
  subst e4
  subst e5
  obtain ⟨⟨r, u, hv, ⟨hru, hnu⟩, hBw⟩, hF⟩ := hq
  cases hv
  subst hru
  have hF1 : T.heap.size ≤ t9.heap.size ∧ ∀ z : Nat, z < T.heap.size → ¬ Aw b (mN μ) z → t9.heap[z]? = T.heap[z]? := hF
  rw [hT, ← e1] at hF1
  have hS0 := hM.2.2.1
  have hS : va_S A s.heap U2.heap (locs ++ L) := by
    refine ⟨Nat.le_trans hS0.1 hF1.1, fun z h1 h2 => ?_, fun z hz => ?_⟩
    · rw [hF1.2 z (Nat.lt_of_lt_of_le h1 hS0.1) (fun h => h2 (Aw.sub hM.2.2.2 h))]
      exact hS0.2.1 z h1 h2
    · rcases List.mem_append.mp hz with h | h
      · exact hS0.2.2 z h
      · exact Aw.sub hM.2.2.2 (hL z h)
  obtain ⟨t, a1, b1⟩ := kk U2.heap (locs ++ L) (Wd.back hM hnu hBw e1.symm hS) U2 rfl X2
  exact ⟨t, st1 _ fun acts => by rw [doInvoke_state]; exact st2.trans a1, b1⟩
theorem g_sld (hx : p.tables.exec = Jvm.exec) (hb : c.code = cc) {z L : Nat} {xs : Nat → Int32} (hX : va_X z L xs s s.heap) (hzl : z < s.heap.size) (hz : z ≤ b) (hM : Wd (Ab b) b cs D s.heap μ H locs) {i : Int32} (hi : ib i L = true) (hdg : decode cc pc = .ok (.iaload, 1))
    (kk : W p l e R s m args below meth c H locs cells slots Q (F0 m (pc + 1) ls (.int (xs (Int32.toNatClampNeg i)) :: rest))) : W p l e R s m args below meth c H locs cells slots Q (F0 m pc ls (.int i :: .ref z :: rest)) :=
  va_sld hx hb hX hzl (fun h => by have h : b < z := h; omega) hM.2.2.1 (ib_in hi) hdg kk
theorem g_slen (hx : p.tables.exec = Jvm.exec) (hb : c.code = cc) {z L : Nat} {xs : Nat → Int32} (hX : va_X z L xs s s.heap) (hzl : z < s.heap.size) (hz : z ≤ b) (hM : Wd (Ab b) b cs D s.heap μ H locs) (hdg : decode cc pc = .ok (.arraylength, 1))
    (kk : W p l e R s m args below meth c H locs cells slots Q (F0 m (pc + 1) ls (.int (nI L) :: rest))) : W p l e R s m args below meth c H locs cells slots Q (F0 m pc ls (.ref z :: rest)) :=
  va_slen hx hb hX hzl (fun h => by have h : b < z := h; omega) hM.2.2.1 hdg kk
end JL0
