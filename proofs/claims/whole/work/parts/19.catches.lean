/-! By program (wip/whole/gen.py): the calls of the law that catch. -/
abbrev MetA (l : Launch) (y : MethodName) (ws : List Cond) (fr lo b : Nat) (cs : Nat → ClassId) (D : va_G) (μ : Mem) (av : List Value) (res : Int32 × Mem) : Prop := Met l y ws { frames := fr, cells := 1, slots := 6, locals := lo } (Px b cs D μ av) (va_Qi (fun r μ' => (r, μ') = res ∧ mN μ' ≤ mN μ) (Bw b cs D) (Aw b (mN μ))) 1 6 (Aw b (mN μ))
abbrev w_LA_ways : List Cond := .codeWith y_LA_ways b_LA_ways 3 (Option.some Jvm.ClassFile.FieldType.int) [(0, 7, 10, 13)] :: jW
def C_LA_ways (n : Nat) (r0 : Nat) (r1 : Nat) (μ : Mem) : Option (Int32 × Mem) :=
  if ok μ r0 5 = true then Option.bind (C_JL_ways n r0 μ) (fun q2 => if ok q2.2 r1 101 = true then if ib 0 (mZ q2.2 r1) = true then Option.bind (some (sL q2.2 r1 (Int32.toNatClampNeg 0) q2.1)) (fun μ5 => some (0, μ5)) else none else none) else none
def D_LA_ways (n : Nat) (r0 : Nat) (r1 : Nat) (μ : Mem) : Option (Int32 × Mem) :=
  if ok μ r0 5 = true then (match X_JL_ways n r0 μ with
    | some q => if q.1 = 1 then some (1, q.2) else none
    | none => C_LA_ways n r0 r1 μ) else none
set_option maxHeartbeats 4000000 in
set_option maxRecDepth 100000 in
theorem Z_LA_ways (l : Launch) (hst : l.stackTraces = false) (D : va_G) (b : Nat) (cs : Nat → ClassId) (r0 : Nat) (r1 : Nat) (μ : Mem) (res : Int32 × Mem) (n : Nat) (h : D_LA_ways n r0 r1 μ = some res) : MetA l y_LA_ways w_LA_ways 8 138 b cs D μ [.ref (b + r0), .ref (b + r1)] res := by
  refine va_MetW (cc := b_LA_ways) (maxL := 3) (ret := (Option.some Jvm.ClassFile.FieldType.int)) (hh := [(0, 7, 10, 13)]) (by decide) rfl ?_
  intro p e s m args below meth c s₁ B hml hv
  obtain ⟨rfl, hK, hZ, hM⟩ := Wd.startX hv
  have hx := B.exec
  have hb := B.bytes
  have hr := B.returns
  have hts : ∀ w ∈ jW, w.before _ s = true := fun w hw => atoms_spec (ws := w_LA_ways) B.pre w (List.mem_cons_of_mem _ hw)
  have hown : s.vm.findClass "JoinedLeavesLaw" = some m.cls := findClass_of_methodNamed B.named
  have hlocks := B.notSynchronized
  obtain ⟨m9, meth9, c9, hn9, hm9, hc9, -, -, htab, -, -, -⟩ := Cond.codeWith_spec (atoms_spec (ws := w_LA_ways) B.pre _ List.mem_cons_self)
  cases hn9.symm.trans B.named
  cases hm9.symm.trans B.method
  cases hc9.symm.trans (Stand.of_body B).code
  obtain ⟨x0, xs0, ht0, ⟨a0, b0, c0, d0⟩, hr0⟩ := hTab htab
  have a0 : x0.startPc = 0 := a0
  have b0 : x0.endPc = 7 := b0
  have c0 : x0.handlerPc = 10 := c0
  have d0 : x0.catchType = 13 := d0
  have htn := hNil hr0
  subst htn
  have hl := lv_entry ([.ref (b + r0), .ref (b + r1)]) (n := 3) (Nat.le_of_ble_eq_true rfl)
  rw [lg_entry_eq]
  generalize (lg_sl ([.ref (b + r0), .ref (b + r1)]) ++ List.replicate (3 - (lg_sl ([.ref (b + r0), .ref (b + r1)])).length) Slot.unset).toArray = ls at hl ⊢
  have hl : lv_has ls 3 [(0, .ref (b + r0)), (1, .ref (b + r1))] := hl
  unfold D_LA_ways at h
  obtain ⟨g0, h⟩ := of_g h
  cases hX : X_JL_ways n r0 μ with
  | none =>
    rw [hX] at h
    have h : C_LA_ways n r0 r1 μ = some res := h
    unfold C_LA_ways at h
    refine W.widen (k := 1) (n := 6) (by decide) (by decide) ?_
    refine lv_aload_n hx hb d_LA_ways_0 rfl (lv_at hl 1 rfl) ?_
    refine lv_iconst (v := 0) hx hb d_LA_ways_1 (by decide) ?_
    refine lv_aload_n hx hb d_LA_ways_2 rfl (lv_at hl 0 rfl) ?_
    obtain ⟨g1, h⟩ := of_g h
    obtain ⟨q2, hq2, h⟩ := of_b h
    refine g_calll (va_runV (As := []) (rest := [.int 0, .ref (b + r1)]) ⟨hx, hb, hml, hown, hts⟩ (S_JL_ways l D b cs r0 μ q2 n hq2) ⟨callB_of 0 hts (goodIn_g jm_4_8) rfl rfl rfl (hts _ jm_0_1) (hts _ jm_4_5) (by decide +kernel) ⟨Nat.le_of_ble_eq_true rfl, Nat.le_of_ble_eq_true rfl⟩, (hts _ jm_4_6), (hts _ jm_4_7)⟩ (Wd.preV hK hM g1 rfl (by decide)) rfl rfl hl.1 rfl (lv_room (Nat.le_of_ble_eq_true rfl)) d_LA_ways_3 ⟨Nat.le_of_ble_eq_true rfl, Nat.le_of_ble_eq_true rfl⟩) hM (fun H locs hM => ?_)
    obtain ⟨g3, h⟩ := of_g h
    obtain ⟨g4, h⟩ := of_g h
    obtain ⟨μ5, e_μ5, h⟩ := of_b h
    obtain rfl := Option.some.inj e_μ5
    refine g_last (v := q2.1) hx hb hK hM g3 g4 d_LA_ways_6 (fun H locs hM => ?_)
    refine lv_goto (tgt := 13) hx hb d_LA_ways_7 (by decide) ?_
    refine lv_iconst (v := 0) hx hb d_LA_ways_13 (by decide) ?_
    exact g_iret hx hb hr hlocks hM (Option.some.inj h) d_LA_ways_14
  | some q =>
    rw [hX] at h
    have h : (if q.1 = 1 then some (1, q.2) else none) = some res := h
    have hY := Y_JL_ways l hst D b cs r0 μ q n hX
    by_cases hk0 : q.1 = 1
    · rw [if_pos hk0] at h
      rw [hk0] at hY
      have hY : MetT l y_JL_ways w_JL_ways 7 118 b cs D μ [.ref (b + r0)] "java/lang/IllegalStateException" q.2 := hY
      refine lv_aload_n hx hb d_LA_ways_0 rfl (lv_at hl 1 rfl) ?_
      refine lv_iconst (v := 0) hx hb d_LA_ways_1 (by decide) ?_
      refine lv_aload_n hx hb d_LA_ways_2 rfl (lv_at hl 0 rfl) ?_
      refine g_catchV (n := 0) (As := []) (rest := [.int 0, .ref (b + r1)]) hx hb hml hown hts hK hZ hM hY jm_4_8 jm_0_1 jm_4_5 jm_4_6 jm_4_7 (by decide +kernel) (Nat.le_of_ble_eq_true rfl) (Nat.le_of_ble_eq_true rfl) g0 (by decide) rfl rfl rfl hl.1 (Nat.le_of_ble_eq_true rfl) d_LA_ways_3 (Nat.le_of_ble_eq_true rfl) (Nat.le_of_ble_eq_true rfl) [] x0 [] ht0 (fun z hz => absurd hz List.not_mem_nil) (by unfold covers; rw [a0, b0]; rfl) (by rw [d0]; decide) (by rw [d0]; exact jm_4_4) jn_40 c0 (fun a H locs hM => ?_)
      refine lv_astore_n hx hb d_LA_ways_10 rfl hl (by decide) rfl (fun ls hl => ?_)
      refine lv_iconst (v := 1) hx hb d_LA_ways_11 (by decide) ?_
      exact g_iret hx hb hr hlocks hM (Option.some.inj h) d_LA_ways_12
    · rw [if_neg hk0] at h
      exact (nomatch h)
abbrev w_LA_live : List Cond := .codeWith y_LA_live b_LA_live 4 (Option.some Jvm.ClassFile.FieldType.int) [(0, 9, 12, 13), (0, 9, 15, 19)] :: jW
def C_LA_live (n : Nat) (r0 : Nat) (i1 : Int32) (r2 : Nat) (μ : Mem) : Option (Int32 × Mem) :=
  if ok μ r0 5 = true then Option.bind (C_JL_live n r0 i1 μ) (fun q2 => if ok q2.2 r2 101 = true then if ib 0 (mZ q2.2 r2) = true then Option.bind (some (sL q2.2 r2 (Int32.toNatClampNeg 0) (Int32.toInt64 q2.1))) (fun μ5 => some (0, μ5)) else none else none) else none
def D_LA_live (n : Nat) (r0 : Nat) (i1 : Int32) (r2 : Nat) (μ : Mem) : Option (Int32 × Mem) :=
  if ok μ r0 5 = true then (match X_JL_live n r0 i1 μ with
    | some q => if q.1 = 1 then some (1, q.2) else if q.1 = 4 then some (2, q.2) else none
    | none => C_LA_live n r0 i1 r2 μ) else none
set_option maxHeartbeats 4000000 in
set_option maxRecDepth 100000 in
theorem Z_LA_live (l : Launch) (hst : l.stackTraces = false) (D : va_G) (b : Nat) (cs : Nat → ClassId) (r0 : Nat) (i1 : Int32) (r2 : Nat) (μ : Mem) (res : Int32 × Mem) (n : Nat) (h : D_LA_live n r0 i1 r2 μ = some res) : MetA l y_LA_live w_LA_live 8 138 b cs D μ [.ref (b + r0), .int i1, .ref (b + r2)] res := by
  refine va_MetW (cc := b_LA_live) (maxL := 4) (ret := (Option.some Jvm.ClassFile.FieldType.int)) (hh := [(0, 9, 12, 13), (0, 9, 15, 19)]) (by decide) rfl ?_
  intro p e s m args below meth c s₁ B hml hv
  obtain ⟨rfl, hK, hZ, hM⟩ := Wd.startX hv
  have hx := B.exec
  have hb := B.bytes
  have hr := B.returns
  have hts : ∀ w ∈ jW, w.before _ s = true := fun w hw => atoms_spec (ws := w_LA_live) B.pre w (List.mem_cons_of_mem _ hw)
  have hown : s.vm.findClass "JoinedLeavesLaw" = some m.cls := findClass_of_methodNamed B.named
  have hlocks := B.notSynchronized
  obtain ⟨m9, meth9, c9, hn9, hm9, hc9, -, -, htab, -, -, -⟩ := Cond.codeWith_spec (atoms_spec (ws := w_LA_live) B.pre _ List.mem_cons_self)
  cases hn9.symm.trans B.named
  cases hm9.symm.trans B.method
  cases hc9.symm.trans (Stand.of_body B).code
  obtain ⟨x0, xs0, ht0, ⟨a0, b0, c0, d0⟩, hr0⟩ := hTab htab
  have a0 : x0.startPc = 0 := a0
  have b0 : x0.endPc = 9 := b0
  have c0 : x0.handlerPc = 12 := c0
  have d0 : x0.catchType = 13 := d0
  obtain ⟨x1, xs1, ht1, ⟨a1, b1, c1, d1⟩, hr1⟩ := hTab hr0
  have a1 : x1.startPc = 0 := a1
  have b1 : x1.endPc = 9 := b1
  have c1 : x1.handlerPc = 15 := c1
  have d1 : x1.catchType = 19 := d1
  have htn := hNil hr1
  subst htn
  subst ht1
  have hl := lv_entry ([.ref (b + r0), .int i1, .ref (b + r2)]) (n := 4) (Nat.le_of_ble_eq_true rfl)
  rw [lg_entry_eq]
  generalize (lg_sl ([.ref (b + r0), .int i1, .ref (b + r2)]) ++ List.replicate (4 - (lg_sl ([.ref (b + r0), .int i1, .ref (b + r2)])).length) Slot.unset).toArray = ls at hl ⊢
  have hl : lv_has ls 4 [(0, .ref (b + r0)), (1, .int i1), (2, .ref (b + r2))] := hl
  unfold D_LA_live at h
  obtain ⟨g0, h⟩ := of_g h
  cases hX : X_JL_live n r0 i1 μ with
  | none =>
    rw [hX] at h
    have h : C_LA_live n r0 i1 r2 μ = some res := h
    unfold C_LA_live at h
    refine W.widen (k := 1) (n := 6) (by decide) (by decide) ?_
    refine lv_aload_n hx hb d_LA_live_0 rfl (lv_at hl 2 rfl) ?_
    refine lv_iconst (v := 0) hx hb d_LA_live_1 (by decide) ?_
    refine lv_aload_n hx hb d_LA_live_2 rfl (lv_at hl 0 rfl) ?_
    refine lv_iload_n hx hb d_LA_live_3 rfl (lv_at hl 1 rfl) ?_
    obtain ⟨g1, h⟩ := of_g h
    obtain ⟨q2, hq2, h⟩ := of_b h
    refine g_calli (va_runV (As := [.int i1]) (rest := [.int 0, .ref (b + r2)]) ⟨hx, hb, hml, hown, hts⟩ (S_JL_live l D b cs r0 i1 μ q2 n hq2) ⟨callB_of 1 hts (goodIn_g jm_6_1) rfl rfl rfl (hts _ jm_0_1) (hts _ jm_5_46) (by decide +kernel) ⟨Nat.le_of_ble_eq_true rfl, Nat.le_of_ble_eq_true rfl⟩, (hts _ jm_5_47), (hts _ jm_6_0)⟩ (Wd.preV hK hM g1 rfl (by decide)) rfl rfl hl.1 rfl (lv_room (Nat.le_of_ble_eq_true rfl)) d_LA_live_4 ⟨Nat.le_of_ble_eq_true rfl, Nat.le_of_ble_eq_true rfl⟩) hM (fun H locs hM => ?_)
    refine lv_i2l hx hb d_LA_live_7 rfl ?_
    obtain ⟨g3, h⟩ := of_g h
    obtain ⟨g4, h⟩ := of_g h
    obtain ⟨μ5, e_μ5, h⟩ := of_b h
    obtain rfl := Option.some.inj e_μ5
    refine g_last (v := Int32.toInt64 q2.1) hx hb hK hM g3 g4 d_LA_live_8 (fun H locs hM => ?_)
    refine lv_goto (tgt := 18) hx hb d_LA_live_9 (by decide) ?_
    refine lv_iconst (v := 0) hx hb d_LA_live_18 (by decide) ?_
    exact g_iret hx hb hr hlocks hM (Option.some.inj h) d_LA_live_19
  | some q =>
    rw [hX] at h
    have h : (if q.1 = 1 then some (1, q.2) else if q.1 = 4 then some (2, q.2) else none) = some res := h
    have hY := Y_JL_live l hst D b cs r0 i1 μ q n hX
    by_cases hk0 : q.1 = 1
    · rw [if_pos hk0] at h
      rw [hk0] at hY
      have hY : MetT l y_JL_live w_JL_live 7 117 b cs D μ [.ref (b + r0), .int i1] "java/lang/IllegalStateException" q.2 := hY
      refine lv_aload_n hx hb d_LA_live_0 rfl (lv_at hl 2 rfl) ?_
      refine lv_iconst (v := 0) hx hb d_LA_live_1 (by decide) ?_
      refine lv_aload_n hx hb d_LA_live_2 rfl (lv_at hl 0 rfl) ?_
      refine lv_iload_n hx hb d_LA_live_3 rfl (lv_at hl 1 rfl) ?_
      refine g_catchV (n := 1) (As := [.int i1]) (rest := [.int 0, .ref (b + r2)]) hx hb hml hown hts hK hZ hM hY jm_6_1 jm_0_1 jm_5_46 jm_5_47 jm_6_0 (by decide +kernel) (Nat.le_of_ble_eq_true rfl) (Nat.le_of_ble_eq_true rfl) g0 (by decide) rfl rfl rfl hl.1 (Nat.le_of_ble_eq_true rfl) d_LA_live_4 (Nat.le_of_ble_eq_true rfl) (Nat.le_of_ble_eq_true rfl) [] x0 [x1] ht0 (fun z hz => absurd hz List.not_mem_nil) (by unfold covers; rw [a0, b0]; rfl) (by rw [d0]; decide) (by rw [d0]; exact jm_4_4) jn_40 c0 (fun a H locs hM => ?_)
      refine lv_astore_n hx hb d_LA_live_12 rfl hl (by decide) rfl (fun ls hl => ?_)
      refine lv_iconst (v := 1) hx hb d_LA_live_13 (by decide) ?_
      exact g_iret hx hb hr hlocks hM (Option.some.inj h) d_LA_live_14
    · rw [if_neg hk0] at h
      by_cases hk1 : q.1 = 4
      · rw [if_pos hk1] at h
        rw [hk1] at hY
        have hY : MetT l y_JL_live w_JL_live 7 117 b cs D μ [.ref (b + r0), .int i1] "java/lang/IndexOutOfBoundsException" q.2 := hY
        refine lv_aload_n hx hb d_LA_live_0 rfl (lv_at hl 2 rfl) ?_
        refine lv_iconst (v := 0) hx hb d_LA_live_1 (by decide) ?_
        refine lv_aload_n hx hb d_LA_live_2 rfl (lv_at hl 0 rfl) ?_
        refine lv_iload_n hx hb d_LA_live_3 rfl (lv_at hl 1 rfl) ?_
        refine g_catchV (n := 1) (As := [.int i1]) (rest := [.int 0, .ref (b + r2)]) hx hb hml hown hts hK hZ hM hY jm_6_1 jm_0_1 jm_5_46 jm_5_47 jm_6_0 (by decide +kernel) (Nat.le_of_ble_eq_true rfl) (Nat.le_of_ble_eq_true rfl) g0 (by decide) rfl rfl rfl hl.1 (Nat.le_of_ble_eq_true rfl) d_LA_live_4 (Nat.le_of_ble_eq_true rfl) (Nat.le_of_ble_eq_true rfl) [x0] x1 [] ht0 (fun z hz => by
          simp only [List.mem_cons, List.not_mem_nil, or_false] at hz
          rcases hz with rfl
          · exact ⟨by rw [d0]; decide, "java/lang/IllegalStateException", by rw [d0]; exact jm_4_4, hZ.2.2 ("java/lang/IndexOutOfBoundsException", "java/lang/IllegalStateException") (by decide +kernel)⟩) (by unfold covers; rw [a1, b1]; rfl) (by rw [d1]; decide) (by rw [d1]; exact jm_5_45) jn_53 c1 (fun a H locs hM => ?_)
        refine lv_astore_n hx hb d_LA_live_15 rfl hl (by decide) rfl (fun ls hl => ?_)
        refine lv_iconst (v := 2) hx hb d_LA_live_16 (by decide) ?_
        exact g_iret hx hb hr hlocks hM (Option.some.inj h) d_LA_live_17
      · rw [if_neg hk1] at h
        exact (nomatch h)
abbrev w_LA_answers : List Cond := .codeWith y_LA_answers b_LA_answers 3 (Option.some Jvm.ClassFile.FieldType.int) [(0, 8, 11, 13), (0, 8, 14, 25), (0, 8, 17, 27)] :: jW
def C_LA_answers (n : Nat) (r0 : Nat) (r1 : Nat) (μ : Mem) : Option (Int32 × Mem) :=
  if ok μ r0 5 = true then Option.bind (C_JL_answers n r0 μ) (fun q2 => if ok q2.2 r1 101 = true then if ib 0 (mZ q2.2 r1) = true then Option.bind (some (sL q2.2 r1 (Int32.toNatClampNeg 0) (Int32.toInt64 q2.1))) (fun μ5 => some (0, μ5)) else none else none) else none
def D_LA_answers (n : Nat) (r0 : Nat) (r1 : Nat) (μ : Mem) : Option (Int32 × Mem) :=
  if ok μ r0 5 = true then (match X_JL_answers n r0 μ with
    | some q => if q.1 = 1 then some (1, q.2) else if q.1 = 2 then some (2, q.2) else if q.1 = 3 then some (3, q.2) else none
    | none => C_LA_answers n r0 r1 μ) else none
set_option maxHeartbeats 4000000 in
set_option maxRecDepth 100000 in
theorem Z_LA_answers (l : Launch) (hst : l.stackTraces = false) (D : va_G) (b : Nat) (cs : Nat → ClassId) (r0 : Nat) (r1 : Nat) (μ : Mem) (res : Int32 × Mem) (n : Nat) (h : D_LA_answers n r0 r1 μ = some res) : MetA l y_LA_answers w_LA_answers 14 329 b cs D μ [.ref (b + r0), .ref (b + r1)] res := by
  refine va_MetW (cc := b_LA_answers) (maxL := 3) (ret := (Option.some Jvm.ClassFile.FieldType.int)) (hh := [(0, 8, 11, 13), (0, 8, 14, 25), (0, 8, 17, 27)]) (by decide) rfl ?_
  intro p e s m args below meth c s₁ B hml hv
  obtain ⟨rfl, hK, hZ, hM⟩ := Wd.startX hv
  have hx := B.exec
  have hb := B.bytes
  have hr := B.returns
  have hts : ∀ w ∈ jW, w.before _ s = true := fun w hw => atoms_spec (ws := w_LA_answers) B.pre w (List.mem_cons_of_mem _ hw)
  have hown : s.vm.findClass "JoinedLeavesLaw" = some m.cls := findClass_of_methodNamed B.named
  have hlocks := B.notSynchronized
  obtain ⟨m9, meth9, c9, hn9, hm9, hc9, -, -, htab, -, -, -⟩ := Cond.codeWith_spec (atoms_spec (ws := w_LA_answers) B.pre _ List.mem_cons_self)
  cases hn9.symm.trans B.named
  cases hm9.symm.trans B.method
  cases hc9.symm.trans (Stand.of_body B).code
  obtain ⟨x0, xs0, ht0, ⟨a0, b0, c0, d0⟩, hr0⟩ := hTab htab
  have a0 : x0.startPc = 0 := a0
  have b0 : x0.endPc = 8 := b0
  have c0 : x0.handlerPc = 11 := c0
  have d0 : x0.catchType = 13 := d0
  obtain ⟨x1, xs1, ht1, ⟨a1, b1, c1, d1⟩, hr1⟩ := hTab hr0
  have a1 : x1.startPc = 0 := a1
  have b1 : x1.endPc = 8 := b1
  have c1 : x1.handlerPc = 14 := c1
  have d1 : x1.catchType = 25 := d1
  obtain ⟨x2, xs2, ht2, ⟨a2, b2, c2, d2⟩, hr2⟩ := hTab hr1
  have a2 : x2.startPc = 0 := a2
  have b2 : x2.endPc = 8 := b2
  have c2 : x2.handlerPc = 17 := c2
  have d2 : x2.catchType = 27 := d2
  have htn := hNil hr2
  subst htn
  subst ht2
  subst ht1
  have hl := lv_entry ([.ref (b + r0), .ref (b + r1)]) (n := 3) (Nat.le_of_ble_eq_true rfl)
  rw [lg_entry_eq]
  generalize (lg_sl ([.ref (b + r0), .ref (b + r1)]) ++ List.replicate (3 - (lg_sl ([.ref (b + r0), .ref (b + r1)])).length) Slot.unset).toArray = ls at hl ⊢
  have hl : lv_has ls 3 [(0, .ref (b + r0)), (1, .ref (b + r1))] := hl
  unfold D_LA_answers at h
  obtain ⟨g0, h⟩ := of_g h
  cases hX : X_JL_answers n r0 μ with
  | none =>
    rw [hX] at h
    have h : C_LA_answers n r0 r1 μ = some res := h
    unfold C_LA_answers at h
    refine W.widen (k := 1) (n := 6) (by decide) (by decide) ?_
    refine lv_aload_n hx hb d_LA_answers_0 rfl (lv_at hl 1 rfl) ?_
    refine lv_iconst (v := 0) hx hb d_LA_answers_1 (by decide) ?_
    refine lv_aload_n hx hb d_LA_answers_2 rfl (lv_at hl 0 rfl) ?_
    obtain ⟨g1, h⟩ := of_g h
    obtain ⟨q2, hq2, h⟩ := of_b h
    refine g_calli (va_runV (As := []) (rest := [.int 0, .ref (b + r1)]) ⟨hx, hb, hml, hown, hts⟩ (S_JL_answers l D b cs r0 μ q2 n hq2) ⟨callB_of 0 hts (goodIn_g jm_6_41) rfl rfl rfl (hts _ jm_0_1) (hts _ jm_6_38) (by decide +kernel) ⟨Nat.le_of_ble_eq_true rfl, Nat.le_of_ble_eq_true rfl⟩, (hts _ jm_6_39), (hts _ jm_6_40)⟩ (Wd.preV hK hM g1 rfl (by decide)) rfl rfl hl.1 rfl (lv_room (Nat.le_of_ble_eq_true rfl)) d_LA_answers_3 ⟨Nat.le_of_ble_eq_true rfl, Nat.le_of_ble_eq_true rfl⟩) hM (fun H locs hM => ?_)
    refine lv_i2l hx hb d_LA_answers_6 rfl ?_
    obtain ⟨g3, h⟩ := of_g h
    obtain ⟨g4, h⟩ := of_g h
    obtain ⟨μ5, e_μ5, h⟩ := of_b h
    obtain rfl := Option.some.inj e_μ5
    refine g_last (v := Int32.toInt64 q2.1) hx hb hK hM g3 g4 d_LA_answers_7 (fun H locs hM => ?_)
    refine lv_goto (tgt := 20) hx hb d_LA_answers_8 (by decide) ?_
    refine lv_iconst (v := 0) hx hb d_LA_answers_20 (by decide) ?_
    exact g_iret hx hb hr hlocks hM (Option.some.inj h) d_LA_answers_21
  | some q =>
    rw [hX] at h
    have h : (if q.1 = 1 then some (1, q.2) else if q.1 = 2 then some (2, q.2) else if q.1 = 3 then some (3, q.2) else none) = some res := h
    have hY := Y_JL_answers l hst D b cs r0 μ q n hX
    by_cases hk0 : q.1 = 1
    · rw [if_pos hk0] at h
      rw [hk0] at hY
      have hY : MetT l y_JL_answers w_JL_answers 13 309 b cs D μ [.ref (b + r0)] "java/lang/IllegalStateException" q.2 := hY
      refine lv_aload_n hx hb d_LA_answers_0 rfl (lv_at hl 1 rfl) ?_
      refine lv_iconst (v := 0) hx hb d_LA_answers_1 (by decide) ?_
      refine lv_aload_n hx hb d_LA_answers_2 rfl (lv_at hl 0 rfl) ?_
      refine g_catchV (n := 0) (As := []) (rest := [.int 0, .ref (b + r1)]) hx hb hml hown hts hK hZ hM hY jm_6_41 jm_0_1 jm_6_38 jm_6_39 jm_6_40 (by decide +kernel) (Nat.le_of_ble_eq_true rfl) (Nat.le_of_ble_eq_true rfl) g0 (by decide) rfl rfl rfl hl.1 (Nat.le_of_ble_eq_true rfl) d_LA_answers_3 (Nat.le_of_ble_eq_true rfl) (Nat.le_of_ble_eq_true rfl) [] x0 [x1, x2] ht0 (fun z hz => absurd hz List.not_mem_nil) (by unfold covers; rw [a0, b0]; rfl) (by rw [d0]; decide) (by rw [d0]; exact jm_4_4) jn_40 c0 (fun a H locs hM => ?_)
      refine lv_astore_n hx hb d_LA_answers_11 rfl hl (by decide) rfl (fun ls hl => ?_)
      refine lv_iconst (v := 1) hx hb d_LA_answers_12 (by decide) ?_
      exact g_iret hx hb hr hlocks hM (Option.some.inj h) d_LA_answers_13
    · rw [if_neg hk0] at h
      by_cases hk1 : q.1 = 2
      · rw [if_pos hk1] at h
        rw [hk1] at hY
        have hY : MetT l y_JL_answers w_JL_answers 13 309 b cs D μ [.ref (b + r0)] "java/lang/IllegalArgumentException" q.2 := hY
        refine lv_aload_n hx hb d_LA_answers_0 rfl (lv_at hl 1 rfl) ?_
        refine lv_iconst (v := 0) hx hb d_LA_answers_1 (by decide) ?_
        refine lv_aload_n hx hb d_LA_answers_2 rfl (lv_at hl 0 rfl) ?_
        refine g_catchV (n := 0) (As := []) (rest := [.int 0, .ref (b + r1)]) hx hb hml hown hts hK hZ hM hY jm_6_41 jm_0_1 jm_6_38 jm_6_39 jm_6_40 (by decide +kernel) (Nat.le_of_ble_eq_true rfl) (Nat.le_of_ble_eq_true rfl) g0 (by decide) rfl rfl rfl hl.1 (Nat.le_of_ble_eq_true rfl) d_LA_answers_3 (Nat.le_of_ble_eq_true rfl) (Nat.le_of_ble_eq_true rfl) [x0] x1 [x2] ht0 (fun z hz => by
          simp only [List.mem_cons, List.not_mem_nil, or_false] at hz
          rcases hz with rfl
          · exact ⟨by rw [d0]; decide, "java/lang/IllegalStateException", by rw [d0]; exact jm_4_4, hZ.2.2 ("java/lang/IllegalArgumentException", "java/lang/IllegalStateException") (by decide +kernel)⟩) (by unfold covers; rw [a1, b1]; rfl) (by rw [d1]; decide) (by rw [d1]; exact jm_6_36) jn_56 c1 (fun a H locs hM => ?_)
        refine lv_astore_n hx hb d_LA_answers_14 rfl hl (by decide) rfl (fun ls hl => ?_)
        refine lv_iconst (v := 2) hx hb d_LA_answers_15 (by decide) ?_
        exact g_iret hx hb hr hlocks hM (Option.some.inj h) d_LA_answers_16
      · rw [if_neg hk1] at h
        by_cases hk2 : q.1 = 3
        · rw [if_pos hk2] at h
          rw [hk2] at hY
          have hY : MetT l y_JL_answers w_JL_answers 13 309 b cs D μ [.ref (b + r0)] "java/lang/UnsupportedOperationException" q.2 := hY
          refine lv_aload_n hx hb d_LA_answers_0 rfl (lv_at hl 1 rfl) ?_
          refine lv_iconst (v := 0) hx hb d_LA_answers_1 (by decide) ?_
          refine lv_aload_n hx hb d_LA_answers_2 rfl (lv_at hl 0 rfl) ?_
          refine g_catchV (n := 0) (As := []) (rest := [.int 0, .ref (b + r1)]) hx hb hml hown hts hK hZ hM hY jm_6_41 jm_0_1 jm_6_38 jm_6_39 jm_6_40 (by decide +kernel) (Nat.le_of_ble_eq_true rfl) (Nat.le_of_ble_eq_true rfl) g0 (by decide) rfl rfl rfl hl.1 (Nat.le_of_ble_eq_true rfl) d_LA_answers_3 (Nat.le_of_ble_eq_true rfl) (Nat.le_of_ble_eq_true rfl) [x0, x1] x2 [] ht0 (fun z hz => by
            simp only [List.mem_cons, List.not_mem_nil, or_false] at hz
            rcases hz with rfl | rfl
            · exact ⟨by rw [d0]; decide, "java/lang/IllegalStateException", by rw [d0]; exact jm_4_4, hZ.2.2 ("java/lang/UnsupportedOperationException", "java/lang/IllegalStateException") (by decide +kernel)⟩
            · exact ⟨by rw [d1]; decide, "java/lang/IllegalArgumentException", by rw [d1]; exact jm_6_36, hZ.2.2 ("java/lang/UnsupportedOperationException", "java/lang/IllegalArgumentException") (by decide +kernel)⟩) (by unfold covers; rw [a2, b2]; rfl) (by rw [d2]; decide) (by rw [d2]; exact jm_6_37) jn_62 c2 (fun a H locs hM => ?_)
          refine lv_astore_n hx hb d_LA_answers_17 rfl hl (by decide) rfl (fun ls hl => ?_)
          refine lv_iconst (v := 3) hx hb d_LA_answers_18 (by decide) ?_
          exact g_iret hx hb hr hlocks hM (Option.some.inj h) d_LA_answers_19
        · rw [if_neg hk2] at h
          exact (nomatch h)
abbrev w_LA_answer : List Cond := .codeWith y_LA_answer b_LA_answer 5 (Option.some Jvm.ClassFile.FieldType.int) [(0, 10, 13, 13), (0, 10, 17, 25), (0, 10, 21, 27), (0, 10, 25, 19)] :: jW
def C_LA_answer (n : Nat) (r0 : Nat) (i1 : Int32) (i2 : Int32) (r3 : Nat) (μ : Mem) : Option (Int32 × Mem) :=
  if ok μ r0 5 = true then Option.bind (C_JL_answer n r0 i1 i2 μ) (fun q2 => if ok q2.2 r3 101 = true then if ib 0 (mZ q2.2 r3) = true then Option.bind (some (sL q2.2 r3 (Int32.toNatClampNeg 0) (Int32.toInt64 q2.1))) (fun μ5 => some (0, μ5)) else none else none) else none
def D_LA_answer (n : Nat) (r0 : Nat) (i1 : Int32) (i2 : Int32) (r3 : Nat) (μ : Mem) : Option (Int32 × Mem) :=
  if ok μ r0 5 = true then (match X_JL_answer n r0 i1 i2 μ with
    | some q => if q.1 = 1 then some (1, q.2) else if q.1 = 2 then some (2, q.2) else if q.1 = 3 then some (3, q.2) else if q.1 = 4 then some (4, q.2) else none
    | none => C_LA_answer n r0 i1 i2 r3 μ) else none
set_option maxHeartbeats 4000000 in
set_option maxRecDepth 100000 in
theorem Z_LA_answer (l : Launch) (hst : l.stackTraces = false) (D : va_G) (b : Nat) (cs : Nat → ClassId) (r0 : Nat) (i1 : Int32) (i2 : Int32) (r3 : Nat) (μ : Mem) (res : Int32 × Mem) (n : Nat) (h : D_LA_answer n r0 i1 i2 r3 μ = some res) : MetA l y_LA_answer w_LA_answer 14 331 b cs D μ [.ref (b + r0), .int i1, .int i2, .ref (b + r3)] res := by
  refine va_MetW (cc := b_LA_answer) (maxL := 5) (ret := (Option.some Jvm.ClassFile.FieldType.int)) (hh := [(0, 10, 13, 13), (0, 10, 17, 25), (0, 10, 21, 27), (0, 10, 25, 19)]) (by decide) rfl ?_
  intro p e s m args below meth c s₁ B hml hv
  obtain ⟨rfl, hK, hZ, hM⟩ := Wd.startX hv
  have hx := B.exec
  have hb := B.bytes
  have hr := B.returns
  have hts : ∀ w ∈ jW, w.before _ s = true := fun w hw => atoms_spec (ws := w_LA_answer) B.pre w (List.mem_cons_of_mem _ hw)
  have hown : s.vm.findClass "JoinedLeavesLaw" = some m.cls := findClass_of_methodNamed B.named
  have hlocks := B.notSynchronized
  obtain ⟨m9, meth9, c9, hn9, hm9, hc9, -, -, htab, -, -, -⟩ := Cond.codeWith_spec (atoms_spec (ws := w_LA_answer) B.pre _ List.mem_cons_self)
  cases hn9.symm.trans B.named
  cases hm9.symm.trans B.method
  cases hc9.symm.trans (Stand.of_body B).code
  obtain ⟨x0, xs0, ht0, ⟨a0, b0, c0, d0⟩, hr0⟩ := hTab htab
  have a0 : x0.startPc = 0 := a0
  have b0 : x0.endPc = 10 := b0
  have c0 : x0.handlerPc = 13 := c0
  have d0 : x0.catchType = 13 := d0
  obtain ⟨x1, xs1, ht1, ⟨a1, b1, c1, d1⟩, hr1⟩ := hTab hr0
  have a1 : x1.startPc = 0 := a1
  have b1 : x1.endPc = 10 := b1
  have c1 : x1.handlerPc = 17 := c1
  have d1 : x1.catchType = 25 := d1
  obtain ⟨x2, xs2, ht2, ⟨a2, b2, c2, d2⟩, hr2⟩ := hTab hr1
  have a2 : x2.startPc = 0 := a2
  have b2 : x2.endPc = 10 := b2
  have c2 : x2.handlerPc = 21 := c2
  have d2 : x2.catchType = 27 := d2
  obtain ⟨x3, xs3, ht3, ⟨a3, b3, c3, d3⟩, hr3⟩ := hTab hr2
  have a3 : x3.startPc = 0 := a3
  have b3 : x3.endPc = 10 := b3
  have c3 : x3.handlerPc = 25 := c3
  have d3 : x3.catchType = 19 := d3
  have htn := hNil hr3
  subst htn
  subst ht3
  subst ht2
  subst ht1
  have hl := lv_entry ([.ref (b + r0), .int i1, .int i2, .ref (b + r3)]) (n := 5) (Nat.le_of_ble_eq_true rfl)
  rw [lg_entry_eq]
  generalize (lg_sl ([.ref (b + r0), .int i1, .int i2, .ref (b + r3)]) ++ List.replicate (5 - (lg_sl ([.ref (b + r0), .int i1, .int i2, .ref (b + r3)])).length) Slot.unset).toArray = ls at hl ⊢
  have hl : lv_has ls 5 [(0, .ref (b + r0)), (1, .int i1), (2, .int i2), (3, .ref (b + r3))] := hl
  unfold D_LA_answer at h
  obtain ⟨g0, h⟩ := of_g h
  cases hX : X_JL_answer n r0 i1 i2 μ with
  | none =>
    rw [hX] at h
    have h : C_LA_answer n r0 i1 i2 r3 μ = some res := h
    unfold C_LA_answer at h
    refine W.widen (k := 1) (n := 6) (by decide) (by decide) ?_
    refine lv_aload_n hx hb d_LA_answer_0 rfl (lv_at hl 3 rfl) ?_
    refine lv_iconst (v := 0) hx hb d_LA_answer_1 (by decide) ?_
    refine lv_aload_n hx hb d_LA_answer_2 rfl (lv_at hl 0 rfl) ?_
    refine lv_iload_n hx hb d_LA_answer_3 rfl (lv_at hl 1 rfl) ?_
    refine lv_iload_n hx hb d_LA_answer_4 rfl (lv_at hl 2 rfl) ?_
    obtain ⟨g1, h⟩ := of_g h
    obtain ⟨q2, hq2, h⟩ := of_b h
    refine g_calli (va_runV (As := [.int i1, .int i2]) (rest := [.int 0, .ref (b + r3)]) ⟨hx, hb, hml, hown, hts⟩ (S_JL_answer l D b cs r0 i1 i2 μ q2 n hq2) ⟨callB_of 2 hts (goodIn_g jm_8_6) rfl rfl rfl (hts _ jm_0_1) (hts _ jm_8_3) (by decide +kernel) ⟨Nat.le_of_ble_eq_true rfl, Nat.le_of_ble_eq_true rfl⟩, (hts _ jm_8_4), (hts _ jm_8_5)⟩ (Wd.preV hK hM g1 rfl (by decide)) rfl rfl hl.1 rfl (lv_room (Nat.le_of_ble_eq_true rfl)) d_LA_answer_5 ⟨Nat.le_of_ble_eq_true rfl, Nat.le_of_ble_eq_true rfl⟩) hM (fun H locs hM => ?_)
    refine lv_i2l hx hb d_LA_answer_8 rfl ?_
    obtain ⟨g3, h⟩ := of_g h
    obtain ⟨g4, h⟩ := of_g h
    obtain ⟨μ5, e_μ5, h⟩ := of_b h
    obtain rfl := Option.some.inj e_μ5
    refine g_last (v := Int32.toInt64 q2.1) hx hb hK hM g3 g4 d_LA_answer_9 (fun H locs hM => ?_)
    refine lv_goto (tgt := 29) hx hb d_LA_answer_10 (by decide) ?_
    refine lv_iconst (v := 0) hx hb d_LA_answer_29 (by decide) ?_
    exact g_iret hx hb hr hlocks hM (Option.some.inj h) d_LA_answer_30
  | some q =>
    rw [hX] at h
    have h : (if q.1 = 1 then some (1, q.2) else if q.1 = 2 then some (2, q.2) else if q.1 = 3 then some (3, q.2) else if q.1 = 4 then some (4, q.2) else none) = some res := h
    have hY := Y_JL_answer l hst D b cs r0 i1 i2 μ q n hX
    by_cases hk0 : q.1 = 1
    · rw [if_pos hk0] at h
      rw [hk0] at hY
      have hY : MetT l y_JL_answer w_JL_answer 13 309 b cs D μ [.ref (b + r0), .int i1, .int i2] "java/lang/IllegalStateException" q.2 := hY
      refine lv_aload_n hx hb d_LA_answer_0 rfl (lv_at hl 3 rfl) ?_
      refine lv_iconst (v := 0) hx hb d_LA_answer_1 (by decide) ?_
      refine lv_aload_n hx hb d_LA_answer_2 rfl (lv_at hl 0 rfl) ?_
      refine lv_iload_n hx hb d_LA_answer_3 rfl (lv_at hl 1 rfl) ?_
      refine lv_iload_n hx hb d_LA_answer_4 rfl (lv_at hl 2 rfl) ?_
      refine g_catchV (n := 2) (As := [.int i1, .int i2]) (rest := [.int 0, .ref (b + r3)]) hx hb hml hown hts hK hZ hM hY jm_8_6 jm_0_1 jm_8_3 jm_8_4 jm_8_5 (by decide +kernel) (Nat.le_of_ble_eq_true rfl) (Nat.le_of_ble_eq_true rfl) g0 (by decide) rfl rfl rfl hl.1 (Nat.le_of_ble_eq_true rfl) d_LA_answer_5 (Nat.le_of_ble_eq_true rfl) (Nat.le_of_ble_eq_true rfl) [] x0 [x1, x2, x3] ht0 (fun z hz => absurd hz List.not_mem_nil) (by unfold covers; rw [a0, b0]; rfl) (by rw [d0]; decide) (by rw [d0]; exact jm_4_4) jn_40 c0 (fun a H locs hM => ?_)
      refine lv_astore hx hb d_LA_answer_13 hl (by decide) rfl (fun ls hl => ?_)
      refine lv_iconst (v := 1) hx hb d_LA_answer_15 (by decide) ?_
      exact g_iret hx hb hr hlocks hM (Option.some.inj h) d_LA_answer_16
    · rw [if_neg hk0] at h
      by_cases hk1 : q.1 = 2
      · rw [if_pos hk1] at h
        rw [hk1] at hY
        have hY : MetT l y_JL_answer w_JL_answer 13 309 b cs D μ [.ref (b + r0), .int i1, .int i2] "java/lang/IllegalArgumentException" q.2 := hY
        refine lv_aload_n hx hb d_LA_answer_0 rfl (lv_at hl 3 rfl) ?_
        refine lv_iconst (v := 0) hx hb d_LA_answer_1 (by decide) ?_
        refine lv_aload_n hx hb d_LA_answer_2 rfl (lv_at hl 0 rfl) ?_
        refine lv_iload_n hx hb d_LA_answer_3 rfl (lv_at hl 1 rfl) ?_
        refine lv_iload_n hx hb d_LA_answer_4 rfl (lv_at hl 2 rfl) ?_
        refine g_catchV (n := 2) (As := [.int i1, .int i2]) (rest := [.int 0, .ref (b + r3)]) hx hb hml hown hts hK hZ hM hY jm_8_6 jm_0_1 jm_8_3 jm_8_4 jm_8_5 (by decide +kernel) (Nat.le_of_ble_eq_true rfl) (Nat.le_of_ble_eq_true rfl) g0 (by decide) rfl rfl rfl hl.1 (Nat.le_of_ble_eq_true rfl) d_LA_answer_5 (Nat.le_of_ble_eq_true rfl) (Nat.le_of_ble_eq_true rfl) [x0] x1 [x2, x3] ht0 (fun z hz => by
          simp only [List.mem_cons, List.not_mem_nil, or_false] at hz
          rcases hz with rfl
          · exact ⟨by rw [d0]; decide, "java/lang/IllegalStateException", by rw [d0]; exact jm_4_4, hZ.2.2 ("java/lang/IllegalArgumentException", "java/lang/IllegalStateException") (by decide +kernel)⟩) (by unfold covers; rw [a1, b1]; rfl) (by rw [d1]; decide) (by rw [d1]; exact jm_6_36) jn_56 c1 (fun a H locs hM => ?_)
        refine lv_astore hx hb d_LA_answer_17 hl (by decide) rfl (fun ls hl => ?_)
        refine lv_iconst (v := 2) hx hb d_LA_answer_19 (by decide) ?_
        exact g_iret hx hb hr hlocks hM (Option.some.inj h) d_LA_answer_20
      · rw [if_neg hk1] at h
        by_cases hk2 : q.1 = 3
        · rw [if_pos hk2] at h
          rw [hk2] at hY
          have hY : MetT l y_JL_answer w_JL_answer 13 309 b cs D μ [.ref (b + r0), .int i1, .int i2] "java/lang/UnsupportedOperationException" q.2 := hY
          refine lv_aload_n hx hb d_LA_answer_0 rfl (lv_at hl 3 rfl) ?_
          refine lv_iconst (v := 0) hx hb d_LA_answer_1 (by decide) ?_
          refine lv_aload_n hx hb d_LA_answer_2 rfl (lv_at hl 0 rfl) ?_
          refine lv_iload_n hx hb d_LA_answer_3 rfl (lv_at hl 1 rfl) ?_
          refine lv_iload_n hx hb d_LA_answer_4 rfl (lv_at hl 2 rfl) ?_
          refine g_catchV (n := 2) (As := [.int i1, .int i2]) (rest := [.int 0, .ref (b + r3)]) hx hb hml hown hts hK hZ hM hY jm_8_6 jm_0_1 jm_8_3 jm_8_4 jm_8_5 (by decide +kernel) (Nat.le_of_ble_eq_true rfl) (Nat.le_of_ble_eq_true rfl) g0 (by decide) rfl rfl rfl hl.1 (Nat.le_of_ble_eq_true rfl) d_LA_answer_5 (Nat.le_of_ble_eq_true rfl) (Nat.le_of_ble_eq_true rfl) [x0, x1] x2 [x3] ht0 (fun z hz => by
            simp only [List.mem_cons, List.not_mem_nil, or_false] at hz
            rcases hz with rfl | rfl
            · exact ⟨by rw [d0]; decide, "java/lang/IllegalStateException", by rw [d0]; exact jm_4_4, hZ.2.2 ("java/lang/UnsupportedOperationException", "java/lang/IllegalStateException") (by decide +kernel)⟩
            · exact ⟨by rw [d1]; decide, "java/lang/IllegalArgumentException", by rw [d1]; exact jm_6_36, hZ.2.2 ("java/lang/UnsupportedOperationException", "java/lang/IllegalArgumentException") (by decide +kernel)⟩) (by unfold covers; rw [a2, b2]; rfl) (by rw [d2]; decide) (by rw [d2]; exact jm_6_37) jn_62 c2 (fun a H locs hM => ?_)
          refine lv_astore hx hb d_LA_answer_21 hl (by decide) rfl (fun ls hl => ?_)
          refine lv_iconst (v := 3) hx hb d_LA_answer_23 (by decide) ?_
          exact g_iret hx hb hr hlocks hM (Option.some.inj h) d_LA_answer_24
        · rw [if_neg hk2] at h
          by_cases hk3 : q.1 = 4
          · rw [if_pos hk3] at h
            rw [hk3] at hY
            have hY : MetT l y_JL_answer w_JL_answer 13 309 b cs D μ [.ref (b + r0), .int i1, .int i2] "java/lang/IndexOutOfBoundsException" q.2 := hY
            refine lv_aload_n hx hb d_LA_answer_0 rfl (lv_at hl 3 rfl) ?_
            refine lv_iconst (v := 0) hx hb d_LA_answer_1 (by decide) ?_
            refine lv_aload_n hx hb d_LA_answer_2 rfl (lv_at hl 0 rfl) ?_
            refine lv_iload_n hx hb d_LA_answer_3 rfl (lv_at hl 1 rfl) ?_
            refine lv_iload_n hx hb d_LA_answer_4 rfl (lv_at hl 2 rfl) ?_
            refine g_catchV (n := 2) (As := [.int i1, .int i2]) (rest := [.int 0, .ref (b + r3)]) hx hb hml hown hts hK hZ hM hY jm_8_6 jm_0_1 jm_8_3 jm_8_4 jm_8_5 (by decide +kernel) (Nat.le_of_ble_eq_true rfl) (Nat.le_of_ble_eq_true rfl) g0 (by decide) rfl rfl rfl hl.1 (Nat.le_of_ble_eq_true rfl) d_LA_answer_5 (Nat.le_of_ble_eq_true rfl) (Nat.le_of_ble_eq_true rfl) [x0, x1, x2] x3 [] ht0 (fun z hz => by
              simp only [List.mem_cons, List.not_mem_nil, or_false] at hz
              rcases hz with rfl | rfl | rfl
              · exact ⟨by rw [d0]; decide, "java/lang/IllegalStateException", by rw [d0]; exact jm_4_4, hZ.2.2 ("java/lang/IndexOutOfBoundsException", "java/lang/IllegalStateException") (by decide +kernel)⟩
              · exact ⟨by rw [d1]; decide, "java/lang/IllegalArgumentException", by rw [d1]; exact jm_6_36, hZ.2.2 ("java/lang/IndexOutOfBoundsException", "java/lang/IllegalArgumentException") (by decide +kernel)⟩
              · exact ⟨by rw [d2]; decide, "java/lang/UnsupportedOperationException", by rw [d2]; exact jm_6_37, hZ.2.2 ("java/lang/IndexOutOfBoundsException", "java/lang/UnsupportedOperationException") (by decide +kernel)⟩) (by unfold covers; rw [a3, b3]; rfl) (by rw [d3]; decide) (by rw [d3]; exact jm_5_45) jn_53 c3 (fun a H locs hM => ?_)
            refine lv_astore hx hb d_LA_answer_25 hl (by decide) rfl (fun ls hl => ?_)
            refine lv_iconst (v := 4) hx hb d_LA_answer_27 (by decide) ?_
            exact g_iret hx hb hr hlocks hM (Option.some.inj h) d_LA_answer_28
          · rw [if_neg hk3] at h
            exact (nomatch h)
