/-! By program (wip/whole/gen.py): for each method its function over memories, and its contract. -/
abbrev w_JL_requireTree : List Cond := .code y_JL_requireTree b_JL_requireTree 1 (Option.none : Option Jvm.ClassFile.FieldType) :: jW
def C_JL_requireTree (n : Nat) (r0 : Nat) (μ : Mem) : Option (Mem) :=
  if ok μ r0 5 = true then if ok μ (mR μ r0 3) 3 = true then Option.bind (C_HA_isTree n (mR μ r0 3) μ) (fun q3 => if q3.1 = 0 then none else some q3.2) else none else none
set_option maxHeartbeats 4000000 in
set_option maxRecDepth 100000 in
theorem S_JL_requireTree (l : Launch) (D : va_G) (b : Nat) (cs : Nat → ClassId) (r0 : Nat) (μ : Mem) (res : Mem) (n : Nat) (h : C_JL_requireTree n r0 μ = some res) : MetV l y_JL_requireTree w_JL_requireTree 1 20 b cs D μ [.ref (b + r0)] res := by
  refine Met.ofW (cc := b_JL_requireTree) (maxL := 1) (ret := (Option.none : Option Jvm.ClassFile.FieldType)) (by decide) rfl ?_
  intro p e s m args below meth c s₁ B hml hv
  obtain ⟨rfl, hK, hM⟩ := Wd.start hv
  have hx := B.exec
  have hb := B.bytes
  have hr := B.returns
  have hts : ∀ w ∈ jW, w.before _ s = true := fun w hw => atoms_spec (ws := w_JL_requireTree) B.pre w (List.mem_cons_of_mem _ hw)
  have hown : s.vm.findClass "JoinedLeaves" = some m.cls := findClass_of_methodNamed B.named
  have hlocks := B.notSynchronized
  have hl := lv_entry ([.ref (b + r0)]) (n := 1) (Nat.le_of_ble_eq_true rfl)
  rw [lg_entry_eq]
  generalize (lg_sl ([.ref (b + r0)]) ++ List.replicate (1 - (lg_sl ([.ref (b + r0)])).length) Slot.unset).toArray = ls at hl ⊢
  have hl : lv_has ls 1 [(0, .ref (b + r0))] := hl
  unfold C_JL_requireTree at h
  refine lv_aload_n hx hb d_JL_requireTree_0 rfl (lv_at hl 0 rfl) ?_
  obtain ⟨g1, h⟩ := of_g h
  obtain ⟨g2, h⟩ := of_g h
  refine g_get (C := "JoinedLeaves") (T := T_JL) (N := 5) (ref := "JoinedLeaves") (v := .ref (b + (mR μ r0 3))) hx hb hts jF_JL hown hK hM g1 (by decide) rfl 3 (by decide) (hts _ jm_2_13) (fun _ h9 => h9) (by decide) (rv_of (ok_0 g2)) d_JL_requireTree_1 ?_
  obtain ⟨q3, hq3, h⟩ := of_b h
  refine g_calli (va_runVN (As := []) (rest := []) ⟨hx, hb, hml, hown, hts⟩ (S_HA_isTree l D b cs (mR μ r0 3) μ q3 n hq3) ⟨va_cnB 0 hts (goodIn_g jm_3_40) rfl rfl rfl (hK.2.1 _ jn_39) (hts _ jm_0_5) (by decide +kernel) ⟨Nat.le_of_ble_eq_true rfl, Nat.le_of_ble_eq_true rfl⟩, (hts _ jm_3_39), (hts _ jm_11_32)⟩ (Wd.preV hK hM g2 rfl (by decide)) rfl rfl hl.1 rfl (lv_room (Nat.le_of_ble_eq_true rfl)) d_JL_requireTree_4 ⟨Nat.le_of_ble_eq_true rfl, Nat.le_of_ble_eq_true rfl⟩) hM (fun H locs hM => ?_)
  refine lv_if_ne (tgt := 20) hx hb d_JL_requireTree_7 (by decide) (fun hc => ?_) (fun hc => ?_)
  · replace h := of_f hc h
    exact g_vret hx hb hr hlocks hM (Option.some.inj h) d_JL_requireTree_20
  · replace h := of_t hc h
    exact (nomatch h)
abbrev w_JL_ways : List Cond := .code y_JL_ways b_JL_ways 1 (Option.some Jvm.ClassFile.FieldType.long) :: jW
def C_JL_ways (n : Nat) (r0 : Nat) (μ : Mem) : Option (Int64 × Mem) :=
  if ok μ r0 5 = true then Option.bind (C_JL_requireTree n r0 μ) (fun q2 => if ok q2 r0 5 = true then if ok q2 (mR q2 r0 4) 4 = true then Option.bind (C_JO_countWays n (mR q2 r0 4) q2) (fun q5 => some (q5.1, q5.2)) else none else none) else none
set_option maxHeartbeats 4000000 in
set_option maxRecDepth 100000 in
theorem S_JL_ways (l : Launch) (D : va_G) (b : Nat) (cs : Nat → ClassId) (r0 : Nat) (μ : Mem) (res : Int64 × Mem) (n : Nat) (h : C_JL_ways n r0 μ = some res) : MetL l y_JL_ways w_JL_ways 5 118 b cs D μ [.ref (b + r0)] res := by
  refine Met.ofW (cc := b_JL_ways) (maxL := 1) (ret := (Option.some Jvm.ClassFile.FieldType.long)) (by decide) rfl ?_
  intro p e s m args below meth c s₁ B hml hv
  obtain ⟨rfl, hK, hM⟩ := Wd.start hv
  have hx := B.exec
  have hb := B.bytes
  have hr := B.returns
  have hts : ∀ w ∈ jW, w.before _ s = true := fun w hw => atoms_spec (ws := w_JL_ways) B.pre w (List.mem_cons_of_mem _ hw)
  have hown : s.vm.findClass "JoinedLeaves" = some m.cls := findClass_of_methodNamed B.named
  have hlocks := B.notSynchronized
  have hl := lv_entry ([.ref (b + r0)]) (n := 1) (Nat.le_of_ble_eq_true rfl)
  rw [lg_entry_eq]
  generalize (lg_sl ([.ref (b + r0)]) ++ List.replicate (1 - (lg_sl ([.ref (b + r0)])).length) Slot.unset).toArray = ls at hl ⊢
  have hl : lv_has ls 1 [(0, .ref (b + r0))] := hl
  unfold C_JL_ways at h
  refine lv_aload_n hx hb d_JL_ways_0 rfl (lv_at hl 0 rfl) ?_
  obtain ⟨g1, h⟩ := of_g h
  obtain ⟨q2, hq2, h⟩ := of_b h
  refine g_callv (va_runV (As := []) (rest := []) ⟨hx, hb, hml, hown, hts⟩ (S_JL_requireTree l D b cs r0 μ q2 n hq2) ⟨callB_of 0 hts (goodIn_g jm_4_11) rfl rfl rfl (hts _ jm_0_1) (hts _ jm_4_9) (by decide +kernel) ⟨Nat.le_of_ble_eq_true rfl, Nat.le_of_ble_eq_true rfl⟩, (hts _ jm_4_10), (hts _ jm_11_33)⟩ (Wd.preV hK hM g1 rfl (by decide)) rfl rfl hl.1 rfl (lv_room (Nat.le_of_ble_eq_true rfl)) d_JL_ways_1 ⟨Nat.le_of_ble_eq_true rfl, Nat.le_of_ble_eq_true rfl⟩) hM (fun H locs hM => ?_)
  refine lv_aload_n hx hb d_JL_ways_4 rfl (lv_at hl 0 rfl) ?_
  obtain ⟨g3, h⟩ := of_g h
  obtain ⟨g4, h⟩ := of_g h
  refine g_get (C := "JoinedLeaves") (T := T_JL) (N := 5) (ref := "JoinedLeaves") (v := .ref (b + (mR q2 r0 4))) hx hb hts jF_JL hown hK hM g3 (by decide) rfl 4 (by decide) (hts _ jm_2_14) (fun _ h9 => h9) (by decide) (rv_of (ok_0 g4)) d_JL_ways_5 ?_
  obtain ⟨q5, hq5, h⟩ := of_b h
  refine g_calll (va_runVN (As := []) (rest := []) ⟨hx, hb, hml, hown, hts⟩ (S_JO_countWays l D b cs (mR q2 r0 4) q2 q5 n hq5) ⟨va_cnB 0 hts (goodIn_g jm_5_15) rfl rfl rfl (hK.2.1 _ jn_47) (hts _ jm_0_6) (by decide +kernel) ⟨Nat.le_of_ble_eq_true rfl, Nat.le_of_ble_eq_true rfl⟩, (hts _ jm_5_14), (hts _ jm_11_35)⟩ (Wd.preV hK hM g4 rfl (by decide)) rfl rfl hl.1 rfl (lv_room (Nat.le_of_ble_eq_true rfl)) d_JL_ways_8 ⟨Nat.le_of_ble_eq_true rfl, Nat.le_of_ble_eq_true rfl⟩) hM (fun H locs hM => ?_)
  exact g_lret hx hb hr hlocks hM (Option.some.inj h) d_JL_ways_11
abbrev w_JL_live : List Cond := .code y_JL_live b_JL_live 2 (Option.some Jvm.ClassFile.FieldType.int) :: jW
def C_JL_live (n : Nat) (r0 : Nat) (i1 : Int32) (μ : Mem) : Option (Int32 × Mem) :=
  if ok μ r0 5 = true then Option.bind (C_JL_requireTree n r0 μ) (fun q2 => if ok q2 r0 5 = true then if ok q2 (mR q2 r0 2) 2 = true then Option.bind (C_JL_isBelow n i1 (mI q2 (mR q2 r0 2) 1) q2) (fun q5 => if q5.1 = 0 then none else if ok q5.2 r0 5 = true then if ok q5.2 (mR q5.2 r0 4) 4 = true then Option.bind (C_JO_countLiveRows n (mR q5.2 r0 4) i1 q5.2) (fun q8 => some (q8.1, q8.2)) else none else none) else none else none) else none
set_option maxHeartbeats 4000000 in
set_option maxRecDepth 100000 in
theorem S_JL_live (l : Launch) (D : va_G) (b : Nat) (cs : Nat → ClassId) (r0 : Nat) (i1 : Int32) (μ : Mem) (res : Int32 × Mem) (n : Nat) (h : C_JL_live n r0 i1 μ = some res) : MetI l y_JL_live w_JL_live 5 117 b cs D μ [.ref (b + r0), .int i1] res := by
  refine Met.ofW (cc := b_JL_live) (maxL := 2) (ret := (Option.some Jvm.ClassFile.FieldType.int)) (by decide) rfl ?_
  intro p e s m args below meth c s₁ B hml hv
  obtain ⟨rfl, hK, hM⟩ := Wd.start hv
  have hx := B.exec
  have hb := B.bytes
  have hr := B.returns
  have hts : ∀ w ∈ jW, w.before _ s = true := fun w hw => atoms_spec (ws := w_JL_live) B.pre w (List.mem_cons_of_mem _ hw)
  have hown : s.vm.findClass "JoinedLeaves" = some m.cls := findClass_of_methodNamed B.named
  have hlocks := B.notSynchronized
  have hl := lv_entry ([.ref (b + r0), .int i1]) (n := 2) (Nat.le_of_ble_eq_true rfl)
  rw [lg_entry_eq]
  generalize (lg_sl ([.ref (b + r0), .int i1]) ++ List.replicate (2 - (lg_sl ([.ref (b + r0), .int i1])).length) Slot.unset).toArray = ls at hl ⊢
  have hl : lv_has ls 2 [(0, .ref (b + r0)), (1, .int i1)] := hl
  unfold C_JL_live at h
  refine lv_aload_n hx hb d_JL_live_0 rfl (lv_at hl 0 rfl) ?_
  obtain ⟨g1, h⟩ := of_g h
  obtain ⟨q2, hq2, h⟩ := of_b h
  refine g_callv (va_runV (As := []) (rest := []) ⟨hx, hb, hml, hown, hts⟩ (S_JL_requireTree l D b cs r0 μ q2 n hq2) ⟨callB_of 0 hts (goodIn_g jm_4_11) rfl rfl rfl (hts _ jm_0_1) (hts _ jm_4_9) (by decide +kernel) ⟨Nat.le_of_ble_eq_true rfl, Nat.le_of_ble_eq_true rfl⟩, (hts _ jm_4_10), (hts _ jm_11_33)⟩ (Wd.preV hK hM g1 rfl (by decide)) rfl rfl hl.1 rfl (lv_room (Nat.le_of_ble_eq_true rfl)) d_JL_live_1 ⟨Nat.le_of_ble_eq_true rfl, Nat.le_of_ble_eq_true rfl⟩) hM (fun H locs hM => ?_)
  refine lv_iload_n hx hb d_JL_live_4 rfl (lv_at hl 1 rfl) ?_
  refine lv_aload_n hx hb d_JL_live_5 rfl (lv_at hl 0 rfl) ?_
  obtain ⟨g3, h⟩ := of_g h
  obtain ⟨g4, h⟩ := of_g h
  refine g_get (C := "JoinedLeaves") (T := T_JL) (N := 5) (ref := "JoinedLeaves") (v := .ref (b + (mR q2 r0 2))) hx hb hts jF_JL hown hK hM g3 (by decide) rfl 2 (by decide) (hts _ jm_2_12) (fun _ h9 => h9) (by decide) (rv_of (ok_0 g4)) d_JL_live_6 ?_
  refine g_getN (C := "JoinedLeaves$Question") (T := T_QU) (N := 5) (ref := "JoinedLeaves$Question") (v := .int (mI q2 (mR q2 r0 2) 1)) hx hb hts jF_QU hown hK hM g4 (by decide) rfl 1 (by decide) (hK.nest _ jn_15 rfl) (fun _ h9 => h9) (by decide) rfl d_JL_live_9 ?_
  obtain ⟨q5, hq5, h⟩ := of_b h
  refine g_calli (va_runS (As := [.int i1, .int (mI q2 (mR q2 r0 2) 1)]) (rest := []) ⟨hx, hb, hml, hown, hts⟩ (S_JL_isBelow l D b cs i1 (mI q2 (mR q2 r0 2) 1) q2 q5 n hq5) ⟨callB_of 2 hts (goodIn_g jm_2_31) rfl rfl rfl (hts _ jm_0_1) (hts _ jm_2_29) (by decide +kernel) ⟨Nat.le_of_ble_eq_true rfl, Nat.le_of_ble_eq_true rfl⟩, (hts _ jm_2_30)⟩ (Wd.preS hK hM) rfl rfl hl.1 rfl (lv_room (Nat.le_of_ble_eq_true rfl)) d_JL_live_12 ⟨Nat.le_of_ble_eq_true rfl, Nat.le_of_ble_eq_true rfl⟩) hM (fun H locs hM => ?_)
  refine lv_if_ne (tgt := 28) hx hb d_JL_live_15 (by decide) (fun hc => ?_) (fun hc => ?_)
  · replace h := of_f hc h
    refine lv_aload_n hx hb d_JL_live_28 rfl (lv_at hl 0 rfl) ?_
    obtain ⟨g6, h⟩ := of_g h
    obtain ⟨g7, h⟩ := of_g h
    refine g_get (C := "JoinedLeaves") (T := T_JL) (N := 5) (ref := "JoinedLeaves") (v := .ref (b + (mR q5.2 r0 4))) hx hb hts jF_JL hown hK hM g6 (by decide) rfl 4 (by decide) (hts _ jm_2_14) (fun _ h9 => h9) (by decide) (rv_of (ok_0 g7)) d_JL_live_29 ?_
    refine lv_iload_n hx hb d_JL_live_32 rfl (lv_at hl 1 rfl) ?_
    obtain ⟨q8, hq8, h⟩ := of_b h
    refine g_calli (va_runVN (As := [.int i1]) (rest := []) ⟨hx, hb, hml, hown, hts⟩ (S_JO_countLiveRows l D b cs (mR q5.2 r0 4) i1 q5.2 q8 n hq8) ⟨va_cnB 1 hts (goodIn_g jm_6_17) rfl rfl rfl (hK.2.1 _ jn_54) (hts _ jm_0_6) (by decide +kernel) ⟨Nat.le_of_ble_eq_true rfl, Nat.le_of_ble_eq_true rfl⟩, (hts _ jm_6_16), (hts _ jm_11_46)⟩ (Wd.preV hK hM g7 rfl (by decide)) rfl rfl hl.1 rfl (lv_room (Nat.le_of_ble_eq_true rfl)) d_JL_live_33 ⟨Nat.le_of_ble_eq_true rfl, Nat.le_of_ble_eq_true rfl⟩) hM (fun H locs hM => ?_)
    exact g_iret hx hb hr hlocks hM (Option.some.inj h) d_JL_live_36
  · replace h := of_t hc h
    exact (nomatch h)
abbrev w_JL_findAnswers : List Cond := .code y_JL_findAnswers b_JL_findAnswers 1 (Option.none : Option Jvm.ClassFile.FieldType) :: jW
def C_JL_findAnswers (n : Nat) (r0 : Nat) (μ : Mem) : Option (Mem) :=
  if ok μ r0 5 = true then Option.bind (C_JL_requireTree n r0 μ) (fun q2 => if ok q2 r0 5 = true then if ok q2 (mR q2 r0 2) 2 = true then Option.bind (C_QU_bindsHead n (mR q2 r0 2) q2) (fun q5 => if q5.1 = 0 then none else if ok q5.2 r0 5 = true then if ok q5.2 (mR q5.2 r0 4) 4 = true then Option.bind (C_JO_search n (mR q5.2 r0 4) q5.2) (fun q8 => if ok q8 r0 5 = true then if ok q8 (mR q8 r0 4) 4 = true then if (mI q8 (mR q8 r0 4) 6) ≤ 64 then some q8 else none else none else none) else none else none) else none else none) else none
set_option maxHeartbeats 4000000 in
set_option maxRecDepth 100000 in
theorem S_JL_findAnswers (l : Launch) (D : va_G) (b : Nat) (cs : Nat → ClassId) (r0 : Nat) (μ : Mem) (res : Mem) (n : Nat) (h : C_JL_findAnswers n r0 μ = some res) : MetV l y_JL_findAnswers w_JL_findAnswers 12 289 b cs D μ [.ref (b + r0)] res := by
  refine Met.ofW (cc := b_JL_findAnswers) (maxL := 1) (ret := (Option.none : Option Jvm.ClassFile.FieldType)) (by decide) rfl ?_
  intro p e s m args below meth c s₁ B hml hv
  obtain ⟨rfl, hK, hM⟩ := Wd.start hv
  have hx := B.exec
  have hb := B.bytes
  have hr := B.returns
  have hts : ∀ w ∈ jW, w.before _ s = true := fun w hw => atoms_spec (ws := w_JL_findAnswers) B.pre w (List.mem_cons_of_mem _ hw)
  have hown : s.vm.findClass "JoinedLeaves" = some m.cls := findClass_of_methodNamed B.named
  have hlocks := B.notSynchronized
  have hl := lv_entry ([.ref (b + r0)]) (n := 1) (Nat.le_of_ble_eq_true rfl)
  rw [lg_entry_eq]
  generalize (lg_sl ([.ref (b + r0)]) ++ List.replicate (1 - (lg_sl ([.ref (b + r0)])).length) Slot.unset).toArray = ls at hl ⊢
  have hl : lv_has ls 1 [(0, .ref (b + r0))] := hl
  unfold C_JL_findAnswers at h
  refine lv_aload_n hx hb d_JL_findAnswers_0 rfl (lv_at hl 0 rfl) ?_
  obtain ⟨g1, h⟩ := of_g h
  obtain ⟨q2, hq2, h⟩ := of_b h
  refine g_callv (va_runV (As := []) (rest := []) ⟨hx, hb, hml, hown, hts⟩ (S_JL_requireTree l D b cs r0 μ q2 n hq2) ⟨callB_of 0 hts (goodIn_g jm_4_11) rfl rfl rfl (hts _ jm_0_1) (hts _ jm_4_9) (by decide +kernel) ⟨Nat.le_of_ble_eq_true rfl, Nat.le_of_ble_eq_true rfl⟩, (hts _ jm_4_10), (hts _ jm_11_33)⟩ (Wd.preV hK hM g1 rfl (by decide)) rfl rfl hl.1 rfl (lv_room (Nat.le_of_ble_eq_true rfl)) d_JL_findAnswers_1 ⟨Nat.le_of_ble_eq_true rfl, Nat.le_of_ble_eq_true rfl⟩) hM (fun H locs hM => ?_)
  refine lv_aload_n hx hb d_JL_findAnswers_4 rfl (lv_at hl 0 rfl) ?_
  obtain ⟨g3, h⟩ := of_g h
  obtain ⟨g4, h⟩ := of_g h
  refine g_get (C := "JoinedLeaves") (T := T_JL) (N := 5) (ref := "JoinedLeaves") (v := .ref (b + (mR q2 r0 2))) hx hb hts jF_JL hown hK hM g3 (by decide) rfl 2 (by decide) (hts _ jm_2_12) (fun _ h9 => h9) (by decide) (rv_of (ok_0 g4)) d_JL_findAnswers_5 ?_
  obtain ⟨q5, hq5, h⟩ := of_b h
  refine g_calli (va_runVN (As := []) (rest := []) ⟨hx, hb, hml, hown, hts⟩ (S_QU_bindsHead l D b cs (mR q2 r0 2) q2 q5 n hq5) ⟨va_cnB 0 hts (goodIn_g jm_6_46) rfl rfl rfl (hK.2.1 _ jn_55) (hts _ jm_0_3) (by decide +kernel) ⟨Nat.le_of_ble_eq_true rfl, Nat.le_of_ble_eq_true rfl⟩, (hts _ jm_6_45), (hts _ jm_12_3)⟩ (Wd.preV hK hM g4 rfl (by decide)) rfl rfl hl.1 rfl (lv_room (Nat.le_of_ble_eq_true rfl)) d_JL_findAnswers_8 ⟨Nat.le_of_ble_eq_true rfl, Nat.le_of_ble_eq_true rfl⟩) hM (fun H locs hM => ?_)
  refine lv_if_ne (tgt := 24) hx hb d_JL_findAnswers_11 (by decide) (fun hc => ?_) (fun hc => ?_)
  · replace h := of_f hc h
    refine lv_aload_n hx hb d_JL_findAnswers_24 rfl (lv_at hl 0 rfl) ?_
    obtain ⟨g6, h⟩ := of_g h
    obtain ⟨g7, h⟩ := of_g h
    refine g_get (C := "JoinedLeaves") (T := T_JL) (N := 5) (ref := "JoinedLeaves") (v := .ref (b + (mR q5.2 r0 4))) hx hb hts jF_JL hown hK hM g6 (by decide) rfl 4 (by decide) (hts _ jm_2_14) (fun _ h9 => h9) (by decide) (rv_of (ok_0 g7)) d_JL_findAnswers_25 ?_
    obtain ⟨q8, hq8, h⟩ := of_b h
    refine g_callv (va_runVN (As := []) (rest := []) ⟨hx, hb, hml, hown, hts⟩ (S_JO_search l D b cs (mR q5.2 r0 4) q5.2 q8 n hq8) ⟨va_cnB 0 hts (goodIn_g jm_7_14) rfl rfl rfl (hK.2.1 _ jn_57) (hts _ jm_0_6) (by decide +kernel) ⟨Nat.le_of_ble_eq_true rfl, Nat.le_of_ble_eq_true rfl⟩, (hts _ jm_7_13), (hts _ jm_12_4)⟩ (Wd.preV hK hM g7 rfl (by decide)) rfl rfl hl.1 rfl (lv_room (Nat.le_of_ble_eq_true rfl)) d_JL_findAnswers_28 ⟨Nat.le_of_ble_eq_true rfl, Nat.le_of_ble_eq_true rfl⟩) hM (fun H locs hM => ?_)
    refine lv_aload_n hx hb d_JL_findAnswers_31 rfl (lv_at hl 0 rfl) ?_
    obtain ⟨g9, h⟩ := of_g h
    obtain ⟨g10, h⟩ := of_g h
    refine g_get (C := "JoinedLeaves") (T := T_JL) (N := 5) (ref := "JoinedLeaves") (v := .ref (b + (mR q8 r0 4))) hx hb hts jF_JL hown hK hM g9 (by decide) rfl 4 (by decide) (hts _ jm_2_14) (fun _ h9 => h9) (by decide) (rv_of (ok_0 g10)) d_JL_findAnswers_32 ?_
    refine g_getN (C := "JoinedLeaves$Join") (T := T_JO) (N := 7) (ref := "JoinedLeaves$Join") (v := .int (mI q8 (mR q8 r0 4) 6)) hx hb hts jF_JO hown hK hM g10 (by decide) rfl 6 (by decide) (hK.nest _ jn_26 rfl) (fun _ h9 => h9) (by decide) rfl d_JL_findAnswers_35 ?_
    refine lv_bipush (v := 64) hx hb d_JL_findAnswers_38 (by decide) ?_
    refine lv_icmp_le (tgt := 53) hx hb d_JL_findAnswers_40 (by decide) (fun hc => ?_) (fun hc => ?_)
    · replace h := of_t hc h
      exact g_vret hx hb hr hlocks hM (Option.some.inj h) d_JL_findAnswers_53
    · replace h := of_f hc h
      exact (nomatch h)
  · replace h := of_t hc h
    exact (nomatch h)
abbrev w_JL_answers : List Cond := .code y_JL_answers b_JL_answers 1 (Option.some Jvm.ClassFile.FieldType.int) :: jW
def C_JL_answers (n : Nat) (r0 : Nat) (μ : Mem) : Option (Int32 × Mem) :=
  if ok μ r0 5 = true then Option.bind (C_JL_findAnswers n r0 μ) (fun q2 => if ok q2 r0 5 = true then if ok q2 (mR q2 r0 4) 4 = true then some (mI q2 (mR q2 r0 4) 6, q2) else none else none) else none
set_option maxHeartbeats 4000000 in
set_option maxRecDepth 100000 in
theorem S_JL_answers (l : Launch) (D : va_G) (b : Nat) (cs : Nat → ClassId) (r0 : Nat) (μ : Mem) (res : Int32 × Mem) (n : Nat) (h : C_JL_answers n r0 μ = some res) : MetI l y_JL_answers w_JL_answers 13 309 b cs D μ [.ref (b + r0)] res := by
  refine Met.ofW (cc := b_JL_answers) (maxL := 1) (ret := (Option.some Jvm.ClassFile.FieldType.int)) (by decide) rfl ?_
  intro p e s m args below meth c s₁ B hml hv
  obtain ⟨rfl, hK, hM⟩ := Wd.start hv
  have hx := B.exec
  have hb := B.bytes
  have hr := B.returns
  have hts : ∀ w ∈ jW, w.before _ s = true := fun w hw => atoms_spec (ws := w_JL_answers) B.pre w (List.mem_cons_of_mem _ hw)
  have hown : s.vm.findClass "JoinedLeaves" = some m.cls := findClass_of_methodNamed B.named
  have hlocks := B.notSynchronized
  have hl := lv_entry ([.ref (b + r0)]) (n := 1) (Nat.le_of_ble_eq_true rfl)
  rw [lg_entry_eq]
  generalize (lg_sl ([.ref (b + r0)]) ++ List.replicate (1 - (lg_sl ([.ref (b + r0)])).length) Slot.unset).toArray = ls at hl ⊢
  have hl : lv_has ls 1 [(0, .ref (b + r0))] := hl
  unfold C_JL_answers at h
  refine lv_aload_n hx hb d_JL_answers_0 rfl (lv_at hl 0 rfl) ?_
  obtain ⟨g1, h⟩ := of_g h
  obtain ⟨q2, hq2, h⟩ := of_b h
  refine g_callv (va_runV (As := []) (rest := []) ⟨hx, hb, hml, hown, hts⟩ (S_JL_findAnswers l D b cs r0 μ q2 n hq2) ⟨callB_of 0 hts (goodIn_g jm_6_44) rfl rfl rfl (hts _ jm_0_1) (hts _ jm_6_42) (by decide +kernel) ⟨Nat.le_of_ble_eq_true rfl, Nat.le_of_ble_eq_true rfl⟩, (hts _ jm_6_43), (hts _ jm_12_2)⟩ (Wd.preV hK hM g1 rfl (by decide)) rfl rfl hl.1 rfl (lv_room (Nat.le_of_ble_eq_true rfl)) d_JL_answers_1 ⟨Nat.le_of_ble_eq_true rfl, Nat.le_of_ble_eq_true rfl⟩) hM (fun H locs hM => ?_)
  refine lv_aload_n hx hb d_JL_answers_4 rfl (lv_at hl 0 rfl) ?_
  obtain ⟨g3, h⟩ := of_g h
  obtain ⟨g4, h⟩ := of_g h
  refine g_get (C := "JoinedLeaves") (T := T_JL) (N := 5) (ref := "JoinedLeaves") (v := .ref (b + (mR q2 r0 4))) hx hb hts jF_JL hown hK hM g3 (by decide) rfl 4 (by decide) (hts _ jm_2_14) (fun _ h9 => h9) (by decide) (rv_of (ok_0 g4)) d_JL_answers_5 ?_
  refine g_getN (C := "JoinedLeaves$Join") (T := T_JO) (N := 7) (ref := "JoinedLeaves$Join") (v := .int (mI q2 (mR q2 r0 4) 6)) hx hb hts jF_JO hown hK hM g4 (by decide) rfl 6 (by decide) (hK.nest _ jn_26 rfl) (fun _ h9 => h9) (by decide) rfl d_JL_answers_8 ?_
  exact g_iret hx hb hr hlocks hM (Option.some.inj h) d_JL_answers_11
abbrev w_JL_answer : List Cond := .code y_JL_answer b_JL_answer 3 (Option.some Jvm.ClassFile.FieldType.int) :: jW
def B_JL_answer_0 (n : Nat) (k : Nat → Nat → Int32 → Int32 → Mem → Option (Int32 × Mem)) (r0 : Nat) (i1 : Int32) (i2 : Int32) (μ : Mem) : Option (Int32 × Mem) :=
  if ok μ r0 5 = true then Option.bind (C_JL_findAnswers n r0 μ) (fun q2 => if ok q2 r0 5 = true then if ok q2 (mR q2 r0 4) 4 = true then Option.bind (C_JL_isBelow n i1 (mI q2 (mR q2 r0 4) 6) q2) (fun q5 => if q5.1 = 0 then k 1 0 0 0 q5.2 else if ok q5.2 r0 5 = true then if ok q5.2 (mR q5.2 r0 2) 2 = true then Option.bind (C_JL_isBelow n i2 (mI q5.2 (mR q5.2 r0 2) 3) q5.2) (fun q8 => if q8.1 = 0 then k 1 0 0 0 q8.2 else if ok q8.2 r0 5 = true then if ok q8.2 (mR q8.2 r0 4) 4 = true then Option.bind (C_JO_valueInAnswer n (mR q8.2 r0 4) i1 i2 q8.2) (fun q11 => some (q11.1, q11.2)) else none else none) else none else none) else none else none) else none
def B_JL_answer_1 (n : Nat) (k : Nat → Nat → Int32 → Int32 → Mem → Option (Int32 × Mem)) (r0 : Nat) (i1 : Int32) (i2 : Int32) (μ : Mem) : Option (Int32 × Mem) :=
  none
def F_JL_answer : Nat → Nat → Nat → Int32 → Int32 → Mem → Option (Int32 × Mem)
  | 0 => fun _ _ _ _ _ => none
  | n + 1 => fun id r0 i1 i2 μ => match id with
    | 0 => B_JL_answer_0 n (F_JL_answer n) r0 i1 i2 μ
    | 1 => B_JL_answer_1 n (F_JL_answer n) r0 i1 i2 μ
    | _ => none
def C_JL_answer (n : Nat) (r0 : Nat) (i1 : Int32) (i2 : Int32) (μ : Mem) : Option (Int32 × Mem) := F_JL_answer n 0 r0 i1 i2 μ
set_option maxHeartbeats 4000000 in
set_option maxRecDepth 100000 in
theorem S_JL_answer (l : Launch) (D : va_G) (b : Nat) (cs : Nat → ClassId) (u_r0 : Nat) (u_i1 : Int32) (u_i2 : Int32) (ν : Mem) (res : Int32 × Mem) (n : Nat) (h : C_JL_answer n u_r0 u_i1 u_i2 ν = some res) : MetI l y_JL_answer w_JL_answer 13 309 b cs D ν [.ref (b + u_r0), .int u_i1, .int u_i2] res := by
  refine Met.ofW (cc := b_JL_answer) (maxL := 3) (ret := (Option.some Jvm.ClassFile.FieldType.int)) (by decide) rfl ?_
  intro p e s m args below meth c s₁ B hml hv
  obtain ⟨rfl, hK, hM⟩ := Wd.start hv
  have hx := B.exec
  have hb := B.bytes
  have hr := B.returns
  have hts : ∀ w ∈ jW, w.before _ s = true := fun w hw => atoms_spec (ws := w_JL_answer) B.pre w (List.mem_cons_of_mem _ hw)
  have hown : s.vm.findClass "JoinedLeaves" = some m.cls := findClass_of_methodNamed B.named
  have hlocks := B.notSynchronized
  have hl := lv_entry ([.ref (b + u_r0), .int u_i1, .int u_i2]) (n := 3) (Nat.le_of_ble_eq_true rfl)
  rw [lg_entry_eq]
  generalize (lg_sl ([.ref (b + u_r0), .int u_i1, .int u_i2]) ++ List.replicate (3 - (lg_sl ([.ref (b + u_r0), .int u_i1, .int u_i2])).length) Slot.unset).toArray = ls at hl ⊢
  have hl : lv_has ls 3 [(0, .ref (b + u_r0)), (1, .int u_i1), (2, .int u_i2)] := hl
  have key : ∀ N : Nat, (∀ (r0 : Nat) (i1 : Int32) (i2 : Int32) (μ : Mem) (H : Heap) (locs : List Loc) (ls : Array Slot), F_JL_answer N 0 r0 i1 i2 μ = some res → Wd (Aw b (mN ν)) b cs D s.heap μ H locs → lv_has ls 3 [(0, .ref (b + r0)), (1, .int i1), (2, .int i2)] → W p l e (headSpec w_JL_answer { frames := 13, cells := 0, slots := 0, locals := 309 }).room s m ([.ref (b + u_r0), .int u_i1, .int u_i2]).toArray below meth c H locs 0 0 (MQ below (va_Qi (fun r μ' => (r, μ') = res ∧ mN μ' ≤ mN ν) (Bw b cs D) (Aw b (mN ν))) ([.ref (b + u_r0), .int u_i1, .int u_i2]).toArray s 0 0 (Aw b (mN ν))) (F0 m 0 ls [])) ∧
      (∀ (r0 : Nat) (i1 : Int32) (i2 : Int32) (μ : Mem) (H : Heap) (locs : List Loc) (ls : Array Slot), F_JL_answer N 1 r0 i1 i2 μ = some res → Wd (Aw b (mN ν)) b cs D s.heap μ H locs → lv_has ls 3 [] → W p l e (headSpec w_JL_answer { frames := 13, cells := 0, slots := 0, locals := 309 }).room s m ([.ref (b + u_r0), .int u_i1, .int u_i2]).toArray below meth c H locs 0 0 (MQ below (va_Qi (fun r μ' => (r, μ') = res ∧ mN μ' ≤ mN ν) (Bw b cs D) (Aw b (mN ν))) ([.ref (b + u_r0), .int u_i1, .int u_i2]).toArray s 0 0 (Aw b (mN ν))) (F0 m 32 ls [])) := by
    intro N
    induction N with
    | zero => exact ⟨fun _ _ _ _ _ _ _ h => (nomatch h), fun _ _ _ _ _ _ _ h => (nomatch h)⟩
    | succ n ih =>
      obtain ⟨ih0, ih1⟩ := ih
      refine ⟨?_, ?_⟩
      · intro r0 i1 i2 μ H locs ls h hM hl
        have h : B_JL_answer_0 n (F_JL_answer n) r0 i1 i2 μ = some res := h
        unfold B_JL_answer_0 at h
        refine lv_aload_n hx hb d_JL_answer_0 rfl (lv_at hl 0 rfl) ?_
        obtain ⟨g1, h⟩ := of_g h
        obtain ⟨q2, hq2, h⟩ := of_b h
        refine g_callv (va_runV (As := []) (rest := []) ⟨hx, hb, hml, hown, hts⟩ (S_JL_findAnswers l D b cs r0 μ q2 n hq2) ⟨callB_of 0 hts (goodIn_g jm_6_44) rfl rfl rfl (hts _ jm_0_1) (hts _ jm_6_42) (by decide +kernel) ⟨Nat.le_of_ble_eq_true rfl, Nat.le_of_ble_eq_true rfl⟩, (hts _ jm_6_43), (hts _ jm_12_2)⟩ (Wd.preV hK hM g1 rfl (by decide)) rfl rfl hl.1 rfl (lv_room (Nat.le_of_ble_eq_true rfl)) d_JL_answer_1 ⟨Nat.le_of_ble_eq_true rfl, Nat.le_of_ble_eq_true rfl⟩) hM (fun H locs hM => ?_)
        refine lv_iload_n hx hb d_JL_answer_4 rfl (lv_at hl 1 rfl) ?_
        refine lv_aload_n hx hb d_JL_answer_5 rfl (lv_at hl 0 rfl) ?_
        obtain ⟨g3, h⟩ := of_g h
        obtain ⟨g4, h⟩ := of_g h
        refine g_get (C := "JoinedLeaves") (T := T_JL) (N := 5) (ref := "JoinedLeaves") (v := .ref (b + (mR q2 r0 4))) hx hb hts jF_JL hown hK hM g3 (by decide) rfl 4 (by decide) (hts _ jm_2_14) (fun _ h9 => h9) (by decide) (rv_of (ok_0 g4)) d_JL_answer_6 ?_
        refine g_getN (C := "JoinedLeaves$Join") (T := T_JO) (N := 7) (ref := "JoinedLeaves$Join") (v := .int (mI q2 (mR q2 r0 4) 6)) hx hb hts jF_JO hown hK hM g4 (by decide) rfl 6 (by decide) (hK.nest _ jn_26 rfl) (fun _ h9 => h9) (by decide) rfl d_JL_answer_9 ?_
        obtain ⟨q5, hq5, h⟩ := of_b h
        refine g_calli (va_runS (As := [.int i1, .int (mI q2 (mR q2 r0 4) 6)]) (rest := []) ⟨hx, hb, hml, hown, hts⟩ (S_JL_isBelow l D b cs i1 (mI q2 (mR q2 r0 4) 6) q2 q5 n hq5) ⟨callB_of 2 hts (goodIn_g jm_2_31) rfl rfl rfl (hts _ jm_0_1) (hts _ jm_2_29) (by decide +kernel) ⟨Nat.le_of_ble_eq_true rfl, Nat.le_of_ble_eq_true rfl⟩, (hts _ jm_2_30)⟩ (Wd.preS hK hM) rfl rfl hl.1 rfl (lv_room (Nat.le_of_ble_eq_true rfl)) d_JL_answer_12 ⟨Nat.le_of_ble_eq_true rfl, Nat.le_of_ble_eq_true rfl⟩) hM (fun H locs hM => ?_)
        refine lv_if_eq (tgt := 32) hx hb d_JL_answer_15 (by decide) (fun hc => ?_) (fun hc => ?_)
        · replace h := of_t hc h
          exact ih1 _ _ _ _ _ _ _ h hM (lv_sub hl [] rfl)
        · replace h := of_f hc h
          refine lv_iload_n hx hb d_JL_answer_18 rfl (lv_at hl 2 rfl) ?_
          refine lv_aload_n hx hb d_JL_answer_19 rfl (lv_at hl 0 rfl) ?_
          obtain ⟨g6, h⟩ := of_g h
          obtain ⟨g7, h⟩ := of_g h
          refine g_get (C := "JoinedLeaves") (T := T_JL) (N := 5) (ref := "JoinedLeaves") (v := .ref (b + (mR q5.2 r0 2))) hx hb hts jF_JL hown hK hM g6 (by decide) rfl 2 (by decide) (hts _ jm_2_12) (fun _ h9 => h9) (by decide) (rv_of (ok_0 g7)) d_JL_answer_20 ?_
          refine g_getN (C := "JoinedLeaves$Question") (T := T_QU) (N := 5) (ref := "JoinedLeaves$Question") (v := .int (mI q5.2 (mR q5.2 r0 2) 3)) hx hb hts jF_QU hown hK hM g7 (by decide) rfl 3 (by decide) (hK.nest _ jn_18 rfl) (fun _ h9 => h9) (by decide) rfl d_JL_answer_23 ?_
          obtain ⟨q8, hq8, h⟩ := of_b h
          refine g_calli (va_runS (As := [.int i2, .int (mI q5.2 (mR q5.2 r0 2) 3)]) (rest := []) ⟨hx, hb, hml, hown, hts⟩ (S_JL_isBelow l D b cs i2 (mI q5.2 (mR q5.2 r0 2) 3) q5.2 q8 n hq8) ⟨callB_of 2 hts (goodIn_g jm_2_31) rfl rfl rfl (hts _ jm_0_1) (hts _ jm_2_29) (by decide +kernel) ⟨Nat.le_of_ble_eq_true rfl, Nat.le_of_ble_eq_true rfl⟩, (hts _ jm_2_30)⟩ (Wd.preS hK hM) rfl rfl hl.1 rfl (lv_room (Nat.le_of_ble_eq_true rfl)) d_JL_answer_26 ⟨Nat.le_of_ble_eq_true rfl, Nat.le_of_ble_eq_true rfl⟩) hM (fun H locs hM => ?_)
          refine lv_if_ne (tgt := 42) hx hb d_JL_answer_29 (by decide) (fun hc => ?_) (fun hc => ?_)
          · replace h := of_f hc h
            refine lv_aload_n hx hb d_JL_answer_42 rfl (lv_at hl 0 rfl) ?_
            obtain ⟨g9, h⟩ := of_g h
            obtain ⟨g10, h⟩ := of_g h
            refine g_get (C := "JoinedLeaves") (T := T_JL) (N := 5) (ref := "JoinedLeaves") (v := .ref (b + (mR q8.2 r0 4))) hx hb hts jF_JL hown hK hM g9 (by decide) rfl 4 (by decide) (hts _ jm_2_14) (fun _ h9 => h9) (by decide) (rv_of (ok_0 g10)) d_JL_answer_43 ?_
            refine lv_iload_n hx hb d_JL_answer_46 rfl (lv_at hl 1 rfl) ?_
            refine lv_iload_n hx hb d_JL_answer_47 rfl (lv_at hl 2 rfl) ?_
            obtain ⟨q11, hq11, h⟩ := of_b h
            refine g_calli (va_runVN (As := [.int i1, .int i2]) (rest := []) ⟨hx, hb, hml, hown, hts⟩ (S_JO_valueInAnswer l D b cs (mR q8.2 r0 4) i1 i2 q8.2 q11 n hq11) ⟨va_cnB 2 hts (goodIn_g jm_8_8) rfl rfl rfl (hK.2.1 _ jn_63) (hts _ jm_0_6) (by decide +kernel) ⟨Nat.le_of_ble_eq_true rfl, Nat.le_of_ble_eq_true rfl⟩, (hts _ jm_8_7), (hts _ jm_12_12)⟩ (Wd.preV hK hM g10 rfl (by decide)) rfl rfl hl.1 rfl (lv_room (Nat.le_of_ble_eq_true rfl)) d_JL_answer_48 ⟨Nat.le_of_ble_eq_true rfl, Nat.le_of_ble_eq_true rfl⟩) hM (fun H locs hM => ?_)
            exact g_iret hx hb hr hlocks hM (Option.some.inj h) d_JL_answer_51
          · replace h := of_t hc h
            exact ih1 _ _ _ _ _ _ _ h hM (lv_sub hl [] rfl)
      · intro r0 i1 i2 μ H locs ls h hM hl
        have h : B_JL_answer_1 n (F_JL_answer n) r0 i1 i2 μ = some res := h
        unfold B_JL_answer_1 at h
        exact (nomatch h)
  exact (key n).1 _ _ _ _ _ _ _ h hM hl
