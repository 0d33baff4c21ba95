/-! By program (wip/whole/gen.py): the throwing ends of the calls that throw. -/
def xN (k : Nat) : String := match k with
  | 1 => "java/lang/IllegalStateException"
  | 2 => "java/lang/IllegalArgumentException"
  | 3 => "java/lang/UnsupportedOperationException"
  | _ => "java/lang/IndexOutOfBoundsException"
def orX {α : Type} (a b : Option α) : Option α := match a with
  | some q => some q
  | none => b
theorem of_or {α : Type} {a b : Option α} {r : α} (h : orX a b = some r) : a = some r ∨ b = some r := by
  cases a with
  | none => exact Or.inr h
  | some q => exact Or.inl h
set_option maxRecDepth 100000 in
theorem xl_2_132 : ∀ w ∈ Bundle.ownAtoms "JoinedLeaves" 132 "java/lang/IllegalArgumentException" ["java/lang/RuntimeException", "java/lang/Exception"], w ∈ jW ∨ w ∈ jNest ∨ w ∈ xS := by decide +kernel
set_option maxRecDepth 100000 in
theorem xl_1_145 : ∀ w ∈ Bundle.ownAtoms "JoinedLeaves" 145 "java/lang/IllegalStateException" ["java/lang/RuntimeException", "java/lang/Exception"], w ∈ jW ∨ w ∈ jNest ∨ w ∈ xS := by decide +kernel
set_option maxRecDepth 100000 in
theorem xl_4_106 : ∀ w ∈ Bundle.ownAtoms "JoinedLeaves" 106 "java/lang/IndexOutOfBoundsException" ["java/lang/RuntimeException", "java/lang/Exception"], w ∈ jW ∨ w ∈ jNest ∨ w ∈ xS := by decide +kernel
set_option maxRecDepth 100000 in
theorem xl_3_140 : ∀ w ∈ Bundle.ownAtoms "JoinedLeaves" 140 "java/lang/UnsupportedOperationException" ["java/lang/RuntimeException", "java/lang/Exception"], w ∈ jW ∨ w ∈ jNest ∨ w ∈ xS := by decide +kernel
def X_JL_requireTree (n : Nat) (r0 : Nat) (μ : Mem) : Option (Nat × Mem) :=
  if ok μ r0 5 = true then if ok μ (mR μ r0 3) 3 = true then Option.bind (C_HA_isTree n (mR μ r0 3) μ) (fun q3 => if q3.1 = 0 then some (1, q3.2) else none) else none else none
set_option maxHeartbeats 4000000 in
set_option maxRecDepth 100000 in
theorem Y_JL_requireTree (l : Launch) (hst : l.stackTraces = false) (D : va_G) (b : Nat) (cs : Nat → ClassId) (r0 : Nat) (μ : Mem) (res : Nat × Mem) (n : Nat) (h : X_JL_requireTree n r0 μ = some res) : MetT l y_JL_requireTree w_JL_requireTree 6 92 b cs D μ [.ref (b + r0)] (xN res.1) res.2 := by
  refine MetT.ofW (cc := b_JL_requireTree) (maxL := 1) (ret := (Option.none : Option Jvm.ClassFile.FieldType)) (by decide) rfl ?_
  intro p e s m args below meth c s₁ B hml hout hv
  obtain ⟨rfl, hK, hZ, hM⟩ := Wd.startX hv
  have hx := B.exec
  have hb := B.bytes
  have hr := B.returns
  have hts : ∀ w ∈ jW, w.before _ s = true := fun w hw => atoms_spec (ws := w_JL_requireTree) B.pre w (List.mem_cons_of_mem _ hw)
  have hown : s.vm.findClass "JoinedLeaves" = some m.cls := findClass_of_methodNamed B.named
  have hlocks := B.notSynchronized
  have hl := lv_entry ([.ref (b + r0)]) (n := 1) (Nat.le_of_ble_eq_true rfl)
  rw [lg_entry_eq]
  generalize (lg_sl ([.ref (b + r0)]) ++ List.replicate (1 - (lg_sl ([.ref (b + r0)])).length) Slot.unset).toArray = ls at hl ⊢
  have hl : lv_has ls 1 [(0, .ref (b + r0))] := hl
  unfold X_JL_requireTree at h
  refine lv_aload_n hx hb d_JL_requireTree_0 rfl (lv_at hl 0 rfl) ?_
  obtain ⟨g1, h⟩ := of_g h
  obtain ⟨g2, h⟩ := of_g h
  refine g_get (C := "JoinedLeaves") (T := T_JL) (N := 5) (ref := "JoinedLeaves") (v := .ref (b + (mR μ r0 3))) hx hb hts jF_JL hown hK hM g1 (by decide) rfl 3 (by decide) (hts _ jm_2_13) (fun _ h9 => h9) (by decide) (rv_of (ok_0 g2)) d_JL_requireTree_1 ?_
  obtain ⟨q3, hq3, h⟩ := of_b h
  refine g_calli (va_runVN (As := []) (rest := []) ⟨hx, hb, hml, hown, hts⟩ (S_HA_isTree l D b cs (mR μ r0 3) μ q3 n hq3) ⟨va_cnB 0 hts (goodIn_g jm_3_40) rfl rfl rfl (hK.2.1 _ jn_39) (hts _ jm_0_5) (by decide +kernel) ⟨Nat.le_of_ble_eq_true rfl, Nat.le_of_ble_eq_true rfl⟩, (hts _ jm_3_39), (hts _ jm_11_32)⟩ (Wd.preV hK hM g2 rfl (by decide)) rfl rfl hl.1 rfl (lv_room (Nat.le_of_ble_eq_true rfl)) d_JL_requireTree_4 ⟨Nat.le_of_ble_eq_true rfl, Nat.le_of_ble_eq_true rfl⟩) hM (fun H locs hM => ?_)
  refine lv_if_ne (tgt := 20) hx hb d_JL_requireTree_7 (by decide) (fun hc => ?_) (fun hc => ?_)
  · replace h := of_f hc h
    exact (nomatch h)
  · replace h := of_t hc h
    obtain rfl := Option.some.inj h
    obtain ⟨sa, hsa⟩ := hZ.2.1 _ (List.mem_of_getElem? (i := 0) rfl)
    exact g_throw (E := "java/lang/IllegalStateException") (names := ["java/lang/RuntimeException", "java/lang/Exception"]) hx hb hst hown (by decide +kernel) (by decide +kernel) hts hK hZ jm_4_12 jm_0_11 hsa xl_1_145 hM (hl.1.trans hml.symm) d_JL_requireTree_10 d_JL_requireTree_13 d_JL_requireTree_14 d_JL_requireTree_16 d_JL_requireTree_19 hout (Nat.le_of_ble_eq_true rfl) (Nat.le_of_ble_eq_true rfl) (Nat.le_of_ble_eq_true rfl) (Nat.le_of_ble_eq_true rfl) rfl rfl hlocks
def X_JL_ways (n : Nat) (r0 : Nat) (μ : Mem) : Option (Nat × Mem) :=
  if ok μ r0 5 = true then orX (X_JL_requireTree n r0 μ) (Option.bind (C_JL_requireTree n r0 μ) (fun q3 => if ok q3 r0 5 = true then if ok q3 (mR q3 r0 4) 4 = true then Option.bind (C_JO_countWays n (mR q3 r0 4) q3) (fun q6 => none) else none else none)) else none
set_option maxHeartbeats 4000000 in
set_option maxRecDepth 100000 in
theorem Y_JL_ways (l : Launch) (hst : l.stackTraces = false) (D : va_G) (b : Nat) (cs : Nat → ClassId) (r0 : Nat) (μ : Mem) (res : Nat × Mem) (n : Nat) (h : X_JL_ways n r0 μ = some res) : MetT l y_JL_ways w_JL_ways 7 118 b cs D μ [.ref (b + r0)] (xN res.1) res.2 := by
  refine MetT.ofW (cc := b_JL_ways) (maxL := 1) (ret := (Option.some Jvm.ClassFile.FieldType.long)) (by decide) rfl ?_
  intro p e s m args below meth c s₁ B hml hout hv
  obtain ⟨rfl, hK, hZ, hM⟩ := Wd.startX hv
  have hx := B.exec
  have hb := B.bytes
  have hr := B.returns
  have hts : ∀ w ∈ jW, w.before _ s = true := fun w hw => atoms_spec (ws := w_JL_ways) B.pre w (List.mem_cons_of_mem _ hw)
  have hown : s.vm.findClass "JoinedLeaves" = some m.cls := findClass_of_methodNamed B.named
  have hlocks := B.notSynchronized
  have hl := lv_entry ([.ref (b + r0)]) (n := 1) (Nat.le_of_ble_eq_true rfl)
  rw [lg_entry_eq]
  generalize (lg_sl ([.ref (b + r0)]) ++ List.replicate (1 - (lg_sl ([.ref (b + r0)])).length) Slot.unset).toArray = ls at hl ⊢
  have hl : lv_has ls 1 [(0, .ref (b + r0))] := hl
  unfold X_JL_ways at h
  refine lv_aload_n hx hb d_JL_ways_0 rfl (lv_at hl 0 rfl) ?_
  obtain ⟨g1, h⟩ := of_g h
  rcases of_or h with hX2 | h
  · exact g_outV (As := []) (rest := []) hx hb hml hown hts hK hZ hM (Y_JL_requireTree l hst D b cs r0 μ res n hX2) jm_4_11 jm_0_1 jm_4_9 jm_4_10 jm_11_33 (by decide +kernel) (Nat.le_of_ble_eq_true rfl) (Nat.le_of_ble_eq_true rfl) g1 (by decide) rfl rfl rfl hl.1 (Nat.le_of_ble_eq_true rfl) d_JL_ways_1 (Nat.le_of_ble_eq_true rfl) (Nat.le_of_ble_eq_true rfl) hout hlocks
  obtain ⟨q3, hq3, h⟩ := of_b h
  refine g_callv (va_runV (As := []) (rest := []) ⟨hx, hb, hml, hown, hts⟩ (S_JL_requireTree l D b cs r0 μ q3 n hq3) ⟨callB_of 0 hts (goodIn_g jm_4_11) rfl rfl rfl (hts _ jm_0_1) (hts _ jm_4_9) (by decide +kernel) ⟨Nat.le_of_ble_eq_true rfl, Nat.le_of_ble_eq_true rfl⟩, (hts _ jm_4_10), (hts _ jm_11_33)⟩ (Wd.preV hK hM g1 rfl (by decide)) rfl rfl hl.1 rfl (lv_room (Nat.le_of_ble_eq_true rfl)) d_JL_ways_1 ⟨Nat.le_of_ble_eq_true rfl, Nat.le_of_ble_eq_true rfl⟩) hM (fun H locs hM => ?_)
  refine lv_aload_n hx hb d_JL_ways_4 rfl (lv_at hl 0 rfl) ?_
  obtain ⟨g4, h⟩ := of_g h
  obtain ⟨g5, h⟩ := of_g h
  refine g_get (C := "JoinedLeaves") (T := T_JL) (N := 5) (ref := "JoinedLeaves") (v := .ref (b + (mR q3 r0 4))) hx hb hts jF_JL hown hK hM g4 (by decide) rfl 4 (by decide) (hts _ jm_2_14) (fun _ h9 => h9) (by decide) (rv_of (ok_0 g5)) d_JL_ways_5 ?_
  obtain ⟨q6, hq6, h⟩ := of_b h
  refine g_calll (va_runVN (As := []) (rest := []) ⟨hx, hb, hml, hown, hts⟩ (S_JO_countWays l D b cs (mR q3 r0 4) q3 q6 n hq6) ⟨va_cnB 0 hts (goodIn_g jm_5_15) rfl rfl rfl (hK.2.1 _ jn_47) (hts _ jm_0_6) (by decide +kernel) ⟨Nat.le_of_ble_eq_true rfl, Nat.le_of_ble_eq_true rfl⟩, (hts _ jm_5_14), (hts _ jm_11_35)⟩ (Wd.preV hK hM g5 rfl (by decide)) rfl rfl hl.1 rfl (lv_room (Nat.le_of_ble_eq_true rfl)) d_JL_ways_8 ⟨Nat.le_of_ble_eq_true rfl, Nat.le_of_ble_eq_true rfl⟩) hM (fun H locs hM => ?_)
  exact (nomatch h)
def X_JL_live (n : Nat) (r0 : Nat) (i1 : Int32) (μ : Mem) : Option (Nat × Mem) :=
  if ok μ r0 5 = true then orX (X_JL_requireTree n r0 μ) (Option.bind (C_JL_requireTree n r0 μ) (fun q3 => if ok q3 r0 5 = true then if ok q3 (mR q3 r0 2) 2 = true then Option.bind (C_JL_isBelow n i1 (mI q3 (mR q3 r0 2) 1) q3) (fun q6 => if q6.1 = 0 then some (4, q6.2) else if ok q6.2 r0 5 = true then if ok q6.2 (mR q6.2 r0 4) 4 = true then Option.bind (C_JO_countLiveRows n (mR q6.2 r0 4) i1 q6.2) (fun q9 => none) else none else none) else none else none)) else none
set_option maxHeartbeats 4000000 in
set_option maxRecDepth 100000 in
theorem Y_JL_live (l : Launch) (hst : l.stackTraces = false) (D : va_G) (b : Nat) (cs : Nat → ClassId) (r0 : Nat) (i1 : Int32) (μ : Mem) (res : Nat × Mem) (n : Nat) (h : X_JL_live n r0 i1 μ = some res) : MetT l y_JL_live w_JL_live 7 117 b cs D μ [.ref (b + r0), .int i1] (xN res.1) res.2 := by
  refine MetT.ofW (cc := b_JL_live) (maxL := 2) (ret := (Option.some Jvm.ClassFile.FieldType.int)) (by decide) rfl ?_
  intro p e s m args below meth c s₁ B hml hout hv
  obtain ⟨rfl, hK, hZ, hM⟩ := Wd.startX hv
  have hx := B.exec
  have hb := B.bytes
  have hr := B.returns
  have hts : ∀ w ∈ jW, w.before _ s = true := fun w hw => atoms_spec (ws := w_JL_live) B.pre w (List.mem_cons_of_mem _ hw)
  have hown : s.vm.findClass "JoinedLeaves" = some m.cls := findClass_of_methodNamed B.named
  have hlocks := B.notSynchronized
  have hl := lv_entry ([.ref (b + r0), .int i1]) (n := 2) (Nat.le_of_ble_eq_true rfl)
  rw [lg_entry_eq]
  generalize (lg_sl ([.ref (b + r0), .int i1]) ++ List.replicate (2 - (lg_sl ([.ref (b + r0), .int i1])).length) Slot.unset).toArray = ls at hl ⊢
  have hl : lv_has ls 2 [(0, .ref (b + r0)), (1, .int i1)] := hl
  unfold X_JL_live at h
  refine lv_aload_n hx hb d_JL_live_0 rfl (lv_at hl 0 rfl) ?_
  obtain ⟨g1, h⟩ := of_g h
  rcases of_or h with hX2 | h
  · exact g_outV (As := []) (rest := []) hx hb hml hown hts hK hZ hM (Y_JL_requireTree l hst D b cs r0 μ res n hX2) jm_4_11 jm_0_1 jm_4_9 jm_4_10 jm_11_33 (by decide +kernel) (Nat.le_of_ble_eq_true rfl) (Nat.le_of_ble_eq_true rfl) g1 (by decide) rfl rfl rfl hl.1 (Nat.le_of_ble_eq_true rfl) d_JL_live_1 (Nat.le_of_ble_eq_true rfl) (Nat.le_of_ble_eq_true rfl) hout hlocks
  obtain ⟨q3, hq3, h⟩ := of_b h
  refine g_callv (va_runV (As := []) (rest := []) ⟨hx, hb, hml, hown, hts⟩ (S_JL_requireTree l D b cs r0 μ q3 n hq3) ⟨callB_of 0 hts (goodIn_g jm_4_11) rfl rfl rfl (hts _ jm_0_1) (hts _ jm_4_9) (by decide +kernel) ⟨Nat.le_of_ble_eq_true rfl, Nat.le_of_ble_eq_true rfl⟩, (hts _ jm_4_10), (hts _ jm_11_33)⟩ (Wd.preV hK hM g1 rfl (by decide)) rfl rfl hl.1 rfl (lv_room (Nat.le_of_ble_eq_true rfl)) d_JL_live_1 ⟨Nat.le_of_ble_eq_true rfl, Nat.le_of_ble_eq_true rfl⟩) hM (fun H locs hM => ?_)
  refine lv_iload_n hx hb d_JL_live_4 rfl (lv_at hl 1 rfl) ?_
  refine lv_aload_n hx hb d_JL_live_5 rfl (lv_at hl 0 rfl) ?_
  obtain ⟨g4, h⟩ := of_g h
  obtain ⟨g5, h⟩ := of_g h
  refine g_get (C := "JoinedLeaves") (T := T_JL) (N := 5) (ref := "JoinedLeaves") (v := .ref (b + (mR q3 r0 2))) hx hb hts jF_JL hown hK hM g4 (by decide) rfl 2 (by decide) (hts _ jm_2_12) (fun _ h9 => h9) (by decide) (rv_of (ok_0 g5)) d_JL_live_6 ?_
  refine g_getN (C := "JoinedLeaves$Question") (T := T_QU) (N := 5) (ref := "JoinedLeaves$Question") (v := .int (mI q3 (mR q3 r0 2) 1)) hx hb hts jF_QU hown hK hM g5 (by decide) rfl 1 (by decide) (hK.nest _ jn_15 rfl) (fun _ h9 => h9) (by decide) rfl d_JL_live_9 ?_
  obtain ⟨q6, hq6, h⟩ := of_b h
  refine g_calli (va_runS (As := [.int i1, .int (mI q3 (mR q3 r0 2) 1)]) (rest := []) ⟨hx, hb, hml, hown, hts⟩ (S_JL_isBelow l D b cs i1 (mI q3 (mR q3 r0 2) 1) q3 q6 n hq6) ⟨callB_of 2 hts (goodIn_g jm_2_31) rfl rfl rfl (hts _ jm_0_1) (hts _ jm_2_29) (by decide +kernel) ⟨Nat.le_of_ble_eq_true rfl, Nat.le_of_ble_eq_true rfl⟩, (hts _ jm_2_30)⟩ (Wd.preS hK hM) rfl rfl hl.1 rfl (lv_room (Nat.le_of_ble_eq_true rfl)) d_JL_live_12 ⟨Nat.le_of_ble_eq_true rfl, Nat.le_of_ble_eq_true rfl⟩) hM (fun H locs hM => ?_)
  refine lv_if_ne (tgt := 28) hx hb d_JL_live_15 (by decide) (fun hc => ?_) (fun hc => ?_)
  · replace h := of_f hc h
    refine lv_aload_n hx hb d_JL_live_28 rfl (lv_at hl 0 rfl) ?_
    obtain ⟨g7, h⟩ := of_g h
    obtain ⟨g8, h⟩ := of_g h
    refine g_get (C := "JoinedLeaves") (T := T_JL) (N := 5) (ref := "JoinedLeaves") (v := .ref (b + (mR q6.2 r0 4))) hx hb hts jF_JL hown hK hM g7 (by decide) rfl 4 (by decide) (hts _ jm_2_14) (fun _ h9 => h9) (by decide) (rv_of (ok_0 g8)) d_JL_live_29 ?_
    refine lv_iload_n hx hb d_JL_live_32 rfl (lv_at hl 1 rfl) ?_
    obtain ⟨q9, hq9, h⟩ := of_b h
    refine g_calli (va_runVN (As := [.int i1]) (rest := []) ⟨hx, hb, hml, hown, hts⟩ (S_JO_countLiveRows l D b cs (mR q6.2 r0 4) i1 q6.2 q9 n hq9) ⟨va_cnB 1 hts (goodIn_g jm_6_17) rfl rfl rfl (hK.2.1 _ jn_54) (hts _ jm_0_6) (by decide +kernel) ⟨Nat.le_of_ble_eq_true rfl, Nat.le_of_ble_eq_true rfl⟩, (hts _ jm_6_16), (hts _ jm_11_46)⟩ (Wd.preV hK hM g8 rfl (by decide)) rfl rfl hl.1 rfl (lv_room (Nat.le_of_ble_eq_true rfl)) d_JL_live_33 ⟨Nat.le_of_ble_eq_true rfl, Nat.le_of_ble_eq_true rfl⟩) hM (fun H locs hM => ?_)
    exact (nomatch h)
  · replace h := of_t hc h
    obtain rfl := Option.some.inj h
    obtain ⟨sa, hsa⟩ := hZ.2.1 _ (List.mem_of_getElem? (i := 1) rfl)
    exact g_throw (E := "java/lang/IndexOutOfBoundsException") (names := ["java/lang/RuntimeException", "java/lang/Exception"]) hx hb hst hown (by decide +kernel) (by decide +kernel) hts hK hZ jm_6_2 jm_0_12 hsa xl_4_106 hM (hl.1.trans hml.symm) d_JL_live_18 d_JL_live_21 d_JL_live_22 d_JL_live_24 d_JL_live_27 hout (Nat.le_of_ble_eq_true rfl) (Nat.le_of_ble_eq_true rfl) (Nat.le_of_ble_eq_true rfl) (Nat.le_of_ble_eq_true rfl) rfl rfl hlocks
def X_JL_findAnswers (n : Nat) (r0 : Nat) (μ : Mem) : Option (Nat × Mem) :=
  if ok μ r0 5 = true then orX (X_JL_requireTree n r0 μ) (Option.bind (C_JL_requireTree n r0 μ) (fun q3 => if ok q3 r0 5 = true then if ok q3 (mR q3 r0 2) 2 = true then Option.bind (C_QU_bindsHead n (mR q3 r0 2) q3) (fun q6 => if q6.1 = 0 then some (2, q6.2) else if ok q6.2 r0 5 = true then if ok q6.2 (mR q6.2 r0 4) 4 = true then Option.bind (C_JO_search n (mR q6.2 r0 4) q6.2) (fun q9 => if ok q9 r0 5 = true then if ok q9 (mR q9 r0 4) 4 = true then if (mI q9 (mR q9 r0 4) 6) ≤ 64 then none else some (3, q9) else none else none) else none else none) else none else none)) else none
set_option maxHeartbeats 4000000 in
set_option maxRecDepth 100000 in
theorem Y_JL_findAnswers (l : Launch) (hst : l.stackTraces = false) (D : va_G) (b : Nat) (cs : Nat → ClassId) (r0 : Nat) (μ : Mem) (res : Nat × Mem) (n : Nat) (h : X_JL_findAnswers n r0 μ = some res) : MetT l y_JL_findAnswers w_JL_findAnswers 12 289 b cs D μ [.ref (b + r0)] (xN res.1) res.2 := by
  refine MetT.ofW (cc := b_JL_findAnswers) (maxL := 1) (ret := (Option.none : Option Jvm.ClassFile.FieldType)) (by decide) rfl ?_
  intro p e s m args below meth c s₁ B hml hout hv
  obtain ⟨rfl, hK, hZ, hM⟩ := Wd.startX hv
  have hx := B.exec
  have hb := B.bytes
  have hr := B.returns
  have hts : ∀ w ∈ jW, w.before _ s = true := fun w hw => atoms_spec (ws := w_JL_findAnswers) B.pre w (List.mem_cons_of_mem _ hw)
  have hown : s.vm.findClass "JoinedLeaves" = some m.cls := findClass_of_methodNamed B.named
  have hlocks := B.notSynchronized
  have hl := lv_entry ([.ref (b + r0)]) (n := 1) (Nat.le_of_ble_eq_true rfl)
  rw [lg_entry_eq]
  generalize (lg_sl ([.ref (b + r0)]) ++ List.replicate (1 - (lg_sl ([.ref (b + r0)])).length) Slot.unset).toArray = ls at hl ⊢
  have hl : lv_has ls 1 [(0, .ref (b + r0))] := hl
  unfold X_JL_findAnswers at h
  refine lv_aload_n hx hb d_JL_findAnswers_0 rfl (lv_at hl 0 rfl) ?_
  obtain ⟨g1, h⟩ := of_g h
  rcases of_or h with hX2 | h
  · exact g_outV (As := []) (rest := []) hx hb hml hown hts hK hZ hM (Y_JL_requireTree l hst D b cs r0 μ res n hX2) jm_4_11 jm_0_1 jm_4_9 jm_4_10 jm_11_33 (by decide +kernel) (Nat.le_of_ble_eq_true rfl) (Nat.le_of_ble_eq_true rfl) g1 (by decide) rfl rfl rfl hl.1 (Nat.le_of_ble_eq_true rfl) d_JL_findAnswers_1 (Nat.le_of_ble_eq_true rfl) (Nat.le_of_ble_eq_true rfl) hout hlocks
  obtain ⟨q3, hq3, h⟩ := of_b h
  refine g_callv (va_runV (As := []) (rest := []) ⟨hx, hb, hml, hown, hts⟩ (S_JL_requireTree l D b cs r0 μ q3 n hq3) ⟨callB_of 0 hts (goodIn_g jm_4_11) rfl rfl rfl (hts _ jm_0_1) (hts _ jm_4_9) (by decide +kernel) ⟨Nat.le_of_ble_eq_true rfl, Nat.le_of_ble_eq_true rfl⟩, (hts _ jm_4_10), (hts _ jm_11_33)⟩ (Wd.preV hK hM g1 rfl (by decide)) rfl rfl hl.1 rfl (lv_room (Nat.le_of_ble_eq_true rfl)) d_JL_findAnswers_1 ⟨Nat.le_of_ble_eq_true rfl, Nat.le_of_ble_eq_true rfl⟩) hM (fun H locs hM => ?_)
  refine lv_aload_n hx hb d_JL_findAnswers_4 rfl (lv_at hl 0 rfl) ?_
  obtain ⟨g4, h⟩ := of_g h
  obtain ⟨g5, h⟩ := of_g h
  refine g_get (C := "JoinedLeaves") (T := T_JL) (N := 5) (ref := "JoinedLeaves") (v := .ref (b + (mR q3 r0 2))) hx hb hts jF_JL hown hK hM g4 (by decide) rfl 2 (by decide) (hts _ jm_2_12) (fun _ h9 => h9) (by decide) (rv_of (ok_0 g5)) d_JL_findAnswers_5 ?_
  obtain ⟨q6, hq6, h⟩ := of_b h
  refine g_calli (va_runVN (As := []) (rest := []) ⟨hx, hb, hml, hown, hts⟩ (S_QU_bindsHead l D b cs (mR q3 r0 2) q3 q6 n hq6) ⟨va_cnB 0 hts (goodIn_g jm_6_46) rfl rfl rfl (hK.2.1 _ jn_55) (hts _ jm_0_3) (by decide +kernel) ⟨Nat.le_of_ble_eq_true rfl, Nat.le_of_ble_eq_true rfl⟩, (hts _ jm_6_45), (hts _ jm_12_3)⟩ (Wd.preV hK hM g5 rfl (by decide)) rfl rfl hl.1 rfl (lv_room (Nat.le_of_ble_eq_true rfl)) d_JL_findAnswers_8 ⟨Nat.le_of_ble_eq_true rfl, Nat.le_of_ble_eq_true rfl⟩) hM (fun H locs hM => ?_)
  refine lv_if_ne (tgt := 24) hx hb d_JL_findAnswers_11 (by decide) (fun hc => ?_) (fun hc => ?_)
  · replace h := of_f hc h
    refine lv_aload_n hx hb d_JL_findAnswers_24 rfl (lv_at hl 0 rfl) ?_
    obtain ⟨g7, h⟩ := of_g h
    obtain ⟨g8, h⟩ := of_g h
    refine g_get (C := "JoinedLeaves") (T := T_JL) (N := 5) (ref := "JoinedLeaves") (v := .ref (b + (mR q6.2 r0 4))) hx hb hts jF_JL hown hK hM g7 (by decide) rfl 4 (by decide) (hts _ jm_2_14) (fun _ h9 => h9) (by decide) (rv_of (ok_0 g8)) d_JL_findAnswers_25 ?_
    obtain ⟨q9, hq9, h⟩ := of_b h
    refine g_callv (va_runVN (As := []) (rest := []) ⟨hx, hb, hml, hown, hts⟩ (S_JO_search l D b cs (mR q6.2 r0 4) q6.2 q9 n hq9) ⟨va_cnB 0 hts (goodIn_g jm_7_14) rfl rfl rfl (hK.2.1 _ jn_57) (hts _ jm_0_6) (by decide +kernel) ⟨Nat.le_of_ble_eq_true rfl, Nat.le_of_ble_eq_true rfl⟩, (hts _ jm_7_13), (hts _ jm_12_4)⟩ (Wd.preV hK hM g8 rfl (by decide)) rfl rfl hl.1 rfl (lv_room (Nat.le_of_ble_eq_true rfl)) d_JL_findAnswers_28 ⟨Nat.le_of_ble_eq_true rfl, Nat.le_of_ble_eq_true rfl⟩) hM (fun H locs hM => ?_)
    refine lv_aload_n hx hb d_JL_findAnswers_31 rfl (lv_at hl 0 rfl) ?_
    obtain ⟨g10, h⟩ := of_g h
    obtain ⟨g11, h⟩ := of_g h
    refine g_get (C := "JoinedLeaves") (T := T_JL) (N := 5) (ref := "JoinedLeaves") (v := .ref (b + (mR q9 r0 4))) hx hb hts jF_JL hown hK hM g10 (by decide) rfl 4 (by decide) (hts _ jm_2_14) (fun _ h9 => h9) (by decide) (rv_of (ok_0 g11)) d_JL_findAnswers_32 ?_
    refine g_getN (C := "JoinedLeaves$Join") (T := T_JO) (N := 7) (ref := "JoinedLeaves$Join") (v := .int (mI q9 (mR q9 r0 4) 6)) hx hb hts jF_JO hown hK hM g11 (by decide) rfl 6 (by decide) (hK.nest _ jn_26 rfl) (fun _ h9 => h9) (by decide) rfl d_JL_findAnswers_35 ?_
    refine lv_bipush (v := 64) hx hb d_JL_findAnswers_38 (by decide) ?_
    refine lv_icmp_le (tgt := 53) hx hb d_JL_findAnswers_40 (by decide) (fun hc => ?_) (fun hc => ?_)
    · replace h := of_t hc h
      exact (nomatch h)
    · replace h := of_f hc h
      obtain rfl := Option.some.inj h
      obtain ⟨sa, hsa⟩ := hZ.2.1 _ (List.mem_of_getElem? (i := 3) rfl)
      exact g_throw (E := "java/lang/UnsupportedOperationException") (names := ["java/lang/RuntimeException", "java/lang/Exception"]) hx hb hst hown (by decide +kernel) (by decide +kernel) hts hK hZ jm_7_34 jm_0_15 hsa xl_3_140 hM (hl.1.trans hml.symm) d_JL_findAnswers_43 d_JL_findAnswers_46 d_JL_findAnswers_47 d_JL_findAnswers_49 d_JL_findAnswers_52 hout (Nat.le_of_ble_eq_true rfl) (Nat.le_of_ble_eq_true rfl) (Nat.le_of_ble_eq_true rfl) (Nat.le_of_ble_eq_true rfl) rfl rfl hlocks
  · replace h := of_t hc h
    obtain rfl := Option.some.inj h
    obtain ⟨sa, hsa⟩ := hZ.2.1 _ (List.mem_of_getElem? (i := 2) rfl)
    exact g_throw (E := "java/lang/IllegalArgumentException") (names := ["java/lang/RuntimeException", "java/lang/Exception"]) hx hb hst hown (by decide +kernel) (by decide +kernel) hts hK hZ jm_6_47 jm_0_14 hsa xl_2_132 hM (hl.1.trans hml.symm) d_JL_findAnswers_14 d_JL_findAnswers_17 d_JL_findAnswers_18 d_JL_findAnswers_20 d_JL_findAnswers_23 hout (Nat.le_of_ble_eq_true rfl) (Nat.le_of_ble_eq_true rfl) (Nat.le_of_ble_eq_true rfl) (Nat.le_of_ble_eq_true rfl) rfl rfl hlocks
def X_JL_answers (n : Nat) (r0 : Nat) (μ : Mem) : Option (Nat × Mem) :=
  if ok μ r0 5 = true then orX (X_JL_findAnswers n r0 μ) (Option.bind (C_JL_findAnswers n r0 μ) (fun q3 => if ok q3 r0 5 = true then if ok q3 (mR q3 r0 4) 4 = true then none else none else none)) else none
set_option maxHeartbeats 4000000 in
set_option maxRecDepth 100000 in
theorem Y_JL_answers (l : Launch) (hst : l.stackTraces = false) (D : va_G) (b : Nat) (cs : Nat → ClassId) (r0 : Nat) (μ : Mem) (res : Nat × Mem) (n : Nat) (h : X_JL_answers n r0 μ = some res) : MetT l y_JL_answers w_JL_answers 13 309 b cs D μ [.ref (b + r0)] (xN res.1) res.2 := by
  refine MetT.ofW (cc := b_JL_answers) (maxL := 1) (ret := (Option.some Jvm.ClassFile.FieldType.int)) (by decide) rfl ?_
  intro p e s m args below meth c s₁ B hml hout hv
  obtain ⟨rfl, hK, hZ, hM⟩ := Wd.startX hv
  have hx := B.exec
  have hb := B.bytes
  have hr := B.returns
  have hts : ∀ w ∈ jW, w.before _ s = true := fun w hw => atoms_spec (ws := w_JL_answers) B.pre w (List.mem_cons_of_mem _ hw)
  have hown : s.vm.findClass "JoinedLeaves" = some m.cls := findClass_of_methodNamed B.named
  have hlocks := B.notSynchronized
  have hl := lv_entry ([.ref (b + r0)]) (n := 1) (Nat.le_of_ble_eq_true rfl)
  rw [lg_entry_eq]
  generalize (lg_sl ([.ref (b + r0)]) ++ List.replicate (1 - (lg_sl ([.ref (b + r0)])).length) Slot.unset).toArray = ls at hl ⊢
  have hl : lv_has ls 1 [(0, .ref (b + r0))] := hl
  unfold X_JL_answers at h
  refine lv_aload_n hx hb d_JL_answers_0 rfl (lv_at hl 0 rfl) ?_
  obtain ⟨g1, h⟩ := of_g h
  rcases of_or h with hX2 | h
  · exact g_outV (As := []) (rest := []) hx hb hml hown hts hK hZ hM (Y_JL_findAnswers l hst D b cs r0 μ res n hX2) jm_6_44 jm_0_1 jm_6_42 jm_6_43 jm_12_2 (by decide +kernel) (Nat.le_of_ble_eq_true rfl) (Nat.le_of_ble_eq_true rfl) g1 (by decide) rfl rfl rfl hl.1 (Nat.le_of_ble_eq_true rfl) d_JL_answers_1 (Nat.le_of_ble_eq_true rfl) (Nat.le_of_ble_eq_true rfl) hout hlocks
  obtain ⟨q3, hq3, h⟩ := of_b h
  refine g_callv (va_runV (As := []) (rest := []) ⟨hx, hb, hml, hown, hts⟩ (S_JL_findAnswers l D b cs r0 μ q3 n hq3) ⟨callB_of 0 hts (goodIn_g jm_6_44) rfl rfl rfl (hts _ jm_0_1) (hts _ jm_6_42) (by decide +kernel) ⟨Nat.le_of_ble_eq_true rfl, Nat.le_of_ble_eq_true rfl⟩, (hts _ jm_6_43), (hts _ jm_12_2)⟩ (Wd.preV hK hM g1 rfl (by decide)) rfl rfl hl.1 rfl (lv_room (Nat.le_of_ble_eq_true rfl)) d_JL_answers_1 ⟨Nat.le_of_ble_eq_true rfl, Nat.le_of_ble_eq_true rfl⟩) hM (fun H locs hM => ?_)
  refine lv_aload_n hx hb d_JL_answers_4 rfl (lv_at hl 0 rfl) ?_
  obtain ⟨g4, h⟩ := of_g h
  obtain ⟨g5, h⟩ := of_g h
  refine g_get (C := "JoinedLeaves") (T := T_JL) (N := 5) (ref := "JoinedLeaves") (v := .ref (b + (mR q3 r0 4))) hx hb hts jF_JL hown hK hM g4 (by decide) rfl 4 (by decide) (hts _ jm_2_14) (fun _ h9 => h9) (by decide) (rv_of (ok_0 g5)) d_JL_answers_5 ?_
  refine g_getN (C := "JoinedLeaves$Join") (T := T_JO) (N := 7) (ref := "JoinedLeaves$Join") (v := .int (mI q3 (mR q3 r0 4) 6)) hx hb hts jF_JO hown hK hM g5 (by decide) rfl 6 (by decide) (hK.nest _ jn_26 rfl) (fun _ h9 => h9) (by decide) rfl d_JL_answers_8 ?_
  exact (nomatch h)
def X_JL_answer (n : Nat) (r0 : Nat) (i1 : Int32) (i2 : Int32) (μ : Mem) : Option (Nat × Mem) :=
  if ok μ r0 5 = true then orX (X_JL_findAnswers n r0 μ) (Option.bind (C_JL_findAnswers n r0 μ) (fun q3 => if ok q3 r0 5 = true then if ok q3 (mR q3 r0 4) 4 = true then Option.bind (C_JL_isBelow n i1 (mI q3 (mR q3 r0 4) 6) q3) (fun q6 => if q6.1 = 0 then some (4, q6.2) else if ok q6.2 r0 5 = true then if ok q6.2 (mR q6.2 r0 2) 2 = true then Option.bind (C_JL_isBelow n i2 (mI q6.2 (mR q6.2 r0 2) 3) q6.2) (fun q9 => if q9.1 = 0 then some (4, q9.2) else if ok q9.2 r0 5 = true then if ok q9.2 (mR q9.2 r0 4) 4 = true then Option.bind (C_JO_valueInAnswer n (mR q9.2 r0 4) i1 i2 q9.2) (fun q12 => none) else none else none) else none else none) else none else none)) else none
set_option maxHeartbeats 4000000 in
set_option maxRecDepth 100000 in
theorem Y_JL_answer (l : Launch) (hst : l.stackTraces = false) (D : va_G) (b : Nat) (cs : Nat → ClassId) (r0 : Nat) (i1 : Int32) (i2 : Int32) (μ : Mem) (res : Nat × Mem) (n : Nat) (h : X_JL_answer n r0 i1 i2 μ = some res) : MetT l y_JL_answer w_JL_answer 13 309 b cs D μ [.ref (b + r0), .int i1, .int i2] (xN res.1) res.2 := by
  refine MetT.ofW (cc := b_JL_answer) (maxL := 3) (ret := (Option.some Jvm.ClassFile.FieldType.int)) (by decide) rfl ?_
  intro p e s m args below meth c s₁ B hml hout hv
  obtain ⟨rfl, hK, hZ, hM⟩ := Wd.startX hv
  have hx := B.exec
  have hb := B.bytes
  have hr := B.returns
  have hts : ∀ w ∈ jW, w.before _ s = true := fun w hw => atoms_spec (ws := w_JL_answer) B.pre w (List.mem_cons_of_mem _ hw)
  have hown : s.vm.findClass "JoinedLeaves" = some m.cls := findClass_of_methodNamed B.named
  have hlocks := B.notSynchronized
  have hl := lv_entry ([.ref (b + r0), .int i1, .int i2]) (n := 3) (Nat.le_of_ble_eq_true rfl)
  rw [lg_entry_eq]
  generalize (lg_sl ([.ref (b + r0), .int i1, .int i2]) ++ List.replicate (3 - (lg_sl ([.ref (b + r0), .int i1, .int i2])).length) Slot.unset).toArray = ls at hl ⊢
  have hl : lv_has ls 3 [(0, .ref (b + r0)), (1, .int i1), (2, .int i2)] := hl
  unfold X_JL_answer at h
  refine lv_aload_n hx hb d_JL_answer_0 rfl (lv_at hl 0 rfl) ?_
  obtain ⟨g1, h⟩ := of_g h
  rcases of_or h with hX2 | h
  · exact g_outV (As := []) (rest := []) hx hb hml hown hts hK hZ hM (Y_JL_findAnswers l hst D b cs r0 μ res n hX2) jm_6_44 jm_0_1 jm_6_42 jm_6_43 jm_12_2 (by decide +kernel) (Nat.le_of_ble_eq_true rfl) (Nat.le_of_ble_eq_true rfl) g1 (by decide) rfl rfl rfl hl.1 (Nat.le_of_ble_eq_true rfl) d_JL_answer_1 (Nat.le_of_ble_eq_true rfl) (Nat.le_of_ble_eq_true rfl) hout hlocks
  obtain ⟨q3, hq3, h⟩ := of_b h
  refine g_callv (va_runV (As := []) (rest := []) ⟨hx, hb, hml, hown, hts⟩ (S_JL_findAnswers l D b cs r0 μ q3 n hq3) ⟨callB_of 0 hts (goodIn_g jm_6_44) rfl rfl rfl (hts _ jm_0_1) (hts _ jm_6_42) (by decide +kernel) ⟨Nat.le_of_ble_eq_true rfl, Nat.le_of_ble_eq_true rfl⟩, (hts _ jm_6_43), (hts _ jm_12_2)⟩ (Wd.preV hK hM g1 rfl (by decide)) rfl rfl hl.1 rfl (lv_room (Nat.le_of_ble_eq_true rfl)) d_JL_answer_1 ⟨Nat.le_of_ble_eq_true rfl, Nat.le_of_ble_eq_true rfl⟩) hM (fun H locs hM => ?_)
  refine lv_iload_n hx hb d_JL_answer_4 rfl (lv_at hl 1 rfl) ?_
  refine lv_aload_n hx hb d_JL_answer_5 rfl (lv_at hl 0 rfl) ?_
  obtain ⟨g4, h⟩ := of_g h
  obtain ⟨g5, h⟩ := of_g h
  refine g_get (C := "JoinedLeaves") (T := T_JL) (N := 5) (ref := "JoinedLeaves") (v := .ref (b + (mR q3 r0 4))) hx hb hts jF_JL hown hK hM g4 (by decide) rfl 4 (by decide) (hts _ jm_2_14) (fun _ h9 => h9) (by decide) (rv_of (ok_0 g5)) d_JL_answer_6 ?_
  refine g_getN (C := "JoinedLeaves$Join") (T := T_JO) (N := 7) (ref := "JoinedLeaves$Join") (v := .int (mI q3 (mR q3 r0 4) 6)) hx hb hts jF_JO hown hK hM g5 (by decide) rfl 6 (by decide) (hK.nest _ jn_26 rfl) (fun _ h9 => h9) (by decide) rfl d_JL_answer_9 ?_
  obtain ⟨q6, hq6, h⟩ := of_b h
  refine g_calli (va_runS (As := [.int i1, .int (mI q3 (mR q3 r0 4) 6)]) (rest := []) ⟨hx, hb, hml, hown, hts⟩ (S_JL_isBelow l D b cs i1 (mI q3 (mR q3 r0 4) 6) q3 q6 n hq6) ⟨callB_of 2 hts (goodIn_g jm_2_31) rfl rfl rfl (hts _ jm_0_1) (hts _ jm_2_29) (by decide +kernel) ⟨Nat.le_of_ble_eq_true rfl, Nat.le_of_ble_eq_true rfl⟩, (hts _ jm_2_30)⟩ (Wd.preS hK hM) rfl rfl hl.1 rfl (lv_room (Nat.le_of_ble_eq_true rfl)) d_JL_answer_12 ⟨Nat.le_of_ble_eq_true rfl, Nat.le_of_ble_eq_true rfl⟩) hM (fun H locs hM => ?_)
  refine lv_if_eq (tgt := 32) hx hb d_JL_answer_15 (by decide) (fun hc => ?_) (fun hc => ?_)
  · replace h := of_t hc h
    obtain rfl := Option.some.inj h
    obtain ⟨sa, hsa⟩ := hZ.2.1 _ (List.mem_of_getElem? (i := 4) rfl)
    exact g_throw (E := "java/lang/IndexOutOfBoundsException") (names := ["java/lang/RuntimeException", "java/lang/Exception"]) hx hb hst hown (by decide +kernel) (by decide +kernel) hts hK hZ jm_6_2 jm_0_12 hsa xl_4_106 hM (hl.1.trans hml.symm) d_JL_answer_32 d_JL_answer_35 d_JL_answer_36 d_JL_answer_38 d_JL_answer_41 hout (Nat.le_of_ble_eq_true rfl) (Nat.le_of_ble_eq_true rfl) (Nat.le_of_ble_eq_true rfl) (Nat.le_of_ble_eq_true rfl) rfl rfl hlocks
  · replace h := of_f hc h
    refine lv_iload_n hx hb d_JL_answer_18 rfl (lv_at hl 2 rfl) ?_
    refine lv_aload_n hx hb d_JL_answer_19 rfl (lv_at hl 0 rfl) ?_
    obtain ⟨g7, h⟩ := of_g h
    obtain ⟨g8, h⟩ := of_g h
    refine g_get (C := "JoinedLeaves") (T := T_JL) (N := 5) (ref := "JoinedLeaves") (v := .ref (b + (mR q6.2 r0 2))) hx hb hts jF_JL hown hK hM g7 (by decide) rfl 2 (by decide) (hts _ jm_2_12) (fun _ h9 => h9) (by decide) (rv_of (ok_0 g8)) d_JL_answer_20 ?_
    refine g_getN (C := "JoinedLeaves$Question") (T := T_QU) (N := 5) (ref := "JoinedLeaves$Question") (v := .int (mI q6.2 (mR q6.2 r0 2) 3)) hx hb hts jF_QU hown hK hM g8 (by decide) rfl 3 (by decide) (hK.nest _ jn_18 rfl) (fun _ h9 => h9) (by decide) rfl d_JL_answer_23 ?_
    obtain ⟨q9, hq9, h⟩ := of_b h
    refine g_calli (va_runS (As := [.int i2, .int (mI q6.2 (mR q6.2 r0 2) 3)]) (rest := []) ⟨hx, hb, hml, hown, hts⟩ (S_JL_isBelow l D b cs i2 (mI q6.2 (mR q6.2 r0 2) 3) q6.2 q9 n hq9) ⟨callB_of 2 hts (goodIn_g jm_2_31) rfl rfl rfl (hts _ jm_0_1) (hts _ jm_2_29) (by decide +kernel) ⟨Nat.le_of_ble_eq_true rfl, Nat.le_of_ble_eq_true rfl⟩, (hts _ jm_2_30)⟩ (Wd.preS hK hM) rfl rfl hl.1 rfl (lv_room (Nat.le_of_ble_eq_true rfl)) d_JL_answer_26 ⟨Nat.le_of_ble_eq_true rfl, Nat.le_of_ble_eq_true rfl⟩) hM (fun H locs hM => ?_)
    refine lv_if_ne (tgt := 42) hx hb d_JL_answer_29 (by decide) (fun hc => ?_) (fun hc => ?_)
    · replace h := of_f hc h
      refine lv_aload_n hx hb d_JL_answer_42 rfl (lv_at hl 0 rfl) ?_
      obtain ⟨g10, h⟩ := of_g h
      obtain ⟨g11, h⟩ := of_g h
      refine g_get (C := "JoinedLeaves") (T := T_JL) (N := 5) (ref := "JoinedLeaves") (v := .ref (b + (mR q9.2 r0 4))) hx hb hts jF_JL hown hK hM g10 (by decide) rfl 4 (by decide) (hts _ jm_2_14) (fun _ h9 => h9) (by decide) (rv_of (ok_0 g11)) d_JL_answer_43 ?_
      refine lv_iload_n hx hb d_JL_answer_46 rfl (lv_at hl 1 rfl) ?_
      refine lv_iload_n hx hb d_JL_answer_47 rfl (lv_at hl 2 rfl) ?_
      obtain ⟨q12, hq12, h⟩ := of_b h
      refine g_calli (va_runVN (As := [.int i1, .int i2]) (rest := []) ⟨hx, hb, hml, hown, hts⟩ (S_JO_valueInAnswer l D b cs (mR q9.2 r0 4) i1 i2 q9.2 q12 n hq12) ⟨va_cnB 2 hts (goodIn_g jm_8_8) rfl rfl rfl (hK.2.1 _ jn_63) (hts _ jm_0_6) (by decide +kernel) ⟨Nat.le_of_ble_eq_true rfl, Nat.le_of_ble_eq_true rfl⟩, (hts _ jm_8_7), (hts _ jm_12_12)⟩ (Wd.preV hK hM g11 rfl (by decide)) rfl rfl hl.1 rfl (lv_room (Nat.le_of_ble_eq_true rfl)) d_JL_answer_48 ⟨Nat.le_of_ble_eq_true rfl, Nat.le_of_ble_eq_true rfl⟩) hM (fun H locs hM => ?_)
      exact (nomatch h)
    · replace h := of_t hc h
      obtain rfl := Option.some.inj h
      obtain ⟨sa, hsa⟩ := hZ.2.1 _ (List.mem_of_getElem? (i := 4) rfl)
      exact g_throw (E := "java/lang/IndexOutOfBoundsException") (names := ["java/lang/RuntimeException", "java/lang/Exception"]) hx hb hst hown (by decide +kernel) (by decide +kernel) hts hK hZ jm_6_2 jm_0_12 hsa xl_4_106 hM (hl.1.trans hml.symm) d_JL_answer_32 d_JL_answer_35 d_JL_answer_36 d_JL_answer_38 d_JL_answer_41 hout (Nat.le_of_ble_eq_true rfl) (Nat.le_of_ble_eq_true rfl) (Nat.le_of_ble_eq_true rfl) (Nat.le_of_ble_eq_true rfl) rfl rfl hlocks
