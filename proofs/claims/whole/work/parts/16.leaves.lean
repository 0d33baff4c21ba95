/-! By program (wip/whole/gen.py): for each method its function over memories, and its contract. -/
abbrev w_JL_relation : List Cond := .code y_JL_relation b_JL_relation 2 (Option.some Jvm.ClassFile.FieldType.int) :: jW
def C_JL_relation (n : Nat) (r0 : Nat) (i1 : Int32) (μ : Mem) : Option (Int32 × Mem) :=
  if i1 < 1 then some ((-1), μ) else if 3 < i1 then some ((-1), μ) else if ok μ r0 5 = true then if (mI μ r0 1) = 6 then some ((-1), μ) else if ok μ (mR μ r0 0) 102 = true then if ib (mI μ r0 1) (mZ μ (mR μ r0 0)) = true then if ok μ (mR μ (mR μ r0 0) (Int32.toNatClampNeg (mI μ r0 1))) 0 = true then Option.bind (some (sI μ (mR μ (mR μ r0 0) (Int32.toNatClampNeg (mI μ r0 1))) 1 i1)) (fun μ5 => Option.bind (some (sI μ5 r0 1 ((mI μ5 r0 1) + 1))) (fun μ6 => some ((mI μ6 r0 1) - 1, μ6))) else none else none else none else none
set_option maxHeartbeats 4000000 in
set_option maxRecDepth 100000 in
theorem S_JL_relation (l : Launch) (D : va_G) (b : Nat) (cs : Nat → ClassId) (r0 : Nat) (i1 : Int32) (μ : Mem) (res : Int32 × Mem) (n : Nat) (h : C_JL_relation n r0 i1 μ = some res) : MetI l y_JL_relation w_JL_relation 0 0 b cs D μ [.ref (b + r0), .int i1] res := by
  refine Met.ofW (cc := b_JL_relation) (maxL := 2) (ret := (Option.some Jvm.ClassFile.FieldType.int)) (by decide) rfl ?_
  intro p e s m args below meth c s₁ B hml hv
  obtain ⟨rfl, hK, hM⟩ := Wd.start hv
  have hx := B.exec
  have hb := B.bytes
  have hr := B.returns
  have hts : ∀ w ∈ jW, w.before _ s = true := fun w hw => atoms_spec (ws := w_JL_relation) B.pre w (List.mem_cons_of_mem _ hw)
  have hown : s.vm.findClass "JoinedLeaves" = some m.cls := findClass_of_methodNamed B.named
  have hlocks := B.notSynchronized
  have hl := lv_entry ([.ref (b + r0), .int i1]) (n := 2) (Nat.le_of_ble_eq_true rfl)
  rw [lg_entry_eq]
  generalize (lg_sl ([.ref (b + r0), .int i1]) ++ List.replicate (2 - (lg_sl ([.ref (b + r0), .int i1])).length) Slot.unset).toArray = ls at hl ⊢
  have hl : lv_has ls 2 [(0, .ref (b + r0)), (1, .int i1)] := hl
  unfold C_JL_relation at h
  refine lv_iload_n hx hb d_JL_relation_0 rfl (lv_at hl 1 rfl) ?_
  refine lv_iconst (v := 1) hx hb d_JL_relation_1 (by decide) ?_
  refine lv_icmp_lt (tgt := 19) hx hb d_JL_relation_2 (by decide) (fun hc => ?_) (fun hc => ?_)
  · replace h := of_t hc h
    refine lv_iconst (v := (-1)) hx hb d_JL_relation_19 (by decide) ?_
    exact g_iret hx hb hr hlocks hM (Option.some.inj h) d_JL_relation_20
  · replace h := of_f hc h
    refine lv_iload_n hx hb d_JL_relation_5 rfl (lv_at hl 1 rfl) ?_
    refine lv_iconst (v := 3) hx hb d_JL_relation_6 (by decide) ?_
    refine lv_icmp_gt (tgt := 19) hx hb d_JL_relation_7 (by decide) (fun hc => ?_) (fun hc => ?_)
    · replace h := of_t hc h
      refine lv_iconst (v := (-1)) hx hb d_JL_relation_19 (by decide) ?_
      exact g_iret hx hb hr hlocks hM (Option.some.inj h) d_JL_relation_20
    · replace h := of_f hc h
      refine lv_aload_n hx hb d_JL_relation_10 rfl (lv_at hl 0 rfl) ?_
      obtain ⟨g1, h⟩ := of_g h
      refine g_get (C := "JoinedLeaves") (T := T_JL) (N := 5) (ref := "JoinedLeaves") (v := .int (mI μ r0 1)) hx hb hts jF_JL hown hK hM g1 (by decide) rfl 1 (by decide) (hts _ jm_2_11) (fun _ h9 => h9) (by decide) rfl d_JL_relation_11 ?_
      refine lv_bipush (v := 6) hx hb d_JL_relation_14 (by decide) ?_
      refine lv_icmp_ne (tgt := 21) hx hb d_JL_relation_16 (by decide) (fun hc => ?_) (fun hc => ?_)
      · replace h := of_f hc h
        refine lv_aload_n hx hb d_JL_relation_21 rfl (lv_at hl 0 rfl) ?_
        obtain ⟨g2, h⟩ := of_g h
        refine g_get (C := "JoinedLeaves") (T := T_JL) (N := 5) (ref := "JoinedLeaves") (v := .ref (b + (mR μ r0 0))) hx hb hts jF_JL hown hK hM g1 (by decide) rfl 0 (by decide) (hts _ jm_2_10) (fun _ h9 => h9) (by decide) (rv_of (ok_0 g2)) d_JL_relation_22 ?_
        refine lv_aload_n hx hb d_JL_relation_25 rfl (lv_at hl 0 rfl) ?_
        refine g_get (C := "JoinedLeaves") (T := T_JL) (N := 5) (ref := "JoinedLeaves") (v := .int (mI μ r0 1)) hx hb hts jF_JL hown hK hM g1 (by decide) rfl 1 (by decide) (hts _ jm_2_11) (fun _ h9 => h9) (by decide) rfl d_JL_relation_26 ?_
        obtain ⟨g3, h⟩ := of_g h
        obtain ⟨g4, h⟩ := of_g h
        refine g_aald (ty := (.object "JoinedLeaves$Relation")) hx hb hK hM 0 rfl rfl g2 g3 (ok_0 g4) d_JL_relation_29 ?_
        refine lv_iload_n hx hb d_JL_relation_30 rfl (lv_at hl 1 rfl) ?_
        obtain ⟨μ5, e_μ5, h⟩ := of_b h
        obtain rfl := Option.some.inj e_μ5
        refine g_putiN (v := i1) (C := "JoinedLeaves$Relation") (T := T_RE) (N := 3) (ref := "JoinedLeaves$Relation") hx hb hts jF_RE t_RE o_RE n_RE hown hK hM g4 (by decide) rfl 1 (by decide) (hK.nest _ jn_2 rfl) (fun _ h9 => h9) rfl (ty := .int) (by decide +kernel) rfl rfl (by decide) (Or.inl rfl) d_JL_relation_31 (fun H locs hM => ?_)
        refine lv_aload_n hx hb d_JL_relation_34 rfl (lv_at hl 0 rfl) ?_
        refine lv_dup hx hb d_JL_relation_35 rfl ?_
        refine g_get (C := "JoinedLeaves") (T := T_JL) (N := 5) (ref := "JoinedLeaves") (v := .int (mI (sI μ (mR μ (mR μ r0 0) (Int32.toNatClampNeg (mI μ r0 1))) 1 i1) r0 1)) hx hb hts jF_JL hown hK hM g1 (by decide) rfl 1 (by decide) (hts _ jm_2_11) (fun _ h9 => h9) (by decide) rfl d_JL_relation_36 ?_
        refine lv_iconst (v := 1) hx hb d_JL_relation_39 (by decide) ?_
        refine lv_iadd hx hb d_JL_relation_40 ?_
        obtain ⟨μ6, e_μ6, h⟩ := of_b h
        obtain rfl := Option.some.inj e_μ6
        refine g_puti (v := (mI (sI μ (mR μ (mR μ r0 0) (Int32.toNatClampNeg (mI μ r0 1))) 1 i1) r0 1) + 1) (C := "JoinedLeaves") (T := T_JL) (N := 5) (ref := "JoinedLeaves") hx hb hts jF_JL t_JL o_JL n_JL hown hK hM g1 (by decide) rfl 1 (by decide) (hts _ jm_2_11) (fun _ h9 => h9) rfl (ty := .int) (by decide +kernel) rfl rfl (by decide) (Or.inl rfl) d_JL_relation_41 (fun H locs hM => ?_)
        refine lv_aload_n hx hb d_JL_relation_44 rfl (lv_at hl 0 rfl) ?_
        refine g_get (C := "JoinedLeaves") (T := T_JL) (N := 5) (ref := "JoinedLeaves") (v := .int (mI (sI (sI μ (mR μ (mR μ r0 0) (Int32.toNatClampNeg (mI μ r0 1))) 1 i1) r0 1 ((mI (sI μ (mR μ (mR μ r0 0) (Int32.toNatClampNeg (mI μ r0 1))) 1 i1) r0 1) + 1)) r0 1)) hx hb hts jF_JL hown hK hM g1 (by decide) rfl 1 (by decide) (hts _ jm_2_11) (fun _ h9 => h9) (by decide) rfl d_JL_relation_45 ?_
        refine lv_iconst (v := 1) hx hb d_JL_relation_48 (by decide) ?_
        refine lv_isub hx hb d_JL_relation_49 ?_
        exact g_iret hx hb hr hlocks hM (Option.some.inj h) d_JL_relation_50
      · replace h := of_t hc h
        refine lv_iconst (v := (-1)) hx hb d_JL_relation_19 (by decide) ?_
        exact g_iret hx hb hr hlocks hM (Option.some.inj h) d_JL_relation_20
abbrev w_JL_add : List Cond := .code y_JL_add b_JL_add 5 (Option.some Jvm.ClassFile.FieldType.boolean) :: jW
def C_JL_add (n : Nat) (r0 : Nat) (i1 : Int32) (i2 : Int32) (i3 : Int32) (i4 : Int32) (μ : Mem) : Option (Int32 × Mem) :=
  if ok μ r0 5 = true then Option.bind (C_JL_isBelow n i1 (mI μ r0 1) μ) (fun q2 => if q2.1 = 0 then some (0, q2.2) else if ok q2.2 r0 5 = true then if ok q2.2 (mR q2.2 r0 0) 102 = true then if ib i1 (mZ q2.2 (mR q2.2 r0 0)) = true then if ok q2.2 (mR q2.2 (mR q2.2 r0 0) (Int32.toNatClampNeg i1)) 0 = true then Option.bind (C_RE_put n (mR q2.2 (mR q2.2 r0 0) (Int32.toNatClampNeg i1)) i2 i3 i4 q2.2) (fun q7 => if q7.1 = 0 then some (0, q7.2) else some (1, q7.2)) else none else none else none else none) else none
set_option maxHeartbeats 4000000 in
set_option maxRecDepth 100000 in
theorem S_JL_add (l : Launch) (D : va_G) (b : Nat) (cs : Nat → ClassId) (r0 : Nat) (i1 : Int32) (i2 : Int32) (i3 : Int32) (i4 : Int32) (μ : Mem) (res : Int32 × Mem) (n : Nat) (h : C_JL_add n r0 i1 i2 i3 i4 μ = some res) : MetI l y_JL_add w_JL_add 3 70 b cs D μ [.ref (b + r0), .int i1, .int i2, .int i3, .int i4] res := by
  refine Met.ofW (cc := b_JL_add) (maxL := 5) (ret := (Option.some Jvm.ClassFile.FieldType.boolean)) (by decide) rfl ?_
  intro p e s m args below meth c s₁ B hml hv
  obtain ⟨rfl, hK, hM⟩ := Wd.start hv
  have hx := B.exec
  have hb := B.bytes
  have hr := B.returns
  have hts : ∀ w ∈ jW, w.before _ s = true := fun w hw => atoms_spec (ws := w_JL_add) B.pre w (List.mem_cons_of_mem _ hw)
  have hown : s.vm.findClass "JoinedLeaves" = some m.cls := findClass_of_methodNamed B.named
  have hlocks := B.notSynchronized
  have hl := lv_entry ([.ref (b + r0), .int i1, .int i2, .int i3, .int i4]) (n := 5) (Nat.le_of_ble_eq_true rfl)
  rw [lg_entry_eq]
  generalize (lg_sl ([.ref (b + r0), .int i1, .int i2, .int i3, .int i4]) ++ List.replicate (5 - (lg_sl ([.ref (b + r0), .int i1, .int i2, .int i3, .int i4])).length) Slot.unset).toArray = ls at hl ⊢
  have hl : lv_has ls 5 [(0, .ref (b + r0)), (1, .int i1), (2, .int i2), (3, .int i3), (4, .int i4)] := hl
  unfold C_JL_add at h
  refine lv_iload_n hx hb d_JL_add_0 rfl (lv_at hl 1 rfl) ?_
  refine lv_aload_n hx hb d_JL_add_1 rfl (lv_at hl 0 rfl) ?_
  obtain ⟨g1, h⟩ := of_g h
  refine g_get (C := "JoinedLeaves") (T := T_JL) (N := 5) (ref := "JoinedLeaves") (v := .int (mI μ r0 1)) hx hb hts jF_JL hown hK hM g1 (by decide) rfl 1 (by decide) (hts _ jm_2_11) (fun _ h9 => h9) (by decide) rfl d_JL_add_2 ?_
  obtain ⟨q2, hq2, h⟩ := of_b h
  refine g_calli (va_runS (As := [.int i1, .int (mI μ r0 1)]) (rest := []) ⟨hx, hb, hml, hown, hts⟩ (S_JL_isBelow l D b cs i1 (mI μ r0 1) μ q2 n hq2) ⟨callB_of 2 hts (goodIn_g jm_2_31) rfl rfl rfl (hts _ jm_0_1) (hts _ jm_2_29) (by decide +kernel) ⟨Nat.le_of_ble_eq_true rfl, Nat.le_of_ble_eq_true rfl⟩, (hts _ jm_2_30)⟩ (Wd.preS hK hM) rfl rfl hl.1 rfl (lv_room (Nat.le_of_ble_eq_true rfl)) d_JL_add_5 ⟨Nat.le_of_ble_eq_true rfl, Nat.le_of_ble_eq_true rfl⟩) hM (fun H locs hM => ?_)
  refine lv_if_eq (tgt := 31) hx hb d_JL_add_8 (by decide) (fun hc => ?_) (fun hc => ?_)
  · replace h := of_t hc h
    refine lv_iconst (v := 0) hx hb d_JL_add_31 (by decide) ?_
    exact g_zret hx hb hr narrow_b0 hlocks hM (Option.some.inj h) d_JL_add_32
  · replace h := of_f hc h
    refine lv_aload_n hx hb d_JL_add_11 rfl (lv_at hl 0 rfl) ?_
    obtain ⟨g3, h⟩ := of_g h
    obtain ⟨g4, h⟩ := of_g h
    refine g_get (C := "JoinedLeaves") (T := T_JL) (N := 5) (ref := "JoinedLeaves") (v := .ref (b + (mR q2.2 r0 0))) hx hb hts jF_JL hown hK hM g3 (by decide) rfl 0 (by decide) (hts _ jm_2_10) (fun _ h9 => h9) (by decide) (rv_of (ok_0 g4)) d_JL_add_12 ?_
    refine lv_iload_n hx hb d_JL_add_15 rfl (lv_at hl 1 rfl) ?_
    obtain ⟨g5, h⟩ := of_g h
    obtain ⟨g6, h⟩ := of_g h
    refine g_aald (ty := (.object "JoinedLeaves$Relation")) hx hb hK hM 0 rfl rfl g4 g5 (ok_0 g6) d_JL_add_16 ?_
    refine lv_iload_n hx hb d_JL_add_17 rfl (lv_at hl 2 rfl) ?_
    refine lv_iload_n hx hb d_JL_add_18 rfl (lv_at hl 3 rfl) ?_
    refine lv_iload hx hb d_JL_add_19 (lv_at hl 4 rfl) ?_
    obtain ⟨q7, hq7, h⟩ := of_b h
    refine g_calli (va_runVN (As := [.int i2, .int i3, .int i4]) (rest := []) ⟨hx, hb, hml, hown, hts⟩ (S_RE_put l D b cs (mR q2.2 (mR q2.2 r0 0) (Int32.toNatClampNeg i1)) i2 i3 i4 q2.2 q7 n hq7) ⟨va_cnB 3 hts (goodIn_g jm_2_33) rfl rfl rfl (hK.2.1 _ jn_27) (hts _ jm_0_2) (by decide +kernel) ⟨Nat.le_of_ble_eq_true rfl, Nat.le_of_ble_eq_true rfl⟩, (hts _ jm_2_32), (hts _ jm_11_20)⟩ (Wd.preV hK hM g6 rfl (by decide)) rfl rfl hl.1 rfl (lv_room (Nat.le_of_ble_eq_true rfl)) d_JL_add_21 ⟨Nat.le_of_ble_eq_true rfl, Nat.le_of_ble_eq_true rfl⟩) hM (fun H locs hM => ?_)
    refine lv_if_eq (tgt := 31) hx hb d_JL_add_24 (by decide) (fun hc => ?_) (fun hc => ?_)
    · replace h := of_t hc h
      refine lv_iconst (v := 0) hx hb d_JL_add_31 (by decide) ?_
      exact g_zret hx hb hr narrow_b0 hlocks hM (Option.some.inj h) d_JL_add_32
    · replace h := of_f hc h
      refine lv_iconst (v := 1) hx hb d_JL_add_27 (by decide) ?_
      refine lv_goto (tgt := 32) hx hb d_JL_add_28 (by decide) ?_
      exact g_zret hx hb hr narrow_b1 hlocks hM (Option.some.inj h) d_JL_add_32
abbrev w_JL_drop : List Cond := .code y_JL_drop b_JL_drop 5 (Option.some Jvm.ClassFile.FieldType.boolean) :: jW
def C_JL_drop (n : Nat) (r0 : Nat) (i1 : Int32) (i2 : Int32) (i3 : Int32) (i4 : Int32) (μ : Mem) : Option (Int32 × Mem) :=
  if ok μ r0 5 = true then Option.bind (C_JL_isBelow n i1 (mI μ r0 1) μ) (fun q2 => if q2.1 = 0 then some (0, q2.2) else if ok q2.2 r0 5 = true then if ok q2.2 (mR q2.2 r0 0) 102 = true then if ib i1 (mZ q2.2 (mR q2.2 r0 0)) = true then if ok q2.2 (mR q2.2 (mR q2.2 r0 0) (Int32.toNatClampNeg i1)) 0 = true then Option.bind (C_RE_take n (mR q2.2 (mR q2.2 r0 0) (Int32.toNatClampNeg i1)) i2 i3 i4 q2.2) (fun q7 => if q7.1 = 0 then some (0, q7.2) else some (1, q7.2)) else none else none else none else none) else none
set_option maxHeartbeats 4000000 in
set_option maxRecDepth 100000 in
theorem S_JL_drop (l : Launch) (D : va_G) (b : Nat) (cs : Nat → ClassId) (r0 : Nat) (i1 : Int32) (i2 : Int32) (i3 : Int32) (i4 : Int32) (μ : Mem) (res : Int32 × Mem) (n : Nat) (h : C_JL_drop n r0 i1 i2 i3 i4 μ = some res) : MetI l y_JL_drop w_JL_drop 3 70 b cs D μ [.ref (b + r0), .int i1, .int i2, .int i3, .int i4] res := by
  refine Met.ofW (cc := b_JL_drop) (maxL := 5) (ret := (Option.some Jvm.ClassFile.FieldType.boolean)) (by decide) rfl ?_
  intro p e s m args below meth c s₁ B hml hv
  obtain ⟨rfl, hK, hM⟩ := Wd.start hv
  have hx := B.exec
  have hb := B.bytes
  have hr := B.returns
  have hts : ∀ w ∈ jW, w.before _ s = true := fun w hw => atoms_spec (ws := w_JL_drop) B.pre w (List.mem_cons_of_mem _ hw)
  have hown : s.vm.findClass "JoinedLeaves" = some m.cls := findClass_of_methodNamed B.named
  have hlocks := B.notSynchronized
  have hl := lv_entry ([.ref (b + r0), .int i1, .int i2, .int i3, .int i4]) (n := 5) (Nat.le_of_ble_eq_true rfl)
  rw [lg_entry_eq]
  generalize (lg_sl ([.ref (b + r0), .int i1, .int i2, .int i3, .int i4]) ++ List.replicate (5 - (lg_sl ([.ref (b + r0), .int i1, .int i2, .int i3, .int i4])).length) Slot.unset).toArray = ls at hl ⊢
  have hl : lv_has ls 5 [(0, .ref (b + r0)), (1, .int i1), (2, .int i2), (3, .int i3), (4, .int i4)] := hl
  unfold C_JL_drop at h
  refine lv_iload_n hx hb d_JL_drop_0 rfl (lv_at hl 1 rfl) ?_
  refine lv_aload_n hx hb d_JL_drop_1 rfl (lv_at hl 0 rfl) ?_
  obtain ⟨g1, h⟩ := of_g h
  refine g_get (C := "JoinedLeaves") (T := T_JL) (N := 5) (ref := "JoinedLeaves") (v := .int (mI μ r0 1)) hx hb hts jF_JL hown hK hM g1 (by decide) rfl 1 (by decide) (hts _ jm_2_11) (fun _ h9 => h9) (by decide) rfl d_JL_drop_2 ?_
  obtain ⟨q2, hq2, h⟩ := of_b h
  refine g_calli (va_runS (As := [.int i1, .int (mI μ r0 1)]) (rest := []) ⟨hx, hb, hml, hown, hts⟩ (S_JL_isBelow l D b cs i1 (mI μ r0 1) μ q2 n hq2) ⟨callB_of 2 hts (goodIn_g jm_2_31) rfl rfl rfl (hts _ jm_0_1) (hts _ jm_2_29) (by decide +kernel) ⟨Nat.le_of_ble_eq_true rfl, Nat.le_of_ble_eq_true rfl⟩, (hts _ jm_2_30)⟩ (Wd.preS hK hM) rfl rfl hl.1 rfl (lv_room (Nat.le_of_ble_eq_true rfl)) d_JL_drop_5 ⟨Nat.le_of_ble_eq_true rfl, Nat.le_of_ble_eq_true rfl⟩) hM (fun H locs hM => ?_)
  refine lv_if_eq (tgt := 31) hx hb d_JL_drop_8 (by decide) (fun hc => ?_) (fun hc => ?_)
  · replace h := of_t hc h
    refine lv_iconst (v := 0) hx hb d_JL_drop_31 (by decide) ?_
    exact g_zret hx hb hr narrow_b0 hlocks hM (Option.some.inj h) d_JL_drop_32
  · replace h := of_f hc h
    refine lv_aload_n hx hb d_JL_drop_11 rfl (lv_at hl 0 rfl) ?_
    obtain ⟨g3, h⟩ := of_g h
    obtain ⟨g4, h⟩ := of_g h
    refine g_get (C := "JoinedLeaves") (T := T_JL) (N := 5) (ref := "JoinedLeaves") (v := .ref (b + (mR q2.2 r0 0))) hx hb hts jF_JL hown hK hM g3 (by decide) rfl 0 (by decide) (hts _ jm_2_10) (fun _ h9 => h9) (by decide) (rv_of (ok_0 g4)) d_JL_drop_12 ?_
    refine lv_iload_n hx hb d_JL_drop_15 rfl (lv_at hl 1 rfl) ?_
    obtain ⟨g5, h⟩ := of_g h
    obtain ⟨g6, h⟩ := of_g h
    refine g_aald (ty := (.object "JoinedLeaves$Relation")) hx hb hK hM 0 rfl rfl g4 g5 (ok_0 g6) d_JL_drop_16 ?_
    refine lv_iload_n hx hb d_JL_drop_17 rfl (lv_at hl 2 rfl) ?_
    refine lv_iload_n hx hb d_JL_drop_18 rfl (lv_at hl 3 rfl) ?_
    refine lv_iload hx hb d_JL_drop_19 (lv_at hl 4 rfl) ?_
    obtain ⟨q7, hq7, h⟩ := of_b h
    refine g_calli (va_runVN (As := [.int i2, .int i3, .int i4]) (rest := []) ⟨hx, hb, hml, hown, hts⟩ (S_RE_take l D b cs (mR q2.2 (mR q2.2 r0 0) (Int32.toNatClampNeg i1)) i2 i3 i4 q2.2 q7 n hq7) ⟨va_cnB 3 hts (goodIn_g jm_2_45) rfl rfl rfl (hK.2.1 _ jn_29) (hts _ jm_0_2) (by decide +kernel) ⟨Nat.le_of_ble_eq_true rfl, Nat.le_of_ble_eq_true rfl⟩, (hts _ jm_2_44), (hts _ jm_11_23)⟩ (Wd.preV hK hM g6 rfl (by decide)) rfl rfl hl.1 rfl (lv_room (Nat.le_of_ble_eq_true rfl)) d_JL_drop_21 ⟨Nat.le_of_ble_eq_true rfl, Nat.le_of_ble_eq_true rfl⟩) hM (fun H locs hM => ?_)
    refine lv_if_eq (tgt := 31) hx hb d_JL_drop_24 (by decide) (fun hc => ?_) (fun hc => ?_)
    · replace h := of_t hc h
      refine lv_iconst (v := 0) hx hb d_JL_drop_31 (by decide) ?_
      exact g_zret hx hb hr narrow_b0 hlocks hM (Option.some.inj h) d_JL_drop_32
    · replace h := of_f hc h
      refine lv_iconst (v := 1) hx hb d_JL_drop_27 (by decide) ?_
      refine lv_goto (tgt := 32) hx hb d_JL_drop_28 (by decide) ?_
      exact g_zret hx hb hr narrow_b1 hlocks hM (Option.some.inj h) d_JL_drop_32
abbrev w_JL_rows : List Cond := .code y_JL_rows b_JL_rows 2 (Option.some Jvm.ClassFile.FieldType.int) :: jW
def C_JL_rows (n : Nat) (r0 : Nat) (i1 : Int32) (μ : Mem) : Option (Int32 × Mem) :=
  if ok μ r0 5 = true then Option.bind (C_JL_isBelow n i1 (mI μ r0 1) μ) (fun q2 => if q2.1 = 0 then some ((-1), q2.2) else if ok q2.2 r0 5 = true then if ok q2.2 (mR q2.2 r0 0) 102 = true then if ib i1 (mZ q2.2 (mR q2.2 r0 0)) = true then if ok q2.2 (mR q2.2 (mR q2.2 r0 0) (Int32.toNatClampNeg i1)) 0 = true then some (mI q2.2 (mR q2.2 (mR q2.2 r0 0) (Int32.toNatClampNeg i1)) 2, q2.2) else none else none else none else none) else none
set_option maxHeartbeats 4000000 in
set_option maxRecDepth 100000 in
theorem S_JL_rows (l : Launch) (D : va_G) (b : Nat) (cs : Nat → ClassId) (r0 : Nat) (i1 : Int32) (μ : Mem) (res : Int32 × Mem) (n : Nat) (h : C_JL_rows n r0 i1 μ = some res) : MetI l y_JL_rows w_JL_rows 1 21 b cs D μ [.ref (b + r0), .int i1] res := by
  refine Met.ofW (cc := b_JL_rows) (maxL := 2) (ret := (Option.some Jvm.ClassFile.FieldType.int)) (by decide) rfl ?_
  intro p e s m args below meth c s₁ B hml hv
  obtain ⟨rfl, hK, hM⟩ := Wd.start hv
  have hx := B.exec
  have hb := B.bytes
  have hr := B.returns
  have hts : ∀ w ∈ jW, w.before _ s = true := fun w hw => atoms_spec (ws := w_JL_rows) B.pre w (List.mem_cons_of_mem _ hw)
  have hown : s.vm.findClass "JoinedLeaves" = some m.cls := findClass_of_methodNamed B.named
  have hlocks := B.notSynchronized
  have hl := lv_entry ([.ref (b + r0), .int i1]) (n := 2) (Nat.le_of_ble_eq_true rfl)
  rw [lg_entry_eq]
  generalize (lg_sl ([.ref (b + r0), .int i1]) ++ List.replicate (2 - (lg_sl ([.ref (b + r0), .int i1])).length) Slot.unset).toArray = ls at hl ⊢
  have hl : lv_has ls 2 [(0, .ref (b + r0)), (1, .int i1)] := hl
  unfold C_JL_rows at h
  refine lv_iload_n hx hb d_JL_rows_0 rfl (lv_at hl 1 rfl) ?_
  refine lv_aload_n hx hb d_JL_rows_1 rfl (lv_at hl 0 rfl) ?_
  obtain ⟨g1, h⟩ := of_g h
  refine g_get (C := "JoinedLeaves") (T := T_JL) (N := 5) (ref := "JoinedLeaves") (v := .int (mI μ r0 1)) hx hb hts jF_JL hown hK hM g1 (by decide) rfl 1 (by decide) (hts _ jm_2_11) (fun _ h9 => h9) (by decide) rfl d_JL_rows_2 ?_
  obtain ⟨q2, hq2, h⟩ := of_b h
  refine g_calli (va_runS (As := [.int i1, .int (mI μ r0 1)]) (rest := []) ⟨hx, hb, hml, hown, hts⟩ (S_JL_isBelow l D b cs i1 (mI μ r0 1) μ q2 n hq2) ⟨callB_of 2 hts (goodIn_g jm_2_31) rfl rfl rfl (hts _ jm_0_1) (hts _ jm_2_29) (by decide +kernel) ⟨Nat.le_of_ble_eq_true rfl, Nat.le_of_ble_eq_true rfl⟩, (hts _ jm_2_30)⟩ (Wd.preS hK hM) rfl rfl hl.1 rfl (lv_room (Nat.le_of_ble_eq_true rfl)) d_JL_rows_5 ⟨Nat.le_of_ble_eq_true rfl, Nat.le_of_ble_eq_true rfl⟩) hM (fun H locs hM => ?_)
  refine lv_if_eq (tgt := 23) hx hb d_JL_rows_8 (by decide) (fun hc => ?_) (fun hc => ?_)
  · replace h := of_t hc h
    refine lv_iconst (v := (-1)) hx hb d_JL_rows_23 (by decide) ?_
    exact g_iret hx hb hr hlocks hM (Option.some.inj h) d_JL_rows_24
  · replace h := of_f hc h
    refine lv_aload_n hx hb d_JL_rows_11 rfl (lv_at hl 0 rfl) ?_
    obtain ⟨g3, h⟩ := of_g h
    obtain ⟨g4, h⟩ := of_g h
    refine g_get (C := "JoinedLeaves") (T := T_JL) (N := 5) (ref := "JoinedLeaves") (v := .ref (b + (mR q2.2 r0 0))) hx hb hts jF_JL hown hK hM g3 (by decide) rfl 0 (by decide) (hts _ jm_2_10) (fun _ h9 => h9) (by decide) (rv_of (ok_0 g4)) d_JL_rows_12 ?_
    refine lv_iload_n hx hb d_JL_rows_15 rfl (lv_at hl 1 rfl) ?_
    obtain ⟨g5, h⟩ := of_g h
    obtain ⟨g6, h⟩ := of_g h
    refine g_aald (ty := (.object "JoinedLeaves$Relation")) hx hb hK hM 0 rfl rfl g4 g5 (ok_0 g6) d_JL_rows_16 ?_
    refine g_getN (C := "JoinedLeaves$Relation") (T := T_RE) (N := 3) (ref := "JoinedLeaves$Relation") (v := .int (mI q2.2 (mR q2.2 (mR q2.2 r0 0) (Int32.toNatClampNeg i1)) 2)) hx hb hts jF_RE hown hK hM g6 (by decide) rfl 2 (by decide) (hK.nest _ jn_4 rfl) (fun _ h9 => h9) (by decide) rfl d_JL_rows_17 ?_
    refine lv_goto (tgt := 24) hx hb d_JL_rows_20 (by decide) ?_
    exact g_iret hx hb hr hlocks hM (Option.some.inj h) d_JL_rows_24
abbrev w_JL_atom : List Cond := .code y_JL_atom b_JL_atom 5 (Option.some Jvm.ClassFile.FieldType.int) :: jW
def C_JL_atom (n : Nat) (r0 : Nat) (i1 : Int32) (i2 : Int32) (i3 : Int32) (i4 : Int32) (μ : Mem) : Option (Int32 × Mem) :=
  if ok μ r0 5 = true then Option.bind (C_JL_isBelow n i1 (mI μ r0 1) μ) (fun q2 => if q2.1 = 0 then some ((-1), q2.2) else if ok q2.2 r0 5 = true then if ok q2.2 (mR q2.2 r0 2) 2 = true then if ok q2.2 (mR q2.2 r0 0) 102 = true then if ib i1 (mZ q2.2 (mR q2.2 r0 0)) = true then if ok q2.2 (mR q2.2 (mR q2.2 r0 0) (Int32.toNatClampNeg i1)) 0 = true then Option.bind (C_QU_putAtom n (mR q2.2 r0 2) (mR q2.2 (mR q2.2 r0 0) (Int32.toNatClampNeg i1)) i2 i3 i4 q2.2) (fun q8 => if q8.1 = 0 then some ((-1), q8.2) else if ok q8.2 r0 5 = true then if ok q8.2 (mR q8.2 r0 3) 3 = true then Option.bind (C_HA_hangAtoms n (mR q8.2 r0 3) q8.2) (fun q11 => if ok q11 r0 5 = true then if ok q11 (mR q11 r0 2) 2 = true then some ((mI q11 (mR q11 r0 2) 1) - 1, q11) else none else none) else none else none) else none else none else none else none else none) else none
set_option maxHeartbeats 4000000 in
set_option maxRecDepth 100000 in
theorem S_JL_atom (l : Launch) (D : va_G) (b : Nat) (cs : Nat → ClassId) (r0 : Nat) (i1 : Int32) (i2 : Int32) (i3 : Int32) (i4 : Int32) (μ : Mem) (res : Int32 × Mem) (n : Nat) (h : C_JL_atom n r0 i1 i2 i3 i4 μ = some res) : MetI l y_JL_atom w_JL_atom 5 111 b cs D μ [.ref (b + r0), .int i1, .int i2, .int i3, .int i4] res := by
  refine Met.ofW (cc := b_JL_atom) (maxL := 5) (ret := (Option.some Jvm.ClassFile.FieldType.int)) (by decide) rfl ?_
  intro p e s m args below meth c s₁ B hml hv
  obtain ⟨rfl, hK, hM⟩ := Wd.start hv
  have hx := B.exec
  have hb := B.bytes
  have hr := B.returns
  have hts : ∀ w ∈ jW, w.before _ s = true := fun w hw => atoms_spec (ws := w_JL_atom) B.pre w (List.mem_cons_of_mem _ hw)
  have hown : s.vm.findClass "JoinedLeaves" = some m.cls := findClass_of_methodNamed B.named
  have hlocks := B.notSynchronized
  have hl := lv_entry ([.ref (b + r0), .int i1, .int i2, .int i3, .int i4]) (n := 5) (Nat.le_of_ble_eq_true rfl)
  rw [lg_entry_eq]
  generalize (lg_sl ([.ref (b + r0), .int i1, .int i2, .int i3, .int i4]) ++ List.replicate (5 - (lg_sl ([.ref (b + r0), .int i1, .int i2, .int i3, .int i4])).length) Slot.unset).toArray = ls at hl ⊢
  have hl : lv_has ls 5 [(0, .ref (b + r0)), (1, .int i1), (2, .int i2), (3, .int i3), (4, .int i4)] := hl
  unfold C_JL_atom at h
  refine lv_iload_n hx hb d_JL_atom_0 rfl (lv_at hl 1 rfl) ?_
  refine lv_aload_n hx hb d_JL_atom_1 rfl (lv_at hl 0 rfl) ?_
  obtain ⟨g1, h⟩ := of_g h
  refine g_get (C := "JoinedLeaves") (T := T_JL) (N := 5) (ref := "JoinedLeaves") (v := .int (mI μ r0 1)) hx hb hts jF_JL hown hK hM g1 (by decide) rfl 1 (by decide) (hts _ jm_2_11) (fun _ h9 => h9) (by decide) rfl d_JL_atom_2 ?_
  obtain ⟨q2, hq2, h⟩ := of_b h
  refine g_calli (va_runS (As := [.int i1, .int (mI μ r0 1)]) (rest := []) ⟨hx, hb, hml, hown, hts⟩ (S_JL_isBelow l D b cs i1 (mI μ r0 1) μ q2 n hq2) ⟨callB_of 2 hts (goodIn_g jm_2_31) rfl rfl rfl (hts _ jm_0_1) (hts _ jm_2_29) (by decide +kernel) ⟨Nat.le_of_ble_eq_true rfl, Nat.le_of_ble_eq_true rfl⟩, (hts _ jm_2_30)⟩ (Wd.preS hK hM) rfl rfl hl.1 rfl (lv_room (Nat.le_of_ble_eq_true rfl)) d_JL_atom_5 ⟨Nat.le_of_ble_eq_true rfl, Nat.le_of_ble_eq_true rfl⟩) hM (fun H locs hM => ?_)
  refine lv_if_eq (tgt := 31) hx hb d_JL_atom_8 (by decide) (fun hc => ?_) (fun hc => ?_)
  · replace h := of_t hc h
    refine lv_iconst (v := (-1)) hx hb d_JL_atom_31 (by decide) ?_
    exact g_iret hx hb hr hlocks hM (Option.some.inj h) d_JL_atom_32
  · replace h := of_f hc h
    refine lv_aload_n hx hb d_JL_atom_11 rfl (lv_at hl 0 rfl) ?_
    obtain ⟨g3, h⟩ := of_g h
    obtain ⟨g4, h⟩ := of_g h
    refine g_get (C := "JoinedLeaves") (T := T_JL) (N := 5) (ref := "JoinedLeaves") (v := .ref (b + (mR q2.2 r0 2))) hx hb hts jF_JL hown hK hM g3 (by decide) rfl 2 (by decide) (hts _ jm_2_12) (fun _ h9 => h9) (by decide) (rv_of (ok_0 g4)) d_JL_atom_12 ?_
    refine lv_aload_n hx hb d_JL_atom_15 rfl (lv_at hl 0 rfl) ?_
    obtain ⟨g5, h⟩ := of_g h
    refine g_get (C := "JoinedLeaves") (T := T_JL) (N := 5) (ref := "JoinedLeaves") (v := .ref (b + (mR q2.2 r0 0))) hx hb hts jF_JL hown hK hM g3 (by decide) rfl 0 (by decide) (hts _ jm_2_10) (fun _ h9 => h9) (by decide) (rv_of (ok_0 g5)) d_JL_atom_16 ?_
    refine lv_iload_n hx hb d_JL_atom_19 rfl (lv_at hl 1 rfl) ?_
    obtain ⟨g6, h⟩ := of_g h
    obtain ⟨g7, h⟩ := of_g h
    refine g_aald (ty := (.object "JoinedLeaves$Relation")) hx hb hK hM 0 rfl rfl g5 g6 (ok_0 g7) d_JL_atom_20 ?_
    refine lv_iload_n hx hb d_JL_atom_21 rfl (lv_at hl 2 rfl) ?_
    refine lv_iload_n hx hb d_JL_atom_22 rfl (lv_at hl 3 rfl) ?_
    refine lv_iload hx hb d_JL_atom_23 (lv_at hl 4 rfl) ?_
    obtain ⟨q8, hq8, h⟩ := of_b h
    refine g_calli (va_runVN (As := [.ref (b + (mR q2.2 (mR q2.2 r0 0) (Int32.toNatClampNeg i1))), .int i2, .int i3, .int i4]) (rest := []) ⟨hx, hb, hml, hown, hts⟩ (S_QU_putAtom l D b cs (mR q2.2 r0 2) (mR q2.2 (mR q2.2 r0 0) (Int32.toNatClampNeg i1)) i2 i3 i4 q2.2 q8 n hq8) ⟨va_cnB 4 hts (goodIn_g jm_3_7) rfl rfl rfl (hK.2.1 _ jn_30) (hts _ jm_0_3) (by decide +kernel) ⟨Nat.le_of_ble_eq_true rfl, Nat.le_of_ble_eq_true rfl⟩, (hts _ jm_3_6), (hts _ jm_11_24)⟩ (Wd.preV hK hM g4 rfl (by decide)) rfl rfl hl.1 rfl (lv_room (Nat.le_of_ble_eq_true rfl)) d_JL_atom_25 ⟨Nat.le_of_ble_eq_true rfl, Nat.le_of_ble_eq_true rfl⟩) hM (fun H locs hM => ?_)
    refine lv_if_ne (tgt := 33) hx hb d_JL_atom_28 (by decide) (fun hc => ?_) (fun hc => ?_)
    · replace h := of_f hc h
      refine lv_aload_n hx hb d_JL_atom_33 rfl (lv_at hl 0 rfl) ?_
      obtain ⟨g9, h⟩ := of_g h
      obtain ⟨g10, h⟩ := of_g h
      refine g_get (C := "JoinedLeaves") (T := T_JL) (N := 5) (ref := "JoinedLeaves") (v := .ref (b + (mR q8.2 r0 3))) hx hb hts jF_JL hown hK hM g9 (by decide) rfl 3 (by decide) (hts _ jm_2_13) (fun _ h9 => h9) (by decide) (rv_of (ok_0 g10)) d_JL_atom_34 ?_
      obtain ⟨q11, hq11, h⟩ := of_b h
      refine g_callv (va_runVN (As := []) (rest := []) ⟨hx, hb, hml, hown, hts⟩ (S_HA_hangAtoms l D b cs (mR q8.2 r0 3) q8.2 q11 n hq11) ⟨va_cnB 0 hts (goodIn_g jm_3_11) rfl rfl rfl (hK.2.1 _ jn_33) (hts _ jm_0_5) (by decide +kernel) ⟨Nat.le_of_ble_eq_true rfl, Nat.le_of_ble_eq_true rfl⟩, (hts _ jm_3_10), (hts _ jm_11_26)⟩ (Wd.preV hK hM g10 rfl (by decide)) rfl rfl hl.1 rfl (lv_room (Nat.le_of_ble_eq_true rfl)) d_JL_atom_37 ⟨Nat.le_of_ble_eq_true rfl, Nat.le_of_ble_eq_true rfl⟩) hM (fun H locs hM => ?_)
      refine lv_aload_n hx hb d_JL_atom_40 rfl (lv_at hl 0 rfl) ?_
      obtain ⟨g12, h⟩ := of_g h
      obtain ⟨g13, h⟩ := of_g h
      refine g_get (C := "JoinedLeaves") (T := T_JL) (N := 5) (ref := "JoinedLeaves") (v := .ref (b + (mR q11 r0 2))) hx hb hts jF_JL hown hK hM g12 (by decide) rfl 2 (by decide) (hts _ jm_2_12) (fun _ h9 => h9) (by decide) (rv_of (ok_0 g13)) d_JL_atom_41 ?_
      refine g_getN (C := "JoinedLeaves$Question") (T := T_QU) (N := 5) (ref := "JoinedLeaves$Question") (v := .int (mI q11 (mR q11 r0 2) 1)) hx hb hts jF_QU hown hK hM g13 (by decide) rfl 1 (by decide) (hK.nest _ jn_15 rfl) (fun _ h9 => h9) (by decide) rfl d_JL_atom_44 ?_
      refine lv_iconst (v := 1) hx hb d_JL_atom_47 (by decide) ?_
      refine lv_isub hx hb d_JL_atom_48 ?_
      exact g_iret hx hb hr hlocks hM (Option.some.inj h) d_JL_atom_49
    · replace h := of_t hc h
      refine lv_iconst (v := (-1)) hx hb d_JL_atom_31 (by decide) ?_
      exact g_iret hx hb hr hlocks hM (Option.some.inj h) d_JL_atom_32
abbrev w_JL_head : List Cond := .code y_JL_head b_JL_head 2 (Option.some Jvm.ClassFile.FieldType.int) :: jW
def C_JL_head (n : Nat) (r0 : Nat) (i1 : Int32) (μ : Mem) : Option (Int32 × Mem) :=
  if ok μ r0 5 = true then if ok μ (mR μ r0 2) 2 = true then Option.bind (C_QU_putInHead n (mR μ r0 2) i1 μ) (fun q3 => if q3.1 = 0 then some ((-1), q3.2) else if ok q3.2 r0 5 = true then if ok q3.2 (mR q3.2 r0 2) 2 = true then some ((mI q3.2 (mR q3.2 r0 2) 3) - 1, q3.2) else none else none) else none else none
set_option maxHeartbeats 4000000 in
set_option maxRecDepth 100000 in
theorem S_JL_head (l : Launch) (D : va_G) (b : Nat) (cs : Nat → ClassId) (r0 : Nat) (i1 : Int32) (μ : Mem) (res : Int32 × Mem) (n : Nat) (h : C_JL_head n r0 i1 μ = some res) : MetI l y_JL_head w_JL_head 2 42 b cs D μ [.ref (b + r0), .int i1] res := by
  refine Met.ofW (cc := b_JL_head) (maxL := 2) (ret := (Option.some Jvm.ClassFile.FieldType.int)) (by decide) rfl ?_
  intro p e s m args below meth c s₁ B hml hv
  obtain ⟨rfl, hK, hM⟩ := Wd.start hv
  have hx := B.exec
  have hb := B.bytes
  have hr := B.returns
  have hts : ∀ w ∈ jW, w.before _ s = true := fun w hw => atoms_spec (ws := w_JL_head) B.pre w (List.mem_cons_of_mem _ hw)
  have hown : s.vm.findClass "JoinedLeaves" = some m.cls := findClass_of_methodNamed B.named
  have hlocks := B.notSynchronized
  have hl := lv_entry ([.ref (b + r0), .int i1]) (n := 2) (Nat.le_of_ble_eq_true rfl)
  rw [lg_entry_eq]
  generalize (lg_sl ([.ref (b + r0), .int i1]) ++ List.replicate (2 - (lg_sl ([.ref (b + r0), .int i1])).length) Slot.unset).toArray = ls at hl ⊢
  have hl : lv_has ls 2 [(0, .ref (b + r0)), (1, .int i1)] := hl
  unfold C_JL_head at h
  refine lv_aload_n hx hb d_JL_head_0 rfl (lv_at hl 0 rfl) ?_
  obtain ⟨g1, h⟩ := of_g h
  obtain ⟨g2, h⟩ := of_g h
  refine g_get (C := "JoinedLeaves") (T := T_JL) (N := 5) (ref := "JoinedLeaves") (v := .ref (b + (mR μ r0 2))) hx hb hts jF_JL hown hK hM g1 (by decide) rfl 2 (by decide) (hts _ jm_2_12) (fun _ h9 => h9) (by decide) (rv_of (ok_0 g2)) d_JL_head_1 ?_
  refine lv_iload_n hx hb d_JL_head_4 rfl (lv_at hl 1 rfl) ?_
  obtain ⟨q3, hq3, h⟩ := of_b h
  refine g_calli (va_runVN (As := [.int i1]) (rest := []) ⟨hx, hb, hml, hown, hts⟩ (S_QU_putInHead l D b cs (mR μ r0 2) i1 μ q3 n hq3) ⟨va_cnB 1 hts (goodIn_g jm_3_28) rfl rfl rfl (hK.2.1 _ jn_35) (hts _ jm_0_3) (by decide +kernel) ⟨Nat.le_of_ble_eq_true rfl, Nat.le_of_ble_eq_true rfl⟩, (hts _ jm_3_27), (hts _ jm_11_30)⟩ (Wd.preV hK hM g2 rfl (by decide)) rfl rfl hl.1 rfl (lv_room (Nat.le_of_ble_eq_true rfl)) d_JL_head_5 ⟨Nat.le_of_ble_eq_true rfl, Nat.le_of_ble_eq_true rfl⟩) hM (fun H locs hM => ?_)
  refine lv_if_eq (tgt := 23) hx hb d_JL_head_8 (by decide) (fun hc => ?_) (fun hc => ?_)
  · replace h := of_t hc h
    refine lv_iconst (v := (-1)) hx hb d_JL_head_23 (by decide) ?_
    exact g_iret hx hb hr hlocks hM (Option.some.inj h) d_JL_head_24
  · replace h := of_f hc h
    refine lv_aload_n hx hb d_JL_head_11 rfl (lv_at hl 0 rfl) ?_
    obtain ⟨g4, h⟩ := of_g h
    obtain ⟨g5, h⟩ := of_g h
    refine g_get (C := "JoinedLeaves") (T := T_JL) (N := 5) (ref := "JoinedLeaves") (v := .ref (b + (mR q3.2 r0 2))) hx hb hts jF_JL hown hK hM g4 (by decide) rfl 2 (by decide) (hts _ jm_2_12) (fun _ h9 => h9) (by decide) (rv_of (ok_0 g5)) d_JL_head_12 ?_
    refine g_getN (C := "JoinedLeaves$Question") (T := T_QU) (N := 5) (ref := "JoinedLeaves$Question") (v := .int (mI q3.2 (mR q3.2 r0 2) 3)) hx hb hts jF_QU hown hK hM g5 (by decide) rfl 3 (by decide) (hK.nest _ jn_18 rfl) (fun _ h9 => h9) (by decide) rfl d_JL_head_15 ?_
    refine lv_iconst (v := 1) hx hb d_JL_head_18 (by decide) ?_
    refine lv_isub hx hb d_JL_head_19 ?_
    refine lv_goto (tgt := 24) hx hb d_JL_head_20 (by decide) ?_
    exact g_iret hx hb hr hlocks hM (Option.some.inj h) d_JL_head_24
abbrev w_JL_clear : List Cond := .code y_JL_clear b_JL_clear 2 (Option.some Jvm.ClassFile.FieldType.int) :: jW
def C_JL_clear (n : Nat) (r0 : Nat) (μ : Mem) : Option (Int32 × Mem) :=
  if ok μ r0 5 = true then if ok μ (mR μ r0 2) 2 = true then Option.bind (some (mI μ (mR μ r0 2) 1)) (fun v3 => Option.bind (C_QU_empty n (mR μ r0 2) μ) (fun q4 => if ok q4 r0 5 = true then if ok q4 (mR q4 r0 3) 3 = true then Option.bind (C_HA_hangAtoms n (mR q4 r0 3) q4) (fun q7 => some (v3, q7)) else none else none)) else none else none
set_option maxHeartbeats 4000000 in
set_option maxRecDepth 100000 in
theorem S_JL_clear (l : Launch) (D : va_G) (b : Nat) (cs : Nat → ClassId) (r0 : Nat) (μ : Mem) (res : Int32 × Mem) (n : Nat) (h : C_JL_clear n r0 μ = some res) : MetI l y_JL_clear w_JL_clear 5 111 b cs D μ [.ref (b + r0)] res := by
  refine Met.ofW (cc := b_JL_clear) (maxL := 2) (ret := (Option.some Jvm.ClassFile.FieldType.int)) (by decide) rfl ?_
  intro p e s m args below meth c s₁ B hml hv
  obtain ⟨rfl, hK, hM⟩ := Wd.start hv
  have hx := B.exec
  have hb := B.bytes
  have hr := B.returns
  have hts : ∀ w ∈ jW, w.before _ s = true := fun w hw => atoms_spec (ws := w_JL_clear) B.pre w (List.mem_cons_of_mem _ hw)
  have hown : s.vm.findClass "JoinedLeaves" = some m.cls := findClass_of_methodNamed B.named
  have hlocks := B.notSynchronized
  have hl := lv_entry ([.ref (b + r0)]) (n := 2) (Nat.le_of_ble_eq_true rfl)
  rw [lg_entry_eq]
  generalize (lg_sl ([.ref (b + r0)]) ++ List.replicate (2 - (lg_sl ([.ref (b + r0)])).length) Slot.unset).toArray = ls at hl ⊢
  have hl : lv_has ls 2 [(0, .ref (b + r0))] := hl
  unfold C_JL_clear at h
  refine lv_aload_n hx hb d_JL_clear_0 rfl (lv_at hl 0 rfl) ?_
  obtain ⟨g1, h⟩ := of_g h
  obtain ⟨g2, h⟩ := of_g h
  refine g_get (C := "JoinedLeaves") (T := T_JL) (N := 5) (ref := "JoinedLeaves") (v := .ref (b + (mR μ r0 2))) hx hb hts jF_JL hown hK hM g1 (by decide) rfl 2 (by decide) (hts _ jm_2_12) (fun _ h9 => h9) (by decide) (rv_of (ok_0 g2)) d_JL_clear_1 ?_
  refine g_getN (C := "JoinedLeaves$Question") (T := T_QU) (N := 5) (ref := "JoinedLeaves$Question") (v := .int (mI μ (mR μ r0 2) 1)) hx hb hts jF_QU hown hK hM g2 (by decide) rfl 1 (by decide) (hK.nest _ jn_15 rfl) (fun _ h9 => h9) (by decide) rfl d_JL_clear_4 ?_
  obtain ⟨v3, e_v3, h⟩ := of_b h
  refine top_i (Option.some.inj e_v3) ?_
  refine lv_istore_n hx hb d_JL_clear_7 rfl hl (by decide) rfl (fun ls hl => ?_)
  have hl : lv_has ls 2 [(1, .int v3), (0, .ref (b + r0))] := hl
  refine lv_aload_n hx hb d_JL_clear_8 rfl (lv_at hl 1 rfl) ?_
  refine g_get (C := "JoinedLeaves") (T := T_JL) (N := 5) (ref := "JoinedLeaves") (v := .ref (b + (mR μ r0 2))) hx hb hts jF_JL hown hK hM g1 (by decide) rfl 2 (by decide) (hts _ jm_2_12) (fun _ h9 => h9) (by decide) (rv_of (ok_0 g2)) d_JL_clear_9 ?_
  obtain ⟨q4, hq4, h⟩ := of_b h
  refine g_callv (va_runVN (As := []) (rest := []) ⟨hx, hb, hml, hown, hts⟩ (S_QU_empty l D b cs (mR μ r0 2) μ q4 n hq4) ⟨va_cnB 0 hts (goodIn_g jm_3_34) rfl rfl rfl (hK.2.1 _ jn_38) (hts _ jm_0_3) (by decide +kernel) ⟨Nat.le_of_ble_eq_true rfl, Nat.le_of_ble_eq_true rfl⟩, (hts _ jm_3_33), (hts _ jm_11_31)⟩ (Wd.preV hK hM g2 rfl (by decide)) rfl rfl hl.1 rfl (lv_room (Nat.le_of_ble_eq_true rfl)) d_JL_clear_12 ⟨Nat.le_of_ble_eq_true rfl, Nat.le_of_ble_eq_true rfl⟩) hM (fun H locs hM => ?_)
  refine lv_aload_n hx hb d_JL_clear_15 rfl (lv_at hl 1 rfl) ?_
  obtain ⟨g5, h⟩ := of_g h
  obtain ⟨g6, h⟩ := of_g h
  refine g_get (C := "JoinedLeaves") (T := T_JL) (N := 5) (ref := "JoinedLeaves") (v := .ref (b + (mR q4 r0 3))) hx hb hts jF_JL hown hK hM g5 (by decide) rfl 3 (by decide) (hts _ jm_2_13) (fun _ h9 => h9) (by decide) (rv_of (ok_0 g6)) d_JL_clear_16 ?_
  obtain ⟨q7, hq7, h⟩ := of_b h
  refine g_callv (va_runVN (As := []) (rest := []) ⟨hx, hb, hml, hown, hts⟩ (S_HA_hangAtoms l D b cs (mR q4 r0 3) q4 q7 n hq7) ⟨va_cnB 0 hts (goodIn_g jm_3_11) rfl rfl rfl (hK.2.1 _ jn_33) (hts _ jm_0_5) (by decide +kernel) ⟨Nat.le_of_ble_eq_true rfl, Nat.le_of_ble_eq_true rfl⟩, (hts _ jm_3_10), (hts _ jm_11_26)⟩ (Wd.preV hK hM g6 rfl (by decide)) rfl rfl hl.1 rfl (lv_room (Nat.le_of_ble_eq_true rfl)) d_JL_clear_19 ⟨Nat.le_of_ble_eq_true rfl, Nat.le_of_ble_eq_true rfl⟩) hM (fun H locs hM => ?_)
  refine lv_iload_n hx hb d_JL_clear_22 rfl (lv_at hl 0 rfl) ?_
  exact g_iret hx hb hr hlocks hM (Option.some.inj h) d_JL_clear_23
abbrev w_JL_tree : List Cond := .code y_JL_tree b_JL_tree 1 (Option.some Jvm.ClassFile.FieldType.boolean) :: jW
def C_JL_tree (n : Nat) (r0 : Nat) (μ : Mem) : Option (Int32 × Mem) :=
  if ok μ r0 5 = true then if ok μ (mR μ r0 3) 3 = true then Option.bind (C_HA_isTree n (mR μ r0 3) μ) (fun q3 => if (q3.1 = 0 ∨ q3.1 = 1) then some (q3.1, q3.2) else none) else none else none
set_option maxHeartbeats 4000000 in
set_option maxRecDepth 100000 in
theorem S_JL_tree (l : Launch) (D : va_G) (b : Nat) (cs : Nat → ClassId) (r0 : Nat) (μ : Mem) (res : Int32 × Mem) (n : Nat) (h : C_JL_tree n r0 μ = some res) : MetI l y_JL_tree w_JL_tree 1 20 b cs D μ [.ref (b + r0)] res := by
  refine Met.ofW (cc := b_JL_tree) (maxL := 1) (ret := (Option.some Jvm.ClassFile.FieldType.boolean)) (by decide) rfl ?_
  intro p e s m args below meth c s₁ B hml hv
  obtain ⟨rfl, hK, hM⟩ := Wd.start hv
  have hx := B.exec
  have hb := B.bytes
  have hr := B.returns
  have hts : ∀ w ∈ jW, w.before _ s = true := fun w hw => atoms_spec (ws := w_JL_tree) B.pre w (List.mem_cons_of_mem _ hw)
  have hown : s.vm.findClass "JoinedLeaves" = some m.cls := findClass_of_methodNamed B.named
  have hlocks := B.notSynchronized
  have hl := lv_entry ([.ref (b + r0)]) (n := 1) (Nat.le_of_ble_eq_true rfl)
  rw [lg_entry_eq]
  generalize (lg_sl ([.ref (b + r0)]) ++ List.replicate (1 - (lg_sl ([.ref (b + r0)])).length) Slot.unset).toArray = ls at hl ⊢
  have hl : lv_has ls 1 [(0, .ref (b + r0))] := hl
  unfold C_JL_tree at h
  refine lv_aload_n hx hb d_JL_tree_0 rfl (lv_at hl 0 rfl) ?_
  obtain ⟨g1, h⟩ := of_g h
  obtain ⟨g2, h⟩ := of_g h
  refine g_get (C := "JoinedLeaves") (T := T_JL) (N := 5) (ref := "JoinedLeaves") (v := .ref (b + (mR μ r0 3))) hx hb hts jF_JL hown hK hM g1 (by decide) rfl 3 (by decide) (hts _ jm_2_13) (fun _ h9 => h9) (by decide) (rv_of (ok_0 g2)) d_JL_tree_1 ?_
  obtain ⟨q3, hq3, h⟩ := of_b h
  refine g_calli (va_runVN (As := []) (rest := []) ⟨hx, hb, hml, hown, hts⟩ (S_HA_isTree l D b cs (mR μ r0 3) μ q3 n hq3) ⟨va_cnB 0 hts (goodIn_g jm_3_40) rfl rfl rfl (hK.2.1 _ jn_39) (hts _ jm_0_5) (by decide +kernel) ⟨Nat.le_of_ble_eq_true rfl, Nat.le_of_ble_eq_true rfl⟩, (hts _ jm_3_39), (hts _ jm_11_32)⟩ (Wd.preV hK hM g2 rfl (by decide)) rfl rfl hl.1 rfl (lv_room (Nat.le_of_ble_eq_true rfl)) d_JL_tree_4 ⟨Nat.le_of_ble_eq_true rfl, Nat.le_of_ble_eq_true rfl⟩) hM (fun H locs hM => ?_)
  obtain ⟨hz, h⟩ := of_g h
  exact g_zret hx hb hr (nb_01 hz) hlocks hM (Option.some.inj h) d_JL_tree_7
abbrev w_JL_parent : List Cond := .code y_JL_parent b_JL_parent 2 (Option.some Jvm.ClassFile.FieldType.int) :: jW
def C_JL_parent (n : Nat) (r0 : Nat) (i1 : Int32) (μ : Mem) : Option (Int32 × Mem) :=
  if ok μ r0 5 = true then if ok μ (mR μ r0 2) 2 = true then Option.bind (C_JL_isBelow n i1 (mI μ (mR μ r0 2) 1) μ) (fun q3 => if q3.1 = 0 then some ((-1), q3.2) else if ok q3.2 r0 5 = true then if ok q3.2 (mR q3.2 r0 3) 3 = true then if ok q3.2 (mR q3.2 (mR q3.2 r0 3) 1) 100 = true then if ib i1 (mZ q3.2 (mR q3.2 (mR q3.2 r0 3) 1)) = true then some (mI q3.2 (mR q3.2 (mR q3.2 r0 3) 1) (Int32.toNatClampNeg i1), q3.2) else none else none else none else none) else none else none
set_option maxHeartbeats 4000000 in
set_option maxRecDepth 100000 in
theorem S_JL_parent (l : Launch) (D : va_G) (b : Nat) (cs : Nat → ClassId) (r0 : Nat) (i1 : Int32) (μ : Mem) (res : Int32 × Mem) (n : Nat) (h : C_JL_parent n r0 i1 μ = some res) : MetI l y_JL_parent w_JL_parent 1 21 b cs D μ [.ref (b + r0), .int i1] res := by
  refine Met.ofW (cc := b_JL_parent) (maxL := 2) (ret := (Option.some Jvm.ClassFile.FieldType.int)) (by decide) rfl ?_
  intro p e s m args below meth c s₁ B hml hv
  obtain ⟨rfl, hK, hM⟩ := Wd.start hv
  have hx := B.exec
  have hb := B.bytes
  have hr := B.returns
  have hts : ∀ w ∈ jW, w.before _ s = true := fun w hw => atoms_spec (ws := w_JL_parent) B.pre w (List.mem_cons_of_mem _ hw)
  have hown : s.vm.findClass "JoinedLeaves" = some m.cls := findClass_of_methodNamed B.named
  have hlocks := B.notSynchronized
  have hl := lv_entry ([.ref (b + r0), .int i1]) (n := 2) (Nat.le_of_ble_eq_true rfl)
  rw [lg_entry_eq]
  generalize (lg_sl ([.ref (b + r0), .int i1]) ++ List.replicate (2 - (lg_sl ([.ref (b + r0), .int i1])).length) Slot.unset).toArray = ls at hl ⊢
  have hl : lv_has ls 2 [(0, .ref (b + r0)), (1, .int i1)] := hl
  unfold C_JL_parent at h
  refine lv_iload_n hx hb d_JL_parent_0 rfl (lv_at hl 1 rfl) ?_
  refine lv_aload_n hx hb d_JL_parent_1 rfl (lv_at hl 0 rfl) ?_
  obtain ⟨g1, h⟩ := of_g h
  obtain ⟨g2, h⟩ := of_g h
  refine g_get (C := "JoinedLeaves") (T := T_JL) (N := 5) (ref := "JoinedLeaves") (v := .ref (b + (mR μ r0 2))) hx hb hts jF_JL hown hK hM g1 (by decide) rfl 2 (by decide) (hts _ jm_2_12) (fun _ h9 => h9) (by decide) (rv_of (ok_0 g2)) d_JL_parent_2 ?_
  refine g_getN (C := "JoinedLeaves$Question") (T := T_QU) (N := 5) (ref := "JoinedLeaves$Question") (v := .int (mI μ (mR μ r0 2) 1)) hx hb hts jF_QU hown hK hM g2 (by decide) rfl 1 (by decide) (hK.nest _ jn_15 rfl) (fun _ h9 => h9) (by decide) rfl d_JL_parent_5 ?_
  obtain ⟨q3, hq3, h⟩ := of_b h
  refine g_calli (va_runS (As := [.int i1, .int (mI μ (mR μ r0 2) 1)]) (rest := []) ⟨hx, hb, hml, hown, hts⟩ (S_JL_isBelow l D b cs i1 (mI μ (mR μ r0 2) 1) μ q3 n hq3) ⟨callB_of 2 hts (goodIn_g jm_2_31) rfl rfl rfl (hts _ jm_0_1) (hts _ jm_2_29) (by decide +kernel) ⟨Nat.le_of_ble_eq_true rfl, Nat.le_of_ble_eq_true rfl⟩, (hts _ jm_2_30)⟩ (Wd.preS hK hM) rfl rfl hl.1 rfl (lv_room (Nat.le_of_ble_eq_true rfl)) d_JL_parent_8 ⟨Nat.le_of_ble_eq_true rfl, Nat.le_of_ble_eq_true rfl⟩) hM (fun H locs hM => ?_)
  refine lv_if_eq (tgt := 26) hx hb d_JL_parent_11 (by decide) (fun hc => ?_) (fun hc => ?_)
  · replace h := of_t hc h
    refine lv_iconst (v := (-1)) hx hb d_JL_parent_26 (by decide) ?_
    exact g_iret hx hb hr hlocks hM (Option.some.inj h) d_JL_parent_27
  · replace h := of_f hc h
    refine lv_aload_n hx hb d_JL_parent_14 rfl (lv_at hl 0 rfl) ?_
    obtain ⟨g4, h⟩ := of_g h
    obtain ⟨g5, h⟩ := of_g h
    refine g_get (C := "JoinedLeaves") (T := T_JL) (N := 5) (ref := "JoinedLeaves") (v := .ref (b + (mR q3.2 r0 3))) hx hb hts jF_JL hown hK hM g4 (by decide) rfl 3 (by decide) (hts _ jm_2_13) (fun _ h9 => h9) (by decide) (rv_of (ok_0 g5)) d_JL_parent_15 ?_
    obtain ⟨g6, h⟩ := of_g h
    refine g_getN (C := "JoinedLeaves$Hanging") (T := T_HA) (N := 6) (ref := "JoinedLeaves$Hanging") (v := .ref (b + (mR q3.2 (mR q3.2 r0 3) 1))) hx hb hts jF_HA hown hK hM g5 (by decide) rfl 1 (by decide) (hK.nest _ jn_21 rfl) (fun _ h9 => h9) (by decide) (rv_of (ok_0 g6)) d_JL_parent_18 ?_
    refine lv_iload_n hx hb d_JL_parent_21 rfl (lv_at hl 1 rfl) ?_
    obtain ⟨g7, h⟩ := of_g h
    refine g_iald hx hb hK hM g6 g7 d_JL_parent_22 ?_
    refine lv_goto (tgt := 27) hx hb d_JL_parent_23 (by decide) ?_
    exact g_iret hx hb hr hlocks hM (Option.some.inj h) d_JL_parent_27
abbrev w_JL_turn : List Cond := .code y_JL_turn b_JL_turn 2 (Option.some Jvm.ClassFile.FieldType.int) :: jW
def C_JL_turn (n : Nat) (r0 : Nat) (i1 : Int32) (μ : Mem) : Option (Int32 × Mem) :=
  if ok μ r0 5 = true then if ok μ (mR μ r0 2) 2 = true then Option.bind (C_JL_isBelow n i1 (mI μ (mR μ r0 2) 1) μ) (fun q3 => if q3.1 = 0 then some ((-1), q3.2) else if ok q3.2 r0 5 = true then if ok q3.2 (mR q3.2 r0 3) 3 = true then if ok q3.2 (mR q3.2 (mR q3.2 r0 3) 2) 100 = true then if ib i1 (mZ q3.2 (mR q3.2 (mR q3.2 r0 3) 2)) = true then some (mI q3.2 (mR q3.2 (mR q3.2 r0 3) 2) (Int32.toNatClampNeg i1), q3.2) else none else none else none else none) else none else none
set_option maxHeartbeats 4000000 in
set_option maxRecDepth 100000 in
theorem S_JL_turn (l : Launch) (D : va_G) (b : Nat) (cs : Nat → ClassId) (r0 : Nat) (i1 : Int32) (μ : Mem) (res : Int32 × Mem) (n : Nat) (h : C_JL_turn n r0 i1 μ = some res) : MetI l y_JL_turn w_JL_turn 1 21 b cs D μ [.ref (b + r0), .int i1] res := by
  refine Met.ofW (cc := b_JL_turn) (maxL := 2) (ret := (Option.some Jvm.ClassFile.FieldType.int)) (by decide) rfl ?_
  intro p e s m args below meth c s₁ B hml hv
  obtain ⟨rfl, hK, hM⟩ := Wd.start hv
  have hx := B.exec
  have hb := B.bytes
  have hr := B.returns
  have hts : ∀ w ∈ jW, w.before _ s = true := fun w hw => atoms_spec (ws := w_JL_turn) B.pre w (List.mem_cons_of_mem _ hw)
  have hown : s.vm.findClass "JoinedLeaves" = some m.cls := findClass_of_methodNamed B.named
  have hlocks := B.notSynchronized
  have hl := lv_entry ([.ref (b + r0), .int i1]) (n := 2) (Nat.le_of_ble_eq_true rfl)
  rw [lg_entry_eq]
  generalize (lg_sl ([.ref (b + r0), .int i1]) ++ List.replicate (2 - (lg_sl ([.ref (b + r0), .int i1])).length) Slot.unset).toArray = ls at hl ⊢
  have hl : lv_has ls 2 [(0, .ref (b + r0)), (1, .int i1)] := hl
  unfold C_JL_turn at h
  refine lv_iload_n hx hb d_JL_turn_0 rfl (lv_at hl 1 rfl) ?_
  refine lv_aload_n hx hb d_JL_turn_1 rfl (lv_at hl 0 rfl) ?_
  obtain ⟨g1, h⟩ := of_g h
  obtain ⟨g2, h⟩ := of_g h
  refine g_get (C := "JoinedLeaves") (T := T_JL) (N := 5) (ref := "JoinedLeaves") (v := .ref (b + (mR μ r0 2))) hx hb hts jF_JL hown hK hM g1 (by decide) rfl 2 (by decide) (hts _ jm_2_12) (fun _ h9 => h9) (by decide) (rv_of (ok_0 g2)) d_JL_turn_2 ?_
  refine g_getN (C := "JoinedLeaves$Question") (T := T_QU) (N := 5) (ref := "JoinedLeaves$Question") (v := .int (mI μ (mR μ r0 2) 1)) hx hb hts jF_QU hown hK hM g2 (by decide) rfl 1 (by decide) (hK.nest _ jn_15 rfl) (fun _ h9 => h9) (by decide) rfl d_JL_turn_5 ?_
  obtain ⟨q3, hq3, h⟩ := of_b h
  refine g_calli (va_runS (As := [.int i1, .int (mI μ (mR μ r0 2) 1)]) (rest := []) ⟨hx, hb, hml, hown, hts⟩ (S_JL_isBelow l D b cs i1 (mI μ (mR μ r0 2) 1) μ q3 n hq3) ⟨callB_of 2 hts (goodIn_g jm_2_31) rfl rfl rfl (hts _ jm_0_1) (hts _ jm_2_29) (by decide +kernel) ⟨Nat.le_of_ble_eq_true rfl, Nat.le_of_ble_eq_true rfl⟩, (hts _ jm_2_30)⟩ (Wd.preS hK hM) rfl rfl hl.1 rfl (lv_room (Nat.le_of_ble_eq_true rfl)) d_JL_turn_8 ⟨Nat.le_of_ble_eq_true rfl, Nat.le_of_ble_eq_true rfl⟩) hM (fun H locs hM => ?_)
  refine lv_if_eq (tgt := 26) hx hb d_JL_turn_11 (by decide) (fun hc => ?_) (fun hc => ?_)
  · replace h := of_t hc h
    refine lv_iconst (v := (-1)) hx hb d_JL_turn_26 (by decide) ?_
    exact g_iret hx hb hr hlocks hM (Option.some.inj h) d_JL_turn_27
  · replace h := of_f hc h
    refine lv_aload_n hx hb d_JL_turn_14 rfl (lv_at hl 0 rfl) ?_
    obtain ⟨g4, h⟩ := of_g h
    obtain ⟨g5, h⟩ := of_g h
    refine g_get (C := "JoinedLeaves") (T := T_JL) (N := 5) (ref := "JoinedLeaves") (v := .ref (b + (mR q3.2 r0 3))) hx hb hts jF_JL hown hK hM g4 (by decide) rfl 3 (by decide) (hts _ jm_2_13) (fun _ h9 => h9) (by decide) (rv_of (ok_0 g5)) d_JL_turn_15 ?_
    obtain ⟨g6, h⟩ := of_g h
    refine g_getN (C := "JoinedLeaves$Hanging") (T := T_HA) (N := 6) (ref := "JoinedLeaves$Hanging") (v := .ref (b + (mR q3.2 (mR q3.2 r0 3) 2))) hx hb hts jF_HA hown hK hM g5 (by decide) rfl 2 (by decide) (hK.nest _ jn_22 rfl) (fun _ h9 => h9) (by decide) (rv_of (ok_0 g6)) d_JL_turn_18 ?_
    refine lv_iload_n hx hb d_JL_turn_21 rfl (lv_at hl 1 rfl) ?_
    obtain ⟨g7, h⟩ := of_g h
    refine g_iald hx hb hK hM g6 g7 d_JL_turn_22 ?_
    refine lv_goto (tgt := 27) hx hb d_JL_turn_23 (by decide) ?_
    exact g_iret hx hb hr hlocks hM (Option.some.inj h) d_JL_turn_27
