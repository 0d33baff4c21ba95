/-! By program (wip/whole/gen.py): for each method its function over memories, and its contract. -/
abbrev w_JO_init : List Cond := .code y_JO_init b_JO_init 3 (Option.none : Option Jvm.ClassFile.FieldType) :: jW
def C_JO_init (n : Nat) (r0 : Nat) (r1 : Nat) (r2 : Nat) (μ : Mem) : Option Mem :=
  Option.bind (some (alM μ 104 100 6 12)) (fun μ1 => if ok μ1 r0 4 = true then if ok μ1 (mN μ + 1) 104 = true then Option.bind (some (sR μ1 r0 2 (mN μ + 1))) (fun μ5 => Option.bind (some (alM μ5 104 100 5 6)) (fun μ7 => if ok μ7 r0 4 = true then if ok μ7 (mN μ5 + 1) 104 = true then Option.bind (some (sR μ7 r0 3 (mN μ5 + 1))) (fun μ11 => Option.bind (some (alM μ11 105 101 6 12)) (fun μ13 => if ok μ13 r0 4 = true then if ok μ13 (mN μ11 + 1) 105 = true then Option.bind (some (sR μ13 r0 4 (mN μ11 + 1))) (fun μ17 => Option.bind (some (al μ17 100 64)) (fun μ19 => if ok μ19 r0 4 = true then if ok μ19 (mN μ17 + 1) 100 = true then Option.bind (some (sR μ19 r0 5 (mN μ17 + 1))) (fun μ23 => if ok μ23 r0 4 = true then if ok μ23 r1 2 = true then Option.bind (some (sR μ23 r0 0 r1)) (fun μ27 => if ok μ27 r0 4 = true then if ok μ27 r2 3 = true then Option.bind (some (sR μ27 r0 1 r2)) (fun μ31 => some μ31) else none else none) else none else none) else none else none)) else none else none)) else none else none)) else none else none)
set_option maxHeartbeats 4000000 in
set_option maxRecDepth 100000 in
theorem S_JO_init (l : Launch) (D : va_G) (b : Nat) (cs : Nat → ClassId) (r0 : Nat) (r1 : Nat) (r2 : Nat) (μ : Mem) (res : Mem) (n : Nat) (h : C_JO_init n r0 r1 r2 μ = some res) : MetC l y_JO_init w_JO_init 1 21 255 12 b cs D μ [.ref (b + r0), .ref (b + r1), .ref (b + r2)] res := by
  refine Met.ofW (cc := b_JO_init) (maxL := 3) (ret := (Option.none : Option Jvm.ClassFile.FieldType)) (by decide) rfl ?_
  intro p e s m args below meth c s₁ B hml hv
  obtain ⟨rfl, hsz, hK, hM⟩ := Wd.startC hv
  have hx := B.exec
  have hb := B.bytes
  have hr := B.returns
  have hts : ∀ w ∈ jW, w.before _ s = true := fun w hw => atoms_spec (ws := w_JO_init) B.pre w (List.mem_cons_of_mem _ hw)
  have hown : s.vm.findClass "JoinedLeaves$Join" = some m.cls := findClass_of_methodNamed B.named
  have hlocks := B.notSynchronized
  have hin : meth.name = "<init>" := (name_of_methodNamed B.named B.method).1
  have hN0 : mN μ = mN μ + 0 := rfl
  have hl := lv_entry ([.ref (b + r0), .ref (b + r1), .ref (b + r2)]) (n := 3) (Nat.le_of_ble_eq_true rfl)
  rw [lg_entry_eq]
  generalize (lg_sl ([.ref (b + r0), .ref (b + r1), .ref (b + r2)]) ++ List.replicate (3 - (lg_sl ([.ref (b + r0), .ref (b + r1), .ref (b + r2)])).length) Slot.unset).toArray = ls at hl ⊢
  have hl : lv_has ls 3 [(0, .ref (b + r0)), (1, .ref (b + r1)), (2, .ref (b + r2))] := hl
  unfold C_JO_init at h
  refine lv_aload_n hx hb d_JO_init_0 rfl (lv_at hl 0 rfl) ?_
  refine W.objInit hx hb hown (hts _ jm_1_39) (hts _ jm_0_22) (hts _ jm_0_23) rfl (by rw [hml]; exact hl.1) rfl d_JO_init_1 (Nat.le_of_ble_eq_true rfl) (Nat.le_of_ble_eq_true rfl) ?_
  refine W.eq (g2 := F0 m 4 ls []) rfl ?_
  refine lv_aload_n hx hb d_JO_init_4 rfl (lv_at hl 0 rfl) ?_
  refine lv_bipush (v := 6) hx hb d_JO_init_5 (by decide) ?_
  refine lv_bipush (v := 12) hx hb d_JO_init_7 (by decide) ?_
  obtain ⟨μ1, e_μ1, h⟩ := of_b h
  refine g_mnaI (N := 6) (K := 12) hx hb hown (hts _ jm_1_40) (hts _ jm_0_36) hK hM (cs_of hsz hN0) (by decide) (by decide) (by decide) (by decide) (by decide) (by decide) (Nat.le_of_ble_eq_true rfl) (Nat.le_of_ble_eq_true rfl) d_JO_init_9 (fun H hM => ?_)
  refine W.widen (k := 7) (n := 78) (by decide) (by decide) ?_
  rw [Option.some.inj e_μ1] at hM
  have hN2 : mN μ1 = mN μ + 7 := by rw [← Option.some.inj e_μ1]; exact congrArg (· + 7) hN0
  obtain ⟨g3, h⟩ := of_g h
  obtain ⟨g4, h⟩ := of_g h
  obtain ⟨μ5, e_μ5, h⟩ := of_b h
  refine g_putrF (v := mN μ + 1) (C := "JoinedLeaves$Join") (T := T_JO) (N := 7) (ref := "JoinedLeaves$Join") hx hb hts jF_JO t_JO o_JO n_JO hown hK hM g3 (by decide) rfl 2 (by decide) (hts _ jm_1_44) (fun _ h9 => h9) rfl hin rfl (ty := (.array (.array .int))) (by decide +kernel) rfl rfl (by decide) (fun _ => rfl) (ok_0 g4) d_JO_init_13 (fun H locs hM => ?_)
  rw [Option.some.inj e_μ5] at hM
  have hN6 : mN μ5 = mN μ + 7 := by rw [← Option.some.inj e_μ5]; exact hN2
  refine lv_aload_n hx hb d_JO_init_16 rfl (lv_at hl 0 rfl) ?_
  refine lv_iconst (v := 5) hx hb d_JO_init_17 (by decide) ?_
  refine lv_bipush (v := 6) hx hb d_JO_init_18 (by decide) ?_
  obtain ⟨μ7, e_μ7, h⟩ := of_b h
  refine g_mnaI (N := 5) (K := 6) hx hb hown (hts _ jm_1_40) (hts _ jm_0_36) hK hM (cs_of hsz hN6) (by decide) (by decide) (by decide) (by decide) (by decide) (by decide) (Nat.le_of_ble_eq_true rfl) (Nat.le_of_ble_eq_true rfl) d_JO_init_20 (fun H hM => ?_)
  refine W.widen (k := 13) (n := 113) (by decide) (by decide) ?_
  rw [Option.some.inj e_μ7] at hM
  have hN8 : mN μ7 = mN μ + 13 := by rw [← Option.some.inj e_μ7]; exact congrArg (· + 6) hN6
  obtain ⟨g9, h⟩ := of_g h
  obtain ⟨g10, h⟩ := of_g h
  obtain ⟨μ11, e_μ11, h⟩ := of_b h
  refine g_putrF (v := mN μ5 + 1) (C := "JoinedLeaves$Join") (T := T_JO) (N := 7) (ref := "JoinedLeaves$Join") hx hb hts jF_JO t_JO o_JO n_JO hown hK hM g9 (by decide) rfl 3 (by decide) (hts _ jm_1_45) (fun _ h9 => h9) rfl hin rfl (ty := (.array (.array .int))) (by decide +kernel) rfl rfl (by decide) (fun _ => rfl) (ok_0 g10) d_JO_init_24 (fun H locs hM => ?_)
  rw [Option.some.inj e_μ11] at hM
  have hN12 : mN μ11 = mN μ + 13 := by rw [← Option.some.inj e_μ11]; exact hN8
  refine lv_aload_n hx hb d_JO_init_27 rfl (lv_at hl 0 rfl) ?_
  refine lv_bipush (v := 6) hx hb d_JO_init_28 (by decide) ?_
  refine lv_bipush (v := 12) hx hb d_JO_init_30 (by decide) ?_
  obtain ⟨μ13, e_μ13, h⟩ := of_b h
  refine g_mnaJ (N := 6) (K := 12) hx hb hown (hts _ jm_1_41) (hts _ jm_2_9) hK hM (cs_of hsz hN12) (by decide) (by decide) (by decide) (by decide) (by decide) (by decide) (Nat.le_of_ble_eq_true rfl) (Nat.le_of_ble_eq_true rfl) d_JO_init_32 (fun H hM => ?_)
  refine W.widen (k := 20) (n := 191) (by decide) (by decide) ?_
  rw [Option.some.inj e_μ13] at hM
  have hN14 : mN μ13 = mN μ + 20 := by rw [← Option.some.inj e_μ13]; exact congrArg (· + 7) hN12
  obtain ⟨g15, h⟩ := of_g h
  obtain ⟨g16, h⟩ := of_g h
  obtain ⟨μ17, e_μ17, h⟩ := of_b h
  refine g_putrF (v := mN μ11 + 1) (C := "JoinedLeaves$Join") (T := T_JO) (N := 7) (ref := "JoinedLeaves$Join") hx hb hts jF_JO t_JO o_JO n_JO hown hK hM g15 (by decide) rfl 4 (by decide) (hts _ jm_1_46) (fun _ h9 => h9) rfl hin rfl (ty := (.array (.array .long))) (by decide +kernel) rfl rfl (by decide) (fun _ => rfl) (ok_0 g16) d_JO_init_36 (fun H locs hM => ?_)
  rw [Option.some.inj e_μ17] at hM
  have hN18 : mN μ17 = mN μ + 20 := by rw [← Option.some.inj e_μ17]; exact hN14
  refine lv_aload_n hx hb d_JO_init_39 rfl (lv_at hl 0 rfl) ?_
  refine lv_bipush (v := 64) hx hb d_JO_init_40 (by decide) ?_
  obtain ⟨μ19, e_μ19, h⟩ := of_b h
  refine g_newi (N := 64) (atype := .int) hx hb rfl (hts _ jm_0_36) hK hM (cs_of hsz hN18) rfl (by decide) (by decide) (by decide) (Nat.le_of_ble_eq_true rfl) (Nat.le_of_ble_eq_true rfl) d_JO_init_42 (fun H hM => ?_)
  refine W.widen (k := 21) (n := 255) (by decide) (by decide) ?_
  rw [Option.some.inj e_μ19] at hM
  have hN20 : mN μ19 = mN μ + 21 := by rw [← Option.some.inj e_μ19]; exact congrArg (· + 1) hN18
  obtain ⟨g21, h⟩ := of_g h
  obtain ⟨g22, h⟩ := of_g h
  obtain ⟨μ23, e_μ23, h⟩ := of_b h
  refine g_putrF (v := mN μ17 + 1) (C := "JoinedLeaves$Join") (T := T_JO) (N := 7) (ref := "JoinedLeaves$Join") hx hb hts jF_JO t_JO o_JO n_JO hown hK hM g21 (by decide) rfl 5 (by decide) (hts _ jm_1_47) (fun _ h9 => h9) rfl hin rfl (ty := (.array .int)) (by decide +kernel) rfl rfl (by decide) (fun _ => rfl) (ok_0 g22) d_JO_init_44 (fun H locs hM => ?_)
  rw [Option.some.inj e_μ23] at hM
  have hN24 : mN μ23 = mN μ + 21 := by rw [← Option.some.inj e_μ23]; exact hN20
  refine lv_aload_n hx hb d_JO_init_47 rfl (lv_at hl 0 rfl) ?_
  refine lv_aload_n hx hb d_JO_init_48 rfl (lv_at hl 1 rfl) ?_
  obtain ⟨g25, h⟩ := of_g h
  obtain ⟨g26, h⟩ := of_g h
  obtain ⟨μ27, e_μ27, h⟩ := of_b h
  refine g_putrF (v := r1) (C := "JoinedLeaves$Join") (T := T_JO) (N := 7) (ref := "JoinedLeaves$Join") hx hb hts jF_JO t_JO o_JO n_JO hown hK hM g25 (by decide) rfl 0 (by decide) (hts _ jm_1_42) (fun _ h9 => h9) rfl hin rfl (ty := (.object "JoinedLeaves$Question")) (by decide +kernel) rfl rfl (by decide) (fun _ => rfl) (ok_0 g26) d_JO_init_49 (fun H locs hM => ?_)
  rw [Option.some.inj e_μ27] at hM
  have hN28 : mN μ27 = mN μ + 21 := by rw [← Option.some.inj e_μ27]; exact hN24
  refine lv_aload_n hx hb d_JO_init_52 rfl (lv_at hl 0 rfl) ?_
  refine lv_aload_n hx hb d_JO_init_53 rfl (lv_at hl 2 rfl) ?_
  obtain ⟨g29, h⟩ := of_g h
  obtain ⟨g30, h⟩ := of_g h
  obtain ⟨μ31, e_μ31, h⟩ := of_b h
  refine g_putrF (v := r2) (C := "JoinedLeaves$Join") (T := T_JO) (N := 7) (ref := "JoinedLeaves$Join") hx hb hts jF_JO t_JO o_JO n_JO hown hK hM g29 (by decide) rfl 1 (by decide) (hts _ jm_1_43) (fun _ h9 => h9) rfl hin rfl (ty := (.object "JoinedLeaves$Hanging")) (by decide +kernel) rfl rfl (by decide) (fun _ => rfl) (ok_0 g30) d_JO_init_54 (fun H locs hM => ?_)
  rw [Option.some.inj e_μ31] at hM
  have hN32 : mN μ31 = mN μ + 21 := by rw [← Option.some.inj e_μ31]; exact hN28
  exact g_cret hx hb hr hlocks hM (Option.some.inj h) d_JO_init_57
abbrev w_JL_init : List Cond := .code y_JL_init b_JL_init 2 (Option.none : Option Jvm.ClassFile.FieldType) :: jW
def C_JL_init (n : Nat) (r0 : Nat) (μ : Mem) : Option Mem :=
  Option.bind (some (al μ 102 6)) (fun μ1 => if ok μ1 r0 5 = true then if ok μ1 (mN μ + 1) 102 = true then Option.bind (some (sR μ1 r0 0 (mN μ + 1))) (fun μ5 => if ok μ5 r0 5 = true then if ok μ5 (mR μ5 r0 0) 102 = true then Option.bind (some (al μ5 0 0)) (fun μ9 => Option.bind (C_RE_init n (mN μ5 + 1) μ9) (fun q11 => if mN q11 = mN μ9 + 1 then if ok q11 (mR μ5 r0 0) 102 = true then if ok q11 (mN μ5 + 1) 0 = true then if ib 0 (mZ q11 (mR μ5 r0 0)) = true then Option.bind (some (sR q11 (mR μ5 r0 0) (Int32.toNatClampNeg 0) (mN μ5 + 1))) (fun μ17 => if ok μ17 r0 5 = true then if ok μ17 (mR μ17 r0 0) 102 = true then Option.bind (some (al μ17 0 0)) (fun μ21 => Option.bind (C_RE_init n (mN μ17 + 1) μ21) (fun q23 => if mN q23 = mN μ21 + 1 then if ok q23 (mR μ17 r0 0) 102 = true then if ok q23 (mN μ17 + 1) 0 = true then if ib 1 (mZ q23 (mR μ17 r0 0)) = true then Option.bind (some (sR q23 (mR μ17 r0 0) (Int32.toNatClampNeg 1) (mN μ17 + 1))) (fun μ29 => if ok μ29 r0 5 = true then if ok μ29 (mR μ29 r0 0) 102 = true then Option.bind (some (al μ29 0 0)) (fun μ33 => Option.bind (C_RE_init n (mN μ29 + 1) μ33) (fun q35 => if mN q35 = mN μ33 + 1 then if ok q35 (mR μ29 r0 0) 102 = true then if ok q35 (mN μ29 + 1) 0 = true then if ib 2 (mZ q35 (mR μ29 r0 0)) = true then Option.bind (some (sR q35 (mR μ29 r0 0) (Int32.toNatClampNeg 2) (mN μ29 + 1))) (fun μ41 => if ok μ41 r0 5 = true then if ok μ41 (mR μ41 r0 0) 102 = true then Option.bind (some (al μ41 0 0)) (fun μ45 => Option.bind (C_RE_init n (mN μ41 + 1) μ45) (fun q47 => if mN q47 = mN μ45 + 1 then if ok q47 (mR μ41 r0 0) 102 = true then if ok q47 (mN μ41 + 1) 0 = true then if ib 3 (mZ q47 (mR μ41 r0 0)) = true then Option.bind (some (sR q47 (mR μ41 r0 0) (Int32.toNatClampNeg 3) (mN μ41 + 1))) (fun μ53 => if ok μ53 r0 5 = true then if ok μ53 (mR μ53 r0 0) 102 = true then Option.bind (some (al μ53 0 0)) (fun μ57 => Option.bind (C_RE_init n (mN μ53 + 1) μ57) (fun q59 => if mN q59 = mN μ57 + 1 then if ok q59 (mR μ53 r0 0) 102 = true then if ok q59 (mN μ53 + 1) 0 = true then if ib 4 (mZ q59 (mR μ53 r0 0)) = true then Option.bind (some (sR q59 (mR μ53 r0 0) (Int32.toNatClampNeg 4) (mN μ53 + 1))) (fun μ65 => if ok μ65 r0 5 = true then if ok μ65 (mR μ65 r0 0) 102 = true then Option.bind (some (al μ65 0 0)) (fun μ69 => Option.bind (C_RE_init n (mN μ65 + 1) μ69) (fun q71 => if mN q71 = mN μ69 + 1 then if ok q71 (mR μ65 r0 0) 102 = true then if ok q71 (mN μ65 + 1) 0 = true then if ib 5 (mZ q71 (mR μ65 r0 0)) = true then Option.bind (some (sR q71 (mR μ65 r0 0) (Int32.toNatClampNeg 5) (mN μ65 + 1))) (fun μ77 => Option.bind (some (al μ77 2 0)) (fun μ79 => if ok μ79 r0 5 = true then if ok μ79 (mR μ79 r0 0) 102 = true then if ib 0 (mZ μ79 (mR μ79 r0 0)) = true then if ok μ79 (mR μ79 (mR μ79 r0 0) (Int32.toNatClampNeg 0)) 0 = true then Option.bind (C_QU_init n (mN μ77 + 1) (mR μ79 (mR μ79 r0 0) (Int32.toNatClampNeg 0)) μ79) (fun q85 => if mN q85 = mN μ79 + 14 then if ok q85 r0 5 = true then if ok q85 (mN μ77 + 1) 2 = true then Option.bind (some (sR q85 r0 2 (mN μ77 + 1))) (fun μ90 => Option.bind (some (al μ90 3 0)) (fun μ92 => if ok μ92 r0 5 = true then if ok μ92 (mR μ92 r0 2) 2 = true then Option.bind (C_HA_init n (mN μ90 + 1) (mR μ92 r0 2) μ92) (fun q96 => if mN q96 = mN μ92 + 3 then if ok q96 r0 5 = true then if ok q96 (mN μ90 + 1) 3 = true then Option.bind (some (sR q96 r0 3 (mN μ90 + 1))) (fun μ101 => Option.bind (some (al μ101 4 0)) (fun μ103 => if ok μ103 r0 5 = true then if ok μ103 (mR μ103 r0 2) 2 = true then if ok μ103 (mR μ103 r0 3) 3 = true then Option.bind (C_JO_init n (mN μ101 + 1) (mR μ103 r0 2) (mR μ103 r0 3) μ103) (fun q108 => if mN q108 = mN μ103 + 21 then if ok q108 r0 5 = true then if ok q108 (mN μ101 + 1) 4 = true then Option.bind (some (sR q108 r0 4 (mN μ101 + 1))) (fun μ113 => some μ113) else none else none else none) else none else none else none)) else none else none else none) else none else none)) else none else none else none) else none else none else none else none)) else none else none else none else none)) else none else none) else none else none else none else none)) else none else none) else none else none else none else none)) else none else none) else none else none else none else none)) else none else none) else none else none else none else none)) else none else none) else none else none else none else none)) else none else none) else none else none)
set_option maxHeartbeats 4000000 in
set_option maxRecDepth 100000 in
theorem S_JL_init (l : Launch) (D : va_G) (b : Nat) (cs : Nat → ClassId) (r0 : Nat) (μ : Mem) (res : Mem) (n : Nat) (h : C_JL_init n r0 μ = some res) : MetC l y_JL_init w_JL_init 3 54 433 55 b cs D μ [.ref (b + r0)] res := by
  refine Met.ofW (cc := b_JL_init) (maxL := 2) (ret := (Option.none : Option Jvm.ClassFile.FieldType)) (by decide) rfl ?_
  intro p e s m args below meth c s₁ B hml hv
  obtain ⟨rfl, hsz, hK, hM⟩ := Wd.startC hv
  have hx := B.exec
  have hb := B.bytes
  have hr := B.returns
  have hts : ∀ w ∈ jW, w.before _ s = true := fun w hw => atoms_spec (ws := w_JL_init) B.pre w (List.mem_cons_of_mem _ hw)
  have hown : s.vm.findClass "JoinedLeaves" = some m.cls := findClass_of_methodNamed B.named
  have hlocks := B.notSynchronized
  have hin : meth.name = "<init>" := (name_of_methodNamed B.named B.method).1
  have hN0 : mN μ = mN μ + 0 := rfl
  have hl := lv_entry ([.ref (b + r0)]) (n := 2) (Nat.le_of_ble_eq_true rfl)
  rw [lg_entry_eq]
  generalize (lg_sl ([.ref (b + r0)]) ++ List.replicate (2 - (lg_sl ([.ref (b + r0)])).length) Slot.unset).toArray = ls at hl ⊢
  have hl : lv_has ls 2 [(0, .ref (b + r0))] := hl
  unfold C_JL_init at h
  refine lv_aload_n hx hb d_JL_init_0 rfl (lv_at hl 0 rfl) ?_
  refine W.objInit hx hb hown (hts _ jm_0_21) (hts _ jm_0_22) (hts _ jm_0_23) rfl (by rw [hml]; exact hl.1) rfl d_JL_init_1 (Nat.le_of_ble_eq_true rfl) (Nat.le_of_ble_eq_true rfl) ?_
  refine W.eq (g2 := F0 m 4 ls []) rfl ?_
  refine lv_aload_n hx hb d_JL_init_4 rfl (lv_at hl 0 rfl) ?_
  refine lv_bipush (v := 6) hx hb d_JL_init_5 (by decide) ?_
  obtain ⟨μ1, e_μ1, h⟩ := of_b h
  refine g_newr (N := 6) (C := "JoinedLeaves$Relation") hx hb hown (hts _ jm_0_24) (Kw.over_RE (cs := cs) (D := D) hK) hK hM (cs_of hsz hN0) 0 rfl (by decide) (by decide) (by decide) (Nat.le_of_ble_eq_true rfl) (Nat.le_of_ble_eq_true rfl) d_JL_init_7 (fun H hM => ?_)
  refine W.widen (k := 1) (n := 6) (by decide) (by decide) ?_
  rw [Option.some.inj e_μ1] at hM
  have hN2 : mN μ1 = mN μ + 1 := by rw [← Option.some.inj e_μ1]; exact congrArg (· + 1) hN0
  obtain ⟨g3, h⟩ := of_g h
  obtain ⟨g4, h⟩ := of_g h
  obtain ⟨μ5, e_μ5, h⟩ := of_b h
  refine g_putrF (v := mN μ + 1) (C := "JoinedLeaves") (T := T_JL) (N := 5) (ref := "JoinedLeaves") hx hb hts jF_JL t_JL o_JL n_JL hown hK hM g3 (by decide) rfl 0 (by decide) (hts _ jm_2_10) (fun _ h9 => h9) rfl hin rfl (ty := (.array (.object "JoinedLeaves$Relation"))) (by decide +kernel) rfl rfl (by decide) (fun _ => rfl) (ok_0 g4) d_JL_init_10 (fun H locs hM => ?_)
  rw [Option.some.inj e_μ5] at hM
  have hN6 : mN μ5 = mN μ + 1 := by rw [← Option.some.inj e_μ5]; exact hN2
  refine lv_iconst (v := 0) hx hb d_JL_init_13 (by decide) ?_
  refine lv_istore_n hx hb d_JL_init_14 rfl hl (by decide) rfl (fun ls hl => ?_)
  have hl : lv_has ls 2 [(1, .int 0), (0, .ref (b + r0))] := hl
  refine lv_iload_n hx hb d_JL_init_15 rfl (lv_at hl 0 rfl) ?_
  refine lv_bipush (v := 6) hx hb d_JL_init_16 (by decide) ?_
  refine lv_icmp_ge (tgt := 40) hx hb d_JL_init_18 (by decide) (fun hc => absurd hc (by decide)) (fun _ => ?_)
  refine lv_aload_n hx hb d_JL_init_21 rfl (lv_at hl 1 rfl) ?_
  obtain ⟨g7, h⟩ := of_g h
  obtain ⟨g8, h⟩ := of_g h
  refine g_get (C := "JoinedLeaves") (T := T_JL) (N := 5) (ref := "JoinedLeaves") (v := .ref (b + (mR μ5 r0 0))) hx hb hts jF_JL hown hK hM g7 (by decide) rfl 0 (by decide) (hts _ jm_2_10) (fun _ h9 => h9) (by decide) (rv_of (ok_0 g8)) d_JL_init_22 ?_
  refine lv_iload_n hx hb d_JL_init_25 rfl (lv_at hl 0 rfl) ?_
  obtain ⟨μ9, e_μ9, h⟩ := of_b h
  refine g_new (ci := 0) (C := "JoinedLeaves$Relation") (T := T_RE) (N := 3) hx hb hts jF_RE t_RE o_RE hown (hts _ jm_0_24) (hts _ jm_0_25) (hts _ jm_0_2) hK hM (cs_of hsz hN6) (by decide) rfl (by decide +kernel) (Nat.le_of_ble_eq_true rfl) (Nat.le_of_ble_eq_true rfl) d_JL_init_26 (fun H hM => ?_)
  refine W.widen (k := 2) (n := 9) (by decide) (by decide) ?_
  rw [Option.some.inj e_μ9] at hM
  have hN10 : mN μ9 = mN μ + 2 := by rw [← Option.some.inj e_μ9]; exact congrArg (· + 1) hN6
  refine lv_dup hx hb d_JL_init_29 rfl ?_
  obtain ⟨q11, hq11, h⟩ := of_b h
  obtain ⟨g12, h⟩ := of_g h
  refine W.sized fun hle => ?_
  have hz := hz_of hM hle (cs_of hsz hN10)
  refine g_callc (va_runIN (As := []) (rest := [.ref (b + (mN μ5 + 1)), .int 0, .ref (b + (mR μ5 r0 0))]) ⟨hx, hb, hml, hown, hts⟩ (S_RE_init l D b cs (mN μ5 + 1) μ9 q11 n hq11) ⟨va_cnB 0 hts (goodIn_g jm_0_27) rfl rfl rfl (hK.2.1 _ jn_0) (hts _ jm_0_2) (by decide +kernel) ⟨Nat.le_of_ble_eq_true rfl, Nat.le_of_ble_eq_true rfl⟩, rfl, (hts _ jm_0_26)⟩ (Wd.preC hK hM hz) rfl rfl hl.1 rfl (lv_room (Nat.le_of_ble_eq_true rfl)) d_JL_init_30 ⟨Nat.le_of_ble_eq_true rfl, Nat.le_of_ble_eq_true rfl⟩) hM (fun H locs hM => ?_)
  refine W.widen (k := 3) (n := 21) (by decide) (by decide) ?_
  have hN13 : mN q11 = mN μ + 3 := N_of g12 hN10 rfl
  clear g12 hz hle
  obtain ⟨g14, h⟩ := of_g h
  obtain ⟨g15, h⟩ := of_g h
  obtain ⟨g16, h⟩ := of_g h
  obtain ⟨μ17, e_μ17, h⟩ := of_b h
  refine g_aast hx hb hK hM 0 0 rfl rfl (by decide) g14 g15 g16 d_JL_init_33 (fun H locs hM => ?_)
  rw [Option.some.inj e_μ17] at hM
  have hN18 : mN μ17 = mN μ + 3 := by rw [← Option.some.inj e_μ17]; exact hN13
  refine lv_iinc (v := 1) hx hb d_JL_init_34 hl (k := 0) rfl (by decide) (by decide) rfl (fun ls hl => ?_)
  have hl : lv_has ls 2 [(1, .int 1), (0, .ref (b + r0))] := hl
  refine lv_goto (tgt := 15) hx hb d_JL_init_37 (by decide) ?_
  refine lv_iload_n hx hb d_JL_init_15 rfl (lv_at hl 0 rfl) ?_
  refine lv_bipush (v := 6) hx hb d_JL_init_16 (by decide) ?_
  refine lv_icmp_ge (tgt := 40) hx hb d_JL_init_18 (by decide) (fun hc => absurd hc (by decide)) (fun _ => ?_)
  refine lv_aload_n hx hb d_JL_init_21 rfl (lv_at hl 1 rfl) ?_
  obtain ⟨g19, h⟩ := of_g h
  obtain ⟨g20, h⟩ := of_g h
  refine g_get (C := "JoinedLeaves") (T := T_JL) (N := 5) (ref := "JoinedLeaves") (v := .ref (b + (mR μ17 r0 0))) hx hb hts jF_JL hown hK hM g19 (by decide) rfl 0 (by decide) (hts _ jm_2_10) (fun _ h9 => h9) (by decide) (rv_of (ok_0 g20)) d_JL_init_22 ?_
  refine lv_iload_n hx hb d_JL_init_25 rfl (lv_at hl 0 rfl) ?_
  obtain ⟨μ21, e_μ21, h⟩ := of_b h
  refine g_new (ci := 0) (C := "JoinedLeaves$Relation") (T := T_RE) (N := 3) hx hb hts jF_RE t_RE o_RE hown (hts _ jm_0_24) (hts _ jm_0_25) (hts _ jm_0_2) hK hM (cs_of hsz hN18) (by decide) rfl (by decide +kernel) (Nat.le_of_ble_eq_true rfl) (Nat.le_of_ble_eq_true rfl) d_JL_init_26 (fun H hM => ?_)
  refine W.widen (k := 4) (n := 24) (by decide) (by decide) ?_
  rw [Option.some.inj e_μ21] at hM
  have hN22 : mN μ21 = mN μ + 4 := by rw [← Option.some.inj e_μ21]; exact congrArg (· + 1) hN18
  refine lv_dup hx hb d_JL_init_29 rfl ?_
  obtain ⟨q23, hq23, h⟩ := of_b h
  obtain ⟨g24, h⟩ := of_g h
  refine W.sized fun hle => ?_
  have hz := hz_of hM hle (cs_of hsz hN22)
  refine g_callc (va_runIN (As := []) (rest := [.ref (b + (mN μ17 + 1)), .int 1, .ref (b + (mR μ17 r0 0))]) ⟨hx, hb, hml, hown, hts⟩ (S_RE_init l D b cs (mN μ17 + 1) μ21 q23 n hq23) ⟨va_cnB 0 hts (goodIn_g jm_0_27) rfl rfl rfl (hK.2.1 _ jn_0) (hts _ jm_0_2) (by decide +kernel) ⟨Nat.le_of_ble_eq_true rfl, Nat.le_of_ble_eq_true rfl⟩, rfl, (hts _ jm_0_26)⟩ (Wd.preC hK hM hz) rfl rfl hl.1 rfl (lv_room (Nat.le_of_ble_eq_true rfl)) d_JL_init_30 ⟨Nat.le_of_ble_eq_true rfl, Nat.le_of_ble_eq_true rfl⟩) hM (fun H locs hM => ?_)
  refine W.widen (k := 5) (n := 36) (by decide) (by decide) ?_
  have hN25 : mN q23 = mN μ + 5 := N_of g24 hN22 rfl
  clear g24 hz hle
  obtain ⟨g26, h⟩ := of_g h
  obtain ⟨g27, h⟩ := of_g h
  obtain ⟨g28, h⟩ := of_g h
  obtain ⟨μ29, e_μ29, h⟩ := of_b h
  refine g_aast hx hb hK hM 0 0 rfl rfl (by decide) g26 g27 g28 d_JL_init_33 (fun H locs hM => ?_)
  rw [Option.some.inj e_μ29] at hM
  have hN30 : mN μ29 = mN μ + 5 := by rw [← Option.some.inj e_μ29]; exact hN25
  refine lv_iinc (v := 2) hx hb d_JL_init_34 hl (k := 0) rfl (by decide) (by decide) rfl (fun ls hl => ?_)
  have hl : lv_has ls 2 [(1, .int 2), (0, .ref (b + r0))] := hl
  refine lv_goto (tgt := 15) hx hb d_JL_init_37 (by decide) ?_
  refine lv_iload_n hx hb d_JL_init_15 rfl (lv_at hl 0 rfl) ?_
  refine lv_bipush (v := 6) hx hb d_JL_init_16 (by decide) ?_
  refine lv_icmp_ge (tgt := 40) hx hb d_JL_init_18 (by decide) (fun hc => absurd hc (by decide)) (fun _ => ?_)
  refine lv_aload_n hx hb d_JL_init_21 rfl (lv_at hl 1 rfl) ?_
  obtain ⟨g31, h⟩ := of_g h
  obtain ⟨g32, h⟩ := of_g h
  refine g_get (C := "JoinedLeaves") (T := T_JL) (N := 5) (ref := "JoinedLeaves") (v := .ref (b + (mR μ29 r0 0))) hx hb hts jF_JL hown hK hM g31 (by decide) rfl 0 (by decide) (hts _ jm_2_10) (fun _ h9 => h9) (by decide) (rv_of (ok_0 g32)) d_JL_init_22 ?_
  refine lv_iload_n hx hb d_JL_init_25 rfl (lv_at hl 0 rfl) ?_
  obtain ⟨μ33, e_μ33, h⟩ := of_b h
  refine g_new (ci := 0) (C := "JoinedLeaves$Relation") (T := T_RE) (N := 3) hx hb hts jF_RE t_RE o_RE hown (hts _ jm_0_24) (hts _ jm_0_25) (hts _ jm_0_2) hK hM (cs_of hsz hN30) (by decide) rfl (by decide +kernel) (Nat.le_of_ble_eq_true rfl) (Nat.le_of_ble_eq_true rfl) d_JL_init_26 (fun H hM => ?_)
  refine W.widen (k := 6) (n := 39) (by decide) (by decide) ?_
  rw [Option.some.inj e_μ33] at hM
  have hN34 : mN μ33 = mN μ + 6 := by rw [← Option.some.inj e_μ33]; exact congrArg (· + 1) hN30
  refine lv_dup hx hb d_JL_init_29 rfl ?_
  obtain ⟨q35, hq35, h⟩ := of_b h
  obtain ⟨g36, h⟩ := of_g h
  refine W.sized fun hle => ?_
  have hz := hz_of hM hle (cs_of hsz hN34)
  refine g_callc (va_runIN (As := []) (rest := [.ref (b + (mN μ29 + 1)), .int 2, .ref (b + (mR μ29 r0 0))]) ⟨hx, hb, hml, hown, hts⟩ (S_RE_init l D b cs (mN μ29 + 1) μ33 q35 n hq35) ⟨va_cnB 0 hts (goodIn_g jm_0_27) rfl rfl rfl (hK.2.1 _ jn_0) (hts _ jm_0_2) (by decide +kernel) ⟨Nat.le_of_ble_eq_true rfl, Nat.le_of_ble_eq_true rfl⟩, rfl, (hts _ jm_0_26)⟩ (Wd.preC hK hM hz) rfl rfl hl.1 rfl (lv_room (Nat.le_of_ble_eq_true rfl)) d_JL_init_30 ⟨Nat.le_of_ble_eq_true rfl, Nat.le_of_ble_eq_true rfl⟩) hM (fun H locs hM => ?_)
  refine W.widen (k := 7) (n := 51) (by decide) (by decide) ?_
  have hN37 : mN q35 = mN μ + 7 := N_of g36 hN34 rfl
  clear g36 hz hle
  obtain ⟨g38, h⟩ := of_g h
  obtain ⟨g39, h⟩ := of_g h
  obtain ⟨g40, h⟩ := of_g h
  obtain ⟨μ41, e_μ41, h⟩ := of_b h
  refine g_aast hx hb hK hM 0 0 rfl rfl (by decide) g38 g39 g40 d_JL_init_33 (fun H locs hM => ?_)
  rw [Option.some.inj e_μ41] at hM
  have hN42 : mN μ41 = mN μ + 7 := by rw [← Option.some.inj e_μ41]; exact hN37
  refine lv_iinc (v := 3) hx hb d_JL_init_34 hl (k := 0) rfl (by decide) (by decide) rfl (fun ls hl => ?_)
  have hl : lv_has ls 2 [(1, .int 3), (0, .ref (b + r0))] := hl
  refine lv_goto (tgt := 15) hx hb d_JL_init_37 (by decide) ?_
  refine lv_iload_n hx hb d_JL_init_15 rfl (lv_at hl 0 rfl) ?_
  refine lv_bipush (v := 6) hx hb d_JL_init_16 (by decide) ?_
  refine lv_icmp_ge (tgt := 40) hx hb d_JL_init_18 (by decide) (fun hc => absurd hc (by decide)) (fun _ => ?_)
  refine lv_aload_n hx hb d_JL_init_21 rfl (lv_at hl 1 rfl) ?_
  obtain ⟨g43, h⟩ := of_g h
  obtain ⟨g44, h⟩ := of_g h
  refine g_get (C := "JoinedLeaves") (T := T_JL) (N := 5) (ref := "JoinedLeaves") (v := .ref (b + (mR μ41 r0 0))) hx hb hts jF_JL hown hK hM g43 (by decide) rfl 0 (by decide) (hts _ jm_2_10) (fun _ h9 => h9) (by decide) (rv_of (ok_0 g44)) d_JL_init_22 ?_
  refine lv_iload_n hx hb d_JL_init_25 rfl (lv_at hl 0 rfl) ?_
  obtain ⟨μ45, e_μ45, h⟩ := of_b h
  refine g_new (ci := 0) (C := "JoinedLeaves$Relation") (T := T_RE) (N := 3) hx hb hts jF_RE t_RE o_RE hown (hts _ jm_0_24) (hts _ jm_0_25) (hts _ jm_0_2) hK hM (cs_of hsz hN42) (by decide) rfl (by decide +kernel) (Nat.le_of_ble_eq_true rfl) (Nat.le_of_ble_eq_true rfl) d_JL_init_26 (fun H hM => ?_)
  refine W.widen (k := 8) (n := 54) (by decide) (by decide) ?_
  rw [Option.some.inj e_μ45] at hM
  have hN46 : mN μ45 = mN μ + 8 := by rw [← Option.some.inj e_μ45]; exact congrArg (· + 1) hN42
  refine lv_dup hx hb d_JL_init_29 rfl ?_
  obtain ⟨q47, hq47, h⟩ := of_b h
  obtain ⟨g48, h⟩ := of_g h
  refine W.sized fun hle => ?_
  have hz := hz_of hM hle (cs_of hsz hN46)
  refine g_callc (va_runIN (As := []) (rest := [.ref (b + (mN μ41 + 1)), .int 3, .ref (b + (mR μ41 r0 0))]) ⟨hx, hb, hml, hown, hts⟩ (S_RE_init l D b cs (mN μ41 + 1) μ45 q47 n hq47) ⟨va_cnB 0 hts (goodIn_g jm_0_27) rfl rfl rfl (hK.2.1 _ jn_0) (hts _ jm_0_2) (by decide +kernel) ⟨Nat.le_of_ble_eq_true rfl, Nat.le_of_ble_eq_true rfl⟩, rfl, (hts _ jm_0_26)⟩ (Wd.preC hK hM hz) rfl rfl hl.1 rfl (lv_room (Nat.le_of_ble_eq_true rfl)) d_JL_init_30 ⟨Nat.le_of_ble_eq_true rfl, Nat.le_of_ble_eq_true rfl⟩) hM (fun H locs hM => ?_)
  refine W.widen (k := 9) (n := 66) (by decide) (by decide) ?_
  have hN49 : mN q47 = mN μ + 9 := N_of g48 hN46 rfl
  clear g48 hz hle
  obtain ⟨g50, h⟩ := of_g h
  obtain ⟨g51, h⟩ := of_g h
  obtain ⟨g52, h⟩ := of_g h
  obtain ⟨μ53, e_μ53, h⟩ := of_b h
  refine g_aast hx hb hK hM 0 0 rfl rfl (by decide) g50 g51 g52 d_JL_init_33 (fun H locs hM => ?_)
  rw [Option.some.inj e_μ53] at hM
  have hN54 : mN μ53 = mN μ + 9 := by rw [← Option.some.inj e_μ53]; exact hN49
  refine lv_iinc (v := 4) hx hb d_JL_init_34 hl (k := 0) rfl (by decide) (by decide) rfl (fun ls hl => ?_)
  have hl : lv_has ls 2 [(1, .int 4), (0, .ref (b + r0))] := hl
  refine lv_goto (tgt := 15) hx hb d_JL_init_37 (by decide) ?_
  refine lv_iload_n hx hb d_JL_init_15 rfl (lv_at hl 0 rfl) ?_
  refine lv_bipush (v := 6) hx hb d_JL_init_16 (by decide) ?_
  refine lv_icmp_ge (tgt := 40) hx hb d_JL_init_18 (by decide) (fun hc => absurd hc (by decide)) (fun _ => ?_)
  refine lv_aload_n hx hb d_JL_init_21 rfl (lv_at hl 1 rfl) ?_
  obtain ⟨g55, h⟩ := of_g h
  obtain ⟨g56, h⟩ := of_g h
  refine g_get (C := "JoinedLeaves") (T := T_JL) (N := 5) (ref := "JoinedLeaves") (v := .ref (b + (mR μ53 r0 0))) hx hb hts jF_JL hown hK hM g55 (by decide) rfl 0 (by decide) (hts _ jm_2_10) (fun _ h9 => h9) (by decide) (rv_of (ok_0 g56)) d_JL_init_22 ?_
  refine lv_iload_n hx hb d_JL_init_25 rfl (lv_at hl 0 rfl) ?_
  obtain ⟨μ57, e_μ57, h⟩ := of_b h
  refine g_new (ci := 0) (C := "JoinedLeaves$Relation") (T := T_RE) (N := 3) hx hb hts jF_RE t_RE o_RE hown (hts _ jm_0_24) (hts _ jm_0_25) (hts _ jm_0_2) hK hM (cs_of hsz hN54) (by decide) rfl (by decide +kernel) (Nat.le_of_ble_eq_true rfl) (Nat.le_of_ble_eq_true rfl) d_JL_init_26 (fun H hM => ?_)
  refine W.widen (k := 10) (n := 69) (by decide) (by decide) ?_
  rw [Option.some.inj e_μ57] at hM
  have hN58 : mN μ57 = mN μ + 10 := by rw [← Option.some.inj e_μ57]; exact congrArg (· + 1) hN54
  refine lv_dup hx hb d_JL_init_29 rfl ?_
  obtain ⟨q59, hq59, h⟩ := of_b h
  obtain ⟨g60, h⟩ := of_g h
  refine W.sized fun hle => ?_
  have hz := hz_of hM hle (cs_of hsz hN58)
  refine g_callc (va_runIN (As := []) (rest := [.ref (b + (mN μ53 + 1)), .int 4, .ref (b + (mR μ53 r0 0))]) ⟨hx, hb, hml, hown, hts⟩ (S_RE_init l D b cs (mN μ53 + 1) μ57 q59 n hq59) ⟨va_cnB 0 hts (goodIn_g jm_0_27) rfl rfl rfl (hK.2.1 _ jn_0) (hts _ jm_0_2) (by decide +kernel) ⟨Nat.le_of_ble_eq_true rfl, Nat.le_of_ble_eq_true rfl⟩, rfl, (hts _ jm_0_26)⟩ (Wd.preC hK hM hz) rfl rfl hl.1 rfl (lv_room (Nat.le_of_ble_eq_true rfl)) d_JL_init_30 ⟨Nat.le_of_ble_eq_true rfl, Nat.le_of_ble_eq_true rfl⟩) hM (fun H locs hM => ?_)
  refine W.widen (k := 11) (n := 81) (by decide) (by decide) ?_
  have hN61 : mN q59 = mN μ + 11 := N_of g60 hN58 rfl
  clear g60 hz hle
  obtain ⟨g62, h⟩ := of_g h
  obtain ⟨g63, h⟩ := of_g h
  obtain ⟨g64, h⟩ := of_g h
  obtain ⟨μ65, e_μ65, h⟩ := of_b h
  refine g_aast hx hb hK hM 0 0 rfl rfl (by decide) g62 g63 g64 d_JL_init_33 (fun H locs hM => ?_)
  rw [Option.some.inj e_μ65] at hM
  have hN66 : mN μ65 = mN μ + 11 := by rw [← Option.some.inj e_μ65]; exact hN61
  refine lv_iinc (v := 5) hx hb d_JL_init_34 hl (k := 0) rfl (by decide) (by decide) rfl (fun ls hl => ?_)
  have hl : lv_has ls 2 [(1, .int 5), (0, .ref (b + r0))] := hl
  refine lv_goto (tgt := 15) hx hb d_JL_init_37 (by decide) ?_
  refine lv_iload_n hx hb d_JL_init_15 rfl (lv_at hl 0 rfl) ?_
  refine lv_bipush (v := 6) hx hb d_JL_init_16 (by decide) ?_
  refine lv_icmp_ge (tgt := 40) hx hb d_JL_init_18 (by decide) (fun hc => absurd hc (by decide)) (fun _ => ?_)
  refine lv_aload_n hx hb d_JL_init_21 rfl (lv_at hl 1 rfl) ?_
  obtain ⟨g67, h⟩ := of_g h
  obtain ⟨g68, h⟩ := of_g h
  refine g_get (C := "JoinedLeaves") (T := T_JL) (N := 5) (ref := "JoinedLeaves") (v := .ref (b + (mR μ65 r0 0))) hx hb hts jF_JL hown hK hM g67 (by decide) rfl 0 (by decide) (hts _ jm_2_10) (fun _ h9 => h9) (by decide) (rv_of (ok_0 g68)) d_JL_init_22 ?_
  refine lv_iload_n hx hb d_JL_init_25 rfl (lv_at hl 0 rfl) ?_
  obtain ⟨μ69, e_μ69, h⟩ := of_b h
  refine g_new (ci := 0) (C := "JoinedLeaves$Relation") (T := T_RE) (N := 3) hx hb hts jF_RE t_RE o_RE hown (hts _ jm_0_24) (hts _ jm_0_25) (hts _ jm_0_2) hK hM (cs_of hsz hN66) (by decide) rfl (by decide +kernel) (Nat.le_of_ble_eq_true rfl) (Nat.le_of_ble_eq_true rfl) d_JL_init_26 (fun H hM => ?_)
  refine W.widen (k := 12) (n := 84) (by decide) (by decide) ?_
  rw [Option.some.inj e_μ69] at hM
  have hN70 : mN μ69 = mN μ + 12 := by rw [← Option.some.inj e_μ69]; exact congrArg (· + 1) hN66
  refine lv_dup hx hb d_JL_init_29 rfl ?_
  obtain ⟨q71, hq71, h⟩ := of_b h
  obtain ⟨g72, h⟩ := of_g h
  refine W.sized fun hle => ?_
  have hz := hz_of hM hle (cs_of hsz hN70)
  refine g_callc (va_runIN (As := []) (rest := [.ref (b + (mN μ65 + 1)), .int 5, .ref (b + (mR μ65 r0 0))]) ⟨hx, hb, hml, hown, hts⟩ (S_RE_init l D b cs (mN μ65 + 1) μ69 q71 n hq71) ⟨va_cnB 0 hts (goodIn_g jm_0_27) rfl rfl rfl (hK.2.1 _ jn_0) (hts _ jm_0_2) (by decide +kernel) ⟨Nat.le_of_ble_eq_true rfl, Nat.le_of_ble_eq_true rfl⟩, rfl, (hts _ jm_0_26)⟩ (Wd.preC hK hM hz) rfl rfl hl.1 rfl (lv_room (Nat.le_of_ble_eq_true rfl)) d_JL_init_30 ⟨Nat.le_of_ble_eq_true rfl, Nat.le_of_ble_eq_true rfl⟩) hM (fun H locs hM => ?_)
  refine W.widen (k := 13) (n := 96) (by decide) (by decide) ?_
  have hN73 : mN q71 = mN μ + 13 := N_of g72 hN70 rfl
  clear g72 hz hle
  obtain ⟨g74, h⟩ := of_g h
  obtain ⟨g75, h⟩ := of_g h
  obtain ⟨g76, h⟩ := of_g h
  obtain ⟨μ77, e_μ77, h⟩ := of_b h
  refine g_aast hx hb hK hM 0 0 rfl rfl (by decide) g74 g75 g76 d_JL_init_33 (fun H locs hM => ?_)
  rw [Option.some.inj e_μ77] at hM
  have hN78 : mN μ77 = mN μ + 13 := by rw [← Option.some.inj e_μ77]; exact hN73
  refine lv_iinc (v := 6) hx hb d_JL_init_34 hl (k := 0) rfl (by decide) (by decide) rfl (fun ls hl => ?_)
  have hl : lv_has ls 2 [(1, .int 6), (0, .ref (b + r0))] := hl
  refine lv_goto (tgt := 15) hx hb d_JL_init_37 (by decide) ?_
  refine lv_iload_n hx hb d_JL_init_15 rfl (lv_at hl 0 rfl) ?_
  refine lv_bipush (v := 6) hx hb d_JL_init_16 (by decide) ?_
  refine lv_icmp_ge (tgt := 40) hx hb d_JL_init_18 (by decide) (fun _ => ?_) (fun hc => absurd (by decide) hc)
  refine lv_aload_n hx hb d_JL_init_40 rfl (lv_at hl 1 rfl) ?_
  obtain ⟨μ79, e_μ79, h⟩ := of_b h
  refine g_new (ci := 2) (C := "JoinedLeaves$Question") (T := T_QU) (N := 5) hx hb hts jF_QU t_QU o_QU hown (hts _ jm_0_37) (hts _ jm_0_38) (hts _ jm_0_3) hK hM (cs_of hsz hN78) (by decide) rfl (by decide +kernel) (Nat.le_of_ble_eq_true rfl) (Nat.le_of_ble_eq_true rfl) d_JL_init_41 (fun H hM => ?_)
  refine W.widen (k := 14) (n := 101) (by decide) (by decide) ?_
  rw [Option.some.inj e_μ79] at hM
  have hN80 : mN μ79 = mN μ + 14 := by rw [← Option.some.inj e_μ79]; exact congrArg (· + 1) hN78
  refine lv_dup hx hb d_JL_init_44 rfl ?_
  refine lv_aload_n hx hb d_JL_init_45 rfl (lv_at hl 1 rfl) ?_
  obtain ⟨g81, h⟩ := of_g h
  obtain ⟨g82, h⟩ := of_g h
  refine g_get (C := "JoinedLeaves") (T := T_JL) (N := 5) (ref := "JoinedLeaves") (v := .ref (b + (mR μ79 r0 0))) hx hb hts jF_JL hown hK hM g81 (by decide) rfl 0 (by decide) (hts _ jm_2_10) (fun _ h9 => h9) (by decide) (rv_of (ok_0 g82)) d_JL_init_46 ?_
  refine lv_iconst (v := 0) hx hb d_JL_init_49 (by decide) ?_
  obtain ⟨g83, h⟩ := of_g h
  obtain ⟨g84, h⟩ := of_g h
  refine g_aald (ty := (.object "JoinedLeaves$Relation")) hx hb hK hM 0 rfl rfl g82 g83 (ok_0 g84) d_JL_init_50 ?_
  obtain ⟨q85, hq85, h⟩ := of_b h
  obtain ⟨g86, h⟩ := of_g h
  refine W.sized fun hle => ?_
  have hz := hz_of hM hle (cs_of hsz hN80)
  refine g_callc (va_runIN (As := [.ref (b + (mR μ79 (mR μ79 r0 0) (Int32.toNatClampNeg 0)))]) (rest := [.ref (b + (mN μ77 + 1)), .ref (b + r0)]) ⟨hx, hb, hml, hown, hts⟩ (S_QU_init l D b cs (mN μ77 + 1) (mR μ79 (mR μ79 r0 0) (Int32.toNatClampNeg 0)) μ79 q85 n hq85) ⟨va_cnB 1 hts (goodIn_g jm_0_40) rfl rfl rfl (hK.2.1 _ jn_6) (hts _ jm_0_3) (by decide +kernel) ⟨Nat.le_of_ble_eq_true rfl, Nat.le_of_ble_eq_true rfl⟩, rfl, (hts _ jm_0_39)⟩ (Wd.preC hK hM hz) rfl rfl hl.1 rfl (lv_room (Nat.le_of_ble_eq_true rfl)) d_JL_init_51 ⟨Nat.le_of_ble_eq_true rfl, Nat.le_of_ble_eq_true rfl⟩) hM (fun H locs hM => ?_)
  refine W.widen (k := 28) (n := 147) (by decide) (by decide) ?_
  have hN87 : mN q85 = mN μ + 28 := N_of g86 hN80 rfl
  clear g86 hz hle
  obtain ⟨g88, h⟩ := of_g h
  obtain ⟨g89, h⟩ := of_g h
  obtain ⟨μ90, e_μ90, h⟩ := of_b h
  refine g_putrF (v := mN μ77 + 1) (C := "JoinedLeaves") (T := T_JL) (N := 5) (ref := "JoinedLeaves") hx hb hts jF_JL t_JL o_JL n_JL hown hK hM g88 (by decide) rfl 2 (by decide) (hts _ jm_2_12) (fun _ h9 => h9) rfl hin rfl (ty := (.object "JoinedLeaves$Question")) (by decide +kernel) rfl rfl (by decide) (fun _ => rfl) (ok_0 g89) d_JL_init_54 (fun H locs hM => ?_)
  rw [Option.some.inj e_μ90] at hM
  have hN91 : mN μ90 = mN μ + 28 := by rw [← Option.some.inj e_μ90]; exact hN87
  refine lv_aload_n hx hb d_JL_init_57 rfl (lv_at hl 1 rfl) ?_
  obtain ⟨μ92, e_μ92, h⟩ := of_b h
  refine g_new (ci := 3) (C := "JoinedLeaves$Hanging") (T := T_HA) (N := 6) hx hb hts jF_HA t_HA o_HA hown (hts _ jm_1_17) (hts _ jm_1_18) (hts _ jm_0_5) hK hM (cs_of hsz hN91) (by decide) rfl (by decide +kernel) (Nat.le_of_ble_eq_true rfl) (Nat.le_of_ble_eq_true rfl) d_JL_init_58 (fun H hM => ?_)
  refine W.widen (k := 29) (n := 153) (by decide) (by decide) ?_
  rw [Option.some.inj e_μ92] at hM
  have hN93 : mN μ92 = mN μ + 29 := by rw [← Option.some.inj e_μ92]; exact congrArg (· + 1) hN91
  refine lv_dup hx hb d_JL_init_61 rfl ?_
  refine lv_aload_n hx hb d_JL_init_62 rfl (lv_at hl 1 rfl) ?_
  obtain ⟨g94, h⟩ := of_g h
  obtain ⟨g95, h⟩ := of_g h
  refine g_get (C := "JoinedLeaves") (T := T_JL) (N := 5) (ref := "JoinedLeaves") (v := .ref (b + (mR μ92 r0 2))) hx hb hts jF_JL hown hK hM g94 (by decide) rfl 2 (by decide) (hts _ jm_2_12) (fun _ h9 => h9) (by decide) (rv_of (ok_0 g95)) d_JL_init_63 ?_
  obtain ⟨q96, hq96, h⟩ := of_b h
  obtain ⟨g97, h⟩ := of_g h
  refine W.sized fun hle => ?_
  have hz := hz_of hM hle (cs_of hsz hN93)
  refine g_callc (va_runIN (As := [.ref (b + (mR μ92 r0 2))]) (rest := [.ref (b + (mN μ90 + 1)), .ref (b + r0)]) ⟨hx, hb, hml, hown, hts⟩ (S_HA_init l D b cs (mN μ90 + 1) (mR μ92 r0 2) μ92 q96 n hq96) ⟨va_cnB 1 hts (goodIn_g jm_1_20) rfl rfl rfl (hK.2.1 _ jn_19) (hts _ jm_0_5) (by decide +kernel) ⟨Nat.le_of_ble_eq_true rfl, Nat.le_of_ble_eq_true rfl⟩, rfl, (hts _ jm_1_19)⟩ (Wd.preC hK hM hz) rfl rfl hl.1 rfl (lv_room (Nat.le_of_ble_eq_true rfl)) d_JL_init_66 ⟨Nat.le_of_ble_eq_true rfl, Nat.le_of_ble_eq_true rfl⟩) hM (fun H locs hM => ?_)
  refine W.widen (k := 32) (n := 171) (by decide) (by decide) ?_
  have hN98 : mN q96 = mN μ + 32 := N_of g97 hN93 rfl
  clear g97 hz hle
  obtain ⟨g99, h⟩ := of_g h
  obtain ⟨g100, h⟩ := of_g h
  obtain ⟨μ101, e_μ101, h⟩ := of_b h
  refine g_putrF (v := mN μ90 + 1) (C := "JoinedLeaves") (T := T_JL) (N := 5) (ref := "JoinedLeaves") hx hb hts jF_JL t_JL o_JL n_JL hown hK hM g99 (by decide) rfl 3 (by decide) (hts _ jm_2_13) (fun _ h9 => h9) rfl hin rfl (ty := (.object "JoinedLeaves$Hanging")) (by decide +kernel) rfl rfl (by decide) (fun _ => rfl) (ok_0 g100) d_JL_init_69 (fun H locs hM => ?_)
  rw [Option.some.inj e_μ101] at hM
  have hN102 : mN μ101 = mN μ + 32 := by rw [← Option.some.inj e_μ101]; exact hN98
  refine lv_aload_n hx hb d_JL_init_72 rfl (lv_at hl 1 rfl) ?_
  obtain ⟨μ103, e_μ103, h⟩ := of_b h
  refine g_new (ci := 4) (C := "JoinedLeaves$Join") (T := T_JO) (N := 7) hx hb hts jF_JO t_JO o_JO hown (hts _ jm_1_35) (hts _ jm_1_36) (hts _ jm_0_6) hK hM (cs_of hsz hN102) (by decide) rfl (by decide +kernel) (Nat.le_of_ble_eq_true rfl) (Nat.le_of_ble_eq_true rfl) d_JL_init_73 (fun H hM => ?_)
  refine W.widen (k := 33) (n := 178) (by decide) (by decide) ?_
  rw [Option.some.inj e_μ103] at hM
  have hN104 : mN μ103 = mN μ + 33 := by rw [← Option.some.inj e_μ103]; exact congrArg (· + 1) hN102
  refine lv_dup hx hb d_JL_init_76 rfl ?_
  refine lv_aload_n hx hb d_JL_init_77 rfl (lv_at hl 1 rfl) ?_
  obtain ⟨g105, h⟩ := of_g h
  obtain ⟨g106, h⟩ := of_g h
  refine g_get (C := "JoinedLeaves") (T := T_JL) (N := 5) (ref := "JoinedLeaves") (v := .ref (b + (mR μ103 r0 2))) hx hb hts jF_JL hown hK hM g105 (by decide) rfl 2 (by decide) (hts _ jm_2_12) (fun _ h9 => h9) (by decide) (rv_of (ok_0 g106)) d_JL_init_78 ?_
  refine lv_aload_n hx hb d_JL_init_81 rfl (lv_at hl 1 rfl) ?_
  obtain ⟨g107, h⟩ := of_g h
  refine g_get (C := "JoinedLeaves") (T := T_JL) (N := 5) (ref := "JoinedLeaves") (v := .ref (b + (mR μ103 r0 3))) hx hb hts jF_JL hown hK hM g105 (by decide) rfl 3 (by decide) (hts _ jm_2_13) (fun _ h9 => h9) (by decide) (rv_of (ok_0 g107)) d_JL_init_82 ?_
  obtain ⟨q108, hq108, h⟩ := of_b h
  obtain ⟨g109, h⟩ := of_g h
  refine W.sized fun hle => ?_
  have hz := hz_of hM hle (cs_of hsz hN104)
  refine g_callc (va_runIN (As := [.ref (b + (mR μ103 r0 2)), .ref (b + (mR μ103 r0 3))]) (rest := [.ref (b + (mN μ101 + 1)), .ref (b + r0)]) ⟨hx, hb, hml, hown, hts⟩ (S_JO_init l D b cs (mN μ101 + 1) (mR μ103 r0 2) (mR μ103 r0 3) μ103 q108 n hq108) ⟨va_cnB 2 hts (goodIn_g jm_1_38) rfl rfl rfl (hK.2.1 _ jn_25) (hts _ jm_0_6) (by decide +kernel) ⟨Nat.le_of_ble_eq_true rfl, Nat.le_of_ble_eq_true rfl⟩, rfl, (hts _ jm_1_37)⟩ (Wd.preC hK hM hz) rfl rfl hl.1 rfl (lv_room (Nat.le_of_ble_eq_true rfl)) d_JL_init_85 ⟨Nat.le_of_ble_eq_true rfl, Nat.le_of_ble_eq_true rfl⟩) hM (fun H locs hM => ?_)
  refine W.widen (k := 54) (n := 433) (by decide) (by decide) ?_
  have hN110 : mN q108 = mN μ + 54 := N_of g109 hN104 rfl
  clear g109 hz hle
  obtain ⟨g111, h⟩ := of_g h
  obtain ⟨g112, h⟩ := of_g h
  obtain ⟨μ113, e_μ113, h⟩ := of_b h
  refine g_putrF (v := mN μ101 + 1) (C := "JoinedLeaves") (T := T_JL) (N := 5) (ref := "JoinedLeaves") hx hb hts jF_JL t_JL o_JL n_JL hown hK hM g111 (by decide) rfl 4 (by decide) (hts _ jm_2_14) (fun _ h9 => h9) rfl hin rfl (ty := (.object "JoinedLeaves$Join")) (by decide +kernel) rfl rfl (by decide) (fun _ => rfl) (ok_0 g112) d_JL_init_88 (fun H locs hM => ?_)
  rw [Option.some.inj e_μ113] at hM
  have hN114 : mN μ113 = mN μ + 54 := by rw [← Option.some.inj e_μ113]; exact hN110
  exact g_cret hx hb hr hlocks hM (Option.some.inj h) d_JL_init_91
abbrev w_JO_choose : List Cond := .code y_JO_choose b_JO_choose 6 (Option.none : Option Jvm.ClassFile.FieldType) :: jW
def B_JO_choose_0 (rc : Nat → Int32 → Int32 → Mem → Option (Mem)) (n : Nat) (k : Nat → Nat → Int32 → Int32 → Int32 → Int32 → Int32 → Mem → Option (Mem)) (r0 : Nat) (i1 : Int32) (i2 : Int32) (i3 : Int32) (i4 : Int32) (i5 : Int32) (μ : Mem) : Option (Mem) :=
  if ok μ r0 4 = true then if ok μ (mR μ r0 0) 2 = true then if i1 < (mI μ (mR μ r0 0) 3) then if ok μ (mR μ (mR μ r0 0) 2) 100 = true then if ib i1 (mZ μ (mR μ (mR μ r0 0) 2)) = true then Option.bind (some (mI μ (mR μ (mR μ r0 0) 2) (Int32.toNatClampNeg i1))) (fun v5 => if ok μ (mR μ r0 3) 104 = true then if ib i1 (mZ μ (mR μ r0 3)) = true then if ok μ (mR μ (mR μ r0 3) (Int32.toNatClampNeg i1)) 100 = true then Option.bind (C_JO_liveValuesOf n r0 v5 (mR μ (mR μ r0 3) (Int32.toNatClampNeg i1)) μ) (fun q9 => k 1 r0 i1 i2 v5 q9.1 0 q9.2) else none else none else none) else none else none else Option.bind (C_JO_storeAnswer n r0 i2 μ) (fun q10 => some q10) else none else none
def B_JO_choose_1 (rc : Nat → Int32 → Int32 → Mem → Option (Mem)) (n : Nat) (k : Nat → Nat → Int32 → Int32 → Int32 → Int32 → Int32 → Mem → Option (Mem)) (r0 : Nat) (i1 : Int32) (i2 : Int32) (i3 : Int32) (i4 : Int32) (i5 : Int32) (μ : Mem) : Option (Mem) :=
  if 16 ≤ i5 then some μ else if ok μ r0 4 = true then if 64 < (mI μ r0 6) then some μ else Option.bind (C_JL_isIn n i5 i4 μ) (fun q12 => if q12.1 = 0 then k 2 r0 i1 i2 i3 i4 i5 q12.2 else if ok q12.2 r0 4 = true then Option.bind (C_JO_keepRowsWith n r0 i1 i3 i5 q12.2) (fun q14 => if ok q14 r0 4 = true then Option.bind (rc r0 (i1 + 1) ((i2 <<< (4 &&& 31)) ||| i5) q14) (fun q16 => k 2 r0 i1 i2 i3 i4 i5 q16) else none) else none) else none
def B_JO_choose_2 (rc : Nat → Int32 → Int32 → Mem → Option (Mem)) (n : Nat) (k : Nat → Nat → Int32 → Int32 → Int32 → Int32 → Int32 → Mem → Option (Mem)) (r0 : Nat) (i1 : Int32) (i2 : Int32) (i3 : Int32) (i4 : Int32) (i5 : Int32) (μ : Mem) : Option (Mem) :=
  Option.bind (some (i5 + 1)) (fun v17 => k 1 r0 i1 i2 i3 i4 v17 μ)
def F_JO_choose (rc : Nat → Int32 → Int32 → Mem → Option (Mem)) : Nat → Nat → Nat → Int32 → Int32 → Int32 → Int32 → Int32 → Mem → Option (Mem)
  | 0 => fun _ _ _ _ _ _ _ _ => none
  | n + 1 => fun id r0 i1 i2 i3 i4 i5 μ => match id with
    | 0 => B_JO_choose_0 rc n (F_JO_choose rc n) r0 i1 i2 i3 i4 i5 μ
    | 1 => B_JO_choose_1 rc n (F_JO_choose rc n) r0 i1 i2 i3 i4 i5 μ
    | 2 => B_JO_choose_2 rc n (F_JO_choose rc n) r0 i1 i2 i3 i4 i5 μ
    | _ => none
def C_JO_choose : Nat → Nat → Nat → Int32 → Int32 → Mem → Option (Mem)
  | 0 => fun _ _ _ _ _ => none
  | d + 1 => fun n r0 i1 i2 μ => F_JO_choose (fun w0 w1 w2 ν => C_JO_choose d n w0 w1 w2 ν) n 0 r0 i1 i2 0 0 0 μ
set_option maxHeartbeats 4000000 in
set_option maxRecDepth 100000 in
theorem S_JO_choose_step (l : Launch) (D : va_G) (b : Nat) (cs : Nat → ClassId) (d : Nat) (ihd : ∀ (u_r0 : Nat) (u_i1 : Int32) (u_i2 : Int32) (ν : Mem) (res : Mem) (n : Nat) (h : C_JO_choose d n u_r0 u_i1 u_i2 ν = some res), MetV l y_JO_choose w_JO_choose (4 + d) (94 + d * 25) b cs D ν [.ref (b + u_r0), .int u_i1, .int u_i2] res) : ∀ (u_r0 : Nat) (u_i1 : Int32) (u_i2 : Int32) (ν : Mem) (res : Mem) (n : Nat) (h : C_JO_choose (d + 1) n u_r0 u_i1 u_i2 ν = some res), MetV l y_JO_choose w_JO_choose (4 + (d + 1)) (94 + (d + 1) * 25) b cs D ν [.ref (b + u_r0), .int u_i1, .int u_i2] res := by
  intro u_r0 u_i1 u_i2 ν res n0 h
  refine Met.ofW (cc := b_JO_choose) (maxL := 6) (ret := (Option.none : Option Jvm.ClassFile.FieldType)) (by decide) rfl ?_
  intro p e s m args below meth c s₁ B hml hv
  obtain ⟨rfl, hK, hM⟩ := Wd.start hv
  have hx := B.exec
  have hb := B.bytes
  have hr := B.returns
  have hts : ∀ w ∈ jW, w.before _ s = true := fun w hw => atoms_spec (ws := w_JO_choose) B.pre w (List.mem_cons_of_mem _ hw)
  have hown : s.vm.findClass "JoinedLeaves$Join" = some m.cls := findClass_of_methodNamed B.named
  have hlocks := B.notSynchronized
  have hl := lv_entry ([.ref (b + u_r0), .int u_i1, .int u_i2]) (n := 6) (Nat.le_of_ble_eq_true rfl)
  rw [lg_entry_eq]
  generalize (lg_sl ([.ref (b + u_r0), .int u_i1, .int u_i2]) ++ List.replicate (6 - (lg_sl ([.ref (b + u_r0), .int u_i1, .int u_i2])).length) Slot.unset).toArray = ls at hl ⊢
  have hl : lv_has ls 6 [(0, .ref (b + u_r0)), (1, .int u_i1), (2, .int u_i2)] := hl
  have key : ∀ N : Nat, (∀ (r0 : Nat) (i1 : Int32) (i2 : Int32) (i3 : Int32) (i4 : Int32) (i5 : Int32) (μ : Mem) (H : Heap) (locs : List Loc) (ls : Array Slot), F_JO_choose (fun w0 w1 w2 ν => C_JO_choose d n0 w0 w1 w2 ν) N 0 r0 i1 i2 i3 i4 i5 μ = some res → Wd (Aw b (mN ν)) b cs D s.heap μ H locs → lv_has ls 6 [(0, .ref (b + r0)), (1, .int i1), (2, .int i2)] → W p l e (headSpec w_JO_choose { frames := 4 + (d + 1), cells := 0, slots := 0, locals := 94 + (d + 1) * 25 }).room s m ([.ref (b + u_r0), .int u_i1, .int u_i2]).toArray below meth c H locs 0 0 (MQ below (va_Qv (fun μ' => μ' = res ∧ mN μ' ≤ mN ν) (Bw b cs D) (Aw b (mN ν))) ([.ref (b + u_r0), .int u_i1, .int u_i2]).toArray s 0 0 (Aw b (mN ν))) (F0 m 0 ls [])) ∧
      (∀ (r0 : Nat) (i1 : Int32) (i2 : Int32) (i3 : Int32) (i4 : Int32) (i5 : Int32) (μ : Mem) (H : Heap) (locs : List Loc) (ls : Array Slot), F_JO_choose (fun w0 w1 w2 ν => C_JO_choose d n0 w0 w1 w2 ν) N 1 r0 i1 i2 i3 i4 i5 μ = some res → Wd (Aw b (mN ν)) b cs D s.heap μ H locs → lv_has ls 6 [(0, .ref (b + r0)), (1, .int i1), (2, .int i2), (3, .int i3), (4, .int i4), (5, .int i5)] → W p l e (headSpec w_JO_choose { frames := 4 + (d + 1), cells := 0, slots := 0, locals := 94 + (d + 1) * 25 }).room s m ([.ref (b + u_r0), .int u_i1, .int u_i2]).toArray below meth c H locs 0 0 (MQ below (va_Qv (fun μ' => μ' = res ∧ mN μ' ≤ mN ν) (Bw b cs D) (Aw b (mN ν))) ([.ref (b + u_r0), .int u_i1, .int u_i2]).toArray s 0 0 (Aw b (mN ν))) (F0 m 43 ls [])) ∧
      (∀ (r0 : Nat) (i1 : Int32) (i2 : Int32) (i3 : Int32) (i4 : Int32) (i5 : Int32) (μ : Mem) (H : Heap) (locs : List Loc) (ls : Array Slot), F_JO_choose (fun w0 w1 w2 ν => C_JO_choose d n0 w0 w1 w2 ν) N 2 r0 i1 i2 i3 i4 i5 μ = some res → Wd (Aw b (mN ν)) b cs D s.heap μ H locs → lv_has ls 6 [(0, .ref (b + r0)), (1, .int i1), (2, .int i2), (3, .int i3), (4, .int i4), (5, .int i5)] → W p l e (headSpec w_JO_choose { frames := 4 + (d + 1), cells := 0, slots := 0, locals := 94 + (d + 1) * 25 }).room s m ([.ref (b + u_r0), .int u_i1, .int u_i2]).toArray below meth c H locs 0 0 (MQ below (va_Qv (fun μ' => μ' = res ∧ mN μ' ≤ mN ν) (Bw b cs D) (Aw b (mN ν))) ([.ref (b + u_r0), .int u_i1, .int u_i2]).toArray s 0 0 (Aw b (mN ν))) (F0 m 90 ls [])) := by
    intro N
    induction N with
    | zero => exact ⟨fun _ _ _ _ _ _ _ _ _ _ h => (nomatch h), fun _ _ _ _ _ _ _ _ _ _ h => (nomatch h), fun _ _ _ _ _ _ _ _ _ _ h => (nomatch h)⟩
    | succ n ih =>
      obtain ⟨ih0, ih1, ih2⟩ := ih
      refine ⟨?_, ?_, ?_⟩
      · intro r0 i1 i2 i3 i4 i5 μ H locs ls h hM hl
        have h : B_JO_choose_0 (fun w0 w1 w2 ν => C_JO_choose d n0 w0 w1 w2 ν) n (F_JO_choose (fun w0 w1 w2 ν => C_JO_choose d n0 w0 w1 w2 ν) n) r0 i1 i2 i3 i4 i5 μ = some res := h
        unfold B_JO_choose_0 at h
        refine lv_iload_n hx hb d_JO_choose_0 rfl (lv_at hl 1 rfl) ?_
        refine lv_aload_n hx hb d_JO_choose_1 rfl (lv_at hl 0 rfl) ?_
        obtain ⟨g1, h⟩ := of_g h
        obtain ⟨g2, h⟩ := of_g h
        refine g_get (C := "JoinedLeaves$Join") (T := T_JO) (N := 7) (ref := "JoinedLeaves$Join") (v := .ref (b + (mR μ r0 0))) hx hb hts jF_JO hown hK hM g1 (by decide) rfl 0 (by decide) (hts _ jm_1_42) (fun _ h9 => h9) (by decide) (rv_of (ok_0 g2)) d_JO_choose_2 ?_
        refine g_getN (C := "JoinedLeaves$Question") (T := T_QU) (N := 5) (ref := "JoinedLeaves$Question") (v := .int (mI μ (mR μ r0 0) 3)) hx hb hts jF_QU hown hK hM g2 (by decide) rfl 3 (by decide) (hK.nest _ jn_17 rfl) (fun _ h9 => h9) (by decide) rfl d_JO_choose_5 ?_
        refine lv_icmp_lt (tgt := 17) hx hb d_JO_choose_8 (by decide) (fun hc => ?_) (fun hc => ?_)
        · replace h := of_t hc h
          refine lv_aload_n hx hb d_JO_choose_17 rfl (lv_at hl 0 rfl) ?_
          refine g_get (C := "JoinedLeaves$Join") (T := T_JO) (N := 7) (ref := "JoinedLeaves$Join") (v := .ref (b + (mR μ r0 0))) hx hb hts jF_JO hown hK hM g1 (by decide) rfl 0 (by decide) (hts _ jm_1_42) (fun _ h9 => h9) (by decide) (rv_of (ok_0 g2)) d_JO_choose_18 ?_
          obtain ⟨g3, h⟩ := of_g h
          refine g_getN (C := "JoinedLeaves$Question") (T := T_QU) (N := 5) (ref := "JoinedLeaves$Question") (v := .ref (b + (mR μ (mR μ r0 0) 2))) hx hb hts jF_QU hown hK hM g2 (by decide) rfl 2 (by decide) (hK.nest _ jn_16 rfl) (fun _ h9 => h9) (by decide) (rv_of (ok_0 g3)) d_JO_choose_21 ?_
          refine lv_iload_n hx hb d_JO_choose_24 rfl (lv_at hl 1 rfl) ?_
          obtain ⟨g4, h⟩ := of_g h
          refine g_iald hx hb hK hM g3 g4 d_JO_choose_25 ?_
          obtain ⟨v5, e_v5, h⟩ := of_b h
          refine top_i (Option.some.inj e_v5) ?_
          refine lv_istore_n hx hb d_JO_choose_26 rfl hl (by decide) rfl (fun ls hl => ?_)
          have hl : lv_has ls 6 [(3, .int v5), (0, .ref (b + r0)), (1, .int i1), (2, .int i2)] := hl
          refine lv_aload_n hx hb d_JO_choose_27 rfl (lv_at hl 1 rfl) ?_
          refine lv_iload_n hx hb d_JO_choose_28 rfl (lv_at hl 0 rfl) ?_
          refine lv_aload_n hx hb d_JO_choose_29 rfl (lv_at hl 1 rfl) ?_
          obtain ⟨g6, h⟩ := of_g h
          refine g_get (C := "JoinedLeaves$Join") (T := T_JO) (N := 7) (ref := "JoinedLeaves$Join") (v := .ref (b + (mR μ r0 3))) hx hb hts jF_JO hown hK hM g1 (by decide) rfl 3 (by decide) (hts _ jm_1_45) (fun _ h9 => h9) (by decide) (rv_of (ok_0 g6)) d_JO_choose_30 ?_
          refine lv_iload_n hx hb d_JO_choose_33 rfl (lv_at hl 2 rfl) ?_
          obtain ⟨g7, h⟩ := of_g h
          obtain ⟨g8, h⟩ := of_g h
          refine g_aald (ty := (.array .int)) hx hb hK hM 2 rfl rfl g6 g7 (ok_0 g8) d_JO_choose_34 ?_
          obtain ⟨q9, hq9, h⟩ := of_b h
          refine g_calli (va_runV (As := [.int v5, .ref (b + (mR μ (mR μ r0 3) (Int32.toNatClampNeg i1)))]) (rest := []) ⟨hx, hb, hml, hown, hts⟩ (S_JO_liveValuesOf l D b cs r0 v5 (mR μ (mR μ r0 3) (Int32.toNatClampNeg i1)) μ q9 n hq9) ⟨callB_of 2 hts (goodIn_g jm_7_26) rfl rfl rfl (hts _ jm_0_6) (hts _ jm_7_24) (by decide +kernel) ⟨Nat.le_trans (m := 4) (Nat.le_of_ble_eq_true rfl) (Nat.le_add_right _ _), Nat.le_trans (m := 94) (Nat.le_of_ble_eq_true rfl) (Nat.le_add_right _ _)⟩, (hts _ jm_7_25), (hts _ jm_12_8)⟩ (Wd.preV hK hM g1 rfl (by decide)) rfl rfl hl.1 rfl (lv_room (Nat.le_of_ble_eq_true rfl)) d_JO_choose_35 ⟨Nat.le_of_ble_eq_true rfl, Nat.le_of_ble_eq_true rfl⟩) hM (fun H locs hM => ?_)
          refine lv_istore hx hb d_JO_choose_38 hl (by decide) rfl (fun ls hl => ?_)
          have hl : lv_has ls 6 [(4, .int q9.1), (3, .int v5), (0, .ref (b + r0)), (1, .int i1), (2, .int i2)] := hl
          refine lv_iconst (v := 0) hx hb d_JO_choose_40 (by decide) ?_
          refine lv_istore hx hb d_JO_choose_41 hl (by decide) rfl (fun ls hl => ?_)
          have hl : lv_has ls 6 [(5, .int 0), (4, .int q9.1), (3, .int v5), (0, .ref (b + r0)), (1, .int i1), (2, .int i2)] := hl
          exact ih1 _ _ _ _ _ _ _ _ _ _ h hM (lv_sub hl [3, 4, 5, 2, 1, 0] rfl)
        · replace h := of_f hc h
          refine lv_aload_n hx hb d_JO_choose_11 rfl (lv_at hl 0 rfl) ?_
          refine lv_iload_n hx hb d_JO_choose_12 rfl (lv_at hl 2 rfl) ?_
          obtain ⟨q10, hq10, h⟩ := of_b h
          refine g_callv (va_runV (As := [.int i2]) (rest := []) ⟨hx, hb, hml, hown, hts⟩ (S_JO_storeAnswer l D b cs r0 i2 μ q10 n hq10) ⟨callB_of 1 hts (goodIn_g jm_7_23) rfl rfl rfl (hts _ jm_0_6) (hts _ jm_7_21) (by decide +kernel) ⟨Nat.le_trans (m := 4) (Nat.le_of_ble_eq_true rfl) (Nat.le_add_right _ _), Nat.le_trans (m := 94) (Nat.le_of_ble_eq_true rfl) (Nat.le_add_right _ _)⟩, (hts _ jm_7_22), (hts _ jm_12_7)⟩ (Wd.preV hK hM g1 rfl (by decide)) rfl rfl hl.1 rfl (lv_room (Nat.le_of_ble_eq_true rfl)) d_JO_choose_13 ⟨Nat.le_of_ble_eq_true rfl, Nat.le_of_ble_eq_true rfl⟩) hM (fun H locs hM => ?_)
          exact g_vret hx hb hr hlocks hM (Option.some.inj h) d_JO_choose_16
      · intro r0 i1 i2 i3 i4 i5 μ H locs ls h hM hl
        have h : B_JO_choose_1 (fun w0 w1 w2 ν => C_JO_choose d n0 w0 w1 w2 ν) n (F_JO_choose (fun w0 w1 w2 ν => C_JO_choose d n0 w0 w1 w2 ν) n) r0 i1 i2 i3 i4 i5 μ = some res := h
        unfold B_JO_choose_1 at h
        refine lv_iload hx hb d_JO_choose_43 (lv_at hl 5 rfl) ?_
        refine lv_bipush (v := 16) hx hb d_JO_choose_45 (by decide) ?_
        refine lv_icmp_ge (tgt := 96) hx hb d_JO_choose_47 (by decide) (fun hc => ?_) (fun hc => ?_)
        · replace h := of_t hc h
          exact g_vret hx hb hr hlocks hM (Option.some.inj h) d_JO_choose_96
        · replace h := of_f hc h
          refine lv_aload_n hx hb d_JO_choose_50 rfl (lv_at hl 0 rfl) ?_
          obtain ⟨g11, h⟩ := of_g h
          refine g_get (C := "JoinedLeaves$Join") (T := T_JO) (N := 7) (ref := "JoinedLeaves$Join") (v := .int (mI μ r0 6)) hx hb hts jF_JO hown hK hM g11 (by decide) rfl 6 (by decide) (hts _ jm_2_0) (fun _ h9 => h9) (by decide) rfl d_JO_choose_51 ?_
          refine lv_bipush (v := 64) hx hb d_JO_choose_54 (by decide) ?_
          refine lv_icmp_gt (tgt := 96) hx hb d_JO_choose_56 (by decide) (fun hc => ?_) (fun hc => ?_)
          · replace h := of_t hc h
            exact g_vret hx hb hr hlocks hM (Option.some.inj h) d_JO_choose_96
          · replace h := of_f hc h
            refine lv_iload hx hb d_JO_choose_59 (lv_at hl 5 rfl) ?_
            refine lv_iload hx hb d_JO_choose_61 (lv_at hl 4 rfl) ?_
            obtain ⟨q12, hq12, h⟩ := of_b h
            refine g_calli (va_runSN (As := [.int i5, .int i4]) (rest := []) ⟨hx, hb, hml, hown, hts⟩ (S_JL_isIn l D b cs i5 i4 μ q12 n hq12) ⟨va_cnB 2 hts (goodIn_g jm_3_19) rfl rfl rfl (hK.2.1 _ jn_52) (hts _ jm_0_1) (by decide +kernel) ⟨Nat.le_trans (m := 4) (Nat.le_of_ble_eq_true rfl) (Nat.le_add_right _ _), Nat.le_trans (m := 94) (Nat.le_of_ble_eq_true rfl) (Nat.le_add_right _ _)⟩, (hts _ jm_3_18), trivial⟩ (Wd.preS hK hM) rfl rfl hl.1 rfl (lv_room (Nat.le_of_ble_eq_true rfl)) d_JO_choose_63 ⟨Nat.le_of_ble_eq_true rfl, Nat.le_of_ble_eq_true rfl⟩) hM (fun H locs hM => ?_)
            refine lv_if_eq (tgt := 90) hx hb d_JO_choose_66 (by decide) (fun hc => ?_) (fun hc => ?_)
            · replace h := of_t hc h
              exact ih2 _ _ _ _ _ _ _ _ _ _ h hM (lv_sub hl [0, 1, 2, 3, 4, 5] rfl)
            · replace h := of_f hc h
              refine lv_aload_n hx hb d_JO_choose_69 rfl (lv_at hl 0 rfl) ?_
              refine lv_iload_n hx hb d_JO_choose_70 rfl (lv_at hl 1 rfl) ?_
              refine lv_iload_n hx hb d_JO_choose_71 rfl (lv_at hl 3 rfl) ?_
              refine lv_iload hx hb d_JO_choose_72 (lv_at hl 5 rfl) ?_
              obtain ⟨g13, h⟩ := of_g h
              obtain ⟨q14, hq14, h⟩ := of_b h
              refine g_callv (va_runV (As := [.int i1, .int i3, .int i5]) (rest := []) ⟨hx, hb, hml, hown, hts⟩ (S_JO_keepRowsWith l D b cs r0 i1 i3 i5 q12.2 q14 n hq14) ⟨callB_of 3 hts (goodIn_g jm_7_33) rfl rfl rfl (hts _ jm_0_6) (hts _ jm_7_31) (by decide +kernel) ⟨Nat.le_trans (m := 4) (Nat.le_of_ble_eq_true rfl) (Nat.le_add_right _ _), Nat.le_trans (m := 94) (Nat.le_of_ble_eq_true rfl) (Nat.le_add_right _ _)⟩, (hts _ jm_7_32), (hts _ jm_12_11)⟩ (Wd.preV hK hM g13 rfl (by decide)) rfl rfl hl.1 rfl (lv_room (Nat.le_of_ble_eq_true rfl)) d_JO_choose_74 ⟨Nat.le_of_ble_eq_true rfl, Nat.le_of_ble_eq_true rfl⟩) hM (fun H locs hM => ?_)
              refine lv_aload_n hx hb d_JO_choose_77 rfl (lv_at hl 0 rfl) ?_
              refine lv_iload_n hx hb d_JO_choose_78 rfl (lv_at hl 1 rfl) ?_
              refine lv_iconst (v := 1) hx hb d_JO_choose_79 (by decide) ?_
              refine lv_iadd hx hb d_JO_choose_80 ?_
              refine lv_iload_n hx hb d_JO_choose_81 rfl (lv_at hl 2 rfl) ?_
              refine lv_iconst (v := 4) hx hb d_JO_choose_82 (by decide) ?_
              refine lv_ishl hx hb d_JO_choose_83 ?_
              refine lv_iload hx hb d_JO_choose_84 (lv_at hl 5 rfl) ?_
              refine lv_ior hx hb d_JO_choose_86 ?_
              obtain ⟨g15, h⟩ := of_g h
              obtain ⟨q16, hq16, h⟩ := of_b h
              refine g_callv (va_runV (As := [.int (i1 + 1), .int ((i2 <<< (4 &&& 31)) ||| i5)]) (rest := []) ⟨hx, hb, hml, hown, hts⟩ (ihd r0 (i1 + 1) ((i2 <<< (4 &&& 31)) ||| i5) q14 q16 n0 hq16) ⟨callB_of 2 hts (goodIn_g jm_7_20) rfl rfl rfl (hts _ jm_0_6) (hts _ jm_7_18) (by decide +kernel) ⟨Nat.le_refl _, by show 8 + (6 + 11) + (94 + d * 25) ≤ 94 + (d + 1) * 25; omega⟩, (hts _ jm_7_19), (hts _ jm_12_6)⟩ (Wd.preV hK hM g15 rfl (by decide)) rfl rfl hl.1 rfl (lv_room (Nat.le_of_ble_eq_true rfl)) d_JO_choose_87 ⟨Nat.le_of_ble_eq_true rfl, Nat.le_of_ble_eq_true rfl⟩) hM (fun H locs hM => ?_)
              exact ih2 _ _ _ _ _ _ _ _ _ _ h hM (lv_sub hl [0, 1, 2, 3, 4, 5] rfl)
      · intro r0 i1 i2 i3 i4 i5 μ H locs ls h hM hl
        have h : B_JO_choose_2 (fun w0 w1 w2 ν => C_JO_choose d n0 w0 w1 w2 ν) n (F_JO_choose (fun w0 w1 w2 ν => C_JO_choose d n0 w0 w1 w2 ν) n) r0 i1 i2 i3 i4 i5 μ = some res := h
        unfold B_JO_choose_2 at h
        obtain ⟨v17, e_v17, h⟩ := of_b h
        refine lv_iinc (v := v17) hx hb d_JO_choose_90 hl (k := 5) rfl (by rw [lit1]; exact Option.some.inj e_v17) (by decide) rfl (fun ls hl => ?_)
        have hl : lv_has ls 6 [(5, .int v17), (0, .ref (b + r0)), (1, .int i1), (2, .int i2), (3, .int i3), (4, .int i4)] := hl
        refine lv_goto (tgt := 43) hx hb d_JO_choose_93 (by decide) ?_
        exact ih1 _ _ _ _ _ _ _ _ _ _ h hM (lv_sub hl [1, 2, 3, 4, 5, 0] rfl)
  exact (key n0).1 _ _ _ _ _ _ _ _ _ _ h hM hl
theorem S_JO_choose (l : Launch) (D : va_G) (b : Nat) (cs : Nat → ClassId) : ∀ d : Nat, ∀ (u_r0 : Nat) (u_i1 : Int32) (u_i2 : Int32) (ν : Mem) (res : Mem) (n : Nat) (h : C_JO_choose d n u_r0 u_i1 u_i2 ν = some res), MetV l y_JO_choose w_JO_choose (4 + d) (94 + d * 25) b cs D ν [.ref (b + u_r0), .int u_i1, .int u_i2] res := by
  intro d
  induction d with
  | zero => intro _ _ _ ν res n h; exact (nomatch h)
  | succ d ihd => exact S_JO_choose_step l D b cs d ihd
abbrev w_JO_search : List Cond := .code y_JO_search b_JO_search 1 (Option.none : Option Jvm.ClassFile.FieldType) :: jW
def C_JO_search (n : Nat) (r0 : Nat) (μ : Mem) : Option (Mem) :=
  if ok μ r0 4 = true then Option.bind (some (sI μ r0 6 0)) (fun μ2 => Option.bind (C_JO_compareRows n r0 μ2) (fun q3 => if ok q3 r0 4 = true then if ok q3 (mR q3 r0 3) 104 = true then if ib 0 (mZ q3 (mR q3 r0 3)) = true then if ok q3 (mR q3 (mR q3 r0 3) (Int32.toNatClampNeg 0)) 100 = true then Option.bind (C_JO_keepLiveRows n r0 (mR q3 (mR q3 r0 3) (Int32.toNatClampNeg 0)) q3) (fun q8 => if ok q8 r0 4 = true then if ok q8 (mR q8 r0 3) 104 = true then if ib 0 (mZ q8 (mR q8 r0 3)) = true then if ok q8 (mR q8 (mR q8 r0 3) (Int32.toNatClampNeg 0)) 100 = true then Option.bind (C_JO_hasWay n r0 (mR q8 (mR q8 r0 3) (Int32.toNatClampNeg 0)) q8) (fun q13 => if q13.1 = 0 then some q13.2 else if ok q13.2 r0 4 = true then Option.bind (C_JO_choose 6 n r0 0 0 q13.2) (fun q15 => some q15) else none) else none else none else none else none) else none else none else none else none)) else none
set_option maxHeartbeats 4000000 in
set_option maxRecDepth 100000 in
theorem S_JO_search (l : Launch) (D : va_G) (b : Nat) (cs : Nat → ClassId) (r0 : Nat) (μ : Mem) (res : Mem) (n : Nat) (h : C_JO_search n r0 μ = some res) : MetV l y_JO_search w_JO_search 11 269 b cs D μ [.ref (b + r0)] res := by
  refine Met.ofW (cc := b_JO_search) (maxL := 1) (ret := (Option.none : Option Jvm.ClassFile.FieldType)) (by decide) rfl ?_
  intro p e s m args below meth c s₁ B hml hv
  obtain ⟨rfl, hK, hM⟩ := Wd.start hv
  have hx := B.exec
  have hb := B.bytes
  have hr := B.returns
  have hts : ∀ w ∈ jW, w.before _ s = true := fun w hw => atoms_spec (ws := w_JO_search) B.pre w (List.mem_cons_of_mem _ hw)
  have hown : s.vm.findClass "JoinedLeaves$Join" = some m.cls := findClass_of_methodNamed B.named
  have hlocks := B.notSynchronized
  have hl := lv_entry ([.ref (b + r0)]) (n := 1) (Nat.le_of_ble_eq_true rfl)
  rw [lg_entry_eq]
  generalize (lg_sl ([.ref (b + r0)]) ++ List.replicate (1 - (lg_sl ([.ref (b + r0)])).length) Slot.unset).toArray = ls at hl ⊢
  have hl : lv_has ls 1 [(0, .ref (b + r0))] := hl
  unfold C_JO_search at h
  refine lv_aload_n hx hb d_JO_search_0 rfl (lv_at hl 0 rfl) ?_
  refine lv_iconst (v := 0) hx hb d_JO_search_1 (by decide) ?_
  obtain ⟨g1, h⟩ := of_g h
  obtain ⟨μ2, e_μ2, h⟩ := of_b h
  obtain rfl := Option.some.inj e_μ2
  refine g_puti (v := 0) (C := "JoinedLeaves$Join") (T := T_JO) (N := 7) (ref := "JoinedLeaves$Join") hx hb hts jF_JO t_JO o_JO n_JO hown hK hM g1 (by decide) rfl 6 (by decide) (hts _ jm_2_0) (fun _ h9 => h9) rfl (ty := .int) (by decide +kernel) rfl rfl (by decide) (Or.inl rfl) d_JO_search_2 (fun H locs hM => ?_)
  refine lv_aload_n hx hb d_JO_search_5 rfl (lv_at hl 0 rfl) ?_
  obtain ⟨q3, hq3, h⟩ := of_b h
  refine g_callv (va_runV (As := []) (rest := []) ⟨hx, hb, hml, hown, hts⟩ (S_JO_compareRows l D b cs r0 (sI μ r0 6 0) q3 n hq3) ⟨callB_of 0 hts (goodIn_g jm_5_20) rfl rfl rfl (hts _ jm_0_6) (hts _ jm_5_18) (by decide +kernel) ⟨Nat.le_of_ble_eq_true rfl, Nat.le_of_ble_eq_true rfl⟩, (hts _ jm_5_19), (hts _ jm_11_37)⟩ (Wd.preV hK hM g1 rfl (by decide)) rfl rfl hl.1 rfl (lv_room (Nat.le_of_ble_eq_true rfl)) d_JO_search_6 ⟨Nat.le_of_ble_eq_true rfl, Nat.le_of_ble_eq_true rfl⟩) hM (fun H locs hM => ?_)
  refine lv_aload_n hx hb d_JO_search_9 rfl (lv_at hl 0 rfl) ?_
  refine lv_aload_n hx hb d_JO_search_10 rfl (lv_at hl 0 rfl) ?_
  obtain ⟨g4, h⟩ := of_g h
  obtain ⟨g5, h⟩ := of_g h
  refine g_get (C := "JoinedLeaves$Join") (T := T_JO) (N := 7) (ref := "JoinedLeaves$Join") (v := .ref (b + (mR q3 r0 3))) hx hb hts jF_JO hown hK hM g4 (by decide) rfl 3 (by decide) (hts _ jm_1_45) (fun _ h9 => h9) (by decide) (rv_of (ok_0 g5)) d_JO_search_11 ?_
  refine lv_iconst (v := 0) hx hb d_JO_search_14 (by decide) ?_
  obtain ⟨g6, h⟩ := of_g h
  obtain ⟨g7, h⟩ := of_g h
  refine g_aald (ty := (.array .int)) hx hb hK hM 2 rfl rfl g5 g6 (ok_0 g7) d_JO_search_15 ?_
  obtain ⟨q8, hq8, h⟩ := of_b h
  refine g_callv (va_runV (As := [.ref (b + (mR q3 (mR q3 r0 3) (Int32.toNatClampNeg 0)))]) (rest := []) ⟨hx, hb, hml, hown, hts⟩ (S_JO_keepLiveRows l D b cs r0 (mR q3 (mR q3 r0 3) (Int32.toNatClampNeg 0)) q3 q8 n hq8) ⟨callB_of 1 hts (goodIn_g jm_6_20) rfl rfl rfl (hts _ jm_0_6) (hts _ jm_6_18) (by decide +kernel) ⟨Nat.le_of_ble_eq_true rfl, Nat.le_of_ble_eq_true rfl⟩, (hts _ jm_6_19), (hts _ jm_11_47)⟩ (Wd.preV hK hM g4 rfl (by decide)) rfl rfl hl.1 rfl (lv_room (Nat.le_of_ble_eq_true rfl)) d_JO_search_16 ⟨Nat.le_of_ble_eq_true rfl, Nat.le_of_ble_eq_true rfl⟩) hM (fun H locs hM => ?_)
  refine lv_aload_n hx hb d_JO_search_19 rfl (lv_at hl 0 rfl) ?_
  refine lv_aload_n hx hb d_JO_search_20 rfl (lv_at hl 0 rfl) ?_
  obtain ⟨g9, h⟩ := of_g h
  obtain ⟨g10, h⟩ := of_g h
  refine g_get (C := "JoinedLeaves$Join") (T := T_JO) (N := 7) (ref := "JoinedLeaves$Join") (v := .ref (b + (mR q8 r0 3))) hx hb hts jF_JO hown hK hM g9 (by decide) rfl 3 (by decide) (hts _ jm_1_45) (fun _ h9 => h9) (by decide) (rv_of (ok_0 g10)) d_JO_search_21 ?_
  refine lv_iconst (v := 0) hx hb d_JO_search_24 (by decide) ?_
  obtain ⟨g11, h⟩ := of_g h
  obtain ⟨g12, h⟩ := of_g h
  refine g_aald (ty := (.array .int)) hx hb hK hM 2 rfl rfl g10 g11 (ok_0 g12) d_JO_search_25 ?_
  obtain ⟨q13, hq13, h⟩ := of_b h
  refine g_calli (va_runV (As := [.ref (b + (mR q8 (mR q8 r0 3) (Int32.toNatClampNeg 0)))]) (rest := []) ⟨hx, hb, hml, hown, hts⟩ (S_JO_hasWay l D b cs r0 (mR q8 (mR q8 r0 3) (Int32.toNatClampNeg 0)) q8 q13 n hq13) ⟨callB_of 1 hts (goodIn_g jm_7_17) rfl rfl rfl (hts _ jm_0_6) (hts _ jm_7_15) (by decide +kernel) ⟨Nat.le_of_ble_eq_true rfl, Nat.le_of_ble_eq_true rfl⟩, (hts _ jm_7_16), (hts _ jm_12_5)⟩ (Wd.preV hK hM g9 rfl (by decide)) rfl rfl hl.1 rfl (lv_room (Nat.le_of_ble_eq_true rfl)) d_JO_search_26 ⟨Nat.le_of_ble_eq_true rfl, Nat.le_of_ble_eq_true rfl⟩) hM (fun H locs hM => ?_)
  refine lv_if_eq (tgt := 38) hx hb d_JO_search_29 (by decide) (fun hc => ?_) (fun hc => ?_)
  · replace h := of_t hc h
    exact g_vret hx hb hr hlocks hM (Option.some.inj h) d_JO_search_38
  · replace h := of_f hc h
    refine lv_aload_n hx hb d_JO_search_32 rfl (lv_at hl 0 rfl) ?_
    refine lv_iconst (v := 0) hx hb d_JO_search_33 (by decide) ?_
    refine lv_iconst (v := 0) hx hb d_JO_search_34 (by decide) ?_
    obtain ⟨g14, h⟩ := of_g h
    obtain ⟨q15, hq15, h⟩ := of_b h
    refine g_callv (va_runV (As := [.int 0, .int 0]) (rest := []) ⟨hx, hb, hml, hown, hts⟩ (S_JO_choose l D b cs 6 r0 0 0 q13.2 q15 n hq15) ⟨callB_of 2 hts (goodIn_g jm_7_20) rfl rfl rfl (hts _ jm_0_6) (hts _ jm_7_18) (by decide +kernel) ⟨Nat.le_of_ble_eq_true rfl, Nat.le_of_ble_eq_true rfl⟩, (hts _ jm_7_19), (hts _ jm_12_6)⟩ (Wd.preV hK hM g14 rfl (by decide)) rfl rfl hl.1 rfl (lv_room (Nat.le_of_ble_eq_true rfl)) d_JO_search_35 ⟨Nat.le_of_ble_eq_true rfl, Nat.le_of_ble_eq_true rfl⟩) hM (fun H locs hM => ?_)
    exact g_vret hx hb hr hlocks hM (Option.some.inj h) d_JO_search_38
