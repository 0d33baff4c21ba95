/-! By program (wip/whole/gen.py): for each method its function over memories, and its contract. -/
abbrev w_MO_init : List Cond := .code y_MO_init b_MO_init 1 (Option.none : Option Jvm.ClassFile.FieldType) :: jW
def C_MO_init (n : Nat) (r0 : Nat) (μ : Mem) : Option Mem :=
  Option.bind (some (al μ 100 6)) (fun μ1 => if ok μ1 r0 6 = true then if ok μ1 (mN μ + 1) 100 = true then Option.bind (some (sR μ1 r0 2 (mN μ + 1))) (fun μ5 => Option.bind (some (al μ5 100 6)) (fun μ7 => if ok μ7 r0 6 = true then if ok μ7 (mN μ5 + 1) 100 = true then Option.bind (some (sR μ7 r0 3 (mN μ5 + 1))) (fun μ11 => Option.bind (some (al μ11 100 216)) (fun μ13 => if ok μ13 r0 6 = true then if ok μ13 (mN μ11 + 1) 100 = true then Option.bind (some (sR μ13 r0 4 (mN μ11 + 1))) (fun μ17 => Option.bind (some (al μ17 100 6)) (fun μ19 => if ok μ19 r0 6 = true then if ok μ19 (mN μ17 + 1) 100 = true then Option.bind (some (sR μ19 r0 6 (mN μ17 + 1))) (fun μ23 => Option.bind (some (al μ23 100 18)) (fun μ25 => if ok μ25 r0 6 = true then if ok μ25 (mN μ23 + 1) 100 = true then Option.bind (some (sR μ25 r0 7 (mN μ23 + 1))) (fun μ29 => Option.bind (some (al μ29 100 4)) (fun μ31 => if ok μ31 r0 6 = true then if ok μ31 (mN μ29 + 1) 100 = true then Option.bind (some (sR μ31 r0 9 (mN μ29 + 1))) (fun μ35 => Option.bind (some (al μ35 100 6)) (fun μ37 => if ok μ37 r0 6 = true then if ok μ37 (mN μ35 + 1) 100 = true then Option.bind (some (sR μ37 r0 11 (mN μ35 + 1))) (fun μ41 => Option.bind (some (al μ41 100 6)) (fun μ43 => if ok μ43 r0 6 = true then if ok μ43 (mN μ41 + 1) 100 = true then Option.bind (some (sR μ43 r0 12 (mN μ41 + 1))) (fun μ47 => Option.bind (some (al μ47 100 8)) (fun μ49 => if ok μ49 r0 6 = true then if ok μ49 (mN μ47 + 1) 100 = true then Option.bind (some (sR μ49 r0 15 (mN μ47 + 1))) (fun μ53 => Option.bind (some (al μ53 100 7)) (fun μ55 => if ok μ55 r0 6 = true then if ok μ55 (mN μ53 + 1) 100 = true then Option.bind (some (sR μ55 r0 16 (mN μ53 + 1))) (fun μ59 => Option.bind (some (al μ59 100 6)) (fun μ61 => if ok μ61 r0 6 = true then if ok μ61 (mN μ59 + 1) 100 = true then Option.bind (some (sR μ61 r0 17 (mN μ59 + 1))) (fun μ65 => Option.bind (some (al μ65 100 2048)) (fun μ67 => if ok μ67 r0 6 = true then if ok μ67 (mN μ65 + 1) 100 = true then Option.bind (some (sR μ67 r0 18 (mN μ65 + 1))) (fun μ71 => Option.bind (some (al μ71 100 64)) (fun μ73 => if ok μ73 r0 6 = true then if ok μ73 (mN μ71 + 1) 100 = true then Option.bind (some (sR μ73 r0 20 (mN μ71 + 1))) (fun μ77 => some μ77) else none else none)) else none else none)) else none else none)) else none else none)) else none else none)) else none else none)) else none else none)) else none else none)) else none else none)) else none else none)) else none else none)) else none else none)) else none else none)
set_option maxHeartbeats 4000000 in
set_option maxRecDepth 100000 in
theorem S_MO_init (l : Launch) (D : va_G) (b : Nat) (cs : Nat → ClassId) (r0 : Nat) (μ : Mem) (res : Mem) (n : Nat) (h : C_MO_init n r0 μ = some res) : MetC l y_MO_init w_MO_init 1 13 2401 12 b cs D μ [.ref (b + r0)] res := by
  refine Met.ofW (cc := b_MO_init) (maxL := 1) (ret := (Option.none : Option Jvm.ClassFile.FieldType)) (by decide) rfl ?_
  intro p e s m args below meth c s₁ B hml hv
  obtain ⟨rfl, hsz, hK, hM⟩ := Wd.startC hv
  have hx := B.exec
  have hb := B.bytes
  have hr := B.returns
  have hts : ∀ w ∈ jW, w.before _ s = true := fun w hw => atoms_spec (ws := w_MO_init) B.pre w (List.mem_cons_of_mem _ hw)
  have hown : s.vm.findClass "JoinedLeavesModel" = some m.cls := findClass_of_methodNamed B.named
  have hlocks := B.notSynchronized
  have hin : meth.name = "<init>" := (name_of_methodNamed B.named B.method).1
  have hN0 : mN μ = mN μ + 0 := rfl
  have hl := lv_entry ([.ref (b + r0)]) (n := 1) (Nat.le_of_ble_eq_true rfl)
  rw [lg_entry_eq]
  generalize (lg_sl ([.ref (b + r0)]) ++ List.replicate (1 - (lg_sl ([.ref (b + r0)])).length) Slot.unset).toArray = ls at hl ⊢
  have hl : lv_has ls 1 [(0, .ref (b + r0))] := hl
  unfold C_MO_init at h
  refine lv_aload_n hx hb d_MO_init_0 rfl (lv_at hl 0 rfl) ?_
  refine W.objInit hx hb hown (hts _ jm_8_14) (hts _ jm_0_22) (hts _ jm_0_23) rfl (by rw [hml]; exact hl.1) rfl d_MO_init_1 (Nat.le_of_ble_eq_true rfl) (Nat.le_of_ble_eq_true rfl) ?_
  refine W.eq (g2 := F0 m 4 ls []) rfl ?_
  refine lv_aload_n hx hb d_MO_init_4 rfl (lv_at hl 0 rfl) ?_
  refine lv_bipush (v := 6) hx hb d_MO_init_5 (by decide) ?_
  obtain ⟨μ1, e_μ1, h⟩ := of_b h
  refine g_newi (N := 6) (atype := .int) hx hb rfl (hts _ jm_0_36) hK hM (cs_of hsz hN0) rfl (by decide) (by decide) (by decide) (Nat.le_of_ble_eq_true rfl) (Nat.le_of_ble_eq_true rfl) d_MO_init_7 (fun H hM => ?_)
  refine W.widen (k := 1) (n := 6) (by decide) (by decide) ?_
  rw [Option.some.inj e_μ1] at hM
  have hN2 : mN μ1 = mN μ + 1 := by rw [← Option.some.inj e_μ1]; exact congrArg (· + 1) hN0
  obtain ⟨g3, h⟩ := of_g h
  obtain ⟨g4, h⟩ := of_g h
  obtain ⟨μ5, e_μ5, h⟩ := of_b h
  refine g_putrF (v := mN μ + 1) (C := "JoinedLeavesModel") (T := T_MO) (N := 21) (ref := "JoinedLeavesModel") hx hb hts jF_MO t_MO o_MO n_MO hown hK hM g3 (by decide) rfl 2 (by decide) (hts _ jm_8_17) (fun _ h9 => h9) rfl hin rfl (ty := (.array .int)) (by decide +kernel) rfl rfl (by decide) (fun _ => rfl) (ok_0 g4) d_MO_init_9 (fun H locs hM => ?_)
  rw [Option.some.inj e_μ5] at hM
  have hN6 : mN μ5 = mN μ + 1 := by rw [← Option.some.inj e_μ5]; exact hN2
  refine lv_aload_n hx hb d_MO_init_12 rfl (lv_at hl 0 rfl) ?_
  refine lv_bipush (v := 6) hx hb d_MO_init_13 (by decide) ?_
  obtain ⟨μ7, e_μ7, h⟩ := of_b h
  refine g_newi (N := 6) (atype := .int) hx hb rfl (hts _ jm_0_36) hK hM (cs_of hsz hN6) rfl (by decide) (by decide) (by decide) (Nat.le_of_ble_eq_true rfl) (Nat.le_of_ble_eq_true rfl) d_MO_init_15 (fun H hM => ?_)
  refine W.widen (k := 2) (n := 12) (by decide) (by decide) ?_
  rw [Option.some.inj e_μ7] at hM
  have hN8 : mN μ7 = mN μ + 2 := by rw [← Option.some.inj e_μ7]; exact congrArg (· + 1) hN6
  obtain ⟨g9, h⟩ := of_g h
  obtain ⟨g10, h⟩ := of_g h
  obtain ⟨μ11, e_μ11, h⟩ := of_b h
  refine g_putrF (v := mN μ5 + 1) (C := "JoinedLeavesModel") (T := T_MO) (N := 21) (ref := "JoinedLeavesModel") hx hb hts jF_MO t_MO o_MO n_MO hown hK hM g9 (by decide) rfl 3 (by decide) (hts _ jm_8_18) (fun _ h9 => h9) rfl hin rfl (ty := (.array .int)) (by decide +kernel) rfl rfl (by decide) (fun _ => rfl) (ok_0 g10) d_MO_init_17 (fun H locs hM => ?_)
  rw [Option.some.inj e_μ11] at hM
  have hN12 : mN μ11 = mN μ + 2 := by rw [← Option.some.inj e_μ11]; exact hN8
  refine lv_aload_n hx hb d_MO_init_20 rfl (lv_at hl 0 rfl) ?_
  refine lv_sipush (v := 216) hx hb d_MO_init_21 (by decide) ?_
  obtain ⟨μ13, e_μ13, h⟩ := of_b h
  refine g_newi (N := 216) (atype := .int) hx hb rfl (hts _ jm_0_36) hK hM (cs_of hsz hN12) rfl (by decide) (by decide) (by decide) (Nat.le_of_ble_eq_true rfl) (Nat.le_of_ble_eq_true rfl) d_MO_init_24 (fun H hM => ?_)
  refine W.widen (k := 3) (n := 228) (by decide) (by decide) ?_
  rw [Option.some.inj e_μ13] at hM
  have hN14 : mN μ13 = mN μ + 3 := by rw [← Option.some.inj e_μ13]; exact congrArg (· + 1) hN12
  obtain ⟨g15, h⟩ := of_g h
  obtain ⟨g16, h⟩ := of_g h
  obtain ⟨μ17, e_μ17, h⟩ := of_b h
  refine g_putrF (v := mN μ11 + 1) (C := "JoinedLeavesModel") (T := T_MO) (N := 21) (ref := "JoinedLeavesModel") hx hb hts jF_MO t_MO o_MO n_MO hown hK hM g15 (by decide) rfl 4 (by decide) (hts _ jm_8_19) (fun _ h9 => h9) rfl hin rfl (ty := (.array .int)) (by decide +kernel) rfl rfl (by decide) (fun _ => rfl) (ok_0 g16) d_MO_init_26 (fun H locs hM => ?_)
  rw [Option.some.inj e_μ17] at hM
  have hN18 : mN μ17 = mN μ + 3 := by rw [← Option.some.inj e_μ17]; exact hN14
  refine lv_aload_n hx hb d_MO_init_29 rfl (lv_at hl 0 rfl) ?_
  refine lv_bipush (v := 6) hx hb d_MO_init_30 (by decide) ?_
  obtain ⟨μ19, e_μ19, h⟩ := of_b h
  refine g_newi (N := 6) (atype := .int) hx hb rfl (hts _ jm_0_36) hK hM (cs_of hsz hN18) rfl (by decide) (by decide) (by decide) (Nat.le_of_ble_eq_true rfl) (Nat.le_of_ble_eq_true rfl) d_MO_init_32 (fun H hM => ?_)
  refine W.widen (k := 4) (n := 234) (by decide) (by decide) ?_
  rw [Option.some.inj e_μ19] at hM
  have hN20 : mN μ19 = mN μ + 4 := by rw [← Option.some.inj e_μ19]; exact congrArg (· + 1) hN18
  obtain ⟨g21, h⟩ := of_g h
  obtain ⟨g22, h⟩ := of_g h
  obtain ⟨μ23, e_μ23, h⟩ := of_b h
  refine g_putrF (v := mN μ17 + 1) (C := "JoinedLeavesModel") (T := T_MO) (N := 21) (ref := "JoinedLeavesModel") hx hb hts jF_MO t_MO o_MO n_MO hown hK hM g21 (by decide) rfl 6 (by decide) (hts _ jm_8_21) (fun _ h9 => h9) rfl hin rfl (ty := (.array .int)) (by decide +kernel) rfl rfl (by decide) (fun _ => rfl) (ok_0 g22) d_MO_init_34 (fun H locs hM => ?_)
  rw [Option.some.inj e_μ23] at hM
  have hN24 : mN μ23 = mN μ + 4 := by rw [← Option.some.inj e_μ23]; exact hN20
  refine lv_aload_n hx hb d_MO_init_37 rfl (lv_at hl 0 rfl) ?_
  refine lv_bipush (v := 18) hx hb d_MO_init_38 (by decide) ?_
  obtain ⟨μ25, e_μ25, h⟩ := of_b h
  refine g_newi (N := 18) (atype := .int) hx hb rfl (hts _ jm_0_36) hK hM (cs_of hsz hN24) rfl (by decide) (by decide) (by decide) (Nat.le_of_ble_eq_true rfl) (Nat.le_of_ble_eq_true rfl) d_MO_init_40 (fun H hM => ?_)
  refine W.widen (k := 5) (n := 252) (by decide) (by decide) ?_
  rw [Option.some.inj e_μ25] at hM
  have hN26 : mN μ25 = mN μ + 5 := by rw [← Option.some.inj e_μ25]; exact congrArg (· + 1) hN24
  obtain ⟨g27, h⟩ := of_g h
  obtain ⟨g28, h⟩ := of_g h
  obtain ⟨μ29, e_μ29, h⟩ := of_b h
  refine g_putrF (v := mN μ23 + 1) (C := "JoinedLeavesModel") (T := T_MO) (N := 21) (ref := "JoinedLeavesModel") hx hb hts jF_MO t_MO o_MO n_MO hown hK hM g27 (by decide) rfl 7 (by decide) (hts _ jm_8_22) (fun _ h9 => h9) rfl hin rfl (ty := (.array .int)) (by decide +kernel) rfl rfl (by decide) (fun _ => rfl) (ok_0 g28) d_MO_init_42 (fun H locs hM => ?_)
  rw [Option.some.inj e_μ29] at hM
  have hN30 : mN μ29 = mN μ + 5 := by rw [← Option.some.inj e_μ29]; exact hN26
  refine lv_aload_n hx hb d_MO_init_45 rfl (lv_at hl 0 rfl) ?_
  refine lv_iconst (v := 4) hx hb d_MO_init_46 (by decide) ?_
  obtain ⟨μ31, e_μ31, h⟩ := of_b h
  refine g_newi (N := 4) (atype := .int) hx hb rfl (hts _ jm_0_36) hK hM (cs_of hsz hN30) rfl (by decide) (by decide) (by decide) (Nat.le_of_ble_eq_true rfl) (Nat.le_of_ble_eq_true rfl) d_MO_init_47 (fun H hM => ?_)
  refine W.widen (k := 6) (n := 256) (by decide) (by decide) ?_
  rw [Option.some.inj e_μ31] at hM
  have hN32 : mN μ31 = mN μ + 6 := by rw [← Option.some.inj e_μ31]; exact congrArg (· + 1) hN30
  obtain ⟨g33, h⟩ := of_g h
  obtain ⟨g34, h⟩ := of_g h
  obtain ⟨μ35, e_μ35, h⟩ := of_b h
  refine g_putrF (v := mN μ29 + 1) (C := "JoinedLeavesModel") (T := T_MO) (N := 21) (ref := "JoinedLeavesModel") hx hb hts jF_MO t_MO o_MO n_MO hown hK hM g33 (by decide) rfl 9 (by decide) (hts _ jm_8_24) (fun _ h9 => h9) rfl hin rfl (ty := (.array .int)) (by decide +kernel) rfl rfl (by decide) (fun _ => rfl) (ok_0 g34) d_MO_init_49 (fun H locs hM => ?_)
  rw [Option.some.inj e_μ35] at hM
  have hN36 : mN μ35 = mN μ + 6 := by rw [← Option.some.inj e_μ35]; exact hN32
  refine lv_aload_n hx hb d_MO_init_52 rfl (lv_at hl 0 rfl) ?_
  refine lv_bipush (v := 6) hx hb d_MO_init_53 (by decide) ?_
  obtain ⟨μ37, e_μ37, h⟩ := of_b h
  refine g_newi (N := 6) (atype := .int) hx hb rfl (hts _ jm_0_36) hK hM (cs_of hsz hN36) rfl (by decide) (by decide) (by decide) (Nat.le_of_ble_eq_true rfl) (Nat.le_of_ble_eq_true rfl) d_MO_init_55 (fun H hM => ?_)
  refine W.widen (k := 7) (n := 262) (by decide) (by decide) ?_
  rw [Option.some.inj e_μ37] at hM
  have hN38 : mN μ37 = mN μ + 7 := by rw [← Option.some.inj e_μ37]; exact congrArg (· + 1) hN36
  obtain ⟨g39, h⟩ := of_g h
  obtain ⟨g40, h⟩ := of_g h
  obtain ⟨μ41, e_μ41, h⟩ := of_b h
  refine g_putrF (v := mN μ35 + 1) (C := "JoinedLeavesModel") (T := T_MO) (N := 21) (ref := "JoinedLeavesModel") hx hb hts jF_MO t_MO o_MO n_MO hown hK hM g39 (by decide) rfl 11 (by decide) (hts _ jm_8_26) (fun _ h9 => h9) rfl hin rfl (ty := (.array .int)) (by decide +kernel) rfl rfl (by decide) (fun _ => rfl) (ok_0 g40) d_MO_init_57 (fun H locs hM => ?_)
  rw [Option.some.inj e_μ41] at hM
  have hN42 : mN μ41 = mN μ + 7 := by rw [← Option.some.inj e_μ41]; exact hN38
  refine lv_aload_n hx hb d_MO_init_60 rfl (lv_at hl 0 rfl) ?_
  refine lv_bipush (v := 6) hx hb d_MO_init_61 (by decide) ?_
  obtain ⟨μ43, e_μ43, h⟩ := of_b h
  refine g_newi (N := 6) (atype := .int) hx hb rfl (hts _ jm_0_36) hK hM (cs_of hsz hN42) rfl (by decide) (by decide) (by decide) (Nat.le_of_ble_eq_true rfl) (Nat.le_of_ble_eq_true rfl) d_MO_init_63 (fun H hM => ?_)
  refine W.widen (k := 8) (n := 268) (by decide) (by decide) ?_
  rw [Option.some.inj e_μ43] at hM
  have hN44 : mN μ43 = mN μ + 8 := by rw [← Option.some.inj e_μ43]; exact congrArg (· + 1) hN42
  obtain ⟨g45, h⟩ := of_g h
  obtain ⟨g46, h⟩ := of_g h
  obtain ⟨μ47, e_μ47, h⟩ := of_b h
  refine g_putrF (v := mN μ41 + 1) (C := "JoinedLeavesModel") (T := T_MO) (N := 21) (ref := "JoinedLeavesModel") hx hb hts jF_MO t_MO o_MO n_MO hown hK hM g45 (by decide) rfl 12 (by decide) (hts _ jm_8_27) (fun _ h9 => h9) rfl hin rfl (ty := (.array .int)) (by decide +kernel) rfl rfl (by decide) (fun _ => rfl) (ok_0 g46) d_MO_init_65 (fun H locs hM => ?_)
  rw [Option.some.inj e_μ47] at hM
  have hN48 : mN μ47 = mN μ + 8 := by rw [← Option.some.inj e_μ47]; exact hN44
  refine lv_aload_n hx hb d_MO_init_68 rfl (lv_at hl 0 rfl) ?_
  refine lv_bipush (v := 8) hx hb d_MO_init_69 (by decide) ?_
  obtain ⟨μ49, e_μ49, h⟩ := of_b h
  refine g_newi (N := 8) (atype := .int) hx hb rfl (hts _ jm_0_36) hK hM (cs_of hsz hN48) rfl (by decide) (by decide) (by decide) (Nat.le_of_ble_eq_true rfl) (Nat.le_of_ble_eq_true rfl) d_MO_init_71 (fun H hM => ?_)
  refine W.widen (k := 9) (n := 276) (by decide) (by decide) ?_
  rw [Option.some.inj e_μ49] at hM
  have hN50 : mN μ49 = mN μ + 9 := by rw [← Option.some.inj e_μ49]; exact congrArg (· + 1) hN48
  obtain ⟨g51, h⟩ := of_g h
  obtain ⟨g52, h⟩ := of_g h
  obtain ⟨μ53, e_μ53, h⟩ := of_b h
  refine g_putrF (v := mN μ47 + 1) (C := "JoinedLeavesModel") (T := T_MO) (N := 21) (ref := "JoinedLeavesModel") hx hb hts jF_MO t_MO o_MO n_MO hown hK hM g51 (by decide) rfl 15 (by decide) (hts _ jm_8_30) (fun _ h9 => h9) rfl hin rfl (ty := (.array .int)) (by decide +kernel) rfl rfl (by decide) (fun _ => rfl) (ok_0 g52) d_MO_init_73 (fun H locs hM => ?_)
  rw [Option.some.inj e_μ53] at hM
  have hN54 : mN μ53 = mN μ + 9 := by rw [← Option.some.inj e_μ53]; exact hN50
  refine lv_aload_n hx hb d_MO_init_76 rfl (lv_at hl 0 rfl) ?_
  refine lv_bipush (v := 7) hx hb d_MO_init_77 (by decide) ?_
  obtain ⟨μ55, e_μ55, h⟩ := of_b h
  refine g_newi (N := 7) (atype := .int) hx hb rfl (hts _ jm_0_36) hK hM (cs_of hsz hN54) rfl (by decide) (by decide) (by decide) (Nat.le_of_ble_eq_true rfl) (Nat.le_of_ble_eq_true rfl) d_MO_init_79 (fun H hM => ?_)
  refine W.widen (k := 10) (n := 283) (by decide) (by decide) ?_
  rw [Option.some.inj e_μ55] at hM
  have hN56 : mN μ55 = mN μ + 10 := by rw [← Option.some.inj e_μ55]; exact congrArg (· + 1) hN54
  obtain ⟨g57, h⟩ := of_g h
  obtain ⟨g58, h⟩ := of_g h
  obtain ⟨μ59, e_μ59, h⟩ := of_b h
  refine g_putrF (v := mN μ53 + 1) (C := "JoinedLeavesModel") (T := T_MO) (N := 21) (ref := "JoinedLeavesModel") hx hb hts jF_MO t_MO o_MO n_MO hown hK hM g57 (by decide) rfl 16 (by decide) (hts _ jm_8_31) (fun _ h9 => h9) rfl hin rfl (ty := (.array .int)) (by decide +kernel) rfl rfl (by decide) (fun _ => rfl) (ok_0 g58) d_MO_init_81 (fun H locs hM => ?_)
  rw [Option.some.inj e_μ59] at hM
  have hN60 : mN μ59 = mN μ + 10 := by rw [← Option.some.inj e_μ59]; exact hN56
  refine lv_aload_n hx hb d_MO_init_84 rfl (lv_at hl 0 rfl) ?_
  refine lv_bipush (v := 6) hx hb d_MO_init_85 (by decide) ?_
  obtain ⟨μ61, e_μ61, h⟩ := of_b h
  refine g_newi (N := 6) (atype := .int) hx hb rfl (hts _ jm_0_36) hK hM (cs_of hsz hN60) rfl (by decide) (by decide) (by decide) (Nat.le_of_ble_eq_true rfl) (Nat.le_of_ble_eq_true rfl) d_MO_init_87 (fun H hM => ?_)
  refine W.widen (k := 11) (n := 289) (by decide) (by decide) ?_
  rw [Option.some.inj e_μ61] at hM
  have hN62 : mN μ61 = mN μ + 11 := by rw [← Option.some.inj e_μ61]; exact congrArg (· + 1) hN60
  obtain ⟨g63, h⟩ := of_g h
  obtain ⟨g64, h⟩ := of_g h
  obtain ⟨μ65, e_μ65, h⟩ := of_b h
  refine g_putrF (v := mN μ59 + 1) (C := "JoinedLeavesModel") (T := T_MO) (N := 21) (ref := "JoinedLeavesModel") hx hb hts jF_MO t_MO o_MO n_MO hown hK hM g63 (by decide) rfl 17 (by decide) (hts _ jm_8_32) (fun _ h9 => h9) rfl hin rfl (ty := (.array .int)) (by decide +kernel) rfl rfl (by decide) (fun _ => rfl) (ok_0 g64) d_MO_init_89 (fun H locs hM => ?_)
  rw [Option.some.inj e_μ65] at hM
  have hN66 : mN μ65 = mN μ + 11 := by rw [← Option.some.inj e_μ65]; exact hN62
  refine lv_aload_n hx hb d_MO_init_92 rfl (lv_at hl 0 rfl) ?_
  refine lv_sipush (v := 2048) hx hb d_MO_init_93 (by decide) ?_
  obtain ⟨μ67, e_μ67, h⟩ := of_b h
  refine g_newi (N := 2048) (atype := .int) hx hb rfl (hts _ jm_0_36) hK hM (cs_of hsz hN66) rfl (by decide) (by decide) (by decide) (Nat.le_of_ble_eq_true rfl) (Nat.le_of_ble_eq_true rfl) d_MO_init_96 (fun H hM => ?_)
  refine W.widen (k := 12) (n := 2337) (by decide) (by decide) ?_
  rw [Option.some.inj e_μ67] at hM
  have hN68 : mN μ67 = mN μ + 12 := by rw [← Option.some.inj e_μ67]; exact congrArg (· + 1) hN66
  obtain ⟨g69, h⟩ := of_g h
  obtain ⟨g70, h⟩ := of_g h
  obtain ⟨μ71, e_μ71, h⟩ := of_b h
  refine g_putrF (v := mN μ65 + 1) (C := "JoinedLeavesModel") (T := T_MO) (N := 21) (ref := "JoinedLeavesModel") hx hb hts jF_MO t_MO o_MO n_MO hown hK hM g69 (by decide) rfl 18 (by decide) (hts _ jm_8_33) (fun _ h9 => h9) rfl hin rfl (ty := (.array .int)) (by decide +kernel) rfl rfl (by decide) (fun _ => rfl) (ok_0 g70) d_MO_init_98 (fun H locs hM => ?_)
  rw [Option.some.inj e_μ71] at hM
  have hN72 : mN μ71 = mN μ + 12 := by rw [← Option.some.inj e_μ71]; exact hN68
  refine lv_aload_n hx hb d_MO_init_101 rfl (lv_at hl 0 rfl) ?_
  refine lv_bipush (v := 64) hx hb d_MO_init_102 (by decide) ?_
  obtain ⟨μ73, e_μ73, h⟩ := of_b h
  refine g_newi (N := 64) (atype := .int) hx hb rfl (hts _ jm_0_36) hK hM (cs_of hsz hN72) rfl (by decide) (by decide) (by decide) (Nat.le_of_ble_eq_true rfl) (Nat.le_of_ble_eq_true rfl) d_MO_init_104 (fun H hM => ?_)
  refine W.widen (k := 13) (n := 2401) (by decide) (by decide) ?_
  rw [Option.some.inj e_μ73] at hM
  have hN74 : mN μ73 = mN μ + 13 := by rw [← Option.some.inj e_μ73]; exact congrArg (· + 1) hN72
  obtain ⟨g75, h⟩ := of_g h
  obtain ⟨g76, h⟩ := of_g h
  obtain ⟨μ77, e_μ77, h⟩ := of_b h
  refine g_putrF (v := mN μ71 + 1) (C := "JoinedLeavesModel") (T := T_MO) (N := 21) (ref := "JoinedLeavesModel") hx hb hts jF_MO t_MO o_MO n_MO hown hK hM g75 (by decide) rfl 20 (by decide) (hts _ jm_8_35) (fun _ h9 => h9) rfl hin rfl (ty := (.array .int)) (by decide +kernel) rfl rfl (by decide) (fun _ => rfl) (ok_0 g76) d_MO_init_106 (fun H locs hM => ?_)
  rw [Option.some.inj e_μ77] at hM
  have hN78 : mN μ77 = mN μ + 13 := by rw [← Option.some.inj e_μ77]; exact hN74
  exact g_cret hx hb hr hlocks hM (Option.some.inj h) d_MO_init_109
abbrev w_MO_thrown : List Cond := .code y_MO_thrown b_MO_thrown 1 (Option.some Jvm.ClassFile.FieldType.int) :: jW
def C_MO_thrown (n : Nat) (r0 : Nat) (μ : Mem) : Option (Int32 × Mem) :=
  if ok μ r0 6 = true then some (mI μ r0 0, μ) else none
set_option maxHeartbeats 4000000 in
set_option maxRecDepth 100000 in
theorem S_MO_thrown (l : Launch) (D : va_G) (b : Nat) (cs : Nat → ClassId) (r0 : Nat) (μ : Mem) (res : Int32 × Mem) (n : Nat) (h : C_MO_thrown n r0 μ = some res) : MetI l y_MO_thrown w_MO_thrown 0 0 b cs D μ [.ref (b + r0)] res := by
  refine Met.ofW (cc := b_MO_thrown) (maxL := 1) (ret := (Option.some Jvm.ClassFile.FieldType.int)) (by decide) rfl ?_
  intro p e s m args below meth c s₁ B hml hv
  obtain ⟨rfl, hK, hM⟩ := Wd.start hv
  have hx := B.exec
  have hb := B.bytes
  have hr := B.returns
  have hts : ∀ w ∈ jW, w.before _ s = true := fun w hw => atoms_spec (ws := w_MO_thrown) B.pre w (List.mem_cons_of_mem _ hw)
  have hown : s.vm.findClass "JoinedLeavesModel" = some m.cls := findClass_of_methodNamed B.named
  have hlocks := B.notSynchronized
  have hl := lv_entry ([.ref (b + r0)]) (n := 1) (Nat.le_of_ble_eq_true rfl)
  rw [lg_entry_eq]
  generalize (lg_sl ([.ref (b + r0)]) ++ List.replicate (1 - (lg_sl ([.ref (b + r0)])).length) Slot.unset).toArray = ls at hl ⊢
  have hl : lv_has ls 1 [(0, .ref (b + r0))] := hl
  unfold C_MO_thrown at h
  refine lv_aload_n hx hb d_MO_thrown_0 rfl (lv_at hl 0 rfl) ?_
  obtain ⟨g1, h⟩ := of_g h
  refine g_get (C := "JoinedLeavesModel") (T := T_MO) (N := 21) (ref := "JoinedLeavesModel") (v := .int (mI μ r0 0)) hx hb hts jF_MO hown hK hM g1 (by decide) rfl 0 (by decide) (hts _ jm_8_15) (fun _ h9 => h9) (by decide) rfl d_MO_thrown_1 ?_
  exact g_iret hx hb hr hlocks hM (Option.some.inj h) d_MO_thrown_4
abbrev w_MO_isRelation : List Cond := .code y_MO_isRelation b_MO_isRelation 2 (Option.some Jvm.ClassFile.FieldType.boolean) :: jW
def C_MO_isRelation (n : Nat) (r0 : Nat) (i1 : Int32) (μ : Mem) : Option (Int32 × Mem) :=
  if i1 < 0 then some (0, μ) else if ok μ r0 6 = true then if (mI μ r0 1) ≤ i1 then some (0, μ) else some (1, μ) else none
set_option maxHeartbeats 4000000 in
set_option maxRecDepth 100000 in
theorem S_MO_isRelation (l : Launch) (D : va_G) (b : Nat) (cs : Nat → ClassId) (r0 : Nat) (i1 : Int32) (μ : Mem) (res : Int32 × Mem) (n : Nat) (h : C_MO_isRelation n r0 i1 μ = some res) : MetI l y_MO_isRelation w_MO_isRelation 0 0 b cs D μ [.ref (b + r0), .int i1] res := by
  refine Met.ofW (cc := b_MO_isRelation) (maxL := 2) (ret := (Option.some Jvm.ClassFile.FieldType.boolean)) (by decide) rfl ?_
  intro p e s m args below meth c s₁ B hml hv
  obtain ⟨rfl, hK, hM⟩ := Wd.start hv
  have hx := B.exec
  have hb := B.bytes
  have hr := B.returns
  have hts : ∀ w ∈ jW, w.before _ s = true := fun w hw => atoms_spec (ws := w_MO_isRelation) B.pre w (List.mem_cons_of_mem _ hw)
  have hown : s.vm.findClass "JoinedLeavesModel" = some m.cls := findClass_of_methodNamed B.named
  have hlocks := B.notSynchronized
  have hl := lv_entry ([.ref (b + r0), .int i1]) (n := 2) (Nat.le_of_ble_eq_true rfl)
  rw [lg_entry_eq]
  generalize (lg_sl ([.ref (b + r0), .int i1]) ++ List.replicate (2 - (lg_sl ([.ref (b + r0), .int i1])).length) Slot.unset).toArray = ls at hl ⊢
  have hl : lv_has ls 2 [(0, .ref (b + r0)), (1, .int i1)] := hl
  unfold C_MO_isRelation at h
  refine lv_iload_n hx hb d_MO_isRelation_0 rfl (lv_at hl 1 rfl) ?_
  refine lv_if_lt (tgt := 16) hx hb d_MO_isRelation_1 (by decide) (fun hc => ?_) (fun hc => ?_)
  · replace h := of_t hc h
    refine lv_iconst (v := 0) hx hb d_MO_isRelation_16 (by decide) ?_
    exact g_zret hx hb hr narrow_b0 hlocks hM (Option.some.inj h) d_MO_isRelation_17
  · replace h := of_f hc h
    refine lv_iload_n hx hb d_MO_isRelation_4 rfl (lv_at hl 1 rfl) ?_
    refine lv_aload_n hx hb d_MO_isRelation_5 rfl (lv_at hl 0 rfl) ?_
    obtain ⟨g1, h⟩ := of_g h
    refine g_get (C := "JoinedLeavesModel") (T := T_MO) (N := 21) (ref := "JoinedLeavesModel") (v := .int (mI μ r0 1)) hx hb hts jF_MO hown hK hM g1 (by decide) rfl 1 (by decide) (hts _ jm_8_16) (fun _ h9 => h9) (by decide) rfl d_MO_isRelation_6 ?_
    refine lv_icmp_ge (tgt := 16) hx hb d_MO_isRelation_9 (by decide) (fun hc => ?_) (fun hc => ?_)
    · replace h := of_t hc h
      refine lv_iconst (v := 0) hx hb d_MO_isRelation_16 (by decide) ?_
      exact g_zret hx hb hr narrow_b0 hlocks hM (Option.some.inj h) d_MO_isRelation_17
    · replace h := of_f hc h
      refine lv_iconst (v := 1) hx hb d_MO_isRelation_12 (by decide) ?_
      refine lv_goto (tgt := 17) hx hb d_MO_isRelation_13 (by decide) ?_
      exact g_zret hx hb hr narrow_b1 hlocks hM (Option.some.inj h) d_MO_isRelation_17
abbrev w_MO_isAtom : List Cond := .code y_MO_isAtom b_MO_isAtom 2 (Option.some Jvm.ClassFile.FieldType.boolean) :: jW
def C_MO_isAtom (n : Nat) (r0 : Nat) (i1 : Int32) (μ : Mem) : Option (Int32 × Mem) :=
  if i1 < 0 then some (0, μ) else if ok μ r0 6 = true then if (mI μ r0 5) ≤ i1 then some (0, μ) else some (1, μ) else none
set_option maxHeartbeats 4000000 in
set_option maxRecDepth 100000 in
theorem S_MO_isAtom (l : Launch) (D : va_G) (b : Nat) (cs : Nat → ClassId) (r0 : Nat) (i1 : Int32) (μ : Mem) (res : Int32 × Mem) (n : Nat) (h : C_MO_isAtom n r0 i1 μ = some res) : MetI l y_MO_isAtom w_MO_isAtom 0 0 b cs D μ [.ref (b + r0), .int i1] res := by
  refine Met.ofW (cc := b_MO_isAtom) (maxL := 2) (ret := (Option.some Jvm.ClassFile.FieldType.boolean)) (by decide) rfl ?_
  intro p e s m args below meth c s₁ B hml hv
  obtain ⟨rfl, hK, hM⟩ := Wd.start hv
  have hx := B.exec
  have hb := B.bytes
  have hr := B.returns
  have hts : ∀ w ∈ jW, w.before _ s = true := fun w hw => atoms_spec (ws := w_MO_isAtom) B.pre w (List.mem_cons_of_mem _ hw)
  have hown : s.vm.findClass "JoinedLeavesModel" = some m.cls := findClass_of_methodNamed B.named
  have hlocks := B.notSynchronized
  have hl := lv_entry ([.ref (b + r0), .int i1]) (n := 2) (Nat.le_of_ble_eq_true rfl)
  rw [lg_entry_eq]
  generalize (lg_sl ([.ref (b + r0), .int i1]) ++ List.replicate (2 - (lg_sl ([.ref (b + r0), .int i1])).length) Slot.unset).toArray = ls at hl ⊢
  have hl : lv_has ls 2 [(0, .ref (b + r0)), (1, .int i1)] := hl
  unfold C_MO_isAtom at h
  refine lv_iload_n hx hb d_MO_isAtom_0 rfl (lv_at hl 1 rfl) ?_
  refine lv_if_lt (tgt := 16) hx hb d_MO_isAtom_1 (by decide) (fun hc => ?_) (fun hc => ?_)
  · replace h := of_t hc h
    refine lv_iconst (v := 0) hx hb d_MO_isAtom_16 (by decide) ?_
    exact g_zret hx hb hr narrow_b0 hlocks hM (Option.some.inj h) d_MO_isAtom_17
  · replace h := of_f hc h
    refine lv_iload_n hx hb d_MO_isAtom_4 rfl (lv_at hl 1 rfl) ?_
    refine lv_aload_n hx hb d_MO_isAtom_5 rfl (lv_at hl 0 rfl) ?_
    obtain ⟨g1, h⟩ := of_g h
    refine g_get (C := "JoinedLeavesModel") (T := T_MO) (N := 21) (ref := "JoinedLeavesModel") (v := .int (mI μ r0 5)) hx hb hts jF_MO hown hK hM g1 (by decide) rfl 5 (by decide) (hts _ jm_8_20) (fun _ h9 => h9) (by decide) rfl d_MO_isAtom_6 ?_
    refine lv_icmp_ge (tgt := 16) hx hb d_MO_isAtom_9 (by decide) (fun hc => ?_) (fun hc => ?_)
    · replace h := of_t hc h
      refine lv_iconst (v := 0) hx hb d_MO_isAtom_16 (by decide) ?_
      exact g_zret hx hb hr narrow_b0 hlocks hM (Option.some.inj h) d_MO_isAtom_17
    · replace h := of_f hc h
      refine lv_iconst (v := 1) hx hb d_MO_isAtom_12 (by decide) ?_
      refine lv_goto (tgt := 17) hx hb d_MO_isAtom_13 (by decide) ?_
      exact g_zret hx hb hr narrow_b1 hlocks hM (Option.some.inj h) d_MO_isAtom_17
abbrev w_MO_relation : List Cond := .code y_MO_relation b_MO_relation 2 (Option.some Jvm.ClassFile.FieldType.int) :: jW
def C_MO_relation (n : Nat) (r0 : Nat) (i1 : Int32) (μ : Mem) : Option (Int32 × Mem) :=
  if ok μ r0 6 = true then Option.bind (some (sI μ r0 0 0)) (fun μ2 => if i1 < 1 then some ((-1), μ2) else if 3 < i1 then some ((-1), μ2) else if (mI μ2 r0 1) = 6 then some ((-1), μ2) else if ok μ2 (mR μ2 r0 2) 100 = true then if ib (mI μ2 r0 1) (mZ μ2 (mR μ2 r0 2)) = true then Option.bind (some (sI μ2 (mR μ2 r0 2) (Int32.toNatClampNeg (mI μ2 r0 1)) i1)) (fun μ5 => Option.bind (some (sI μ5 r0 1 ((mI μ5 r0 1) + 1))) (fun μ6 => some ((mI μ6 r0 1) - 1, μ6))) else none else none) else none
set_option maxHeartbeats 4000000 in
set_option maxRecDepth 100000 in
theorem S_MO_relation (l : Launch) (D : va_G) (b : Nat) (cs : Nat → ClassId) (r0 : Nat) (i1 : Int32) (μ : Mem) (res : Int32 × Mem) (n : Nat) (h : C_MO_relation n r0 i1 μ = some res) : MetI l y_MO_relation w_MO_relation 0 0 b cs D μ [.ref (b + r0), .int i1] res := by
  refine Met.ofW (cc := b_MO_relation) (maxL := 2) (ret := (Option.some Jvm.ClassFile.FieldType.int)) (by decide) rfl ?_
  intro p e s m args below meth c s₁ B hml hv
  obtain ⟨rfl, hK, hM⟩ := Wd.start hv
  have hx := B.exec
  have hb := B.bytes
  have hr := B.returns
  have hts : ∀ w ∈ jW, w.before _ s = true := fun w hw => atoms_spec (ws := w_MO_relation) B.pre w (List.mem_cons_of_mem _ hw)
  have hown : s.vm.findClass "JoinedLeavesModel" = some m.cls := findClass_of_methodNamed B.named
  have hlocks := B.notSynchronized
  have hl := lv_entry ([.ref (b + r0), .int i1]) (n := 2) (Nat.le_of_ble_eq_true rfl)
  rw [lg_entry_eq]
  generalize (lg_sl ([.ref (b + r0), .int i1]) ++ List.replicate (2 - (lg_sl ([.ref (b + r0), .int i1])).length) Slot.unset).toArray = ls at hl ⊢
  have hl : lv_has ls 2 [(0, .ref (b + r0)), (1, .int i1)] := hl
  unfold C_MO_relation at h
  refine lv_aload_n hx hb d_MO_relation_0 rfl (lv_at hl 0 rfl) ?_
  refine lv_iconst (v := 0) hx hb d_MO_relation_1 (by decide) ?_
  obtain ⟨g1, h⟩ := of_g h
  obtain ⟨μ2, e_μ2, h⟩ := of_b h
  obtain rfl := Option.some.inj e_μ2
  refine g_puti (v := 0) (C := "JoinedLeavesModel") (T := T_MO) (N := 21) (ref := "JoinedLeavesModel") hx hb hts jF_MO t_MO o_MO n_MO hown hK hM g1 (by decide) rfl 0 (by decide) (hts _ jm_8_15) (fun _ h9 => h9) rfl (ty := .int) (by decide +kernel) rfl rfl (by decide) (Or.inl rfl) d_MO_relation_2 (fun H locs hM => ?_)
  refine lv_iload_n hx hb d_MO_relation_5 rfl (lv_at hl 1 rfl) ?_
  refine lv_iconst (v := 1) hx hb d_MO_relation_6 (by decide) ?_
  refine lv_icmp_lt (tgt := 24) hx hb d_MO_relation_7 (by decide) (fun hc => ?_) (fun hc => ?_)
  · replace h := of_t hc h
    refine lv_iconst (v := (-1)) hx hb d_MO_relation_24 (by decide) ?_
    exact g_iret hx hb hr hlocks hM (Option.some.inj h) d_MO_relation_25
  · replace h := of_f hc h
    refine lv_iload_n hx hb d_MO_relation_10 rfl (lv_at hl 1 rfl) ?_
    refine lv_iconst (v := 3) hx hb d_MO_relation_11 (by decide) ?_
    refine lv_icmp_gt (tgt := 24) hx hb d_MO_relation_12 (by decide) (fun hc => ?_) (fun hc => ?_)
    · replace h := of_t hc h
      refine lv_iconst (v := (-1)) hx hb d_MO_relation_24 (by decide) ?_
      exact g_iret hx hb hr hlocks hM (Option.some.inj h) d_MO_relation_25
    · replace h := of_f hc h
      refine lv_aload_n hx hb d_MO_relation_15 rfl (lv_at hl 0 rfl) ?_
      refine g_get (C := "JoinedLeavesModel") (T := T_MO) (N := 21) (ref := "JoinedLeavesModel") (v := .int (mI (sI μ r0 0 0) r0 1)) hx hb hts jF_MO hown hK hM g1 (by decide) rfl 1 (by decide) (hts _ jm_8_16) (fun _ h9 => h9) (by decide) rfl d_MO_relation_16 ?_
      refine lv_bipush (v := 6) hx hb d_MO_relation_19 (by decide) ?_
      refine lv_icmp_ne (tgt := 26) hx hb d_MO_relation_21 (by decide) (fun hc => ?_) (fun hc => ?_)
      · replace h := of_f hc h
        refine lv_aload_n hx hb d_MO_relation_26 rfl (lv_at hl 0 rfl) ?_
        obtain ⟨g3, h⟩ := of_g h
        refine g_get (C := "JoinedLeavesModel") (T := T_MO) (N := 21) (ref := "JoinedLeavesModel") (v := .ref (b + (mR (sI μ r0 0 0) r0 2))) hx hb hts jF_MO hown hK hM g1 (by decide) rfl 2 (by decide) (hts _ jm_8_17) (fun _ h9 => h9) (by decide) (rv_of (ok_0 g3)) d_MO_relation_27 ?_
        refine lv_aload_n hx hb d_MO_relation_30 rfl (lv_at hl 0 rfl) ?_
        refine g_get (C := "JoinedLeavesModel") (T := T_MO) (N := 21) (ref := "JoinedLeavesModel") (v := .int (mI (sI μ r0 0 0) r0 1)) hx hb hts jF_MO hown hK hM g1 (by decide) rfl 1 (by decide) (hts _ jm_8_16) (fun _ h9 => h9) (by decide) rfl d_MO_relation_31 ?_
        refine lv_iload_n hx hb d_MO_relation_34 rfl (lv_at hl 1 rfl) ?_
        obtain ⟨g4, h⟩ := of_g h
        obtain ⟨μ5, e_μ5, h⟩ := of_b h
        obtain rfl := Option.some.inj e_μ5
        refine g_iast (v := i1) hx hb hK hM g3 g4 d_MO_relation_35 (fun H locs hM => ?_)
        refine lv_aload_n hx hb d_MO_relation_36 rfl (lv_at hl 0 rfl) ?_
        refine lv_aload_n hx hb d_MO_relation_37 rfl (lv_at hl 0 rfl) ?_
        refine g_get (C := "JoinedLeavesModel") (T := T_MO) (N := 21) (ref := "JoinedLeavesModel") (v := .int (mI (sI (sI μ r0 0 0) (mR (sI μ r0 0 0) r0 2) (Int32.toNatClampNeg (mI (sI μ r0 0 0) r0 1)) i1) r0 1)) hx hb hts jF_MO hown hK hM g1 (by decide) rfl 1 (by decide) (hts _ jm_8_16) (fun _ h9 => h9) (by decide) rfl d_MO_relation_38 ?_
        refine lv_iconst (v := 1) hx hb d_MO_relation_41 (by decide) ?_
        refine lv_iadd hx hb d_MO_relation_42 ?_
        obtain ⟨μ6, e_μ6, h⟩ := of_b h
        obtain rfl := Option.some.inj e_μ6
        refine g_puti (v := (mI (sI (sI μ r0 0 0) (mR (sI μ r0 0 0) r0 2) (Int32.toNatClampNeg (mI (sI μ r0 0 0) r0 1)) i1) r0 1) + 1) (C := "JoinedLeavesModel") (T := T_MO) (N := 21) (ref := "JoinedLeavesModel") hx hb hts jF_MO t_MO o_MO n_MO hown hK hM g1 (by decide) rfl 1 (by decide) (hts _ jm_8_16) (fun _ h9 => h9) rfl (ty := .int) (by decide +kernel) rfl rfl (by decide) (Or.inl rfl) d_MO_relation_43 (fun H locs hM => ?_)
        refine lv_aload_n hx hb d_MO_relation_46 rfl (lv_at hl 0 rfl) ?_
        refine g_get (C := "JoinedLeavesModel") (T := T_MO) (N := 21) (ref := "JoinedLeavesModel") (v := .int (mI (sI (sI (sI μ r0 0 0) (mR (sI μ r0 0 0) r0 2) (Int32.toNatClampNeg (mI (sI μ r0 0 0) r0 1)) i1) r0 1 ((mI (sI (sI μ r0 0 0) (mR (sI μ r0 0 0) r0 2) (Int32.toNatClampNeg (mI (sI μ r0 0 0) r0 1)) i1) r0 1) + 1)) r0 1)) hx hb hts jF_MO hown hK hM g1 (by decide) rfl 1 (by decide) (hts _ jm_8_16) (fun _ h9 => h9) (by decide) rfl d_MO_relation_47 ?_
        refine lv_iconst (v := 1) hx hb d_MO_relation_50 (by decide) ?_
        refine lv_isub hx hb d_MO_relation_51 ?_
        exact g_iret hx hb hr hlocks hM (Option.some.inj h) d_MO_relation_52
      · replace h := of_t hc h
        refine lv_iconst (v := (-1)) hx hb d_MO_relation_24 (by decide) ?_
        exact g_iret hx hb hr hlocks hM (Option.some.inj h) d_MO_relation_25
abbrev w_MO_pick : List Cond := .code y_MO_pick b_MO_pick 4 (Option.some Jvm.ClassFile.FieldType.int) :: jW
def C_MO_pick (n : Nat) (i0 : Int32) (i1 : Int32) (i2 : Int32) (i3 : Int32) (μ : Mem) : Option (Int32 × Mem) :=
  if i0 = 0 then some (i1, μ) else if i0 = 1 then some (i2, μ) else some (i3, μ)
set_option maxHeartbeats 4000000 in
set_option maxRecDepth 100000 in
theorem S_MO_pick (l : Launch) (D : va_G) (b : Nat) (cs : Nat → ClassId) (i0 : Int32) (i1 : Int32) (i2 : Int32) (i3 : Int32) (μ : Mem) (res : Int32 × Mem) (n : Nat) (h : C_MO_pick n i0 i1 i2 i3 μ = some res) : MetI l y_MO_pick w_MO_pick 0 0 b cs D μ [.int i0, .int i1, .int i2, .int i3] res := by
  refine Met.ofW (cc := b_MO_pick) (maxL := 4) (ret := (Option.some Jvm.ClassFile.FieldType.int)) (by decide) rfl ?_
  intro p e s m args below meth c s₁ B hml hv
  obtain ⟨rfl, hK, hM⟩ := Wd.start hv
  have hx := B.exec
  have hb := B.bytes
  have hr := B.returns
  have hts : ∀ w ∈ jW, w.before _ s = true := fun w hw => atoms_spec (ws := w_MO_pick) B.pre w (List.mem_cons_of_mem _ hw)
  have hown : s.vm.findClass "JoinedLeavesModel" = some m.cls := findClass_of_methodNamed B.named
  have hlocks := B.notSynchronized
  have hl := lv_entry ([.int i0, .int i1, .int i2, .int i3]) (n := 4) (Nat.le_of_ble_eq_true rfl)
  rw [lg_entry_eq]
  generalize (lg_sl ([.int i0, .int i1, .int i2, .int i3]) ++ List.replicate (4 - (lg_sl ([.int i0, .int i1, .int i2, .int i3])).length) Slot.unset).toArray = ls at hl ⊢
  have hl : lv_has ls 4 [(0, .int i0), (1, .int i1), (2, .int i2), (3, .int i3)] := hl
  unfold C_MO_pick at h
  refine lv_iload_n hx hb d_MO_pick_0 rfl (lv_at hl 0 rfl) ?_
  refine lv_if_ne (tgt := 8) hx hb d_MO_pick_1 (by decide) (fun hc => ?_) (fun hc => ?_)
  · replace h := of_f hc h
    refine lv_iload_n hx hb d_MO_pick_8 rfl (lv_at hl 0 rfl) ?_
    refine lv_iconst (v := 1) hx hb d_MO_pick_9 (by decide) ?_
    refine lv_icmp_ne (tgt := 17) hx hb d_MO_pick_10 (by decide) (fun hc => ?_) (fun hc => ?_)
    · replace h := of_f hc h
      refine lv_iload_n hx hb d_MO_pick_17 rfl (lv_at hl 3 rfl) ?_
      exact g_iret hx hb hr hlocks hM (Option.some.inj h) d_MO_pick_18
    · replace h := of_t hc h
      refine lv_iload_n hx hb d_MO_pick_13 rfl (lv_at hl 2 rfl) ?_
      refine lv_goto (tgt := 18) hx hb d_MO_pick_14 (by decide) ?_
      exact g_iret hx hb hr hlocks hM (Option.some.inj h) d_MO_pick_18
  · replace h := of_t hc h
    refine lv_iload_n hx hb d_MO_pick_4 rfl (lv_at hl 1 rfl) ?_
    refine lv_goto (tgt := 18) hx hb d_MO_pick_5 (by decide) ?_
    exact g_iret hx hb hr hlocks hM (Option.some.inj h) d_MO_pick_18
abbrev w_MO_placeOf : List Cond := .code y_MO_placeOf b_MO_placeOf 9 (Option.some Jvm.ClassFile.FieldType.int) :: jW
def B_MO_placeOf_0 (n : Nat) (k : Nat → Nat → Int32 → Int32 → Int32 → Int32 → Int32 → Int32 → Int32 → Int32 → Int32 → Mem → Option (Int32 × Mem)) (r0 : Nat) (i1 : Int32) (i2 : Int32) (i3 : Int32) (i4 : Int32) (i5 : Int32) (i6 : Int32) (i7 : Int32) (i8 : Int32) (x0 : Int32) (μ : Mem) : Option (Int32 × Mem) :=
  k 1 r0 i1 i2 i3 i4 (-1) 0 0 0 0 μ
def B_MO_placeOf_1 (n : Nat) (k : Nat → Nat → Int32 → Int32 → Int32 → Int32 → Int32 → Int32 → Int32 → Int32 → Int32 → Mem → Option (Int32 × Mem)) (r0 : Nat) (i1 : Int32) (i2 : Int32) (i3 : Int32) (i4 : Int32) (i5 : Int32) (i6 : Int32) (i7 : Int32) (i8 : Int32) (x0 : Int32) (μ : Mem) : Option (Int32 × Mem) :=
  if ok μ r0 6 = true then if ok μ (mR μ r0 3) 100 = true then if ib i1 (mZ μ (mR μ r0 3)) = true then if (mI μ (mR μ r0 3) (Int32.toNatClampNeg i1)) ≤ i6 then some (i5, μ) else k 2 r0 i1 i2 i3 i4 i5 i6 1 0 0 μ else none else none else none
def B_MO_placeOf_2 (n : Nat) (k : Nat → Nat → Int32 → Int32 → Int32 → Int32 → Int32 → Int32 → Int32 → Int32 → Int32 → Mem → Option (Int32 × Mem)) (r0 : Nat) (i1 : Int32) (i2 : Int32) (i3 : Int32) (i4 : Int32) (i5 : Int32) (i6 : Int32) (i7 : Int32) (i8 : Int32) (x0 : Int32) (μ : Mem) : Option (Int32 × Mem) :=
  if ok μ r0 6 = true then if ok μ (mR μ r0 2) 100 = true then if ib i1 (mZ μ (mR μ r0 2)) = true then if (mI μ (mR μ r0 2) (Int32.toNatClampNeg i1)) ≤ i8 then if i7 = 0 then k 5 r0 i1 i2 i3 i4 0 i6 0 0 i5 μ else k 5 r0 i1 i2 i3 i4 0 i6 0 0 i6 μ else if i7 = 0 then k 3 r0 i1 i2 i3 i4 i5 i6 0 i8 0 μ else if ok μ (mR μ r0 4) 100 = true then if ib (((36 * i1) + (3 * i6)) + i8) (mZ μ (mR μ r0 4)) = true then Option.bind (C_MO_pick n i8 i2 i3 i4 μ) (fun q9 => if (mI μ (mR μ r0 4) (Int32.toNatClampNeg (((36 * i1) + (3 * i6)) + i8))) = q9.1 then k 4 r0 i1 i2 i3 i4 i5 i6 0 i8 1 q9.2 else k 3 r0 i1 i2 i3 i4 i5 i6 0 i8 0 q9.2) else none else none else none else none else none
def B_MO_placeOf_3 (n : Nat) (k : Nat → Nat → Int32 → Int32 → Int32 → Int32 → Int32 → Int32 → Int32 → Int32 → Int32 → Mem → Option (Int32 × Mem)) (r0 : Nat) (i1 : Int32) (i2 : Int32) (i3 : Int32) (i4 : Int32) (i5 : Int32) (i6 : Int32) (i7 : Int32) (i8 : Int32) (x0 : Int32) (μ : Mem) : Option (Int32 × Mem) :=
  k 4 r0 i1 i2 i3 i4 i5 i6 0 i8 0 μ
def B_MO_placeOf_4 (n : Nat) (k : Nat → Nat → Int32 → Int32 → Int32 → Int32 → Int32 → Int32 → Int32 → Int32 → Int32 → Mem → Option (Int32 × Mem)) (r0 : Nat) (i1 : Int32) (i2 : Int32) (i3 : Int32) (i4 : Int32) (i5 : Int32) (i6 : Int32) (i7 : Int32) (i8 : Int32) (x0 : Int32) (μ : Mem) : Option (Int32 × Mem) :=
  Option.bind (some (i8 + 1)) (fun v10 => k 2 r0 i1 i2 i3 i4 i5 i6 x0 v10 0 μ)
def B_MO_placeOf_5 (n : Nat) (k : Nat → Nat → Int32 → Int32 → Int32 → Int32 → Int32 → Int32 → Int32 → Int32 → Int32 → Mem → Option (Int32 × Mem)) (r0 : Nat) (i1 : Int32) (i2 : Int32) (i3 : Int32) (i4 : Int32) (i5 : Int32) (i6 : Int32) (i7 : Int32) (i8 : Int32) (x0 : Int32) (μ : Mem) : Option (Int32 × Mem) :=
  Option.bind (some (i6 + 1)) (fun v11 => k 1 r0 i1 i2 i3 i4 x0 v11 0 0 0 μ)
def F_MO_placeOf : Nat → Nat → Nat → Int32 → Int32 → Int32 → Int32 → Int32 → Int32 → Int32 → Int32 → Int32 → Mem → Option (Int32 × Mem)
  | 0 => fun _ _ _ _ _ _ _ _ _ _ _ _ => none
  | n + 1 => fun id r0 i1 i2 i3 i4 i5 i6 i7 i8 x0 μ => match id with
    | 0 => B_MO_placeOf_0 n (F_MO_placeOf n) r0 i1 i2 i3 i4 i5 i6 i7 i8 x0 μ
    | 1 => B_MO_placeOf_1 n (F_MO_placeOf n) r0 i1 i2 i3 i4 i5 i6 i7 i8 x0 μ
    | 2 => B_MO_placeOf_2 n (F_MO_placeOf n) r0 i1 i2 i3 i4 i5 i6 i7 i8 x0 μ
    | 3 => B_MO_placeOf_3 n (F_MO_placeOf n) r0 i1 i2 i3 i4 i5 i6 i7 i8 x0 μ
    | 4 => B_MO_placeOf_4 n (F_MO_placeOf n) r0 i1 i2 i3 i4 i5 i6 i7 i8 x0 μ
    | 5 => B_MO_placeOf_5 n (F_MO_placeOf n) r0 i1 i2 i3 i4 i5 i6 i7 i8 x0 μ
    | _ => none
def C_MO_placeOf (n : Nat) (r0 : Nat) (i1 : Int32) (i2 : Int32) (i3 : Int32) (i4 : Int32) (μ : Mem) : Option (Int32 × Mem) := F_MO_placeOf n 0 r0 i1 i2 i3 i4 0 0 0 0 0 μ
set_option maxHeartbeats 4000000 in
set_option maxRecDepth 100000 in
theorem S_MO_placeOf (l : Launch) (D : va_G) (b : Nat) (cs : Nat → ClassId) (u_r0 : Nat) (u_i1 : Int32) (u_i2 : Int32) (u_i3 : Int32) (u_i4 : Int32) (ν : Mem) (res : Int32 × Mem) (n : Nat) (h : C_MO_placeOf n u_r0 u_i1 u_i2 u_i3 u_i4 ν = some res) : MetI l y_MO_placeOf w_MO_placeOf 1 23 b cs D ν [.ref (b + u_r0), .int u_i1, .int u_i2, .int u_i3, .int u_i4] res := by
  refine Met.ofW (cc := b_MO_placeOf) (maxL := 9) (ret := (Option.some Jvm.ClassFile.FieldType.int)) (by decide) rfl ?_
  intro p e s m args below meth c s₁ B hml hv
  obtain ⟨rfl, hK, hM⟩ := Wd.start hv
  have hx := B.exec
  have hb := B.bytes
  have hr := B.returns
  have hts : ∀ w ∈ jW, w.before _ s = true := fun w hw => atoms_spec (ws := w_MO_placeOf) B.pre w (List.mem_cons_of_mem _ hw)
  have hown : s.vm.findClass "JoinedLeavesModel" = some m.cls := findClass_of_methodNamed B.named
  have hlocks := B.notSynchronized
  have hl := lv_entry ([.ref (b + u_r0), .int u_i1, .int u_i2, .int u_i3, .int u_i4]) (n := 9) (Nat.le_of_ble_eq_true rfl)
  rw [lg_entry_eq]
  generalize (lg_sl ([.ref (b + u_r0), .int u_i1, .int u_i2, .int u_i3, .int u_i4]) ++ List.replicate (9 - (lg_sl ([.ref (b + u_r0), .int u_i1, .int u_i2, .int u_i3, .int u_i4])).length) Slot.unset).toArray = ls at hl ⊢
  have hl : lv_has ls 9 [(0, .ref (b + u_r0)), (1, .int u_i1), (2, .int u_i2), (3, .int u_i3), (4, .int u_i4)] := hl
  have key : ∀ N : Nat, (∀ (r0 : Nat) (i1 : Int32) (i2 : Int32) (i3 : Int32) (i4 : Int32) (i5 : Int32) (i6 : Int32) (i7 : Int32) (i8 : Int32) (x0 : Int32) (μ : Mem) (H : Heap) (locs : List Loc) (ls : Array Slot), F_MO_placeOf N 0 r0 i1 i2 i3 i4 i5 i6 i7 i8 x0 μ = some res → Wd (Aw b (mN ν)) b cs D s.heap μ H locs → lv_has ls 9 [(0, .ref (b + r0)), (1, .int i1), (2, .int i2), (3, .int i3), (4, .int i4)] → W p l e (headSpec w_MO_placeOf { frames := 1, cells := 0, slots := 0, locals := 23 }).room s m ([.ref (b + u_r0), .int u_i1, .int u_i2, .int u_i3, .int u_i4]).toArray below meth c H locs 0 0 (MQ below (va_Qi (fun r μ' => (r, μ') = res ∧ mN μ' ≤ mN ν) (Bw b cs D) (Aw b (mN ν))) ([.ref (b + u_r0), .int u_i1, .int u_i2, .int u_i3, .int u_i4]).toArray s 0 0 (Aw b (mN ν))) (F0 m 0 ls [])) ∧
      (∀ (r0 : Nat) (i1 : Int32) (i2 : Int32) (i3 : Int32) (i4 : Int32) (i5 : Int32) (i6 : Int32) (i7 : Int32) (i8 : Int32) (x0 : Int32) (μ : Mem) (H : Heap) (locs : List Loc) (ls : Array Slot), F_MO_placeOf N 1 r0 i1 i2 i3 i4 i5 i6 i7 i8 x0 μ = some res → Wd (Aw b (mN ν)) b cs D s.heap μ H locs → lv_has ls 9 [(0, .ref (b + r0)), (1, .int i1), (2, .int i2), (3, .int i3), (4, .int i4), (5, .int i5), (6, .int i6)] → W p l e (headSpec w_MO_placeOf { frames := 1, cells := 0, slots := 0, locals := 23 }).room s m ([.ref (b + u_r0), .int u_i1, .int u_i2, .int u_i3, .int u_i4]).toArray below meth c H locs 0 0 (MQ below (va_Qi (fun r μ' => (r, μ') = res ∧ mN μ' ≤ mN ν) (Bw b cs D) (Aw b (mN ν))) ([.ref (b + u_r0), .int u_i1, .int u_i2, .int u_i3, .int u_i4]).toArray s 0 0 (Aw b (mN ν))) (F0 m 6 ls [])) ∧
      (∀ (r0 : Nat) (i1 : Int32) (i2 : Int32) (i3 : Int32) (i4 : Int32) (i5 : Int32) (i6 : Int32) (i7 : Int32) (i8 : Int32) (x0 : Int32) (μ : Mem) (H : Heap) (locs : List Loc) (ls : Array Slot), F_MO_placeOf N 2 r0 i1 i2 i3 i4 i5 i6 i7 i8 x0 μ = some res → Wd (Aw b (mN ν)) b cs D s.heap μ H locs → lv_has ls 9 [(0, .ref (b + r0)), (1, .int i1), (2, .int i2), (3, .int i3), (4, .int i4), (5, .int i5), (6, .int i6), (7, .int i7), (8, .int i8)] → W p l e (headSpec w_MO_placeOf { frames := 1, cells := 0, slots := 0, locals := 23 }).room s m ([.ref (b + u_r0), .int u_i1, .int u_i2, .int u_i3, .int u_i4]).toArray below meth c H locs 0 0 (MQ below (va_Qi (fun r μ' => (r, μ') = res ∧ mN μ' ≤ mN ν) (Bw b cs D) (Aw b (mN ν))) ([.ref (b + u_r0), .int u_i1, .int u_i2, .int u_i3, .int u_i4]).toArray s 0 0 (Aw b (mN ν))) (F0 m 23 ls [])) ∧
      (∀ (r0 : Nat) (i1 : Int32) (i2 : Int32) (i3 : Int32) (i4 : Int32) (i5 : Int32) (i6 : Int32) (i7 : Int32) (i8 : Int32) (x0 : Int32) (μ : Mem) (H : Heap) (locs : List Loc) (ls : Array Slot), F_MO_placeOf N 3 r0 i1 i2 i3 i4 i5 i6 i7 i8 x0 μ = some res → Wd (Aw b (mN ν)) b cs D s.heap μ H locs → lv_has ls 9 [(0, .ref (b + r0)), (1, .int i1), (2, .int i2), (3, .int i3), (4, .int i4), (5, .int i5), (6, .int i6), (8, .int i8)] → W p l e (headSpec w_MO_placeOf { frames := 1, cells := 0, slots := 0, locals := 23 }).room s m ([.ref (b + u_r0), .int u_i1, .int u_i2, .int u_i3, .int u_i4]).toArray below meth c H locs 0 0 (MQ below (va_Qi (fun r μ' => (r, μ') = res ∧ mN μ' ≤ mN ν) (Bw b cs D) (Aw b (mN ν))) ([.ref (b + u_r0), .int u_i1, .int u_i2, .int u_i3, .int u_i4]).toArray s 0 0 (Aw b (mN ν))) (F0 m 72 ls [])) ∧
      (∀ (r0 : Nat) (i1 : Int32) (i2 : Int32) (i3 : Int32) (i4 : Int32) (i5 : Int32) (i6 : Int32) (i7 : Int32) (i8 : Int32) (x0 : Int32) (μ : Mem) (H : Heap) (locs : List Loc) (ls : Array Slot), F_MO_placeOf N 4 r0 i1 i2 i3 i4 i5 i6 i7 i8 x0 μ = some res → Wd (Aw b (mN ν)) b cs D s.heap μ H locs → lv_has ls 9 [(0, .ref (b + r0)), (1, .int i1), (2, .int i2), (3, .int i3), (4, .int i4), (5, .int i5), (6, .int i6), (8, .int i8)] → W p l e (headSpec w_MO_placeOf { frames := 1, cells := 0, slots := 0, locals := 23 }).room s m ([.ref (b + u_r0), .int u_i1, .int u_i2, .int u_i3, .int u_i4]).toArray below meth c H locs 0 0 (MQ below (va_Qi (fun r μ' => (r, μ') = res ∧ mN μ' ≤ mN ν) (Bw b cs D) (Aw b (mN ν))) ([.ref (b + u_r0), .int u_i1, .int u_i2, .int u_i3, .int u_i4]).toArray s 0 0 (Aw b (mN ν))) (F0 m 73 ls [.int x0])) ∧
      (∀ (r0 : Nat) (i1 : Int32) (i2 : Int32) (i3 : Int32) (i4 : Int32) (i5 : Int32) (i6 : Int32) (i7 : Int32) (i8 : Int32) (x0 : Int32) (μ : Mem) (H : Heap) (locs : List Loc) (ls : Array Slot), F_MO_placeOf N 5 r0 i1 i2 i3 i4 i5 i6 i7 i8 x0 μ = some res → Wd (Aw b (mN ν)) b cs D s.heap μ H locs → lv_has ls 9 [(0, .ref (b + r0)), (1, .int i1), (2, .int i2), (3, .int i3), (4, .int i4), (6, .int i6)] → W p l e (headSpec w_MO_placeOf { frames := 1, cells := 0, slots := 0, locals := 23 }).room s m ([.ref (b + u_r0), .int u_i1, .int u_i2, .int u_i3, .int u_i4]).toArray below meth c H locs 0 0 (MQ below (va_Qi (fun r μ' => (r, μ') = res ∧ mN μ' ≤ mN ν) (Bw b cs D) (Aw b (mN ν))) ([.ref (b + u_r0), .int u_i1, .int u_i2, .int u_i3, .int u_i4]).toArray s 0 0 (Aw b (mN ν))) (F0 m 93 ls [.int x0])) := by
    intro N
    induction N with
    | zero => exact ⟨fun _ _ _ _ _ _ _ _ _ _ _ _ _ _ h => (nomatch h), fun _ _ _ _ _ _ _ _ _ _ _ _ _ _ h => (nomatch h), fun _ _ _ _ _ _ _ _ _ _ _ _ _ _ h => (nomatch h), fun _ _ _ _ _ _ _ _ _ _ _ _ _ _ h => (nomatch h), fun _ _ _ _ _ _ _ _ _ _ _ _ _ _ h => (nomatch h), fun _ _ _ _ _ _ _ _ _ _ _ _ _ _ h => (nomatch h)⟩
    | succ n ih =>
      obtain ⟨ih0, ih1, ih2, ih3, ih4, ih5⟩ := ih
      refine ⟨?_, ?_, ?_, ?_, ?_, ?_⟩
      · intro r0 i1 i2 i3 i4 i5 i6 i7 i8 x0 μ H locs ls h hM hl
        have h : B_MO_placeOf_0 n (F_MO_placeOf n) r0 i1 i2 i3 i4 i5 i6 i7 i8 x0 μ = some res := h
        unfold B_MO_placeOf_0 at h
        refine lv_iconst (v := (-1)) hx hb d_MO_placeOf_0 (by decide) ?_
        refine lv_istore hx hb d_MO_placeOf_1 hl (by decide) rfl (fun ls hl => ?_)
        have hl : lv_has ls 9 [(5, .int (-1)), (0, .ref (b + r0)), (1, .int i1), (2, .int i2), (3, .int i3), (4, .int i4)] := hl
        refine lv_iconst (v := 0) hx hb d_MO_placeOf_3 (by decide) ?_
        refine lv_istore hx hb d_MO_placeOf_4 hl (by decide) rfl (fun ls hl => ?_)
        have hl : lv_has ls 9 [(6, .int 0), (5, .int (-1)), (0, .ref (b + r0)), (1, .int i1), (2, .int i2), (3, .int i3), (4, .int i4)] := hl
        exact ih1 _ _ _ _ _ _ _ _ _ _ _ _ _ _ h hM (lv_sub hl [2, 3, 4, 5, 6, 1, 0] rfl)
      · intro r0 i1 i2 i3 i4 i5 i6 i7 i8 x0 μ H locs ls h hM hl
        have h : B_MO_placeOf_1 n (F_MO_placeOf n) r0 i1 i2 i3 i4 i5 i6 i7 i8 x0 μ = some res := h
        unfold B_MO_placeOf_1 at h
        refine lv_iload hx hb d_MO_placeOf_6 (lv_at hl 6 rfl) ?_
        refine lv_aload_n hx hb d_MO_placeOf_8 rfl (lv_at hl 0 rfl) ?_
        obtain ⟨g1, h⟩ := of_g h
        obtain ⟨g2, h⟩ := of_g h
        refine g_get (C := "JoinedLeavesModel") (T := T_MO) (N := 21) (ref := "JoinedLeavesModel") (v := .ref (b + (mR μ r0 3))) hx hb hts jF_MO hown hK hM g1 (by decide) rfl 3 (by decide) (hts _ jm_8_18) (fun _ h9 => h9) (by decide) (rv_of (ok_0 g2)) d_MO_placeOf_9 ?_
        refine lv_iload_n hx hb d_MO_placeOf_12 rfl (lv_at hl 1 rfl) ?_
        obtain ⟨g3, h⟩ := of_g h
        refine g_iald hx hb hK hM g2 g3 d_MO_placeOf_13 ?_
        refine lv_icmp_ge (tgt := 101) hx hb d_MO_placeOf_14 (by decide) (fun hc => ?_) (fun hc => ?_)
        · replace h := of_t hc h
          refine lv_iload hx hb d_MO_placeOf_101 (lv_at hl 5 rfl) ?_
          exact g_iret hx hb hr hlocks hM (Option.some.inj h) d_MO_placeOf_103
        · replace h := of_f hc h
          refine lv_iconst (v := 1) hx hb d_MO_placeOf_17 (by decide) ?_
          refine lv_istore hx hb d_MO_placeOf_18 hl (by decide) rfl (fun ls hl => ?_)
          have hl : lv_has ls 9 [(7, .int 1), (0, .ref (b + r0)), (1, .int i1), (2, .int i2), (3, .int i3), (4, .int i4), (5, .int i5), (6, .int i6)] := hl
          refine lv_iconst (v := 0) hx hb d_MO_placeOf_20 (by decide) ?_
          refine lv_istore hx hb d_MO_placeOf_21 hl (by decide) rfl (fun ls hl => ?_)
          have hl : lv_has ls 9 [(8, .int 0), (7, .int 1), (0, .ref (b + r0)), (1, .int i1), (2, .int i2), (3, .int i3), (4, .int i4), (5, .int i5), (6, .int i6)] := hl
          exact ih2 _ _ _ _ _ _ _ _ _ _ _ _ _ _ h hM (lv_sub hl [2, 3, 4, 5, 6, 7, 8, 1, 0] rfl)
      · intro r0 i1 i2 i3 i4 i5 i6 i7 i8 x0 μ H locs ls h hM hl
        have h : B_MO_placeOf_2 n (F_MO_placeOf n) r0 i1 i2 i3 i4 i5 i6 i7 i8 x0 μ = some res := h
        unfold B_MO_placeOf_2 at h
        refine lv_iload hx hb d_MO_placeOf_23 (lv_at hl 8 rfl) ?_
        refine lv_aload_n hx hb d_MO_placeOf_25 rfl (lv_at hl 0 rfl) ?_
        obtain ⟨g4, h⟩ := of_g h
        obtain ⟨g5, h⟩ := of_g h
        refine g_get (C := "JoinedLeavesModel") (T := T_MO) (N := 21) (ref := "JoinedLeavesModel") (v := .ref (b + (mR μ r0 2))) hx hb hts jF_MO hown hK hM g4 (by decide) rfl 2 (by decide) (hts _ jm_8_17) (fun _ h9 => h9) (by decide) (rv_of (ok_0 g5)) d_MO_placeOf_26 ?_
        refine lv_iload_n hx hb d_MO_placeOf_29 rfl (lv_at hl 1 rfl) ?_
        obtain ⟨g6, h⟩ := of_g h
        refine g_iald hx hb hK hM g5 g6 d_MO_placeOf_30 ?_
        refine lv_icmp_ge (tgt := 81) hx hb d_MO_placeOf_31 (by decide) (fun hc => ?_) (fun hc => ?_)
        · replace h := of_t hc h
          refine lv_iload hx hb d_MO_placeOf_81 (lv_at hl 7 rfl) ?_
          refine lv_if_eq (tgt := 91) hx hb d_MO_placeOf_83 (by decide) (fun hc => ?_) (fun hc => ?_)
          · replace h := of_t hc h
            refine lv_iload hx hb d_MO_placeOf_91 (lv_at hl 5 rfl) ?_
            exact ih5 _ _ _ _ _ _ _ _ _ _ _ _ _ _ h hM (lv_sub hl [0, 1, 2, 3, 4, 6] rfl)
          · replace h := of_f hc h
            refine lv_iload hx hb d_MO_placeOf_86 (lv_at hl 6 rfl) ?_
            refine lv_goto (tgt := 93) hx hb d_MO_placeOf_88 (by decide) ?_
            exact ih5 _ _ _ _ _ _ _ _ _ _ _ _ _ _ h hM (lv_sub hl [0, 1, 2, 3, 4, 6] rfl)
        · replace h := of_f hc h
          refine lv_iload hx hb d_MO_placeOf_34 (lv_at hl 7 rfl) ?_
          refine lv_if_eq (tgt := 72) hx hb d_MO_placeOf_36 (by decide) (fun hc => ?_) (fun hc => ?_)
          · replace h := of_t hc h
            exact ih3 _ _ _ _ _ _ _ _ _ _ _ _ _ _ h hM (lv_sub hl [0, 1, 2, 3, 4, 5, 6, 8] rfl)
          · replace h := of_f hc h
            refine lv_aload_n hx hb d_MO_placeOf_39 rfl (lv_at hl 0 rfl) ?_
            obtain ⟨g7, h⟩ := of_g h
            refine g_get (C := "JoinedLeavesModel") (T := T_MO) (N := 21) (ref := "JoinedLeavesModel") (v := .ref (b + (mR μ r0 4))) hx hb hts jF_MO hown hK hM g4 (by decide) rfl 4 (by decide) (hts _ jm_8_19) (fun _ h9 => h9) (by decide) (rv_of (ok_0 g7)) d_MO_placeOf_40 ?_
            refine lv_bipush (v := 36) hx hb d_MO_placeOf_43 (by decide) ?_
            refine lv_iload_n hx hb d_MO_placeOf_45 rfl (lv_at hl 1 rfl) ?_
            refine lv_imul hx hb d_MO_placeOf_46 ?_
            refine lv_iconst (v := 3) hx hb d_MO_placeOf_47 (by decide) ?_
            refine lv_iload hx hb d_MO_placeOf_48 (lv_at hl 6 rfl) ?_
            refine lv_imul hx hb d_MO_placeOf_50 ?_
            refine lv_iadd hx hb d_MO_placeOf_51 ?_
            refine lv_iload hx hb d_MO_placeOf_52 (lv_at hl 8 rfl) ?_
            refine lv_iadd hx hb d_MO_placeOf_54 ?_
            obtain ⟨g8, h⟩ := of_g h
            refine g_iald hx hb hK hM g7 g8 d_MO_placeOf_55 ?_
            refine lv_iload hx hb d_MO_placeOf_56 (lv_at hl 8 rfl) ?_
            refine lv_iload_n hx hb d_MO_placeOf_58 rfl (lv_at hl 2 rfl) ?_
            refine lv_iload_n hx hb d_MO_placeOf_59 rfl (lv_at hl 3 rfl) ?_
            refine lv_iload hx hb d_MO_placeOf_60 (lv_at hl 4 rfl) ?_
            obtain ⟨q9, hq9, h⟩ := of_b h
            refine g_calli (va_runS (As := [.int i8, .int i2, .int i3, .int i4]) (rest := [.int (mI μ (mR μ r0 4) (Int32.toNatClampNeg (((36 * i1) + (3 * i6)) + i8)))]) ⟨hx, hb, hml, hown, hts⟩ (S_MO_pick l D b cs i8 i2 i3 i4 μ q9 n hq9) ⟨callB_of 4 hts (goodIn_g jm_9_30) rfl rfl rfl (hts _ jm_0_7) (hts _ jm_9_28) (by decide +kernel) ⟨Nat.le_of_ble_eq_true rfl, Nat.le_of_ble_eq_true rfl⟩, (hts _ jm_9_29)⟩ (Wd.preS hK hM) rfl rfl hl.1 rfl (lv_room (Nat.le_of_ble_eq_true rfl)) d_MO_placeOf_62 ⟨Nat.le_of_ble_eq_true rfl, Nat.le_of_ble_eq_true rfl⟩) hM (fun H locs hM => ?_)
            refine lv_icmp_ne (tgt := 72) hx hb d_MO_placeOf_65 (by decide) (fun hc => ?_) (fun hc => ?_)
            · replace h := of_f hc h
              exact ih3 _ _ _ _ _ _ _ _ _ _ _ _ _ _ h hM (lv_sub hl [0, 1, 2, 3, 4, 5, 6, 8] rfl)
            · replace h := of_t hc h
              refine lv_iconst (v := 1) hx hb d_MO_placeOf_68 (by decide) ?_
              refine lv_goto (tgt := 73) hx hb d_MO_placeOf_69 (by decide) ?_
              exact ih4 _ _ _ _ _ _ _ _ _ _ _ _ _ _ h hM (lv_sub hl [0, 1, 2, 3, 4, 5, 6, 8] rfl)
      · intro r0 i1 i2 i3 i4 i5 i6 i7 i8 x0 μ H locs ls h hM hl
        have h : B_MO_placeOf_3 n (F_MO_placeOf n) r0 i1 i2 i3 i4 i5 i6 i7 i8 x0 μ = some res := h
        unfold B_MO_placeOf_3 at h
        refine lv_iconst (v := 0) hx hb d_MO_placeOf_72 (by decide) ?_
        exact ih4 _ _ _ _ _ _ _ _ _ _ _ _ _ _ h hM (lv_sub hl [0, 1, 2, 3, 4, 5, 6, 7] rfl)
      · intro r0 i1 i2 i3 i4 i5 i6 i7 i8 x0 μ H locs ls h hM hl
        have h : B_MO_placeOf_4 n (F_MO_placeOf n) r0 i1 i2 i3 i4 i5 i6 i7 i8 x0 μ = some res := h
        unfold B_MO_placeOf_4 at h
        refine lv_istore hx hb d_MO_placeOf_73 hl (by decide) rfl (fun ls hl => ?_)
        have hl : lv_has ls 9 [(7, .int x0), (0, .ref (b + r0)), (1, .int i1), (2, .int i2), (3, .int i3), (4, .int i4), (5, .int i5), (6, .int i6), (8, .int i8)] := hl
        obtain ⟨v10, e_v10, h⟩ := of_b h
        refine lv_iinc (v := v10) hx hb d_MO_placeOf_75 hl (k := 8) rfl (by rw [lit1]; exact Option.some.inj e_v10) (by decide) rfl (fun ls hl => ?_)
        have hl : lv_has ls 9 [(8, .int v10), (7, .int x0), (0, .ref (b + r0)), (1, .int i1), (2, .int i2), (3, .int i3), (4, .int i4), (5, .int i5), (6, .int i6)] := hl
        refine lv_goto (tgt := 23) hx hb d_MO_placeOf_78 (by decide) ?_
        exact ih2 _ _ _ _ _ _ _ _ _ _ _ _ _ _ h hM (lv_sub hl [2, 3, 4, 5, 6, 7, 8, 1, 0] rfl)
      · intro r0 i1 i2 i3 i4 i5 i6 i7 i8 x0 μ H locs ls h hM hl
        have h : B_MO_placeOf_5 n (F_MO_placeOf n) r0 i1 i2 i3 i4 i5 i6 i7 i8 x0 μ = some res := h
        unfold B_MO_placeOf_5 at h
        refine lv_istore hx hb d_MO_placeOf_93 hl (by decide) rfl (fun ls hl => ?_)
        have hl : lv_has ls 9 [(5, .int x0), (0, .ref (b + r0)), (1, .int i1), (2, .int i2), (3, .int i3), (4, .int i4), (6, .int i6)] := hl
        obtain ⟨v11, e_v11, h⟩ := of_b h
        refine lv_iinc (v := v11) hx hb d_MO_placeOf_95 hl (k := 6) rfl (by rw [lit1]; exact Option.some.inj e_v11) (by decide) rfl (fun ls hl => ?_)
        have hl : lv_has ls 9 [(6, .int v11), (5, .int x0), (0, .ref (b + r0)), (1, .int i1), (2, .int i2), (3, .int i3), (4, .int i4)] := hl
        refine lv_goto (tgt := 6) hx hb d_MO_placeOf_98 (by decide) ?_
        exact ih1 _ _ _ _ _ _ _ _ _ _ _ _ _ _ h hM (lv_sub hl [2, 3, 4, 5, 6, 1, 0] rfl)
  exact (key n).1 _ _ _ _ _ _ _ _ _ _ _ _ _ _ h hM hl
abbrev w_MO_add : List Cond := .code y_MO_add b_MO_add 8 (Option.some Jvm.ClassFile.FieldType.boolean) :: jW
def B_MO_add_0 (n : Nat) (k : Nat → Nat → Int32 → Int32 → Int32 → Int32 → Int32 → Int32 → Int32 → Mem → Option (Int32 × Mem)) (r0 : Nat) (i1 : Int32) (i2 : Int32) (i3 : Int32) (i4 : Int32) (i5 : Int32) (i6 : Int32) (x0 : Int32) (μ : Mem) : Option (Int32 × Mem) :=
  if ok μ r0 6 = true then Option.bind (some (sI μ r0 0 0)) (fun μ2 => Option.bind (C_MO_isRelation n r0 i1 μ2) (fun q3 => if q3.1 = 0 then some (0, q3.2) else if ok q3.2 r0 6 = true then if ok q3.2 (mR q3.2 r0 3) 100 = true then if ib i1 (mZ q3.2 (mR q3.2 r0 3)) = true then if (mI q3.2 (mR q3.2 r0 3) (Int32.toNatClampNeg i1)) = 12 then some (0, q3.2) else Option.bind (C_MO_placeOf n r0 i1 i2 i3 i4 q3.2) (fun q7 => if q7.1 < 0 then k 1 r0 i1 i2 i3 i4 1 0 0 q7.2 else some (0, q7.2)) else none else none else none)) else none
def B_MO_add_1 (n : Nat) (k : Nat → Nat → Int32 → Int32 → Int32 → Int32 → Int32 → Int32 → Int32 → Mem → Option (Int32 × Mem)) (r0 : Nat) (i1 : Int32) (i2 : Int32) (i3 : Int32) (i4 : Int32) (i5 : Int32) (i6 : Int32) (x0 : Int32) (μ : Mem) : Option (Int32 × Mem) :=
  if ok μ r0 6 = true then if ok μ (mR μ r0 2) 100 = true then if ib i1 (mZ μ (mR μ r0 2)) = true then if (mI μ (mR μ r0 2) (Int32.toNatClampNeg i1)) ≤ i6 then if i5 = 0 then some (0, μ) else k 4 r0 i1 i2 i3 i4 0 0 0 μ else Option.bind (C_MO_pick n i6 i2 i3 i4 μ) (fun q11 => if i5 = 0 then k 2 r0 i1 i2 i3 i4 0 i6 0 q11.2 else if q11.1 < 0 then k 2 r0 i1 i2 i3 i4 0 i6 0 q11.2 else if 16 ≤ q11.1 then k 2 r0 i1 i2 i3 i4 0 i6 0 q11.2 else k 3 r0 i1 i2 i3 i4 0 i6 1 q11.2) else none else none else none
def B_MO_add_2 (n : Nat) (k : Nat → Nat → Int32 → Int32 → Int32 → Int32 → Int32 → Int32 → Int32 → Mem → Option (Int32 × Mem)) (r0 : Nat) (i1 : Int32) (i2 : Int32) (i3 : Int32) (i4 : Int32) (i5 : Int32) (i6 : Int32) (x0 : Int32) (μ : Mem) : Option (Int32 × Mem) :=
  k 3 r0 i1 i2 i3 i4 0 i6 0 μ
def B_MO_add_3 (n : Nat) (k : Nat → Nat → Int32 → Int32 → Int32 → Int32 → Int32 → Int32 → Int32 → Mem → Option (Int32 × Mem)) (r0 : Nat) (i1 : Int32) (i2 : Int32) (i3 : Int32) (i4 : Int32) (i5 : Int32) (i6 : Int32) (x0 : Int32) (μ : Mem) : Option (Int32 × Mem) :=
  Option.bind (some (i6 + 1)) (fun v12 => k 1 r0 i1 i2 i3 i4 x0 v12 0 μ)
def B_MO_add_4 (n : Nat) (k : Nat → Nat → Int32 → Int32 → Int32 → Int32 → Int32 → Int32 → Int32 → Mem → Option (Int32 × Mem)) (r0 : Nat) (i1 : Int32) (i2 : Int32) (i3 : Int32) (i4 : Int32) (i5 : Int32) (i6 : Int32) (x0 : Int32) (μ : Mem) : Option (Int32 × Mem) :=
  if ok μ r0 6 = true then if ok μ (mR μ r0 2) 100 = true then if ib i1 (mZ μ (mR μ r0 2)) = true then if (mI μ (mR μ r0 2) (Int32.toNatClampNeg i1)) ≤ i6 then if ok μ (mR μ r0 3) 100 = true then if ib i1 (mZ μ (mR μ r0 3)) = true then if ib i1 (mZ μ (mR μ r0 3)) = true then Option.bind (some (sI μ (mR μ r0 3) (Int32.toNatClampNeg i1) ((mI μ (mR μ r0 3) (Int32.toNatClampNeg i1)) + 1))) (fun μ19 => Option.bind (some (sI μ19 r0 13 0)) (fun μ20 => some (1, μ20))) else none else none else none else if ok μ (mR μ r0 4) 100 = true then if ok μ (mR μ r0 3) 100 = true then if ib i1 (mZ μ (mR μ r0 3)) = true then Option.bind (C_MO_pick n i6 i2 i3 i4 μ) (fun q24 => if ok q24.2 (mR μ r0 4) 100 = true then if ib (((36 * i1) + (3 * (mI μ (mR μ r0 3) (Int32.toNatClampNeg i1)))) + i6) (mZ q24.2 (mR μ r0 4)) = true then Option.bind (some (sI q24.2 (mR μ r0 4) (Int32.toNatClampNeg (((36 * i1) + (3 * (mI μ (mR μ r0 3) (Int32.toNatClampNeg i1)))) + i6)) q24.1)) (fun μ27 => Option.bind (some (i6 + 1)) (fun v28 => k 4 r0 i1 i2 i3 i4 0 v28 0 μ27)) else none else none) else none else none else none else none else none else none
def F_MO_add : Nat → Nat → Nat → Int32 → Int32 → Int32 → Int32 → Int32 → Int32 → Int32 → Mem → Option (Int32 × Mem)
  | 0 => fun _ _ _ _ _ _ _ _ _ _ => none
  | n + 1 => fun id r0 i1 i2 i3 i4 i5 i6 x0 μ => match id with
    | 0 => B_MO_add_0 n (F_MO_add n) r0 i1 i2 i3 i4 i5 i6 x0 μ
    | 1 => B_MO_add_1 n (F_MO_add n) r0 i1 i2 i3 i4 i5 i6 x0 μ
    | 2 => B_MO_add_2 n (F_MO_add n) r0 i1 i2 i3 i4 i5 i6 x0 μ
    | 3 => B_MO_add_3 n (F_MO_add n) r0 i1 i2 i3 i4 i5 i6 x0 μ
    | 4 => B_MO_add_4 n (F_MO_add n) r0 i1 i2 i3 i4 i5 i6 x0 μ
    | _ => none
def C_MO_add (n : Nat) (r0 : Nat) (i1 : Int32) (i2 : Int32) (i3 : Int32) (i4 : Int32) (μ : Mem) : Option (Int32 × Mem) := F_MO_add n 0 r0 i1 i2 i3 i4 0 0 0 μ
set_option maxHeartbeats 4000000 in
set_option maxRecDepth 100000 in
theorem S_MO_add (l : Launch) (D : va_G) (b : Nat) (cs : Nat → ClassId) (u_r0 : Nat) (u_i1 : Int32) (u_i2 : Int32) (u_i3 : Int32) (u_i4 : Int32) (ν : Mem) (res : Int32 × Mem) (n : Nat) (h : C_MO_add n u_r0 u_i1 u_i2 u_i3 u_i4 ν = some res) : MetI l y_MO_add w_MO_add 2 51 b cs D ν [.ref (b + u_r0), .int u_i1, .int u_i2, .int u_i3, .int u_i4] res := by
  refine Met.ofW (cc := b_MO_add) (maxL := 8) (ret := (Option.some Jvm.ClassFile.FieldType.boolean)) (by decide) rfl ?_
  intro p e s m args below meth c s₁ B hml hv
  obtain ⟨rfl, hK, hM⟩ := Wd.start hv
  have hx := B.exec
  have hb := B.bytes
  have hr := B.returns
  have hts : ∀ w ∈ jW, w.before _ s = true := fun w hw => atoms_spec (ws := w_MO_add) B.pre w (List.mem_cons_of_mem _ hw)
  have hown : s.vm.findClass "JoinedLeavesModel" = some m.cls := findClass_of_methodNamed B.named
  have hlocks := B.notSynchronized
  have hl := lv_entry ([.ref (b + u_r0), .int u_i1, .int u_i2, .int u_i3, .int u_i4]) (n := 8) (Nat.le_of_ble_eq_true rfl)
  rw [lg_entry_eq]
  generalize (lg_sl ([.ref (b + u_r0), .int u_i1, .int u_i2, .int u_i3, .int u_i4]) ++ List.replicate (8 - (lg_sl ([.ref (b + u_r0), .int u_i1, .int u_i2, .int u_i3, .int u_i4])).length) Slot.unset).toArray = ls at hl ⊢
  have hl : lv_has ls 8 [(0, .ref (b + u_r0)), (1, .int u_i1), (2, .int u_i2), (3, .int u_i3), (4, .int u_i4)] := hl
  have key : ∀ N : Nat, (∀ (r0 : Nat) (i1 : Int32) (i2 : Int32) (i3 : Int32) (i4 : Int32) (i5 : Int32) (i6 : Int32) (x0 : Int32) (μ : Mem) (H : Heap) (locs : List Loc) (ls : Array Slot), F_MO_add N 0 r0 i1 i2 i3 i4 i5 i6 x0 μ = some res → Wd (Aw b (mN ν)) b cs D s.heap μ H locs → lv_has ls 8 [(0, .ref (b + r0)), (1, .int i1), (2, .int i2), (3, .int i3), (4, .int i4)] → W p l e (headSpec w_MO_add { frames := 2, cells := 0, slots := 0, locals := 51 }).room s m ([.ref (b + u_r0), .int u_i1, .int u_i2, .int u_i3, .int u_i4]).toArray below meth c H locs 0 0 (MQ below (va_Qi (fun r μ' => (r, μ') = res ∧ mN μ' ≤ mN ν) (Bw b cs D) (Aw b (mN ν))) ([.ref (b + u_r0), .int u_i1, .int u_i2, .int u_i3, .int u_i4]).toArray s 0 0 (Aw b (mN ν))) (F0 m 0 ls [])) ∧
      (∀ (r0 : Nat) (i1 : Int32) (i2 : Int32) (i3 : Int32) (i4 : Int32) (i5 : Int32) (i6 : Int32) (x0 : Int32) (μ : Mem) (H : Heap) (locs : List Loc) (ls : Array Slot), F_MO_add N 1 r0 i1 i2 i3 i4 i5 i6 x0 μ = some res → Wd (Aw b (mN ν)) b cs D s.heap μ H locs → lv_has ls 8 [(0, .ref (b + r0)), (1, .int i1), (2, .int i2), (3, .int i3), (4, .int i4), (5, .int i5), (6, .int i6)] → W p l e (headSpec w_MO_add { frames := 2, cells := 0, slots := 0, locals := 51 }).room s m ([.ref (b + u_r0), .int u_i1, .int u_i2, .int u_i3, .int u_i4]).toArray below meth c H locs 0 0 (MQ below (va_Qi (fun r μ' => (r, μ') = res ∧ mN μ' ≤ mN ν) (Bw b cs D) (Aw b (mN ν))) ([.ref (b + u_r0), .int u_i1, .int u_i2, .int u_i3, .int u_i4]).toArray s 0 0 (Aw b (mN ν))) (F0 m 44 ls [])) ∧
      (∀ (r0 : Nat) (i1 : Int32) (i2 : Int32) (i3 : Int32) (i4 : Int32) (i5 : Int32) (i6 : Int32) (x0 : Int32) (μ : Mem) (H : Heap) (locs : List Loc) (ls : Array Slot), F_MO_add N 2 r0 i1 i2 i3 i4 i5 i6 x0 μ = some res → Wd (Aw b (mN ν)) b cs D s.heap μ H locs → lv_has ls 8 [(0, .ref (b + r0)), (1, .int i1), (2, .int i2), (3, .int i3), (4, .int i4), (6, .int i6)] → W p l e (headSpec w_MO_add { frames := 2, cells := 0, slots := 0, locals := 51 }).room s m ([.ref (b + u_r0), .int u_i1, .int u_i2, .int u_i3, .int u_i4]).toArray below meth c H locs 0 0 (MQ below (va_Qi (fun r μ' => (r, μ') = res ∧ mN μ' ≤ mN ν) (Bw b cs D) (Aw b (mN ν))) ([.ref (b + u_r0), .int u_i1, .int u_i2, .int u_i3, .int u_i4]).toArray s 0 0 (Aw b (mN ν))) (F0 m 87 ls [])) ∧
      (∀ (r0 : Nat) (i1 : Int32) (i2 : Int32) (i3 : Int32) (i4 : Int32) (i5 : Int32) (i6 : Int32) (x0 : Int32) (μ : Mem) (H : Heap) (locs : List Loc) (ls : Array Slot), F_MO_add N 3 r0 i1 i2 i3 i4 i5 i6 x0 μ = some res → Wd (Aw b (mN ν)) b cs D s.heap μ H locs → lv_has ls 8 [(0, .ref (b + r0)), (1, .int i1), (2, .int i2), (3, .int i3), (4, .int i4), (6, .int i6)] → W p l e (headSpec w_MO_add { frames := 2, cells := 0, slots := 0, locals := 51 }).room s m ([.ref (b + u_r0), .int u_i1, .int u_i2, .int u_i3, .int u_i4]).toArray below meth c H locs 0 0 (MQ below (va_Qi (fun r μ' => (r, μ') = res ∧ mN μ' ≤ mN ν) (Bw b cs D) (Aw b (mN ν))) ([.ref (b + u_r0), .int u_i1, .int u_i2, .int u_i3, .int u_i4]).toArray s 0 0 (Aw b (mN ν))) (F0 m 88 ls [.int x0])) ∧
      (∀ (r0 : Nat) (i1 : Int32) (i2 : Int32) (i3 : Int32) (i4 : Int32) (i5 : Int32) (i6 : Int32) (x0 : Int32) (μ : Mem) (H : Heap) (locs : List Loc) (ls : Array Slot), F_MO_add N 4 r0 i1 i2 i3 i4 i5 i6 x0 μ = some res → Wd (Aw b (mN ν)) b cs D s.heap μ H locs → lv_has ls 8 [(0, .ref (b + r0)), (1, .int i1), (2, .int i2), (3, .int i3), (4, .int i4), (6, .int i6)] → W p l e (headSpec w_MO_add { frames := 2, cells := 0, slots := 0, locals := 51 }).room s m ([.ref (b + u_r0), .int u_i1, .int u_i2, .int u_i3, .int u_i4]).toArray below meth c H locs 0 0 (MQ below (va_Qi (fun r μ' => (r, μ') = res ∧ mN μ' ≤ mN ν) (Bw b cs D) (Aw b (mN ν))) ([.ref (b + u_r0), .int u_i1, .int u_i2, .int u_i3, .int u_i4]).toArray s 0 0 (Aw b (mN ν))) (F0 m 106 ls [])) := by
    intro N
    induction N with
    | zero => exact ⟨fun _ _ _ _ _ _ _ _ _ _ _ _ h => (nomatch h), fun _ _ _ _ _ _ _ _ _ _ _ _ h => (nomatch h), fun _ _ _ _ _ _ _ _ _ _ _ _ h => (nomatch h), fun _ _ _ _ _ _ _ _ _ _ _ _ h => (nomatch h), fun _ _ _ _ _ _ _ _ _ _ _ _ h => (nomatch h)⟩
    | succ n ih =>
      obtain ⟨ih0, ih1, ih2, ih3, ih4⟩ := ih
      refine ⟨?_, ?_, ?_, ?_, ?_⟩
      · intro r0 i1 i2 i3 i4 i5 i6 x0 μ H locs ls h hM hl
        have h : B_MO_add_0 n (F_MO_add n) r0 i1 i2 i3 i4 i5 i6 x0 μ = some res := h
        unfold B_MO_add_0 at h
        refine lv_aload_n hx hb d_MO_add_0 rfl (lv_at hl 0 rfl) ?_
        refine lv_iconst (v := 0) hx hb d_MO_add_1 (by decide) ?_
        obtain ⟨g1, h⟩ := of_g h
        obtain ⟨μ2, e_μ2, h⟩ := of_b h
        obtain rfl := Option.some.inj e_μ2
        refine g_puti (v := 0) (C := "JoinedLeavesModel") (T := T_MO) (N := 21) (ref := "JoinedLeavesModel") hx hb hts jF_MO t_MO o_MO n_MO hown hK hM g1 (by decide) rfl 0 (by decide) (hts _ jm_8_15) (fun _ h9 => h9) rfl (ty := .int) (by decide +kernel) rfl rfl (by decide) (Or.inl rfl) d_MO_add_2 (fun H locs hM => ?_)
        refine lv_aload_n hx hb d_MO_add_5 rfl (lv_at hl 0 rfl) ?_
        refine lv_iload_n hx hb d_MO_add_6 rfl (lv_at hl 1 rfl) ?_
        obtain ⟨q3, hq3, h⟩ := of_b h
        refine g_calli (va_runV (As := [.int i1]) (rest := []) ⟨hx, hb, hml, hown, hts⟩ (S_MO_isRelation l D b cs r0 i1 (sI μ r0 0 0) q3 n hq3) ⟨callB_of 1 hts (goodIn_g jm_9_24) rfl rfl rfl (hts _ jm_0_7) (hts _ jm_9_22) (by decide +kernel) ⟨Nat.le_of_ble_eq_true rfl, Nat.le_of_ble_eq_true rfl⟩, (hts _ jm_9_23), (hts _ jm_12_13)⟩ (Wd.preV hK hM g1 rfl (by decide)) rfl rfl hl.1 rfl (lv_room (Nat.le_of_ble_eq_true rfl)) d_MO_add_7 ⟨Nat.le_of_ble_eq_true rfl, Nat.le_of_ble_eq_true rfl⟩) hM (fun H locs hM => ?_)
        refine lv_if_eq (tgt := 36) hx hb d_MO_add_10 (by decide) (fun hc => ?_) (fun hc => ?_)
        · replace h := of_t hc h
          refine lv_iconst (v := 0) hx hb d_MO_add_36 (by decide) ?_
          exact g_zret hx hb hr narrow_b0 hlocks hM (Option.some.inj h) d_MO_add_37
        · replace h := of_f hc h
          refine lv_aload_n hx hb d_MO_add_13 rfl (lv_at hl 0 rfl) ?_
          obtain ⟨g4, h⟩ := of_g h
          obtain ⟨g5, h⟩ := of_g h
          refine g_get (C := "JoinedLeavesModel") (T := T_MO) (N := 21) (ref := "JoinedLeavesModel") (v := .ref (b + (mR q3.2 r0 3))) hx hb hts jF_MO hown hK hM g4 (by decide) rfl 3 (by decide) (hts _ jm_8_18) (fun _ h9 => h9) (by decide) (rv_of (ok_0 g5)) d_MO_add_14 ?_
          refine lv_iload_n hx hb d_MO_add_17 rfl (lv_at hl 1 rfl) ?_
          obtain ⟨g6, h⟩ := of_g h
          refine g_iald hx hb hK hM g5 g6 d_MO_add_18 ?_
          refine lv_bipush (v := 12) hx hb d_MO_add_19 (by decide) ?_
          refine lv_icmp_eq (tgt := 36) hx hb d_MO_add_21 (by decide) (fun hc => ?_) (fun hc => ?_)
          · replace h := of_t hc h
            refine lv_iconst (v := 0) hx hb d_MO_add_36 (by decide) ?_
            exact g_zret hx hb hr narrow_b0 hlocks hM (Option.some.inj h) d_MO_add_37
          · replace h := of_f hc h
            refine lv_aload_n hx hb d_MO_add_24 rfl (lv_at hl 0 rfl) ?_
            refine lv_iload_n hx hb d_MO_add_25 rfl (lv_at hl 1 rfl) ?_
            refine lv_iload_n hx hb d_MO_add_26 rfl (lv_at hl 2 rfl) ?_
            refine lv_iload_n hx hb d_MO_add_27 rfl (lv_at hl 3 rfl) ?_
            refine lv_iload hx hb d_MO_add_28 (lv_at hl 4 rfl) ?_
            obtain ⟨q7, hq7, h⟩ := of_b h
            refine g_calli (va_runV (As := [.int i1, .int i2, .int i3, .int i4]) (rest := []) ⟨hx, hb, hml, hown, hts⟩ (S_MO_placeOf l D b cs r0 i1 i2 i3 i4 q3.2 q7 n hq7) ⟨callB_of 4 hts (goodIn_g jm_9_27) rfl rfl rfl (hts _ jm_0_7) (hts _ jm_9_25) (by decide +kernel) ⟨Nat.le_of_ble_eq_true rfl, Nat.le_of_ble_eq_true rfl⟩, (hts _ jm_9_26), (hts _ jm_12_14)⟩ (Wd.preV hK hM g4 rfl (by decide)) rfl rfl hl.1 rfl (lv_room (Nat.le_of_ble_eq_true rfl)) d_MO_add_30 ⟨Nat.le_of_ble_eq_true rfl, Nat.le_of_ble_eq_true rfl⟩) hM (fun H locs hM => ?_)
            refine lv_if_lt (tgt := 38) hx hb d_MO_add_33 (by decide) (fun hc => ?_) (fun hc => ?_)
            · replace h := of_t hc h
              refine lv_iconst (v := 1) hx hb d_MO_add_38 (by decide) ?_
              refine lv_istore hx hb d_MO_add_39 hl (by decide) rfl (fun ls hl => ?_)
              have hl : lv_has ls 8 [(5, .int 1), (0, .ref (b + r0)), (1, .int i1), (2, .int i2), (3, .int i3), (4, .int i4)] := hl
              refine lv_iconst (v := 0) hx hb d_MO_add_41 (by decide) ?_
              refine lv_istore hx hb d_MO_add_42 hl (by decide) rfl (fun ls hl => ?_)
              have hl : lv_has ls 8 [(6, .int 0), (5, .int 1), (0, .ref (b + r0)), (1, .int i1), (2, .int i2), (3, .int i3), (4, .int i4)] := hl
              exact ih1 _ _ _ _ _ _ _ _ _ _ _ _ h hM (lv_sub hl [2, 3, 4, 5, 6, 1, 0] rfl)
            · replace h := of_f hc h
              refine lv_iconst (v := 0) hx hb d_MO_add_36 (by decide) ?_
              exact g_zret hx hb hr narrow_b0 hlocks hM (Option.some.inj h) d_MO_add_37
      · intro r0 i1 i2 i3 i4 i5 i6 x0 μ H locs ls h hM hl
        have h : B_MO_add_1 n (F_MO_add n) r0 i1 i2 i3 i4 i5 i6 x0 μ = some res := h
        unfold B_MO_add_1 at h
        refine lv_iload hx hb d_MO_add_44 (lv_at hl 6 rfl) ?_
        refine lv_aload_n hx hb d_MO_add_46 rfl (lv_at hl 0 rfl) ?_
        obtain ⟨g8, h⟩ := of_g h
        obtain ⟨g9, h⟩ := of_g h
        refine g_get (C := "JoinedLeavesModel") (T := T_MO) (N := 21) (ref := "JoinedLeavesModel") (v := .ref (b + (mR μ r0 2))) hx hb hts jF_MO hown hK hM g8 (by decide) rfl 2 (by decide) (hts _ jm_8_17) (fun _ h9 => h9) (by decide) (rv_of (ok_0 g9)) d_MO_add_47 ?_
        refine lv_iload_n hx hb d_MO_add_50 rfl (lv_at hl 1 rfl) ?_
        obtain ⟨g10, h⟩ := of_g h
        refine g_iald hx hb hK hM g9 g10 d_MO_add_51 ?_
        refine lv_icmp_ge (tgt := 96) hx hb d_MO_add_52 (by decide) (fun hc => ?_) (fun hc => ?_)
        · replace h := of_t hc h
          refine lv_iload hx hb d_MO_add_96 (lv_at hl 5 rfl) ?_
          refine lv_if_ne (tgt := 103) hx hb d_MO_add_98 (by decide) (fun hc => ?_) (fun hc => ?_)
          · replace h := of_f hc h
            refine lv_iconst (v := 0) hx hb d_MO_add_103 (by decide) ?_
            refine lv_istore hx hb d_MO_add_104 hl (by decide) rfl (fun ls hl => ?_)
            have hl : lv_has ls 8 [(6, .int 0), (0, .ref (b + r0)), (1, .int i1), (2, .int i2), (3, .int i3), (4, .int i4), (5, .int i5)] := hl
            exact ih4 _ _ _ _ _ _ _ _ _ _ _ _ h hM (lv_sub hl [1, 2, 3, 4, 5, 0] rfl)
          · replace h := of_t hc h
            refine lv_iconst (v := 0) hx hb d_MO_add_101 (by decide) ?_
            exact g_zret hx hb hr narrow_b0 hlocks hM (Option.some.inj h) d_MO_add_102
        · replace h := of_f hc h
          refine lv_iload hx hb d_MO_add_55 (lv_at hl 6 rfl) ?_
          refine lv_iload_n hx hb d_MO_add_57 rfl (lv_at hl 2 rfl) ?_
          refine lv_iload_n hx hb d_MO_add_58 rfl (lv_at hl 3 rfl) ?_
          refine lv_iload hx hb d_MO_add_59 (lv_at hl 4 rfl) ?_
          obtain ⟨q11, hq11, h⟩ := of_b h
          refine g_calli (va_runS (As := [.int i6, .int i2, .int i3, .int i4]) (rest := []) ⟨hx, hb, hml, hown, hts⟩ (S_MO_pick l D b cs i6 i2 i3 i4 μ q11 n hq11) ⟨callB_of 4 hts (goodIn_g jm_9_30) rfl rfl rfl (hts _ jm_0_7) (hts _ jm_9_28) (by decide +kernel) ⟨Nat.le_of_ble_eq_true rfl, Nat.le_of_ble_eq_true rfl⟩, (hts _ jm_9_29)⟩ (Wd.preS hK hM) rfl rfl hl.1 rfl (lv_room (Nat.le_of_ble_eq_true rfl)) d_MO_add_61 ⟨Nat.le_of_ble_eq_true rfl, Nat.le_of_ble_eq_true rfl⟩) hM (fun H locs hM => ?_)
          refine lv_istore hx hb d_MO_add_64 hl (by decide) rfl (fun ls hl => ?_)
          have hl : lv_has ls 8 [(7, .int q11.1), (0, .ref (b + r0)), (1, .int i1), (2, .int i2), (3, .int i3), (4, .int i4), (5, .int i5), (6, .int i6)] := hl
          refine lv_iload hx hb d_MO_add_66 (lv_at hl 6 rfl) ?_
          refine lv_if_eq (tgt := 87) hx hb d_MO_add_68 (by decide) (fun hc => ?_) (fun hc => ?_)
          · replace h := of_t hc h
            exact ih2 _ _ _ _ _ _ _ _ _ _ _ _ h hM (lv_sub hl [1, 2, 3, 4, 5, 7] rfl)
          · replace h := of_f hc h
            refine lv_iload hx hb d_MO_add_71 (lv_at hl 0 rfl) ?_
            refine lv_if_lt (tgt := 87) hx hb d_MO_add_73 (by decide) (fun hc => ?_) (fun hc => ?_)
            · replace h := of_t hc h
              exact ih2 _ _ _ _ _ _ _ _ _ _ _ _ h hM (lv_sub hl [1, 2, 3, 4, 5, 7] rfl)
            · replace h := of_f hc h
              refine lv_iload hx hb d_MO_add_76 (lv_at hl 0 rfl) ?_
              refine lv_bipush (v := 16) hx hb d_MO_add_78 (by decide) ?_
              refine lv_icmp_ge (tgt := 87) hx hb d_MO_add_80 (by decide) (fun hc => ?_) (fun hc => ?_)
              · replace h := of_t hc h
                exact ih2 _ _ _ _ _ _ _ _ _ _ _ _ h hM (lv_sub hl [1, 2, 3, 4, 5, 7] rfl)
              · replace h := of_f hc h
                refine lv_iconst (v := 1) hx hb d_MO_add_83 (by decide) ?_
                refine lv_goto (tgt := 88) hx hb d_MO_add_84 (by decide) ?_
                exact ih3 _ _ _ _ _ _ _ _ _ _ _ _ h hM (lv_sub hl [1, 2, 3, 4, 5, 7] rfl)
      · intro r0 i1 i2 i3 i4 i5 i6 x0 μ H locs ls h hM hl
        have h : B_MO_add_2 n (F_MO_add n) r0 i1 i2 i3 i4 i5 i6 x0 μ = some res := h
        unfold B_MO_add_2 at h
        refine lv_iconst (v := 0) hx hb d_MO_add_87 (by decide) ?_
        exact ih3 _ _ _ _ _ _ _ _ _ _ _ _ h hM (lv_sub hl [0, 1, 2, 3, 4, 5] rfl)
      · intro r0 i1 i2 i3 i4 i5 i6 x0 μ H locs ls h hM hl
        have h : B_MO_add_3 n (F_MO_add n) r0 i1 i2 i3 i4 i5 i6 x0 μ = some res := h
        unfold B_MO_add_3 at h
        refine lv_istore hx hb d_MO_add_88 hl (by decide) rfl (fun ls hl => ?_)
        have hl : lv_has ls 8 [(5, .int x0), (0, .ref (b + r0)), (1, .int i1), (2, .int i2), (3, .int i3), (4, .int i4), (6, .int i6)] := hl
        obtain ⟨v12, e_v12, h⟩ := of_b h
        refine lv_iinc (v := v12) hx hb d_MO_add_90 hl (k := 6) rfl (by rw [lit1]; exact Option.some.inj e_v12) (by decide) rfl (fun ls hl => ?_)
        have hl : lv_has ls 8 [(6, .int v12), (5, .int x0), (0, .ref (b + r0)), (1, .int i1), (2, .int i2), (3, .int i3), (4, .int i4)] := hl
        refine lv_goto (tgt := 44) hx hb d_MO_add_93 (by decide) ?_
        exact ih1 _ _ _ _ _ _ _ _ _ _ _ _ h hM (lv_sub hl [2, 3, 4, 5, 6, 1, 0] rfl)
      · intro r0 i1 i2 i3 i4 i5 i6 x0 μ H locs ls h hM hl
        have h : B_MO_add_4 n (F_MO_add n) r0 i1 i2 i3 i4 i5 i6 x0 μ = some res := h
        unfold B_MO_add_4 at h
        refine lv_iload hx hb d_MO_add_106 (lv_at hl 5 rfl) ?_
        refine lv_aload_n hx hb d_MO_add_108 rfl (lv_at hl 0 rfl) ?_
        obtain ⟨g13, h⟩ := of_g h
        obtain ⟨g14, h⟩ := of_g h
        refine g_get (C := "JoinedLeavesModel") (T := T_MO) (N := 21) (ref := "JoinedLeavesModel") (v := .ref (b + (mR μ r0 2))) hx hb hts jF_MO hown hK hM g13 (by decide) rfl 2 (by decide) (hts _ jm_8_17) (fun _ h9 => h9) (by decide) (rv_of (ok_0 g14)) d_MO_add_109 ?_
        refine lv_iload_n hx hb d_MO_add_112 rfl (lv_at hl 1 rfl) ?_
        obtain ⟨g15, h⟩ := of_g h
        refine g_iald hx hb hK hM g14 g15 d_MO_add_113 ?_
        refine lv_icmp_ge (tgt := 153) hx hb d_MO_add_114 (by decide) (fun hc => ?_) (fun hc => ?_)
        · replace h := of_t hc h
          refine lv_aload_n hx hb d_MO_add_153 rfl (lv_at hl 0 rfl) ?_
          obtain ⟨g16, h⟩ := of_g h
          refine g_get (C := "JoinedLeavesModel") (T := T_MO) (N := 21) (ref := "JoinedLeavesModel") (v := .ref (b + (mR μ r0 3))) hx hb hts jF_MO hown hK hM g13 (by decide) rfl 3 (by decide) (hts _ jm_8_18) (fun _ h9 => h9) (by decide) (rv_of (ok_0 g16)) d_MO_add_154 ?_
          refine lv_iload_n hx hb d_MO_add_157 rfl (lv_at hl 1 rfl) ?_
          refine lv_aload_n hx hb d_MO_add_158 rfl (lv_at hl 0 rfl) ?_
          refine g_get (C := "JoinedLeavesModel") (T := T_MO) (N := 21) (ref := "JoinedLeavesModel") (v := .ref (b + (mR μ r0 3))) hx hb hts jF_MO hown hK hM g13 (by decide) rfl 3 (by decide) (hts _ jm_8_18) (fun _ h9 => h9) (by decide) (rv_of (ok_0 g16)) d_MO_add_159 ?_
          refine lv_iload_n hx hb d_MO_add_162 rfl (lv_at hl 1 rfl) ?_
          obtain ⟨g17, h⟩ := of_g h
          refine g_iald hx hb hK hM g16 g17 d_MO_add_163 ?_
          refine lv_iconst (v := 1) hx hb d_MO_add_164 (by decide) ?_
          refine lv_iadd hx hb d_MO_add_165 ?_
          obtain ⟨g18, h⟩ := of_g h
          obtain ⟨μ19, e_μ19, h⟩ := of_b h
          obtain rfl := Option.some.inj e_μ19
          refine g_iast (v := (mI μ (mR μ r0 3) (Int32.toNatClampNeg i1)) + 1) hx hb hK hM g16 g18 d_MO_add_166 (fun H locs hM => ?_)
          refine lv_aload_n hx hb d_MO_add_167 rfl (lv_at hl 0 rfl) ?_
          refine lv_iconst (v := 0) hx hb d_MO_add_168 (by decide) ?_
          obtain ⟨μ20, e_μ20, h⟩ := of_b h
          obtain rfl := Option.some.inj e_μ20
          refine g_puti (v := 0) (C := "JoinedLeavesModel") (T := T_MO) (N := 21) (ref := "JoinedLeavesModel") hx hb hts jF_MO t_MO o_MO n_MO hown hK hM g13 (by decide) rfl 13 (by decide) (hts _ jm_8_28) (fun _ h9 => h9) rfl (ty := .boolean) (by decide +kernel) narrow_b0 rfl (by decide) (Or.inr rfl) d_MO_add_169 (fun H locs hM => ?_)
          refine lv_iconst (v := 1) hx hb d_MO_add_172 (by decide) ?_
          exact g_zret hx hb hr narrow_b1 hlocks hM (Option.some.inj h) d_MO_add_173
        · replace h := of_f hc h
          refine lv_aload_n hx hb d_MO_add_117 rfl (lv_at hl 0 rfl) ?_
          obtain ⟨g21, h⟩ := of_g h
          refine g_get (C := "JoinedLeavesModel") (T := T_MO) (N := 21) (ref := "JoinedLeavesModel") (v := .ref (b + (mR μ r0 4))) hx hb hts jF_MO hown hK hM g13 (by decide) rfl 4 (by decide) (hts _ jm_8_19) (fun _ h9 => h9) (by decide) (rv_of (ok_0 g21)) d_MO_add_118 ?_
          refine lv_bipush (v := 36) hx hb d_MO_add_121 (by decide) ?_
          refine lv_iload_n hx hb d_MO_add_123 rfl (lv_at hl 1 rfl) ?_
          refine lv_imul hx hb d_MO_add_124 ?_
          refine lv_iconst (v := 3) hx hb d_MO_add_125 (by decide) ?_
          refine lv_aload_n hx hb d_MO_add_126 rfl (lv_at hl 0 rfl) ?_
          obtain ⟨g22, h⟩ := of_g h
          refine g_get (C := "JoinedLeavesModel") (T := T_MO) (N := 21) (ref := "JoinedLeavesModel") (v := .ref (b + (mR μ r0 3))) hx hb hts jF_MO hown hK hM g13 (by decide) rfl 3 (by decide) (hts _ jm_8_18) (fun _ h9 => h9) (by decide) (rv_of (ok_0 g22)) d_MO_add_127 ?_
          refine lv_iload_n hx hb d_MO_add_130 rfl (lv_at hl 1 rfl) ?_
          obtain ⟨g23, h⟩ := of_g h
          refine g_iald hx hb hK hM g22 g23 d_MO_add_131 ?_
          refine lv_imul hx hb d_MO_add_132 ?_
          refine lv_iadd hx hb d_MO_add_133 ?_
          refine lv_iload hx hb d_MO_add_134 (lv_at hl 5 rfl) ?_
          refine lv_iadd hx hb d_MO_add_136 ?_
          refine lv_iload hx hb d_MO_add_137 (lv_at hl 5 rfl) ?_
          refine lv_iload_n hx hb d_MO_add_139 rfl (lv_at hl 2 rfl) ?_
          refine lv_iload_n hx hb d_MO_add_140 rfl (lv_at hl 3 rfl) ?_
          refine lv_iload hx hb d_MO_add_141 (lv_at hl 4 rfl) ?_
          obtain ⟨q24, hq24, h⟩ := of_b h
          refine g_calli (va_runS (As := [.int i6, .int i2, .int i3, .int i4]) (rest := [.int (((36 * i1) + (3 * (mI μ (mR μ r0 3) (Int32.toNatClampNeg i1)))) + i6), .ref (b + (mR μ r0 4))]) ⟨hx, hb, hml, hown, hts⟩ (S_MO_pick l D b cs i6 i2 i3 i4 μ q24 n hq24) ⟨callB_of 4 hts (goodIn_g jm_9_30) rfl rfl rfl (hts _ jm_0_7) (hts _ jm_9_28) (by decide +kernel) ⟨Nat.le_of_ble_eq_true rfl, Nat.le_of_ble_eq_true rfl⟩, (hts _ jm_9_29)⟩ (Wd.preS hK hM) rfl rfl hl.1 rfl (lv_room (Nat.le_of_ble_eq_true rfl)) d_MO_add_143 ⟨Nat.le_of_ble_eq_true rfl, Nat.le_of_ble_eq_true rfl⟩) hM (fun H locs hM => ?_)
          obtain ⟨g25, h⟩ := of_g h
          obtain ⟨g26, h⟩ := of_g h
          obtain ⟨μ27, e_μ27, h⟩ := of_b h
          obtain rfl := Option.some.inj e_μ27
          refine g_iast (v := q24.1) hx hb hK hM g25 g26 d_MO_add_146 (fun H locs hM => ?_)
          obtain ⟨v28, e_v28, h⟩ := of_b h
          refine lv_iinc (v := v28) hx hb d_MO_add_147 hl (k := 5) rfl (by rw [lit1]; exact Option.some.inj e_v28) (by decide) rfl (fun ls hl => ?_)
          have hl : lv_has ls 8 [(6, .int v28), (0, .ref (b + r0)), (1, .int i1), (2, .int i2), (3, .int i3), (4, .int i4)] := hl
          refine lv_goto (tgt := 106) hx hb d_MO_add_150 (by decide) ?_
          exact ih4 _ _ _ _ _ _ _ _ _ _ _ _ h hM (lv_sub hl [1, 2, 3, 4, 5, 0] rfl)
  exact (key n).1 _ _ _ _ _ _ _ _ _ _ _ _ h hM hl
abbrev w_MO_drop : List Cond := .code y_MO_drop b_MO_drop 7 (Option.some Jvm.ClassFile.FieldType.boolean) :: jW
def B_MO_drop_0 (n : Nat) (k : Nat → Nat → Int32 → Int32 → Int32 → Int32 → Int32 → Int32 → Int32 → Mem → Option (Int32 × Mem)) (r0 : Nat) (i1 : Int32) (i2 : Int32) (i3 : Int32) (i4 : Int32) (i5 : Int32) (i6 : Int32) (x0 : Int32) (μ : Mem) : Option (Int32 × Mem) :=
  if ok μ r0 6 = true then Option.bind (some (sI μ r0 0 0)) (fun μ2 => Option.bind (C_MO_isRelation n r0 i1 μ2) (fun q3 => if q3.1 = 0 then k 1 r0 i1 0 0 0 0 0 (-1) q3.2 else if ok q3.2 r0 6 = true then Option.bind (C_MO_placeOf n r0 i1 i2 i3 i4 q3.2) (fun q5 => k 1 r0 i1 0 0 0 0 0 q5.1 q5.2) else none)) else none
def B_MO_drop_1 (n : Nat) (k : Nat → Nat → Int32 → Int32 → Int32 → Int32 → Int32 → Int32 → Int32 → Mem → Option (Int32 × Mem)) (r0 : Nat) (i1 : Int32) (i2 : Int32) (i3 : Int32) (i4 : Int32) (i5 : Int32) (i6 : Int32) (x0 : Int32) (μ : Mem) : Option (Int32 × Mem) :=
  if 0 ≤ x0 then if ok μ r0 6 = true then if ok μ (mR μ r0 3) 100 = true then if ib i1 (mZ μ (mR μ r0 3)) = true then if ib i1 (mZ μ (mR μ r0 3)) = true then Option.bind (some (sI μ (mR μ r0 3) (Int32.toNatClampNeg i1) ((mI μ (mR μ r0 3) (Int32.toNatClampNeg i1)) - 1))) (fun μ10 => k 2 r0 i1 0 0 0 x0 0 0 μ10) else none else none else none else none else some (0, μ)
def B_MO_drop_2 (n : Nat) (k : Nat → Nat → Int32 → Int32 → Int32 → Int32 → Int32 → Int32 → Int32 → Mem → Option (Int32 × Mem)) (r0 : Nat) (i1 : Int32) (i2 : Int32) (i3 : Int32) (i4 : Int32) (i5 : Int32) (i6 : Int32) (x0 : Int32) (μ : Mem) : Option (Int32 × Mem) :=
  if 3 ≤ i6 then if ok μ r0 6 = true then Option.bind (some (sI μ r0 13 0)) (fun μ12 => some (1, μ12)) else none else if ok μ r0 6 = true then if ok μ (mR μ r0 4) 100 = true then if ok μ (mR μ r0 3) 100 = true then if ib i1 (mZ μ (mR μ r0 3)) = true then if ib (((36 * i1) + (3 * (mI μ (mR μ r0 3) (Int32.toNatClampNeg i1)))) + i6) (mZ μ (mR μ r0 4)) = true then if ib (((36 * i1) + (3 * i5)) + i6) (mZ μ (mR μ r0 4)) = true then Option.bind (some (sI μ (mR μ r0 4) (Int32.toNatClampNeg (((36 * i1) + (3 * i5)) + i6)) (mI μ (mR μ r0 4) (Int32.toNatClampNeg (((36 * i1) + (3 * (mI μ (mR μ r0 3) (Int32.toNatClampNeg i1)))) + i6))))) (fun μ19 => Option.bind (some (i6 + 1)) (fun v20 => k 2 r0 i1 0 0 0 i5 v20 0 μ19)) else none else none else none else none else none else none
def F_MO_drop : Nat → Nat → Nat → Int32 → Int32 → Int32 → Int32 → Int32 → Int32 → Int32 → Mem → Option (Int32 × Mem)
  | 0 => fun _ _ _ _ _ _ _ _ _ _ => none
  | n + 1 => fun id r0 i1 i2 i3 i4 i5 i6 x0 μ => match id with
    | 0 => B_MO_drop_0 n (F_MO_drop n) r0 i1 i2 i3 i4 i5 i6 x0 μ
    | 1 => B_MO_drop_1 n (F_MO_drop n) r0 i1 i2 i3 i4 i5 i6 x0 μ
    | 2 => B_MO_drop_2 n (F_MO_drop n) r0 i1 i2 i3 i4 i5 i6 x0 μ
    | _ => none
def C_MO_drop (n : Nat) (r0 : Nat) (i1 : Int32) (i2 : Int32) (i3 : Int32) (i4 : Int32) (μ : Mem) : Option (Int32 × Mem) := F_MO_drop n 0 r0 i1 i2 i3 i4 0 0 0 μ
set_option maxHeartbeats 4000000 in
set_option maxRecDepth 100000 in
theorem S_MO_drop (l : Launch) (D : va_G) (b : Nat) (cs : Nat → ClassId) (u_r0 : Nat) (u_i1 : Int32) (u_i2 : Int32) (u_i3 : Int32) (u_i4 : Int32) (ν : Mem) (res : Int32 × Mem) (n : Nat) (h : C_MO_drop n u_r0 u_i1 u_i2 u_i3 u_i4 ν = some res) : MetI l y_MO_drop w_MO_drop 2 51 b cs D ν [.ref (b + u_r0), .int u_i1, .int u_i2, .int u_i3, .int u_i4] res := by
  refine Met.ofW (cc := b_MO_drop) (maxL := 7) (ret := (Option.some Jvm.ClassFile.FieldType.boolean)) (by decide) rfl ?_
  intro p e s m args below meth c s₁ B hml hv
  obtain ⟨rfl, hK, hM⟩ := Wd.start hv
  have hx := B.exec
  have hb := B.bytes
  have hr := B.returns
  have hts : ∀ w ∈ jW, w.before _ s = true := fun w hw => atoms_spec (ws := w_MO_drop) B.pre w (List.mem_cons_of_mem _ hw)
  have hown : s.vm.findClass "JoinedLeavesModel" = some m.cls := findClass_of_methodNamed B.named
  have hlocks := B.notSynchronized
  have hl := lv_entry ([.ref (b + u_r0), .int u_i1, .int u_i2, .int u_i3, .int u_i4]) (n := 7) (Nat.le_of_ble_eq_true rfl)
  rw [lg_entry_eq]
  generalize (lg_sl ([.ref (b + u_r0), .int u_i1, .int u_i2, .int u_i3, .int u_i4]) ++ List.replicate (7 - (lg_sl ([.ref (b + u_r0), .int u_i1, .int u_i2, .int u_i3, .int u_i4])).length) Slot.unset).toArray = ls at hl ⊢
  have hl : lv_has ls 7 [(0, .ref (b + u_r0)), (1, .int u_i1), (2, .int u_i2), (3, .int u_i3), (4, .int u_i4)] := hl
  have key : ∀ N : Nat, (∀ (r0 : Nat) (i1 : Int32) (i2 : Int32) (i3 : Int32) (i4 : Int32) (i5 : Int32) (i6 : Int32) (x0 : Int32) (μ : Mem) (H : Heap) (locs : List Loc) (ls : Array Slot), F_MO_drop N 0 r0 i1 i2 i3 i4 i5 i6 x0 μ = some res → Wd (Aw b (mN ν)) b cs D s.heap μ H locs → lv_has ls 7 [(0, .ref (b + r0)), (1, .int i1), (2, .int i2), (3, .int i3), (4, .int i4)] → W p l e (headSpec w_MO_drop { frames := 2, cells := 0, slots := 0, locals := 51 }).room s m ([.ref (b + u_r0), .int u_i1, .int u_i2, .int u_i3, .int u_i4]).toArray below meth c H locs 0 0 (MQ below (va_Qi (fun r μ' => (r, μ') = res ∧ mN μ' ≤ mN ν) (Bw b cs D) (Aw b (mN ν))) ([.ref (b + u_r0), .int u_i1, .int u_i2, .int u_i3, .int u_i4]).toArray s 0 0 (Aw b (mN ν))) (F0 m 0 ls [])) ∧
      (∀ (r0 : Nat) (i1 : Int32) (i2 : Int32) (i3 : Int32) (i4 : Int32) (i5 : Int32) (i6 : Int32) (x0 : Int32) (μ : Mem) (H : Heap) (locs : List Loc) (ls : Array Slot), F_MO_drop N 1 r0 i1 i2 i3 i4 i5 i6 x0 μ = some res → Wd (Aw b (mN ν)) b cs D s.heap μ H locs → lv_has ls 7 [(0, .ref (b + r0)), (1, .int i1)] → W p l e (headSpec w_MO_drop { frames := 2, cells := 0, slots := 0, locals := 51 }).room s m ([.ref (b + u_r0), .int u_i1, .int u_i2, .int u_i3, .int u_i4]).toArray below meth c H locs 0 0 (MQ below (va_Qi (fun r μ' => (r, μ') = res ∧ mN μ' ≤ mN ν) (Bw b cs D) (Aw b (mN ν))) ([.ref (b + u_r0), .int u_i1, .int u_i2, .int u_i3, .int u_i4]).toArray s 0 0 (Aw b (mN ν))) (F0 m 26 ls [.int x0])) ∧
      (∀ (r0 : Nat) (i1 : Int32) (i2 : Int32) (i3 : Int32) (i4 : Int32) (i5 : Int32) (i6 : Int32) (x0 : Int32) (μ : Mem) (H : Heap) (locs : List Loc) (ls : Array Slot), F_MO_drop N 2 r0 i1 i2 i3 i4 i5 i6 x0 μ = some res → Wd (Aw b (mN ν)) b cs D s.heap μ H locs → lv_has ls 7 [(0, .ref (b + r0)), (1, .int i1), (5, .int i5), (6, .int i6)] → W p l e (headSpec w_MO_drop { frames := 2, cells := 0, slots := 0, locals := 51 }).room s m ([.ref (b + u_r0), .int u_i1, .int u_i2, .int u_i3, .int u_i4]).toArray below meth c H locs 0 0 (MQ below (va_Qi (fun r μ' => (r, μ') = res ∧ mN μ' ≤ mN ν) (Bw b cs D) (Aw b (mN ν))) ([.ref (b + u_r0), .int u_i1, .int u_i2, .int u_i3, .int u_i4]).toArray s 0 0 (Aw b (mN ν))) (F0 m 52 ls [])) := by
    intro N
    induction N with
    | zero => exact ⟨fun _ _ _ _ _ _ _ _ _ _ _ _ h => (nomatch h), fun _ _ _ _ _ _ _ _ _ _ _ _ h => (nomatch h), fun _ _ _ _ _ _ _ _ _ _ _ _ h => (nomatch h)⟩
    | succ n ih =>
      obtain ⟨ih0, ih1, ih2⟩ := ih
      refine ⟨?_, ?_, ?_⟩
      · intro r0 i1 i2 i3 i4 i5 i6 x0 μ H locs ls h hM hl
        have h : B_MO_drop_0 n (F_MO_drop n) r0 i1 i2 i3 i4 i5 i6 x0 μ = some res := h
        unfold B_MO_drop_0 at h
        refine lv_aload_n hx hb d_MO_drop_0 rfl (lv_at hl 0 rfl) ?_
        refine lv_iconst (v := 0) hx hb d_MO_drop_1 (by decide) ?_
        obtain ⟨g1, h⟩ := of_g h
        obtain ⟨μ2, e_μ2, h⟩ := of_b h
        obtain rfl := Option.some.inj e_μ2
        refine g_puti (v := 0) (C := "JoinedLeavesModel") (T := T_MO) (N := 21) (ref := "JoinedLeavesModel") hx hb hts jF_MO t_MO o_MO n_MO hown hK hM g1 (by decide) rfl 0 (by decide) (hts _ jm_8_15) (fun _ h9 => h9) rfl (ty := .int) (by decide +kernel) rfl rfl (by decide) (Or.inl rfl) d_MO_drop_2 (fun H locs hM => ?_)
        refine lv_aload_n hx hb d_MO_drop_5 rfl (lv_at hl 0 rfl) ?_
        refine lv_iload_n hx hb d_MO_drop_6 rfl (lv_at hl 1 rfl) ?_
        obtain ⟨q3, hq3, h⟩ := of_b h
        refine g_calli (va_runV (As := [.int i1]) (rest := []) ⟨hx, hb, hml, hown, hts⟩ (S_MO_isRelation l D b cs r0 i1 (sI μ r0 0 0) q3 n hq3) ⟨callB_of 1 hts (goodIn_g jm_9_24) rfl rfl rfl (hts _ jm_0_7) (hts _ jm_9_22) (by decide +kernel) ⟨Nat.le_of_ble_eq_true rfl, Nat.le_of_ble_eq_true rfl⟩, (hts _ jm_9_23), (hts _ jm_12_13)⟩ (Wd.preV hK hM g1 rfl (by decide)) rfl rfl hl.1 rfl (lv_room (Nat.le_of_ble_eq_true rfl)) d_MO_drop_7 ⟨Nat.le_of_ble_eq_true rfl, Nat.le_of_ble_eq_true rfl⟩) hM (fun H locs hM => ?_)
        refine lv_if_eq (tgt := 25) hx hb d_MO_drop_10 (by decide) (fun hc => ?_) (fun hc => ?_)
        · replace h := of_t hc h
          refine lv_iconst (v := (-1)) hx hb d_MO_drop_25 (by decide) ?_
          exact ih1 _ _ _ _ _ _ _ _ _ _ _ _ h hM (lv_sub hl [0, 1] rfl)
        · replace h := of_f hc h
          refine lv_aload_n hx hb d_MO_drop_13 rfl (lv_at hl 0 rfl) ?_
          refine lv_iload_n hx hb d_MO_drop_14 rfl (lv_at hl 1 rfl) ?_
          refine lv_iload_n hx hb d_MO_drop_15 rfl (lv_at hl 2 rfl) ?_
          refine lv_iload_n hx hb d_MO_drop_16 rfl (lv_at hl 3 rfl) ?_
          refine lv_iload hx hb d_MO_drop_17 (lv_at hl 4 rfl) ?_
          obtain ⟨g4, h⟩ := of_g h
          obtain ⟨q5, hq5, h⟩ := of_b h
          refine g_calli (va_runV (As := [.int i1, .int i2, .int i3, .int i4]) (rest := []) ⟨hx, hb, hml, hown, hts⟩ (S_MO_placeOf l D b cs r0 i1 i2 i3 i4 q3.2 q5 n hq5) ⟨callB_of 4 hts (goodIn_g jm_9_27) rfl rfl rfl (hts _ jm_0_7) (hts _ jm_9_25) (by decide +kernel) ⟨Nat.le_of_ble_eq_true rfl, Nat.le_of_ble_eq_true rfl⟩, (hts _ jm_9_26), (hts _ jm_12_14)⟩ (Wd.preV hK hM g4 rfl (by decide)) rfl rfl hl.1 rfl (lv_room (Nat.le_of_ble_eq_true rfl)) d_MO_drop_19 ⟨Nat.le_of_ble_eq_true rfl, Nat.le_of_ble_eq_true rfl⟩) hM (fun H locs hM => ?_)
          refine lv_goto (tgt := 26) hx hb d_MO_drop_22 (by decide) ?_
          exact ih1 _ _ _ _ _ _ _ _ _ _ _ _ h hM (lv_sub hl [0, 1] rfl)
      · intro r0 i1 i2 i3 i4 i5 i6 x0 μ H locs ls h hM hl
        have h : B_MO_drop_1 n (F_MO_drop n) r0 i1 i2 i3 i4 i5 i6 x0 μ = some res := h
        unfold B_MO_drop_1 at h
        refine lv_istore hx hb d_MO_drop_26 hl (by decide) rfl (fun ls hl => ?_)
        have hl : lv_has ls 7 [(5, .int x0), (0, .ref (b + r0)), (1, .int i1)] := hl
        refine lv_iload hx hb d_MO_drop_28 (lv_at hl 0 rfl) ?_
        refine lv_if_ge (tgt := 35) hx hb d_MO_drop_30 (by decide) (fun hc => ?_) (fun hc => ?_)
        · replace h := of_t hc h
          refine lv_aload_n hx hb d_MO_drop_35 rfl (lv_at hl 1 rfl) ?_
          obtain ⟨g6, h⟩ := of_g h
          obtain ⟨g7, h⟩ := of_g h
          refine g_get (C := "JoinedLeavesModel") (T := T_MO) (N := 21) (ref := "JoinedLeavesModel") (v := .ref (b + (mR μ r0 3))) hx hb hts jF_MO hown hK hM g6 (by decide) rfl 3 (by decide) (hts _ jm_8_18) (fun _ h9 => h9) (by decide) (rv_of (ok_0 g7)) d_MO_drop_36 ?_
          refine lv_iload_n hx hb d_MO_drop_39 rfl (lv_at hl 2 rfl) ?_
          refine lv_aload_n hx hb d_MO_drop_40 rfl (lv_at hl 1 rfl) ?_
          refine g_get (C := "JoinedLeavesModel") (T := T_MO) (N := 21) (ref := "JoinedLeavesModel") (v := .ref (b + (mR μ r0 3))) hx hb hts jF_MO hown hK hM g6 (by decide) rfl 3 (by decide) (hts _ jm_8_18) (fun _ h9 => h9) (by decide) (rv_of (ok_0 g7)) d_MO_drop_41 ?_
          refine lv_iload_n hx hb d_MO_drop_44 rfl (lv_at hl 2 rfl) ?_
          obtain ⟨g8, h⟩ := of_g h
          refine g_iald hx hb hK hM g7 g8 d_MO_drop_45 ?_
          refine lv_iconst (v := 1) hx hb d_MO_drop_46 (by decide) ?_
          refine lv_isub hx hb d_MO_drop_47 ?_
          obtain ⟨g9, h⟩ := of_g h
          obtain ⟨μ10, e_μ10, h⟩ := of_b h
          obtain rfl := Option.some.inj e_μ10
          refine g_iast (v := (mI μ (mR μ r0 3) (Int32.toNatClampNeg i1)) - 1) hx hb hK hM g7 g9 d_MO_drop_48 (fun H locs hM => ?_)
          refine lv_iconst (v := 0) hx hb d_MO_drop_49 (by decide) ?_
          refine lv_istore hx hb d_MO_drop_50 hl (by decide) rfl (fun ls hl => ?_)
          have hl : lv_has ls 7 [(6, .int 0), (5, .int x0), (0, .ref (b + r0)), (1, .int i1)] := hl
          exact ih2 _ _ _ _ _ _ _ _ _ _ _ _ h hM (lv_sub hl [2, 3, 1, 0] rfl)
        · replace h := of_f hc h
          refine lv_iconst (v := 0) hx hb d_MO_drop_33 (by decide) ?_
          exact g_zret hx hb hr narrow_b0 hlocks hM (Option.some.inj h) d_MO_drop_34
      · intro r0 i1 i2 i3 i4 i5 i6 x0 μ H locs ls h hM hl
        have h : B_MO_drop_2 n (F_MO_drop n) r0 i1 i2 i3 i4 i5 i6 x0 μ = some res := h
        unfold B_MO_drop_2 at h
        refine lv_iload hx hb d_MO_drop_52 (lv_at hl 3 rfl) ?_
        refine lv_iconst (v := 3) hx hb d_MO_drop_54 (by decide) ?_
        refine lv_icmp_ge (tgt := 102) hx hb d_MO_drop_55 (by decide) (fun hc => ?_) (fun hc => ?_)
        · replace h := of_t hc h
          refine lv_aload_n hx hb d_MO_drop_102 rfl (lv_at hl 0 rfl) ?_
          refine lv_iconst (v := 0) hx hb d_MO_drop_103 (by decide) ?_
          obtain ⟨g11, h⟩ := of_g h
          obtain ⟨μ12, e_μ12, h⟩ := of_b h
          obtain rfl := Option.some.inj e_μ12
          refine g_puti (v := 0) (C := "JoinedLeavesModel") (T := T_MO) (N := 21) (ref := "JoinedLeavesModel") hx hb hts jF_MO t_MO o_MO n_MO hown hK hM g11 (by decide) rfl 13 (by decide) (hts _ jm_8_28) (fun _ h9 => h9) rfl (ty := .boolean) (by decide +kernel) narrow_b0 rfl (by decide) (Or.inr rfl) d_MO_drop_104 (fun H locs hM => ?_)
          refine lv_iconst (v := 1) hx hb d_MO_drop_107 (by decide) ?_
          exact g_zret hx hb hr narrow_b1 hlocks hM (Option.some.inj h) d_MO_drop_108
        · replace h := of_f hc h
          refine lv_aload_n hx hb d_MO_drop_58 rfl (lv_at hl 0 rfl) ?_
          obtain ⟨g13, h⟩ := of_g h
          obtain ⟨g14, h⟩ := of_g h
          refine g_get (C := "JoinedLeavesModel") (T := T_MO) (N := 21) (ref := "JoinedLeavesModel") (v := .ref (b + (mR μ r0 4))) hx hb hts jF_MO hown hK hM g13 (by decide) rfl 4 (by decide) (hts _ jm_8_19) (fun _ h9 => h9) (by decide) (rv_of (ok_0 g14)) d_MO_drop_59 ?_
          refine lv_bipush (v := 36) hx hb d_MO_drop_62 (by decide) ?_
          refine lv_iload_n hx hb d_MO_drop_64 rfl (lv_at hl 1 rfl) ?_
          refine lv_imul hx hb d_MO_drop_65 ?_
          refine lv_iconst (v := 3) hx hb d_MO_drop_66 (by decide) ?_
          refine lv_iload hx hb d_MO_drop_67 (lv_at hl 2 rfl) ?_
          refine lv_imul hx hb d_MO_drop_69 ?_
          refine lv_iadd hx hb d_MO_drop_70 ?_
          refine lv_iload hx hb d_MO_drop_71 (lv_at hl 3 rfl) ?_
          refine lv_iadd hx hb d_MO_drop_73 ?_
          refine lv_aload_n hx hb d_MO_drop_74 rfl (lv_at hl 0 rfl) ?_
          refine g_get (C := "JoinedLeavesModel") (T := T_MO) (N := 21) (ref := "JoinedLeavesModel") (v := .ref (b + (mR μ r0 4))) hx hb hts jF_MO hown hK hM g13 (by decide) rfl 4 (by decide) (hts _ jm_8_19) (fun _ h9 => h9) (by decide) (rv_of (ok_0 g14)) d_MO_drop_75 ?_
          refine lv_bipush (v := 36) hx hb d_MO_drop_78 (by decide) ?_
          refine lv_iload_n hx hb d_MO_drop_80 rfl (lv_at hl 1 rfl) ?_
          refine lv_imul hx hb d_MO_drop_81 ?_
          refine lv_iconst (v := 3) hx hb d_MO_drop_82 (by decide) ?_
          refine lv_aload_n hx hb d_MO_drop_83 rfl (lv_at hl 0 rfl) ?_
          obtain ⟨g15, h⟩ := of_g h
          refine g_get (C := "JoinedLeavesModel") (T := T_MO) (N := 21) (ref := "JoinedLeavesModel") (v := .ref (b + (mR μ r0 3))) hx hb hts jF_MO hown hK hM g13 (by decide) rfl 3 (by decide) (hts _ jm_8_18) (fun _ h9 => h9) (by decide) (rv_of (ok_0 g15)) d_MO_drop_84 ?_
          refine lv_iload_n hx hb d_MO_drop_87 rfl (lv_at hl 1 rfl) ?_
          obtain ⟨g16, h⟩ := of_g h
          refine g_iald hx hb hK hM g15 g16 d_MO_drop_88 ?_
          refine lv_imul hx hb d_MO_drop_89 ?_
          refine lv_iadd hx hb d_MO_drop_90 ?_
          refine lv_iload hx hb d_MO_drop_91 (lv_at hl 3 rfl) ?_
          refine lv_iadd hx hb d_MO_drop_93 ?_
          obtain ⟨g17, h⟩ := of_g h
          refine g_iald hx hb hK hM g14 g17 d_MO_drop_94 ?_
          obtain ⟨g18, h⟩ := of_g h
          obtain ⟨μ19, e_μ19, h⟩ := of_b h
          obtain rfl := Option.some.inj e_μ19
          refine g_iast (v := mI μ (mR μ r0 4) (Int32.toNatClampNeg (((36 * i1) + (3 * (mI μ (mR μ r0 3) (Int32.toNatClampNeg i1)))) + i6))) hx hb hK hM g14 g18 d_MO_drop_95 (fun H locs hM => ?_)
          obtain ⟨v20, e_v20, h⟩ := of_b h
          refine lv_iinc (v := v20) hx hb d_MO_drop_96 hl (k := 3) rfl (by rw [lit1]; exact Option.some.inj e_v20) (by decide) rfl (fun ls hl => ?_)
          have hl : lv_has ls 7 [(6, .int v20), (0, .ref (b + r0)), (1, .int i1), (5, .int i5)] := hl
          refine lv_goto (tgt := 52) hx hb d_MO_drop_99 (by decide) ?_
          exact ih2 _ _ _ _ _ _ _ _ _ _ _ _ h hM (lv_sub hl [1, 2, 3, 0] rfl)
  exact (key n).1 _ _ _ _ _ _ _ _ _ _ _ _ h hM hl
abbrev w_MO_rows : List Cond := .code y_MO_rows b_MO_rows 2 (Option.some Jvm.ClassFile.FieldType.int) :: jW
def C_MO_rows (n : Nat) (r0 : Nat) (i1 : Int32) (μ : Mem) : Option (Int32 × Mem) :=
  if ok μ r0 6 = true then Option.bind (some (sI μ r0 0 0)) (fun μ2 => Option.bind (C_MO_isRelation n r0 i1 μ2) (fun q3 => if q3.1 = 0 then some ((-1), q3.2) else if ok q3.2 r0 6 = true then if ok q3.2 (mR q3.2 r0 3) 100 = true then if ib i1 (mZ q3.2 (mR q3.2 r0 3)) = true then some (mI q3.2 (mR q3.2 r0 3) (Int32.toNatClampNeg i1), q3.2) else none else none else none)) else none
set_option maxHeartbeats 4000000 in
set_option maxRecDepth 100000 in
theorem S_MO_rows (l : Launch) (D : va_G) (b : Nat) (cs : Nat → ClassId) (r0 : Nat) (i1 : Int32) (μ : Mem) (res : Int32 × Mem) (n : Nat) (h : C_MO_rows n r0 i1 μ = some res) : MetI l y_MO_rows w_MO_rows 1 21 b cs D μ [.ref (b + r0), .int i1] res := by
  refine Met.ofW (cc := b_MO_rows) (maxL := 2) (ret := (Option.some Jvm.ClassFile.FieldType.int)) (by decide) rfl ?_
  intro p e s m args below meth c s₁ B hml hv
  obtain ⟨rfl, hK, hM⟩ := Wd.start hv
  have hx := B.exec
  have hb := B.bytes
  have hr := B.returns
  have hts : ∀ w ∈ jW, w.before _ s = true := fun w hw => atoms_spec (ws := w_MO_rows) B.pre w (List.mem_cons_of_mem _ hw)
  have hown : s.vm.findClass "JoinedLeavesModel" = some m.cls := findClass_of_methodNamed B.named
  have hlocks := B.notSynchronized
  have hl := lv_entry ([.ref (b + r0), .int i1]) (n := 2) (Nat.le_of_ble_eq_true rfl)
  rw [lg_entry_eq]
  generalize (lg_sl ([.ref (b + r0), .int i1]) ++ List.replicate (2 - (lg_sl ([.ref (b + r0), .int i1])).length) Slot.unset).toArray = ls at hl ⊢
  have hl : lv_has ls 2 [(0, .ref (b + r0)), (1, .int i1)] := hl
  unfold C_MO_rows at h
  refine lv_aload_n hx hb d_MO_rows_0 rfl (lv_at hl 0 rfl) ?_
  refine lv_iconst (v := 0) hx hb d_MO_rows_1 (by decide) ?_
  obtain ⟨g1, h⟩ := of_g h
  obtain ⟨μ2, e_μ2, h⟩ := of_b h
  obtain rfl := Option.some.inj e_μ2
  refine g_puti (v := 0) (C := "JoinedLeavesModel") (T := T_MO) (N := 21) (ref := "JoinedLeavesModel") hx hb hts jF_MO t_MO o_MO n_MO hown hK hM g1 (by decide) rfl 0 (by decide) (hts _ jm_8_15) (fun _ h9 => h9) rfl (ty := .int) (by decide +kernel) rfl rfl (by decide) (Or.inl rfl) d_MO_rows_2 (fun H locs hM => ?_)
  refine lv_aload_n hx hb d_MO_rows_5 rfl (lv_at hl 0 rfl) ?_
  refine lv_iload_n hx hb d_MO_rows_6 rfl (lv_at hl 1 rfl) ?_
  obtain ⟨q3, hq3, h⟩ := of_b h
  refine g_calli (va_runV (As := [.int i1]) (rest := []) ⟨hx, hb, hml, hown, hts⟩ (S_MO_isRelation l D b cs r0 i1 (sI μ r0 0 0) q3 n hq3) ⟨callB_of 1 hts (goodIn_g jm_9_24) rfl rfl rfl (hts _ jm_0_7) (hts _ jm_9_22) (by decide +kernel) ⟨Nat.le_of_ble_eq_true rfl, Nat.le_of_ble_eq_true rfl⟩, (hts _ jm_9_23), (hts _ jm_12_13)⟩ (Wd.preV hK hM g1 rfl (by decide)) rfl rfl hl.1 rfl (lv_room (Nat.le_of_ble_eq_true rfl)) d_MO_rows_7 ⟨Nat.le_of_ble_eq_true rfl, Nat.le_of_ble_eq_true rfl⟩) hM (fun H locs hM => ?_)
  refine lv_if_eq (tgt := 22) hx hb d_MO_rows_10 (by decide) (fun hc => ?_) (fun hc => ?_)
  · replace h := of_t hc h
    refine lv_iconst (v := (-1)) hx hb d_MO_rows_22 (by decide) ?_
    exact g_iret hx hb hr hlocks hM (Option.some.inj h) d_MO_rows_23
  · replace h := of_f hc h
    refine lv_aload_n hx hb d_MO_rows_13 rfl (lv_at hl 0 rfl) ?_
    obtain ⟨g4, h⟩ := of_g h
    obtain ⟨g5, h⟩ := of_g h
    refine g_get (C := "JoinedLeavesModel") (T := T_MO) (N := 21) (ref := "JoinedLeavesModel") (v := .ref (b + (mR q3.2 r0 3))) hx hb hts jF_MO hown hK hM g4 (by decide) rfl 3 (by decide) (hts _ jm_8_18) (fun _ h9 => h9) (by decide) (rv_of (ok_0 g5)) d_MO_rows_14 ?_
    refine lv_iload_n hx hb d_MO_rows_17 rfl (lv_at hl 1 rfl) ?_
    obtain ⟨g6, h⟩ := of_g h
    refine g_iald hx hb hK hM g5 g6 d_MO_rows_18 ?_
    refine lv_goto (tgt := 23) hx hb d_MO_rows_19 (by decide) ?_
    exact g_iret hx hb hr hlocks hM (Option.some.inj h) d_MO_rows_23
abbrev w_MO_atom : List Cond := .code y_MO_atom b_MO_atom 8 (Option.some Jvm.ClassFile.FieldType.int) :: jW
def B_MO_atom_0 (n : Nat) (k : Nat → Nat → Int32 → Int32 → Int32 → Int32 → Int32 → Int32 → Int32 → Mem → Option (Int32 × Mem)) (r0 : Nat) (i1 : Int32) (i2 : Int32) (i3 : Int32) (i4 : Int32) (i5 : Int32) (i6 : Int32) (x0 : Int32) (μ : Mem) : Option (Int32 × Mem) :=
  if ok μ r0 6 = true then Option.bind (some (sI μ r0 0 0)) (fun μ2 => Option.bind (C_MO_isRelation n r0 i1 μ2) (fun q3 => if q3.1 = 0 then some ((-1), q3.2) else if ok q3.2 r0 6 = true then if (mI q3.2 r0 5) = 6 then some ((-1), q3.2) else k 1 r0 i1 i2 i3 i4 1 0 0 q3.2 else none)) else none
def B_MO_atom_1 (n : Nat) (k : Nat → Nat → Int32 → Int32 → Int32 → Int32 → Int32 → Int32 → Int32 → Mem → Option (Int32 × Mem)) (r0 : Nat) (i1 : Int32) (i2 : Int32) (i3 : Int32) (i4 : Int32) (i5 : Int32) (i6 : Int32) (x0 : Int32) (μ : Mem) : Option (Int32 × Mem) :=
  if ok μ r0 6 = true then if ok μ (mR μ r0 2) 100 = true then if ib i1 (mZ μ (mR μ r0 2)) = true then if (mI μ (mR μ r0 2) (Int32.toNatClampNeg i1)) ≤ i6 then if i5 = 0 then some ((-1), μ) else if ok μ (mR μ r0 6) 100 = true then if ib (mI μ r0 5) (mZ μ (mR μ r0 6)) = true then Option.bind (some (sI μ (mR μ r0 6) (Int32.toNatClampNeg (mI μ r0 5)) i1)) (fun μ10 => k 4 r0 i1 i2 i3 i4 0 0 0 μ10) else none else none else Option.bind (C_MO_pick n i6 i2 i3 i4 μ) (fun q11 => if i5 = 0 then k 2 r0 i1 i2 i3 i4 0 i6 0 q11.2 else if q11.1 < 0 then k 2 r0 i1 i2 i3 i4 0 i6 0 q11.2 else if 8 ≤ q11.1 then k 2 r0 i1 i2 i3 i4 0 i6 0 q11.2 else k 3 r0 i1 i2 i3 i4 0 i6 1 q11.2) else none else none else none
def B_MO_atom_2 (n : Nat) (k : Nat → Nat → Int32 → Int32 → Int32 → Int32 → Int32 → Int32 → Int32 → Mem → Option (Int32 × Mem)) (r0 : Nat) (i1 : Int32) (i2 : Int32) (i3 : Int32) (i4 : Int32) (i5 : Int32) (i6 : Int32) (x0 : Int32) (μ : Mem) : Option (Int32 × Mem) :=
  k 3 r0 i1 i2 i3 i4 0 i6 0 μ
def B_MO_atom_3 (n : Nat) (k : Nat → Nat → Int32 → Int32 → Int32 → Int32 → Int32 → Int32 → Int32 → Mem → Option (Int32 × Mem)) (r0 : Nat) (i1 : Int32) (i2 : Int32) (i3 : Int32) (i4 : Int32) (i5 : Int32) (i6 : Int32) (x0 : Int32) (μ : Mem) : Option (Int32 × Mem) :=
  Option.bind (some (i6 + 1)) (fun v12 => k 1 r0 i1 i2 i3 i4 x0 v12 0 μ)
def B_MO_atom_4 (n : Nat) (k : Nat → Nat → Int32 → Int32 → Int32 → Int32 → Int32 → Int32 → Int32 → Mem → Option (Int32 × Mem)) (r0 : Nat) (i1 : Int32) (i2 : Int32) (i3 : Int32) (i4 : Int32) (i5 : Int32) (i6 : Int32) (x0 : Int32) (μ : Mem) : Option (Int32 × Mem) :=
  if ok μ r0 6 = true then if ok μ (mR μ r0 2) 100 = true then if ib i1 (mZ μ (mR μ r0 2)) = true then if (mI μ (mR μ r0 2) (Int32.toNatClampNeg i1)) ≤ i6 then Option.bind (some (sI μ r0 5 ((mI μ r0 5) + 1))) (fun μ16 => Option.bind (some (sI μ16 r0 13 0)) (fun μ17 => some ((mI μ17 r0 5) - 1, μ17))) else if ok μ (mR μ r0 7) 100 = true then Option.bind (C_MO_pick n i6 i2 i3 i4 μ) (fun q19 => if ok q19.2 (mR μ r0 7) 100 = true then if ib ((3 * (mI μ r0 5)) + i6) (mZ q19.2 (mR μ r0 7)) = true then Option.bind (some (sI q19.2 (mR μ r0 7) (Int32.toNatClampNeg ((3 * (mI μ r0 5)) + i6)) q19.1)) (fun μ22 => Option.bind (some (i6 + 1)) (fun v23 => k 4 r0 i1 i2 i3 i4 0 v23 0 μ22)) else none else none) else none else none else none else none
def F_MO_atom : Nat → Nat → Nat → Int32 → Int32 → Int32 → Int32 → Int32 → Int32 → Int32 → Mem → Option (Int32 × Mem)
  | 0 => fun _ _ _ _ _ _ _ _ _ _ => none
  | n + 1 => fun id r0 i1 i2 i3 i4 i5 i6 x0 μ => match id with
    | 0 => B_MO_atom_0 n (F_MO_atom n) r0 i1 i2 i3 i4 i5 i6 x0 μ
    | 1 => B_MO_atom_1 n (F_MO_atom n) r0 i1 i2 i3 i4 i5 i6 x0 μ
    | 2 => B_MO_atom_2 n (F_MO_atom n) r0 i1 i2 i3 i4 i5 i6 x0 μ
    | 3 => B_MO_atom_3 n (F_MO_atom n) r0 i1 i2 i3 i4 i5 i6 x0 μ
    | 4 => B_MO_atom_4 n (F_MO_atom n) r0 i1 i2 i3 i4 i5 i6 x0 μ
    | _ => none
def C_MO_atom (n : Nat) (r0 : Nat) (i1 : Int32) (i2 : Int32) (i3 : Int32) (i4 : Int32) (μ : Mem) : Option (Int32 × Mem) := F_MO_atom n 0 r0 i1 i2 i3 i4 0 0 0 μ
set_option maxHeartbeats 4000000 in
set_option maxRecDepth 100000 in
theorem S_MO_atom (l : Launch) (D : va_G) (b : Nat) (cs : Nat → ClassId) (u_r0 : Nat) (u_i1 : Int32) (u_i2 : Int32) (u_i3 : Int32) (u_i4 : Int32) (ν : Mem) (res : Int32 × Mem) (n : Nat) (h : C_MO_atom n u_r0 u_i1 u_i2 u_i3 u_i4 ν = some res) : MetI l y_MO_atom w_MO_atom 1 23 b cs D ν [.ref (b + u_r0), .int u_i1, .int u_i2, .int u_i3, .int u_i4] res := by
  refine Met.ofW (cc := b_MO_atom) (maxL := 8) (ret := (Option.some Jvm.ClassFile.FieldType.int)) (by decide) rfl ?_
  intro p e s m args below meth c s₁ B hml hv
  obtain ⟨rfl, hK, hM⟩ := Wd.start hv
  have hx := B.exec
  have hb := B.bytes
  have hr := B.returns
  have hts : ∀ w ∈ jW, w.before _ s = true := fun w hw => atoms_spec (ws := w_MO_atom) B.pre w (List.mem_cons_of_mem _ hw)
  have hown : s.vm.findClass "JoinedLeavesModel" = some m.cls := findClass_of_methodNamed B.named
  have hlocks := B.notSynchronized
  have hl := lv_entry ([.ref (b + u_r0), .int u_i1, .int u_i2, .int u_i3, .int u_i4]) (n := 8) (Nat.le_of_ble_eq_true rfl)
  rw [lg_entry_eq]
  generalize (lg_sl ([.ref (b + u_r0), .int u_i1, .int u_i2, .int u_i3, .int u_i4]) ++ List.replicate (8 - (lg_sl ([.ref (b + u_r0), .int u_i1, .int u_i2, .int u_i3, .int u_i4])).length) Slot.unset).toArray = ls at hl ⊢
  have hl : lv_has ls 8 [(0, .ref (b + u_r0)), (1, .int u_i1), (2, .int u_i2), (3, .int u_i3), (4, .int u_i4)] := hl
  have key : ∀ N : Nat, (∀ (r0 : Nat) (i1 : Int32) (i2 : Int32) (i3 : Int32) (i4 : Int32) (i5 : Int32) (i6 : Int32) (x0 : Int32) (μ : Mem) (H : Heap) (locs : List Loc) (ls : Array Slot), F_MO_atom N 0 r0 i1 i2 i3 i4 i5 i6 x0 μ = some res → Wd (Aw b (mN ν)) b cs D s.heap μ H locs → lv_has ls 8 [(0, .ref (b + r0)), (1, .int i1), (2, .int i2), (3, .int i3), (4, .int i4)] → W p l e (headSpec w_MO_atom { frames := 1, cells := 0, slots := 0, locals := 23 }).room s m ([.ref (b + u_r0), .int u_i1, .int u_i2, .int u_i3, .int u_i4]).toArray below meth c H locs 0 0 (MQ below (va_Qi (fun r μ' => (r, μ') = res ∧ mN μ' ≤ mN ν) (Bw b cs D) (Aw b (mN ν))) ([.ref (b + u_r0), .int u_i1, .int u_i2, .int u_i3, .int u_i4]).toArray s 0 0 (Aw b (mN ν))) (F0 m 0 ls [])) ∧
      (∀ (r0 : Nat) (i1 : Int32) (i2 : Int32) (i3 : Int32) (i4 : Int32) (i5 : Int32) (i6 : Int32) (x0 : Int32) (μ : Mem) (H : Heap) (locs : List Loc) (ls : Array Slot), F_MO_atom N 1 r0 i1 i2 i3 i4 i5 i6 x0 μ = some res → Wd (Aw b (mN ν)) b cs D s.heap μ H locs → lv_has ls 8 [(0, .ref (b + r0)), (1, .int i1), (2, .int i2), (3, .int i3), (4, .int i4), (5, .int i5), (6, .int i6)] → W p l e (headSpec w_MO_atom { frames := 1, cells := 0, slots := 0, locals := 23 }).room s m ([.ref (b + u_r0), .int u_i1, .int u_i2, .int u_i3, .int u_i4]).toArray below meth c H locs 0 0 (MQ below (va_Qi (fun r μ' => (r, μ') = res ∧ mN μ' ≤ mN ν) (Bw b cs D) (Aw b (mN ν))) ([.ref (b + u_r0), .int u_i1, .int u_i2, .int u_i3, .int u_i4]).toArray s 0 0 (Aw b (mN ν))) (F0 m 30 ls [])) ∧
      (∀ (r0 : Nat) (i1 : Int32) (i2 : Int32) (i3 : Int32) (i4 : Int32) (i5 : Int32) (i6 : Int32) (x0 : Int32) (μ : Mem) (H : Heap) (locs : List Loc) (ls : Array Slot), F_MO_atom N 2 r0 i1 i2 i3 i4 i5 i6 x0 μ = some res → Wd (Aw b (mN ν)) b cs D s.heap μ H locs → lv_has ls 8 [(0, .ref (b + r0)), (1, .int i1), (2, .int i2), (3, .int i3), (4, .int i4), (6, .int i6)] → W p l e (headSpec w_MO_atom { frames := 1, cells := 0, slots := 0, locals := 23 }).room s m ([.ref (b + u_r0), .int u_i1, .int u_i2, .int u_i3, .int u_i4]).toArray below meth c H locs 0 0 (MQ below (va_Qi (fun r μ' => (r, μ') = res ∧ mN μ' ≤ mN ν) (Bw b cs D) (Aw b (mN ν))) ([.ref (b + u_r0), .int u_i1, .int u_i2, .int u_i3, .int u_i4]).toArray s 0 0 (Aw b (mN ν))) (F0 m 73 ls [])) ∧
      (∀ (r0 : Nat) (i1 : Int32) (i2 : Int32) (i3 : Int32) (i4 : Int32) (i5 : Int32) (i6 : Int32) (x0 : Int32) (μ : Mem) (H : Heap) (locs : List Loc) (ls : Array Slot), F_MO_atom N 3 r0 i1 i2 i3 i4 i5 i6 x0 μ = some res → Wd (Aw b (mN ν)) b cs D s.heap μ H locs → lv_has ls 8 [(0, .ref (b + r0)), (1, .int i1), (2, .int i2), (3, .int i3), (4, .int i4), (6, .int i6)] → W p l e (headSpec w_MO_atom { frames := 1, cells := 0, slots := 0, locals := 23 }).room s m ([.ref (b + u_r0), .int u_i1, .int u_i2, .int u_i3, .int u_i4]).toArray below meth c H locs 0 0 (MQ below (va_Qi (fun r μ' => (r, μ') = res ∧ mN μ' ≤ mN ν) (Bw b cs D) (Aw b (mN ν))) ([.ref (b + u_r0), .int u_i1, .int u_i2, .int u_i3, .int u_i4]).toArray s 0 0 (Aw b (mN ν))) (F0 m 74 ls [.int x0])) ∧
      (∀ (r0 : Nat) (i1 : Int32) (i2 : Int32) (i3 : Int32) (i4 : Int32) (i5 : Int32) (i6 : Int32) (x0 : Int32) (μ : Mem) (H : Heap) (locs : List Loc) (ls : Array Slot), F_MO_atom N 4 r0 i1 i2 i3 i4 i5 i6 x0 μ = some res → Wd (Aw b (mN ν)) b cs D s.heap μ H locs → lv_has ls 8 [(0, .ref (b + r0)), (1, .int i1), (2, .int i2), (3, .int i3), (4, .int i4), (6, .int i6)] → W p l e (headSpec w_MO_atom { frames := 1, cells := 0, slots := 0, locals := 23 }).room s m ([.ref (b + u_r0), .int u_i1, .int u_i2, .int u_i3, .int u_i4]).toArray below meth c H locs 0 0 (MQ below (va_Qi (fun r μ' => (r, μ') = res ∧ mN μ' ≤ mN ν) (Bw b cs D) (Aw b (mN ν))) ([.ref (b + u_r0), .int u_i1, .int u_i2, .int u_i3, .int u_i4]).toArray s 0 0 (Aw b (mN ν))) (F0 m 102 ls [])) := by
    intro N
    induction N with
    | zero => exact ⟨fun _ _ _ _ _ _ _ _ _ _ _ _ h => (nomatch h), fun _ _ _ _ _ _ _ _ _ _ _ _ h => (nomatch h), fun _ _ _ _ _ _ _ _ _ _ _ _ h => (nomatch h), fun _ _ _ _ _ _ _ _ _ _ _ _ h => (nomatch h), fun _ _ _ _ _ _ _ _ _ _ _ _ h => (nomatch h)⟩
    | succ n ih =>
      obtain ⟨ih0, ih1, ih2, ih3, ih4⟩ := ih
      refine ⟨?_, ?_, ?_, ?_, ?_⟩
      · intro r0 i1 i2 i3 i4 i5 i6 x0 μ H locs ls h hM hl
        have h : B_MO_atom_0 n (F_MO_atom n) r0 i1 i2 i3 i4 i5 i6 x0 μ = some res := h
        unfold B_MO_atom_0 at h
        refine lv_aload_n hx hb d_MO_atom_0 rfl (lv_at hl 0 rfl) ?_
        refine lv_iconst (v := 0) hx hb d_MO_atom_1 (by decide) ?_
        obtain ⟨g1, h⟩ := of_g h
        obtain ⟨μ2, e_μ2, h⟩ := of_b h
        obtain rfl := Option.some.inj e_μ2
        refine g_puti (v := 0) (C := "JoinedLeavesModel") (T := T_MO) (N := 21) (ref := "JoinedLeavesModel") hx hb hts jF_MO t_MO o_MO n_MO hown hK hM g1 (by decide) rfl 0 (by decide) (hts _ jm_8_15) (fun _ h9 => h9) rfl (ty := .int) (by decide +kernel) rfl rfl (by decide) (Or.inl rfl) d_MO_atom_2 (fun H locs hM => ?_)
        refine lv_aload_n hx hb d_MO_atom_5 rfl (lv_at hl 0 rfl) ?_
        refine lv_iload_n hx hb d_MO_atom_6 rfl (lv_at hl 1 rfl) ?_
        obtain ⟨q3, hq3, h⟩ := of_b h
        refine g_calli (va_runV (As := [.int i1]) (rest := []) ⟨hx, hb, hml, hown, hts⟩ (S_MO_isRelation l D b cs r0 i1 (sI μ r0 0 0) q3 n hq3) ⟨callB_of 1 hts (goodIn_g jm_9_24) rfl rfl rfl (hts _ jm_0_7) (hts _ jm_9_22) (by decide +kernel) ⟨Nat.le_of_ble_eq_true rfl, Nat.le_of_ble_eq_true rfl⟩, (hts _ jm_9_23), (hts _ jm_12_13)⟩ (Wd.preV hK hM g1 rfl (by decide)) rfl rfl hl.1 rfl (lv_room (Nat.le_of_ble_eq_true rfl)) d_MO_atom_7 ⟨Nat.le_of_ble_eq_true rfl, Nat.le_of_ble_eq_true rfl⟩) hM (fun H locs hM => ?_)
        refine lv_if_eq (tgt := 22) hx hb d_MO_atom_10 (by decide) (fun hc => ?_) (fun hc => ?_)
        · replace h := of_t hc h
          refine lv_iconst (v := (-1)) hx hb d_MO_atom_22 (by decide) ?_
          exact g_iret hx hb hr hlocks hM (Option.some.inj h) d_MO_atom_23
        · replace h := of_f hc h
          refine lv_aload_n hx hb d_MO_atom_13 rfl (lv_at hl 0 rfl) ?_
          obtain ⟨g4, h⟩ := of_g h
          refine g_get (C := "JoinedLeavesModel") (T := T_MO) (N := 21) (ref := "JoinedLeavesModel") (v := .int (mI q3.2 r0 5)) hx hb hts jF_MO hown hK hM g4 (by decide) rfl 5 (by decide) (hts _ jm_8_20) (fun _ h9 => h9) (by decide) rfl d_MO_atom_14 ?_
          refine lv_bipush (v := 6) hx hb d_MO_atom_17 (by decide) ?_
          refine lv_icmp_ne (tgt := 24) hx hb d_MO_atom_19 (by decide) (fun hc => ?_) (fun hc => ?_)
          · replace h := of_f hc h
            refine lv_iconst (v := 1) hx hb d_MO_atom_24 (by decide) ?_
            refine lv_istore hx hb d_MO_atom_25 hl (by decide) rfl (fun ls hl => ?_)
            have hl : lv_has ls 8 [(5, .int 1), (0, .ref (b + r0)), (1, .int i1), (2, .int i2), (3, .int i3), (4, .int i4)] := hl
            refine lv_iconst (v := 0) hx hb d_MO_atom_27 (by decide) ?_
            refine lv_istore hx hb d_MO_atom_28 hl (by decide) rfl (fun ls hl => ?_)
            have hl : lv_has ls 8 [(6, .int 0), (5, .int 1), (0, .ref (b + r0)), (1, .int i1), (2, .int i2), (3, .int i3), (4, .int i4)] := hl
            exact ih1 _ _ _ _ _ _ _ _ _ _ _ _ h hM (lv_sub hl [2, 3, 4, 5, 6, 1, 0] rfl)
          · replace h := of_t hc h
            refine lv_iconst (v := (-1)) hx hb d_MO_atom_22 (by decide) ?_
            exact g_iret hx hb hr hlocks hM (Option.some.inj h) d_MO_atom_23
      · intro r0 i1 i2 i3 i4 i5 i6 x0 μ H locs ls h hM hl
        have h : B_MO_atom_1 n (F_MO_atom n) r0 i1 i2 i3 i4 i5 i6 x0 μ = some res := h
        unfold B_MO_atom_1 at h
        refine lv_iload hx hb d_MO_atom_30 (lv_at hl 6 rfl) ?_
        refine lv_aload_n hx hb d_MO_atom_32 rfl (lv_at hl 0 rfl) ?_
        obtain ⟨g5, h⟩ := of_g h
        obtain ⟨g6, h⟩ := of_g h
        refine g_get (C := "JoinedLeavesModel") (T := T_MO) (N := 21) (ref := "JoinedLeavesModel") (v := .ref (b + (mR μ r0 2))) hx hb hts jF_MO hown hK hM g5 (by decide) rfl 2 (by decide) (hts _ jm_8_17) (fun _ h9 => h9) (by decide) (rv_of (ok_0 g6)) d_MO_atom_33 ?_
        refine lv_iload_n hx hb d_MO_atom_36 rfl (lv_at hl 1 rfl) ?_
        obtain ⟨g7, h⟩ := of_g h
        refine g_iald hx hb hK hM g6 g7 d_MO_atom_37 ?_
        refine lv_icmp_ge (tgt := 82) hx hb d_MO_atom_38 (by decide) (fun hc => ?_) (fun hc => ?_)
        · replace h := of_t hc h
          refine lv_iload hx hb d_MO_atom_82 (lv_at hl 5 rfl) ?_
          refine lv_if_ne (tgt := 89) hx hb d_MO_atom_84 (by decide) (fun hc => ?_) (fun hc => ?_)
          · replace h := of_f hc h
            refine lv_aload_n hx hb d_MO_atom_89 rfl (lv_at hl 0 rfl) ?_
            obtain ⟨g8, h⟩ := of_g h
            refine g_get (C := "JoinedLeavesModel") (T := T_MO) (N := 21) (ref := "JoinedLeavesModel") (v := .ref (b + (mR μ r0 6))) hx hb hts jF_MO hown hK hM g5 (by decide) rfl 6 (by decide) (hts _ jm_8_21) (fun _ h9 => h9) (by decide) (rv_of (ok_0 g8)) d_MO_atom_90 ?_
            refine lv_aload_n hx hb d_MO_atom_93 rfl (lv_at hl 0 rfl) ?_
            refine g_get (C := "JoinedLeavesModel") (T := T_MO) (N := 21) (ref := "JoinedLeavesModel") (v := .int (mI μ r0 5)) hx hb hts jF_MO hown hK hM g5 (by decide) rfl 5 (by decide) (hts _ jm_8_20) (fun _ h9 => h9) (by decide) rfl d_MO_atom_94 ?_
            refine lv_iload_n hx hb d_MO_atom_97 rfl (lv_at hl 1 rfl) ?_
            obtain ⟨g9, h⟩ := of_g h
            obtain ⟨μ10, e_μ10, h⟩ := of_b h
            obtain rfl := Option.some.inj e_μ10
            refine g_iast (v := i1) hx hb hK hM g8 g9 d_MO_atom_98 (fun H locs hM => ?_)
            refine lv_iconst (v := 0) hx hb d_MO_atom_99 (by decide) ?_
            refine lv_istore hx hb d_MO_atom_100 hl (by decide) rfl (fun ls hl => ?_)
            have hl : lv_has ls 8 [(6, .int 0), (0, .ref (b + r0)), (1, .int i1), (2, .int i2), (3, .int i3), (4, .int i4), (5, .int i5)] := hl
            exact ih4 _ _ _ _ _ _ _ _ _ _ _ _ h hM (lv_sub hl [1, 2, 3, 4, 5, 0] rfl)
          · replace h := of_t hc h
            refine lv_iconst (v := (-1)) hx hb d_MO_atom_87 (by decide) ?_
            exact g_iret hx hb hr hlocks hM (Option.some.inj h) d_MO_atom_88
        · replace h := of_f hc h
          refine lv_iload hx hb d_MO_atom_41 (lv_at hl 6 rfl) ?_
          refine lv_iload_n hx hb d_MO_atom_43 rfl (lv_at hl 2 rfl) ?_
          refine lv_iload_n hx hb d_MO_atom_44 rfl (lv_at hl 3 rfl) ?_
          refine lv_iload hx hb d_MO_atom_45 (lv_at hl 4 rfl) ?_
          obtain ⟨q11, hq11, h⟩ := of_b h
          refine g_calli (va_runS (As := [.int i6, .int i2, .int i3, .int i4]) (rest := []) ⟨hx, hb, hml, hown, hts⟩ (S_MO_pick l D b cs i6 i2 i3 i4 μ q11 n hq11) ⟨callB_of 4 hts (goodIn_g jm_9_30) rfl rfl rfl (hts _ jm_0_7) (hts _ jm_9_28) (by decide +kernel) ⟨Nat.le_of_ble_eq_true rfl, Nat.le_of_ble_eq_true rfl⟩, (hts _ jm_9_29)⟩ (Wd.preS hK hM) rfl rfl hl.1 rfl (lv_room (Nat.le_of_ble_eq_true rfl)) d_MO_atom_47 ⟨Nat.le_of_ble_eq_true rfl, Nat.le_of_ble_eq_true rfl⟩) hM (fun H locs hM => ?_)
          refine lv_istore hx hb d_MO_atom_50 hl (by decide) rfl (fun ls hl => ?_)
          have hl : lv_has ls 8 [(7, .int q11.1), (0, .ref (b + r0)), (1, .int i1), (2, .int i2), (3, .int i3), (4, .int i4), (5, .int i5), (6, .int i6)] := hl
          refine lv_iload hx hb d_MO_atom_52 (lv_at hl 6 rfl) ?_
          refine lv_if_eq (tgt := 73) hx hb d_MO_atom_54 (by decide) (fun hc => ?_) (fun hc => ?_)
          · replace h := of_t hc h
            exact ih2 _ _ _ _ _ _ _ _ _ _ _ _ h hM (lv_sub hl [1, 2, 3, 4, 5, 7] rfl)
          · replace h := of_f hc h
            refine lv_iload hx hb d_MO_atom_57 (lv_at hl 0 rfl) ?_
            refine lv_if_lt (tgt := 73) hx hb d_MO_atom_59 (by decide) (fun hc => ?_) (fun hc => ?_)
            · replace h := of_t hc h
              exact ih2 _ _ _ _ _ _ _ _ _ _ _ _ h hM (lv_sub hl [1, 2, 3, 4, 5, 7] rfl)
            · replace h := of_f hc h
              refine lv_iload hx hb d_MO_atom_62 (lv_at hl 0 rfl) ?_
              refine lv_bipush (v := 8) hx hb d_MO_atom_64 (by decide) ?_
              refine lv_icmp_ge (tgt := 73) hx hb d_MO_atom_66 (by decide) (fun hc => ?_) (fun hc => ?_)
              · replace h := of_t hc h
                exact ih2 _ _ _ _ _ _ _ _ _ _ _ _ h hM (lv_sub hl [1, 2, 3, 4, 5, 7] rfl)
              · replace h := of_f hc h
                refine lv_iconst (v := 1) hx hb d_MO_atom_69 (by decide) ?_
                refine lv_goto (tgt := 74) hx hb d_MO_atom_70 (by decide) ?_
                exact ih3 _ _ _ _ _ _ _ _ _ _ _ _ h hM (lv_sub hl [1, 2, 3, 4, 5, 7] rfl)
      · intro r0 i1 i2 i3 i4 i5 i6 x0 μ H locs ls h hM hl
        have h : B_MO_atom_2 n (F_MO_atom n) r0 i1 i2 i3 i4 i5 i6 x0 μ = some res := h
        unfold B_MO_atom_2 at h
        refine lv_iconst (v := 0) hx hb d_MO_atom_73 (by decide) ?_
        exact ih3 _ _ _ _ _ _ _ _ _ _ _ _ h hM (lv_sub hl [0, 1, 2, 3, 4, 5] rfl)
      · intro r0 i1 i2 i3 i4 i5 i6 x0 μ H locs ls h hM hl
        have h : B_MO_atom_3 n (F_MO_atom n) r0 i1 i2 i3 i4 i5 i6 x0 μ = some res := h
        unfold B_MO_atom_3 at h
        refine lv_istore hx hb d_MO_atom_74 hl (by decide) rfl (fun ls hl => ?_)
        have hl : lv_has ls 8 [(5, .int x0), (0, .ref (b + r0)), (1, .int i1), (2, .int i2), (3, .int i3), (4, .int i4), (6, .int i6)] := hl
        obtain ⟨v12, e_v12, h⟩ := of_b h
        refine lv_iinc (v := v12) hx hb d_MO_atom_76 hl (k := 6) rfl (by rw [lit1]; exact Option.some.inj e_v12) (by decide) rfl (fun ls hl => ?_)
        have hl : lv_has ls 8 [(6, .int v12), (5, .int x0), (0, .ref (b + r0)), (1, .int i1), (2, .int i2), (3, .int i3), (4, .int i4)] := hl
        refine lv_goto (tgt := 30) hx hb d_MO_atom_79 (by decide) ?_
        exact ih1 _ _ _ _ _ _ _ _ _ _ _ _ h hM (lv_sub hl [2, 3, 4, 5, 6, 1, 0] rfl)
      · intro r0 i1 i2 i3 i4 i5 i6 x0 μ H locs ls h hM hl
        have h : B_MO_atom_4 n (F_MO_atom n) r0 i1 i2 i3 i4 i5 i6 x0 μ = some res := h
        unfold B_MO_atom_4 at h
        refine lv_iload hx hb d_MO_atom_102 (lv_at hl 5 rfl) ?_
        refine lv_aload_n hx hb d_MO_atom_104 rfl (lv_at hl 0 rfl) ?_
        obtain ⟨g13, h⟩ := of_g h
        obtain ⟨g14, h⟩ := of_g h
        refine g_get (C := "JoinedLeavesModel") (T := T_MO) (N := 21) (ref := "JoinedLeavesModel") (v := .ref (b + (mR μ r0 2))) hx hb hts jF_MO hown hK hM g13 (by decide) rfl 2 (by decide) (hts _ jm_8_17) (fun _ h9 => h9) (by decide) (rv_of (ok_0 g14)) d_MO_atom_105 ?_
        refine lv_iload_n hx hb d_MO_atom_108 rfl (lv_at hl 1 rfl) ?_
        obtain ⟨g15, h⟩ := of_g h
        refine g_iald hx hb hK hM g14 g15 d_MO_atom_109 ?_
        refine lv_icmp_ge (tgt := 142) hx hb d_MO_atom_110 (by decide) (fun hc => ?_) (fun hc => ?_)
        · replace h := of_t hc h
          refine lv_aload_n hx hb d_MO_atom_142 rfl (lv_at hl 0 rfl) ?_
          refine lv_aload_n hx hb d_MO_atom_143 rfl (lv_at hl 0 rfl) ?_
          refine g_get (C := "JoinedLeavesModel") (T := T_MO) (N := 21) (ref := "JoinedLeavesModel") (v := .int (mI μ r0 5)) hx hb hts jF_MO hown hK hM g13 (by decide) rfl 5 (by decide) (hts _ jm_8_20) (fun _ h9 => h9) (by decide) rfl d_MO_atom_144 ?_
          refine lv_iconst (v := 1) hx hb d_MO_atom_147 (by decide) ?_
          refine lv_iadd hx hb d_MO_atom_148 ?_
          obtain ⟨μ16, e_μ16, h⟩ := of_b h
          obtain rfl := Option.some.inj e_μ16
          refine g_puti (v := (mI μ r0 5) + 1) (C := "JoinedLeavesModel") (T := T_MO) (N := 21) (ref := "JoinedLeavesModel") hx hb hts jF_MO t_MO o_MO n_MO hown hK hM g13 (by decide) rfl 5 (by decide) (hts _ jm_8_20) (fun _ h9 => h9) rfl (ty := .int) (by decide +kernel) rfl rfl (by decide) (Or.inl rfl) d_MO_atom_149 (fun H locs hM => ?_)
          refine lv_aload_n hx hb d_MO_atom_152 rfl (lv_at hl 0 rfl) ?_
          refine lv_iconst (v := 0) hx hb d_MO_atom_153 (by decide) ?_
          obtain ⟨μ17, e_μ17, h⟩ := of_b h
          obtain rfl := Option.some.inj e_μ17
          refine g_puti (v := 0) (C := "JoinedLeavesModel") (T := T_MO) (N := 21) (ref := "JoinedLeavesModel") hx hb hts jF_MO t_MO o_MO n_MO hown hK hM g13 (by decide) rfl 13 (by decide) (hts _ jm_8_28) (fun _ h9 => h9) rfl (ty := .boolean) (by decide +kernel) narrow_b0 rfl (by decide) (Or.inr rfl) d_MO_atom_154 (fun H locs hM => ?_)
          refine lv_aload_n hx hb d_MO_atom_157 rfl (lv_at hl 0 rfl) ?_
          refine g_get (C := "JoinedLeavesModel") (T := T_MO) (N := 21) (ref := "JoinedLeavesModel") (v := .int (mI (sI (sI μ r0 5 ((mI μ r0 5) + 1)) r0 13 0) r0 5)) hx hb hts jF_MO hown hK hM g13 (by decide) rfl 5 (by decide) (hts _ jm_8_20) (fun _ h9 => h9) (by decide) rfl d_MO_atom_158 ?_
          refine lv_iconst (v := 1) hx hb d_MO_atom_161 (by decide) ?_
          refine lv_isub hx hb d_MO_atom_162 ?_
          exact g_iret hx hb hr hlocks hM (Option.some.inj h) d_MO_atom_163
        · replace h := of_f hc h
          refine lv_aload_n hx hb d_MO_atom_113 rfl (lv_at hl 0 rfl) ?_
          obtain ⟨g18, h⟩ := of_g h
          refine g_get (C := "JoinedLeavesModel") (T := T_MO) (N := 21) (ref := "JoinedLeavesModel") (v := .ref (b + (mR μ r0 7))) hx hb hts jF_MO hown hK hM g13 (by decide) rfl 7 (by decide) (hts _ jm_8_22) (fun _ h9 => h9) (by decide) (rv_of (ok_0 g18)) d_MO_atom_114 ?_
          refine lv_iconst (v := 3) hx hb d_MO_atom_117 (by decide) ?_
          refine lv_aload_n hx hb d_MO_atom_118 rfl (lv_at hl 0 rfl) ?_
          refine g_get (C := "JoinedLeavesModel") (T := T_MO) (N := 21) (ref := "JoinedLeavesModel") (v := .int (mI μ r0 5)) hx hb hts jF_MO hown hK hM g13 (by decide) rfl 5 (by decide) (hts _ jm_8_20) (fun _ h9 => h9) (by decide) rfl d_MO_atom_119 ?_
          refine lv_imul hx hb d_MO_atom_122 ?_
          refine lv_iload hx hb d_MO_atom_123 (lv_at hl 5 rfl) ?_
          refine lv_iadd hx hb d_MO_atom_125 ?_
          refine lv_iload hx hb d_MO_atom_126 (lv_at hl 5 rfl) ?_
          refine lv_iload_n hx hb d_MO_atom_128 rfl (lv_at hl 2 rfl) ?_
          refine lv_iload_n hx hb d_MO_atom_129 rfl (lv_at hl 3 rfl) ?_
          refine lv_iload hx hb d_MO_atom_130 (lv_at hl 4 rfl) ?_
          obtain ⟨q19, hq19, h⟩ := of_b h
          refine g_calli (va_runS (As := [.int i6, .int i2, .int i3, .int i4]) (rest := [.int ((3 * (mI μ r0 5)) + i6), .ref (b + (mR μ r0 7))]) ⟨hx, hb, hml, hown, hts⟩ (S_MO_pick l D b cs i6 i2 i3 i4 μ q19 n hq19) ⟨callB_of 4 hts (goodIn_g jm_9_30) rfl rfl rfl (hts _ jm_0_7) (hts _ jm_9_28) (by decide +kernel) ⟨Nat.le_of_ble_eq_true rfl, Nat.le_of_ble_eq_true rfl⟩, (hts _ jm_9_29)⟩ (Wd.preS hK hM) rfl rfl hl.1 rfl (lv_room (Nat.le_of_ble_eq_true rfl)) d_MO_atom_132 ⟨Nat.le_of_ble_eq_true rfl, Nat.le_of_ble_eq_true rfl⟩) hM (fun H locs hM => ?_)
          obtain ⟨g20, h⟩ := of_g h
          obtain ⟨g21, h⟩ := of_g h
          obtain ⟨μ22, e_μ22, h⟩ := of_b h
          obtain rfl := Option.some.inj e_μ22
          refine g_iast (v := q19.1) hx hb hK hM g20 g21 d_MO_atom_135 (fun H locs hM => ?_)
          obtain ⟨v23, e_v23, h⟩ := of_b h
          refine lv_iinc (v := v23) hx hb d_MO_atom_136 hl (k := 5) rfl (by rw [lit1]; exact Option.some.inj e_v23) (by decide) rfl (fun ls hl => ?_)
          have hl : lv_has ls 8 [(6, .int v23), (0, .ref (b + r0)), (1, .int i1), (2, .int i2), (3, .int i3), (4, .int i4)] := hl
          refine lv_goto (tgt := 102) hx hb d_MO_atom_139 (by decide) ?_
          exact ih4 _ _ _ _ _ _ _ _ _ _ _ _ h hM (lv_sub hl [1, 2, 3, 4, 5, 0] rfl)
  exact (key n).1 _ _ _ _ _ _ _ _ _ _ _ _ h hM hl
abbrev w_MO_head : List Cond := .code y_MO_head b_MO_head 4 (Option.some Jvm.ClassFile.FieldType.int) :: jW
def B_MO_head_0 (n : Nat) (k : Nat → Nat → Int32 → Int32 → Int32 → Int32 → Mem → Option (Int32 × Mem)) (r0 : Nat) (i1 : Int32) (i2 : Int32) (i3 : Int32) (x0 : Int32) (μ : Mem) : Option (Int32 × Mem) :=
  if ok μ r0 6 = true then Option.bind (some (sI μ r0 0 0)) (fun μ2 => k 1 r0 i1 0 0 0 μ2) else none
def B_MO_head_1 (n : Nat) (k : Nat → Nat → Int32 → Int32 → Int32 → Int32 → Mem → Option (Int32 × Mem)) (r0 : Nat) (i1 : Int32) (i2 : Int32) (i3 : Int32) (x0 : Int32) (μ : Mem) : Option (Int32 × Mem) :=
  if ok μ r0 6 = true then if (mI μ r0 8) ≤ i3 then if i1 < 0 then some ((-1), μ) else if 7 < i1 then some ((-1), μ) else if i2 = 0 then if (mI μ r0 8) = 4 then some ((-1), μ) else if ok μ (mR μ r0 9) 100 = true then if ib (mI μ r0 8) (mZ μ (mR μ r0 9)) = true then Option.bind (some (sI μ (mR μ r0 9) (Int32.toNatClampNeg (mI μ r0 8)) i1)) (fun μ6 => Option.bind (some (sI μ6 r0 8 ((mI μ6 r0 8) + 1))) (fun μ7 => Option.bind (some (sI μ7 r0 13 0)) (fun μ8 => some ((mI μ8 r0 8) - 1, μ8)))) else none else none else some ((-1), μ) else if i2 = 0 then if ok μ (mR μ r0 9) 100 = true then if ib i3 (mZ μ (mR μ r0 9)) = true then if (mI μ (mR μ r0 9) (Int32.toNatClampNeg i3)) = i1 then k 2 r0 i1 0 i3 0 μ else k 3 r0 i1 0 i3 0 μ else none else none else k 2 r0 i1 0 i3 0 μ else none
def B_MO_head_2 (n : Nat) (k : Nat → Nat → Int32 → Int32 → Int32 → Int32 → Mem → Option (Int32 × Mem)) (r0 : Nat) (i1 : Int32) (i2 : Int32) (i3 : Int32) (x0 : Int32) (μ : Mem) : Option (Int32 × Mem) :=
  k 3 r0 i1 0 i3 1 μ
def B_MO_head_3 (n : Nat) (k : Nat → Nat → Int32 → Int32 → Int32 → Int32 → Mem → Option (Int32 × Mem)) (r0 : Nat) (i1 : Int32) (i2 : Int32) (i3 : Int32) (x0 : Int32) (μ : Mem) : Option (Int32 × Mem) :=
  Option.bind (some (i3 + 1)) (fun v11 => k 1 r0 i1 x0 v11 0 μ)
def F_MO_head : Nat → Nat → Nat → Int32 → Int32 → Int32 → Int32 → Mem → Option (Int32 × Mem)
  | 0 => fun _ _ _ _ _ _ _ => none
  | n + 1 => fun id r0 i1 i2 i3 x0 μ => match id with
    | 0 => B_MO_head_0 n (F_MO_head n) r0 i1 i2 i3 x0 μ
    | 1 => B_MO_head_1 n (F_MO_head n) r0 i1 i2 i3 x0 μ
    | 2 => B_MO_head_2 n (F_MO_head n) r0 i1 i2 i3 x0 μ
    | 3 => B_MO_head_3 n (F_MO_head n) r0 i1 i2 i3 x0 μ
    | _ => none
def C_MO_head (n : Nat) (r0 : Nat) (i1 : Int32) (μ : Mem) : Option (Int32 × Mem) := F_MO_head n 0 r0 i1 0 0 0 μ
set_option maxHeartbeats 4000000 in
set_option maxRecDepth 100000 in
theorem S_MO_head (l : Launch) (D : va_G) (b : Nat) (cs : Nat → ClassId) (u_r0 : Nat) (u_i1 : Int32) (ν : Mem) (res : Int32 × Mem) (n : Nat) (h : C_MO_head n u_r0 u_i1 ν = some res) : MetI l y_MO_head w_MO_head 0 0 b cs D ν [.ref (b + u_r0), .int u_i1] res := by
  refine Met.ofW (cc := b_MO_head) (maxL := 4) (ret := (Option.some Jvm.ClassFile.FieldType.int)) (by decide) rfl ?_
  intro p e s m args below meth c s₁ B hml hv
  obtain ⟨rfl, hK, hM⟩ := Wd.start hv
  have hx := B.exec
  have hb := B.bytes
  have hr := B.returns
  have hts : ∀ w ∈ jW, w.before _ s = true := fun w hw => atoms_spec (ws := w_MO_head) B.pre w (List.mem_cons_of_mem _ hw)
  have hown : s.vm.findClass "JoinedLeavesModel" = some m.cls := findClass_of_methodNamed B.named
  have hlocks := B.notSynchronized
  have hl := lv_entry ([.ref (b + u_r0), .int u_i1]) (n := 4) (Nat.le_of_ble_eq_true rfl)
  rw [lg_entry_eq]
  generalize (lg_sl ([.ref (b + u_r0), .int u_i1]) ++ List.replicate (4 - (lg_sl ([.ref (b + u_r0), .int u_i1])).length) Slot.unset).toArray = ls at hl ⊢
  have hl : lv_has ls 4 [(0, .ref (b + u_r0)), (1, .int u_i1)] := hl
  have key : ∀ N : Nat, (∀ (r0 : Nat) (i1 : Int32) (i2 : Int32) (i3 : Int32) (x0 : Int32) (μ : Mem) (H : Heap) (locs : List Loc) (ls : Array Slot), F_MO_head N 0 r0 i1 i2 i3 x0 μ = some res → Wd (Aw b (mN ν)) b cs D s.heap μ H locs → lv_has ls 4 [(0, .ref (b + r0)), (1, .int i1)] → W p l e (headSpec w_MO_head { frames := 0, cells := 0, slots := 0, locals := 0 }).room s m ([.ref (b + u_r0), .int u_i1]).toArray below meth c H locs 0 0 (MQ below (va_Qi (fun r μ' => (r, μ') = res ∧ mN μ' ≤ mN ν) (Bw b cs D) (Aw b (mN ν))) ([.ref (b + u_r0), .int u_i1]).toArray s 0 0 (Aw b (mN ν))) (F0 m 0 ls [])) ∧
      (∀ (r0 : Nat) (i1 : Int32) (i2 : Int32) (i3 : Int32) (x0 : Int32) (μ : Mem) (H : Heap) (locs : List Loc) (ls : Array Slot), F_MO_head N 1 r0 i1 i2 i3 x0 μ = some res → Wd (Aw b (mN ν)) b cs D s.heap μ H locs → lv_has ls 4 [(0, .ref (b + r0)), (1, .int i1), (2, .int i2), (3, .int i3)] → W p l e (headSpec w_MO_head { frames := 0, cells := 0, slots := 0, locals := 0 }).room s m ([.ref (b + u_r0), .int u_i1]).toArray below meth c H locs 0 0 (MQ below (va_Qi (fun r μ' => (r, μ') = res ∧ mN μ' ≤ mN ν) (Bw b cs D) (Aw b (mN ν))) ([.ref (b + u_r0), .int u_i1]).toArray s 0 0 (Aw b (mN ν))) (F0 m 9 ls [])) ∧
      (∀ (r0 : Nat) (i1 : Int32) (i2 : Int32) (i3 : Int32) (x0 : Int32) (μ : Mem) (H : Heap) (locs : List Loc) (ls : Array Slot), F_MO_head N 2 r0 i1 i2 i3 x0 μ = some res → Wd (Aw b (mN ν)) b cs D s.heap μ H locs → lv_has ls 4 [(0, .ref (b + r0)), (1, .int i1), (3, .int i3)] → W p l e (headSpec w_MO_head { frames := 0, cells := 0, slots := 0, locals := 0 }).room s m ([.ref (b + u_r0), .int u_i1]).toArray below meth c H locs 0 0 (MQ below (va_Qi (fun r μ' => (r, μ') = res ∧ mN μ' ≤ mN ν) (Bw b cs D) (Aw b (mN ν))) ([.ref (b + u_r0), .int u_i1]).toArray s 0 0 (Aw b (mN ν))) (F0 m 31 ls [])) ∧
      (∀ (r0 : Nat) (i1 : Int32) (i2 : Int32) (i3 : Int32) (x0 : Int32) (μ : Mem) (H : Heap) (locs : List Loc) (ls : Array Slot), F_MO_head N 3 r0 i1 i2 i3 x0 μ = some res → Wd (Aw b (mN ν)) b cs D s.heap μ H locs → lv_has ls 4 [(0, .ref (b + r0)), (1, .int i1), (3, .int i3)] → W p l e (headSpec w_MO_head { frames := 0, cells := 0, slots := 0, locals := 0 }).room s m ([.ref (b + u_r0), .int u_i1]).toArray below meth c H locs 0 0 (MQ below (va_Qi (fun r μ' => (r, μ') = res ∧ mN μ' ≤ mN ν) (Bw b cs D) (Aw b (mN ν))) ([.ref (b + u_r0), .int u_i1]).toArray s 0 0 (Aw b (mN ν))) (F0 m 36 ls [.int x0])) := by
    intro N
    induction N with
    | zero => exact ⟨fun _ _ _ _ _ _ _ _ _ h => (nomatch h), fun _ _ _ _ _ _ _ _ _ h => (nomatch h), fun _ _ _ _ _ _ _ _ _ h => (nomatch h), fun _ _ _ _ _ _ _ _ _ h => (nomatch h)⟩
    | succ n ih =>
      obtain ⟨ih0, ih1, ih2, ih3⟩ := ih
      refine ⟨?_, ?_, ?_, ?_⟩
      · intro r0 i1 i2 i3 x0 μ H locs ls h hM hl
        have h : B_MO_head_0 n (F_MO_head n) r0 i1 i2 i3 x0 μ = some res := h
        unfold B_MO_head_0 at h
        refine lv_aload_n hx hb d_MO_head_0 rfl (lv_at hl 0 rfl) ?_
        refine lv_iconst (v := 0) hx hb d_MO_head_1 (by decide) ?_
        obtain ⟨g1, h⟩ := of_g h
        obtain ⟨μ2, e_μ2, h⟩ := of_b h
        obtain rfl := Option.some.inj e_μ2
        refine g_puti (v := 0) (C := "JoinedLeavesModel") (T := T_MO) (N := 21) (ref := "JoinedLeavesModel") hx hb hts jF_MO t_MO o_MO n_MO hown hK hM g1 (by decide) rfl 0 (by decide) (hts _ jm_8_15) (fun _ h9 => h9) rfl (ty := .int) (by decide +kernel) rfl rfl (by decide) (Or.inl rfl) d_MO_head_2 (fun H locs hM => ?_)
        refine lv_iconst (v := 0) hx hb d_MO_head_5 (by decide) ?_
        refine lv_istore_n hx hb d_MO_head_6 rfl hl (by decide) rfl (fun ls hl => ?_)
        have hl : lv_has ls 4 [(2, .int 0), (0, .ref (b + r0)), (1, .int i1)] := hl
        refine lv_iconst (v := 0) hx hb d_MO_head_7 (by decide) ?_
        refine lv_istore_n hx hb d_MO_head_8 rfl hl (by decide) rfl (fun ls hl => ?_)
        have hl : lv_has ls 4 [(3, .int 0), (2, .int 0), (0, .ref (b + r0)), (1, .int i1)] := hl
        exact ih1 _ _ _ _ _ _ _ _ _ h hM (lv_sub hl [2, 3, 1, 0] rfl)
      · intro r0 i1 i2 i3 x0 μ H locs ls h hM hl
        have h : B_MO_head_1 n (F_MO_head n) r0 i1 i2 i3 x0 μ = some res := h
        unfold B_MO_head_1 at h
        refine lv_iload_n hx hb d_MO_head_9 rfl (lv_at hl 3 rfl) ?_
        refine lv_aload_n hx hb d_MO_head_10 rfl (lv_at hl 0 rfl) ?_
        obtain ⟨g3, h⟩ := of_g h
        refine g_get (C := "JoinedLeavesModel") (T := T_MO) (N := 21) (ref := "JoinedLeavesModel") (v := .int (mI μ r0 8)) hx hb hts jF_MO hown hK hM g3 (by decide) rfl 8 (by decide) (hts _ jm_8_23) (fun _ h9 => h9) (by decide) rfl d_MO_head_11 ?_
        refine lv_icmp_ge (tgt := 43) hx hb d_MO_head_14 (by decide) (fun hc => ?_) (fun hc => ?_)
        · replace h := of_t hc h
          refine lv_iload_n hx hb d_MO_head_43 rfl (lv_at hl 1 rfl) ?_
          refine lv_if_lt (tgt := 65) hx hb d_MO_head_44 (by decide) (fun hc => ?_) (fun hc => ?_)
          · replace h := of_t hc h
            refine lv_iconst (v := (-1)) hx hb d_MO_head_65 (by decide) ?_
            exact g_iret hx hb hr hlocks hM (Option.some.inj h) d_MO_head_66
          · replace h := of_f hc h
            refine lv_iload_n hx hb d_MO_head_47 rfl (lv_at hl 1 rfl) ?_
            refine lv_bipush (v := 7) hx hb d_MO_head_48 (by decide) ?_
            refine lv_icmp_gt (tgt := 65) hx hb d_MO_head_50 (by decide) (fun hc => ?_) (fun hc => ?_)
            · replace h := of_t hc h
              refine lv_iconst (v := (-1)) hx hb d_MO_head_65 (by decide) ?_
              exact g_iret hx hb hr hlocks hM (Option.some.inj h) d_MO_head_66
            · replace h := of_f hc h
              refine lv_iload_n hx hb d_MO_head_53 rfl (lv_at hl 2 rfl) ?_
              refine lv_if_ne (tgt := 65) hx hb d_MO_head_54 (by decide) (fun hc => ?_) (fun hc => ?_)
              · replace h := of_f hc h
                refine lv_iconst (v := (-1)) hx hb d_MO_head_65 (by decide) ?_
                exact g_iret hx hb hr hlocks hM (Option.some.inj h) d_MO_head_66
              · replace h := of_t hc h
                refine lv_aload_n hx hb d_MO_head_57 rfl (lv_at hl 0 rfl) ?_
                refine g_get (C := "JoinedLeavesModel") (T := T_MO) (N := 21) (ref := "JoinedLeavesModel") (v := .int (mI μ r0 8)) hx hb hts jF_MO hown hK hM g3 (by decide) rfl 8 (by decide) (hts _ jm_8_23) (fun _ h9 => h9) (by decide) rfl d_MO_head_58 ?_
                refine lv_iconst (v := 4) hx hb d_MO_head_61 (by decide) ?_
                refine lv_icmp_ne (tgt := 67) hx hb d_MO_head_62 (by decide) (fun hc => ?_) (fun hc => ?_)
                · replace h := of_f hc h
                  refine lv_aload_n hx hb d_MO_head_67 rfl (lv_at hl 0 rfl) ?_
                  obtain ⟨g4, h⟩ := of_g h
                  refine g_get (C := "JoinedLeavesModel") (T := T_MO) (N := 21) (ref := "JoinedLeavesModel") (v := .ref (b + (mR μ r0 9))) hx hb hts jF_MO hown hK hM g3 (by decide) rfl 9 (by decide) (hts _ jm_8_24) (fun _ h9 => h9) (by decide) (rv_of (ok_0 g4)) d_MO_head_68 ?_
                  refine lv_aload_n hx hb d_MO_head_71 rfl (lv_at hl 0 rfl) ?_
                  refine g_get (C := "JoinedLeavesModel") (T := T_MO) (N := 21) (ref := "JoinedLeavesModel") (v := .int (mI μ r0 8)) hx hb hts jF_MO hown hK hM g3 (by decide) rfl 8 (by decide) (hts _ jm_8_23) (fun _ h9 => h9) (by decide) rfl d_MO_head_72 ?_
                  refine lv_iload_n hx hb d_MO_head_75 rfl (lv_at hl 1 rfl) ?_
                  obtain ⟨g5, h⟩ := of_g h
                  obtain ⟨μ6, e_μ6, h⟩ := of_b h
                  obtain rfl := Option.some.inj e_μ6
                  refine g_iast (v := i1) hx hb hK hM g4 g5 d_MO_head_76 (fun H locs hM => ?_)
                  refine lv_aload_n hx hb d_MO_head_77 rfl (lv_at hl 0 rfl) ?_
                  refine lv_aload_n hx hb d_MO_head_78 rfl (lv_at hl 0 rfl) ?_
                  refine g_get (C := "JoinedLeavesModel") (T := T_MO) (N := 21) (ref := "JoinedLeavesModel") (v := .int (mI (sI μ (mR μ r0 9) (Int32.toNatClampNeg (mI μ r0 8)) i1) r0 8)) hx hb hts jF_MO hown hK hM g3 (by decide) rfl 8 (by decide) (hts _ jm_8_23) (fun _ h9 => h9) (by decide) rfl d_MO_head_79 ?_
                  refine lv_iconst (v := 1) hx hb d_MO_head_82 (by decide) ?_
                  refine lv_iadd hx hb d_MO_head_83 ?_
                  obtain ⟨μ7, e_μ7, h⟩ := of_b h
                  obtain rfl := Option.some.inj e_μ7
                  refine g_puti (v := (mI (sI μ (mR μ r0 9) (Int32.toNatClampNeg (mI μ r0 8)) i1) r0 8) + 1) (C := "JoinedLeavesModel") (T := T_MO) (N := 21) (ref := "JoinedLeavesModel") hx hb hts jF_MO t_MO o_MO n_MO hown hK hM g3 (by decide) rfl 8 (by decide) (hts _ jm_8_23) (fun _ h9 => h9) rfl (ty := .int) (by decide +kernel) rfl rfl (by decide) (Or.inl rfl) d_MO_head_84 (fun H locs hM => ?_)
                  refine lv_aload_n hx hb d_MO_head_87 rfl (lv_at hl 0 rfl) ?_
                  refine lv_iconst (v := 0) hx hb d_MO_head_88 (by decide) ?_
                  obtain ⟨μ8, e_μ8, h⟩ := of_b h
                  obtain rfl := Option.some.inj e_μ8
                  refine g_puti (v := 0) (C := "JoinedLeavesModel") (T := T_MO) (N := 21) (ref := "JoinedLeavesModel") hx hb hts jF_MO t_MO o_MO n_MO hown hK hM g3 (by decide) rfl 13 (by decide) (hts _ jm_8_28) (fun _ h9 => h9) rfl (ty := .boolean) (by decide +kernel) narrow_b0 rfl (by decide) (Or.inr rfl) d_MO_head_89 (fun H locs hM => ?_)
                  refine lv_aload_n hx hb d_MO_head_92 rfl (lv_at hl 0 rfl) ?_
                  refine g_get (C := "JoinedLeavesModel") (T := T_MO) (N := 21) (ref := "JoinedLeavesModel") (v := .int (mI (sI (sI (sI μ (mR μ r0 9) (Int32.toNatClampNeg (mI μ r0 8)) i1) r0 8 ((mI (sI μ (mR μ r0 9) (Int32.toNatClampNeg (mI μ r0 8)) i1) r0 8) + 1)) r0 13 0) r0 8)) hx hb hts jF_MO hown hK hM g3 (by decide) rfl 8 (by decide) (hts _ jm_8_23) (fun _ h9 => h9) (by decide) rfl d_MO_head_93 ?_
                  refine lv_iconst (v := 1) hx hb d_MO_head_96 (by decide) ?_
                  refine lv_isub hx hb d_MO_head_97 ?_
                  exact g_iret hx hb hr hlocks hM (Option.some.inj h) d_MO_head_98
                · replace h := of_t hc h
                  refine lv_iconst (v := (-1)) hx hb d_MO_head_65 (by decide) ?_
                  exact g_iret hx hb hr hlocks hM (Option.some.inj h) d_MO_head_66
        · replace h := of_f hc h
          refine lv_iload_n hx hb d_MO_head_17 rfl (lv_at hl 2 rfl) ?_
          refine lv_if_ne (tgt := 31) hx hb d_MO_head_18 (by decide) (fun hc => ?_) (fun hc => ?_)
          · replace h := of_f hc h
            exact ih2 _ _ _ _ _ _ _ _ _ h hM (lv_sub hl [0, 1, 3] rfl)
          · replace h := of_t hc h
            refine lv_aload_n hx hb d_MO_head_21 rfl (lv_at hl 0 rfl) ?_
            obtain ⟨g9, h⟩ := of_g h
            refine g_get (C := "JoinedLeavesModel") (T := T_MO) (N := 21) (ref := "JoinedLeavesModel") (v := .ref (b + (mR μ r0 9))) hx hb hts jF_MO hown hK hM g3 (by decide) rfl 9 (by decide) (hts _ jm_8_24) (fun _ h9 => h9) (by decide) (rv_of (ok_0 g9)) d_MO_head_22 ?_
            refine lv_iload_n hx hb d_MO_head_25 rfl (lv_at hl 3 rfl) ?_
            obtain ⟨g10, h⟩ := of_g h
            refine g_iald hx hb hK hM g9 g10 d_MO_head_26 ?_
            refine lv_iload_n hx hb d_MO_head_27 rfl (lv_at hl 1 rfl) ?_
            refine lv_icmp_ne (tgt := 35) hx hb d_MO_head_28 (by decide) (fun hc => ?_) (fun hc => ?_)
            · replace h := of_f hc h
              refine lv_iconst (v := 0) hx hb d_MO_head_35 (by decide) ?_
              exact ih3 _ _ _ _ _ _ _ _ _ h hM (lv_sub hl [0, 1, 3] rfl)
            · replace h := of_t hc h
              exact ih2 _ _ _ _ _ _ _ _ _ h hM (lv_sub hl [0, 1, 3] rfl)
      · intro r0 i1 i2 i3 x0 μ H locs ls h hM hl
        have h : B_MO_head_2 n (F_MO_head n) r0 i1 i2 i3 x0 μ = some res := h
        unfold B_MO_head_2 at h
        refine lv_iconst (v := 1) hx hb d_MO_head_31 (by decide) ?_
        refine lv_goto (tgt := 36) hx hb d_MO_head_32 (by decide) ?_
        exact ih3 _ _ _ _ _ _ _ _ _ h hM (lv_sub hl [0, 1, 2] rfl)
      · intro r0 i1 i2 i3 x0 μ H locs ls h hM hl
        have h : B_MO_head_3 n (F_MO_head n) r0 i1 i2 i3 x0 μ = some res := h
        unfold B_MO_head_3 at h
        refine lv_istore_n hx hb d_MO_head_36 rfl hl (by decide) rfl (fun ls hl => ?_)
        have hl : lv_has ls 4 [(2, .int x0), (0, .ref (b + r0)), (1, .int i1), (3, .int i3)] := hl
        obtain ⟨v11, e_v11, h⟩ := of_b h
        refine lv_iinc (v := v11) hx hb d_MO_head_37 hl (k := 3) rfl (by rw [lit1]; exact Option.some.inj e_v11) (by decide) rfl (fun ls hl => ?_)
        have hl : lv_has ls 4 [(3, .int v11), (2, .int x0), (0, .ref (b + r0)), (1, .int i1)] := hl
        refine lv_goto (tgt := 9) hx hb d_MO_head_40 (by decide) ?_
        exact ih1 _ _ _ _ _ _ _ _ _ h hM (lv_sub hl [2, 3, 1, 0] rfl)
  exact (key n).1 _ _ _ _ _ _ _ _ _ h hM hl
abbrev w_MO_clear : List Cond := .code y_MO_clear b_MO_clear 2 (Option.some Jvm.ClassFile.FieldType.int) :: jW
def C_MO_clear (n : Nat) (r0 : Nat) (μ : Mem) : Option (Int32 × Mem) :=
  if ok μ r0 6 = true then Option.bind (some (sI μ r0 0 0)) (fun μ2 => Option.bind (some (mI μ2 r0 5)) (fun v3 => Option.bind (some (sI μ2 r0 5 0)) (fun μ4 => Option.bind (some (sI μ4 r0 8 0)) (fun μ5 => Option.bind (some (sI μ5 r0 13 0)) (fun μ6 => some (v3, μ6)))))) else none
set_option maxHeartbeats 4000000 in
set_option maxRecDepth 100000 in
theorem S_MO_clear (l : Launch) (D : va_G) (b : Nat) (cs : Nat → ClassId) (r0 : Nat) (μ : Mem) (res : Int32 × Mem) (n : Nat) (h : C_MO_clear n r0 μ = some res) : MetI l y_MO_clear w_MO_clear 0 0 b cs D μ [.ref (b + r0)] res := by
  refine Met.ofW (cc := b_MO_clear) (maxL := 2) (ret := (Option.some Jvm.ClassFile.FieldType.int)) (by decide) rfl ?_
  intro p e s m args below meth c s₁ B hml hv
  obtain ⟨rfl, hK, hM⟩ := Wd.start hv
  have hx := B.exec
  have hb := B.bytes
  have hr := B.returns
  have hts : ∀ w ∈ jW, w.before _ s = true := fun w hw => atoms_spec (ws := w_MO_clear) B.pre w (List.mem_cons_of_mem _ hw)
  have hown : s.vm.findClass "JoinedLeavesModel" = some m.cls := findClass_of_methodNamed B.named
  have hlocks := B.notSynchronized
  have hl := lv_entry ([.ref (b + r0)]) (n := 2) (Nat.le_of_ble_eq_true rfl)
  rw [lg_entry_eq]
  generalize (lg_sl ([.ref (b + r0)]) ++ List.replicate (2 - (lg_sl ([.ref (b + r0)])).length) Slot.unset).toArray = ls at hl ⊢
  have hl : lv_has ls 2 [(0, .ref (b + r0))] := hl
  unfold C_MO_clear at h
  refine lv_aload_n hx hb d_MO_clear_0 rfl (lv_at hl 0 rfl) ?_
  refine lv_iconst (v := 0) hx hb d_MO_clear_1 (by decide) ?_
  obtain ⟨g1, h⟩ := of_g h
  obtain ⟨μ2, e_μ2, h⟩ := of_b h
  obtain rfl := Option.some.inj e_μ2
  refine g_puti (v := 0) (C := "JoinedLeavesModel") (T := T_MO) (N := 21) (ref := "JoinedLeavesModel") hx hb hts jF_MO t_MO o_MO n_MO hown hK hM g1 (by decide) rfl 0 (by decide) (hts _ jm_8_15) (fun _ h9 => h9) rfl (ty := .int) (by decide +kernel) rfl rfl (by decide) (Or.inl rfl) d_MO_clear_2 (fun H locs hM => ?_)
  refine lv_aload_n hx hb d_MO_clear_5 rfl (lv_at hl 0 rfl) ?_
  refine g_get (C := "JoinedLeavesModel") (T := T_MO) (N := 21) (ref := "JoinedLeavesModel") (v := .int (mI (sI μ r0 0 0) r0 5)) hx hb hts jF_MO hown hK hM g1 (by decide) rfl 5 (by decide) (hts _ jm_8_20) (fun _ h9 => h9) (by decide) rfl d_MO_clear_6 ?_
  obtain ⟨v3, e_v3, h⟩ := of_b h
  refine top_i (Option.some.inj e_v3) ?_
  refine lv_istore_n hx hb d_MO_clear_9 rfl hl (by decide) rfl (fun ls hl => ?_)
  have hl : lv_has ls 2 [(1, .int v3), (0, .ref (b + r0))] := hl
  refine lv_aload_n hx hb d_MO_clear_10 rfl (lv_at hl 1 rfl) ?_
  refine lv_iconst (v := 0) hx hb d_MO_clear_11 (by decide) ?_
  obtain ⟨μ4, e_μ4, h⟩ := of_b h
  obtain rfl := Option.some.inj e_μ4
  refine g_puti (v := 0) (C := "JoinedLeavesModel") (T := T_MO) (N := 21) (ref := "JoinedLeavesModel") hx hb hts jF_MO t_MO o_MO n_MO hown hK hM g1 (by decide) rfl 5 (by decide) (hts _ jm_8_20) (fun _ h9 => h9) rfl (ty := .int) (by decide +kernel) rfl rfl (by decide) (Or.inl rfl) d_MO_clear_12 (fun H locs hM => ?_)
  refine lv_aload_n hx hb d_MO_clear_15 rfl (lv_at hl 1 rfl) ?_
  refine lv_iconst (v := 0) hx hb d_MO_clear_16 (by decide) ?_
  obtain ⟨μ5, e_μ5, h⟩ := of_b h
  obtain rfl := Option.some.inj e_μ5
  refine g_puti (v := 0) (C := "JoinedLeavesModel") (T := T_MO) (N := 21) (ref := "JoinedLeavesModel") hx hb hts jF_MO t_MO o_MO n_MO hown hK hM g1 (by decide) rfl 8 (by decide) (hts _ jm_8_23) (fun _ h9 => h9) rfl (ty := .int) (by decide +kernel) rfl rfl (by decide) (Or.inl rfl) d_MO_clear_17 (fun H locs hM => ?_)
  refine lv_aload_n hx hb d_MO_clear_20 rfl (lv_at hl 1 rfl) ?_
  refine lv_iconst (v := 0) hx hb d_MO_clear_21 (by decide) ?_
  obtain ⟨μ6, e_μ6, h⟩ := of_b h
  obtain rfl := Option.some.inj e_μ6
  refine g_puti (v := 0) (C := "JoinedLeavesModel") (T := T_MO) (N := 21) (ref := "JoinedLeavesModel") hx hb hts jF_MO t_MO o_MO n_MO hown hK hM g1 (by decide) rfl 13 (by decide) (hts _ jm_8_28) (fun _ h9 => h9) rfl (ty := .boolean) (by decide +kernel) narrow_b0 rfl (by decide) (Or.inr rfl) d_MO_clear_22 (fun H locs hM => ?_)
  refine lv_iload_n hx hb d_MO_clear_25 rfl (lv_at hl 0 rfl) ?_
  exact g_iret hx hb hr hlocks hM (Option.some.inj h) d_MO_clear_26
abbrev w_MO_setOf : List Cond := .code y_MO_setOf b_MO_setOf 4 (Option.some Jvm.ClassFile.FieldType.int) :: jW
def B_MO_setOf_0 (n : Nat) (k : Nat → Nat → Int32 → Int32 → Int32 → Mem → Option (Int32 × Mem)) (r0 : Nat) (i1 : Int32) (i2 : Int32) (i3 : Int32) (μ : Mem) : Option (Int32 × Mem) :=
  k 1 r0 i1 0 0 μ
def B_MO_setOf_1 (n : Nat) (k : Nat → Nat → Int32 → Int32 → Int32 → Mem → Option (Int32 × Mem)) (r0 : Nat) (i1 : Int32) (i2 : Int32) (i3 : Int32) (μ : Mem) : Option (Int32 × Mem) :=
  if ok μ r0 6 = true then if ok μ (mR μ r0 2) 100 = true then if ok μ (mR μ r0 6) 100 = true then if ib i1 (mZ μ (mR μ r0 6)) = true then if ib (mI μ (mR μ r0 6) (Int32.toNatClampNeg i1)) (mZ μ (mR μ r0 2)) = true then if (mI μ (mR μ r0 2) (Int32.toNatClampNeg (mI μ (mR μ r0 6) (Int32.toNatClampNeg i1)))) ≤ i3 then some (i2, μ) else if ok μ (mR μ r0 7) 100 = true then if ib ((3 * i1) + i3) (mZ μ (mR μ r0 7)) = true then Option.bind (some (i2 ||| (1 <<< ((mI μ (mR μ r0 7) (Int32.toNatClampNeg ((3 * i1) + i3))) &&& 31)))) (fun v8 => Option.bind (some (i3 + 1)) (fun v9 => k 1 r0 i1 v8 v9 μ)) else none else none else none else none else none else none else none
def F_MO_setOf : Nat → Nat → Nat → Int32 → Int32 → Int32 → Mem → Option (Int32 × Mem)
  | 0 => fun _ _ _ _ _ _ => none
  | n + 1 => fun id r0 i1 i2 i3 μ => match id with
    | 0 => B_MO_setOf_0 n (F_MO_setOf n) r0 i1 i2 i3 μ
    | 1 => B_MO_setOf_1 n (F_MO_setOf n) r0 i1 i2 i3 μ
    | _ => none
def C_MO_setOf (n : Nat) (r0 : Nat) (i1 : Int32) (μ : Mem) : Option (Int32 × Mem) := F_MO_setOf n 0 r0 i1 0 0 μ
set_option maxHeartbeats 4000000 in
set_option maxRecDepth 100000 in
theorem S_MO_setOf (l : Launch) (D : va_G) (b : Nat) (cs : Nat → ClassId) (u_r0 : Nat) (u_i1 : Int32) (ν : Mem) (res : Int32 × Mem) (n : Nat) (h : C_MO_setOf n u_r0 u_i1 ν = some res) : MetI l y_MO_setOf w_MO_setOf 0 0 b cs D ν [.ref (b + u_r0), .int u_i1] res := by
  refine Met.ofW (cc := b_MO_setOf) (maxL := 4) (ret := (Option.some Jvm.ClassFile.FieldType.int)) (by decide) rfl ?_
  intro p e s m args below meth c s₁ B hml hv
  obtain ⟨rfl, hK, hM⟩ := Wd.start hv
  have hx := B.exec
  have hb := B.bytes
  have hr := B.returns
  have hts : ∀ w ∈ jW, w.before _ s = true := fun w hw => atoms_spec (ws := w_MO_setOf) B.pre w (List.mem_cons_of_mem _ hw)
  have hown : s.vm.findClass "JoinedLeavesModel" = some m.cls := findClass_of_methodNamed B.named
  have hlocks := B.notSynchronized
  have hl := lv_entry ([.ref (b + u_r0), .int u_i1]) (n := 4) (Nat.le_of_ble_eq_true rfl)
  rw [lg_entry_eq]
  generalize (lg_sl ([.ref (b + u_r0), .int u_i1]) ++ List.replicate (4 - (lg_sl ([.ref (b + u_r0), .int u_i1])).length) Slot.unset).toArray = ls at hl ⊢
  have hl : lv_has ls 4 [(0, .ref (b + u_r0)), (1, .int u_i1)] := hl
  have key : ∀ N : Nat, (∀ (r0 : Nat) (i1 : Int32) (i2 : Int32) (i3 : Int32) (μ : Mem) (H : Heap) (locs : List Loc) (ls : Array Slot), F_MO_setOf N 0 r0 i1 i2 i3 μ = some res → Wd (Aw b (mN ν)) b cs D s.heap μ H locs → lv_has ls 4 [(0, .ref (b + r0)), (1, .int i1)] → W p l e (headSpec w_MO_setOf { frames := 0, cells := 0, slots := 0, locals := 0 }).room s m ([.ref (b + u_r0), .int u_i1]).toArray below meth c H locs 0 0 (MQ below (va_Qi (fun r μ' => (r, μ') = res ∧ mN μ' ≤ mN ν) (Bw b cs D) (Aw b (mN ν))) ([.ref (b + u_r0), .int u_i1]).toArray s 0 0 (Aw b (mN ν))) (F0 m 0 ls [])) ∧
      (∀ (r0 : Nat) (i1 : Int32) (i2 : Int32) (i3 : Int32) (μ : Mem) (H : Heap) (locs : List Loc) (ls : Array Slot), F_MO_setOf N 1 r0 i1 i2 i3 μ = some res → Wd (Aw b (mN ν)) b cs D s.heap μ H locs → lv_has ls 4 [(0, .ref (b + r0)), (1, .int i1), (2, .int i2), (3, .int i3)] → W p l e (headSpec w_MO_setOf { frames := 0, cells := 0, slots := 0, locals := 0 }).room s m ([.ref (b + u_r0), .int u_i1]).toArray below meth c H locs 0 0 (MQ below (va_Qi (fun r μ' => (r, μ') = res ∧ mN μ' ≤ mN ν) (Bw b cs D) (Aw b (mN ν))) ([.ref (b + u_r0), .int u_i1]).toArray s 0 0 (Aw b (mN ν))) (F0 m 4 ls [])) := by
    intro N
    induction N with
    | zero => exact ⟨fun _ _ _ _ _ _ _ _ h => (nomatch h), fun _ _ _ _ _ _ _ _ h => (nomatch h)⟩
    | succ n ih =>
      obtain ⟨ih0, ih1⟩ := ih
      refine ⟨?_, ?_⟩
      · intro r0 i1 i2 i3 μ H locs ls h hM hl
        have h : B_MO_setOf_0 n (F_MO_setOf n) r0 i1 i2 i3 μ = some res := h
        unfold B_MO_setOf_0 at h
        refine lv_iconst (v := 0) hx hb d_MO_setOf_0 (by decide) ?_
        refine lv_istore_n hx hb d_MO_setOf_1 rfl hl (by decide) rfl (fun ls hl => ?_)
        have hl : lv_has ls 4 [(2, .int 0), (0, .ref (b + r0)), (1, .int i1)] := hl
        refine lv_iconst (v := 0) hx hb d_MO_setOf_2 (by decide) ?_
        refine lv_istore_n hx hb d_MO_setOf_3 rfl hl (by decide) rfl (fun ls hl => ?_)
        have hl : lv_has ls 4 [(3, .int 0), (2, .int 0), (0, .ref (b + r0)), (1, .int i1)] := hl
        exact ih1 _ _ _ _ _ _ _ _ h hM (lv_sub hl [2, 3, 1, 0] rfl)
      · intro r0 i1 i2 i3 μ H locs ls h hM hl
        have h : B_MO_setOf_1 n (F_MO_setOf n) r0 i1 i2 i3 μ = some res := h
        unfold B_MO_setOf_1 at h
        refine lv_iload_n hx hb d_MO_setOf_4 rfl (lv_at hl 3 rfl) ?_
        refine lv_aload_n hx hb d_MO_setOf_5 rfl (lv_at hl 0 rfl) ?_
        obtain ⟨g1, h⟩ := of_g h
        obtain ⟨g2, h⟩ := of_g h
        refine g_get (C := "JoinedLeavesModel") (T := T_MO) (N := 21) (ref := "JoinedLeavesModel") (v := .ref (b + (mR μ r0 2))) hx hb hts jF_MO hown hK hM g1 (by decide) rfl 2 (by decide) (hts _ jm_8_17) (fun _ h9 => h9) (by decide) (rv_of (ok_0 g2)) d_MO_setOf_6 ?_
        refine lv_aload_n hx hb d_MO_setOf_9 rfl (lv_at hl 0 rfl) ?_
        obtain ⟨g3, h⟩ := of_g h
        refine g_get (C := "JoinedLeavesModel") (T := T_MO) (N := 21) (ref := "JoinedLeavesModel") (v := .ref (b + (mR μ r0 6))) hx hb hts jF_MO hown hK hM g1 (by decide) rfl 6 (by decide) (hts _ jm_8_21) (fun _ h9 => h9) (by decide) (rv_of (ok_0 g3)) d_MO_setOf_10 ?_
        refine lv_iload_n hx hb d_MO_setOf_13 rfl (lv_at hl 1 rfl) ?_
        obtain ⟨g4, h⟩ := of_g h
        refine g_iald hx hb hK hM g3 g4 d_MO_setOf_14 ?_
        obtain ⟨g5, h⟩ := of_g h
        refine g_iald hx hb hK hM g2 g5 d_MO_setOf_15 ?_
        refine lv_icmp_ge (tgt := 40) hx hb d_MO_setOf_16 (by decide) (fun hc => ?_) (fun hc => ?_)
        · replace h := of_t hc h
          refine lv_iload_n hx hb d_MO_setOf_40 rfl (lv_at hl 2 rfl) ?_
          exact g_iret hx hb hr hlocks hM (Option.some.inj h) d_MO_setOf_41
        · replace h := of_f hc h
          refine lv_iload_n hx hb d_MO_setOf_19 rfl (lv_at hl 2 rfl) ?_
          refine lv_iconst (v := 1) hx hb d_MO_setOf_20 (by decide) ?_
          refine lv_aload_n hx hb d_MO_setOf_21 rfl (lv_at hl 0 rfl) ?_
          obtain ⟨g6, h⟩ := of_g h
          refine g_get (C := "JoinedLeavesModel") (T := T_MO) (N := 21) (ref := "JoinedLeavesModel") (v := .ref (b + (mR μ r0 7))) hx hb hts jF_MO hown hK hM g1 (by decide) rfl 7 (by decide) (hts _ jm_8_22) (fun _ h9 => h9) (by decide) (rv_of (ok_0 g6)) d_MO_setOf_22 ?_
          refine lv_iconst (v := 3) hx hb d_MO_setOf_25 (by decide) ?_
          refine lv_iload_n hx hb d_MO_setOf_26 rfl (lv_at hl 1 rfl) ?_
          refine lv_imul hx hb d_MO_setOf_27 ?_
          refine lv_iload_n hx hb d_MO_setOf_28 rfl (lv_at hl 3 rfl) ?_
          refine lv_iadd hx hb d_MO_setOf_29 ?_
          obtain ⟨g7, h⟩ := of_g h
          refine g_iald hx hb hK hM g6 g7 d_MO_setOf_30 ?_
          refine lv_ishl hx hb d_MO_setOf_31 ?_
          refine lv_ior hx hb d_MO_setOf_32 ?_
          obtain ⟨v8, e_v8, h⟩ := of_b h
          refine top_i (Option.some.inj e_v8) ?_
          refine lv_istore_n hx hb d_MO_setOf_33 rfl hl (by decide) rfl (fun ls hl => ?_)
          have hl : lv_has ls 4 [(2, .int v8), (0, .ref (b + r0)), (1, .int i1), (3, .int i3)] := hl
          obtain ⟨v9, e_v9, h⟩ := of_b h
          refine lv_iinc (v := v9) hx hb d_MO_setOf_34 hl (k := 3) rfl (by rw [lit1]; exact Option.some.inj e_v9) (by decide) rfl (fun ls hl => ?_)
          have hl : lv_has ls 4 [(3, .int v9), (2, .int v8), (0, .ref (b + r0)), (1, .int i1)] := hl
          refine lv_goto (tgt := 4) hx hb d_MO_setOf_37 (by decide) ?_
          exact ih1 _ _ _ _ _ _ _ _ h hM (lv_sub hl [2, 3, 1, 0] rfl)
  exact (key n).1 _ _ _ _ _ _ _ _ h hM hl
abbrev w_MO_isLeft : List Cond := .code y_MO_isLeft b_MO_isLeft 2 (Option.some Jvm.ClassFile.FieldType.boolean) :: jW
def C_MO_isLeft (n : Nat) (r0 : Nat) (i1 : Int32) (μ : Mem) : Option (Int32 × Mem) :=
  if ok μ r0 6 = true then if (((mI μ r0 10) >>> (i1 &&& 31)) &&& 1) = 1 then some (1, μ) else some (0, μ) else none
set_option maxHeartbeats 4000000 in
set_option maxRecDepth 100000 in
theorem S_MO_isLeft (l : Launch) (D : va_G) (b : Nat) (cs : Nat → ClassId) (r0 : Nat) (i1 : Int32) (μ : Mem) (res : Int32 × Mem) (n : Nat) (h : C_MO_isLeft n r0 i1 μ = some res) : MetI l y_MO_isLeft w_MO_isLeft 0 0 b cs D μ [.ref (b + r0), .int i1] res := by
  refine Met.ofW (cc := b_MO_isLeft) (maxL := 2) (ret := (Option.some Jvm.ClassFile.FieldType.boolean)) (by decide) rfl ?_
  intro p e s m args below meth c s₁ B hml hv
  obtain ⟨rfl, hK, hM⟩ := Wd.start hv
  have hx := B.exec
  have hb := B.bytes
  have hr := B.returns
  have hts : ∀ w ∈ jW, w.before _ s = true := fun w hw => atoms_spec (ws := w_MO_isLeft) B.pre w (List.mem_cons_of_mem _ hw)
  have hown : s.vm.findClass "JoinedLeavesModel" = some m.cls := findClass_of_methodNamed B.named
  have hlocks := B.notSynchronized
  have hl := lv_entry ([.ref (b + r0), .int i1]) (n := 2) (Nat.le_of_ble_eq_true rfl)
  rw [lg_entry_eq]
  generalize (lg_sl ([.ref (b + r0), .int i1]) ++ List.replicate (2 - (lg_sl ([.ref (b + r0), .int i1])).length) Slot.unset).toArray = ls at hl ⊢
  have hl : lv_has ls 2 [(0, .ref (b + r0)), (1, .int i1)] := hl
  unfold C_MO_isLeft at h
  refine lv_aload_n hx hb d_MO_isLeft_0 rfl (lv_at hl 0 rfl) ?_
  obtain ⟨g1, h⟩ := of_g h
  refine g_get (C := "JoinedLeavesModel") (T := T_MO) (N := 21) (ref := "JoinedLeavesModel") (v := .int (mI μ r0 10)) hx hb hts jF_MO hown hK hM g1 (by decide) rfl 10 (by decide) (hts _ jm_8_25) (fun _ h9 => h9) (by decide) rfl d_MO_isLeft_1 ?_
  refine lv_iload_n hx hb d_MO_isLeft_4 rfl (lv_at hl 1 rfl) ?_
  refine lv_ishr hx hb d_MO_isLeft_5 ?_
  refine lv_iconst (v := 1) hx hb d_MO_isLeft_6 (by decide) ?_
  refine lv_iand hx hb d_MO_isLeft_7 ?_
  refine lv_iconst (v := 1) hx hb d_MO_isLeft_8 (by decide) ?_
  refine lv_icmp_ne (tgt := 16) hx hb d_MO_isLeft_9 (by decide) (fun hc => ?_) (fun hc => ?_)
  · replace h := of_f hc h
    refine lv_iconst (v := 0) hx hb d_MO_isLeft_16 (by decide) ?_
    exact g_zret hx hb hr narrow_b0 hlocks hM (Option.some.inj h) d_MO_isLeft_17
  · replace h := of_t hc h
    refine lv_iconst (v := 1) hx hb d_MO_isLeft_12 (by decide) ?_
    refine lv_goto (tgt := 17) hx hb d_MO_isLeft_13 (by decide) ?_
    exact g_zret hx hb hr narrow_b1 hlocks hM (Option.some.inj h) d_MO_isLeft_17
abbrev w_MO_holder : List Cond := .code y_MO_holder b_MO_holder 5 (Option.some Jvm.ClassFile.FieldType.int) :: jW
def B_MO_holder_0 (n : Nat) (k : Nat → Nat → Int32 → Int32 → Int32 → Int32 → Int32 → Mem → Option (Int32 × Mem)) (r0 : Nat) (i1 : Int32) (i2 : Int32) (i3 : Int32) (i4 : Int32) (x0 : Int32) (μ : Mem) : Option (Int32 × Mem) :=
  k 1 r0 i1 0 0 0 0 μ
def B_MO_holder_1 (n : Nat) (k : Nat → Nat → Int32 → Int32 → Int32 → Int32 → Int32 → Mem → Option (Int32 × Mem)) (r0 : Nat) (i1 : Int32) (i2 : Int32) (i3 : Int32) (i4 : Int32) (x0 : Int32) (μ : Mem) : Option (Int32 × Mem) :=
  if ok μ r0 6 = true then if (mI μ r0 5) ≤ i3 then Option.bind (some ((mI μ r0 5) - 1)) (fun v2 => k 4 r0 i1 i2 (-1) v2 0 μ) else if i3 = i1 then k 2 r0 i1 i2 i3 0 0 μ else Option.bind (C_MO_isLeft n r0 i3 μ) (fun q3 => if q3.1 = 0 then k 2 r0 i1 i2 i3 0 0 q3.2 else if ok q3.2 r0 6 = true then Option.bind (C_MO_setOf n r0 i3 q3.2) (fun q5 => k 3 r0 i1 0 i3 0 (i2 ||| q5.1) q5.2) else none) else none
def B_MO_holder_2 (n : Nat) (k : Nat → Nat → Int32 → Int32 → Int32 → Int32 → Int32 → Mem → Option (Int32 × Mem)) (r0 : Nat) (i1 : Int32) (i2 : Int32) (i3 : Int32) (i4 : Int32) (x0 : Int32) (μ : Mem) : Option (Int32 × Mem) :=
  k 3 r0 i1 0 i3 0 i2 μ
def B_MO_holder_3 (n : Nat) (k : Nat → Nat → Int32 → Int32 → Int32 → Int32 → Int32 → Mem → Option (Int32 × Mem)) (r0 : Nat) (i1 : Int32) (i2 : Int32) (i3 : Int32) (i4 : Int32) (x0 : Int32) (μ : Mem) : Option (Int32 × Mem) :=
  Option.bind (some (i3 + 1)) (fun v6 => k 1 r0 i1 x0 v6 0 0 μ)
def B_MO_holder_4 (n : Nat) (k : Nat → Nat → Int32 → Int32 → Int32 → Int32 → Int32 → Mem → Option (Int32 × Mem)) (r0 : Nat) (i1 : Int32) (i2 : Int32) (i3 : Int32) (i4 : Int32) (x0 : Int32) (μ : Mem) : Option (Int32 × Mem) :=
  if i4 < 0 then some (i3, μ) else if i4 = i1 then k 5 r0 i1 i2 i3 i4 0 μ else if ok μ r0 6 = true then Option.bind (C_MO_isLeft n r0 i4 μ) (fun q8 => if q8.1 = 0 then k 5 r0 i1 i2 i3 i4 0 q8.2 else if ok q8.2 r0 6 = true then Option.bind (C_MO_setOf n r0 i1 q8.2) (fun q10 => if ok q10.2 r0 6 = true then Option.bind (C_MO_setOf n r0 i4 q10.2) (fun q12 => if ((q10.1 &&& i2) &&& (q12.1 ^^^ (-1))) = 0 then k 6 r0 i1 i2 0 i4 i4 q12.2 else k 5 r0 i1 i2 i3 i4 0 q12.2) else none) else none) else none
def B_MO_holder_5 (n : Nat) (k : Nat → Nat → Int32 → Int32 → Int32 → Int32 → Int32 → Mem → Option (Int32 × Mem)) (r0 : Nat) (i1 : Int32) (i2 : Int32) (i3 : Int32) (i4 : Int32) (x0 : Int32) (μ : Mem) : Option (Int32 × Mem) :=
  k 6 r0 i1 i2 0 i4 i3 μ
def B_MO_holder_6 (n : Nat) (k : Nat → Nat → Int32 → Int32 → Int32 → Int32 → Int32 → Mem → Option (Int32 × Mem)) (r0 : Nat) (i1 : Int32) (i2 : Int32) (i3 : Int32) (i4 : Int32) (x0 : Int32) (μ : Mem) : Option (Int32 × Mem) :=
  Option.bind (some (i4 + (-1))) (fun v13 => k 4 r0 i1 i2 x0 v13 0 μ)
def F_MO_holder : Nat → Nat → Nat → Int32 → Int32 → Int32 → Int32 → Int32 → Mem → Option (Int32 × Mem)
  | 0 => fun _ _ _ _ _ _ _ _ => none
  | n + 1 => fun id r0 i1 i2 i3 i4 x0 μ => match id with
    | 0 => B_MO_holder_0 n (F_MO_holder n) r0 i1 i2 i3 i4 x0 μ
    | 1 => B_MO_holder_1 n (F_MO_holder n) r0 i1 i2 i3 i4 x0 μ
    | 2 => B_MO_holder_2 n (F_MO_holder n) r0 i1 i2 i3 i4 x0 μ
    | 3 => B_MO_holder_3 n (F_MO_holder n) r0 i1 i2 i3 i4 x0 μ
    | 4 => B_MO_holder_4 n (F_MO_holder n) r0 i1 i2 i3 i4 x0 μ
    | 5 => B_MO_holder_5 n (F_MO_holder n) r0 i1 i2 i3 i4 x0 μ
    | 6 => B_MO_holder_6 n (F_MO_holder n) r0 i1 i2 i3 i4 x0 μ
    | _ => none
def C_MO_holder (n : Nat) (r0 : Nat) (i1 : Int32) (μ : Mem) : Option (Int32 × Mem) := F_MO_holder n 0 r0 i1 0 0 0 0 μ
set_option maxHeartbeats 4000000 in
set_option maxRecDepth 100000 in
theorem S_MO_holder (l : Launch) (D : va_G) (b : Nat) (cs : Nat → ClassId) (u_r0 : Nat) (u_i1 : Int32) (ν : Mem) (res : Int32 × Mem) (n : Nat) (h : C_MO_holder n u_r0 u_i1 ν = some res) : MetI l y_MO_holder w_MO_holder 1 23 b cs D ν [.ref (b + u_r0), .int u_i1] res := by
  refine Met.ofW (cc := b_MO_holder) (maxL := 5) (ret := (Option.some Jvm.ClassFile.FieldType.int)) (by decide) rfl ?_
  intro p e s m args below meth c s₁ B hml hv
  obtain ⟨rfl, hK, hM⟩ := Wd.start hv
  have hx := B.exec
  have hb := B.bytes
  have hr := B.returns
  have hts : ∀ w ∈ jW, w.before _ s = true := fun w hw => atoms_spec (ws := w_MO_holder) B.pre w (List.mem_cons_of_mem _ hw)
  have hown : s.vm.findClass "JoinedLeavesModel" = some m.cls := findClass_of_methodNamed B.named
  have hlocks := B.notSynchronized
  have hl := lv_entry ([.ref (b + u_r0), .int u_i1]) (n := 5) (Nat.le_of_ble_eq_true rfl)
  rw [lg_entry_eq]
  generalize (lg_sl ([.ref (b + u_r0), .int u_i1]) ++ List.replicate (5 - (lg_sl ([.ref (b + u_r0), .int u_i1])).length) Slot.unset).toArray = ls at hl ⊢
  have hl : lv_has ls 5 [(0, .ref (b + u_r0)), (1, .int u_i1)] := hl
  have key : ∀ N : Nat, (∀ (r0 : Nat) (i1 : Int32) (i2 : Int32) (i3 : Int32) (i4 : Int32) (x0 : Int32) (μ : Mem) (H : Heap) (locs : List Loc) (ls : Array Slot), F_MO_holder N 0 r0 i1 i2 i3 i4 x0 μ = some res → Wd (Aw b (mN ν)) b cs D s.heap μ H locs → lv_has ls 5 [(0, .ref (b + r0)), (1, .int i1)] → W p l e (headSpec w_MO_holder { frames := 1, cells := 0, slots := 0, locals := 23 }).room s m ([.ref (b + u_r0), .int u_i1]).toArray below meth c H locs 0 0 (MQ below (va_Qi (fun r μ' => (r, μ') = res ∧ mN μ' ≤ mN ν) (Bw b cs D) (Aw b (mN ν))) ([.ref (b + u_r0), .int u_i1]).toArray s 0 0 (Aw b (mN ν))) (F0 m 0 ls [])) ∧
      (∀ (r0 : Nat) (i1 : Int32) (i2 : Int32) (i3 : Int32) (i4 : Int32) (x0 : Int32) (μ : Mem) (H : Heap) (locs : List Loc) (ls : Array Slot), F_MO_holder N 1 r0 i1 i2 i3 i4 x0 μ = some res → Wd (Aw b (mN ν)) b cs D s.heap μ H locs → lv_has ls 5 [(0, .ref (b + r0)), (1, .int i1), (2, .int i2), (3, .int i3)] → W p l e (headSpec w_MO_holder { frames := 1, cells := 0, slots := 0, locals := 23 }).room s m ([.ref (b + u_r0), .int u_i1]).toArray below meth c H locs 0 0 (MQ below (va_Qi (fun r μ' => (r, μ') = res ∧ mN μ' ≤ mN ν) (Bw b cs D) (Aw b (mN ν))) ([.ref (b + u_r0), .int u_i1]).toArray s 0 0 (Aw b (mN ν))) (F0 m 4 ls [])) ∧
      (∀ (r0 : Nat) (i1 : Int32) (i2 : Int32) (i3 : Int32) (i4 : Int32) (x0 : Int32) (μ : Mem) (H : Heap) (locs : List Loc) (ls : Array Slot), F_MO_holder N 2 r0 i1 i2 i3 i4 x0 μ = some res → Wd (Aw b (mN ν)) b cs D s.heap μ H locs → lv_has ls 5 [(0, .ref (b + r0)), (1, .int i1), (2, .int i2), (3, .int i3)] → W p l e (headSpec w_MO_holder { frames := 1, cells := 0, slots := 0, locals := 23 }).room s m ([.ref (b + u_r0), .int u_i1]).toArray below meth c H locs 0 0 (MQ below (va_Qi (fun r μ' => (r, μ') = res ∧ mN μ' ≤ mN ν) (Bw b cs D) (Aw b (mN ν))) ([.ref (b + u_r0), .int u_i1]).toArray s 0 0 (Aw b (mN ν))) (F0 m 35 ls [])) ∧
      (∀ (r0 : Nat) (i1 : Int32) (i2 : Int32) (i3 : Int32) (i4 : Int32) (x0 : Int32) (μ : Mem) (H : Heap) (locs : List Loc) (ls : Array Slot), F_MO_holder N 3 r0 i1 i2 i3 i4 x0 μ = some res → Wd (Aw b (mN ν)) b cs D s.heap μ H locs → lv_has ls 5 [(0, .ref (b + r0)), (1, .int i1), (3, .int i3)] → W p l e (headSpec w_MO_holder { frames := 1, cells := 0, slots := 0, locals := 23 }).room s m ([.ref (b + u_r0), .int u_i1]).toArray below meth c H locs 0 0 (MQ below (va_Qi (fun r μ' => (r, μ') = res ∧ mN μ' ≤ mN ν) (Bw b cs D) (Aw b (mN ν))) ([.ref (b + u_r0), .int u_i1]).toArray s 0 0 (Aw b (mN ν))) (F0 m 36 ls [.int x0])) ∧
      (∀ (r0 : Nat) (i1 : Int32) (i2 : Int32) (i3 : Int32) (i4 : Int32) (x0 : Int32) (μ : Mem) (H : Heap) (locs : List Loc) (ls : Array Slot), F_MO_holder N 4 r0 i1 i2 i3 i4 x0 μ = some res → Wd (Aw b (mN ν)) b cs D s.heap μ H locs → lv_has ls 5 [(0, .ref (b + r0)), (1, .int i1), (2, .int i2), (3, .int i3), (4, .int i4)] → W p l e (headSpec w_MO_holder { frames := 1, cells := 0, slots := 0, locals := 23 }).room s m ([.ref (b + u_r0), .int u_i1]).toArray below meth c H locs 0 0 (MQ below (va_Qi (fun r μ' => (r, μ') = res ∧ mN μ' ≤ mN ν) (Bw b cs D) (Aw b (mN ν))) ([.ref (b + u_r0), .int u_i1]).toArray s 0 0 (Aw b (mN ν))) (F0 m 53 ls [])) ∧
      (∀ (r0 : Nat) (i1 : Int32) (i2 : Int32) (i3 : Int32) (i4 : Int32) (x0 : Int32) (μ : Mem) (H : Heap) (locs : List Loc) (ls : Array Slot), F_MO_holder N 5 r0 i1 i2 i3 i4 x0 μ = some res → Wd (Aw b (mN ν)) b cs D s.heap μ H locs → lv_has ls 5 [(0, .ref (b + r0)), (1, .int i1), (2, .int i2), (3, .int i3), (4, .int i4)] → W p l e (headSpec w_MO_holder { frames := 1, cells := 0, slots := 0, locals := 23 }).room s m ([.ref (b + u_r0), .int u_i1]).toArray below meth c H locs 0 0 (MQ below (va_Qi (fun r μ' => (r, μ') = res ∧ mN μ' ≤ mN ν) (Bw b cs D) (Aw b (mN ν))) ([.ref (b + u_r0), .int u_i1]).toArray s 0 0 (Aw b (mN ν))) (F0 m 97 ls [])) ∧
      (∀ (r0 : Nat) (i1 : Int32) (i2 : Int32) (i3 : Int32) (i4 : Int32) (x0 : Int32) (μ : Mem) (H : Heap) (locs : List Loc) (ls : Array Slot), F_MO_holder N 6 r0 i1 i2 i3 i4 x0 μ = some res → Wd (Aw b (mN ν)) b cs D s.heap μ H locs → lv_has ls 5 [(0, .ref (b + r0)), (1, .int i1), (2, .int i2), (4, .int i4)] → W p l e (headSpec w_MO_holder { frames := 1, cells := 0, slots := 0, locals := 23 }).room s m ([.ref (b + u_r0), .int u_i1]).toArray below meth c H locs 0 0 (MQ below (va_Qi (fun r μ' => (r, μ') = res ∧ mN μ' ≤ mN ν) (Bw b cs D) (Aw b (mN ν))) ([.ref (b + u_r0), .int u_i1]).toArray s 0 0 (Aw b (mN ν))) (F0 m 98 ls [.int x0])) := by
    intro N
    induction N with
    | zero => exact ⟨fun _ _ _ _ _ _ _ _ _ _ h => (nomatch h), fun _ _ _ _ _ _ _ _ _ _ h => (nomatch h), fun _ _ _ _ _ _ _ _ _ _ h => (nomatch h), fun _ _ _ _ _ _ _ _ _ _ h => (nomatch h), fun _ _ _ _ _ _ _ _ _ _ h => (nomatch h), fun _ _ _ _ _ _ _ _ _ _ h => (nomatch h), fun _ _ _ _ _ _ _ _ _ _ h => (nomatch h)⟩
    | succ n ih =>
      obtain ⟨ih0, ih1, ih2, ih3, ih4, ih5, ih6⟩ := ih
      refine ⟨?_, ?_, ?_, ?_, ?_, ?_, ?_⟩
      · intro r0 i1 i2 i3 i4 x0 μ H locs ls h hM hl
        have h : B_MO_holder_0 n (F_MO_holder n) r0 i1 i2 i3 i4 x0 μ = some res := h
        unfold B_MO_holder_0 at h
        refine lv_iconst (v := 0) hx hb d_MO_holder_0 (by decide) ?_
        refine lv_istore_n hx hb d_MO_holder_1 rfl hl (by decide) rfl (fun ls hl => ?_)
        have hl : lv_has ls 5 [(2, .int 0), (0, .ref (b + r0)), (1, .int i1)] := hl
        refine lv_iconst (v := 0) hx hb d_MO_holder_2 (by decide) ?_
        refine lv_istore_n hx hb d_MO_holder_3 rfl hl (by decide) rfl (fun ls hl => ?_)
        have hl : lv_has ls 5 [(3, .int 0), (2, .int 0), (0, .ref (b + r0)), (1, .int i1)] := hl
        exact ih1 _ _ _ _ _ _ _ _ _ _ h hM (lv_sub hl [2, 3, 1, 0] rfl)
      · intro r0 i1 i2 i3 i4 x0 μ H locs ls h hM hl
        have h : B_MO_holder_1 n (F_MO_holder n) r0 i1 i2 i3 i4 x0 μ = some res := h
        unfold B_MO_holder_1 at h
        refine lv_iload_n hx hb d_MO_holder_4 rfl (lv_at hl 3 rfl) ?_
        refine lv_aload_n hx hb d_MO_holder_5 rfl (lv_at hl 0 rfl) ?_
        obtain ⟨g1, h⟩ := of_g h
        refine g_get (C := "JoinedLeavesModel") (T := T_MO) (N := 21) (ref := "JoinedLeavesModel") (v := .int (mI μ r0 5)) hx hb hts jF_MO hown hK hM g1 (by decide) rfl 5 (by decide) (hts _ jm_8_20) (fun _ h9 => h9) (by decide) rfl d_MO_holder_6 ?_
        refine lv_icmp_ge (tgt := 43) hx hb d_MO_holder_9 (by decide) (fun hc => ?_) (fun hc => ?_)
        · replace h := of_t hc h
          refine lv_iconst (v := (-1)) hx hb d_MO_holder_43 (by decide) ?_
          refine lv_istore_n hx hb d_MO_holder_44 rfl hl (by decide) rfl (fun ls hl => ?_)
          have hl : lv_has ls 5 [(3, .int (-1)), (0, .ref (b + r0)), (1, .int i1), (2, .int i2)] := hl
          refine lv_aload_n hx hb d_MO_holder_45 rfl (lv_at hl 1 rfl) ?_
          refine g_get (C := "JoinedLeavesModel") (T := T_MO) (N := 21) (ref := "JoinedLeavesModel") (v := .int (mI μ r0 5)) hx hb hts jF_MO hown hK hM g1 (by decide) rfl 5 (by decide) (hts _ jm_8_20) (fun _ h9 => h9) (by decide) rfl d_MO_holder_46 ?_
          refine lv_iconst (v := 1) hx hb d_MO_holder_49 (by decide) ?_
          refine lv_isub hx hb d_MO_holder_50 ?_
          obtain ⟨v2, e_v2, h⟩ := of_b h
          refine top_i (Option.some.inj e_v2) ?_
          refine lv_istore hx hb d_MO_holder_51 hl (by decide) rfl (fun ls hl => ?_)
          have hl : lv_has ls 5 [(4, .int v2), (3, .int (-1)), (0, .ref (b + r0)), (1, .int i1), (2, .int i2)] := hl
          exact ih4 _ _ _ _ _ _ _ _ _ _ h hM (lv_sub hl [2, 3, 4, 1, 0] rfl)
        · replace h := of_f hc h
          refine lv_iload_n hx hb d_MO_holder_12 rfl (lv_at hl 3 rfl) ?_
          refine lv_iload_n hx hb d_MO_holder_13 rfl (lv_at hl 1 rfl) ?_
          refine lv_icmp_eq (tgt := 35) hx hb d_MO_holder_14 (by decide) (fun hc => ?_) (fun hc => ?_)
          · replace h := of_t hc h
            exact ih2 _ _ _ _ _ _ _ _ _ _ h hM (lv_sub hl [0, 1, 2, 3] rfl)
          · replace h := of_f hc h
            refine lv_aload_n hx hb d_MO_holder_17 rfl (lv_at hl 0 rfl) ?_
            refine lv_iload_n hx hb d_MO_holder_18 rfl (lv_at hl 3 rfl) ?_
            obtain ⟨q3, hq3, h⟩ := of_b h
            refine g_calli (va_runV (As := [.int i3]) (rest := []) ⟨hx, hb, hml, hown, hts⟩ (S_MO_isLeft l D b cs r0 i3 μ q3 n hq3) ⟨callB_of 1 hts (goodIn_g jm_10_15) rfl rfl rfl (hts _ jm_0_7) (hts _ jm_10_13) (by decide +kernel) ⟨Nat.le_of_ble_eq_true rfl, Nat.le_of_ble_eq_true rfl⟩, (hts _ jm_10_14), (hts _ jm_12_17)⟩ (Wd.preV hK hM g1 rfl (by decide)) rfl rfl hl.1 rfl (lv_room (Nat.le_of_ble_eq_true rfl)) d_MO_holder_19 ⟨Nat.le_of_ble_eq_true rfl, Nat.le_of_ble_eq_true rfl⟩) hM (fun H locs hM => ?_)
            refine lv_if_eq (tgt := 35) hx hb d_MO_holder_22 (by decide) (fun hc => ?_) (fun hc => ?_)
            · replace h := of_t hc h
              exact ih2 _ _ _ _ _ _ _ _ _ _ h hM (lv_sub hl [0, 1, 2, 3] rfl)
            · replace h := of_f hc h
              refine lv_iload_n hx hb d_MO_holder_25 rfl (lv_at hl 2 rfl) ?_
              refine lv_aload_n hx hb d_MO_holder_26 rfl (lv_at hl 0 rfl) ?_
              refine lv_iload_n hx hb d_MO_holder_27 rfl (lv_at hl 3 rfl) ?_
              obtain ⟨g4, h⟩ := of_g h
              obtain ⟨q5, hq5, h⟩ := of_b h
              refine g_calli (va_runV (As := [.int i3]) (rest := [.int i2]) ⟨hx, hb, hml, hown, hts⟩ (S_MO_setOf l D b cs r0 i3 q3.2 q5 n hq5) ⟨callB_of 1 hts (goodIn_g jm_10_21) rfl rfl rfl (hts _ jm_0_7) (hts _ jm_10_19) (by decide +kernel) ⟨Nat.le_of_ble_eq_true rfl, Nat.le_of_ble_eq_true rfl⟩, (hts _ jm_10_20), (hts _ jm_12_19)⟩ (Wd.preV hK hM g4 rfl (by decide)) rfl rfl hl.1 rfl (lv_room (Nat.le_of_ble_eq_true rfl)) d_MO_holder_28 ⟨Nat.le_of_ble_eq_true rfl, Nat.le_of_ble_eq_true rfl⟩) hM (fun H locs hM => ?_)
              refine lv_ior hx hb d_MO_holder_31 ?_
              refine lv_goto (tgt := 36) hx hb d_MO_holder_32 (by decide) ?_
              exact ih3 _ _ _ _ _ _ _ _ _ _ h hM (lv_sub hl [0, 1, 3] rfl)
      · intro r0 i1 i2 i3 i4 x0 μ H locs ls h hM hl
        have h : B_MO_holder_2 n (F_MO_holder n) r0 i1 i2 i3 i4 x0 μ = some res := h
        unfold B_MO_holder_2 at h
        refine lv_iload_n hx hb d_MO_holder_35 rfl (lv_at hl 2 rfl) ?_
        exact ih3 _ _ _ _ _ _ _ _ _ _ h hM (lv_sub hl [0, 1, 3] rfl)
      · intro r0 i1 i2 i3 i4 x0 μ H locs ls h hM hl
        have h : B_MO_holder_3 n (F_MO_holder n) r0 i1 i2 i3 i4 x0 μ = some res := h
        unfold B_MO_holder_3 at h
        refine lv_istore_n hx hb d_MO_holder_36 rfl hl (by decide) rfl (fun ls hl => ?_)
        have hl : lv_has ls 5 [(2, .int x0), (0, .ref (b + r0)), (1, .int i1), (3, .int i3)] := hl
        obtain ⟨v6, e_v6, h⟩ := of_b h
        refine lv_iinc (v := v6) hx hb d_MO_holder_37 hl (k := 3) rfl (by rw [lit1]; exact Option.some.inj e_v6) (by decide) rfl (fun ls hl => ?_)
        have hl : lv_has ls 5 [(3, .int v6), (2, .int x0), (0, .ref (b + r0)), (1, .int i1)] := hl
        refine lv_goto (tgt := 4) hx hb d_MO_holder_40 (by decide) ?_
        exact ih1 _ _ _ _ _ _ _ _ _ _ h hM (lv_sub hl [2, 3, 1, 0] rfl)
      · intro r0 i1 i2 i3 i4 x0 μ H locs ls h hM hl
        have h : B_MO_holder_4 n (F_MO_holder n) r0 i1 i2 i3 i4 x0 μ = some res := h
        unfold B_MO_holder_4 at h
        refine lv_iload hx hb d_MO_holder_53 (lv_at hl 4 rfl) ?_
        refine lv_if_lt (tgt := 105) hx hb d_MO_holder_55 (by decide) (fun hc => ?_) (fun hc => ?_)
        · replace h := of_t hc h
          refine lv_iload_n hx hb d_MO_holder_105 rfl (lv_at hl 3 rfl) ?_
          exact g_iret hx hb hr hlocks hM (Option.some.inj h) d_MO_holder_106
        · replace h := of_f hc h
          refine lv_iload hx hb d_MO_holder_58 (lv_at hl 4 rfl) ?_
          refine lv_iload_n hx hb d_MO_holder_60 rfl (lv_at hl 1 rfl) ?_
          refine lv_icmp_eq (tgt := 97) hx hb d_MO_holder_61 (by decide) (fun hc => ?_) (fun hc => ?_)
          · replace h := of_t hc h
            exact ih5 _ _ _ _ _ _ _ _ _ _ h hM (lv_sub hl [0, 1, 2, 3, 4] rfl)
          · replace h := of_f hc h
            refine lv_aload_n hx hb d_MO_holder_64 rfl (lv_at hl 0 rfl) ?_
            refine lv_iload hx hb d_MO_holder_65 (lv_at hl 4 rfl) ?_
            obtain ⟨g7, h⟩ := of_g h
            obtain ⟨q8, hq8, h⟩ := of_b h
            refine g_calli (va_runV (As := [.int i4]) (rest := []) ⟨hx, hb, hml, hown, hts⟩ (S_MO_isLeft l D b cs r0 i4 μ q8 n hq8) ⟨callB_of 1 hts (goodIn_g jm_10_15) rfl rfl rfl (hts _ jm_0_7) (hts _ jm_10_13) (by decide +kernel) ⟨Nat.le_of_ble_eq_true rfl, Nat.le_of_ble_eq_true rfl⟩, (hts _ jm_10_14), (hts _ jm_12_17)⟩ (Wd.preV hK hM g7 rfl (by decide)) rfl rfl hl.1 rfl (lv_room (Nat.le_of_ble_eq_true rfl)) d_MO_holder_67 ⟨Nat.le_of_ble_eq_true rfl, Nat.le_of_ble_eq_true rfl⟩) hM (fun H locs hM => ?_)
            refine lv_if_eq (tgt := 97) hx hb d_MO_holder_70 (by decide) (fun hc => ?_) (fun hc => ?_)
            · replace h := of_t hc h
              exact ih5 _ _ _ _ _ _ _ _ _ _ h hM (lv_sub hl [0, 1, 2, 3, 4] rfl)
            · replace h := of_f hc h
              refine lv_aload_n hx hb d_MO_holder_73 rfl (lv_at hl 0 rfl) ?_
              refine lv_iload_n hx hb d_MO_holder_74 rfl (lv_at hl 1 rfl) ?_
              obtain ⟨g9, h⟩ := of_g h
              obtain ⟨q10, hq10, h⟩ := of_b h
              refine g_calli (va_runV (As := [.int i1]) (rest := []) ⟨hx, hb, hml, hown, hts⟩ (S_MO_setOf l D b cs r0 i1 q8.2 q10 n hq10) ⟨callB_of 1 hts (goodIn_g jm_10_21) rfl rfl rfl (hts _ jm_0_7) (hts _ jm_10_19) (by decide +kernel) ⟨Nat.le_of_ble_eq_true rfl, Nat.le_of_ble_eq_true rfl⟩, (hts _ jm_10_20), (hts _ jm_12_19)⟩ (Wd.preV hK hM g9 rfl (by decide)) rfl rfl hl.1 rfl (lv_room (Nat.le_of_ble_eq_true rfl)) d_MO_holder_75 ⟨Nat.le_of_ble_eq_true rfl, Nat.le_of_ble_eq_true rfl⟩) hM (fun H locs hM => ?_)
              refine lv_iload_n hx hb d_MO_holder_78 rfl (lv_at hl 2 rfl) ?_
              refine lv_iand hx hb d_MO_holder_79 ?_
              refine lv_aload_n hx hb d_MO_holder_80 rfl (lv_at hl 0 rfl) ?_
              refine lv_iload hx hb d_MO_holder_81 (lv_at hl 4 rfl) ?_
              obtain ⟨g11, h⟩ := of_g h
              obtain ⟨q12, hq12, h⟩ := of_b h
              refine g_calli (va_runV (As := [.int i4]) (rest := [.int (q10.1 &&& i2)]) ⟨hx, hb, hml, hown, hts⟩ (S_MO_setOf l D b cs r0 i4 q10.2 q12 n hq12) ⟨callB_of 1 hts (goodIn_g jm_10_21) rfl rfl rfl (hts _ jm_0_7) (hts _ jm_10_19) (by decide +kernel) ⟨Nat.le_of_ble_eq_true rfl, Nat.le_of_ble_eq_true rfl⟩, (hts _ jm_10_20), (hts _ jm_12_19)⟩ (Wd.preV hK hM g11 rfl (by decide)) rfl rfl hl.1 rfl (lv_room (Nat.le_of_ble_eq_true rfl)) d_MO_holder_83 ⟨Nat.le_of_ble_eq_true rfl, Nat.le_of_ble_eq_true rfl⟩) hM (fun H locs hM => ?_)
              refine lv_iconst (v := (-1)) hx hb d_MO_holder_86 (by decide) ?_
              refine lv_ixor hx hb d_MO_holder_87 ?_
              refine lv_iand hx hb d_MO_holder_88 ?_
              refine lv_if_ne (tgt := 97) hx hb d_MO_holder_89 (by decide) (fun hc => ?_) (fun hc => ?_)
              · replace h := of_f hc h
                exact ih5 _ _ _ _ _ _ _ _ _ _ h hM (lv_sub hl [0, 1, 2, 3, 4] rfl)
              · replace h := of_t hc h
                refine lv_iload hx hb d_MO_holder_92 (lv_at hl 4 rfl) ?_
                refine lv_goto (tgt := 98) hx hb d_MO_holder_94 (by decide) ?_
                exact ih6 _ _ _ _ _ _ _ _ _ _ h hM (lv_sub hl [0, 1, 2, 4] rfl)
      · intro r0 i1 i2 i3 i4 x0 μ H locs ls h hM hl
        have h : B_MO_holder_5 n (F_MO_holder n) r0 i1 i2 i3 i4 x0 μ = some res := h
        unfold B_MO_holder_5 at h
        refine lv_iload_n hx hb d_MO_holder_97 rfl (lv_at hl 3 rfl) ?_
        exact ih6 _ _ _ _ _ _ _ _ _ _ h hM (lv_sub hl [0, 1, 2, 4] rfl)
      · intro r0 i1 i2 i3 i4 x0 μ H locs ls h hM hl
        have h : B_MO_holder_6 n (F_MO_holder n) r0 i1 i2 i3 i4 x0 μ = some res := h
        unfold B_MO_holder_6 at h
        refine lv_istore_n hx hb d_MO_holder_98 rfl hl (by decide) rfl (fun ls hl => ?_)
        have hl : lv_has ls 5 [(3, .int x0), (0, .ref (b + r0)), (1, .int i1), (2, .int i2), (4, .int i4)] := hl
        obtain ⟨v13, e_v13, h⟩ := of_b h
        refine lv_iinc (v := v13) hx hb d_MO_holder_99 hl (k := 4) rfl (by rw [litm1]; exact Option.some.inj e_v13) (by decide) rfl (fun ls hl => ?_)
        have hl : lv_has ls 5 [(4, .int v13), (3, .int x0), (0, .ref (b + r0)), (1, .int i1), (2, .int i2)] := hl
        refine lv_goto (tgt := 53) hx hb d_MO_holder_102 (by decide) ?_
        exact ih4 _ _ _ _ _ _ _ _ _ _ h hM (lv_sub hl [2, 3, 4, 1, 0] rfl)
  exact (key n).1 _ _ _ _ _ _ _ _ _ _ h hM hl
abbrev w_MO_hang : List Cond := .code y_MO_hang b_MO_hang 4 (Option.none : Option Jvm.ClassFile.FieldType) :: jW
def B_MO_hang_0 (n : Nat) (k : Nat → Nat → Int32 → Int32 → Int32 → Int32 → Mem → Option (Mem)) (r0 : Nat) (i1 : Int32) (i2 : Int32) (i3 : Int32) (x0 : Int32) (μ : Mem) : Option (Mem) :=
  if ok μ r0 6 = true then Option.bind (some (sI μ r0 10 ((1 <<< ((mI μ r0 5) &&& 31)) - 1))) (fun μ2 => k 1 r0 0 1 0 0 μ2) else none
def B_MO_hang_1 (n : Nat) (k : Nat → Nat → Int32 → Int32 → Int32 → Int32 → Mem → Option (Mem)) (r0 : Nat) (i1 : Int32) (i2 : Int32) (i3 : Int32) (x0 : Int32) (μ : Mem) : Option (Mem) :=
  if 6 ≤ i3 then k 2 r0 i1 i2 0 0 μ else if ok μ r0 6 = true then if ok μ (mR μ r0 11) 100 = true then if ib i3 (mZ μ (mR μ r0 11)) = true then Option.bind (some (sI μ (mR μ r0 11) (Int32.toNatClampNeg i3) (-1))) (fun μ6 => if ok μ6 (mR μ6 r0 12) 100 = true then if ib i3 (mZ μ6 (mR μ6 r0 12)) = true then Option.bind (some (sI μ6 (mR μ6 r0 12) (Int32.toNatClampNeg i3) (-1))) (fun μ9 => Option.bind (some (i3 + 1)) (fun v10 => k 1 r0 i1 i2 v10 0 μ9)) else none else none) else none else none else none
def B_MO_hang_2 (n : Nat) (k : Nat → Nat → Int32 → Int32 → Int32 → Int32 → Mem → Option (Mem)) (r0 : Nat) (i1 : Int32) (i2 : Int32) (i3 : Int32) (x0 : Int32) (μ : Mem) : Option (Mem) :=
  if i2 = 0 then some μ else k 3 r0 i1 0 0 0 μ
def B_MO_hang_3 (n : Nat) (k : Nat → Nat → Int32 → Int32 → Int32 → Int32 → Mem → Option (Mem)) (r0 : Nat) (i1 : Int32) (i2 : Int32) (i3 : Int32) (x0 : Int32) (μ : Mem) : Option (Mem) :=
  if ok μ r0 6 = true then if (mI μ r0 5) ≤ i3 then k 5 r0 i1 0 i3 0 μ else Option.bind (C_MO_isLeft n r0 i3 μ) (fun q12 => if q12.1 = 0 then k 4 r0 i1 0 i3 0 q12.2 else if ok q12.2 r0 6 = true then Option.bind (C_MO_holder n r0 i3 q12.2) (fun q14 => if 0 ≤ q14.1 then k 5 r0 i1 0 i3 0 q14.2 else k 4 r0 i1 0 i3 0 q14.2) else none) else none
def B_MO_hang_4 (n : Nat) (k : Nat → Nat → Int32 → Int32 → Int32 → Int32 → Mem → Option (Mem)) (r0 : Nat) (i1 : Int32) (i2 : Int32) (i3 : Int32) (x0 : Int32) (μ : Mem) : Option (Mem) :=
  Option.bind (some (i3 + 1)) (fun v15 => k 3 r0 i1 0 v15 0 μ)
def B_MO_hang_5 (n : Nat) (k : Nat → Nat → Int32 → Int32 → Int32 → Int32 → Mem → Option (Mem)) (r0 : Nat) (i1 : Int32) (i2 : Int32) (i3 : Int32) (x0 : Int32) (μ : Mem) : Option (Mem) :=
  if ok μ r0 6 = true then if (mI μ r0 5) ≤ i3 then k 6 r0 i1 0 i3 0 μ else k 6 r0 i1 0 i3 1 μ else none
def B_MO_hang_6 (n : Nat) (k : Nat → Nat → Int32 → Int32 → Int32 → Int32 → Mem → Option (Mem)) (r0 : Nat) (i1 : Int32) (i2 : Int32) (i3 : Int32) (x0 : Int32) (μ : Mem) : Option (Mem) :=
  if x0 = 0 then k 7 r0 i1 x0 0 0 μ else if ok μ r0 6 = true then if ok μ (mR μ r0 11) 100 = true then Option.bind (C_MO_holder n r0 i3 μ) (fun q19 => if ok q19.2 (mR μ r0 11) 100 = true then if ib i3 (mZ q19.2 (mR μ r0 11)) = true then Option.bind (some (sI q19.2 (mR μ r0 11) (Int32.toNatClampNeg i3) q19.1)) (fun μ22 => if ok μ22 r0 6 = true then if ok μ22 (mR μ22 r0 12) 100 = true then if ib i3 (mZ μ22 (mR μ22 r0 12)) = true then Option.bind (some (sI μ22 (mR μ22 r0 12) (Int32.toNatClampNeg i3) i1)) (fun μ26 => Option.bind (some (i1 + 1)) (fun v27 => Option.bind (some (sI μ26 r0 10 ((mI μ26 r0 10) &&& ((1 <<< (i3 &&& 31)) ^^^ (-1))))) (fun μ28 => k 7 r0 v27 x0 0 0 μ28))) else none else none else none) else none else none) else none else none
def B_MO_hang_7 (n : Nat) (k : Nat → Nat → Int32 → Int32 → Int32 → Int32 → Mem → Option (Mem)) (r0 : Nat) (i1 : Int32) (i2 : Int32) (i3 : Int32) (x0 : Int32) (μ : Mem) : Option (Mem) :=
  k 2 r0 i1 i2 0 0 μ
def F_MO_hang : Nat → Nat → Nat → Int32 → Int32 → Int32 → Int32 → Mem → Option (Mem)
  | 0 => fun _ _ _ _ _ _ _ => none
  | n + 1 => fun id r0 i1 i2 i3 x0 μ => match id with
    | 0 => B_MO_hang_0 n (F_MO_hang n) r0 i1 i2 i3 x0 μ
    | 1 => B_MO_hang_1 n (F_MO_hang n) r0 i1 i2 i3 x0 μ
    | 2 => B_MO_hang_2 n (F_MO_hang n) r0 i1 i2 i3 x0 μ
    | 3 => B_MO_hang_3 n (F_MO_hang n) r0 i1 i2 i3 x0 μ
    | 4 => B_MO_hang_4 n (F_MO_hang n) r0 i1 i2 i3 x0 μ
    | 5 => B_MO_hang_5 n (F_MO_hang n) r0 i1 i2 i3 x0 μ
    | 6 => B_MO_hang_6 n (F_MO_hang n) r0 i1 i2 i3 x0 μ
    | 7 => B_MO_hang_7 n (F_MO_hang n) r0 i1 i2 i3 x0 μ
    | _ => none
def C_MO_hang (n : Nat) (r0 : Nat) (μ : Mem) : Option (Mem) := F_MO_hang n 0 r0 0 0 0 0 μ
set_option maxHeartbeats 4000000 in
set_option maxRecDepth 100000 in
theorem S_MO_hang (l : Launch) (D : va_G) (b : Nat) (cs : Nat → ClassId) (u_r0 : Nat) (ν : Mem) (res : Mem) (n : Nat) (h : C_MO_hang n u_r0 ν = some res) : MetV l y_MO_hang w_MO_hang 2 47 b cs D ν [.ref (b + u_r0)] res := by
  refine Met.ofW (cc := b_MO_hang) (maxL := 4) (ret := (Option.none : Option Jvm.ClassFile.FieldType)) (by decide) rfl ?_
  intro p e s m args below meth c s₁ B hml hv
  obtain ⟨rfl, hK, hM⟩ := Wd.start hv
  have hx := B.exec
  have hb := B.bytes
  have hr := B.returns
  have hts : ∀ w ∈ jW, w.before _ s = true := fun w hw => atoms_spec (ws := w_MO_hang) B.pre w (List.mem_cons_of_mem _ hw)
  have hown : s.vm.findClass "JoinedLeavesModel" = some m.cls := findClass_of_methodNamed B.named
  have hlocks := B.notSynchronized
  have hl := lv_entry ([.ref (b + u_r0)]) (n := 4) (Nat.le_of_ble_eq_true rfl)
  rw [lg_entry_eq]
  generalize (lg_sl ([.ref (b + u_r0)]) ++ List.replicate (4 - (lg_sl ([.ref (b + u_r0)])).length) Slot.unset).toArray = ls at hl ⊢
  have hl : lv_has ls 4 [(0, .ref (b + u_r0))] := hl
  have key : ∀ N : Nat, (∀ (r0 : Nat) (i1 : Int32) (i2 : Int32) (i3 : Int32) (x0 : Int32) (μ : Mem) (H : Heap) (locs : List Loc) (ls : Array Slot), F_MO_hang N 0 r0 i1 i2 i3 x0 μ = some res → Wd (Aw b (mN ν)) b cs D s.heap μ H locs → lv_has ls 4 [(0, .ref (b + r0))] → W p l e (headSpec w_MO_hang { frames := 2, cells := 0, slots := 0, locals := 47 }).room s m ([.ref (b + u_r0)]).toArray below meth c H locs 0 0 (MQ below (va_Qv (fun μ' => μ' = res ∧ mN μ' ≤ mN ν) (Bw b cs D) (Aw b (mN ν))) ([.ref (b + u_r0)]).toArray s 0 0 (Aw b (mN ν))) (F0 m 0 ls [])) ∧
      (∀ (r0 : Nat) (i1 : Int32) (i2 : Int32) (i3 : Int32) (x0 : Int32) (μ : Mem) (H : Heap) (locs : List Loc) (ls : Array Slot), F_MO_hang N 1 r0 i1 i2 i3 x0 μ = some res → Wd (Aw b (mN ν)) b cs D s.heap μ H locs → lv_has ls 4 [(0, .ref (b + r0)), (1, .int i1), (2, .int i2), (3, .int i3)] → W p l e (headSpec w_MO_hang { frames := 2, cells := 0, slots := 0, locals := 47 }).room s m ([.ref (b + u_r0)]).toArray below meth c H locs 0 0 (MQ below (va_Qv (fun μ' => μ' = res ∧ mN μ' ≤ mN ν) (Bw b cs D) (Aw b (mN ν))) ([.ref (b + u_r0)]).toArray s 0 0 (Aw b (mN ν))) (F0 m 18 ls [])) ∧
      (∀ (r0 : Nat) (i1 : Int32) (i2 : Int32) (i3 : Int32) (x0 : Int32) (μ : Mem) (H : Heap) (locs : List Loc) (ls : Array Slot), F_MO_hang N 2 r0 i1 i2 i3 x0 μ = some res → Wd (Aw b (mN ν)) b cs D s.heap μ H locs → lv_has ls 4 [(0, .ref (b + r0)), (1, .int i1), (2, .int i2)] → W p l e (headSpec w_MO_hang { frames := 2, cells := 0, slots := 0, locals := 47 }).room s m ([.ref (b + u_r0)]).toArray below meth c H locs 0 0 (MQ below (va_Qv (fun μ' => μ' = res ∧ mN μ' ≤ mN ν) (Bw b cs D) (Aw b (mN ν))) ([.ref (b + u_r0)]).toArray s 0 0 (Aw b (mN ν))) (F0 m 44 ls [])) ∧
      (∀ (r0 : Nat) (i1 : Int32) (i2 : Int32) (i3 : Int32) (x0 : Int32) (μ : Mem) (H : Heap) (locs : List Loc) (ls : Array Slot), F_MO_hang N 3 r0 i1 i2 i3 x0 μ = some res → Wd (Aw b (mN ν)) b cs D s.heap μ H locs → lv_has ls 4 [(0, .ref (b + r0)), (1, .int i1), (3, .int i3)] → W p l e (headSpec w_MO_hang { frames := 2, cells := 0, slots := 0, locals := 47 }).room s m ([.ref (b + u_r0)]).toArray below meth c H locs 0 0 (MQ below (va_Qv (fun μ' => μ' = res ∧ mN μ' ≤ mN ν) (Bw b cs D) (Aw b (mN ν))) ([.ref (b + u_r0)]).toArray s 0 0 (Aw b (mN ν))) (F0 m 50 ls [])) ∧
      (∀ (r0 : Nat) (i1 : Int32) (i2 : Int32) (i3 : Int32) (x0 : Int32) (μ : Mem) (H : Heap) (locs : List Loc) (ls : Array Slot), F_MO_hang N 4 r0 i1 i2 i3 x0 μ = some res → Wd (Aw b (mN ν)) b cs D s.heap μ H locs → lv_has ls 4 [(0, .ref (b + r0)), (1, .int i1), (3, .int i3)] → W p l e (headSpec w_MO_hang { frames := 2, cells := 0, slots := 0, locals := 47 }).room s m ([.ref (b + u_r0)]).toArray below meth c H locs 0 0 (MQ below (va_Qv (fun μ' => μ' = res ∧ mN μ' ≤ mN ν) (Bw b cs D) (Aw b (mN ν))) ([.ref (b + u_r0)]).toArray s 0 0 (Aw b (mN ν))) (F0 m 74 ls [])) ∧
      (∀ (r0 : Nat) (i1 : Int32) (i2 : Int32) (i3 : Int32) (x0 : Int32) (μ : Mem) (H : Heap) (locs : List Loc) (ls : Array Slot), F_MO_hang N 5 r0 i1 i2 i3 x0 μ = some res → Wd (Aw b (mN ν)) b cs D s.heap μ H locs → lv_has ls 4 [(0, .ref (b + r0)), (1, .int i1), (3, .int i3)] → W p l e (headSpec w_MO_hang { frames := 2, cells := 0, slots := 0, locals := 47 }).room s m ([.ref (b + u_r0)]).toArray below meth c H locs 0 0 (MQ below (va_Qv (fun μ' => μ' = res ∧ mN μ' ≤ mN ν) (Bw b cs D) (Aw b (mN ν))) ([.ref (b + u_r0)]).toArray s 0 0 (Aw b (mN ν))) (F0 m 81 ls [])) ∧
      (∀ (r0 : Nat) (i1 : Int32) (i2 : Int32) (i3 : Int32) (x0 : Int32) (μ : Mem) (H : Heap) (locs : List Loc) (ls : Array Slot), F_MO_hang N 6 r0 i1 i2 i3 x0 μ = some res → Wd (Aw b (mN ν)) b cs D s.heap μ H locs → lv_has ls 4 [(0, .ref (b + r0)), (1, .int i1), (3, .int i3)] → W p l e (headSpec w_MO_hang { frames := 2, cells := 0, slots := 0, locals := 47 }).room s m ([.ref (b + u_r0)]).toArray below meth c H locs 0 0 (MQ below (va_Qv (fun μ' => μ' = res ∧ mN μ' ≤ mN ν) (Bw b cs D) (Aw b (mN ν))) ([.ref (b + u_r0)]).toArray s 0 0 (Aw b (mN ν))) (F0 m 94 ls [.int x0])) ∧
      (∀ (r0 : Nat) (i1 : Int32) (i2 : Int32) (i3 : Int32) (x0 : Int32) (μ : Mem) (H : Heap) (locs : List Loc) (ls : Array Slot), F_MO_hang N 7 r0 i1 i2 i3 x0 μ = some res → Wd (Aw b (mN ν)) b cs D s.heap μ H locs → lv_has ls 4 [(0, .ref (b + r0)), (1, .int i1), (2, .int i2)] → W p l e (headSpec w_MO_hang { frames := 2, cells := 0, slots := 0, locals := 47 }).room s m ([.ref (b + u_r0)]).toArray below meth c H locs 0 0 (MQ below (va_Qv (fun μ' => μ' = res ∧ mN μ' ≤ mN ν) (Bw b cs D) (Aw b (mN ν))) ([.ref (b + u_r0)]).toArray s 0 0 (Aw b (mN ν))) (F0 m 135 ls [])) := by
    intro N
    induction N with
    | zero => exact ⟨fun _ _ _ _ _ _ _ _ _ h => (nomatch h), fun _ _ _ _ _ _ _ _ _ h => (nomatch h), fun _ _ _ _ _ _ _ _ _ h => (nomatch h), fun _ _ _ _ _ _ _ _ _ h => (nomatch h), fun _ _ _ _ _ _ _ _ _ h => (nomatch h), fun _ _ _ _ _ _ _ _ _ h => (nomatch h), fun _ _ _ _ _ _ _ _ _ h => (nomatch h), fun _ _ _ _ _ _ _ _ _ h => (nomatch h)⟩
    | succ n ih =>
      obtain ⟨ih0, ih1, ih2, ih3, ih4, ih5, ih6, ih7⟩ := ih
      refine ⟨?_, ?_, ?_, ?_, ?_, ?_, ?_, ?_⟩
      · intro r0 i1 i2 i3 x0 μ H locs ls h hM hl
        have h : B_MO_hang_0 n (F_MO_hang n) r0 i1 i2 i3 x0 μ = some res := h
        unfold B_MO_hang_0 at h
        refine lv_aload_n hx hb d_MO_hang_0 rfl (lv_at hl 0 rfl) ?_
        refine lv_iconst (v := 1) hx hb d_MO_hang_1 (by decide) ?_
        refine lv_aload_n hx hb d_MO_hang_2 rfl (lv_at hl 0 rfl) ?_
        obtain ⟨g1, h⟩ := of_g h
        refine g_get (C := "JoinedLeavesModel") (T := T_MO) (N := 21) (ref := "JoinedLeavesModel") (v := .int (mI μ r0 5)) hx hb hts jF_MO hown hK hM g1 (by decide) rfl 5 (by decide) (hts _ jm_8_20) (fun _ h9 => h9) (by decide) rfl d_MO_hang_3 ?_
        refine lv_ishl hx hb d_MO_hang_6 ?_
        refine lv_iconst (v := 1) hx hb d_MO_hang_7 (by decide) ?_
        refine lv_isub hx hb d_MO_hang_8 ?_
        obtain ⟨μ2, e_μ2, h⟩ := of_b h
        obtain rfl := Option.some.inj e_μ2
        refine g_puti (v := (1 <<< ((mI μ r0 5) &&& 31)) - 1) (C := "JoinedLeavesModel") (T := T_MO) (N := 21) (ref := "JoinedLeavesModel") hx hb hts jF_MO t_MO o_MO n_MO hown hK hM g1 (by decide) rfl 10 (by decide) (hts _ jm_8_25) (fun _ h9 => h9) rfl (ty := .int) (by decide +kernel) rfl rfl (by decide) (Or.inl rfl) d_MO_hang_9 (fun H locs hM => ?_)
        refine lv_iconst (v := 0) hx hb d_MO_hang_12 (by decide) ?_
        refine lv_istore_n hx hb d_MO_hang_13 rfl hl (by decide) rfl (fun ls hl => ?_)
        have hl : lv_has ls 4 [(1, .int 0), (0, .ref (b + r0))] := hl
        refine lv_iconst (v := 1) hx hb d_MO_hang_14 (by decide) ?_
        refine lv_istore_n hx hb d_MO_hang_15 rfl hl (by decide) rfl (fun ls hl => ?_)
        have hl : lv_has ls 4 [(2, .int 1), (1, .int 0), (0, .ref (b + r0))] := hl
        refine lv_iconst (v := 0) hx hb d_MO_hang_16 (by decide) ?_
        refine lv_istore_n hx hb d_MO_hang_17 rfl hl (by decide) rfl (fun ls hl => ?_)
        have hl : lv_has ls 4 [(3, .int 0), (2, .int 1), (1, .int 0), (0, .ref (b + r0))] := hl
        exact ih1 _ _ _ _ _ _ _ _ _ h hM (lv_sub hl [3, 2, 1, 0] rfl)
      · intro r0 i1 i2 i3 x0 μ H locs ls h hM hl
        have h : B_MO_hang_1 n (F_MO_hang n) r0 i1 i2 i3 x0 μ = some res := h
        unfold B_MO_hang_1 at h
        refine lv_iload_n hx hb d_MO_hang_18 rfl (lv_at hl 3 rfl) ?_
        refine lv_bipush (v := 6) hx hb d_MO_hang_19 (by decide) ?_
        refine lv_icmp_ge (tgt := 44) hx hb d_MO_hang_21 (by decide) (fun hc => ?_) (fun hc => ?_)
        · replace h := of_t hc h
          exact ih2 _ _ _ _ _ _ _ _ _ h hM (lv_sub hl [0, 1, 2] rfl)
        · replace h := of_f hc h
          refine lv_aload_n hx hb d_MO_hang_24 rfl (lv_at hl 0 rfl) ?_
          obtain ⟨g3, h⟩ := of_g h
          obtain ⟨g4, h⟩ := of_g h
          refine g_get (C := "JoinedLeavesModel") (T := T_MO) (N := 21) (ref := "JoinedLeavesModel") (v := .ref (b + (mR μ r0 11))) hx hb hts jF_MO hown hK hM g3 (by decide) rfl 11 (by decide) (hts _ jm_8_26) (fun _ h9 => h9) (by decide) (rv_of (ok_0 g4)) d_MO_hang_25 ?_
          refine lv_iload_n hx hb d_MO_hang_28 rfl (lv_at hl 3 rfl) ?_
          refine lv_iconst (v := (-1)) hx hb d_MO_hang_29 (by decide) ?_
          obtain ⟨g5, h⟩ := of_g h
          obtain ⟨μ6, e_μ6, h⟩ := of_b h
          obtain rfl := Option.some.inj e_μ6
          refine g_iast (v := (-1)) hx hb hK hM g4 g5 d_MO_hang_30 (fun H locs hM => ?_)
          refine lv_aload_n hx hb d_MO_hang_31 rfl (lv_at hl 0 rfl) ?_
          obtain ⟨g7, h⟩ := of_g h
          refine g_get (C := "JoinedLeavesModel") (T := T_MO) (N := 21) (ref := "JoinedLeavesModel") (v := .ref (b + (mR (sI μ (mR μ r0 11) (Int32.toNatClampNeg i3) (-1)) r0 12))) hx hb hts jF_MO hown hK hM g3 (by decide) rfl 12 (by decide) (hts _ jm_8_27) (fun _ h9 => h9) (by decide) (rv_of (ok_0 g7)) d_MO_hang_32 ?_
          refine lv_iload_n hx hb d_MO_hang_35 rfl (lv_at hl 3 rfl) ?_
          refine lv_iconst (v := (-1)) hx hb d_MO_hang_36 (by decide) ?_
          obtain ⟨g8, h⟩ := of_g h
          obtain ⟨μ9, e_μ9, h⟩ := of_b h
          obtain rfl := Option.some.inj e_μ9
          refine g_iast (v := (-1)) hx hb hK hM g7 g8 d_MO_hang_37 (fun H locs hM => ?_)
          obtain ⟨v10, e_v10, h⟩ := of_b h
          refine lv_iinc (v := v10) hx hb d_MO_hang_38 hl (k := 3) rfl (by rw [lit1]; exact Option.some.inj e_v10) (by decide) rfl (fun ls hl => ?_)
          have hl : lv_has ls 4 [(3, .int v10), (0, .ref (b + r0)), (1, .int i1), (2, .int i2)] := hl
          refine lv_goto (tgt := 18) hx hb d_MO_hang_41 (by decide) ?_
          exact ih1 _ _ _ _ _ _ _ _ _ h hM (lv_sub hl [1, 2, 3, 0] rfl)
      · intro r0 i1 i2 i3 x0 μ H locs ls h hM hl
        have h : B_MO_hang_2 n (F_MO_hang n) r0 i1 i2 i3 x0 μ = some res := h
        unfold B_MO_hang_2 at h
        refine lv_iload_n hx hb d_MO_hang_44 rfl (lv_at hl 2 rfl) ?_
        refine lv_if_eq (tgt := 138) hx hb d_MO_hang_45 (by decide) (fun hc => ?_) (fun hc => ?_)
        · replace h := of_t hc h
          exact g_vret hx hb hr hlocks hM (Option.some.inj h) d_MO_hang_138
        · replace h := of_f hc h
          refine lv_iconst (v := 0) hx hb d_MO_hang_48 (by decide) ?_
          refine lv_istore_n hx hb d_MO_hang_49 rfl hl (by decide) rfl (fun ls hl => ?_)
          have hl : lv_has ls 4 [(3, .int 0), (0, .ref (b + r0)), (1, .int i1), (2, .int i2)] := hl
          exact ih3 _ _ _ _ _ _ _ _ _ h hM (lv_sub hl [1, 2, 0] rfl)
      · intro r0 i1 i2 i3 x0 μ H locs ls h hM hl
        have h : B_MO_hang_3 n (F_MO_hang n) r0 i1 i2 i3 x0 μ = some res := h
        unfold B_MO_hang_3 at h
        refine lv_iload_n hx hb d_MO_hang_50 rfl (lv_at hl 2 rfl) ?_
        refine lv_aload_n hx hb d_MO_hang_51 rfl (lv_at hl 0 rfl) ?_
        obtain ⟨g11, h⟩ := of_g h
        refine g_get (C := "JoinedLeavesModel") (T := T_MO) (N := 21) (ref := "JoinedLeavesModel") (v := .int (mI μ r0 5)) hx hb hts jF_MO hown hK hM g11 (by decide) rfl 5 (by decide) (hts _ jm_8_20) (fun _ h9 => h9) (by decide) rfl d_MO_hang_52 ?_
        refine lv_icmp_ge (tgt := 81) hx hb d_MO_hang_55 (by decide) (fun hc => ?_) (fun hc => ?_)
        · replace h := of_t hc h
          exact ih5 _ _ _ _ _ _ _ _ _ h hM (lv_sub hl [0, 1, 2] rfl)
        · replace h := of_f hc h
          refine lv_aload_n hx hb d_MO_hang_58 rfl (lv_at hl 0 rfl) ?_
          refine lv_iload_n hx hb d_MO_hang_59 rfl (lv_at hl 2 rfl) ?_
          obtain ⟨q12, hq12, h⟩ := of_b h
          refine g_calli (va_runV (As := [.int i3]) (rest := []) ⟨hx, hb, hml, hown, hts⟩ (S_MO_isLeft l D b cs r0 i3 μ q12 n hq12) ⟨callB_of 1 hts (goodIn_g jm_10_15) rfl rfl rfl (hts _ jm_0_7) (hts _ jm_10_13) (by decide +kernel) ⟨Nat.le_of_ble_eq_true rfl, Nat.le_of_ble_eq_true rfl⟩, (hts _ jm_10_14), (hts _ jm_12_17)⟩ (Wd.preV hK hM g11 rfl (by decide)) rfl rfl hl.1 rfl (lv_room (Nat.le_of_ble_eq_true rfl)) d_MO_hang_60 ⟨Nat.le_of_ble_eq_true rfl, Nat.le_of_ble_eq_true rfl⟩) hM (fun H locs hM => ?_)
          refine lv_if_eq (tgt := 74) hx hb d_MO_hang_63 (by decide) (fun hc => ?_) (fun hc => ?_)
          · replace h := of_t hc h
            exact ih4 _ _ _ _ _ _ _ _ _ h hM (lv_sub hl [0, 1, 2] rfl)
          · replace h := of_f hc h
            refine lv_aload_n hx hb d_MO_hang_66 rfl (lv_at hl 0 rfl) ?_
            refine lv_iload_n hx hb d_MO_hang_67 rfl (lv_at hl 2 rfl) ?_
            obtain ⟨g13, h⟩ := of_g h
            obtain ⟨q14, hq14, h⟩ := of_b h
            refine g_calli (va_runV (As := [.int i3]) (rest := []) ⟨hx, hb, hml, hown, hts⟩ (S_MO_holder l D b cs r0 i3 q12.2 q14 n hq14) ⟨callB_of 1 hts (goodIn_g jm_10_18) rfl rfl rfl (hts _ jm_0_7) (hts _ jm_10_16) (by decide +kernel) ⟨Nat.le_of_ble_eq_true rfl, Nat.le_of_ble_eq_true rfl⟩, (hts _ jm_10_17), (hts _ jm_12_18)⟩ (Wd.preV hK hM g13 rfl (by decide)) rfl rfl hl.1 rfl (lv_room (Nat.le_of_ble_eq_true rfl)) d_MO_hang_68 ⟨Nat.le_of_ble_eq_true rfl, Nat.le_of_ble_eq_true rfl⟩) hM (fun H locs hM => ?_)
            refine lv_if_ge (tgt := 81) hx hb d_MO_hang_71 (by decide) (fun hc => ?_) (fun hc => ?_)
            · replace h := of_t hc h
              exact ih5 _ _ _ _ _ _ _ _ _ h hM (lv_sub hl [0, 1, 2] rfl)
            · replace h := of_f hc h
              exact ih4 _ _ _ _ _ _ _ _ _ h hM (lv_sub hl [0, 1, 2] rfl)
      · intro r0 i1 i2 i3 x0 μ H locs ls h hM hl
        have h : B_MO_hang_4 n (F_MO_hang n) r0 i1 i2 i3 x0 μ = some res := h
        unfold B_MO_hang_4 at h
        refine lv_iload_n hx hb d_MO_hang_74 rfl (lv_at hl 2 rfl) ?_
        refine lv_iconst (v := 1) hx hb d_MO_hang_75 (by decide) ?_
        refine lv_iadd hx hb d_MO_hang_76 ?_
        obtain ⟨v15, e_v15, h⟩ := of_b h
        refine top_i (Option.some.inj e_v15) ?_
        refine lv_istore_n hx hb d_MO_hang_77 rfl hl (by decide) rfl (fun ls hl => ?_)
        have hl : lv_has ls 4 [(3, .int v15), (0, .ref (b + r0)), (1, .int i1)] := hl
        refine lv_goto (tgt := 50) hx hb d_MO_hang_78 (by decide) ?_
        exact ih3 _ _ _ _ _ _ _ _ _ h hM (lv_sub hl [1, 2, 0] rfl)
      · intro r0 i1 i2 i3 x0 μ H locs ls h hM hl
        have h : B_MO_hang_5 n (F_MO_hang n) r0 i1 i2 i3 x0 μ = some res := h
        unfold B_MO_hang_5 at h
        refine lv_iload_n hx hb d_MO_hang_81 rfl (lv_at hl 2 rfl) ?_
        refine lv_aload_n hx hb d_MO_hang_82 rfl (lv_at hl 0 rfl) ?_
        obtain ⟨g16, h⟩ := of_g h
        refine g_get (C := "JoinedLeavesModel") (T := T_MO) (N := 21) (ref := "JoinedLeavesModel") (v := .int (mI μ r0 5)) hx hb hts jF_MO hown hK hM g16 (by decide) rfl 5 (by decide) (hts _ jm_8_20) (fun _ h9 => h9) (by decide) rfl d_MO_hang_83 ?_
        refine lv_icmp_ge (tgt := 93) hx hb d_MO_hang_86 (by decide) (fun hc => ?_) (fun hc => ?_)
        · replace h := of_t hc h
          refine lv_iconst (v := 0) hx hb d_MO_hang_93 (by decide) ?_
          exact ih6 _ _ _ _ _ _ _ _ _ h hM (lv_sub hl [0, 1, 2] rfl)
        · replace h := of_f hc h
          refine lv_iconst (v := 1) hx hb d_MO_hang_89 (by decide) ?_
          refine lv_goto (tgt := 94) hx hb d_MO_hang_90 (by decide) ?_
          exact ih6 _ _ _ _ _ _ _ _ _ h hM (lv_sub hl [0, 1, 2] rfl)
      · intro r0 i1 i2 i3 x0 μ H locs ls h hM hl
        have h : B_MO_hang_6 n (F_MO_hang n) r0 i1 i2 i3 x0 μ = some res := h
        unfold B_MO_hang_6 at h
        refine lv_istore_n hx hb d_MO_hang_94 rfl hl (by decide) rfl (fun ls hl => ?_)
        have hl : lv_has ls 4 [(2, .int x0), (0, .ref (b + r0)), (1, .int i1), (3, .int i3)] := hl
        refine lv_iload_n hx hb d_MO_hang_95 rfl (lv_at hl 0 rfl) ?_
        refine lv_if_eq (tgt := 135) hx hb d_MO_hang_96 (by decide) (fun hc => ?_) (fun hc => ?_)
        · replace h := of_t hc h
          exact ih7 _ _ _ _ _ _ _ _ _ h hM (lv_sub hl [1, 2, 0] rfl)
        · replace h := of_f hc h
          refine lv_aload_n hx hb d_MO_hang_99 rfl (lv_at hl 1 rfl) ?_
          obtain ⟨g17, h⟩ := of_g h
          obtain ⟨g18, h⟩ := of_g h
          refine g_get (C := "JoinedLeavesModel") (T := T_MO) (N := 21) (ref := "JoinedLeavesModel") (v := .ref (b + (mR μ r0 11))) hx hb hts jF_MO hown hK hM g17 (by decide) rfl 11 (by decide) (hts _ jm_8_26) (fun _ h9 => h9) (by decide) (rv_of (ok_0 g18)) d_MO_hang_100 ?_
          refine lv_iload_n hx hb d_MO_hang_103 rfl (lv_at hl 3 rfl) ?_
          refine lv_aload_n hx hb d_MO_hang_104 rfl (lv_at hl 1 rfl) ?_
          refine lv_iload_n hx hb d_MO_hang_105 rfl (lv_at hl 3 rfl) ?_
          obtain ⟨q19, hq19, h⟩ := of_b h
          refine g_calli (va_runV (As := [.int i3]) (rest := [.int i3, .ref (b + (mR μ r0 11))]) ⟨hx, hb, hml, hown, hts⟩ (S_MO_holder l D b cs r0 i3 μ q19 n hq19) ⟨callB_of 1 hts (goodIn_g jm_10_18) rfl rfl rfl (hts _ jm_0_7) (hts _ jm_10_16) (by decide +kernel) ⟨Nat.le_of_ble_eq_true rfl, Nat.le_of_ble_eq_true rfl⟩, (hts _ jm_10_17), (hts _ jm_12_18)⟩ (Wd.preV hK hM g17 rfl (by decide)) rfl rfl hl.1 rfl (lv_room (Nat.le_of_ble_eq_true rfl)) d_MO_hang_106 ⟨Nat.le_of_ble_eq_true rfl, Nat.le_of_ble_eq_true rfl⟩) hM (fun H locs hM => ?_)
          obtain ⟨g20, h⟩ := of_g h
          obtain ⟨g21, h⟩ := of_g h
          obtain ⟨μ22, e_μ22, h⟩ := of_b h
          obtain rfl := Option.some.inj e_μ22
          refine g_iast (v := q19.1) hx hb hK hM g20 g21 d_MO_hang_109 (fun H locs hM => ?_)
          refine lv_aload_n hx hb d_MO_hang_110 rfl (lv_at hl 1 rfl) ?_
          obtain ⟨g23, h⟩ := of_g h
          obtain ⟨g24, h⟩ := of_g h
          refine g_get (C := "JoinedLeavesModel") (T := T_MO) (N := 21) (ref := "JoinedLeavesModel") (v := .ref (b + (mR (sI q19.2 (mR μ r0 11) (Int32.toNatClampNeg i3) q19.1) r0 12))) hx hb hts jF_MO hown hK hM g23 (by decide) rfl 12 (by decide) (hts _ jm_8_27) (fun _ h9 => h9) (by decide) (rv_of (ok_0 g24)) d_MO_hang_111 ?_
          refine lv_iload_n hx hb d_MO_hang_114 rfl (lv_at hl 3 rfl) ?_
          refine lv_iload_n hx hb d_MO_hang_115 rfl (lv_at hl 2 rfl) ?_
          obtain ⟨g25, h⟩ := of_g h
          obtain ⟨μ26, e_μ26, h⟩ := of_b h
          obtain rfl := Option.some.inj e_μ26
          refine g_iast (v := i1) hx hb hK hM g24 g25 d_MO_hang_116 (fun H locs hM => ?_)
          refine lv_iload_n hx hb d_MO_hang_117 rfl (lv_at hl 2 rfl) ?_
          refine lv_iconst (v := 1) hx hb d_MO_hang_118 (by decide) ?_
          refine lv_iadd hx hb d_MO_hang_119 ?_
          obtain ⟨v27, e_v27, h⟩ := of_b h
          refine top_i (Option.some.inj e_v27) ?_
          refine lv_istore_n hx hb d_MO_hang_120 rfl hl (by decide) rfl (fun ls hl => ?_)
          have hl : lv_has ls 4 [(1, .int v27), (2, .int x0), (0, .ref (b + r0)), (3, .int i3)] := hl
          refine lv_aload_n hx hb d_MO_hang_121 rfl (lv_at hl 2 rfl) ?_
          refine lv_aload_n hx hb d_MO_hang_122 rfl (lv_at hl 2 rfl) ?_
          refine g_get (C := "JoinedLeavesModel") (T := T_MO) (N := 21) (ref := "JoinedLeavesModel") (v := .int (mI (sI (sI q19.2 (mR μ r0 11) (Int32.toNatClampNeg i3) q19.1) (mR (sI q19.2 (mR μ r0 11) (Int32.toNatClampNeg i3) q19.1) r0 12) (Int32.toNatClampNeg i3) i1) r0 10)) hx hb hts jF_MO hown hK hM g23 (by decide) rfl 10 (by decide) (hts _ jm_8_25) (fun _ h9 => h9) (by decide) rfl d_MO_hang_123 ?_
          refine lv_iconst (v := 1) hx hb d_MO_hang_126 (by decide) ?_
          refine lv_iload_n hx hb d_MO_hang_127 rfl (lv_at hl 3 rfl) ?_
          refine lv_ishl hx hb d_MO_hang_128 ?_
          refine lv_iconst (v := (-1)) hx hb d_MO_hang_129 (by decide) ?_
          refine lv_ixor hx hb d_MO_hang_130 ?_
          refine lv_iand hx hb d_MO_hang_131 ?_
          obtain ⟨μ28, e_μ28, h⟩ := of_b h
          obtain rfl := Option.some.inj e_μ28
          refine g_puti (v := (mI (sI (sI q19.2 (mR μ r0 11) (Int32.toNatClampNeg i3) q19.1) (mR (sI q19.2 (mR μ r0 11) (Int32.toNatClampNeg i3) q19.1) r0 12) (Int32.toNatClampNeg i3) i1) r0 10) &&& ((1 <<< (i3 &&& 31)) ^^^ (-1))) (C := "JoinedLeavesModel") (T := T_MO) (N := 21) (ref := "JoinedLeavesModel") hx hb hts jF_MO t_MO o_MO n_MO hown hK hM g23 (by decide) rfl 10 (by decide) (hts _ jm_8_25) (fun _ h9 => h9) rfl (ty := .int) (by decide +kernel) rfl rfl (by decide) (Or.inl rfl) d_MO_hang_132 (fun H locs hM => ?_)
          exact ih7 _ _ _ _ _ _ _ _ _ h hM (lv_sub hl [2, 0, 1] rfl)
      · intro r0 i1 i2 i3 x0 μ H locs ls h hM hl
        have h : B_MO_hang_7 n (F_MO_hang n) r0 i1 i2 i3 x0 μ = some res := h
        unfold B_MO_hang_7 at h
        refine lv_goto (tgt := 44) hx hb d_MO_hang_135 (by decide) ?_
        exact ih2 _ _ _ _ _ _ _ _ _ h hM (lv_sub hl [0, 1, 2] rfl)
  exact (key n).1 _ _ _ _ _ _ _ _ _ h hM hl
abbrev w_MO_isTree : List Cond := .code y_MO_isTree b_MO_isTree 1 (Option.some Jvm.ClassFile.FieldType.boolean) :: jW
def C_MO_isTree (n : Nat) (r0 : Nat) (μ : Mem) : Option (Int32 × Mem) :=
  if ok μ r0 6 = true then Option.bind (C_MO_hang n r0 μ) (fun q2 => if ok q2 r0 6 = true then if ((mI q2 r0 10) &&& ((mI q2 r0 10) - 1)) = 0 then some (1, q2) else some (0, q2) else none) else none
set_option maxHeartbeats 4000000 in
set_option maxRecDepth 100000 in
theorem S_MO_isTree (l : Launch) (D : va_G) (b : Nat) (cs : Nat → ClassId) (r0 : Nat) (μ : Mem) (res : Int32 × Mem) (n : Nat) (h : C_MO_isTree n r0 μ = some res) : MetI l y_MO_isTree w_MO_isTree 3 70 b cs D μ [.ref (b + r0)] res := by
  refine Met.ofW (cc := b_MO_isTree) (maxL := 1) (ret := (Option.some Jvm.ClassFile.FieldType.boolean)) (by decide) rfl ?_
  intro p e s m args below meth c s₁ B hml hv
  obtain ⟨rfl, hK, hM⟩ := Wd.start hv
  have hx := B.exec
  have hb := B.bytes
  have hr := B.returns
  have hts : ∀ w ∈ jW, w.before _ s = true := fun w hw => atoms_spec (ws := w_MO_isTree) B.pre w (List.mem_cons_of_mem _ hw)
  have hown : s.vm.findClass "JoinedLeavesModel" = some m.cls := findClass_of_methodNamed B.named
  have hlocks := B.notSynchronized
  have hl := lv_entry ([.ref (b + r0)]) (n := 1) (Nat.le_of_ble_eq_true rfl)
  rw [lg_entry_eq]
  generalize (lg_sl ([.ref (b + r0)]) ++ List.replicate (1 - (lg_sl ([.ref (b + r0)])).length) Slot.unset).toArray = ls at hl ⊢
  have hl : lv_has ls 1 [(0, .ref (b + r0))] := hl
  unfold C_MO_isTree at h
  refine lv_aload_n hx hb d_MO_isTree_0 rfl (lv_at hl 0 rfl) ?_
  obtain ⟨g1, h⟩ := of_g h
  obtain ⟨q2, hq2, h⟩ := of_b h
  refine g_callv (va_runV (As := []) (rest := []) ⟨hx, hb, hml, hown, hts⟩ (S_MO_hang l D b cs r0 μ q2 n hq2) ⟨callB_of 0 hts (goodIn_g jm_10_12) rfl rfl rfl (hts _ jm_0_7) (hts _ jm_10_10) (by decide +kernel) ⟨Nat.le_of_ble_eq_true rfl, Nat.le_of_ble_eq_true rfl⟩, (hts _ jm_10_11), (hts _ jm_12_16)⟩ (Wd.preV hK hM g1 rfl (by decide)) rfl rfl hl.1 rfl (lv_room (Nat.le_of_ble_eq_true rfl)) d_MO_isTree_1 ⟨Nat.le_of_ble_eq_true rfl, Nat.le_of_ble_eq_true rfl⟩) hM (fun H locs hM => ?_)
  refine lv_aload_n hx hb d_MO_isTree_4 rfl (lv_at hl 0 rfl) ?_
  obtain ⟨g3, h⟩ := of_g h
  refine g_get (C := "JoinedLeavesModel") (T := T_MO) (N := 21) (ref := "JoinedLeavesModel") (v := .int (mI q2 r0 10)) hx hb hts jF_MO hown hK hM g3 (by decide) rfl 10 (by decide) (hts _ jm_8_25) (fun _ h9 => h9) (by decide) rfl d_MO_isTree_5 ?_
  refine lv_aload_n hx hb d_MO_isTree_8 rfl (lv_at hl 0 rfl) ?_
  refine g_get (C := "JoinedLeavesModel") (T := T_MO) (N := 21) (ref := "JoinedLeavesModel") (v := .int (mI q2 r0 10)) hx hb hts jF_MO hown hK hM g3 (by decide) rfl 10 (by decide) (hts _ jm_8_25) (fun _ h9 => h9) (by decide) rfl d_MO_isTree_9 ?_
  refine lv_iconst (v := 1) hx hb d_MO_isTree_12 (by decide) ?_
  refine lv_isub hx hb d_MO_isTree_13 ?_
  refine lv_iand hx hb d_MO_isTree_14 ?_
  refine lv_if_ne (tgt := 22) hx hb d_MO_isTree_15 (by decide) (fun hc => ?_) (fun hc => ?_)
  · replace h := of_f hc h
    refine lv_iconst (v := 0) hx hb d_MO_isTree_22 (by decide) ?_
    exact g_zret hx hb hr narrow_b0 hlocks hM (Option.some.inj h) d_MO_isTree_23
  · replace h := of_t hc h
    refine lv_iconst (v := 1) hx hb d_MO_isTree_18 (by decide) ?_
    refine lv_goto (tgt := 23) hx hb d_MO_isTree_19 (by decide) ?_
    exact g_zret hx hb hr narrow_b1 hlocks hM (Option.some.inj h) d_MO_isTree_23
abbrev w_MO_tree : List Cond := .code y_MO_tree b_MO_tree 1 (Option.some Jvm.ClassFile.FieldType.boolean) :: jW
def C_MO_tree (n : Nat) (r0 : Nat) (μ : Mem) : Option (Int32 × Mem) :=
  if ok μ r0 6 = true then Option.bind (some (sI μ r0 0 0)) (fun μ2 => Option.bind (C_MO_isTree n r0 μ2) (fun q3 => if (q3.1 = 0 ∨ q3.1 = 1) then some (q3.1, q3.2) else none)) else none
set_option maxHeartbeats 4000000 in
set_option maxRecDepth 100000 in
theorem S_MO_tree (l : Launch) (D : va_G) (b : Nat) (cs : Nat → ClassId) (r0 : Nat) (μ : Mem) (res : Int32 × Mem) (n : Nat) (h : C_MO_tree n r0 μ = some res) : MetI l y_MO_tree w_MO_tree 4 90 b cs D μ [.ref (b + r0)] res := by
  refine Met.ofW (cc := b_MO_tree) (maxL := 1) (ret := (Option.some Jvm.ClassFile.FieldType.boolean)) (by decide) rfl ?_
  intro p e s m args below meth c s₁ B hml hv
  obtain ⟨rfl, hK, hM⟩ := Wd.start hv
  have hx := B.exec
  have hb := B.bytes
  have hr := B.returns
  have hts : ∀ w ∈ jW, w.before _ s = true := fun w hw => atoms_spec (ws := w_MO_tree) B.pre w (List.mem_cons_of_mem _ hw)
  have hown : s.vm.findClass "JoinedLeavesModel" = some m.cls := findClass_of_methodNamed B.named
  have hlocks := B.notSynchronized
  have hl := lv_entry ([.ref (b + r0)]) (n := 1) (Nat.le_of_ble_eq_true rfl)
  rw [lg_entry_eq]
  generalize (lg_sl ([.ref (b + r0)]) ++ List.replicate (1 - (lg_sl ([.ref (b + r0)])).length) Slot.unset).toArray = ls at hl ⊢
  have hl : lv_has ls 1 [(0, .ref (b + r0))] := hl
  unfold C_MO_tree at h
  refine lv_aload_n hx hb d_MO_tree_0 rfl (lv_at hl 0 rfl) ?_
  refine lv_iconst (v := 0) hx hb d_MO_tree_1 (by decide) ?_
  obtain ⟨g1, h⟩ := of_g h
  obtain ⟨μ2, e_μ2, h⟩ := of_b h
  obtain rfl := Option.some.inj e_μ2
  refine g_puti (v := 0) (C := "JoinedLeavesModel") (T := T_MO) (N := 21) (ref := "JoinedLeavesModel") hx hb hts jF_MO t_MO o_MO n_MO hown hK hM g1 (by decide) rfl 0 (by decide) (hts _ jm_8_15) (fun _ h9 => h9) rfl (ty := .int) (by decide +kernel) rfl rfl (by decide) (Or.inl rfl) d_MO_tree_2 (fun H locs hM => ?_)
  refine lv_aload_n hx hb d_MO_tree_5 rfl (lv_at hl 0 rfl) ?_
  obtain ⟨q3, hq3, h⟩ := of_b h
  refine g_calli (va_runV (As := []) (rest := []) ⟨hx, hb, hml, hown, hts⟩ (S_MO_isTree l D b cs r0 (sI μ r0 0 0) q3 n hq3) ⟨callB_of 0 hts (goodIn_g jm_10_9) rfl rfl rfl (hts _ jm_0_7) (hts _ jm_10_7) (by decide +kernel) ⟨Nat.le_of_ble_eq_true rfl, Nat.le_of_ble_eq_true rfl⟩, (hts _ jm_10_8), (hts _ jm_12_15)⟩ (Wd.preV hK hM g1 rfl (by decide)) rfl rfl hl.1 rfl (lv_room (Nat.le_of_ble_eq_true rfl)) d_MO_tree_6 ⟨Nat.le_of_ble_eq_true rfl, Nat.le_of_ble_eq_true rfl⟩) hM (fun H locs hM => ?_)
  obtain ⟨hz, h⟩ := of_g h
  exact g_zret hx hb hr (nb_01 hz) hlocks hM (Option.some.inj h) d_MO_tree_9
abbrev w_MO_parent : List Cond := .code y_MO_parent b_MO_parent 2 (Option.some Jvm.ClassFile.FieldType.int) :: jW
def C_MO_parent (n : Nat) (r0 : Nat) (i1 : Int32) (μ : Mem) : Option (Int32 × Mem) :=
  if ok μ r0 6 = true then Option.bind (some (sI μ r0 0 0)) (fun μ2 => Option.bind (C_MO_hang n r0 μ2) (fun q3 => if ok q3 r0 6 = true then Option.bind (C_MO_isAtom n r0 i1 q3) (fun q5 => if q5.1 = 0 then some ((-1), q5.2) else if ok q5.2 r0 6 = true then if ok q5.2 (mR q5.2 r0 11) 100 = true then if ib i1 (mZ q5.2 (mR q5.2 r0 11)) = true then some (mI q5.2 (mR q5.2 r0 11) (Int32.toNatClampNeg i1), q5.2) else none else none else none) else none)) else none
set_option maxHeartbeats 4000000 in
set_option maxRecDepth 100000 in
theorem S_MO_parent (l : Launch) (D : va_G) (b : Nat) (cs : Nat → ClassId) (r0 : Nat) (i1 : Int32) (μ : Mem) (res : Int32 × Mem) (n : Nat) (h : C_MO_parent n r0 i1 μ = some res) : MetI l y_MO_parent w_MO_parent 3 70 b cs D μ [.ref (b + r0), .int i1] res := by
  refine Met.ofW (cc := b_MO_parent) (maxL := 2) (ret := (Option.some Jvm.ClassFile.FieldType.int)) (by decide) rfl ?_
  intro p e s m args below meth c s₁ B hml hv
  obtain ⟨rfl, hK, hM⟩ := Wd.start hv
  have hx := B.exec
  have hb := B.bytes
  have hr := B.returns
  have hts : ∀ w ∈ jW, w.before _ s = true := fun w hw => atoms_spec (ws := w_MO_parent) B.pre w (List.mem_cons_of_mem _ hw)
  have hown : s.vm.findClass "JoinedLeavesModel" = some m.cls := findClass_of_methodNamed B.named
  have hlocks := B.notSynchronized
  have hl := lv_entry ([.ref (b + r0), .int i1]) (n := 2) (Nat.le_of_ble_eq_true rfl)
  rw [lg_entry_eq]
  generalize (lg_sl ([.ref (b + r0), .int i1]) ++ List.replicate (2 - (lg_sl ([.ref (b + r0), .int i1])).length) Slot.unset).toArray = ls at hl ⊢
  have hl : lv_has ls 2 [(0, .ref (b + r0)), (1, .int i1)] := hl
  unfold C_MO_parent at h
  refine lv_aload_n hx hb d_MO_parent_0 rfl (lv_at hl 0 rfl) ?_
  refine lv_iconst (v := 0) hx hb d_MO_parent_1 (by decide) ?_
  obtain ⟨g1, h⟩ := of_g h
  obtain ⟨μ2, e_μ2, h⟩ := of_b h
  obtain rfl := Option.some.inj e_μ2
  refine g_puti (v := 0) (C := "JoinedLeavesModel") (T := T_MO) (N := 21) (ref := "JoinedLeavesModel") hx hb hts jF_MO t_MO o_MO n_MO hown hK hM g1 (by decide) rfl 0 (by decide) (hts _ jm_8_15) (fun _ h9 => h9) rfl (ty := .int) (by decide +kernel) rfl rfl (by decide) (Or.inl rfl) d_MO_parent_2 (fun H locs hM => ?_)
  refine lv_aload_n hx hb d_MO_parent_5 rfl (lv_at hl 0 rfl) ?_
  obtain ⟨q3, hq3, h⟩ := of_b h
  refine g_callv (va_runV (As := []) (rest := []) ⟨hx, hb, hml, hown, hts⟩ (S_MO_hang l D b cs r0 (sI μ r0 0 0) q3 n hq3) ⟨callB_of 0 hts (goodIn_g jm_10_12) rfl rfl rfl (hts _ jm_0_7) (hts _ jm_10_10) (by decide +kernel) ⟨Nat.le_of_ble_eq_true rfl, Nat.le_of_ble_eq_true rfl⟩, (hts _ jm_10_11), (hts _ jm_12_16)⟩ (Wd.preV hK hM g1 rfl (by decide)) rfl rfl hl.1 rfl (lv_room (Nat.le_of_ble_eq_true rfl)) d_MO_parent_6 ⟨Nat.le_of_ble_eq_true rfl, Nat.le_of_ble_eq_true rfl⟩) hM (fun H locs hM => ?_)
  refine lv_aload_n hx hb d_MO_parent_9 rfl (lv_at hl 0 rfl) ?_
  refine lv_iload_n hx hb d_MO_parent_10 rfl (lv_at hl 1 rfl) ?_
  obtain ⟨g4, h⟩ := of_g h
  obtain ⟨q5, hq5, h⟩ := of_b h
  refine g_calli (va_runV (As := [.int i1]) (rest := []) ⟨hx, hb, hml, hown, hts⟩ (S_MO_isAtom l D b cs r0 i1 q3 q5 n hq5) ⟨callB_of 1 hts (goodIn_g jm_10_28) rfl rfl rfl (hts _ jm_0_7) (hts _ jm_10_26) (by decide +kernel) ⟨Nat.le_of_ble_eq_true rfl, Nat.le_of_ble_eq_true rfl⟩, (hts _ jm_10_27), (hts _ jm_12_20)⟩ (Wd.preV hK hM g4 rfl (by decide)) rfl rfl hl.1 rfl (lv_room (Nat.le_of_ble_eq_true rfl)) d_MO_parent_11 ⟨Nat.le_of_ble_eq_true rfl, Nat.le_of_ble_eq_true rfl⟩) hM (fun H locs hM => ?_)
  refine lv_if_eq (tgt := 26) hx hb d_MO_parent_14 (by decide) (fun hc => ?_) (fun hc => ?_)
  · replace h := of_t hc h
    refine lv_iconst (v := (-1)) hx hb d_MO_parent_26 (by decide) ?_
    exact g_iret hx hb hr hlocks hM (Option.some.inj h) d_MO_parent_27
  · replace h := of_f hc h
    refine lv_aload_n hx hb d_MO_parent_17 rfl (lv_at hl 0 rfl) ?_
    obtain ⟨g6, h⟩ := of_g h
    obtain ⟨g7, h⟩ := of_g h
    refine g_get (C := "JoinedLeavesModel") (T := T_MO) (N := 21) (ref := "JoinedLeavesModel") (v := .ref (b + (mR q5.2 r0 11))) hx hb hts jF_MO hown hK hM g6 (by decide) rfl 11 (by decide) (hts _ jm_8_26) (fun _ h9 => h9) (by decide) (rv_of (ok_0 g7)) d_MO_parent_18 ?_
    refine lv_iload_n hx hb d_MO_parent_21 rfl (lv_at hl 1 rfl) ?_
    obtain ⟨g8, h⟩ := of_g h
    refine g_iald hx hb hK hM g7 g8 d_MO_parent_22 ?_
    refine lv_goto (tgt := 27) hx hb d_MO_parent_23 (by decide) ?_
    exact g_iret hx hb hr hlocks hM (Option.some.inj h) d_MO_parent_27
abbrev w_MO_turn : List Cond := .code y_MO_turn b_MO_turn 2 (Option.some Jvm.ClassFile.FieldType.int) :: jW
def C_MO_turn (n : Nat) (r0 : Nat) (i1 : Int32) (μ : Mem) : Option (Int32 × Mem) :=
  if ok μ r0 6 = true then Option.bind (some (sI μ r0 0 0)) (fun μ2 => Option.bind (C_MO_hang n r0 μ2) (fun q3 => if ok q3 r0 6 = true then Option.bind (C_MO_isAtom n r0 i1 q3) (fun q5 => if q5.1 = 0 then some ((-1), q5.2) else if ok q5.2 r0 6 = true then if ok q5.2 (mR q5.2 r0 12) 100 = true then if ib i1 (mZ q5.2 (mR q5.2 r0 12)) = true then some (mI q5.2 (mR q5.2 r0 12) (Int32.toNatClampNeg i1), q5.2) else none else none else none) else none)) else none
set_option maxHeartbeats 4000000 in
set_option maxRecDepth 100000 in
theorem S_MO_turn (l : Launch) (D : va_G) (b : Nat) (cs : Nat → ClassId) (r0 : Nat) (i1 : Int32) (μ : Mem) (res : Int32 × Mem) (n : Nat) (h : C_MO_turn n r0 i1 μ = some res) : MetI l y_MO_turn w_MO_turn 3 70 b cs D μ [.ref (b + r0), .int i1] res := by
  refine Met.ofW (cc := b_MO_turn) (maxL := 2) (ret := (Option.some Jvm.ClassFile.FieldType.int)) (by decide) rfl ?_
  intro p e s m args below meth c s₁ B hml hv
  obtain ⟨rfl, hK, hM⟩ := Wd.start hv
  have hx := B.exec
  have hb := B.bytes
  have hr := B.returns
  have hts : ∀ w ∈ jW, w.before _ s = true := fun w hw => atoms_spec (ws := w_MO_turn) B.pre w (List.mem_cons_of_mem _ hw)
  have hown : s.vm.findClass "JoinedLeavesModel" = some m.cls := findClass_of_methodNamed B.named
  have hlocks := B.notSynchronized
  have hl := lv_entry ([.ref (b + r0), .int i1]) (n := 2) (Nat.le_of_ble_eq_true rfl)
  rw [lg_entry_eq]
  generalize (lg_sl ([.ref (b + r0), .int i1]) ++ List.replicate (2 - (lg_sl ([.ref (b + r0), .int i1])).length) Slot.unset).toArray = ls at hl ⊢
  have hl : lv_has ls 2 [(0, .ref (b + r0)), (1, .int i1)] := hl
  unfold C_MO_turn at h
  refine lv_aload_n hx hb d_MO_turn_0 rfl (lv_at hl 0 rfl) ?_
  refine lv_iconst (v := 0) hx hb d_MO_turn_1 (by decide) ?_
  obtain ⟨g1, h⟩ := of_g h
  obtain ⟨μ2, e_μ2, h⟩ := of_b h
  obtain rfl := Option.some.inj e_μ2
  refine g_puti (v := 0) (C := "JoinedLeavesModel") (T := T_MO) (N := 21) (ref := "JoinedLeavesModel") hx hb hts jF_MO t_MO o_MO n_MO hown hK hM g1 (by decide) rfl 0 (by decide) (hts _ jm_8_15) (fun _ h9 => h9) rfl (ty := .int) (by decide +kernel) rfl rfl (by decide) (Or.inl rfl) d_MO_turn_2 (fun H locs hM => ?_)
  refine lv_aload_n hx hb d_MO_turn_5 rfl (lv_at hl 0 rfl) ?_
  obtain ⟨q3, hq3, h⟩ := of_b h
  refine g_callv (va_runV (As := []) (rest := []) ⟨hx, hb, hml, hown, hts⟩ (S_MO_hang l D b cs r0 (sI μ r0 0 0) q3 n hq3) ⟨callB_of 0 hts (goodIn_g jm_10_12) rfl rfl rfl (hts _ jm_0_7) (hts _ jm_10_10) (by decide +kernel) ⟨Nat.le_of_ble_eq_true rfl, Nat.le_of_ble_eq_true rfl⟩, (hts _ jm_10_11), (hts _ jm_12_16)⟩ (Wd.preV hK hM g1 rfl (by decide)) rfl rfl hl.1 rfl (lv_room (Nat.le_of_ble_eq_true rfl)) d_MO_turn_6 ⟨Nat.le_of_ble_eq_true rfl, Nat.le_of_ble_eq_true rfl⟩) hM (fun H locs hM => ?_)
  refine lv_aload_n hx hb d_MO_turn_9 rfl (lv_at hl 0 rfl) ?_
  refine lv_iload_n hx hb d_MO_turn_10 rfl (lv_at hl 1 rfl) ?_
  obtain ⟨g4, h⟩ := of_g h
  obtain ⟨q5, hq5, h⟩ := of_b h
  refine g_calli (va_runV (As := [.int i1]) (rest := []) ⟨hx, hb, hml, hown, hts⟩ (S_MO_isAtom l D b cs r0 i1 q3 q5 n hq5) ⟨callB_of 1 hts (goodIn_g jm_10_28) rfl rfl rfl (hts _ jm_0_7) (hts _ jm_10_26) (by decide +kernel) ⟨Nat.le_of_ble_eq_true rfl, Nat.le_of_ble_eq_true rfl⟩, (hts _ jm_10_27), (hts _ jm_12_20)⟩ (Wd.preV hK hM g4 rfl (by decide)) rfl rfl hl.1 rfl (lv_room (Nat.le_of_ble_eq_true rfl)) d_MO_turn_11 ⟨Nat.le_of_ble_eq_true rfl, Nat.le_of_ble_eq_true rfl⟩) hM (fun H locs hM => ?_)
  refine lv_if_eq (tgt := 26) hx hb d_MO_turn_14 (by decide) (fun hc => ?_) (fun hc => ?_)
  · replace h := of_t hc h
    refine lv_iconst (v := (-1)) hx hb d_MO_turn_26 (by decide) ?_
    exact g_iret hx hb hr hlocks hM (Option.some.inj h) d_MO_turn_27
  · replace h := of_f hc h
    refine lv_aload_n hx hb d_MO_turn_17 rfl (lv_at hl 0 rfl) ?_
    obtain ⟨g6, h⟩ := of_g h
    obtain ⟨g7, h⟩ := of_g h
    refine g_get (C := "JoinedLeavesModel") (T := T_MO) (N := 21) (ref := "JoinedLeavesModel") (v := .ref (b + (mR q5.2 r0 12))) hx hb hts jF_MO hown hK hM g6 (by decide) rfl 12 (by decide) (hts _ jm_8_27) (fun _ h9 => h9) (by decide) (rv_of (ok_0 g7)) d_MO_turn_18 ?_
    refine lv_iload_n hx hb d_MO_turn_21 rfl (lv_at hl 1 rfl) ?_
    obtain ⟨g8, h⟩ := of_g h
    refine g_iald hx hb hK hM g7 g8 d_MO_turn_22 ?_
    refine lv_goto (tgt := 27) hx hb d_MO_turn_23 (by decide) ?_
    exact g_iret hx hb hr hlocks hM (Option.some.inj h) d_MO_turn_27
