/-! By program (wip/whole/gen.py): for each method its function over memories, and its contract. -/
abbrev w_QU_init : List Cond := .code y_QU_init b_QU_init 3 (Option.none : Option Jvm.ClassFile.FieldType) :: jW
def C_QU_init (n : Nat) (r0 : Nat) (r1 : Nat) (μ : Mem) : Option Mem :=
  Option.bind (some (al μ 103 6)) (fun μ1 => if ok μ1 r0 2 = true then if ok μ1 (mN μ + 1) 103 = true then Option.bind (some (sR μ1 r0 0 (mN μ + 1))) (fun μ5 => Option.bind (some (al μ5 100 4)) (fun μ7 => if ok μ7 r0 2 = true then if ok μ7 (mN μ5 + 1) 100 = true then Option.bind (some (sR μ7 r0 2 (mN μ5 + 1))) (fun μ11 => if ok μ11 r0 2 = true then if ok μ11 (mR μ11 r0 0) 103 = true then Option.bind (some (al μ11 1 0)) (fun μ15 => Option.bind (C_AT_init n (mN μ11 + 1) r1 μ15) (fun q17 => if mN q17 = mN μ15 + 1 then if ok q17 (mR μ11 r0 0) 103 = true then if ok q17 (mN μ11 + 1) 1 = true then if ib 0 (mZ q17 (mR μ11 r0 0)) = true then Option.bind (some (sR q17 (mR μ11 r0 0) (Int32.toNatClampNeg 0) (mN μ11 + 1))) (fun μ23 => if ok μ23 r0 2 = true then if ok μ23 (mR μ23 r0 0) 103 = true then Option.bind (some (al μ23 1 0)) (fun μ27 => Option.bind (C_AT_init n (mN μ23 + 1) r1 μ27) (fun q29 => if mN q29 = mN μ27 + 1 then if ok q29 (mR μ23 r0 0) 103 = true then if ok q29 (mN μ23 + 1) 1 = true then if ib 1 (mZ q29 (mR μ23 r0 0)) = true then Option.bind (some (sR q29 (mR μ23 r0 0) (Int32.toNatClampNeg 1) (mN μ23 + 1))) (fun μ35 => if ok μ35 r0 2 = true then if ok μ35 (mR μ35 r0 0) 103 = true then Option.bind (some (al μ35 1 0)) (fun μ39 => Option.bind (C_AT_init n (mN μ35 + 1) r1 μ39) (fun q41 => if mN q41 = mN μ39 + 1 then if ok q41 (mR μ35 r0 0) 103 = true then if ok q41 (mN μ35 + 1) 1 = true then if ib 2 (mZ q41 (mR μ35 r0 0)) = true then Option.bind (some (sR q41 (mR μ35 r0 0) (Int32.toNatClampNeg 2) (mN μ35 + 1))) (fun μ47 => if ok μ47 r0 2 = true then if ok μ47 (mR μ47 r0 0) 103 = true then Option.bind (some (al μ47 1 0)) (fun μ51 => Option.bind (C_AT_init n (mN μ47 + 1) r1 μ51) (fun q53 => if mN q53 = mN μ51 + 1 then if ok q53 (mR μ47 r0 0) 103 = true then if ok q53 (mN μ47 + 1) 1 = true then if ib 3 (mZ q53 (mR μ47 r0 0)) = true then Option.bind (some (sR q53 (mR μ47 r0 0) (Int32.toNatClampNeg 3) (mN μ47 + 1))) (fun μ59 => if ok μ59 r0 2 = true then if ok μ59 (mR μ59 r0 0) 103 = true then Option.bind (some (al μ59 1 0)) (fun μ63 => Option.bind (C_AT_init n (mN μ59 + 1) r1 μ63) (fun q65 => if mN q65 = mN μ63 + 1 then if ok q65 (mR μ59 r0 0) 103 = true then if ok q65 (mN μ59 + 1) 1 = true then if ib 4 (mZ q65 (mR μ59 r0 0)) = true then Option.bind (some (sR q65 (mR μ59 r0 0) (Int32.toNatClampNeg 4) (mN μ59 + 1))) (fun μ71 => if ok μ71 r0 2 = true then if ok μ71 (mR μ71 r0 0) 103 = true then Option.bind (some (al μ71 1 0)) (fun μ75 => Option.bind (C_AT_init n (mN μ71 + 1) r1 μ75) (fun q77 => if mN q77 = mN μ75 + 1 then if ok q77 (mR μ71 r0 0) 103 = true then if ok q77 (mN μ71 + 1) 1 = true then if ib 5 (mZ q77 (mR μ71 r0 0)) = true then Option.bind (some (sR q77 (mR μ71 r0 0) (Int32.toNatClampNeg 5) (mN μ71 + 1))) (fun μ83 => some μ83) else none else none else none else none)) else none else none) else none else none else none else none)) else none else none) else none else none else none else none)) else none else none) else none else none else none else none)) else none else none) else none else none else none else none)) else none else none) else none else none else none else none)) else none else none) else none else none)) else none else none)
set_option maxHeartbeats 4000000 in
set_option maxRecDepth 100000 in
theorem S_QU_init (l : Launch) (D : va_G) (b : Nat) (cs : Nat → ClassId) (r0 : Nat) (r1 : Nat) (μ : Mem) (res : Mem) (n : Nat) (h : C_QU_init n r0 r1 μ = some res) : MetC l y_QU_init w_QU_init 2 14 46 33 b cs D μ [.ref (b + r0), .ref (b + r1)] res := by
  refine Met.ofW (cc := b_QU_init) (maxL := 3) (ret := (Option.none : Option Jvm.ClassFile.FieldType)) (by decide) rfl ?_
  intro p e s m args below meth c s₁ B hml hv
  obtain ⟨rfl, hsz, hK, hM⟩ := Wd.startC hv
  have hx := B.exec
  have hb := B.bytes
  have hr := B.returns
  have hts : ∀ w ∈ jW, w.before _ s = true := fun w hw => atoms_spec (ws := w_QU_init) B.pre w (List.mem_cons_of_mem _ hw)
  have hown : s.vm.findClass "JoinedLeaves$Question" = some m.cls := findClass_of_methodNamed B.named
  have hlocks := B.notSynchronized
  have hin : meth.name = "<init>" := (name_of_methodNamed B.named B.method).1
  have hN0 : mN μ = mN μ + 0 := rfl
  have hl := lv_entry ([.ref (b + r0), .ref (b + r1)]) (n := 3) (Nat.le_of_ble_eq_true rfl)
  rw [lg_entry_eq]
  generalize (lg_sl ([.ref (b + r0), .ref (b + r1)]) ++ List.replicate (3 - (lg_sl ([.ref (b + r0), .ref (b + r1)])).length) Slot.unset).toArray = ls at hl ⊢
  have hl : lv_has ls 3 [(0, .ref (b + r0)), (1, .ref (b + r1))] := hl
  unfold C_QU_init at h
  refine lv_aload_n hx hb d_QU_init_0 rfl (lv_at hl 0 rfl) ?_
  refine W.objInit hx hb hown (hts _ jm_0_41) (hts _ jm_0_22) (hts _ jm_0_23) rfl (by rw [hml]; exact hl.1) rfl d_QU_init_1 (Nat.le_of_ble_eq_true rfl) (Nat.le_of_ble_eq_true rfl) ?_
  refine W.eq (g2 := F0 m 4 ls []) rfl ?_
  refine lv_aload_n hx hb d_QU_init_4 rfl (lv_at hl 0 rfl) ?_
  refine lv_bipush (v := 6) hx hb d_QU_init_5 (by decide) ?_
  obtain ⟨μ1, e_μ1, h⟩ := of_b h
  refine g_newr (N := 6) (C := "JoinedLeaves$Atom") hx hb hown (hts _ jm_0_42) (Kw.over_AT (cs := cs) (D := D) hK) hK hM (cs_of hsz hN0) 1 rfl (by decide) (by decide) (by decide) (Nat.le_of_ble_eq_true rfl) (Nat.le_of_ble_eq_true rfl) d_QU_init_7 (fun H hM => ?_)
  refine W.widen (k := 1) (n := 6) (by decide) (by decide) ?_
  rw [Option.some.inj e_μ1] at hM
  have hN2 : mN μ1 = mN μ + 1 := by rw [← Option.some.inj e_μ1]; exact congrArg (· + 1) hN0
  obtain ⟨g3, h⟩ := of_g h
  obtain ⟨g4, h⟩ := of_g h
  obtain ⟨μ5, e_μ5, h⟩ := of_b h
  refine g_putrF (v := mN μ + 1) (C := "JoinedLeaves$Question") (T := T_QU) (N := 5) (ref := "JoinedLeaves$Question") hx hb hts jF_QU t_QU o_QU n_QU hown hK hM g3 (by decide) rfl 0 (by decide) (hts _ jm_1_6) (fun _ h9 => h9) rfl hin rfl (ty := (.array (.object "JoinedLeaves$Atom"))) (by decide +kernel) rfl rfl (by decide) (fun _ => rfl) (ok_0 g4) d_QU_init_10 (fun H locs hM => ?_)
  rw [Option.some.inj e_μ5] at hM
  have hN6 : mN μ5 = mN μ + 1 := by rw [← Option.some.inj e_μ5]; exact hN2
  refine lv_aload_n hx hb d_QU_init_13 rfl (lv_at hl 0 rfl) ?_
  refine lv_iconst (v := 4) hx hb d_QU_init_14 (by decide) ?_
  obtain ⟨μ7, e_μ7, h⟩ := of_b h
  refine g_newi (N := 4) (atype := .int) hx hb rfl (hts _ jm_0_36) hK hM (cs_of hsz hN6) rfl (by decide) (by decide) (by decide) (Nat.le_of_ble_eq_true rfl) (Nat.le_of_ble_eq_true rfl) d_QU_init_15 (fun H hM => ?_)
  refine W.widen (k := 2) (n := 10) (by decide) (by decide) ?_
  rw [Option.some.inj e_μ7] at hM
  have hN8 : mN μ7 = mN μ + 2 := by rw [← Option.some.inj e_μ7]; exact congrArg (· + 1) hN6
  obtain ⟨g9, h⟩ := of_g h
  obtain ⟨g10, h⟩ := of_g h
  obtain ⟨μ11, e_μ11, h⟩ := of_b h
  refine g_putrF (v := mN μ5 + 1) (C := "JoinedLeaves$Question") (T := T_QU) (N := 5) (ref := "JoinedLeaves$Question") hx hb hts jF_QU t_QU o_QU n_QU hown hK hM g9 (by decide) rfl 2 (by decide) (hts _ jm_1_8) (fun _ h9 => h9) rfl hin rfl (ty := (.array .int)) (by decide +kernel) rfl rfl (by decide) (fun _ => rfl) (ok_0 g10) d_QU_init_17 (fun H locs hM => ?_)
  rw [Option.some.inj e_μ11] at hM
  have hN12 : mN μ11 = mN μ + 2 := by rw [← Option.some.inj e_μ11]; exact hN8
  refine lv_iconst (v := 0) hx hb d_QU_init_20 (by decide) ?_
  refine lv_istore_n hx hb d_QU_init_21 rfl hl (by decide) rfl (fun ls hl => ?_)
  have hl : lv_has ls 3 [(2, .int 0), (0, .ref (b + r0)), (1, .ref (b + r1))] := hl
  refine lv_iload_n hx hb d_QU_init_22 rfl (lv_at hl 0 rfl) ?_
  refine lv_bipush (v := 6) hx hb d_QU_init_23 (by decide) ?_
  refine lv_icmp_ge (tgt := 48) hx hb d_QU_init_25 (by decide) (fun hc => absurd hc (by decide)) (fun _ => ?_)
  refine lv_aload_n hx hb d_QU_init_28 rfl (lv_at hl 1 rfl) ?_
  obtain ⟨g13, h⟩ := of_g h
  obtain ⟨g14, h⟩ := of_g h
  refine g_get (C := "JoinedLeaves$Question") (T := T_QU) (N := 5) (ref := "JoinedLeaves$Question") (v := .ref (b + (mR μ11 r0 0))) hx hb hts jF_QU hown hK hM g13 (by decide) rfl 0 (by decide) (hts _ jm_1_6) (fun _ h9 => h9) (by decide) (rv_of (ok_0 g14)) d_QU_init_29 ?_
  refine lv_iload_n hx hb d_QU_init_32 rfl (lv_at hl 0 rfl) ?_
  obtain ⟨μ15, e_μ15, h⟩ := of_b h
  refine g_new (ci := 1) (C := "JoinedLeaves$Atom") (T := T_AT) (N := 3) hx hb hts jF_AT t_AT o_AT hown (hts _ jm_0_42) (hts _ jm_0_43) (hts _ jm_0_4) hK hM (cs_of hsz hN12) (by decide) rfl (by decide +kernel) (Nat.le_of_ble_eq_true rfl) (Nat.le_of_ble_eq_true rfl) d_QU_init_33 (fun H hM => ?_)
  refine W.widen (k := 3) (n := 13) (by decide) (by decide) ?_
  rw [Option.some.inj e_μ15] at hM
  have hN16 : mN μ15 = mN μ + 3 := by rw [← Option.some.inj e_μ15]; exact congrArg (· + 1) hN12
  refine lv_dup hx hb d_QU_init_36 rfl ?_
  refine lv_aload_n hx hb d_QU_init_37 rfl (lv_at hl 2 rfl) ?_
  obtain ⟨q17, hq17, h⟩ := of_b h
  obtain ⟨g18, h⟩ := of_g h
  refine W.sized fun hle => ?_
  have hz := hz_of hM hle (cs_of hsz hN16)
  refine g_callc (va_runIN (As := [.ref (b + r1)]) (rest := [.ref (b + (mN μ11 + 1)), .int 0, .ref (b + (mR μ11 r0 0))]) ⟨hx, hb, hml, hown, hts⟩ (S_AT_init l D b cs (mN μ11 + 1) r1 μ15 q17 n hq17) ⟨va_cnB 1 hts (goodIn_g jm_0_45) rfl rfl rfl (hK.2.1 _ jn_7) (hts _ jm_0_4) (by decide +kernel) ⟨Nat.le_of_ble_eq_true rfl, Nat.le_of_ble_eq_true rfl⟩, rfl, (hts _ jm_0_44)⟩ (Wd.preC hK hM hz) rfl rfl hl.1 rfl (lv_room (Nat.le_of_ble_eq_true rfl)) d_QU_init_38 ⟨Nat.le_of_ble_eq_true rfl, Nat.le_of_ble_eq_true rfl⟩) hM (fun H locs hM => ?_)
  refine W.widen (k := 4) (n := 16) (by decide) (by decide) ?_
  have hN19 : mN q17 = mN μ + 4 := N_of g18 hN16 rfl
  clear g18 hz hle
  obtain ⟨g20, h⟩ := of_g h
  obtain ⟨g21, h⟩ := of_g h
  obtain ⟨g22, h⟩ := of_g h
  obtain ⟨μ23, e_μ23, h⟩ := of_b h
  refine g_aast hx hb hK hM 1 1 rfl rfl (by decide) g20 g21 g22 d_QU_init_41 (fun H locs hM => ?_)
  rw [Option.some.inj e_μ23] at hM
  have hN24 : mN μ23 = mN μ + 4 := by rw [← Option.some.inj e_μ23]; exact hN19
  refine lv_iinc (v := 1) hx hb d_QU_init_42 hl (k := 0) rfl (by decide) (by decide) rfl (fun ls hl => ?_)
  have hl : lv_has ls 3 [(2, .int 1), (0, .ref (b + r0)), (1, .ref (b + r1))] := hl
  refine lv_goto (tgt := 22) hx hb d_QU_init_45 (by decide) ?_
  refine lv_iload_n hx hb d_QU_init_22 rfl (lv_at hl 0 rfl) ?_
  refine lv_bipush (v := 6) hx hb d_QU_init_23 (by decide) ?_
  refine lv_icmp_ge (tgt := 48) hx hb d_QU_init_25 (by decide) (fun hc => absurd hc (by decide)) (fun _ => ?_)
  refine lv_aload_n hx hb d_QU_init_28 rfl (lv_at hl 1 rfl) ?_
  obtain ⟨g25, h⟩ := of_g h
  obtain ⟨g26, h⟩ := of_g h
  refine g_get (C := "JoinedLeaves$Question") (T := T_QU) (N := 5) (ref := "JoinedLeaves$Question") (v := .ref (b + (mR μ23 r0 0))) hx hb hts jF_QU hown hK hM g25 (by decide) rfl 0 (by decide) (hts _ jm_1_6) (fun _ h9 => h9) (by decide) (rv_of (ok_0 g26)) d_QU_init_29 ?_
  refine lv_iload_n hx hb d_QU_init_32 rfl (lv_at hl 0 rfl) ?_
  obtain ⟨μ27, e_μ27, h⟩ := of_b h
  refine g_new (ci := 1) (C := "JoinedLeaves$Atom") (T := T_AT) (N := 3) hx hb hts jF_AT t_AT o_AT hown (hts _ jm_0_42) (hts _ jm_0_43) (hts _ jm_0_4) hK hM (cs_of hsz hN24) (by decide) rfl (by decide +kernel) (Nat.le_of_ble_eq_true rfl) (Nat.le_of_ble_eq_true rfl) d_QU_init_33 (fun H hM => ?_)
  refine W.widen (k := 5) (n := 19) (by decide) (by decide) ?_
  rw [Option.some.inj e_μ27] at hM
  have hN28 : mN μ27 = mN μ + 5 := by rw [← Option.some.inj e_μ27]; exact congrArg (· + 1) hN24
  refine lv_dup hx hb d_QU_init_36 rfl ?_
  refine lv_aload_n hx hb d_QU_init_37 rfl (lv_at hl 2 rfl) ?_
  obtain ⟨q29, hq29, h⟩ := of_b h
  obtain ⟨g30, h⟩ := of_g h
  refine W.sized fun hle => ?_
  have hz := hz_of hM hle (cs_of hsz hN28)
  refine g_callc (va_runIN (As := [.ref (b + r1)]) (rest := [.ref (b + (mN μ23 + 1)), .int 1, .ref (b + (mR μ23 r0 0))]) ⟨hx, hb, hml, hown, hts⟩ (S_AT_init l D b cs (mN μ23 + 1) r1 μ27 q29 n hq29) ⟨va_cnB 1 hts (goodIn_g jm_0_45) rfl rfl rfl (hK.2.1 _ jn_7) (hts _ jm_0_4) (by decide +kernel) ⟨Nat.le_of_ble_eq_true rfl, Nat.le_of_ble_eq_true rfl⟩, rfl, (hts _ jm_0_44)⟩ (Wd.preC hK hM hz) rfl rfl hl.1 rfl (lv_room (Nat.le_of_ble_eq_true rfl)) d_QU_init_38 ⟨Nat.le_of_ble_eq_true rfl, Nat.le_of_ble_eq_true rfl⟩) hM (fun H locs hM => ?_)
  refine W.widen (k := 6) (n := 22) (by decide) (by decide) ?_
  have hN31 : mN q29 = mN μ + 6 := N_of g30 hN28 rfl
  clear g30 hz hle
  obtain ⟨g32, h⟩ := of_g h
  obtain ⟨g33, h⟩ := of_g h
  obtain ⟨g34, h⟩ := of_g h
  obtain ⟨μ35, e_μ35, h⟩ := of_b h
  refine g_aast hx hb hK hM 1 1 rfl rfl (by decide) g32 g33 g34 d_QU_init_41 (fun H locs hM => ?_)
  rw [Option.some.inj e_μ35] at hM
  have hN36 : mN μ35 = mN μ + 6 := by rw [← Option.some.inj e_μ35]; exact hN31
  refine lv_iinc (v := 2) hx hb d_QU_init_42 hl (k := 0) rfl (by decide) (by decide) rfl (fun ls hl => ?_)
  have hl : lv_has ls 3 [(2, .int 2), (0, .ref (b + r0)), (1, .ref (b + r1))] := hl
  refine lv_goto (tgt := 22) hx hb d_QU_init_45 (by decide) ?_
  refine lv_iload_n hx hb d_QU_init_22 rfl (lv_at hl 0 rfl) ?_
  refine lv_bipush (v := 6) hx hb d_QU_init_23 (by decide) ?_
  refine lv_icmp_ge (tgt := 48) hx hb d_QU_init_25 (by decide) (fun hc => absurd hc (by decide)) (fun _ => ?_)
  refine lv_aload_n hx hb d_QU_init_28 rfl (lv_at hl 1 rfl) ?_
  obtain ⟨g37, h⟩ := of_g h
  obtain ⟨g38, h⟩ := of_g h
  refine g_get (C := "JoinedLeaves$Question") (T := T_QU) (N := 5) (ref := "JoinedLeaves$Question") (v := .ref (b + (mR μ35 r0 0))) hx hb hts jF_QU hown hK hM g37 (by decide) rfl 0 (by decide) (hts _ jm_1_6) (fun _ h9 => h9) (by decide) (rv_of (ok_0 g38)) d_QU_init_29 ?_
  refine lv_iload_n hx hb d_QU_init_32 rfl (lv_at hl 0 rfl) ?_
  obtain ⟨μ39, e_μ39, h⟩ := of_b h
  refine g_new (ci := 1) (C := "JoinedLeaves$Atom") (T := T_AT) (N := 3) hx hb hts jF_AT t_AT o_AT hown (hts _ jm_0_42) (hts _ jm_0_43) (hts _ jm_0_4) hK hM (cs_of hsz hN36) (by decide) rfl (by decide +kernel) (Nat.le_of_ble_eq_true rfl) (Nat.le_of_ble_eq_true rfl) d_QU_init_33 (fun H hM => ?_)
  refine W.widen (k := 7) (n := 25) (by decide) (by decide) ?_
  rw [Option.some.inj e_μ39] at hM
  have hN40 : mN μ39 = mN μ + 7 := by rw [← Option.some.inj e_μ39]; exact congrArg (· + 1) hN36
  refine lv_dup hx hb d_QU_init_36 rfl ?_
  refine lv_aload_n hx hb d_QU_init_37 rfl (lv_at hl 2 rfl) ?_
  obtain ⟨q41, hq41, h⟩ := of_b h
  obtain ⟨g42, h⟩ := of_g h
  refine W.sized fun hle => ?_
  have hz := hz_of hM hle (cs_of hsz hN40)
  refine g_callc (va_runIN (As := [.ref (b + r1)]) (rest := [.ref (b + (mN μ35 + 1)), .int 2, .ref (b + (mR μ35 r0 0))]) ⟨hx, hb, hml, hown, hts⟩ (S_AT_init l D b cs (mN μ35 + 1) r1 μ39 q41 n hq41) ⟨va_cnB 1 hts (goodIn_g jm_0_45) rfl rfl rfl (hK.2.1 _ jn_7) (hts _ jm_0_4) (by decide +kernel) ⟨Nat.le_of_ble_eq_true rfl, Nat.le_of_ble_eq_true rfl⟩, rfl, (hts _ jm_0_44)⟩ (Wd.preC hK hM hz) rfl rfl hl.1 rfl (lv_room (Nat.le_of_ble_eq_true rfl)) d_QU_init_38 ⟨Nat.le_of_ble_eq_true rfl, Nat.le_of_ble_eq_true rfl⟩) hM (fun H locs hM => ?_)
  refine W.widen (k := 8) (n := 28) (by decide) (by decide) ?_
  have hN43 : mN q41 = mN μ + 8 := N_of g42 hN40 rfl
  clear g42 hz hle
  obtain ⟨g44, h⟩ := of_g h
  obtain ⟨g45, h⟩ := of_g h
  obtain ⟨g46, h⟩ := of_g h
  obtain ⟨μ47, e_μ47, h⟩ := of_b h
  refine g_aast hx hb hK hM 1 1 rfl rfl (by decide) g44 g45 g46 d_QU_init_41 (fun H locs hM => ?_)
  rw [Option.some.inj e_μ47] at hM
  have hN48 : mN μ47 = mN μ + 8 := by rw [← Option.some.inj e_μ47]; exact hN43
  refine lv_iinc (v := 3) hx hb d_QU_init_42 hl (k := 0) rfl (by decide) (by decide) rfl (fun ls hl => ?_)
  have hl : lv_has ls 3 [(2, .int 3), (0, .ref (b + r0)), (1, .ref (b + r1))] := hl
  refine lv_goto (tgt := 22) hx hb d_QU_init_45 (by decide) ?_
  refine lv_iload_n hx hb d_QU_init_22 rfl (lv_at hl 0 rfl) ?_
  refine lv_bipush (v := 6) hx hb d_QU_init_23 (by decide) ?_
  refine lv_icmp_ge (tgt := 48) hx hb d_QU_init_25 (by decide) (fun hc => absurd hc (by decide)) (fun _ => ?_)
  refine lv_aload_n hx hb d_QU_init_28 rfl (lv_at hl 1 rfl) ?_
  obtain ⟨g49, h⟩ := of_g h
  obtain ⟨g50, h⟩ := of_g h
  refine g_get (C := "JoinedLeaves$Question") (T := T_QU) (N := 5) (ref := "JoinedLeaves$Question") (v := .ref (b + (mR μ47 r0 0))) hx hb hts jF_QU hown hK hM g49 (by decide) rfl 0 (by decide) (hts _ jm_1_6) (fun _ h9 => h9) (by decide) (rv_of (ok_0 g50)) d_QU_init_29 ?_
  refine lv_iload_n hx hb d_QU_init_32 rfl (lv_at hl 0 rfl) ?_
  obtain ⟨μ51, e_μ51, h⟩ := of_b h
  refine g_new (ci := 1) (C := "JoinedLeaves$Atom") (T := T_AT) (N := 3) hx hb hts jF_AT t_AT o_AT hown (hts _ jm_0_42) (hts _ jm_0_43) (hts _ jm_0_4) hK hM (cs_of hsz hN48) (by decide) rfl (by decide +kernel) (Nat.le_of_ble_eq_true rfl) (Nat.le_of_ble_eq_true rfl) d_QU_init_33 (fun H hM => ?_)
  refine W.widen (k := 9) (n := 31) (by decide) (by decide) ?_
  rw [Option.some.inj e_μ51] at hM
  have hN52 : mN μ51 = mN μ + 9 := by rw [← Option.some.inj e_μ51]; exact congrArg (· + 1) hN48
  refine lv_dup hx hb d_QU_init_36 rfl ?_
  refine lv_aload_n hx hb d_QU_init_37 rfl (lv_at hl 2 rfl) ?_
  obtain ⟨q53, hq53, h⟩ := of_b h
  obtain ⟨g54, h⟩ := of_g h
  refine W.sized fun hle => ?_
  have hz := hz_of hM hle (cs_of hsz hN52)
  refine g_callc (va_runIN (As := [.ref (b + r1)]) (rest := [.ref (b + (mN μ47 + 1)), .int 3, .ref (b + (mR μ47 r0 0))]) ⟨hx, hb, hml, hown, hts⟩ (S_AT_init l D b cs (mN μ47 + 1) r1 μ51 q53 n hq53) ⟨va_cnB 1 hts (goodIn_g jm_0_45) rfl rfl rfl (hK.2.1 _ jn_7) (hts _ jm_0_4) (by decide +kernel) ⟨Nat.le_of_ble_eq_true rfl, Nat.le_of_ble_eq_true rfl⟩, rfl, (hts _ jm_0_44)⟩ (Wd.preC hK hM hz) rfl rfl hl.1 rfl (lv_room (Nat.le_of_ble_eq_true rfl)) d_QU_init_38 ⟨Nat.le_of_ble_eq_true rfl, Nat.le_of_ble_eq_true rfl⟩) hM (fun H locs hM => ?_)
  refine W.widen (k := 10) (n := 34) (by decide) (by decide) ?_
  have hN55 : mN q53 = mN μ + 10 := N_of g54 hN52 rfl
  clear g54 hz hle
  obtain ⟨g56, h⟩ := of_g h
  obtain ⟨g57, h⟩ := of_g h
  obtain ⟨g58, h⟩ := of_g h
  obtain ⟨μ59, e_μ59, h⟩ := of_b h
  refine g_aast hx hb hK hM 1 1 rfl rfl (by decide) g56 g57 g58 d_QU_init_41 (fun H locs hM => ?_)
  rw [Option.some.inj e_μ59] at hM
  have hN60 : mN μ59 = mN μ + 10 := by rw [← Option.some.inj e_μ59]; exact hN55
  refine lv_iinc (v := 4) hx hb d_QU_init_42 hl (k := 0) rfl (by decide) (by decide) rfl (fun ls hl => ?_)
  have hl : lv_has ls 3 [(2, .int 4), (0, .ref (b + r0)), (1, .ref (b + r1))] := hl
  refine lv_goto (tgt := 22) hx hb d_QU_init_45 (by decide) ?_
  refine lv_iload_n hx hb d_QU_init_22 rfl (lv_at hl 0 rfl) ?_
  refine lv_bipush (v := 6) hx hb d_QU_init_23 (by decide) ?_
  refine lv_icmp_ge (tgt := 48) hx hb d_QU_init_25 (by decide) (fun hc => absurd hc (by decide)) (fun _ => ?_)
  refine lv_aload_n hx hb d_QU_init_28 rfl (lv_at hl 1 rfl) ?_
  obtain ⟨g61, h⟩ := of_g h
  obtain ⟨g62, h⟩ := of_g h
  refine g_get (C := "JoinedLeaves$Question") (T := T_QU) (N := 5) (ref := "JoinedLeaves$Question") (v := .ref (b + (mR μ59 r0 0))) hx hb hts jF_QU hown hK hM g61 (by decide) rfl 0 (by decide) (hts _ jm_1_6) (fun _ h9 => h9) (by decide) (rv_of (ok_0 g62)) d_QU_init_29 ?_
  refine lv_iload_n hx hb d_QU_init_32 rfl (lv_at hl 0 rfl) ?_
  obtain ⟨μ63, e_μ63, h⟩ := of_b h
  refine g_new (ci := 1) (C := "JoinedLeaves$Atom") (T := T_AT) (N := 3) hx hb hts jF_AT t_AT o_AT hown (hts _ jm_0_42) (hts _ jm_0_43) (hts _ jm_0_4) hK hM (cs_of hsz hN60) (by decide) rfl (by decide +kernel) (Nat.le_of_ble_eq_true rfl) (Nat.le_of_ble_eq_true rfl) d_QU_init_33 (fun H hM => ?_)
  refine W.widen (k := 11) (n := 37) (by decide) (by decide) ?_
  rw [Option.some.inj e_μ63] at hM
  have hN64 : mN μ63 = mN μ + 11 := by rw [← Option.some.inj e_μ63]; exact congrArg (· + 1) hN60
  refine lv_dup hx hb d_QU_init_36 rfl ?_
  refine lv_aload_n hx hb d_QU_init_37 rfl (lv_at hl 2 rfl) ?_
  obtain ⟨q65, hq65, h⟩ := of_b h
  obtain ⟨g66, h⟩ := of_g h
  refine W.sized fun hle => ?_
  have hz := hz_of hM hle (cs_of hsz hN64)
  refine g_callc (va_runIN (As := [.ref (b + r1)]) (rest := [.ref (b + (mN μ59 + 1)), .int 4, .ref (b + (mR μ59 r0 0))]) ⟨hx, hb, hml, hown, hts⟩ (S_AT_init l D b cs (mN μ59 + 1) r1 μ63 q65 n hq65) ⟨va_cnB 1 hts (goodIn_g jm_0_45) rfl rfl rfl (hK.2.1 _ jn_7) (hts _ jm_0_4) (by decide +kernel) ⟨Nat.le_of_ble_eq_true rfl, Nat.le_of_ble_eq_true rfl⟩, rfl, (hts _ jm_0_44)⟩ (Wd.preC hK hM hz) rfl rfl hl.1 rfl (lv_room (Nat.le_of_ble_eq_true rfl)) d_QU_init_38 ⟨Nat.le_of_ble_eq_true rfl, Nat.le_of_ble_eq_true rfl⟩) hM (fun H locs hM => ?_)
  refine W.widen (k := 12) (n := 40) (by decide) (by decide) ?_
  have hN67 : mN q65 = mN μ + 12 := N_of g66 hN64 rfl
  clear g66 hz hle
  obtain ⟨g68, h⟩ := of_g h
  obtain ⟨g69, h⟩ := of_g h
  obtain ⟨g70, h⟩ := of_g h
  obtain ⟨μ71, e_μ71, h⟩ := of_b h
  refine g_aast hx hb hK hM 1 1 rfl rfl (by decide) g68 g69 g70 d_QU_init_41 (fun H locs hM => ?_)
  rw [Option.some.inj e_μ71] at hM
  have hN72 : mN μ71 = mN μ + 12 := by rw [← Option.some.inj e_μ71]; exact hN67
  refine lv_iinc (v := 5) hx hb d_QU_init_42 hl (k := 0) rfl (by decide) (by decide) rfl (fun ls hl => ?_)
  have hl : lv_has ls 3 [(2, .int 5), (0, .ref (b + r0)), (1, .ref (b + r1))] := hl
  refine lv_goto (tgt := 22) hx hb d_QU_init_45 (by decide) ?_
  refine lv_iload_n hx hb d_QU_init_22 rfl (lv_at hl 0 rfl) ?_
  refine lv_bipush (v := 6) hx hb d_QU_init_23 (by decide) ?_
  refine lv_icmp_ge (tgt := 48) hx hb d_QU_init_25 (by decide) (fun hc => absurd hc (by decide)) (fun _ => ?_)
  refine lv_aload_n hx hb d_QU_init_28 rfl (lv_at hl 1 rfl) ?_
  obtain ⟨g73, h⟩ := of_g h
  obtain ⟨g74, h⟩ := of_g h
  refine g_get (C := "JoinedLeaves$Question") (T := T_QU) (N := 5) (ref := "JoinedLeaves$Question") (v := .ref (b + (mR μ71 r0 0))) hx hb hts jF_QU hown hK hM g73 (by decide) rfl 0 (by decide) (hts _ jm_1_6) (fun _ h9 => h9) (by decide) (rv_of (ok_0 g74)) d_QU_init_29 ?_
  refine lv_iload_n hx hb d_QU_init_32 rfl (lv_at hl 0 rfl) ?_
  obtain ⟨μ75, e_μ75, h⟩ := of_b h
  refine g_new (ci := 1) (C := "JoinedLeaves$Atom") (T := T_AT) (N := 3) hx hb hts jF_AT t_AT o_AT hown (hts _ jm_0_42) (hts _ jm_0_43) (hts _ jm_0_4) hK hM (cs_of hsz hN72) (by decide) rfl (by decide +kernel) (Nat.le_of_ble_eq_true rfl) (Nat.le_of_ble_eq_true rfl) d_QU_init_33 (fun H hM => ?_)
  refine W.widen (k := 13) (n := 43) (by decide) (by decide) ?_
  rw [Option.some.inj e_μ75] at hM
  have hN76 : mN μ75 = mN μ + 13 := by rw [← Option.some.inj e_μ75]; exact congrArg (· + 1) hN72
  refine lv_dup hx hb d_QU_init_36 rfl ?_
  refine lv_aload_n hx hb d_QU_init_37 rfl (lv_at hl 2 rfl) ?_
  obtain ⟨q77, hq77, h⟩ := of_b h
  obtain ⟨g78, h⟩ := of_g h
  refine W.sized fun hle => ?_
  have hz := hz_of hM hle (cs_of hsz hN76)
  refine g_callc (va_runIN (As := [.ref (b + r1)]) (rest := [.ref (b + (mN μ71 + 1)), .int 5, .ref (b + (mR μ71 r0 0))]) ⟨hx, hb, hml, hown, hts⟩ (S_AT_init l D b cs (mN μ71 + 1) r1 μ75 q77 n hq77) ⟨va_cnB 1 hts (goodIn_g jm_0_45) rfl rfl rfl (hK.2.1 _ jn_7) (hts _ jm_0_4) (by decide +kernel) ⟨Nat.le_of_ble_eq_true rfl, Nat.le_of_ble_eq_true rfl⟩, rfl, (hts _ jm_0_44)⟩ (Wd.preC hK hM hz) rfl rfl hl.1 rfl (lv_room (Nat.le_of_ble_eq_true rfl)) d_QU_init_38 ⟨Nat.le_of_ble_eq_true rfl, Nat.le_of_ble_eq_true rfl⟩) hM (fun H locs hM => ?_)
  refine W.widen (k := 14) (n := 46) (by decide) (by decide) ?_
  have hN79 : mN q77 = mN μ + 14 := N_of g78 hN76 rfl
  clear g78 hz hle
  obtain ⟨g80, h⟩ := of_g h
  obtain ⟨g81, h⟩ := of_g h
  obtain ⟨g82, h⟩ := of_g h
  obtain ⟨μ83, e_μ83, h⟩ := of_b h
  refine g_aast hx hb hK hM 1 1 rfl rfl (by decide) g80 g81 g82 d_QU_init_41 (fun H locs hM => ?_)
  rw [Option.some.inj e_μ83] at hM
  have hN84 : mN μ83 = mN μ + 14 := by rw [← Option.some.inj e_μ83]; exact hN79
  refine lv_iinc (v := 6) hx hb d_QU_init_42 hl (k := 0) rfl (by decide) (by decide) rfl (fun ls hl => ?_)
  have hl : lv_has ls 3 [(2, .int 6), (0, .ref (b + r0)), (1, .ref (b + r1))] := hl
  refine lv_goto (tgt := 22) hx hb d_QU_init_45 (by decide) ?_
  refine lv_iload_n hx hb d_QU_init_22 rfl (lv_at hl 0 rfl) ?_
  refine lv_bipush (v := 6) hx hb d_QU_init_23 (by decide) ?_
  refine lv_icmp_ge (tgt := 48) hx hb d_QU_init_25 (by decide) (fun _ => ?_) (fun hc => absurd (by decide) hc)
  exact g_cret hx hb hr hlocks hM (Option.some.inj h) d_QU_init_48
abbrev w_QU_putAtom : List Cond := .code y_QU_putAtom b_QU_putAtom 5 (Option.some Jvm.ClassFile.FieldType.boolean) :: jW
def C_QU_putAtom (n : Nat) (r0 : Nat) (r1 : Nat) (i2 : Int32) (i3 : Int32) (i4 : Int32) (μ : Mem) : Option (Int32 × Mem) :=
  if ok μ r0 2 = true then if (mI μ r0 1) = 6 then some (0, μ) else if ok μ (mR μ r0 0) 103 = true then if ib (mI μ r0 1) (mZ μ (mR μ r0 0)) = true then if ok μ (mR μ (mR μ r0 0) (Int32.toNatClampNeg (mI μ r0 1))) 1 = true then Option.bind (C_AT_bind n (mR μ (mR μ r0 0) (Int32.toNatClampNeg (mI μ r0 1))) r1 i2 i3 i4 μ) (fun q5 => if q5.1 = 0 then some (0, q5.2) else if ok q5.2 r0 2 = true then Option.bind (some (sI q5.2 r0 1 ((mI q5.2 r0 1) + 1))) (fun μ7 => some (1, μ7)) else none) else none else none else none else none
set_option maxHeartbeats 4000000 in
set_option maxRecDepth 100000 in
theorem S_QU_putAtom (l : Launch) (D : va_G) (b : Nat) (cs : Nat → ClassId) (r0 : Nat) (r1 : Nat) (i2 : Int32) (i3 : Int32) (i4 : Int32) (μ : Mem) (res : Int32 × Mem) (n : Nat) (h : C_QU_putAtom n r0 r1 i2 i3 i4 μ = some res) : MetI l y_QU_putAtom w_QU_putAtom 2 47 b cs D μ [.ref (b + r0), .ref (b + r1), .int i2, .int i3, .int i4] res := by
  refine Met.ofW (cc := b_QU_putAtom) (maxL := 5) (ret := (Option.some Jvm.ClassFile.FieldType.boolean)) (by decide) rfl ?_
  intro p e s m args below meth c s₁ B hml hv
  obtain ⟨rfl, hK, hM⟩ := Wd.start hv
  have hx := B.exec
  have hb := B.bytes
  have hr := B.returns
  have hts : ∀ w ∈ jW, w.before _ s = true := fun w hw => atoms_spec (ws := w_QU_putAtom) B.pre w (List.mem_cons_of_mem _ hw)
  have hown : s.vm.findClass "JoinedLeaves$Question" = some m.cls := findClass_of_methodNamed B.named
  have hlocks := B.notSynchronized
  have hl := lv_entry ([.ref (b + r0), .ref (b + r1), .int i2, .int i3, .int i4]) (n := 5) (Nat.le_of_ble_eq_true rfl)
  rw [lg_entry_eq]
  generalize (lg_sl ([.ref (b + r0), .ref (b + r1), .int i2, .int i3, .int i4]) ++ List.replicate (5 - (lg_sl ([.ref (b + r0), .ref (b + r1), .int i2, .int i3, .int i4])).length) Slot.unset).toArray = ls at hl ⊢
  have hl : lv_has ls 5 [(0, .ref (b + r0)), (1, .ref (b + r1)), (2, .int i2), (3, .int i3), (4, .int i4)] := hl
  unfold C_QU_putAtom at h
  refine lv_aload_n hx hb d_QU_putAtom_0 rfl (lv_at hl 0 rfl) ?_
  obtain ⟨g1, h⟩ := of_g h
  refine g_get (C := "JoinedLeaves$Question") (T := T_QU) (N := 5) (ref := "JoinedLeaves$Question") (v := .int (mI μ r0 1)) hx hb hts jF_QU hown hK hM g1 (by decide) rfl 1 (by decide) (hts _ jm_1_7) (fun _ h9 => h9) (by decide) rfl d_QU_putAtom_1 ?_
  refine lv_bipush (v := 6) hx hb d_QU_putAtom_4 (by decide) ?_
  refine lv_icmp_eq (tgt := 29) hx hb d_QU_putAtom_6 (by decide) (fun hc => ?_) (fun hc => ?_)
  · replace h := of_t hc h
    refine lv_iconst (v := 0) hx hb d_QU_putAtom_29 (by decide) ?_
    exact g_zret hx hb hr narrow_b0 hlocks hM (Option.some.inj h) d_QU_putAtom_30
  · replace h := of_f hc h
    refine lv_aload_n hx hb d_QU_putAtom_9 rfl (lv_at hl 0 rfl) ?_
    obtain ⟨g2, h⟩ := of_g h
    refine g_get (C := "JoinedLeaves$Question") (T := T_QU) (N := 5) (ref := "JoinedLeaves$Question") (v := .ref (b + (mR μ r0 0))) hx hb hts jF_QU hown hK hM g1 (by decide) rfl 0 (by decide) (hts _ jm_1_6) (fun _ h9 => h9) (by decide) (rv_of (ok_0 g2)) d_QU_putAtom_10 ?_
    refine lv_aload_n hx hb d_QU_putAtom_13 rfl (lv_at hl 0 rfl) ?_
    refine g_get (C := "JoinedLeaves$Question") (T := T_QU) (N := 5) (ref := "JoinedLeaves$Question") (v := .int (mI μ r0 1)) hx hb hts jF_QU hown hK hM g1 (by decide) rfl 1 (by decide) (hts _ jm_1_7) (fun _ h9 => h9) (by decide) rfl d_QU_putAtom_14 ?_
    obtain ⟨g3, h⟩ := of_g h
    obtain ⟨g4, h⟩ := of_g h
    refine g_aald (ty := (.object "JoinedLeaves$Atom")) hx hb hK hM 1 rfl rfl g2 g3 (ok_0 g4) d_QU_putAtom_17 ?_
    refine lv_aload_n hx hb d_QU_putAtom_18 rfl (lv_at hl 1 rfl) ?_
    refine lv_iload_n hx hb d_QU_putAtom_19 rfl (lv_at hl 2 rfl) ?_
    refine lv_iload_n hx hb d_QU_putAtom_20 rfl (lv_at hl 3 rfl) ?_
    refine lv_iload hx hb d_QU_putAtom_21 (lv_at hl 4 rfl) ?_
    obtain ⟨q5, hq5, h⟩ := of_b h
    refine g_calli (va_runVN (As := [.ref (b + r1), .int i2, .int i3, .int i4]) (rest := []) ⟨hx, hb, hml, hown, hts⟩ (S_AT_bind l D b cs (mR μ (mR μ r0 0) (Int32.toNatClampNeg (mI μ r0 1))) r1 i2 i3 i4 μ q5 n hq5) ⟨va_cnB 4 hts (goodIn_g jm_3_9) rfl rfl rfl (hK.2.1 _ jn_31) (hts _ jm_0_4) (by decide +kernel) ⟨Nat.le_of_ble_eq_true rfl, Nat.le_of_ble_eq_true rfl⟩, (hts _ jm_3_8), (hts _ jm_11_25)⟩ (Wd.preV hK hM g4 rfl (by decide)) rfl rfl hl.1 rfl (lv_room (Nat.le_of_ble_eq_true rfl)) d_QU_putAtom_23 ⟨Nat.le_of_ble_eq_true rfl, Nat.le_of_ble_eq_true rfl⟩) hM (fun H locs hM => ?_)
    refine lv_if_ne (tgt := 31) hx hb d_QU_putAtom_26 (by decide) (fun hc => ?_) (fun hc => ?_)
    · replace h := of_f hc h
      refine lv_aload_n hx hb d_QU_putAtom_31 rfl (lv_at hl 0 rfl) ?_
      refine lv_dup hx hb d_QU_putAtom_32 rfl ?_
      obtain ⟨g6, h⟩ := of_g h
      refine g_get (C := "JoinedLeaves$Question") (T := T_QU) (N := 5) (ref := "JoinedLeaves$Question") (v := .int (mI q5.2 r0 1)) hx hb hts jF_QU hown hK hM g6 (by decide) rfl 1 (by decide) (hts _ jm_1_7) (fun _ h9 => h9) (by decide) rfl d_QU_putAtom_33 ?_
      refine lv_iconst (v := 1) hx hb d_QU_putAtom_36 (by decide) ?_
      refine lv_iadd hx hb d_QU_putAtom_37 ?_
      obtain ⟨μ7, e_μ7, h⟩ := of_b h
      obtain rfl := Option.some.inj e_μ7
      refine g_puti (v := (mI q5.2 r0 1) + 1) (C := "JoinedLeaves$Question") (T := T_QU) (N := 5) (ref := "JoinedLeaves$Question") hx hb hts jF_QU t_QU o_QU n_QU hown hK hM g6 (by decide) rfl 1 (by decide) (hts _ jm_1_7) (fun _ h9 => h9) rfl (ty := .int) (by decide +kernel) rfl rfl (by decide) (Or.inl rfl) d_QU_putAtom_38 (fun H locs hM => ?_)
      refine lv_iconst (v := 1) hx hb d_QU_putAtom_41 (by decide) ?_
      exact g_zret hx hb hr narrow_b1 hlocks hM (Option.some.inj h) d_QU_putAtom_42
    · replace h := of_t hc h
      refine lv_iconst (v := 0) hx hb d_QU_putAtom_29 (by decide) ?_
      exact g_zret hx hb hr narrow_b0 hlocks hM (Option.some.inj h) d_QU_putAtom_30
abbrev w_QU_putInHead : List Cond := .code y_QU_putInHead b_QU_putInHead 2 (Option.some Jvm.ClassFile.FieldType.boolean) :: jW
def C_QU_putInHead (n : Nat) (r0 : Nat) (i1 : Int32) (μ : Mem) : Option (Int32 × Mem) :=
  Option.bind (C_JL_isBelow n i1 8 μ) (fun q1 => if q1.1 = 0 then some (0, q1.2) else if ok q1.2 r0 2 = true then Option.bind (C_JL_isIn n i1 (mI q1.2 r0 4) q1.2) (fun q3 => if q3.1 = 0 then if ok q3.2 r0 2 = true then if (mI q3.2 r0 3) = 4 then some (0, q3.2) else if ok q3.2 (mR q3.2 r0 2) 100 = true then if ib (mI q3.2 r0 3) (mZ q3.2 (mR q3.2 r0 2)) = true then Option.bind (some (sI q3.2 (mR q3.2 r0 2) (Int32.toNatClampNeg (mI q3.2 r0 3)) i1)) (fun μ7 => Option.bind (some (sI μ7 r0 3 ((mI μ7 r0 3) + 1))) (fun μ8 => Option.bind (some (sI μ8 r0 4 ((mI μ8 r0 4) ||| (1 <<< (i1 &&& 31))))) (fun μ9 => some (1, μ9)))) else none else none else none else some (0, q3.2)) else none)
set_option maxHeartbeats 4000000 in
set_option maxRecDepth 100000 in
theorem S_QU_putInHead (l : Launch) (D : va_G) (b : Nat) (cs : Nat → ClassId) (r0 : Nat) (i1 : Int32) (μ : Mem) (res : Int32 × Mem) (n : Nat) (h : C_QU_putInHead n r0 i1 μ = some res) : MetI l y_QU_putInHead w_QU_putInHead 1 21 b cs D μ [.ref (b + r0), .int i1] res := by
  refine Met.ofW (cc := b_QU_putInHead) (maxL := 2) (ret := (Option.some Jvm.ClassFile.FieldType.boolean)) (by decide) rfl ?_
  intro p e s m args below meth c s₁ B hml hv
  obtain ⟨rfl, hK, hM⟩ := Wd.start hv
  have hx := B.exec
  have hb := B.bytes
  have hr := B.returns
  have hts : ∀ w ∈ jW, w.before _ s = true := fun w hw => atoms_spec (ws := w_QU_putInHead) B.pre w (List.mem_cons_of_mem _ hw)
  have hown : s.vm.findClass "JoinedLeaves$Question" = some m.cls := findClass_of_methodNamed B.named
  have hlocks := B.notSynchronized
  have hl := lv_entry ([.ref (b + r0), .int i1]) (n := 2) (Nat.le_of_ble_eq_true rfl)
  rw [lg_entry_eq]
  generalize (lg_sl ([.ref (b + r0), .int i1]) ++ List.replicate (2 - (lg_sl ([.ref (b + r0), .int i1])).length) Slot.unset).toArray = ls at hl ⊢
  have hl : lv_has ls 2 [(0, .ref (b + r0)), (1, .int i1)] := hl
  unfold C_QU_putInHead at h
  refine lv_iload_n hx hb d_QU_putInHead_0 rfl (lv_at hl 1 rfl) ?_
  refine lv_bipush (v := 8) hx hb d_QU_putInHead_1 (by decide) ?_
  obtain ⟨q1, hq1, h⟩ := of_b h
  refine g_calli (va_runSN (As := [.int i1, .int 8]) (rest := []) ⟨hx, hb, hml, hown, hts⟩ (S_JL_isBelow l D b cs i1 8 μ q1 n hq1) ⟨va_cnB 2 hts (goodIn_g jm_2_31) rfl rfl rfl (hK.2.1 _ jn_36) (hts _ jm_0_1) (by decide +kernel) ⟨Nat.le_of_ble_eq_true rfl, Nat.le_of_ble_eq_true rfl⟩, (hts _ jm_2_30), trivial⟩ (Wd.preS hK hM) rfl rfl hl.1 rfl (lv_room (Nat.le_of_ble_eq_true rfl)) d_QU_putInHead_3 ⟨Nat.le_of_ble_eq_true rfl, Nat.le_of_ble_eq_true rfl⟩) hM (fun H locs hM => ?_)
  refine lv_if_eq (tgt := 28) hx hb d_QU_putInHead_6 (by decide) (fun hc => ?_) (fun hc => ?_)
  · replace h := of_t hc h
    refine lv_iconst (v := 0) hx hb d_QU_putInHead_28 (by decide) ?_
    exact g_zret hx hb hr narrow_b0 hlocks hM (Option.some.inj h) d_QU_putInHead_29
  · replace h := of_f hc h
    refine lv_iload_n hx hb d_QU_putInHead_9 rfl (lv_at hl 1 rfl) ?_
    refine lv_aload_n hx hb d_QU_putInHead_10 rfl (lv_at hl 0 rfl) ?_
    obtain ⟨g2, h⟩ := of_g h
    refine g_get (C := "JoinedLeaves$Question") (T := T_QU) (N := 5) (ref := "JoinedLeaves$Question") (v := .int (mI q1.2 r0 4)) hx hb hts jF_QU hown hK hM g2 (by decide) rfl 4 (by decide) (hts _ jm_1_10) (fun _ h9 => h9) (by decide) rfl d_QU_putInHead_11 ?_
    obtain ⟨q3, hq3, h⟩ := of_b h
    refine g_calli (va_runSN (As := [.int i1, .int (mI q1.2 r0 4)]) (rest := []) ⟨hx, hb, hml, hown, hts⟩ (S_JL_isIn l D b cs i1 (mI q1.2 r0 4) q1.2 q3 n hq3) ⟨va_cnB 2 hts (goodIn_g jm_3_19) rfl rfl rfl (hK.2.1 _ jn_37) (hts _ jm_0_1) (by decide +kernel) ⟨Nat.le_of_ble_eq_true rfl, Nat.le_of_ble_eq_true rfl⟩, (hts _ jm_3_18), trivial⟩ (Wd.preS hK hM) rfl rfl hl.1 rfl (lv_room (Nat.le_of_ble_eq_true rfl)) d_QU_putInHead_14 ⟨Nat.le_of_ble_eq_true rfl, Nat.le_of_ble_eq_true rfl⟩) hM (fun H locs hM => ?_)
    refine lv_if_ne (tgt := 28) hx hb d_QU_putInHead_17 (by decide) (fun hc => ?_) (fun hc => ?_)
    · replace h := of_f hc h
      refine lv_iconst (v := 0) hx hb d_QU_putInHead_28 (by decide) ?_
      exact g_zret hx hb hr narrow_b0 hlocks hM (Option.some.inj h) d_QU_putInHead_29
    · replace h := of_t hc h
      refine lv_aload_n hx hb d_QU_putInHead_20 rfl (lv_at hl 0 rfl) ?_
      obtain ⟨g4, h⟩ := of_g h
      refine g_get (C := "JoinedLeaves$Question") (T := T_QU) (N := 5) (ref := "JoinedLeaves$Question") (v := .int (mI q3.2 r0 3)) hx hb hts jF_QU hown hK hM g4 (by decide) rfl 3 (by decide) (hts _ jm_1_9) (fun _ h9 => h9) (by decide) rfl d_QU_putInHead_21 ?_
      refine lv_iconst (v := 4) hx hb d_QU_putInHead_24 (by decide) ?_
      refine lv_icmp_ne (tgt := 30) hx hb d_QU_putInHead_25 (by decide) (fun hc => ?_) (fun hc => ?_)
      · replace h := of_f hc h
        refine lv_aload_n hx hb d_QU_putInHead_30 rfl (lv_at hl 0 rfl) ?_
        obtain ⟨g5, h⟩ := of_g h
        refine g_get (C := "JoinedLeaves$Question") (T := T_QU) (N := 5) (ref := "JoinedLeaves$Question") (v := .ref (b + (mR q3.2 r0 2))) hx hb hts jF_QU hown hK hM g4 (by decide) rfl 2 (by decide) (hts _ jm_1_8) (fun _ h9 => h9) (by decide) (rv_of (ok_0 g5)) d_QU_putInHead_31 ?_
        refine lv_aload_n hx hb d_QU_putInHead_34 rfl (lv_at hl 0 rfl) ?_
        refine g_get (C := "JoinedLeaves$Question") (T := T_QU) (N := 5) (ref := "JoinedLeaves$Question") (v := .int (mI q3.2 r0 3)) hx hb hts jF_QU hown hK hM g4 (by decide) rfl 3 (by decide) (hts _ jm_1_9) (fun _ h9 => h9) (by decide) rfl d_QU_putInHead_35 ?_
        refine lv_iload_n hx hb d_QU_putInHead_38 rfl (lv_at hl 1 rfl) ?_
        obtain ⟨g6, h⟩ := of_g h
        obtain ⟨μ7, e_μ7, h⟩ := of_b h
        obtain rfl := Option.some.inj e_μ7
        refine g_iast (v := i1) hx hb hK hM g5 g6 d_QU_putInHead_39 (fun H locs hM => ?_)
        refine lv_aload_n hx hb d_QU_putInHead_40 rfl (lv_at hl 0 rfl) ?_
        refine lv_dup hx hb d_QU_putInHead_41 rfl ?_
        refine g_get (C := "JoinedLeaves$Question") (T := T_QU) (N := 5) (ref := "JoinedLeaves$Question") (v := .int (mI (sI q3.2 (mR q3.2 r0 2) (Int32.toNatClampNeg (mI q3.2 r0 3)) i1) r0 3)) hx hb hts jF_QU hown hK hM g4 (by decide) rfl 3 (by decide) (hts _ jm_1_9) (fun _ h9 => h9) (by decide) rfl d_QU_putInHead_42 ?_
        refine lv_iconst (v := 1) hx hb d_QU_putInHead_45 (by decide) ?_
        refine lv_iadd hx hb d_QU_putInHead_46 ?_
        obtain ⟨μ8, e_μ8, h⟩ := of_b h
        obtain rfl := Option.some.inj e_μ8
        refine g_puti (v := (mI (sI q3.2 (mR q3.2 r0 2) (Int32.toNatClampNeg (mI q3.2 r0 3)) i1) r0 3) + 1) (C := "JoinedLeaves$Question") (T := T_QU) (N := 5) (ref := "JoinedLeaves$Question") hx hb hts jF_QU t_QU o_QU n_QU hown hK hM g4 (by decide) rfl 3 (by decide) (hts _ jm_1_9) (fun _ h9 => h9) rfl (ty := .int) (by decide +kernel) rfl rfl (by decide) (Or.inl rfl) d_QU_putInHead_47 (fun H locs hM => ?_)
        refine lv_aload_n hx hb d_QU_putInHead_50 rfl (lv_at hl 0 rfl) ?_
        refine lv_dup hx hb d_QU_putInHead_51 rfl ?_
        refine g_get (C := "JoinedLeaves$Question") (T := T_QU) (N := 5) (ref := "JoinedLeaves$Question") (v := .int (mI (sI (sI q3.2 (mR q3.2 r0 2) (Int32.toNatClampNeg (mI q3.2 r0 3)) i1) r0 3 ((mI (sI q3.2 (mR q3.2 r0 2) (Int32.toNatClampNeg (mI q3.2 r0 3)) i1) r0 3) + 1)) r0 4)) hx hb hts jF_QU hown hK hM g4 (by decide) rfl 4 (by decide) (hts _ jm_1_10) (fun _ h9 => h9) (by decide) rfl d_QU_putInHead_52 ?_
        refine lv_iconst (v := 1) hx hb d_QU_putInHead_55 (by decide) ?_
        refine lv_iload_n hx hb d_QU_putInHead_56 rfl (lv_at hl 1 rfl) ?_
        refine lv_ishl hx hb d_QU_putInHead_57 ?_
        refine lv_ior hx hb d_QU_putInHead_58 ?_
        obtain ⟨μ9, e_μ9, h⟩ := of_b h
        obtain rfl := Option.some.inj e_μ9
        refine g_puti (v := (mI (sI (sI q3.2 (mR q3.2 r0 2) (Int32.toNatClampNeg (mI q3.2 r0 3)) i1) r0 3 ((mI (sI q3.2 (mR q3.2 r0 2) (Int32.toNatClampNeg (mI q3.2 r0 3)) i1) r0 3) + 1)) r0 4) ||| (1 <<< (i1 &&& 31))) (C := "JoinedLeaves$Question") (T := T_QU) (N := 5) (ref := "JoinedLeaves$Question") hx hb hts jF_QU t_QU o_QU n_QU hown hK hM g4 (by decide) rfl 4 (by decide) (hts _ jm_1_10) (fun _ h9 => h9) rfl (ty := .int) (by decide +kernel) rfl rfl (by decide) (Or.inl rfl) d_QU_putInHead_59 (fun H locs hM => ?_)
        refine lv_iconst (v := 1) hx hb d_QU_putInHead_62 (by decide) ?_
        exact g_zret hx hb hr narrow_b1 hlocks hM (Option.some.inj h) d_QU_putInHead_63
      · replace h := of_t hc h
        refine lv_iconst (v := 0) hx hb d_QU_putInHead_28 (by decide) ?_
        exact g_zret hx hb hr narrow_b0 hlocks hM (Option.some.inj h) d_QU_putInHead_29
abbrev w_QU_empty : List Cond := .code y_QU_empty b_QU_empty 1 (Option.none : Option Jvm.ClassFile.FieldType) :: jW
def C_QU_empty (n : Nat) (r0 : Nat) (μ : Mem) : Option (Mem) :=
  if ok μ r0 2 = true then Option.bind (some (sI μ r0 1 0)) (fun μ2 => Option.bind (some (sI μ2 r0 3 0)) (fun μ3 => Option.bind (some (sI μ3 r0 4 0)) (fun μ4 => some μ4))) else none
set_option maxHeartbeats 4000000 in
set_option maxRecDepth 100000 in
theorem S_QU_empty (l : Launch) (D : va_G) (b : Nat) (cs : Nat → ClassId) (r0 : Nat) (μ : Mem) (res : Mem) (n : Nat) (h : C_QU_empty n r0 μ = some res) : MetV l y_QU_empty w_QU_empty 0 0 b cs D μ [.ref (b + r0)] res := by
  refine Met.ofW (cc := b_QU_empty) (maxL := 1) (ret := (Option.none : Option Jvm.ClassFile.FieldType)) (by decide) rfl ?_
  intro p e s m args below meth c s₁ B hml hv
  obtain ⟨rfl, hK, hM⟩ := Wd.start hv
  have hx := B.exec
  have hb := B.bytes
  have hr := B.returns
  have hts : ∀ w ∈ jW, w.before _ s = true := fun w hw => atoms_spec (ws := w_QU_empty) B.pre w (List.mem_cons_of_mem _ hw)
  have hown : s.vm.findClass "JoinedLeaves$Question" = some m.cls := findClass_of_methodNamed B.named
  have hlocks := B.notSynchronized
  have hl := lv_entry ([.ref (b + r0)]) (n := 1) (Nat.le_of_ble_eq_true rfl)
  rw [lg_entry_eq]
  generalize (lg_sl ([.ref (b + r0)]) ++ List.replicate (1 - (lg_sl ([.ref (b + r0)])).length) Slot.unset).toArray = ls at hl ⊢
  have hl : lv_has ls 1 [(0, .ref (b + r0))] := hl
  unfold C_QU_empty at h
  refine lv_aload_n hx hb d_QU_empty_0 rfl (lv_at hl 0 rfl) ?_
  refine lv_iconst (v := 0) hx hb d_QU_empty_1 (by decide) ?_
  obtain ⟨g1, h⟩ := of_g h
  obtain ⟨μ2, e_μ2, h⟩ := of_b h
  obtain rfl := Option.some.inj e_μ2
  refine g_puti (v := 0) (C := "JoinedLeaves$Question") (T := T_QU) (N := 5) (ref := "JoinedLeaves$Question") hx hb hts jF_QU t_QU o_QU n_QU hown hK hM g1 (by decide) rfl 1 (by decide) (hts _ jm_1_7) (fun _ h9 => h9) rfl (ty := .int) (by decide +kernel) rfl rfl (by decide) (Or.inl rfl) d_QU_empty_2 (fun H locs hM => ?_)
  refine lv_aload_n hx hb d_QU_empty_5 rfl (lv_at hl 0 rfl) ?_
  refine lv_iconst (v := 0) hx hb d_QU_empty_6 (by decide) ?_
  obtain ⟨μ3, e_μ3, h⟩ := of_b h
  obtain rfl := Option.some.inj e_μ3
  refine g_puti (v := 0) (C := "JoinedLeaves$Question") (T := T_QU) (N := 5) (ref := "JoinedLeaves$Question") hx hb hts jF_QU t_QU o_QU n_QU hown hK hM g1 (by decide) rfl 3 (by decide) (hts _ jm_1_9) (fun _ h9 => h9) rfl (ty := .int) (by decide +kernel) rfl rfl (by decide) (Or.inl rfl) d_QU_empty_7 (fun H locs hM => ?_)
  refine lv_aload_n hx hb d_QU_empty_10 rfl (lv_at hl 0 rfl) ?_
  refine lv_iconst (v := 0) hx hb d_QU_empty_11 (by decide) ?_
  obtain ⟨μ4, e_μ4, h⟩ := of_b h
  obtain rfl := Option.some.inj e_μ4
  refine g_puti (v := 0) (C := "JoinedLeaves$Question") (T := T_QU) (N := 5) (ref := "JoinedLeaves$Question") hx hb hts jF_QU t_QU o_QU n_QU hown hK hM g1 (by decide) rfl 4 (by decide) (hts _ jm_1_10) (fun _ h9 => h9) rfl (ty := .int) (by decide +kernel) rfl rfl (by decide) (Or.inl rfl) d_QU_empty_12 (fun H locs hM => ?_)
  exact g_vret hx hb hr hlocks hM (Option.some.inj h) d_QU_empty_15
abbrev w_QU_bindsHead : List Cond := .code y_QU_bindsHead b_QU_bindsHead 3 (Option.some Jvm.ClassFile.FieldType.boolean) :: jW
def B_QU_bindsHead_0 (n : Nat) (k : Nat → Nat → Int32 → Int32 → Mem → Option (Int32 × Mem)) (r0 : Nat) (i1 : Int32) (i2 : Int32) (μ : Mem) : Option (Int32 × Mem) :=
  k 1 r0 0 0 μ
def B_QU_bindsHead_1 (n : Nat) (k : Nat → Nat → Int32 → Int32 → Mem → Option (Int32 × Mem)) (r0 : Nat) (i1 : Int32) (i2 : Int32) (μ : Mem) : Option (Int32 × Mem) :=
  if ok μ r0 2 = true then if (mI μ r0 1) ≤ i2 then if ((mI μ r0 4) &&& (i1 ^^^ (-1))) = 0 then some (1, μ) else some (0, μ) else if ok μ (mR μ r0 0) 103 = true then if ib i2 (mZ μ (mR μ r0 0)) = true then if ok μ (mR μ (mR μ r0 0) (Int32.toNatClampNeg i2)) 1 = true then Option.bind (some (i1 ||| (mI μ (mR μ (mR μ r0 0) (Int32.toNatClampNeg i2)) 1))) (fun v5 => Option.bind (some (i2 + 1)) (fun v6 => k 1 r0 v5 v6 μ)) else none else none else none else none
def F_QU_bindsHead : Nat → Nat → Nat → Int32 → Int32 → Mem → Option (Int32 × Mem)
  | 0 => fun _ _ _ _ _ => none
  | n + 1 => fun id r0 i1 i2 μ => match id with
    | 0 => B_QU_bindsHead_0 n (F_QU_bindsHead n) r0 i1 i2 μ
    | 1 => B_QU_bindsHead_1 n (F_QU_bindsHead n) r0 i1 i2 μ
    | _ => none
def C_QU_bindsHead (n : Nat) (r0 : Nat) (μ : Mem) : Option (Int32 × Mem) := F_QU_bindsHead n 0 r0 0 0 μ
set_option maxHeartbeats 4000000 in
set_option maxRecDepth 100000 in
theorem S_QU_bindsHead (l : Launch) (D : va_G) (b : Nat) (cs : Nat → ClassId) (u_r0 : Nat) (ν : Mem) (res : Int32 × Mem) (n : Nat) (h : C_QU_bindsHead n u_r0 ν = some res) : MetI l y_QU_bindsHead w_QU_bindsHead 0 0 b cs D ν [.ref (b + u_r0)] res := by
  refine Met.ofW (cc := b_QU_bindsHead) (maxL := 3) (ret := (Option.some Jvm.ClassFile.FieldType.boolean)) (by decide) rfl ?_
  intro p e s m args below meth c s₁ B hml hv
  obtain ⟨rfl, hK, hM⟩ := Wd.start hv
  have hx := B.exec
  have hb := B.bytes
  have hr := B.returns
  have hts : ∀ w ∈ jW, w.before _ s = true := fun w hw => atoms_spec (ws := w_QU_bindsHead) B.pre w (List.mem_cons_of_mem _ hw)
  have hown : s.vm.findClass "JoinedLeaves$Question" = some m.cls := findClass_of_methodNamed B.named
  have hlocks := B.notSynchronized
  have hl := lv_entry ([.ref (b + u_r0)]) (n := 3) (Nat.le_of_ble_eq_true rfl)
  rw [lg_entry_eq]
  generalize (lg_sl ([.ref (b + u_r0)]) ++ List.replicate (3 - (lg_sl ([.ref (b + u_r0)])).length) Slot.unset).toArray = ls at hl ⊢
  have hl : lv_has ls 3 [(0, .ref (b + u_r0))] := hl
  have key : ∀ N : Nat, (∀ (r0 : Nat) (i1 : Int32) (i2 : Int32) (μ : Mem) (H : Heap) (locs : List Loc) (ls : Array Slot), F_QU_bindsHead N 0 r0 i1 i2 μ = some res → Wd (Aw b (mN ν)) b cs D s.heap μ H locs → lv_has ls 3 [(0, .ref (b + r0))] → W p l e (headSpec w_QU_bindsHead { frames := 0, cells := 0, slots := 0, locals := 0 }).room s m ([.ref (b + u_r0)]).toArray below meth c H locs 0 0 (MQ below (va_Qi (fun r μ' => (r, μ') = res ∧ mN μ' ≤ mN ν) (Bw b cs D) (Aw b (mN ν))) ([.ref (b + u_r0)]).toArray s 0 0 (Aw b (mN ν))) (F0 m 0 ls [])) ∧
      (∀ (r0 : Nat) (i1 : Int32) (i2 : Int32) (μ : Mem) (H : Heap) (locs : List Loc) (ls : Array Slot), F_QU_bindsHead N 1 r0 i1 i2 μ = some res → Wd (Aw b (mN ν)) b cs D s.heap μ H locs → lv_has ls 3 [(0, .ref (b + r0)), (1, .int i1), (2, .int i2)] → W p l e (headSpec w_QU_bindsHead { frames := 0, cells := 0, slots := 0, locals := 0 }).room s m ([.ref (b + u_r0)]).toArray below meth c H locs 0 0 (MQ below (va_Qi (fun r μ' => (r, μ') = res ∧ mN μ' ≤ mN ν) (Bw b cs D) (Aw b (mN ν))) ([.ref (b + u_r0)]).toArray s 0 0 (Aw b (mN ν))) (F0 m 4 ls [])) := by
    intro N
    induction N with
    | zero => exact ⟨fun _ _ _ _ _ _ _ h => (nomatch h), fun _ _ _ _ _ _ _ h => (nomatch h)⟩
    | succ n ih =>
      obtain ⟨ih0, ih1⟩ := ih
      refine ⟨?_, ?_⟩
      · intro r0 i1 i2 μ H locs ls h hM hl
        have h : B_QU_bindsHead_0 n (F_QU_bindsHead n) r0 i1 i2 μ = some res := h
        unfold B_QU_bindsHead_0 at h
        refine lv_iconst (v := 0) hx hb d_QU_bindsHead_0 (by decide) ?_
        refine lv_istore_n hx hb d_QU_bindsHead_1 rfl hl (by decide) rfl (fun ls hl => ?_)
        have hl : lv_has ls 3 [(1, .int 0), (0, .ref (b + r0))] := hl
        refine lv_iconst (v := 0) hx hb d_QU_bindsHead_2 (by decide) ?_
        refine lv_istore_n hx hb d_QU_bindsHead_3 rfl hl (by decide) rfl (fun ls hl => ?_)
        have hl : lv_has ls 3 [(2, .int 0), (1, .int 0), (0, .ref (b + r0))] := hl
        exact ih1 _ _ _ _ _ _ _ h hM (lv_sub hl [2, 1, 0] rfl)
      · intro r0 i1 i2 μ H locs ls h hM hl
        have h : B_QU_bindsHead_1 n (F_QU_bindsHead n) r0 i1 i2 μ = some res := h
        unfold B_QU_bindsHead_1 at h
        refine lv_iload_n hx hb d_QU_bindsHead_4 rfl (lv_at hl 2 rfl) ?_
        refine lv_aload_n hx hb d_QU_bindsHead_5 rfl (lv_at hl 0 rfl) ?_
        obtain ⟨g1, h⟩ := of_g h
        refine g_get (C := "JoinedLeaves$Question") (T := T_QU) (N := 5) (ref := "JoinedLeaves$Question") (v := .int (mI μ r0 1)) hx hb hts jF_QU hown hK hM g1 (by decide) rfl 1 (by decide) (hts _ jm_1_7) (fun _ h9 => h9) (by decide) rfl d_QU_bindsHead_6 ?_
        refine lv_icmp_ge (tgt := 30) hx hb d_QU_bindsHead_9 (by decide) (fun hc => ?_) (fun hc => ?_)
        · replace h := of_t hc h
          refine lv_aload_n hx hb d_QU_bindsHead_30 rfl (lv_at hl 0 rfl) ?_
          refine g_get (C := "JoinedLeaves$Question") (T := T_QU) (N := 5) (ref := "JoinedLeaves$Question") (v := .int (mI μ r0 4)) hx hb hts jF_QU hown hK hM g1 (by decide) rfl 4 (by decide) (hts _ jm_1_10) (fun _ h9 => h9) (by decide) rfl d_QU_bindsHead_31 ?_
          refine lv_iload_n hx hb d_QU_bindsHead_34 rfl (lv_at hl 1 rfl) ?_
          refine lv_iconst (v := (-1)) hx hb d_QU_bindsHead_35 (by decide) ?_
          refine lv_ixor hx hb d_QU_bindsHead_36 ?_
          refine lv_iand hx hb d_QU_bindsHead_37 ?_
          refine lv_if_ne (tgt := 45) hx hb d_QU_bindsHead_38 (by decide) (fun hc => ?_) (fun hc => ?_)
          · replace h := of_f hc h
            refine lv_iconst (v := 0) hx hb d_QU_bindsHead_45 (by decide) ?_
            exact g_zret hx hb hr narrow_b0 hlocks hM (Option.some.inj h) d_QU_bindsHead_46
          · replace h := of_t hc h
            refine lv_iconst (v := 1) hx hb d_QU_bindsHead_41 (by decide) ?_
            refine lv_goto (tgt := 46) hx hb d_QU_bindsHead_42 (by decide) ?_
            exact g_zret hx hb hr narrow_b1 hlocks hM (Option.some.inj h) d_QU_bindsHead_46
        · replace h := of_f hc h
          refine lv_iload_n hx hb d_QU_bindsHead_12 rfl (lv_at hl 1 rfl) ?_
          refine lv_aload_n hx hb d_QU_bindsHead_13 rfl (lv_at hl 0 rfl) ?_
          obtain ⟨g2, h⟩ := of_g h
          refine g_get (C := "JoinedLeaves$Question") (T := T_QU) (N := 5) (ref := "JoinedLeaves$Question") (v := .ref (b + (mR μ r0 0))) hx hb hts jF_QU hown hK hM g1 (by decide) rfl 0 (by decide) (hts _ jm_1_6) (fun _ h9 => h9) (by decide) (rv_of (ok_0 g2)) d_QU_bindsHead_14 ?_
          refine lv_iload_n hx hb d_QU_bindsHead_17 rfl (lv_at hl 2 rfl) ?_
          obtain ⟨g3, h⟩ := of_g h
          obtain ⟨g4, h⟩ := of_g h
          refine g_aald (ty := (.object "JoinedLeaves$Atom")) hx hb hK hM 1 rfl rfl g2 g3 (ok_0 g4) d_QU_bindsHead_18 ?_
          refine g_getN (C := "JoinedLeaves$Atom") (T := T_AT) (N := 3) (ref := "JoinedLeaves$Atom") (v := .int (mI μ (mR μ (mR μ r0 0) (Int32.toNatClampNeg i2)) 1)) hx hb hts jF_AT hown hK hM g4 (by decide) rfl 1 (by decide) (hK.nest _ jn_8 rfl) (fun _ h9 => h9) (by decide) rfl d_QU_bindsHead_19 ?_
          refine lv_ior hx hb d_QU_bindsHead_22 ?_
          obtain ⟨v5, e_v5, h⟩ := of_b h
          refine top_i (Option.some.inj e_v5) ?_
          refine lv_istore_n hx hb d_QU_bindsHead_23 rfl hl (by decide) rfl (fun ls hl => ?_)
          have hl : lv_has ls 3 [(1, .int v5), (0, .ref (b + r0)), (2, .int i2)] := hl
          obtain ⟨v6, e_v6, h⟩ := of_b h
          refine lv_iinc (v := v6) hx hb d_QU_bindsHead_24 hl (k := 2) rfl (by rw [lit1]; exact Option.some.inj e_v6) (by decide) rfl (fun ls hl => ?_)
          have hl : lv_has ls 3 [(2, .int v6), (1, .int v5), (0, .ref (b + r0))] := hl
          refine lv_goto (tgt := 4) hx hb d_QU_bindsHead_27 (by decide) ?_
          exact ih1 _ _ _ _ _ _ _ h hM (lv_sub hl [2, 1, 0] rfl)
  exact (key n).1 _ _ _ _ _ _ _ h hM hl
abbrev w_QU_atomWith : List Cond := .code y_QU_atomWith b_QU_atomWith 3 (Option.some Jvm.ClassFile.FieldType.int) :: jW
def B_QU_atomWith_0 (n : Nat) (k : Nat → Nat → Int32 → Int32 → Mem → Option (Int32 × Mem)) (r0 : Nat) (i1 : Int32) (i2 : Int32) (μ : Mem) : Option (Int32 × Mem) :=
  k 1 r0 i1 0 μ
def B_QU_atomWith_1 (n : Nat) (k : Nat → Nat → Int32 → Int32 → Mem → Option (Int32 × Mem)) (r0 : Nat) (i1 : Int32) (i2 : Int32) (μ : Mem) : Option (Int32 × Mem) :=
  if ok μ r0 2 = true then if (mI μ r0 1) ≤ i2 then some ((-1), μ) else if ok μ (mR μ r0 0) 103 = true then if ib i2 (mZ μ (mR μ r0 0)) = true then if ok μ (mR μ (mR μ r0 0) (Int32.toNatClampNeg i2)) 1 = true then Option.bind (C_JL_isIn n i1 (mI μ (mR μ (mR μ r0 0) (Int32.toNatClampNeg i2)) 1) μ) (fun q5 => if q5.1 = 0 then Option.bind (some (i2 + 1)) (fun v6 => k 1 r0 i1 v6 q5.2) else some (i2, q5.2)) else none else none else none else none
def F_QU_atomWith : Nat → Nat → Nat → Int32 → Int32 → Mem → Option (Int32 × Mem)
  | 0 => fun _ _ _ _ _ => none
  | n + 1 => fun id r0 i1 i2 μ => match id with
    | 0 => B_QU_atomWith_0 n (F_QU_atomWith n) r0 i1 i2 μ
    | 1 => B_QU_atomWith_1 n (F_QU_atomWith n) r0 i1 i2 μ
    | _ => none
def C_QU_atomWith (n : Nat) (r0 : Nat) (i1 : Int32) (μ : Mem) : Option (Int32 × Mem) := F_QU_atomWith n 0 r0 i1 0 μ
set_option maxHeartbeats 4000000 in
set_option maxRecDepth 100000 in
theorem S_QU_atomWith (l : Launch) (D : va_G) (b : Nat) (cs : Nat → ClassId) (u_r0 : Nat) (u_i1 : Int32) (ν : Mem) (res : Int32 × Mem) (n : Nat) (h : C_QU_atomWith n u_r0 u_i1 ν = some res) : MetI l y_QU_atomWith w_QU_atomWith 1 21 b cs D ν [.ref (b + u_r0), .int u_i1] res := by
  refine Met.ofW (cc := b_QU_atomWith) (maxL := 3) (ret := (Option.some Jvm.ClassFile.FieldType.int)) (by decide) rfl ?_
  intro p e s m args below meth c s₁ B hml hv
  obtain ⟨rfl, hK, hM⟩ := Wd.start hv
  have hx := B.exec
  have hb := B.bytes
  have hr := B.returns
  have hts : ∀ w ∈ jW, w.before _ s = true := fun w hw => atoms_spec (ws := w_QU_atomWith) B.pre w (List.mem_cons_of_mem _ hw)
  have hown : s.vm.findClass "JoinedLeaves$Question" = some m.cls := findClass_of_methodNamed B.named
  have hlocks := B.notSynchronized
  have hl := lv_entry ([.ref (b + u_r0), .int u_i1]) (n := 3) (Nat.le_of_ble_eq_true rfl)
  rw [lg_entry_eq]
  generalize (lg_sl ([.ref (b + u_r0), .int u_i1]) ++ List.replicate (3 - (lg_sl ([.ref (b + u_r0), .int u_i1])).length) Slot.unset).toArray = ls at hl ⊢
  have hl : lv_has ls 3 [(0, .ref (b + u_r0)), (1, .int u_i1)] := hl
  have key : ∀ N : Nat, (∀ (r0 : Nat) (i1 : Int32) (i2 : Int32) (μ : Mem) (H : Heap) (locs : List Loc) (ls : Array Slot), F_QU_atomWith N 0 r0 i1 i2 μ = some res → Wd (Aw b (mN ν)) b cs D s.heap μ H locs → lv_has ls 3 [(0, .ref (b + r0)), (1, .int i1)] → W p l e (headSpec w_QU_atomWith { frames := 1, cells := 0, slots := 0, locals := 21 }).room s m ([.ref (b + u_r0), .int u_i1]).toArray below meth c H locs 0 0 (MQ below (va_Qi (fun r μ' => (r, μ') = res ∧ mN μ' ≤ mN ν) (Bw b cs D) (Aw b (mN ν))) ([.ref (b + u_r0), .int u_i1]).toArray s 0 0 (Aw b (mN ν))) (F0 m 0 ls [])) ∧
      (∀ (r0 : Nat) (i1 : Int32) (i2 : Int32) (μ : Mem) (H : Heap) (locs : List Loc) (ls : Array Slot), F_QU_atomWith N 1 r0 i1 i2 μ = some res → Wd (Aw b (mN ν)) b cs D s.heap μ H locs → lv_has ls 3 [(0, .ref (b + r0)), (1, .int i1), (2, .int i2)] → W p l e (headSpec w_QU_atomWith { frames := 1, cells := 0, slots := 0, locals := 21 }).room s m ([.ref (b + u_r0), .int u_i1]).toArray below meth c H locs 0 0 (MQ below (va_Qi (fun r μ' => (r, μ') = res ∧ mN μ' ≤ mN ν) (Bw b cs D) (Aw b (mN ν))) ([.ref (b + u_r0), .int u_i1]).toArray s 0 0 (Aw b (mN ν))) (F0 m 2 ls [])) := by
    intro N
    induction N with
    | zero => exact ⟨fun _ _ _ _ _ _ _ h => (nomatch h), fun _ _ _ _ _ _ _ h => (nomatch h)⟩
    | succ n ih =>
      obtain ⟨ih0, ih1⟩ := ih
      refine ⟨?_, ?_⟩
      · intro r0 i1 i2 μ H locs ls h hM hl
        have h : B_QU_atomWith_0 n (F_QU_atomWith n) r0 i1 i2 μ = some res := h
        unfold B_QU_atomWith_0 at h
        refine lv_iconst (v := 0) hx hb d_QU_atomWith_0 (by decide) ?_
        refine lv_istore_n hx hb d_QU_atomWith_1 rfl hl (by decide) rfl (fun ls hl => ?_)
        have hl : lv_has ls 3 [(2, .int 0), (0, .ref (b + r0)), (1, .int i1)] := hl
        exact ih1 _ _ _ _ _ _ _ h hM (lv_sub hl [1, 2, 0] rfl)
      · intro r0 i1 i2 μ H locs ls h hM hl
        have h : B_QU_atomWith_1 n (F_QU_atomWith n) r0 i1 i2 μ = some res := h
        unfold B_QU_atomWith_1 at h
        refine lv_iload_n hx hb d_QU_atomWith_2 rfl (lv_at hl 2 rfl) ?_
        refine lv_aload_n hx hb d_QU_atomWith_3 rfl (lv_at hl 0 rfl) ?_
        obtain ⟨g1, h⟩ := of_g h
        refine g_get (C := "JoinedLeaves$Question") (T := T_QU) (N := 5) (ref := "JoinedLeaves$Question") (v := .int (mI μ r0 1)) hx hb hts jF_QU hown hK hM g1 (by decide) rfl 1 (by decide) (hts _ jm_1_7) (fun _ h9 => h9) (by decide) rfl d_QU_atomWith_4 ?_
        refine lv_icmp_ge (tgt := 34) hx hb d_QU_atomWith_7 (by decide) (fun hc => ?_) (fun hc => ?_)
        · replace h := of_t hc h
          refine lv_iconst (v := (-1)) hx hb d_QU_atomWith_34 (by decide) ?_
          exact g_iret hx hb hr hlocks hM (Option.some.inj h) d_QU_atomWith_35
        · replace h := of_f hc h
          refine lv_iload_n hx hb d_QU_atomWith_10 rfl (lv_at hl 1 rfl) ?_
          refine lv_aload_n hx hb d_QU_atomWith_11 rfl (lv_at hl 0 rfl) ?_
          obtain ⟨g2, h⟩ := of_g h
          refine g_get (C := "JoinedLeaves$Question") (T := T_QU) (N := 5) (ref := "JoinedLeaves$Question") (v := .ref (b + (mR μ r0 0))) hx hb hts jF_QU hown hK hM g1 (by decide) rfl 0 (by decide) (hts _ jm_1_6) (fun _ h9 => h9) (by decide) (rv_of (ok_0 g2)) d_QU_atomWith_12 ?_
          refine lv_iload_n hx hb d_QU_atomWith_15 rfl (lv_at hl 2 rfl) ?_
          obtain ⟨g3, h⟩ := of_g h
          obtain ⟨g4, h⟩ := of_g h
          refine g_aald (ty := (.object "JoinedLeaves$Atom")) hx hb hK hM 1 rfl rfl g2 g3 (ok_0 g4) d_QU_atomWith_16 ?_
          refine g_getN (C := "JoinedLeaves$Atom") (T := T_AT) (N := 3) (ref := "JoinedLeaves$Atom") (v := .int (mI μ (mR μ (mR μ r0 0) (Int32.toNatClampNeg i2)) 1)) hx hb hts jF_AT hown hK hM g4 (by decide) rfl 1 (by decide) (hK.nest _ jn_8 rfl) (fun _ h9 => h9) (by decide) rfl d_QU_atomWith_17 ?_
          obtain ⟨q5, hq5, h⟩ := of_b h
          refine g_calli (va_runSN (As := [.int i1, .int (mI μ (mR μ (mR μ r0 0) (Int32.toNatClampNeg i2)) 1)]) (rest := []) ⟨hx, hb, hml, hown, hts⟩ (S_JL_isIn l D b cs i1 (mI μ (mR μ (mR μ r0 0) (Int32.toNatClampNeg i2)) 1) μ q5 n hq5) ⟨va_cnB 2 hts (goodIn_g jm_3_19) rfl rfl rfl (hK.2.1 _ jn_37) (hts _ jm_0_1) (by decide +kernel) ⟨Nat.le_of_ble_eq_true rfl, Nat.le_of_ble_eq_true rfl⟩, (hts _ jm_3_18), trivial⟩ (Wd.preS hK hM) rfl rfl hl.1 rfl (lv_room (Nat.le_of_ble_eq_true rfl)) d_QU_atomWith_20 ⟨Nat.le_of_ble_eq_true rfl, Nat.le_of_ble_eq_true rfl⟩) hM (fun H locs hM => ?_)
          refine lv_if_eq (tgt := 28) hx hb d_QU_atomWith_23 (by decide) (fun hc => ?_) (fun hc => ?_)
          · replace h := of_t hc h
            obtain ⟨v6, e_v6, h⟩ := of_b h
            refine lv_iinc (v := v6) hx hb d_QU_atomWith_28 hl (k := 2) rfl (by rw [lit1]; exact Option.some.inj e_v6) (by decide) rfl (fun ls hl => ?_)
            have hl : lv_has ls 3 [(2, .int v6), (0, .ref (b + r0)), (1, .int i1)] := hl
            refine lv_goto (tgt := 2) hx hb d_QU_atomWith_31 (by decide) ?_
            exact ih1 _ _ _ _ _ _ _ h hM (lv_sub hl [1, 2, 0] rfl)
          · replace h := of_f hc h
            refine lv_iload_n hx hb d_QU_atomWith_26 rfl (lv_at hl 2 rfl) ?_
            exact g_iret hx hb hr hlocks hM (Option.some.inj h) d_QU_atomWith_27
  exact (key n).1 _ _ _ _ _ _ _ h hM hl
