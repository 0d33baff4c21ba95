/-! By program (wip/whole/gen.py): for each method its function over memories, and its contract. -/
abbrev w_HA_init : List Cond := .code y_HA_init b_HA_init 2 (Option.none : Option Jvm.ClassFile.FieldType) :: jW
def C_HA_init (n : Nat) (r0 : Nat) (r1 : Nat) (μ : Mem) : Option Mem :=
  Option.bind (some (al μ 100 6)) (fun μ1 => if ok μ1 r0 3 = true then if ok μ1 (mN μ + 1) 100 = true then Option.bind (some (sR μ1 r0 1 (mN μ + 1))) (fun μ5 => Option.bind (some (al μ5 100 6)) (fun μ7 => if ok μ7 r0 3 = true then if ok μ7 (mN μ5 + 1) 100 = true then Option.bind (some (sR μ7 r0 2 (mN μ5 + 1))) (fun μ11 => Option.bind (some (al μ11 100 6)) (fun μ13 => if ok μ13 r0 3 = true then if ok μ13 (mN μ11 + 1) 100 = true then Option.bind (some (sR μ13 r0 3 (mN μ11 + 1))) (fun μ17 => if ok μ17 r0 3 = true then if ok μ17 r1 2 = true then Option.bind (some (sR μ17 r0 0 r1)) (fun μ21 => some μ21) else none else none) else none else none)) else none else none)) else none else none)
set_option maxHeartbeats 4000000 in
set_option maxRecDepth 100000 in
theorem S_HA_init (l : Launch) (D : va_G) (b : Nat) (cs : Nat → ClassId) (r0 : Nat) (r1 : Nat) (μ : Mem) (res : Mem) (n : Nat) (h : C_HA_init n r0 r1 μ = some res) : MetC l y_HA_init w_HA_init 1 3 18 12 b cs D μ [.ref (b + r0), .ref (b + r1)] res := by
  refine Met.ofW (cc := b_HA_init) (maxL := 2) (ret := (Option.none : Option Jvm.ClassFile.FieldType)) (by decide) rfl ?_
  intro p e s m args below meth c s₁ B hml hv
  obtain ⟨rfl, hsz, hK, hM⟩ := Wd.startC hv
  have hx := B.exec
  have hb := B.bytes
  have hr := B.returns
  have hts : ∀ w ∈ jW, w.before _ s = true := fun w hw => atoms_spec (ws := w_HA_init) B.pre w (List.mem_cons_of_mem _ hw)
  have hown : s.vm.findClass "JoinedLeaves$Hanging" = some m.cls := findClass_of_methodNamed B.named
  have hlocks := B.notSynchronized
  have hin : meth.name = "<init>" := (name_of_methodNamed B.named B.method).1
  have hN0 : mN μ = mN μ + 0 := rfl
  have hl := lv_entry ([.ref (b + r0), .ref (b + r1)]) (n := 2) (Nat.le_of_ble_eq_true rfl)
  rw [lg_entry_eq]
  generalize (lg_sl ([.ref (b + r0), .ref (b + r1)]) ++ List.replicate (2 - (lg_sl ([.ref (b + r0), .ref (b + r1)])).length) Slot.unset).toArray = ls at hl ⊢
  have hl : lv_has ls 2 [(0, .ref (b + r0)), (1, .ref (b + r1))] := hl
  unfold C_HA_init at h
  refine lv_aload_n hx hb d_HA_init_0 rfl (lv_at hl 0 rfl) ?_
  refine W.objInit hx hb hown (hts _ jm_1_21) (hts _ jm_0_22) (hts _ jm_0_23) rfl (by rw [hml]; exact hl.1) rfl d_HA_init_1 (Nat.le_of_ble_eq_true rfl) (Nat.le_of_ble_eq_true rfl) ?_
  refine W.eq (g2 := F0 m 4 ls []) rfl ?_
  refine lv_aload_n hx hb d_HA_init_4 rfl (lv_at hl 0 rfl) ?_
  refine lv_bipush (v := 6) hx hb d_HA_init_5 (by decide) ?_
  obtain ⟨μ1, e_μ1, h⟩ := of_b h
  refine g_newi (N := 6) (atype := .int) hx hb rfl (hts _ jm_0_36) hK hM (cs_of hsz hN0) rfl (by decide) (by decide) (by decide) (Nat.le_of_ble_eq_true rfl) (Nat.le_of_ble_eq_true rfl) d_HA_init_7 (fun H hM => ?_)
  refine W.widen (k := 1) (n := 6) (by decide) (by decide) ?_
  rw [Option.some.inj e_μ1] at hM
  have hN2 : mN μ1 = mN μ + 1 := by rw [← Option.some.inj e_μ1]; exact congrArg (· + 1) hN0
  obtain ⟨g3, h⟩ := of_g h
  obtain ⟨g4, h⟩ := of_g h
  obtain ⟨μ5, e_μ5, h⟩ := of_b h
  refine g_putrF (v := mN μ + 1) (C := "JoinedLeaves$Hanging") (T := T_HA) (N := 6) (ref := "JoinedLeaves$Hanging") hx hb hts jF_HA t_HA o_HA n_HA hown hK hM g3 (by decide) rfl 1 (by decide) (hts _ jm_1_23) (fun _ h9 => h9) rfl hin rfl (ty := (.array .int)) (by decide +kernel) rfl rfl (by decide) (fun _ => rfl) (ok_0 g4) d_HA_init_9 (fun H locs hM => ?_)
  rw [Option.some.inj e_μ5] at hM
  have hN6 : mN μ5 = mN μ + 1 := by rw [← Option.some.inj e_μ5]; exact hN2
  refine lv_aload_n hx hb d_HA_init_12 rfl (lv_at hl 0 rfl) ?_
  refine lv_bipush (v := 6) hx hb d_HA_init_13 (by decide) ?_
  obtain ⟨μ7, e_μ7, h⟩ := of_b h
  refine g_newi (N := 6) (atype := .int) hx hb rfl (hts _ jm_0_36) hK hM (cs_of hsz hN6) rfl (by decide) (by decide) (by decide) (Nat.le_of_ble_eq_true rfl) (Nat.le_of_ble_eq_true rfl) d_HA_init_15 (fun H hM => ?_)
  refine W.widen (k := 2) (n := 12) (by decide) (by decide) ?_
  rw [Option.some.inj e_μ7] at hM
  have hN8 : mN μ7 = mN μ + 2 := by rw [← Option.some.inj e_μ7]; exact congrArg (· + 1) hN6
  obtain ⟨g9, h⟩ := of_g h
  obtain ⟨g10, h⟩ := of_g h
  obtain ⟨μ11, e_μ11, h⟩ := of_b h
  refine g_putrF (v := mN μ5 + 1) (C := "JoinedLeaves$Hanging") (T := T_HA) (N := 6) (ref := "JoinedLeaves$Hanging") hx hb hts jF_HA t_HA o_HA n_HA hown hK hM g9 (by decide) rfl 2 (by decide) (hts _ jm_1_24) (fun _ h9 => h9) rfl hin rfl (ty := (.array .int)) (by decide +kernel) rfl rfl (by decide) (fun _ => rfl) (ok_0 g10) d_HA_init_17 (fun H locs hM => ?_)
  rw [Option.some.inj e_μ11] at hM
  have hN12 : mN μ11 = mN μ + 2 := by rw [← Option.some.inj e_μ11]; exact hN8
  refine lv_aload_n hx hb d_HA_init_20 rfl (lv_at hl 0 rfl) ?_
  refine lv_bipush (v := 6) hx hb d_HA_init_21 (by decide) ?_
  obtain ⟨μ13, e_μ13, h⟩ := of_b h
  refine g_newi (N := 6) (atype := .int) hx hb rfl (hts _ jm_0_36) hK hM (cs_of hsz hN12) rfl (by decide) (by decide) (by decide) (Nat.le_of_ble_eq_true rfl) (Nat.le_of_ble_eq_true rfl) d_HA_init_23 (fun H hM => ?_)
  refine W.widen (k := 3) (n := 18) (by decide) (by decide) ?_
  rw [Option.some.inj e_μ13] at hM
  have hN14 : mN μ13 = mN μ + 3 := by rw [← Option.some.inj e_μ13]; exact congrArg (· + 1) hN12
  obtain ⟨g15, h⟩ := of_g h
  obtain ⟨g16, h⟩ := of_g h
  obtain ⟨μ17, e_μ17, h⟩ := of_b h
  refine g_putrF (v := mN μ11 + 1) (C := "JoinedLeaves$Hanging") (T := T_HA) (N := 6) (ref := "JoinedLeaves$Hanging") hx hb hts jF_HA t_HA o_HA n_HA hown hK hM g15 (by decide) rfl 3 (by decide) (hts _ jm_1_25) (fun _ h9 => h9) rfl hin rfl (ty := (.array .int)) (by decide +kernel) rfl rfl (by decide) (fun _ => rfl) (ok_0 g16) d_HA_init_25 (fun H locs hM => ?_)
  rw [Option.some.inj e_μ17] at hM
  have hN18 : mN μ17 = mN μ + 3 := by rw [← Option.some.inj e_μ17]; exact hN14
  refine lv_aload_n hx hb d_HA_init_28 rfl (lv_at hl 0 rfl) ?_
  refine lv_aload_n hx hb d_HA_init_29 rfl (lv_at hl 1 rfl) ?_
  obtain ⟨g19, h⟩ := of_g h
  obtain ⟨g20, h⟩ := of_g h
  obtain ⟨μ21, e_μ21, h⟩ := of_b h
  refine g_putrF (v := r1) (C := "JoinedLeaves$Hanging") (T := T_HA) (N := 6) (ref := "JoinedLeaves$Hanging") hx hb hts jF_HA t_HA o_HA n_HA hown hK hM g19 (by decide) rfl 0 (by decide) (hts _ jm_1_22) (fun _ h9 => h9) rfl hin rfl (ty := (.object "JoinedLeaves$Question")) (by decide +kernel) rfl rfl (by decide) (fun _ => rfl) (ok_0 g20) d_HA_init_30 (fun H locs hM => ?_)
  rw [Option.some.inj e_μ21] at hM
  have hN22 : mN μ21 = mN μ + 3 := by rw [← Option.some.inj e_μ21]; exact hN18
  exact g_cret hx hb hr hlocks hM (Option.some.inj h) d_HA_init_33
abbrev w_HA_isTree : List Cond := .code y_HA_isTree b_HA_isTree 1 (Option.some Jvm.ClassFile.FieldType.boolean) :: jW
def C_HA_isTree (n : Nat) (r0 : Nat) (μ : Mem) : Option (Int32 × Mem) :=
  if ok μ r0 3 = true then if ok μ (mR μ r0 0) 2 = true then if 1 < ((mI μ (mR μ r0 0) 1) - (mI μ r0 4)) then some (0, μ) else some (1, μ) else none else none
set_option maxHeartbeats 4000000 in
set_option maxRecDepth 100000 in
theorem S_HA_isTree (l : Launch) (D : va_G) (b : Nat) (cs : Nat → ClassId) (r0 : Nat) (μ : Mem) (res : Int32 × Mem) (n : Nat) (h : C_HA_isTree n r0 μ = some res) : MetI l y_HA_isTree w_HA_isTree 0 0 b cs D μ [.ref (b + r0)] res := by
  refine Met.ofW (cc := b_HA_isTree) (maxL := 1) (ret := (Option.some Jvm.ClassFile.FieldType.boolean)) (by decide) rfl ?_
  intro p e s m args below meth c s₁ B hml hv
  obtain ⟨rfl, hK, hM⟩ := Wd.start hv
  have hx := B.exec
  have hb := B.bytes
  have hr := B.returns
  have hts : ∀ w ∈ jW, w.before _ s = true := fun w hw => atoms_spec (ws := w_HA_isTree) B.pre w (List.mem_cons_of_mem _ hw)
  have hown : s.vm.findClass "JoinedLeaves$Hanging" = some m.cls := findClass_of_methodNamed B.named
  have hlocks := B.notSynchronized
  have hl := lv_entry ([.ref (b + r0)]) (n := 1) (Nat.le_of_ble_eq_true rfl)
  rw [lg_entry_eq]
  generalize (lg_sl ([.ref (b + r0)]) ++ List.replicate (1 - (lg_sl ([.ref (b + r0)])).length) Slot.unset).toArray = ls at hl ⊢
  have hl : lv_has ls 1 [(0, .ref (b + r0))] := hl
  unfold C_HA_isTree at h
  refine lv_aload_n hx hb d_HA_isTree_0 rfl (lv_at hl 0 rfl) ?_
  obtain ⟨g1, h⟩ := of_g h
  obtain ⟨g2, h⟩ := of_g h
  refine g_get (C := "JoinedLeaves$Hanging") (T := T_HA) (N := 6) (ref := "JoinedLeaves$Hanging") (v := .ref (b + (mR μ r0 0))) hx hb hts jF_HA hown hK hM g1 (by decide) rfl 0 (by decide) (hts _ jm_1_22) (fun _ h9 => h9) (by decide) (rv_of (ok_0 g2)) d_HA_isTree_1 ?_
  refine g_getN (C := "JoinedLeaves$Question") (T := T_QU) (N := 5) (ref := "JoinedLeaves$Question") (v := .int (mI μ (mR μ r0 0) 1)) hx hb hts jF_QU hown hK hM g2 (by decide) rfl 1 (by decide) (hK.nest _ jn_13 rfl) (fun _ h9 => h9) (by decide) rfl d_HA_isTree_4 ?_
  refine lv_aload_n hx hb d_HA_isTree_7 rfl (lv_at hl 0 rfl) ?_
  refine g_get (C := "JoinedLeaves$Hanging") (T := T_HA) (N := 6) (ref := "JoinedLeaves$Hanging") (v := .int (mI μ r0 4)) hx hb hts jF_HA hown hK hM g1 (by decide) rfl 4 (by decide) (hts _ jm_1_26) (fun _ h9 => h9) (by decide) rfl d_HA_isTree_8 ?_
  refine lv_isub hx hb d_HA_isTree_11 ?_
  refine lv_iconst (v := 1) hx hb d_HA_isTree_12 (by decide) ?_
  refine lv_icmp_gt (tgt := 20) hx hb d_HA_isTree_13 (by decide) (fun hc => ?_) (fun hc => ?_)
  · replace h := of_t hc h
    refine lv_iconst (v := 0) hx hb d_HA_isTree_20 (by decide) ?_
    exact g_zret hx hb hr narrow_b0 hlocks hM (Option.some.inj h) d_HA_isTree_21
  · replace h := of_f hc h
    refine lv_iconst (v := 1) hx hb d_HA_isTree_16 (by decide) ?_
    refine lv_goto (tgt := 21) hx hb d_HA_isTree_17 (by decide) ?_
    exact g_zret hx hb hr narrow_b1 hlocks hM (Option.some.inj h) d_HA_isTree_21
abbrev w_HA_root : List Cond := .code y_HA_root b_HA_root 2 (Option.some Jvm.ClassFile.FieldType.int) :: jW
def B_HA_root_0 (n : Nat) (k : Nat → Nat → Int32 → Mem → Option (Int32 × Mem)) (r0 : Nat) (i1 : Int32) (μ : Mem) : Option (Int32 × Mem) :=
  k 1 r0 0 μ
def B_HA_root_1 (n : Nat) (k : Nat → Nat → Int32 → Mem → Option (Int32 × Mem)) (r0 : Nat) (i1 : Int32) (μ : Mem) : Option (Int32 × Mem) :=
  if ok μ r0 3 = true then if ok μ (mR μ r0 0) 2 = true then if (mI μ (mR μ r0 0) 1) ≤ i1 then some ((-1), μ) else Option.bind (C_JL_isIn n i1 (mI μ r0 5) μ) (fun q3 => if q3.1 = 0 then Option.bind (some (i1 + 1)) (fun v4 => k 1 r0 v4 q3.2) else some (i1, q3.2)) else none else none
def F_HA_root : Nat → Nat → Nat → Int32 → Mem → Option (Int32 × Mem)
  | 0 => fun _ _ _ _ => none
  | n + 1 => fun id r0 i1 μ => match id with
    | 0 => B_HA_root_0 n (F_HA_root n) r0 i1 μ
    | 1 => B_HA_root_1 n (F_HA_root n) r0 i1 μ
    | _ => none
def C_HA_root (n : Nat) (r0 : Nat) (μ : Mem) : Option (Int32 × Mem) := F_HA_root n 0 r0 0 μ
set_option maxHeartbeats 4000000 in
set_option maxRecDepth 100000 in
theorem S_HA_root (l : Launch) (D : va_G) (b : Nat) (cs : Nat → ClassId) (u_r0 : Nat) (ν : Mem) (res : Int32 × Mem) (n : Nat) (h : C_HA_root n u_r0 ν = some res) : MetI l y_HA_root w_HA_root 1 21 b cs D ν [.ref (b + u_r0)] res := by
  refine Met.ofW (cc := b_HA_root) (maxL := 2) (ret := (Option.some Jvm.ClassFile.FieldType.int)) (by decide) rfl ?_
  intro p e s m args below meth c s₁ B hml hv
  obtain ⟨rfl, hK, hM⟩ := Wd.start hv
  have hx := B.exec
  have hb := B.bytes
  have hr := B.returns
  have hts : ∀ w ∈ jW, w.before _ s = true := fun w hw => atoms_spec (ws := w_HA_root) B.pre w (List.mem_cons_of_mem _ hw)
  have hown : s.vm.findClass "JoinedLeaves$Hanging" = some m.cls := findClass_of_methodNamed B.named
  have hlocks := B.notSynchronized
  have hl := lv_entry ([.ref (b + u_r0)]) (n := 2) (Nat.le_of_ble_eq_true rfl)
  rw [lg_entry_eq]
  generalize (lg_sl ([.ref (b + u_r0)]) ++ List.replicate (2 - (lg_sl ([.ref (b + u_r0)])).length) Slot.unset).toArray = ls at hl ⊢
  have hl : lv_has ls 2 [(0, .ref (b + u_r0))] := hl
  have key : ∀ N : Nat, (∀ (r0 : Nat) (i1 : Int32) (μ : Mem) (H : Heap) (locs : List Loc) (ls : Array Slot), F_HA_root N 0 r0 i1 μ = some res → Wd (Aw b (mN ν)) b cs D s.heap μ H locs → lv_has ls 2 [(0, .ref (b + r0))] → W p l e (headSpec w_HA_root { frames := 1, cells := 0, slots := 0, locals := 21 }).room s m ([.ref (b + u_r0)]).toArray below meth c H locs 0 0 (MQ below (va_Qi (fun r μ' => (r, μ') = res ∧ mN μ' ≤ mN ν) (Bw b cs D) (Aw b (mN ν))) ([.ref (b + u_r0)]).toArray s 0 0 (Aw b (mN ν))) (F0 m 0 ls [])) ∧
      (∀ (r0 : Nat) (i1 : Int32) (μ : Mem) (H : Heap) (locs : List Loc) (ls : Array Slot), F_HA_root N 1 r0 i1 μ = some res → Wd (Aw b (mN ν)) b cs D s.heap μ H locs → lv_has ls 2 [(0, .ref (b + r0)), (1, .int i1)] → W p l e (headSpec w_HA_root { frames := 1, cells := 0, slots := 0, locals := 21 }).room s m ([.ref (b + u_r0)]).toArray below meth c H locs 0 0 (MQ below (va_Qi (fun r μ' => (r, μ') = res ∧ mN μ' ≤ mN ν) (Bw b cs D) (Aw b (mN ν))) ([.ref (b + u_r0)]).toArray s 0 0 (Aw b (mN ν))) (F0 m 2 ls [])) := by
    intro N
    induction N with
    | zero => exact ⟨fun _ _ _ _ _ _ h => (nomatch h), fun _ _ _ _ _ _ h => (nomatch h)⟩
    | succ n ih =>
      obtain ⟨ih0, ih1⟩ := ih
      refine ⟨?_, ?_⟩
      · intro r0 i1 μ H locs ls h hM hl
        have h : B_HA_root_0 n (F_HA_root n) r0 i1 μ = some res := h
        unfold B_HA_root_0 at h
        refine lv_iconst (v := 0) hx hb d_HA_root_0 (by decide) ?_
        refine lv_istore_n hx hb d_HA_root_1 rfl hl (by decide) rfl (fun ls hl => ?_)
        have hl : lv_has ls 2 [(1, .int 0), (0, .ref (b + r0))] := hl
        exact ih1 _ _ _ _ _ _ h hM (lv_sub hl [1, 0] rfl)
      · intro r0 i1 μ H locs ls h hM hl
        have h : B_HA_root_1 n (F_HA_root n) r0 i1 μ = some res := h
        unfold B_HA_root_1 at h
        refine lv_iload_n hx hb d_HA_root_2 rfl (lv_at hl 1 rfl) ?_
        refine lv_aload_n hx hb d_HA_root_3 rfl (lv_at hl 0 rfl) ?_
        obtain ⟨g1, h⟩ := of_g h
        obtain ⟨g2, h⟩ := of_g h
        refine g_get (C := "JoinedLeaves$Hanging") (T := T_HA) (N := 6) (ref := "JoinedLeaves$Hanging") (v := .ref (b + (mR μ r0 0))) hx hb hts jF_HA hown hK hM g1 (by decide) rfl 0 (by decide) (hts _ jm_1_22) (fun _ h9 => h9) (by decide) (rv_of (ok_0 g2)) d_HA_root_4 ?_
        refine g_getN (C := "JoinedLeaves$Question") (T := T_QU) (N := 5) (ref := "JoinedLeaves$Question") (v := .int (mI μ (mR μ r0 0) 1)) hx hb hts jF_QU hown hK hM g2 (by decide) rfl 1 (by decide) (hK.nest _ jn_13 rfl) (fun _ h9 => h9) (by decide) rfl d_HA_root_7 ?_
        refine lv_icmp_ge (tgt := 32) hx hb d_HA_root_10 (by decide) (fun hc => ?_) (fun hc => ?_)
        · replace h := of_t hc h
          refine lv_iconst (v := (-1)) hx hb d_HA_root_32 (by decide) ?_
          exact g_iret hx hb hr hlocks hM (Option.some.inj h) d_HA_root_33
        · replace h := of_f hc h
          refine lv_iload_n hx hb d_HA_root_13 rfl (lv_at hl 1 rfl) ?_
          refine lv_aload_n hx hb d_HA_root_14 rfl (lv_at hl 0 rfl) ?_
          refine g_get (C := "JoinedLeaves$Hanging") (T := T_HA) (N := 6) (ref := "JoinedLeaves$Hanging") (v := .int (mI μ r0 5)) hx hb hts jF_HA hown hK hM g1 (by decide) rfl 5 (by decide) (hts _ jm_1_27) (fun _ h9 => h9) (by decide) rfl d_HA_root_15 ?_
          obtain ⟨q3, hq3, h⟩ := of_b h
          refine g_calli (va_runSN (As := [.int i1, .int (mI μ r0 5)]) (rest := []) ⟨hx, hb, hml, hown, hts⟩ (S_JL_isIn l D b cs i1 (mI μ r0 5) μ q3 n hq3) ⟨va_cnB 2 hts (goodIn_g jm_3_19) rfl rfl rfl (hK.2.1 _ jn_34) (hts _ jm_0_1) (by decide +kernel) ⟨Nat.le_of_ble_eq_true rfl, Nat.le_of_ble_eq_true rfl⟩, (hts _ jm_3_18), trivial⟩ (Wd.preS hK hM) rfl rfl hl.1 rfl (lv_room (Nat.le_of_ble_eq_true rfl)) d_HA_root_18 ⟨Nat.le_of_ble_eq_true rfl, Nat.le_of_ble_eq_true rfl⟩) hM (fun H locs hM => ?_)
          refine lv_if_eq (tgt := 26) hx hb d_HA_root_21 (by decide) (fun hc => ?_) (fun hc => ?_)
          · replace h := of_t hc h
            obtain ⟨v4, e_v4, h⟩ := of_b h
            refine lv_iinc (v := v4) hx hb d_HA_root_26 hl (k := 1) rfl (by rw [lit1]; exact Option.some.inj e_v4) (by decide) rfl (fun ls hl => ?_)
            have hl : lv_has ls 2 [(1, .int v4), (0, .ref (b + r0))] := hl
            refine lv_goto (tgt := 2) hx hb d_HA_root_29 (by decide) ?_
            exact ih1 _ _ _ _ _ _ h hM (lv_sub hl [1, 0] rfl)
          · replace h := of_f hc h
            refine lv_iload_n hx hb d_HA_root_24 rfl (lv_at hl 1 rfl) ?_
            exact g_iret hx hb hr hlocks hM (Option.some.inj h) d_HA_root_25
  exact (key n).1 _ _ _ _ _ _ h hM hl
abbrev w_HA_variablesOf : List Cond := .code y_HA_variablesOf b_HA_variablesOf 4 (Option.some Jvm.ClassFile.FieldType.int) :: jW
def B_HA_variablesOf_0 (n : Nat) (k : Nat → Nat → Int32 → Int32 → Int32 → Mem → Option (Int32 × Mem)) (r0 : Nat) (i1 : Int32) (i2 : Int32) (i3 : Int32) (μ : Mem) : Option (Int32 × Mem) :=
  k 1 r0 i1 0 0 μ
def B_HA_variablesOf_1 (n : Nat) (k : Nat → Nat → Int32 → Int32 → Int32 → Mem → Option (Int32 × Mem)) (r0 : Nat) (i1 : Int32) (i2 : Int32) (i3 : Int32) (μ : Mem) : Option (Int32 × Mem) :=
  if ok μ r0 3 = true then if ok μ (mR μ r0 0) 2 = true then if (mI μ (mR μ r0 0) 1) ≤ i3 then some (i2, μ) else Option.bind (C_JL_isIn n i3 i1 μ) (fun q3 => if q3.1 = 0 then k 2 r0 i1 i2 i3 q3.2 else if ok q3.2 r0 3 = true then if ok q3.2 (mR q3.2 r0 0) 2 = true then if ok q3.2 (mR q3.2 (mR q3.2 r0 0) 0) 103 = true then if ib i3 (mZ q3.2 (mR q3.2 (mR q3.2 r0 0) 0)) = true then if ok q3.2 (mR q3.2 (mR q3.2 (mR q3.2 r0 0) 0) (Int32.toNatClampNeg i3)) 1 = true then Option.bind (some (i2 ||| (mI q3.2 (mR q3.2 (mR q3.2 (mR q3.2 r0 0) 0) (Int32.toNatClampNeg i3)) 1))) (fun v9 => k 2 r0 i1 v9 i3 q3.2) else none else none else none else none else none) else none else none
def B_HA_variablesOf_2 (n : Nat) (k : Nat → Nat → Int32 → Int32 → Int32 → Mem → Option (Int32 × Mem)) (r0 : Nat) (i1 : Int32) (i2 : Int32) (i3 : Int32) (μ : Mem) : Option (Int32 × Mem) :=
  Option.bind (some (i3 + 1)) (fun v10 => k 1 r0 i1 i2 v10 μ)
def F_HA_variablesOf : Nat → Nat → Nat → Int32 → Int32 → Int32 → Mem → Option (Int32 × Mem)
  | 0 => fun _ _ _ _ _ _ => none
  | n + 1 => fun id r0 i1 i2 i3 μ => match id with
    | 0 => B_HA_variablesOf_0 n (F_HA_variablesOf n) r0 i1 i2 i3 μ
    | 1 => B_HA_variablesOf_1 n (F_HA_variablesOf n) r0 i1 i2 i3 μ
    | 2 => B_HA_variablesOf_2 n (F_HA_variablesOf n) r0 i1 i2 i3 μ
    | _ => none
def C_HA_variablesOf (n : Nat) (r0 : Nat) (i1 : Int32) (μ : Mem) : Option (Int32 × Mem) := F_HA_variablesOf n 0 r0 i1 0 0 μ
set_option maxHeartbeats 4000000 in
set_option maxRecDepth 100000 in
theorem S_HA_variablesOf (l : Launch) (D : va_G) (b : Nat) (cs : Nat → ClassId) (u_r0 : Nat) (u_i1 : Int32) (ν : Mem) (res : Int32 × Mem) (n : Nat) (h : C_HA_variablesOf n u_r0 u_i1 ν = some res) : MetI l y_HA_variablesOf w_HA_variablesOf 1 21 b cs D ν [.ref (b + u_r0), .int u_i1] res := by
  refine Met.ofW (cc := b_HA_variablesOf) (maxL := 4) (ret := (Option.some Jvm.ClassFile.FieldType.int)) (by decide) rfl ?_
  intro p e s m args below meth c s₁ B hml hv
  obtain ⟨rfl, hK, hM⟩ := Wd.start hv
  have hx := B.exec
  have hb := B.bytes
  have hr := B.returns
  have hts : ∀ w ∈ jW, w.before _ s = true := fun w hw => atoms_spec (ws := w_HA_variablesOf) B.pre w (List.mem_cons_of_mem _ hw)
  have hown : s.vm.findClass "JoinedLeaves$Hanging" = some m.cls := findClass_of_methodNamed B.named
  have hlocks := B.notSynchronized
  have hl := lv_entry ([.ref (b + u_r0), .int u_i1]) (n := 4) (Nat.le_of_ble_eq_true rfl)
  rw [lg_entry_eq]
  generalize (lg_sl ([.ref (b + u_r0), .int u_i1]) ++ List.replicate (4 - (lg_sl ([.ref (b + u_r0), .int u_i1])).length) Slot.unset).toArray = ls at hl ⊢
  have hl : lv_has ls 4 [(0, .ref (b + u_r0)), (1, .int u_i1)] := hl
  have key : ∀ N : Nat, (∀ (r0 : Nat) (i1 : Int32) (i2 : Int32) (i3 : Int32) (μ : Mem) (H : Heap) (locs : List Loc) (ls : Array Slot), F_HA_variablesOf N 0 r0 i1 i2 i3 μ = some res → Wd (Aw b (mN ν)) b cs D s.heap μ H locs → lv_has ls 4 [(0, .ref (b + r0)), (1, .int i1)] → W p l e (headSpec w_HA_variablesOf { frames := 1, cells := 0, slots := 0, locals := 21 }).room s m ([.ref (b + u_r0), .int u_i1]).toArray below meth c H locs 0 0 (MQ below (va_Qi (fun r μ' => (r, μ') = res ∧ mN μ' ≤ mN ν) (Bw b cs D) (Aw b (mN ν))) ([.ref (b + u_r0), .int u_i1]).toArray s 0 0 (Aw b (mN ν))) (F0 m 0 ls [])) ∧
      (∀ (r0 : Nat) (i1 : Int32) (i2 : Int32) (i3 : Int32) (μ : Mem) (H : Heap) (locs : List Loc) (ls : Array Slot), F_HA_variablesOf N 1 r0 i1 i2 i3 μ = some res → Wd (Aw b (mN ν)) b cs D s.heap μ H locs → lv_has ls 4 [(0, .ref (b + r0)), (1, .int i1), (2, .int i2), (3, .int i3)] → W p l e (headSpec w_HA_variablesOf { frames := 1, cells := 0, slots := 0, locals := 21 }).room s m ([.ref (b + u_r0), .int u_i1]).toArray below meth c H locs 0 0 (MQ below (va_Qi (fun r μ' => (r, μ') = res ∧ mN μ' ≤ mN ν) (Bw b cs D) (Aw b (mN ν))) ([.ref (b + u_r0), .int u_i1]).toArray s 0 0 (Aw b (mN ν))) (F0 m 4 ls [])) ∧
      (∀ (r0 : Nat) (i1 : Int32) (i2 : Int32) (i3 : Int32) (μ : Mem) (H : Heap) (locs : List Loc) (ls : Array Slot), F_HA_variablesOf N 2 r0 i1 i2 i3 μ = some res → Wd (Aw b (mN ν)) b cs D s.heap μ H locs → lv_has ls 4 [(0, .ref (b + r0)), (1, .int i1), (2, .int i2), (3, .int i3)] → W p l e (headSpec w_HA_variablesOf { frames := 1, cells := 0, slots := 0, locals := 21 }).room s m ([.ref (b + u_r0), .int u_i1]).toArray below meth c H locs 0 0 (MQ below (va_Qi (fun r μ' => (r, μ') = res ∧ mN μ' ≤ mN ν) (Bw b cs D) (Aw b (mN ν))) ([.ref (b + u_r0), .int u_i1]).toArray s 0 0 (Aw b (mN ν))) (F0 m 38 ls [])) := by
    intro N
    induction N with
    | zero => exact ⟨fun _ _ _ _ _ _ _ _ h => (nomatch h), fun _ _ _ _ _ _ _ _ h => (nomatch h), fun _ _ _ _ _ _ _ _ h => (nomatch h)⟩
    | succ n ih =>
      obtain ⟨ih0, ih1, ih2⟩ := ih
      refine ⟨?_, ?_, ?_⟩
      · intro r0 i1 i2 i3 μ H locs ls h hM hl
        have h : B_HA_variablesOf_0 n (F_HA_variablesOf n) r0 i1 i2 i3 μ = some res := h
        unfold B_HA_variablesOf_0 at h
        refine lv_iconst (v := 0) hx hb d_HA_variablesOf_0 (by decide) ?_
        refine lv_istore_n hx hb d_HA_variablesOf_1 rfl hl (by decide) rfl (fun ls hl => ?_)
        have hl : lv_has ls 4 [(2, .int 0), (0, .ref (b + r0)), (1, .int i1)] := hl
        refine lv_iconst (v := 0) hx hb d_HA_variablesOf_2 (by decide) ?_
        refine lv_istore_n hx hb d_HA_variablesOf_3 rfl hl (by decide) rfl (fun ls hl => ?_)
        have hl : lv_has ls 4 [(3, .int 0), (2, .int 0), (0, .ref (b + r0)), (1, .int i1)] := hl
        exact ih1 _ _ _ _ _ _ _ _ h hM (lv_sub hl [2, 3, 1, 0] rfl)
      · intro r0 i1 i2 i3 μ H locs ls h hM hl
        have h : B_HA_variablesOf_1 n (F_HA_variablesOf n) r0 i1 i2 i3 μ = some res := h
        unfold B_HA_variablesOf_1 at h
        refine lv_iload_n hx hb d_HA_variablesOf_4 rfl (lv_at hl 3 rfl) ?_
        refine lv_aload_n hx hb d_HA_variablesOf_5 rfl (lv_at hl 0 rfl) ?_
        obtain ⟨g1, h⟩ := of_g h
        obtain ⟨g2, h⟩ := of_g h
        refine g_get (C := "JoinedLeaves$Hanging") (T := T_HA) (N := 6) (ref := "JoinedLeaves$Hanging") (v := .ref (b + (mR μ r0 0))) hx hb hts jF_HA hown hK hM g1 (by decide) rfl 0 (by decide) (hts _ jm_1_22) (fun _ h9 => h9) (by decide) (rv_of (ok_0 g2)) d_HA_variablesOf_6 ?_
        refine g_getN (C := "JoinedLeaves$Question") (T := T_QU) (N := 5) (ref := "JoinedLeaves$Question") (v := .int (mI μ (mR μ r0 0) 1)) hx hb hts jF_QU hown hK hM g2 (by decide) rfl 1 (by decide) (hK.nest _ jn_13 rfl) (fun _ h9 => h9) (by decide) rfl d_HA_variablesOf_9 ?_
        refine lv_icmp_ge (tgt := 44) hx hb d_HA_variablesOf_12 (by decide) (fun hc => ?_) (fun hc => ?_)
        · replace h := of_t hc h
          refine lv_iload_n hx hb d_HA_variablesOf_44 rfl (lv_at hl 2 rfl) ?_
          exact g_iret hx hb hr hlocks hM (Option.some.inj h) d_HA_variablesOf_45
        · replace h := of_f hc h
          refine lv_iload_n hx hb d_HA_variablesOf_15 rfl (lv_at hl 3 rfl) ?_
          refine lv_iload_n hx hb d_HA_variablesOf_16 rfl (lv_at hl 1 rfl) ?_
          obtain ⟨q3, hq3, h⟩ := of_b h
          refine g_calli (va_runSN (As := [.int i3, .int i1]) (rest := []) ⟨hx, hb, hml, hown, hts⟩ (S_JL_isIn l D b cs i3 i1 μ q3 n hq3) ⟨va_cnB 2 hts (goodIn_g jm_3_19) rfl rfl rfl (hK.2.1 _ jn_34) (hts _ jm_0_1) (by decide +kernel) ⟨Nat.le_of_ble_eq_true rfl, Nat.le_of_ble_eq_true rfl⟩, (hts _ jm_3_18), trivial⟩ (Wd.preS hK hM) rfl rfl hl.1 rfl (lv_room (Nat.le_of_ble_eq_true rfl)) d_HA_variablesOf_17 ⟨Nat.le_of_ble_eq_true rfl, Nat.le_of_ble_eq_true rfl⟩) hM (fun H locs hM => ?_)
          refine lv_if_eq (tgt := 38) hx hb d_HA_variablesOf_20 (by decide) (fun hc => ?_) (fun hc => ?_)
          · replace h := of_t hc h
            exact ih2 _ _ _ _ _ _ _ _ h hM (lv_sub hl [0, 1, 2, 3] rfl)
          · replace h := of_f hc h
            refine lv_iload_n hx hb d_HA_variablesOf_23 rfl (lv_at hl 2 rfl) ?_
            refine lv_aload_n hx hb d_HA_variablesOf_24 rfl (lv_at hl 0 rfl) ?_
            obtain ⟨g4, h⟩ := of_g h
            obtain ⟨g5, h⟩ := of_g h
            refine g_get (C := "JoinedLeaves$Hanging") (T := T_HA) (N := 6) (ref := "JoinedLeaves$Hanging") (v := .ref (b + (mR q3.2 r0 0))) hx hb hts jF_HA hown hK hM g4 (by decide) rfl 0 (by decide) (hts _ jm_1_22) (fun _ h9 => h9) (by decide) (rv_of (ok_0 g5)) d_HA_variablesOf_25 ?_
            obtain ⟨g6, h⟩ := of_g h
            refine g_getN (C := "JoinedLeaves$Question") (T := T_QU) (N := 5) (ref := "JoinedLeaves$Question") (v := .ref (b + (mR q3.2 (mR q3.2 r0 0) 0))) hx hb hts jF_QU hown hK hM g5 (by decide) rfl 0 (by decide) (hK.nest _ jn_12 rfl) (fun _ h9 => h9) (by decide) (rv_of (ok_0 g6)) d_HA_variablesOf_28 ?_
            refine lv_iload_n hx hb d_HA_variablesOf_31 rfl (lv_at hl 3 rfl) ?_
            obtain ⟨g7, h⟩ := of_g h
            obtain ⟨g8, h⟩ := of_g h
            refine g_aald (ty := (.object "JoinedLeaves$Atom")) hx hb hK hM 1 rfl rfl g6 g7 (ok_0 g8) d_HA_variablesOf_32 ?_
            refine g_getN (C := "JoinedLeaves$Atom") (T := T_AT) (N := 3) (ref := "JoinedLeaves$Atom") (v := .int (mI q3.2 (mR q3.2 (mR q3.2 (mR q3.2 r0 0) 0) (Int32.toNatClampNeg i3)) 1)) hx hb hts jF_AT hown hK hM g8 (by decide) rfl 1 (by decide) (hK.nest _ jn_9 rfl) (fun _ h9 => h9) (by decide) rfl d_HA_variablesOf_33 ?_
            refine lv_ior hx hb d_HA_variablesOf_36 ?_
            obtain ⟨v9, e_v9, h⟩ := of_b h
            refine top_i (Option.some.inj e_v9) ?_
            refine lv_istore_n hx hb d_HA_variablesOf_37 rfl hl (by decide) rfl (fun ls hl => ?_)
            have hl : lv_has ls 4 [(2, .int v9), (0, .ref (b + r0)), (1, .int i1), (3, .int i3)] := hl
            exact ih2 _ _ _ _ _ _ _ _ h hM (lv_sub hl [1, 2, 0, 3] rfl)
      · intro r0 i1 i2 i3 μ H locs ls h hM hl
        have h : B_HA_variablesOf_2 n (F_HA_variablesOf n) r0 i1 i2 i3 μ = some res := h
        unfold B_HA_variablesOf_2 at h
        obtain ⟨v10, e_v10, h⟩ := of_b h
        refine lv_iinc (v := v10) hx hb d_HA_variablesOf_38 hl (k := 3) rfl (by rw [lit1]; exact Option.some.inj e_v10) (by decide) rfl (fun ls hl => ?_)
        have hl : lv_has ls 4 [(3, .int v10), (0, .ref (b + r0)), (1, .int i1), (2, .int i2)] := hl
        refine lv_goto (tgt := 4) hx hb d_HA_variablesOf_41 (by decide) ?_
        exact ih1 _ _ _ _ _ _ _ _ h hM (lv_sub hl [1, 2, 3, 0] rfl)
  exact (key n).1 _ _ _ _ _ _ _ _ h hM hl
abbrev w_HA_leastHolderOf : List Cond := .code y_HA_leastHolderOf b_HA_leastHolderOf 5 (Option.some Jvm.ClassFile.FieldType.int) :: jW
def B_HA_leastHolderOf_0 (n : Nat) (k : Nat → Nat → Int32 → Int32 → Int32 → Int32 → Mem → Option (Int32 × Mem)) (r0 : Nat) (i1 : Int32) (i2 : Int32) (i3 : Int32) (i4 : Int32) (μ : Mem) : Option (Int32 × Mem) :=
  if ok μ r0 3 = true then Option.bind (C_JL_isIn n i1 (mI μ r0 5) μ) (fun q2 => if q2.1 = 0 then some ((-1), q2.2) else if ok q2.2 r0 3 = true then Option.bind (some ((mI q2.2 r0 5) &&& ((1 <<< (i1 &&& 31)) ^^^ (-1)))) (fun v4 => if ok q2.2 (mR q2.2 r0 0) 2 = true then if ok q2.2 (mR q2.2 (mR q2.2 r0 0) 0) 103 = true then if ib i1 (mZ q2.2 (mR q2.2 (mR q2.2 r0 0) 0)) = true then if ok q2.2 (mR q2.2 (mR q2.2 (mR q2.2 r0 0) 0) (Int32.toNatClampNeg i1)) 1 = true then Option.bind (C_HA_variablesOf n r0 v4 q2.2) (fun q9 => Option.bind (some ((mI q2.2 (mR q2.2 (mR q2.2 (mR q2.2 r0 0) 0) (Int32.toNatClampNeg i1)) 1) &&& q9.1)) (fun v10 => k 1 r0 0 v4 v10 0 q9.2)) else none else none else none else none) else none) else none
def B_HA_leastHolderOf_1 (n : Nat) (k : Nat → Nat → Int32 → Int32 → Int32 → Int32 → Mem → Option (Int32 × Mem)) (r0 : Nat) (i1 : Int32) (i2 : Int32) (i3 : Int32) (i4 : Int32) (μ : Mem) : Option (Int32 × Mem) :=
  if ok μ r0 3 = true then if ok μ (mR μ r0 0) 2 = true then if (mI μ (mR μ r0 0) 1) ≤ i4 then some ((-1), μ) else Option.bind (C_JL_isIn n i4 i2 μ) (fun q13 => if q13.1 = 0 then k 2 r0 0 i2 i3 i4 q13.2 else if ok q13.2 r0 3 = true then if ok q13.2 (mR q13.2 r0 0) 2 = true then if ok q13.2 (mR q13.2 (mR q13.2 r0 0) 0) 103 = true then if ib i4 (mZ q13.2 (mR q13.2 (mR q13.2 r0 0) 0)) = true then if ok q13.2 (mR q13.2 (mR q13.2 (mR q13.2 r0 0) 0) (Int32.toNatClampNeg i4)) 1 = true then if (i3 &&& ((mI q13.2 (mR q13.2 (mR q13.2 (mR q13.2 r0 0) 0) (Int32.toNatClampNeg i4)) 1) ^^^ (-1))) = 0 then some (i4, q13.2) else k 2 r0 0 i2 i3 i4 q13.2 else none else none else none else none else none) else none else none
def B_HA_leastHolderOf_2 (n : Nat) (k : Nat → Nat → Int32 → Int32 → Int32 → Int32 → Mem → Option (Int32 × Mem)) (r0 : Nat) (i1 : Int32) (i2 : Int32) (i3 : Int32) (i4 : Int32) (μ : Mem) : Option (Int32 × Mem) :=
  Option.bind (some (i4 + 1)) (fun v19 => k 1 r0 0 i2 i3 v19 μ)
def F_HA_leastHolderOf : Nat → Nat → Nat → Int32 → Int32 → Int32 → Int32 → Mem → Option (Int32 × Mem)
  | 0 => fun _ _ _ _ _ _ _ => none
  | n + 1 => fun id r0 i1 i2 i3 i4 μ => match id with
    | 0 => B_HA_leastHolderOf_0 n (F_HA_leastHolderOf n) r0 i1 i2 i3 i4 μ
    | 1 => B_HA_leastHolderOf_1 n (F_HA_leastHolderOf n) r0 i1 i2 i3 i4 μ
    | 2 => B_HA_leastHolderOf_2 n (F_HA_leastHolderOf n) r0 i1 i2 i3 i4 μ
    | _ => none
def C_HA_leastHolderOf (n : Nat) (r0 : Nat) (i1 : Int32) (μ : Mem) : Option (Int32 × Mem) := F_HA_leastHolderOf n 0 r0 i1 0 0 0 μ
set_option maxHeartbeats 4000000 in
set_option maxRecDepth 100000 in
theorem S_HA_leastHolderOf (l : Launch) (D : va_G) (b : Nat) (cs : Nat → ClassId) (u_r0 : Nat) (u_i1 : Int32) (ν : Mem) (res : Int32 × Mem) (n : Nat) (h : C_HA_leastHolderOf n u_r0 u_i1 ν = some res) : MetI l y_HA_leastHolderOf w_HA_leastHolderOf 2 44 b cs D ν [.ref (b + u_r0), .int u_i1] res := by
  refine Met.ofW (cc := b_HA_leastHolderOf) (maxL := 5) (ret := (Option.some Jvm.ClassFile.FieldType.int)) (by decide) rfl ?_
  intro p e s m args below meth c s₁ B hml hv
  obtain ⟨rfl, hK, hM⟩ := Wd.start hv
  have hx := B.exec
  have hb := B.bytes
  have hr := B.returns
  have hts : ∀ w ∈ jW, w.before _ s = true := fun w hw => atoms_spec (ws := w_HA_leastHolderOf) B.pre w (List.mem_cons_of_mem _ hw)
  have hown : s.vm.findClass "JoinedLeaves$Hanging" = some m.cls := findClass_of_methodNamed B.named
  have hlocks := B.notSynchronized
  have hl := lv_entry ([.ref (b + u_r0), .int u_i1]) (n := 5) (Nat.le_of_ble_eq_true rfl)
  rw [lg_entry_eq]
  generalize (lg_sl ([.ref (b + u_r0), .int u_i1]) ++ List.replicate (5 - (lg_sl ([.ref (b + u_r0), .int u_i1])).length) Slot.unset).toArray = ls at hl ⊢
  have hl : lv_has ls 5 [(0, .ref (b + u_r0)), (1, .int u_i1)] := hl
  have key : ∀ N : Nat, (∀ (r0 : Nat) (i1 : Int32) (i2 : Int32) (i3 : Int32) (i4 : Int32) (μ : Mem) (H : Heap) (locs : List Loc) (ls : Array Slot), F_HA_leastHolderOf N 0 r0 i1 i2 i3 i4 μ = some res → Wd (Aw b (mN ν)) b cs D s.heap μ H locs → lv_has ls 5 [(0, .ref (b + r0)), (1, .int i1)] → W p l e (headSpec w_HA_leastHolderOf { frames := 2, cells := 0, slots := 0, locals := 44 }).room s m ([.ref (b + u_r0), .int u_i1]).toArray below meth c H locs 0 0 (MQ below (va_Qi (fun r μ' => (r, μ') = res ∧ mN μ' ≤ mN ν) (Bw b cs D) (Aw b (mN ν))) ([.ref (b + u_r0), .int u_i1]).toArray s 0 0 (Aw b (mN ν))) (F0 m 0 ls [])) ∧
      (∀ (r0 : Nat) (i1 : Int32) (i2 : Int32) (i3 : Int32) (i4 : Int32) (μ : Mem) (H : Heap) (locs : List Loc) (ls : Array Slot), F_HA_leastHolderOf N 1 r0 i1 i2 i3 i4 μ = some res → Wd (Aw b (mN ν)) b cs D s.heap μ H locs → lv_has ls 5 [(0, .ref (b + r0)), (2, .int i2), (3, .int i3), (4, .int i4)] → W p l e (headSpec w_HA_leastHolderOf { frames := 2, cells := 0, slots := 0, locals := 44 }).room s m ([.ref (b + u_r0), .int u_i1]).toArray below meth c H locs 0 0 (MQ below (va_Qi (fun r μ' => (r, μ') = res ∧ mN μ' ≤ mN ν) (Bw b cs D) (Aw b (mN ν))) ([.ref (b + u_r0), .int u_i1]).toArray s 0 0 (Aw b (mN ν))) (F0 m 46 ls [])) ∧
      (∀ (r0 : Nat) (i1 : Int32) (i2 : Int32) (i3 : Int32) (i4 : Int32) (μ : Mem) (H : Heap) (locs : List Loc) (ls : Array Slot), F_HA_leastHolderOf N 2 r0 i1 i2 i3 i4 μ = some res → Wd (Aw b (mN ν)) b cs D s.heap μ H locs → lv_has ls 5 [(0, .ref (b + r0)), (2, .int i2), (3, .int i3), (4, .int i4)] → W p l e (headSpec w_HA_leastHolderOf { frames := 2, cells := 0, slots := 0, locals := 44 }).room s m ([.ref (b + u_r0), .int u_i1]).toArray below meth c H locs 0 0 (MQ below (va_Qi (fun r μ' => (r, μ') = res ∧ mN μ' ≤ mN ν) (Bw b cs D) (Aw b (mN ν))) ([.ref (b + u_r0), .int u_i1]).toArray s 0 0 (Aw b (mN ν))) (F0 m 90 ls [])) := by
    intro N
    induction N with
    | zero => exact ⟨fun _ _ _ _ _ _ _ _ _ h => (nomatch h), fun _ _ _ _ _ _ _ _ _ h => (nomatch h), fun _ _ _ _ _ _ _ _ _ h => (nomatch h)⟩
    | succ n ih =>
      obtain ⟨ih0, ih1, ih2⟩ := ih
      refine ⟨?_, ?_, ?_⟩
      · intro r0 i1 i2 i3 i4 μ H locs ls h hM hl
        have h : B_HA_leastHolderOf_0 n (F_HA_leastHolderOf n) r0 i1 i2 i3 i4 μ = some res := h
        unfold B_HA_leastHolderOf_0 at h
        refine lv_iload_n hx hb d_HA_leastHolderOf_0 rfl (lv_at hl 1 rfl) ?_
        refine lv_aload_n hx hb d_HA_leastHolderOf_1 rfl (lv_at hl 0 rfl) ?_
        obtain ⟨g1, h⟩ := of_g h
        refine g_get (C := "JoinedLeaves$Hanging") (T := T_HA) (N := 6) (ref := "JoinedLeaves$Hanging") (v := .int (mI μ r0 5)) hx hb hts jF_HA hown hK hM g1 (by decide) rfl 5 (by decide) (hts _ jm_1_27) (fun _ h9 => h9) (by decide) rfl d_HA_leastHolderOf_2 ?_
        obtain ⟨q2, hq2, h⟩ := of_b h
        refine g_calli (va_runSN (As := [.int i1, .int (mI μ r0 5)]) (rest := []) ⟨hx, hb, hml, hown, hts⟩ (S_JL_isIn l D b cs i1 (mI μ r0 5) μ q2 n hq2) ⟨va_cnB 2 hts (goodIn_g jm_3_19) rfl rfl rfl (hK.2.1 _ jn_34) (hts _ jm_0_1) (by decide +kernel) ⟨Nat.le_of_ble_eq_true rfl, Nat.le_of_ble_eq_true rfl⟩, (hts _ jm_3_18), trivial⟩ (Wd.preS hK hM) rfl rfl hl.1 rfl (lv_room (Nat.le_of_ble_eq_true rfl)) d_HA_leastHolderOf_5 ⟨Nat.le_of_ble_eq_true rfl, Nat.le_of_ble_eq_true rfl⟩) hM (fun H locs hM => ?_)
        refine lv_if_ne (tgt := 13) hx hb d_HA_leastHolderOf_8 (by decide) (fun hc => ?_) (fun hc => ?_)
        · replace h := of_f hc h
          refine lv_aload_n hx hb d_HA_leastHolderOf_13 rfl (lv_at hl 0 rfl) ?_
          obtain ⟨g3, h⟩ := of_g h
          refine g_get (C := "JoinedLeaves$Hanging") (T := T_HA) (N := 6) (ref := "JoinedLeaves$Hanging") (v := .int (mI q2.2 r0 5)) hx hb hts jF_HA hown hK hM g3 (by decide) rfl 5 (by decide) (hts _ jm_1_27) (fun _ h9 => h9) (by decide) rfl d_HA_leastHolderOf_14 ?_
          refine lv_iconst (v := 1) hx hb d_HA_leastHolderOf_17 (by decide) ?_
          refine lv_iload_n hx hb d_HA_leastHolderOf_18 rfl (lv_at hl 1 rfl) ?_
          refine lv_ishl hx hb d_HA_leastHolderOf_19 ?_
          refine lv_iconst (v := (-1)) hx hb d_HA_leastHolderOf_20 (by decide) ?_
          refine lv_ixor hx hb d_HA_leastHolderOf_21 ?_
          refine lv_iand hx hb d_HA_leastHolderOf_22 ?_
          obtain ⟨v4, e_v4, h⟩ := of_b h
          refine top_i (Option.some.inj e_v4) ?_
          refine lv_istore_n hx hb d_HA_leastHolderOf_23 rfl hl (by decide) rfl (fun ls hl => ?_)
          have hl : lv_has ls 5 [(2, .int v4), (0, .ref (b + r0)), (1, .int i1)] := hl
          refine lv_aload_n hx hb d_HA_leastHolderOf_24 rfl (lv_at hl 1 rfl) ?_
          obtain ⟨g5, h⟩ := of_g h
          refine g_get (C := "JoinedLeaves$Hanging") (T := T_HA) (N := 6) (ref := "JoinedLeaves$Hanging") (v := .ref (b + (mR q2.2 r0 0))) hx hb hts jF_HA hown hK hM g3 (by decide) rfl 0 (by decide) (hts _ jm_1_22) (fun _ h9 => h9) (by decide) (rv_of (ok_0 g5)) d_HA_leastHolderOf_25 ?_
          obtain ⟨g6, h⟩ := of_g h
          refine g_getN (C := "JoinedLeaves$Question") (T := T_QU) (N := 5) (ref := "JoinedLeaves$Question") (v := .ref (b + (mR q2.2 (mR q2.2 r0 0) 0))) hx hb hts jF_QU hown hK hM g5 (by decide) rfl 0 (by decide) (hK.nest _ jn_12 rfl) (fun _ h9 => h9) (by decide) (rv_of (ok_0 g6)) d_HA_leastHolderOf_28 ?_
          refine lv_iload_n hx hb d_HA_leastHolderOf_31 rfl (lv_at hl 2 rfl) ?_
          obtain ⟨g7, h⟩ := of_g h
          obtain ⟨g8, h⟩ := of_g h
          refine g_aald (ty := (.object "JoinedLeaves$Atom")) hx hb hK hM 1 rfl rfl g6 g7 (ok_0 g8) d_HA_leastHolderOf_32 ?_
          refine g_getN (C := "JoinedLeaves$Atom") (T := T_AT) (N := 3) (ref := "JoinedLeaves$Atom") (v := .int (mI q2.2 (mR q2.2 (mR q2.2 (mR q2.2 r0 0) 0) (Int32.toNatClampNeg i1)) 1)) hx hb hts jF_AT hown hK hM g8 (by decide) rfl 1 (by decide) (hK.nest _ jn_9 rfl) (fun _ h9 => h9) (by decide) rfl d_HA_leastHolderOf_33 ?_
          refine lv_aload_n hx hb d_HA_leastHolderOf_36 rfl (lv_at hl 1 rfl) ?_
          refine lv_iload_n hx hb d_HA_leastHolderOf_37 rfl (lv_at hl 0 rfl) ?_
          obtain ⟨q9, hq9, h⟩ := of_b h
          refine g_calli (va_runV (As := [.int v4]) (rest := [.int (mI q2.2 (mR q2.2 (mR q2.2 (mR q2.2 r0 0) 0) (Int32.toNatClampNeg i1)) 1)]) ⟨hx, hb, hml, hown, hts⟩ (S_HA_variablesOf l D b cs r0 v4 q2.2 q9 n hq9) ⟨callB_of 1 hts (goodIn_g jm_3_22) rfl rfl rfl (hts _ jm_0_5) (hts _ jm_3_20) (by decide +kernel) ⟨Nat.le_of_ble_eq_true rfl, Nat.le_of_ble_eq_true rfl⟩, (hts _ jm_3_21), (hts _ jm_11_29)⟩ (Wd.preV hK hM g3 rfl (by decide)) rfl rfl hl.1 rfl (lv_room (Nat.le_of_ble_eq_true rfl)) d_HA_leastHolderOf_38 ⟨Nat.le_of_ble_eq_true rfl, Nat.le_of_ble_eq_true rfl⟩) hM (fun H locs hM => ?_)
          refine lv_iand hx hb d_HA_leastHolderOf_41 ?_
          obtain ⟨v10, e_v10, h⟩ := of_b h
          refine top_i (Option.some.inj e_v10) ?_
          refine lv_istore_n hx hb d_HA_leastHolderOf_42 rfl hl (by decide) rfl (fun ls hl => ?_)
          have hl : lv_has ls 5 [(3, .int v10), (2, .int v4), (0, .ref (b + r0)), (1, .int i1)] := hl
          refine lv_iconst (v := 0) hx hb d_HA_leastHolderOf_43 (by decide) ?_
          refine lv_istore hx hb d_HA_leastHolderOf_44 hl (by decide) rfl (fun ls hl => ?_)
          have hl : lv_has ls 5 [(4, .int 0), (3, .int v10), (2, .int v4), (0, .ref (b + r0)), (1, .int i1)] := hl
          exact ih1 _ _ _ _ _ _ _ _ _ h hM (lv_sub hl [3, 2, 1, 0] rfl)
        · replace h := of_t hc h
          refine lv_iconst (v := (-1)) hx hb d_HA_leastHolderOf_11 (by decide) ?_
          exact g_iret hx hb hr hlocks hM (Option.some.inj h) d_HA_leastHolderOf_12
      · intro r0 i1 i2 i3 i4 μ H locs ls h hM hl
        have h : B_HA_leastHolderOf_1 n (F_HA_leastHolderOf n) r0 i1 i2 i3 i4 μ = some res := h
        unfold B_HA_leastHolderOf_1 at h
        refine lv_iload hx hb d_HA_leastHolderOf_46 (lv_at hl 3 rfl) ?_
        refine lv_aload_n hx hb d_HA_leastHolderOf_48 rfl (lv_at hl 0 rfl) ?_
        obtain ⟨g11, h⟩ := of_g h
        obtain ⟨g12, h⟩ := of_g h
        refine g_get (C := "JoinedLeaves$Hanging") (T := T_HA) (N := 6) (ref := "JoinedLeaves$Hanging") (v := .ref (b + (mR μ r0 0))) hx hb hts jF_HA hown hK hM g11 (by decide) rfl 0 (by decide) (hts _ jm_1_22) (fun _ h9 => h9) (by decide) (rv_of (ok_0 g12)) d_HA_leastHolderOf_49 ?_
        refine g_getN (C := "JoinedLeaves$Question") (T := T_QU) (N := 5) (ref := "JoinedLeaves$Question") (v := .int (mI μ (mR μ r0 0) 1)) hx hb hts jF_QU hown hK hM g12 (by decide) rfl 1 (by decide) (hK.nest _ jn_13 rfl) (fun _ h9 => h9) (by decide) rfl d_HA_leastHolderOf_52 ?_
        refine lv_icmp_ge (tgt := 96) hx hb d_HA_leastHolderOf_55 (by decide) (fun hc => ?_) (fun hc => ?_)
        · replace h := of_t hc h
          refine lv_iconst (v := (-1)) hx hb d_HA_leastHolderOf_96 (by decide) ?_
          exact g_iret hx hb hr hlocks hM (Option.some.inj h) d_HA_leastHolderOf_97
        · replace h := of_f hc h
          refine lv_iload hx hb d_HA_leastHolderOf_58 (lv_at hl 3 rfl) ?_
          refine lv_iload_n hx hb d_HA_leastHolderOf_60 rfl (lv_at hl 1 rfl) ?_
          obtain ⟨q13, hq13, h⟩ := of_b h
          refine g_calli (va_runSN (As := [.int i4, .int i2]) (rest := []) ⟨hx, hb, hml, hown, hts⟩ (S_JL_isIn l D b cs i4 i2 μ q13 n hq13) ⟨va_cnB 2 hts (goodIn_g jm_3_19) rfl rfl rfl (hK.2.1 _ jn_34) (hts _ jm_0_1) (by decide +kernel) ⟨Nat.le_of_ble_eq_true rfl, Nat.le_of_ble_eq_true rfl⟩, (hts _ jm_3_18), trivial⟩ (Wd.preS hK hM) rfl rfl hl.1 rfl (lv_room (Nat.le_of_ble_eq_true rfl)) d_HA_leastHolderOf_61 ⟨Nat.le_of_ble_eq_true rfl, Nat.le_of_ble_eq_true rfl⟩) hM (fun H locs hM => ?_)
          refine lv_if_eq (tgt := 90) hx hb d_HA_leastHolderOf_64 (by decide) (fun hc => ?_) (fun hc => ?_)
          · replace h := of_t hc h
            exact ih2 _ _ _ _ _ _ _ _ _ h hM (lv_sub hl [0, 1, 2, 3] rfl)
          · replace h := of_f hc h
            refine lv_iload_n hx hb d_HA_leastHolderOf_67 rfl (lv_at hl 2 rfl) ?_
            refine lv_aload_n hx hb d_HA_leastHolderOf_68 rfl (lv_at hl 0 rfl) ?_
            obtain ⟨g14, h⟩ := of_g h
            obtain ⟨g15, h⟩ := of_g h
            refine g_get (C := "JoinedLeaves$Hanging") (T := T_HA) (N := 6) (ref := "JoinedLeaves$Hanging") (v := .ref (b + (mR q13.2 r0 0))) hx hb hts jF_HA hown hK hM g14 (by decide) rfl 0 (by decide) (hts _ jm_1_22) (fun _ h9 => h9) (by decide) (rv_of (ok_0 g15)) d_HA_leastHolderOf_69 ?_
            obtain ⟨g16, h⟩ := of_g h
            refine g_getN (C := "JoinedLeaves$Question") (T := T_QU) (N := 5) (ref := "JoinedLeaves$Question") (v := .ref (b + (mR q13.2 (mR q13.2 r0 0) 0))) hx hb hts jF_QU hown hK hM g15 (by decide) rfl 0 (by decide) (hK.nest _ jn_12 rfl) (fun _ h9 => h9) (by decide) (rv_of (ok_0 g16)) d_HA_leastHolderOf_72 ?_
            refine lv_iload hx hb d_HA_leastHolderOf_75 (lv_at hl 3 rfl) ?_
            obtain ⟨g17, h⟩ := of_g h
            obtain ⟨g18, h⟩ := of_g h
            refine g_aald (ty := (.object "JoinedLeaves$Atom")) hx hb hK hM 1 rfl rfl g16 g17 (ok_0 g18) d_HA_leastHolderOf_77 ?_
            refine g_getN (C := "JoinedLeaves$Atom") (T := T_AT) (N := 3) (ref := "JoinedLeaves$Atom") (v := .int (mI q13.2 (mR q13.2 (mR q13.2 (mR q13.2 r0 0) 0) (Int32.toNatClampNeg i4)) 1)) hx hb hts jF_AT hown hK hM g18 (by decide) rfl 1 (by decide) (hK.nest _ jn_9 rfl) (fun _ h9 => h9) (by decide) rfl d_HA_leastHolderOf_78 ?_
            refine lv_iconst (v := (-1)) hx hb d_HA_leastHolderOf_81 (by decide) ?_
            refine lv_ixor hx hb d_HA_leastHolderOf_82 ?_
            refine lv_iand hx hb d_HA_leastHolderOf_83 ?_
            refine lv_if_ne (tgt := 90) hx hb d_HA_leastHolderOf_84 (by decide) (fun hc => ?_) (fun hc => ?_)
            · replace h := of_f hc h
              exact ih2 _ _ _ _ _ _ _ _ _ h hM (lv_sub hl [0, 1, 2, 3] rfl)
            · replace h := of_t hc h
              refine lv_iload hx hb d_HA_leastHolderOf_87 (lv_at hl 3 rfl) ?_
              exact g_iret hx hb hr hlocks hM (Option.some.inj h) d_HA_leastHolderOf_89
      · intro r0 i1 i2 i3 i4 μ H locs ls h hM hl
        have h : B_HA_leastHolderOf_2 n (F_HA_leastHolderOf n) r0 i1 i2 i3 i4 μ = some res := h
        unfold B_HA_leastHolderOf_2 at h
        obtain ⟨v19, e_v19, h⟩ := of_b h
        refine lv_iinc (v := v19) hx hb d_HA_leastHolderOf_90 hl (k := 3) rfl (by rw [lit1]; exact Option.some.inj e_v19) (by decide) rfl (fun ls hl => ?_)
        have hl : lv_has ls 5 [(4, .int v19), (0, .ref (b + r0)), (2, .int i2), (3, .int i3)] := hl
        refine lv_goto (tgt := 46) hx hb d_HA_leastHolderOf_93 (by decide) ?_
        exact ih1 _ _ _ _ _ _ _ _ _ h hM (lv_sub hl [1, 2, 3, 0] rfl)
  exact (key n).1 _ _ _ _ _ _ _ _ _ h hM hl
abbrev w_HA_hangLeastEar : List Cond := .code y_HA_hangLeastEar b_HA_hangLeastEar 3 (Option.none : Option Jvm.ClassFile.FieldType) :: jW
def B_HA_hangLeastEar_0 (n : Nat) (k : Nat → Nat → Int32 → Mem → Option (Mem)) (r0 : Nat) (i1 : Int32) (μ : Mem) : Option (Mem) :=
  k 1 r0 0 μ
def B_HA_hangLeastEar_1 (n : Nat) (k : Nat → Nat → Int32 → Mem → Option (Mem)) (r0 : Nat) (i1 : Int32) (μ : Mem) : Option (Mem) :=
  if ok μ r0 3 = true then if ok μ (mR μ r0 0) 2 = true then if (mI μ (mR μ r0 0) 1) ≤ i1 then some μ else Option.bind (C_HA_leastHolderOf n r0 i1 μ) (fun q3 => if q3.1 = (-1) then Option.bind (some (i1 + 1)) (fun v4 => k 1 r0 v4 q3.2) else if ok q3.2 r0 3 = true then if ok q3.2 (mR q3.2 r0 1) 100 = true then if ib i1 (mZ q3.2 (mR q3.2 r0 1)) = true then Option.bind (some (sI q3.2 (mR q3.2 r0 1) (Int32.toNatClampNeg i1) q3.1)) (fun μ8 => if ok μ8 (mR μ8 r0 2) 100 = true then if ib i1 (mZ μ8 (mR μ8 r0 2)) = true then Option.bind (some (sI μ8 (mR μ8 r0 2) (Int32.toNatClampNeg i1) (mI μ8 r0 4))) (fun μ11 => if ok μ11 (mR μ11 r0 3) 100 = true then if ib (mI μ11 r0 4) (mZ μ11 (mR μ11 r0 3)) = true then Option.bind (some (sI μ11 (mR μ11 r0 3) (Int32.toNatClampNeg (mI μ11 r0 4)) i1)) (fun μ14 => Option.bind (some (sI μ14 r0 4 ((mI μ14 r0 4) + 1))) (fun μ15 => Option.bind (some (sI μ15 r0 5 ((mI μ15 r0 5) &&& ((1 <<< (i1 &&& 31)) ^^^ (-1))))) (fun μ16 => some μ16))) else none else none) else none else none) else none else none else none) else none else none
def F_HA_hangLeastEar : Nat → Nat → Nat → Int32 → Mem → Option (Mem)
  | 0 => fun _ _ _ _ => none
  | n + 1 => fun id r0 i1 μ => match id with
    | 0 => B_HA_hangLeastEar_0 n (F_HA_hangLeastEar n) r0 i1 μ
    | 1 => B_HA_hangLeastEar_1 n (F_HA_hangLeastEar n) r0 i1 μ
    | _ => none
def C_HA_hangLeastEar (n : Nat) (r0 : Nat) (μ : Mem) : Option (Mem) := F_HA_hangLeastEar n 0 r0 0 μ
set_option maxHeartbeats 4000000 in
set_option maxRecDepth 100000 in
theorem S_HA_hangLeastEar (l : Launch) (D : va_G) (b : Nat) (cs : Nat → ClassId) (u_r0 : Nat) (ν : Mem) (res : Mem) (n : Nat) (h : C_HA_hangLeastEar n u_r0 ν = some res) : MetV l y_HA_hangLeastEar w_HA_hangLeastEar 3 68 b cs D ν [.ref (b + u_r0)] res := by
  refine Met.ofW (cc := b_HA_hangLeastEar) (maxL := 3) (ret := (Option.none : Option Jvm.ClassFile.FieldType)) (by decide) rfl ?_
  intro p e s m args below meth c s₁ B hml hv
  obtain ⟨rfl, hK, hM⟩ := Wd.start hv
  have hx := B.exec
  have hb := B.bytes
  have hr := B.returns
  have hts : ∀ w ∈ jW, w.before _ s = true := fun w hw => atoms_spec (ws := w_HA_hangLeastEar) B.pre w (List.mem_cons_of_mem _ hw)
  have hown : s.vm.findClass "JoinedLeaves$Hanging" = some m.cls := findClass_of_methodNamed B.named
  have hlocks := B.notSynchronized
  have hl := lv_entry ([.ref (b + u_r0)]) (n := 3) (Nat.le_of_ble_eq_true rfl)
  rw [lg_entry_eq]
  generalize (lg_sl ([.ref (b + u_r0)]) ++ List.replicate (3 - (lg_sl ([.ref (b + u_r0)])).length) Slot.unset).toArray = ls at hl ⊢
  have hl : lv_has ls 3 [(0, .ref (b + u_r0))] := hl
  have key : ∀ N : Nat, (∀ (r0 : Nat) (i1 : Int32) (μ : Mem) (H : Heap) (locs : List Loc) (ls : Array Slot), F_HA_hangLeastEar N 0 r0 i1 μ = some res → Wd (Aw b (mN ν)) b cs D s.heap μ H locs → lv_has ls 3 [(0, .ref (b + r0))] → W p l e (headSpec w_HA_hangLeastEar { frames := 3, cells := 0, slots := 0, locals := 68 }).room s m ([.ref (b + u_r0)]).toArray below meth c H locs 0 0 (MQ below (va_Qv (fun μ' => μ' = res ∧ mN μ' ≤ mN ν) (Bw b cs D) (Aw b (mN ν))) ([.ref (b + u_r0)]).toArray s 0 0 (Aw b (mN ν))) (F0 m 0 ls [])) ∧
      (∀ (r0 : Nat) (i1 : Int32) (μ : Mem) (H : Heap) (locs : List Loc) (ls : Array Slot), F_HA_hangLeastEar N 1 r0 i1 μ = some res → Wd (Aw b (mN ν)) b cs D s.heap μ H locs → lv_has ls 3 [(0, .ref (b + r0)), (1, .int i1)] → W p l e (headSpec w_HA_hangLeastEar { frames := 3, cells := 0, slots := 0, locals := 68 }).room s m ([.ref (b + u_r0)]).toArray below meth c H locs 0 0 (MQ below (va_Qv (fun μ' => μ' = res ∧ mN μ' ≤ mN ν) (Bw b cs D) (Aw b (mN ν))) ([.ref (b + u_r0)]).toArray s 0 0 (Aw b (mN ν))) (F0 m 2 ls [])) := by
    intro N
    induction N with
    | zero => exact ⟨fun _ _ _ _ _ _ h => (nomatch h), fun _ _ _ _ _ _ h => (nomatch h)⟩
    | succ n ih =>
      obtain ⟨ih0, ih1⟩ := ih
      refine ⟨?_, ?_⟩
      · intro r0 i1 μ H locs ls h hM hl
        have h : B_HA_hangLeastEar_0 n (F_HA_hangLeastEar n) r0 i1 μ = some res := h
        unfold B_HA_hangLeastEar_0 at h
        refine lv_iconst (v := 0) hx hb d_HA_hangLeastEar_0 (by decide) ?_
        refine lv_istore_n hx hb d_HA_hangLeastEar_1 rfl hl (by decide) rfl (fun ls hl => ?_)
        have hl : lv_has ls 3 [(1, .int 0), (0, .ref (b + r0))] := hl
        exact ih1 _ _ _ _ _ _ h hM (lv_sub hl [1, 0] rfl)
      · intro r0 i1 μ H locs ls h hM hl
        have h : B_HA_hangLeastEar_1 n (F_HA_hangLeastEar n) r0 i1 μ = some res := h
        unfold B_HA_hangLeastEar_1 at h
        refine lv_iload_n hx hb d_HA_hangLeastEar_2 rfl (lv_at hl 1 rfl) ?_
        refine lv_aload_n hx hb d_HA_hangLeastEar_3 rfl (lv_at hl 0 rfl) ?_
        obtain ⟨g1, h⟩ := of_g h
        obtain ⟨g2, h⟩ := of_g h
        refine g_get (C := "JoinedLeaves$Hanging") (T := T_HA) (N := 6) (ref := "JoinedLeaves$Hanging") (v := .ref (b + (mR μ r0 0))) hx hb hts jF_HA hown hK hM g1 (by decide) rfl 0 (by decide) (hts _ jm_1_22) (fun _ h9 => h9) (by decide) (rv_of (ok_0 g2)) d_HA_hangLeastEar_4 ?_
        refine g_getN (C := "JoinedLeaves$Question") (T := T_QU) (N := 5) (ref := "JoinedLeaves$Question") (v := .int (mI μ (mR μ r0 0) 1)) hx hb hts jF_QU hown hK hM g2 (by decide) rfl 1 (by decide) (hK.nest _ jn_13 rfl) (fun _ h9 => h9) (by decide) rfl d_HA_hangLeastEar_7 ?_
        refine lv_icmp_ge (tgt := 82) hx hb d_HA_hangLeastEar_10 (by decide) (fun hc => ?_) (fun hc => ?_)
        · replace h := of_t hc h
          exact g_vret hx hb hr hlocks hM (Option.some.inj h) d_HA_hangLeastEar_82
        · replace h := of_f hc h
          refine lv_aload_n hx hb d_HA_hangLeastEar_13 rfl (lv_at hl 0 rfl) ?_
          refine lv_iload_n hx hb d_HA_hangLeastEar_14 rfl (lv_at hl 1 rfl) ?_
          obtain ⟨q3, hq3, h⟩ := of_b h
          refine g_calli (va_runV (As := [.int i1]) (rest := []) ⟨hx, hb, hml, hown, hts⟩ (S_HA_leastHolderOf l D b cs r0 i1 μ q3 n hq3) ⟨callB_of 1 hts (goodIn_g jm_3_17) rfl rfl rfl (hts _ jm_0_5) (hts _ jm_3_15) (by decide +kernel) ⟨Nat.le_of_ble_eq_true rfl, Nat.le_of_ble_eq_true rfl⟩, (hts _ jm_3_16), (hts _ jm_11_28)⟩ (Wd.preV hK hM g1 rfl (by decide)) rfl rfl hl.1 rfl (lv_room (Nat.le_of_ble_eq_true rfl)) d_HA_hangLeastEar_15 ⟨Nat.le_of_ble_eq_true rfl, Nat.le_of_ble_eq_true rfl⟩) hM (fun H locs hM => ?_)
          refine lv_istore_n hx hb d_HA_hangLeastEar_18 rfl hl (by decide) rfl (fun ls hl => ?_)
          have hl : lv_has ls 3 [(2, .int q3.1), (0, .ref (b + r0)), (1, .int i1)] := hl
          refine lv_iload_n hx hb d_HA_hangLeastEar_19 rfl (lv_at hl 0 rfl) ?_
          refine lv_iconst (v := (-1)) hx hb d_HA_hangLeastEar_20 (by decide) ?_
          refine lv_icmp_eq (tgt := 76) hx hb d_HA_hangLeastEar_21 (by decide) (fun hc => ?_) (fun hc => ?_)
          · replace h := of_t hc h
            obtain ⟨v4, e_v4, h⟩ := of_b h
            refine lv_iinc (v := v4) hx hb d_HA_hangLeastEar_76 hl (k := 2) rfl (by rw [lit1]; exact Option.some.inj e_v4) (by decide) rfl (fun ls hl => ?_)
            have hl : lv_has ls 3 [(1, .int v4), (2, .int q3.1), (0, .ref (b + r0))] := hl
            refine lv_goto (tgt := 2) hx hb d_HA_hangLeastEar_79 (by decide) ?_
            exact ih1 _ _ _ _ _ _ h hM (lv_sub hl [2, 0] rfl)
          · replace h := of_f hc h
            refine lv_aload_n hx hb d_HA_hangLeastEar_24 rfl (lv_at hl 1 rfl) ?_
            obtain ⟨g5, h⟩ := of_g h
            obtain ⟨g6, h⟩ := of_g h
            refine g_get (C := "JoinedLeaves$Hanging") (T := T_HA) (N := 6) (ref := "JoinedLeaves$Hanging") (v := .ref (b + (mR q3.2 r0 1))) hx hb hts jF_HA hown hK hM g5 (by decide) rfl 1 (by decide) (hts _ jm_1_23) (fun _ h9 => h9) (by decide) (rv_of (ok_0 g6)) d_HA_hangLeastEar_25 ?_
            refine lv_iload_n hx hb d_HA_hangLeastEar_28 rfl (lv_at hl 2 rfl) ?_
            refine lv_iload_n hx hb d_HA_hangLeastEar_29 rfl (lv_at hl 0 rfl) ?_
            obtain ⟨g7, h⟩ := of_g h
            obtain ⟨μ8, e_μ8, h⟩ := of_b h
            obtain rfl := Option.some.inj e_μ8
            refine g_iast (v := q3.1) hx hb hK hM g6 g7 d_HA_hangLeastEar_30 (fun H locs hM => ?_)
            refine lv_aload_n hx hb d_HA_hangLeastEar_31 rfl (lv_at hl 1 rfl) ?_
            obtain ⟨g9, h⟩ := of_g h
            refine g_get (C := "JoinedLeaves$Hanging") (T := T_HA) (N := 6) (ref := "JoinedLeaves$Hanging") (v := .ref (b + (mR (sI q3.2 (mR q3.2 r0 1) (Int32.toNatClampNeg i1) q3.1) r0 2))) hx hb hts jF_HA hown hK hM g5 (by decide) rfl 2 (by decide) (hts _ jm_1_24) (fun _ h9 => h9) (by decide) (rv_of (ok_0 g9)) d_HA_hangLeastEar_32 ?_
            refine lv_iload_n hx hb d_HA_hangLeastEar_35 rfl (lv_at hl 2 rfl) ?_
            refine lv_aload_n hx hb d_HA_hangLeastEar_36 rfl (lv_at hl 1 rfl) ?_
            refine g_get (C := "JoinedLeaves$Hanging") (T := T_HA) (N := 6) (ref := "JoinedLeaves$Hanging") (v := .int (mI (sI q3.2 (mR q3.2 r0 1) (Int32.toNatClampNeg i1) q3.1) r0 4)) hx hb hts jF_HA hown hK hM g5 (by decide) rfl 4 (by decide) (hts _ jm_1_26) (fun _ h9 => h9) (by decide) rfl d_HA_hangLeastEar_37 ?_
            obtain ⟨g10, h⟩ := of_g h
            obtain ⟨μ11, e_μ11, h⟩ := of_b h
            obtain rfl := Option.some.inj e_μ11
            refine g_iast (v := mI (sI q3.2 (mR q3.2 r0 1) (Int32.toNatClampNeg i1) q3.1) r0 4) hx hb hK hM g9 g10 d_HA_hangLeastEar_40 (fun H locs hM => ?_)
            refine lv_aload_n hx hb d_HA_hangLeastEar_41 rfl (lv_at hl 1 rfl) ?_
            obtain ⟨g12, h⟩ := of_g h
            refine g_get (C := "JoinedLeaves$Hanging") (T := T_HA) (N := 6) (ref := "JoinedLeaves$Hanging") (v := .ref (b + (mR (sI (sI q3.2 (mR q3.2 r0 1) (Int32.toNatClampNeg i1) q3.1) (mR (sI q3.2 (mR q3.2 r0 1) (Int32.toNatClampNeg i1) q3.1) r0 2) (Int32.toNatClampNeg i1) (mI (sI q3.2 (mR q3.2 r0 1) (Int32.toNatClampNeg i1) q3.1) r0 4)) r0 3))) hx hb hts jF_HA hown hK hM g5 (by decide) rfl 3 (by decide) (hts _ jm_1_25) (fun _ h9 => h9) (by decide) (rv_of (ok_0 g12)) d_HA_hangLeastEar_42 ?_
            refine lv_aload_n hx hb d_HA_hangLeastEar_45 rfl (lv_at hl 1 rfl) ?_
            refine g_get (C := "JoinedLeaves$Hanging") (T := T_HA) (N := 6) (ref := "JoinedLeaves$Hanging") (v := .int (mI (sI (sI q3.2 (mR q3.2 r0 1) (Int32.toNatClampNeg i1) q3.1) (mR (sI q3.2 (mR q3.2 r0 1) (Int32.toNatClampNeg i1) q3.1) r0 2) (Int32.toNatClampNeg i1) (mI (sI q3.2 (mR q3.2 r0 1) (Int32.toNatClampNeg i1) q3.1) r0 4)) r0 4)) hx hb hts jF_HA hown hK hM g5 (by decide) rfl 4 (by decide) (hts _ jm_1_26) (fun _ h9 => h9) (by decide) rfl d_HA_hangLeastEar_46 ?_
            refine lv_iload_n hx hb d_HA_hangLeastEar_49 rfl (lv_at hl 2 rfl) ?_
            obtain ⟨g13, h⟩ := of_g h
            obtain ⟨μ14, e_μ14, h⟩ := of_b h
            obtain rfl := Option.some.inj e_μ14
            refine g_iast (v := i1) hx hb hK hM g12 g13 d_HA_hangLeastEar_50 (fun H locs hM => ?_)
            refine lv_aload_n hx hb d_HA_hangLeastEar_51 rfl (lv_at hl 1 rfl) ?_
            refine lv_dup hx hb d_HA_hangLeastEar_52 rfl ?_
            refine g_get (C := "JoinedLeaves$Hanging") (T := T_HA) (N := 6) (ref := "JoinedLeaves$Hanging") (v := .int (mI (sI (sI (sI q3.2 (mR q3.2 r0 1) (Int32.toNatClampNeg i1) q3.1) (mR (sI q3.2 (mR q3.2 r0 1) (Int32.toNatClampNeg i1) q3.1) r0 2) (Int32.toNatClampNeg i1) (mI (sI q3.2 (mR q3.2 r0 1) (Int32.toNatClampNeg i1) q3.1) r0 4)) (mR (sI (sI q3.2 (mR q3.2 r0 1) (Int32.toNatClampNeg i1) q3.1) (mR (sI q3.2 (mR q3.2 r0 1) (Int32.toNatClampNeg i1) q3.1) r0 2) (Int32.toNatClampNeg i1) (mI (sI q3.2 (mR q3.2 r0 1) (Int32.toNatClampNeg i1) q3.1) r0 4)) r0 3) (Int32.toNatClampNeg (mI (sI (sI q3.2 (mR q3.2 r0 1) (Int32.toNatClampNeg i1) q3.1) (mR (sI q3.2 (mR q3.2 r0 1) (Int32.toNatClampNeg i1) q3.1) r0 2) (Int32.toNatClampNeg i1) (mI (sI q3.2 (mR q3.2 r0 1) (Int32.toNatClampNeg i1) q3.1) r0 4)) r0 4)) i1) r0 4)) hx hb hts jF_HA hown hK hM g5 (by decide) rfl 4 (by decide) (hts _ jm_1_26) (fun _ h9 => h9) (by decide) rfl d_HA_hangLeastEar_53 ?_
            refine lv_iconst (v := 1) hx hb d_HA_hangLeastEar_56 (by decide) ?_
            refine lv_iadd hx hb d_HA_hangLeastEar_57 ?_
            obtain ⟨μ15, e_μ15, h⟩ := of_b h
            obtain rfl := Option.some.inj e_μ15
            refine g_puti (v := (mI (sI (sI (sI q3.2 (mR q3.2 r0 1) (Int32.toNatClampNeg i1) q3.1) (mR (sI q3.2 (mR q3.2 r0 1) (Int32.toNatClampNeg i1) q3.1) r0 2) (Int32.toNatClampNeg i1) (mI (sI q3.2 (mR q3.2 r0 1) (Int32.toNatClampNeg i1) q3.1) r0 4)) (mR (sI (sI q3.2 (mR q3.2 r0 1) (Int32.toNatClampNeg i1) q3.1) (mR (sI q3.2 (mR q3.2 r0 1) (Int32.toNatClampNeg i1) q3.1) r0 2) (Int32.toNatClampNeg i1) (mI (sI q3.2 (mR q3.2 r0 1) (Int32.toNatClampNeg i1) q3.1) r0 4)) r0 3) (Int32.toNatClampNeg (mI (sI (sI q3.2 (mR q3.2 r0 1) (Int32.toNatClampNeg i1) q3.1) (mR (sI q3.2 (mR q3.2 r0 1) (Int32.toNatClampNeg i1) q3.1) r0 2) (Int32.toNatClampNeg i1) (mI (sI q3.2 (mR q3.2 r0 1) (Int32.toNatClampNeg i1) q3.1) r0 4)) r0 4)) i1) r0 4) + 1) (C := "JoinedLeaves$Hanging") (T := T_HA) (N := 6) (ref := "JoinedLeaves$Hanging") hx hb hts jF_HA t_HA o_HA n_HA hown hK hM g5 (by decide) rfl 4 (by decide) (hts _ jm_1_26) (fun _ h9 => h9) rfl (ty := .int) (by decide +kernel) rfl rfl (by decide) (Or.inl rfl) d_HA_hangLeastEar_58 (fun H locs hM => ?_)
            refine lv_aload_n hx hb d_HA_hangLeastEar_61 rfl (lv_at hl 1 rfl) ?_
            refine lv_dup hx hb d_HA_hangLeastEar_62 rfl ?_
            refine g_get (C := "JoinedLeaves$Hanging") (T := T_HA) (N := 6) (ref := "JoinedLeaves$Hanging") (v := .int (mI (sI (sI (sI (sI q3.2 (mR q3.2 r0 1) (Int32.toNatClampNeg i1) q3.1) (mR (sI q3.2 (mR q3.2 r0 1) (Int32.toNatClampNeg i1) q3.1) r0 2) (Int32.toNatClampNeg i1) (mI (sI q3.2 (mR q3.2 r0 1) (Int32.toNatClampNeg i1) q3.1) r0 4)) (mR (sI (sI q3.2 (mR q3.2 r0 1) (Int32.toNatClampNeg i1) q3.1) (mR (sI q3.2 (mR q3.2 r0 1) (Int32.toNatClampNeg i1) q3.1) r0 2) (Int32.toNatClampNeg i1) (mI (sI q3.2 (mR q3.2 r0 1) (Int32.toNatClampNeg i1) q3.1) r0 4)) r0 3) (Int32.toNatClampNeg (mI (sI (sI q3.2 (mR q3.2 r0 1) (Int32.toNatClampNeg i1) q3.1) (mR (sI q3.2 (mR q3.2 r0 1) (Int32.toNatClampNeg i1) q3.1) r0 2) (Int32.toNatClampNeg i1) (mI (sI q3.2 (mR q3.2 r0 1) (Int32.toNatClampNeg i1) q3.1) r0 4)) r0 4)) i1) r0 4 ((mI (sI (sI (sI q3.2 (mR q3.2 r0 1) (Int32.toNatClampNeg i1) q3.1) (mR (sI q3.2 (mR q3.2 r0 1) (Int32.toNatClampNeg i1) q3.1) r0 2) (Int32.toNatClampNeg i1) (mI (sI q3.2 (mR q3.2 r0 1) (Int32.toNatClampNeg i1) q3.1) r0 4)) (mR (sI (sI q3.2 (mR q3.2 r0 1) (Int32.toNatClampNeg i1) q3.1) (mR (sI q3.2 (mR q3.2 r0 1) (Int32.toNatClampNeg i1) q3.1) r0 2) (Int32.toNatClampNeg i1) (mI (sI q3.2 (mR q3.2 r0 1) (Int32.toNatClampNeg i1) q3.1) r0 4)) r0 3) (Int32.toNatClampNeg (mI (sI (sI q3.2 (mR q3.2 r0 1) (Int32.toNatClampNeg i1) q3.1) (mR (sI q3.2 (mR q3.2 r0 1) (Int32.toNatClampNeg i1) q3.1) r0 2) (Int32.toNatClampNeg i1) (mI (sI q3.2 (mR q3.2 r0 1) (Int32.toNatClampNeg i1) q3.1) r0 4)) r0 4)) i1) r0 4) + 1)) r0 5)) hx hb hts jF_HA hown hK hM g5 (by decide) rfl 5 (by decide) (hts _ jm_1_27) (fun _ h9 => h9) (by decide) rfl d_HA_hangLeastEar_63 ?_
            refine lv_iconst (v := 1) hx hb d_HA_hangLeastEar_66 (by decide) ?_
            refine lv_iload_n hx hb d_HA_hangLeastEar_67 rfl (lv_at hl 2 rfl) ?_
            refine lv_ishl hx hb d_HA_hangLeastEar_68 ?_
            refine lv_iconst (v := (-1)) hx hb d_HA_hangLeastEar_69 (by decide) ?_
            refine lv_ixor hx hb d_HA_hangLeastEar_70 ?_
            refine lv_iand hx hb d_HA_hangLeastEar_71 ?_
            obtain ⟨μ16, e_μ16, h⟩ := of_b h
            obtain rfl := Option.some.inj e_μ16
            refine g_puti (v := (mI (sI (sI (sI (sI q3.2 (mR q3.2 r0 1) (Int32.toNatClampNeg i1) q3.1) (mR (sI q3.2 (mR q3.2 r0 1) (Int32.toNatClampNeg i1) q3.1) r0 2) (Int32.toNatClampNeg i1) (mI (sI q3.2 (mR q3.2 r0 1) (Int32.toNatClampNeg i1) q3.1) r0 4)) (mR (sI (sI q3.2 (mR q3.2 r0 1) (Int32.toNatClampNeg i1) q3.1) (mR (sI q3.2 (mR q3.2 r0 1) (Int32.toNatClampNeg i1) q3.1) r0 2) (Int32.toNatClampNeg i1) (mI (sI q3.2 (mR q3.2 r0 1) (Int32.toNatClampNeg i1) q3.1) r0 4)) r0 3) (Int32.toNatClampNeg (mI (sI (sI q3.2 (mR q3.2 r0 1) (Int32.toNatClampNeg i1) q3.1) (mR (sI q3.2 (mR q3.2 r0 1) (Int32.toNatClampNeg i1) q3.1) r0 2) (Int32.toNatClampNeg i1) (mI (sI q3.2 (mR q3.2 r0 1) (Int32.toNatClampNeg i1) q3.1) r0 4)) r0 4)) i1) r0 4 ((mI (sI (sI (sI q3.2 (mR q3.2 r0 1) (Int32.toNatClampNeg i1) q3.1) (mR (sI q3.2 (mR q3.2 r0 1) (Int32.toNatClampNeg i1) q3.1) r0 2) (Int32.toNatClampNeg i1) (mI (sI q3.2 (mR q3.2 r0 1) (Int32.toNatClampNeg i1) q3.1) r0 4)) (mR (sI (sI q3.2 (mR q3.2 r0 1) (Int32.toNatClampNeg i1) q3.1) (mR (sI q3.2 (mR q3.2 r0 1) (Int32.toNatClampNeg i1) q3.1) r0 2) (Int32.toNatClampNeg i1) (mI (sI q3.2 (mR q3.2 r0 1) (Int32.toNatClampNeg i1) q3.1) r0 4)) r0 3) (Int32.toNatClampNeg (mI (sI (sI q3.2 (mR q3.2 r0 1) (Int32.toNatClampNeg i1) q3.1) (mR (sI q3.2 (mR q3.2 r0 1) (Int32.toNatClampNeg i1) q3.1) r0 2) (Int32.toNatClampNeg i1) (mI (sI q3.2 (mR q3.2 r0 1) (Int32.toNatClampNeg i1) q3.1) r0 4)) r0 4)) i1) r0 4) + 1)) r0 5) &&& ((1 <<< (i1 &&& 31)) ^^^ (-1))) (C := "JoinedLeaves$Hanging") (T := T_HA) (N := 6) (ref := "JoinedLeaves$Hanging") hx hb hts jF_HA t_HA o_HA n_HA hown hK hM g5 (by decide) rfl 5 (by decide) (hts _ jm_1_27) (fun _ h9 => h9) rfl (ty := .int) (by decide +kernel) rfl rfl (by decide) (Or.inl rfl) d_HA_hangLeastEar_72 (fun H locs hM => ?_)
            exact g_vret hx hb hr hlocks hM (Option.some.inj h) d_HA_hangLeastEar_75
  exact (key n).1 _ _ _ _ _ _ h hM hl
abbrev w_HA_hangAtoms : List Cond := .code y_HA_hangAtoms b_HA_hangAtoms 2 (Option.none : Option Jvm.ClassFile.FieldType) :: jW
def B_HA_hangAtoms_0 (n : Nat) (k : Nat → Nat → Int32 → Mem → Option (Mem)) (r0 : Nat) (i1 : Int32) (μ : Mem) : Option (Mem) :=
  if ok μ r0 3 = true then if ok μ (mR μ r0 0) 2 = true then Option.bind (some (sI μ r0 5 ((1 <<< ((mI μ (mR μ r0 0) 1) &&& 31)) - 1))) (fun μ3 => Option.bind (some (sI μ3 r0 4 0)) (fun μ4 => k 1 r0 0 μ4)) else none else none
def B_HA_hangAtoms_1 (n : Nat) (k : Nat → Nat → Int32 → Mem → Option (Mem)) (r0 : Nat) (i1 : Int32) (μ : Mem) : Option (Mem) :=
  if 6 ≤ i1 then k 2 r0 0 μ else if ok μ r0 3 = true then if ok μ (mR μ r0 1) 100 = true then if ib i1 (mZ μ (mR μ r0 1)) = true then Option.bind (some (sI μ (mR μ r0 1) (Int32.toNatClampNeg i1) (-1))) (fun μ8 => if ok μ8 (mR μ8 r0 2) 100 = true then if ib i1 (mZ μ8 (mR μ8 r0 2)) = true then Option.bind (some (sI μ8 (mR μ8 r0 2) (Int32.toNatClampNeg i1) (-1))) (fun μ11 => Option.bind (some (i1 + 1)) (fun v12 => k 1 r0 v12 μ11)) else none else none) else none else none else none
def B_HA_hangAtoms_2 (n : Nat) (k : Nat → Nat → Int32 → Mem → Option (Mem)) (r0 : Nat) (i1 : Int32) (μ : Mem) : Option (Mem) :=
  if ok μ r0 3 = true then if ok μ (mR μ r0 0) 2 = true then if (mI μ (mR μ r0 0) 1) ≤ i1 then some μ else Option.bind (C_HA_hangLeastEar n r0 μ) (fun q15 => Option.bind (some (i1 + 1)) (fun v16 => k 2 r0 v16 q15)) else none else none
def F_HA_hangAtoms : Nat → Nat → Nat → Int32 → Mem → Option (Mem)
  | 0 => fun _ _ _ _ => none
  | n + 1 => fun id r0 i1 μ => match id with
    | 0 => B_HA_hangAtoms_0 n (F_HA_hangAtoms n) r0 i1 μ
    | 1 => B_HA_hangAtoms_1 n (F_HA_hangAtoms n) r0 i1 μ
    | 2 => B_HA_hangAtoms_2 n (F_HA_hangAtoms n) r0 i1 μ
    | _ => none
def C_HA_hangAtoms (n : Nat) (r0 : Nat) (μ : Mem) : Option (Mem) := F_HA_hangAtoms n 0 r0 0 μ
set_option maxHeartbeats 4000000 in
set_option maxRecDepth 100000 in
theorem S_HA_hangAtoms (l : Launch) (D : va_G) (b : Nat) (cs : Nat → ClassId) (u_r0 : Nat) (ν : Mem) (res : Mem) (n : Nat) (h : C_HA_hangAtoms n u_r0 ν = some res) : MetV l y_HA_hangAtoms w_HA_hangAtoms 4 90 b cs D ν [.ref (b + u_r0)] res := by
  refine Met.ofW (cc := b_HA_hangAtoms) (maxL := 2) (ret := (Option.none : Option Jvm.ClassFile.FieldType)) (by decide) rfl ?_
  intro p e s m args below meth c s₁ B hml hv
  obtain ⟨rfl, hK, hM⟩ := Wd.start hv
  have hx := B.exec
  have hb := B.bytes
  have hr := B.returns
  have hts : ∀ w ∈ jW, w.before _ s = true := fun w hw => atoms_spec (ws := w_HA_hangAtoms) B.pre w (List.mem_cons_of_mem _ hw)
  have hown : s.vm.findClass "JoinedLeaves$Hanging" = some m.cls := findClass_of_methodNamed B.named
  have hlocks := B.notSynchronized
  have hl := lv_entry ([.ref (b + u_r0)]) (n := 2) (Nat.le_of_ble_eq_true rfl)
  rw [lg_entry_eq]
  generalize (lg_sl ([.ref (b + u_r0)]) ++ List.replicate (2 - (lg_sl ([.ref (b + u_r0)])).length) Slot.unset).toArray = ls at hl ⊢
  have hl : lv_has ls 2 [(0, .ref (b + u_r0))] := hl
  have key : ∀ N : Nat, (∀ (r0 : Nat) (i1 : Int32) (μ : Mem) (H : Heap) (locs : List Loc) (ls : Array Slot), F_HA_hangAtoms N 0 r0 i1 μ = some res → Wd (Aw b (mN ν)) b cs D s.heap μ H locs → lv_has ls 2 [(0, .ref (b + r0))] → W p l e (headSpec w_HA_hangAtoms { frames := 4, cells := 0, slots := 0, locals := 90 }).room s m ([.ref (b + u_r0)]).toArray below meth c H locs 0 0 (MQ below (va_Qv (fun μ' => μ' = res ∧ mN μ' ≤ mN ν) (Bw b cs D) (Aw b (mN ν))) ([.ref (b + u_r0)]).toArray s 0 0 (Aw b (mN ν))) (F0 m 0 ls [])) ∧
      (∀ (r0 : Nat) (i1 : Int32) (μ : Mem) (H : Heap) (locs : List Loc) (ls : Array Slot), F_HA_hangAtoms N 1 r0 i1 μ = some res → Wd (Aw b (mN ν)) b cs D s.heap μ H locs → lv_has ls 2 [(0, .ref (b + r0)), (1, .int i1)] → W p l e (headSpec w_HA_hangAtoms { frames := 4, cells := 0, slots := 0, locals := 90 }).room s m ([.ref (b + u_r0)]).toArray below meth c H locs 0 0 (MQ below (va_Qv (fun μ' => μ' = res ∧ mN μ' ≤ mN ν) (Bw b cs D) (Aw b (mN ν))) ([.ref (b + u_r0)]).toArray s 0 0 (Aw b (mN ν))) (F0 m 22 ls [])) ∧
      (∀ (r0 : Nat) (i1 : Int32) (μ : Mem) (H : Heap) (locs : List Loc) (ls : Array Slot), F_HA_hangAtoms N 2 r0 i1 μ = some res → Wd (Aw b (mN ν)) b cs D s.heap μ H locs → lv_has ls 2 [(0, .ref (b + r0)), (1, .int i1)] → W p l e (headSpec w_HA_hangAtoms { frames := 4, cells := 0, slots := 0, locals := 90 }).room s m ([.ref (b + u_r0)]).toArray below meth c H locs 0 0 (MQ below (va_Qv (fun μ' => μ' = res ∧ mN μ' ≤ mN ν) (Bw b cs D) (Aw b (mN ν))) ([.ref (b + u_r0)]).toArray s 0 0 (Aw b (mN ν))) (F0 m 50 ls [])) := by
    intro N
    induction N with
    | zero => exact ⟨fun _ _ _ _ _ _ h => (nomatch h), fun _ _ _ _ _ _ h => (nomatch h), fun _ _ _ _ _ _ h => (nomatch h)⟩
    | succ n ih =>
      obtain ⟨ih0, ih1, ih2⟩ := ih
      refine ⟨?_, ?_, ?_⟩
      · intro r0 i1 μ H locs ls h hM hl
        have h : B_HA_hangAtoms_0 n (F_HA_hangAtoms n) r0 i1 μ = some res := h
        unfold B_HA_hangAtoms_0 at h
        refine lv_aload_n hx hb d_HA_hangAtoms_0 rfl (lv_at hl 0 rfl) ?_
        refine lv_iconst (v := 1) hx hb d_HA_hangAtoms_1 (by decide) ?_
        refine lv_aload_n hx hb d_HA_hangAtoms_2 rfl (lv_at hl 0 rfl) ?_
        obtain ⟨g1, h⟩ := of_g h
        obtain ⟨g2, h⟩ := of_g h
        refine g_get (C := "JoinedLeaves$Hanging") (T := T_HA) (N := 6) (ref := "JoinedLeaves$Hanging") (v := .ref (b + (mR μ r0 0))) hx hb hts jF_HA hown hK hM g1 (by decide) rfl 0 (by decide) (hts _ jm_1_22) (fun _ h9 => h9) (by decide) (rv_of (ok_0 g2)) d_HA_hangAtoms_3 ?_
        refine g_getN (C := "JoinedLeaves$Question") (T := T_QU) (N := 5) (ref := "JoinedLeaves$Question") (v := .int (mI μ (mR μ r0 0) 1)) hx hb hts jF_QU hown hK hM g2 (by decide) rfl 1 (by decide) (hK.nest _ jn_13 rfl) (fun _ h9 => h9) (by decide) rfl d_HA_hangAtoms_6 ?_
        refine lv_ishl hx hb d_HA_hangAtoms_9 ?_
        refine lv_iconst (v := 1) hx hb d_HA_hangAtoms_10 (by decide) ?_
        refine lv_isub hx hb d_HA_hangAtoms_11 ?_
        obtain ⟨μ3, e_μ3, h⟩ := of_b h
        obtain rfl := Option.some.inj e_μ3
        refine g_puti (v := (1 <<< ((mI μ (mR μ r0 0) 1) &&& 31)) - 1) (C := "JoinedLeaves$Hanging") (T := T_HA) (N := 6) (ref := "JoinedLeaves$Hanging") hx hb hts jF_HA t_HA o_HA n_HA hown hK hM g1 (by decide) rfl 5 (by decide) (hts _ jm_1_27) (fun _ h9 => h9) rfl (ty := .int) (by decide +kernel) rfl rfl (by decide) (Or.inl rfl) d_HA_hangAtoms_12 (fun H locs hM => ?_)
        refine lv_aload_n hx hb d_HA_hangAtoms_15 rfl (lv_at hl 0 rfl) ?_
        refine lv_iconst (v := 0) hx hb d_HA_hangAtoms_16 (by decide) ?_
        obtain ⟨μ4, e_μ4, h⟩ := of_b h
        obtain rfl := Option.some.inj e_μ4
        refine g_puti (v := 0) (C := "JoinedLeaves$Hanging") (T := T_HA) (N := 6) (ref := "JoinedLeaves$Hanging") hx hb hts jF_HA t_HA o_HA n_HA hown hK hM g1 (by decide) rfl 4 (by decide) (hts _ jm_1_26) (fun _ h9 => h9) rfl (ty := .int) (by decide +kernel) rfl rfl (by decide) (Or.inl rfl) d_HA_hangAtoms_17 (fun H locs hM => ?_)
        refine lv_iconst (v := 0) hx hb d_HA_hangAtoms_20 (by decide) ?_
        refine lv_istore_n hx hb d_HA_hangAtoms_21 rfl hl (by decide) rfl (fun ls hl => ?_)
        have hl : lv_has ls 2 [(1, .int 0), (0, .ref (b + r0))] := hl
        exact ih1 _ _ _ _ _ _ h hM (lv_sub hl [1, 0] rfl)
      · intro r0 i1 μ H locs ls h hM hl
        have h : B_HA_hangAtoms_1 n (F_HA_hangAtoms n) r0 i1 μ = some res := h
        unfold B_HA_hangAtoms_1 at h
        refine lv_iload_n hx hb d_HA_hangAtoms_22 rfl (lv_at hl 1 rfl) ?_
        refine lv_bipush (v := 6) hx hb d_HA_hangAtoms_23 (by decide) ?_
        refine lv_icmp_ge (tgt := 48) hx hb d_HA_hangAtoms_25 (by decide) (fun hc => ?_) (fun hc => ?_)
        · replace h := of_t hc h
          refine lv_iconst (v := 0) hx hb d_HA_hangAtoms_48 (by decide) ?_
          refine lv_istore_n hx hb d_HA_hangAtoms_49 rfl hl (by decide) rfl (fun ls hl => ?_)
          have hl : lv_has ls 2 [(1, .int 0), (0, .ref (b + r0))] := hl
          exact ih2 _ _ _ _ _ _ h hM (lv_sub hl [1, 0] rfl)
        · replace h := of_f hc h
          refine lv_aload_n hx hb d_HA_hangAtoms_28 rfl (lv_at hl 0 rfl) ?_
          obtain ⟨g5, h⟩ := of_g h
          obtain ⟨g6, h⟩ := of_g h
          refine g_get (C := "JoinedLeaves$Hanging") (T := T_HA) (N := 6) (ref := "JoinedLeaves$Hanging") (v := .ref (b + (mR μ r0 1))) hx hb hts jF_HA hown hK hM g5 (by decide) rfl 1 (by decide) (hts _ jm_1_23) (fun _ h9 => h9) (by decide) (rv_of (ok_0 g6)) d_HA_hangAtoms_29 ?_
          refine lv_iload_n hx hb d_HA_hangAtoms_32 rfl (lv_at hl 1 rfl) ?_
          refine lv_iconst (v := (-1)) hx hb d_HA_hangAtoms_33 (by decide) ?_
          obtain ⟨g7, h⟩ := of_g h
          obtain ⟨μ8, e_μ8, h⟩ := of_b h
          obtain rfl := Option.some.inj e_μ8
          refine g_iast (v := (-1)) hx hb hK hM g6 g7 d_HA_hangAtoms_34 (fun H locs hM => ?_)
          refine lv_aload_n hx hb d_HA_hangAtoms_35 rfl (lv_at hl 0 rfl) ?_
          obtain ⟨g9, h⟩ := of_g h
          refine g_get (C := "JoinedLeaves$Hanging") (T := T_HA) (N := 6) (ref := "JoinedLeaves$Hanging") (v := .ref (b + (mR (sI μ (mR μ r0 1) (Int32.toNatClampNeg i1) (-1)) r0 2))) hx hb hts jF_HA hown hK hM g5 (by decide) rfl 2 (by decide) (hts _ jm_1_24) (fun _ h9 => h9) (by decide) (rv_of (ok_0 g9)) d_HA_hangAtoms_36 ?_
          refine lv_iload_n hx hb d_HA_hangAtoms_39 rfl (lv_at hl 1 rfl) ?_
          refine lv_iconst (v := (-1)) hx hb d_HA_hangAtoms_40 (by decide) ?_
          obtain ⟨g10, h⟩ := of_g h
          obtain ⟨μ11, e_μ11, h⟩ := of_b h
          obtain rfl := Option.some.inj e_μ11
          refine g_iast (v := (-1)) hx hb hK hM g9 g10 d_HA_hangAtoms_41 (fun H locs hM => ?_)
          obtain ⟨v12, e_v12, h⟩ := of_b h
          refine lv_iinc (v := v12) hx hb d_HA_hangAtoms_42 hl (k := 1) rfl (by rw [lit1]; exact Option.some.inj e_v12) (by decide) rfl (fun ls hl => ?_)
          have hl : lv_has ls 2 [(1, .int v12), (0, .ref (b + r0))] := hl
          refine lv_goto (tgt := 22) hx hb d_HA_hangAtoms_45 (by decide) ?_
          exact ih1 _ _ _ _ _ _ h hM (lv_sub hl [1, 0] rfl)
      · intro r0 i1 μ H locs ls h hM hl
        have h : B_HA_hangAtoms_2 n (F_HA_hangAtoms n) r0 i1 μ = some res := h
        unfold B_HA_hangAtoms_2 at h
        refine lv_iload_n hx hb d_HA_hangAtoms_50 rfl (lv_at hl 1 rfl) ?_
        refine lv_aload_n hx hb d_HA_hangAtoms_51 rfl (lv_at hl 0 rfl) ?_
        obtain ⟨g13, h⟩ := of_g h
        obtain ⟨g14, h⟩ := of_g h
        refine g_get (C := "JoinedLeaves$Hanging") (T := T_HA) (N := 6) (ref := "JoinedLeaves$Hanging") (v := .ref (b + (mR μ r0 0))) hx hb hts jF_HA hown hK hM g13 (by decide) rfl 0 (by decide) (hts _ jm_1_22) (fun _ h9 => h9) (by decide) (rv_of (ok_0 g14)) d_HA_hangAtoms_52 ?_
        refine g_getN (C := "JoinedLeaves$Question") (T := T_QU) (N := 5) (ref := "JoinedLeaves$Question") (v := .int (mI μ (mR μ r0 0) 1)) hx hb hts jF_QU hown hK hM g14 (by decide) rfl 1 (by decide) (hK.nest _ jn_13 rfl) (fun _ h9 => h9) (by decide) rfl d_HA_hangAtoms_55 ?_
        refine lv_icmp_ge (tgt := 71) hx hb d_HA_hangAtoms_58 (by decide) (fun hc => ?_) (fun hc => ?_)
        · replace h := of_t hc h
          exact g_vret hx hb hr hlocks hM (Option.some.inj h) d_HA_hangAtoms_71
        · replace h := of_f hc h
          refine lv_aload_n hx hb d_HA_hangAtoms_61 rfl (lv_at hl 0 rfl) ?_
          obtain ⟨q15, hq15, h⟩ := of_b h
          refine g_callv (va_runV (As := []) (rest := []) ⟨hx, hb, hml, hown, hts⟩ (S_HA_hangLeastEar l D b cs r0 μ q15 n hq15) ⟨callB_of 0 hts (goodIn_g jm_3_14) rfl rfl rfl (hts _ jm_0_5) (hts _ jm_3_12) (by decide +kernel) ⟨Nat.le_of_ble_eq_true rfl, Nat.le_of_ble_eq_true rfl⟩, (hts _ jm_3_13), (hts _ jm_11_27)⟩ (Wd.preV hK hM g13 rfl (by decide)) rfl rfl hl.1 rfl (lv_room (Nat.le_of_ble_eq_true rfl)) d_HA_hangAtoms_62 ⟨Nat.le_of_ble_eq_true rfl, Nat.le_of_ble_eq_true rfl⟩) hM (fun H locs hM => ?_)
          obtain ⟨v16, e_v16, h⟩ := of_b h
          refine lv_iinc (v := v16) hx hb d_HA_hangAtoms_65 hl (k := 1) rfl (by rw [lit1]; exact Option.some.inj e_v16) (by decide) rfl (fun ls hl => ?_)
          have hl : lv_has ls 2 [(1, .int v16), (0, .ref (b + r0))] := hl
          refine lv_goto (tgt := 50) hx hb d_HA_hangAtoms_68 (by decide) ?_
          exact ih2 _ _ _ _ _ _ h hM (lv_sub hl [1, 0] rfl)
  exact (key n).1 _ _ _ _ _ _ h hM hl
