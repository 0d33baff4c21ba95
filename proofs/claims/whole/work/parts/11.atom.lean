/-! By program (wip/whole/gen.py): for each method its function over memories, and its contract. -/
abbrev w_JL_isIn : List Cond := .code y_JL_isIn b_JL_isIn 2 (Option.some Jvm.ClassFile.FieldType.boolean) :: jW
def C_JL_isIn (n : Nat) (i0 : Int32) (i1 : Int32) (μ : Mem) : Option (Int32 × Mem) :=
  if ((i1 >>> (i0 &&& 31)) &&& 1) = 0 then some (0, μ) else some (1, μ)
set_option maxHeartbeats 4000000 in
set_option maxRecDepth 100000 in
theorem S_JL_isIn (l : Launch) (D : va_G) (b : Nat) (cs : Nat → ClassId) (i0 : Int32) (i1 : Int32) (μ : Mem) (res : Int32 × Mem) (n : Nat) (h : C_JL_isIn n i0 i1 μ = some res) : MetI l y_JL_isIn w_JL_isIn 0 0 b cs D μ [.int i0, .int i1] res := by
  refine Met.ofW (cc := b_JL_isIn) (maxL := 2) (ret := (Option.some Jvm.ClassFile.FieldType.boolean)) (by decide) rfl ?_
  intro p e s m args below meth c s₁ B hml hv
  obtain ⟨rfl, hK, hM⟩ := Wd.start hv
  have hx := B.exec
  have hb := B.bytes
  have hr := B.returns
  have hts : ∀ w ∈ jW, w.before _ s = true := fun w hw => atoms_spec (ws := w_JL_isIn) B.pre w (List.mem_cons_of_mem _ hw)
  have hown : s.vm.findClass "JoinedLeaves" = some m.cls := findClass_of_methodNamed B.named
  have hlocks := B.notSynchronized
  have hl := lv_entry ([.int i0, .int i1]) (n := 2) (Nat.le_of_ble_eq_true rfl)
  rw [lg_entry_eq]
  generalize (lg_sl ([.int i0, .int i1]) ++ List.replicate (2 - (lg_sl ([.int i0, .int i1])).length) Slot.unset).toArray = ls at hl ⊢
  have hl : lv_has ls 2 [(0, .int i0), (1, .int i1)] := hl
  unfold C_JL_isIn at h
  refine lv_iload_n hx hb d_JL_isIn_0 rfl (lv_at hl 1 rfl) ?_
  refine lv_iload_n hx hb d_JL_isIn_1 rfl (lv_at hl 0 rfl) ?_
  refine lv_ishr hx hb d_JL_isIn_2 ?_
  refine lv_iconst (v := 1) hx hb d_JL_isIn_3 (by decide) ?_
  refine lv_iand hx hb d_JL_isIn_4 ?_
  refine lv_if_eq (tgt := 12) hx hb d_JL_isIn_5 (by decide) (fun hc => ?_) (fun hc => ?_)
  · replace h := of_t hc h
    refine lv_iconst (v := 0) hx hb d_JL_isIn_12 (by decide) ?_
    exact g_zret hx hb hr narrow_b0 hlocks hM (Option.some.inj h) d_JL_isIn_13
  · replace h := of_f hc h
    refine lv_iconst (v := 1) hx hb d_JL_isIn_8 (by decide) ?_
    refine lv_goto (tgt := 13) hx hb d_JL_isIn_9 (by decide) ?_
    exact g_zret hx hb hr narrow_b1 hlocks hM (Option.some.inj h) d_JL_isIn_13
abbrev w_AT_init : List Cond := .code y_AT_init b_AT_init 2 (Option.none : Option Jvm.ClassFile.FieldType) :: jW
def C_AT_init (n : Nat) (r0 : Nat) (r1 : Nat) (μ : Mem) : Option Mem :=
  Option.bind (some (al μ 100 3)) (fun μ1 => if ok μ1 r0 1 = true then if ok μ1 (mN μ + 1) 100 = true then Option.bind (some (sR μ1 r0 0 (mN μ + 1))) (fun μ5 => if ok μ5 r0 1 = true then if ok μ5 r1 0 = true then Option.bind (some (sR μ5 r0 2 r1)) (fun μ9 => some μ9) else none else none) else none else none)
set_option maxHeartbeats 4000000 in
set_option maxRecDepth 100000 in
theorem S_AT_init (l : Launch) (D : va_G) (b : Nat) (cs : Nat → ClassId) (r0 : Nat) (r1 : Nat) (μ : Mem) (res : Mem) (n : Nat) (h : C_AT_init n r0 r1 μ = some res) : MetC l y_AT_init w_AT_init 1 1 3 12 b cs D μ [.ref (b + r0), .ref (b + r1)] res := by
  refine Met.ofW (cc := b_AT_init) (maxL := 2) (ret := (Option.none : Option Jvm.ClassFile.FieldType)) (by decide) rfl ?_
  intro p e s m args below meth c s₁ B hml hv
  obtain ⟨rfl, hsz, hK, hM⟩ := Wd.startC hv
  have hx := B.exec
  have hb := B.bytes
  have hr := B.returns
  have hts : ∀ w ∈ jW, w.before _ s = true := fun w hw => atoms_spec (ws := w_AT_init) B.pre w (List.mem_cons_of_mem _ hw)
  have hown : s.vm.findClass "JoinedLeaves$Atom" = some m.cls := findClass_of_methodNamed B.named
  have hlocks := B.notSynchronized
  have hin : meth.name = "<init>" := (name_of_methodNamed B.named B.method).1
  have hN0 : mN μ = mN μ + 0 := rfl
  have hl := lv_entry ([.ref (b + r0), .ref (b + r1)]) (n := 2) (Nat.le_of_ble_eq_true rfl)
  rw [lg_entry_eq]
  generalize (lg_sl ([.ref (b + r0), .ref (b + r1)]) ++ List.replicate (2 - (lg_sl ([.ref (b + r0), .ref (b + r1)])).length) Slot.unset).toArray = ls at hl ⊢
  have hl : lv_has ls 2 [(0, .ref (b + r0)), (1, .ref (b + r1))] := hl
  unfold C_AT_init at h
  refine lv_aload_n hx hb d_AT_init_0 rfl (lv_at hl 0 rfl) ?_
  refine W.objInit hx hb hown (hts _ jm_0_46) (hts _ jm_0_22) (hts _ jm_0_23) rfl (by rw [hml]; exact hl.1) rfl d_AT_init_1 (Nat.le_of_ble_eq_true rfl) (Nat.le_of_ble_eq_true rfl) ?_
  refine W.eq (g2 := F0 m 4 ls []) rfl ?_
  refine lv_aload_n hx hb d_AT_init_4 rfl (lv_at hl 0 rfl) ?_
  refine lv_iconst (v := 3) hx hb d_AT_init_5 (by decide) ?_
  obtain ⟨μ1, e_μ1, h⟩ := of_b h
  refine g_newi (N := 3) (atype := .int) hx hb rfl (hts _ jm_0_36) hK hM (cs_of hsz hN0) rfl (by decide) (by decide) (by decide) (Nat.le_of_ble_eq_true rfl) (Nat.le_of_ble_eq_true rfl) d_AT_init_6 (fun H hM => ?_)
  refine W.widen (k := 1) (n := 3) (by decide) (by decide) ?_
  rw [Option.some.inj e_μ1] at hM
  have hN2 : mN μ1 = mN μ + 1 := by rw [← Option.some.inj e_μ1]; exact congrArg (· + 1) hN0
  obtain ⟨g3, h⟩ := of_g h
  obtain ⟨g4, h⟩ := of_g h
  obtain ⟨μ5, e_μ5, h⟩ := of_b h
  refine g_putrF (v := mN μ + 1) (C := "JoinedLeaves$Atom") (T := T_AT) (N := 3) (ref := "JoinedLeaves$Atom") hx hb hts jF_AT t_AT o_AT n_AT hown hK hM g3 (by decide) rfl 0 (by decide) (hts _ jm_0_47) (fun _ h9 => h9) rfl hin rfl (ty := (.array .int)) (by decide +kernel) rfl rfl (by decide) (fun _ => rfl) (ok_0 g4) d_AT_init_8 (fun H locs hM => ?_)
  rw [Option.some.inj e_μ5] at hM
  have hN6 : mN μ5 = mN μ + 1 := by rw [← Option.some.inj e_μ5]; exact hN2
  refine lv_aload_n hx hb d_AT_init_11 rfl (lv_at hl 0 rfl) ?_
  refine lv_aload_n hx hb d_AT_init_12 rfl (lv_at hl 1 rfl) ?_
  obtain ⟨g7, h⟩ := of_g h
  obtain ⟨g8, h⟩ := of_g h
  obtain ⟨μ9, e_μ9, h⟩ := of_b h
  refine g_putr (v := r1) (C := "JoinedLeaves$Atom") (T := T_AT) (N := 3) (ref := "JoinedLeaves$Atom") hx hb hts jF_AT t_AT o_AT n_AT hown hK hM g7 (by decide) rfl 2 (by decide) (hts _ jm_1_1) (fun _ h9 => h9) rfl (ty := (.object "JoinedLeaves$Relation")) (by decide +kernel) rfl rfl (by decide) (fun _ => rfl) (ok_0 g8) d_AT_init_13 (fun H locs hM => ?_)
  rw [Option.some.inj e_μ9] at hM
  have hN10 : mN μ9 = mN μ + 1 := by rw [← Option.some.inj e_μ9]; exact hN6
  exact g_cret hx hb hr hlocks hM (Option.some.inj h) d_AT_init_16
abbrev w_AT_bind : List Cond := .code y_AT_bind b_AT_bind 7 (Option.some Jvm.ClassFile.FieldType.boolean) :: jW
def B_AT_bind_0 (n : Nat) (k : Nat → Nat → Nat → Int32 → Int32 → Int32 → Int32 → Int32 → Mem → Option (Int32 × Mem)) (r0 : Nat) (r1 : Nat) (i2 : Int32) (i3 : Int32) (i4 : Int32) (i5 : Int32) (x0 : Int32) (μ : Mem) : Option (Int32 × Mem) :=
  if ok μ r1 0 = true then if (mI μ r1 1) ≤ 1 then k 1 r0 r1 i2 0 i4 0 i2 μ else k 1 r0 r1 i2 0 i4 0 i3 μ else none
def B_AT_bind_1 (n : Nat) (k : Nat → Nat → Nat → Int32 → Int32 → Int32 → Int32 → Int32 → Mem → Option (Int32 × Mem)) (r0 : Nat) (r1 : Nat) (i2 : Int32) (i3 : Int32) (i4 : Int32) (i5 : Int32) (x0 : Int32) (μ : Mem) : Option (Int32 × Mem) :=
  if ok μ r1 0 = true then if (mI μ r1 1) ≤ 2 then k 2 r0 r1 i2 0 0 x0 i2 μ else k 2 r0 r1 i2 0 0 x0 i4 μ else none
def B_AT_bind_2 (n : Nat) (k : Nat → Nat → Nat → Int32 → Int32 → Int32 → Int32 → Int32 → Mem → Option (Int32 × Mem)) (r0 : Nat) (r1 : Nat) (i2 : Int32) (i3 : Int32) (i4 : Int32) (i5 : Int32) (x0 : Int32) (μ : Mem) : Option (Int32 × Mem) :=
  Option.bind (C_JL_isBelow n i2 8 μ) (fun q3 => if q3.1 = 0 then some (0, q3.2) else Option.bind (C_JL_isBelow n i5 8 q3.2) (fun q4 => if q4.1 = 0 then some (0, q4.2) else Option.bind (C_JL_isBelow n x0 8 q4.2) (fun q5 => if q5.1 = 0 then some (0, q5.2) else if ok q5.2 r0 1 = true then if ok q5.2 r1 0 = true then Option.bind (some (sR q5.2 r0 2 r1)) (fun μ8 => if ok μ8 (mR μ8 r0 0) 100 = true then if ib 0 (mZ μ8 (mR μ8 r0 0)) = true then Option.bind (some (sI μ8 (mR μ8 r0 0) (Int32.toNatClampNeg 0) i2)) (fun μ11 => if ok μ11 (mR μ11 r0 0) 100 = true then if ib 1 (mZ μ11 (mR μ11 r0 0)) = true then Option.bind (some (sI μ11 (mR μ11 r0 0) (Int32.toNatClampNeg 1) i5)) (fun μ14 => if ok μ14 (mR μ14 r0 0) 100 = true then if ib 2 (mZ μ14 (mR μ14 r0 0)) = true then Option.bind (some (sI μ14 (mR μ14 r0 0) (Int32.toNatClampNeg 2) x0)) (fun μ17 => Option.bind (some (sI μ17 r0 1 (((1 <<< (i2 &&& 31)) ||| (1 <<< (i5 &&& 31))) ||| (1 <<< (x0 &&& 31))))) (fun μ18 => some (1, μ18))) else none else none) else none else none) else none else none) else none else none)))
def F_AT_bind : Nat → Nat → Nat → Nat → Int32 → Int32 → Int32 → Int32 → Int32 → Mem → Option (Int32 × Mem)
  | 0 => fun _ _ _ _ _ _ _ _ _ => none
  | n + 1 => fun id r0 r1 i2 i3 i4 i5 x0 μ => match id with
    | 0 => B_AT_bind_0 n (F_AT_bind n) r0 r1 i2 i3 i4 i5 x0 μ
    | 1 => B_AT_bind_1 n (F_AT_bind n) r0 r1 i2 i3 i4 i5 x0 μ
    | 2 => B_AT_bind_2 n (F_AT_bind n) r0 r1 i2 i3 i4 i5 x0 μ
    | _ => none
def C_AT_bind (n : Nat) (r0 : Nat) (r1 : Nat) (i2 : Int32) (i3 : Int32) (i4 : Int32) (μ : Mem) : Option (Int32 × Mem) := F_AT_bind n 0 r0 r1 i2 i3 i4 0 0 μ
set_option maxHeartbeats 4000000 in
set_option maxRecDepth 100000 in
theorem S_AT_bind (l : Launch) (D : va_G) (b : Nat) (cs : Nat → ClassId) (u_r0 : Nat) (u_r1 : Nat) (u_i2 : Int32) (u_i3 : Int32) (u_i4 : Int32) (ν : Mem) (res : Int32 × Mem) (n : Nat) (h : C_AT_bind n u_r0 u_r1 u_i2 u_i3 u_i4 ν = some res) : MetI l y_AT_bind w_AT_bind 1 21 b cs D ν [.ref (b + u_r0), .ref (b + u_r1), .int u_i2, .int u_i3, .int u_i4] res := by
  refine Met.ofW (cc := b_AT_bind) (maxL := 7) (ret := (Option.some Jvm.ClassFile.FieldType.boolean)) (by decide) rfl ?_
  intro p e s m args below meth c s₁ B hml hv
  obtain ⟨rfl, hK, hM⟩ := Wd.start hv
  have hx := B.exec
  have hb := B.bytes
  have hr := B.returns
  have hts : ∀ w ∈ jW, w.before _ s = true := fun w hw => atoms_spec (ws := w_AT_bind) B.pre w (List.mem_cons_of_mem _ hw)
  have hown : s.vm.findClass "JoinedLeaves$Atom" = some m.cls := findClass_of_methodNamed B.named
  have hlocks := B.notSynchronized
  have hl := lv_entry ([.ref (b + u_r0), .ref (b + u_r1), .int u_i2, .int u_i3, .int u_i4]) (n := 7) (Nat.le_of_ble_eq_true rfl)
  rw [lg_entry_eq]
  generalize (lg_sl ([.ref (b + u_r0), .ref (b + u_r1), .int u_i2, .int u_i3, .int u_i4]) ++ List.replicate (7 - (lg_sl ([.ref (b + u_r0), .ref (b + u_r1), .int u_i2, .int u_i3, .int u_i4])).length) Slot.unset).toArray = ls at hl ⊢
  have hl : lv_has ls 7 [(0, .ref (b + u_r0)), (1, .ref (b + u_r1)), (2, .int u_i2), (3, .int u_i3), (4, .int u_i4)] := hl
  have key : ∀ N : Nat, (∀ (r0 : Nat) (r1 : Nat) (i2 : Int32) (i3 : Int32) (i4 : Int32) (i5 : Int32) (x0 : Int32) (μ : Mem) (H : Heap) (locs : List Loc) (ls : Array Slot), F_AT_bind N 0 r0 r1 i2 i3 i4 i5 x0 μ = some res → Wd (Aw b (mN ν)) b cs D s.heap μ H locs → lv_has ls 7 [(0, .ref (b + r0)), (1, .ref (b + r1)), (2, .int i2), (3, .int i3), (4, .int i4)] → W p l e (headSpec w_AT_bind { frames := 1, cells := 0, slots := 0, locals := 21 }).room s m ([.ref (b + u_r0), .ref (b + u_r1), .int u_i2, .int u_i3, .int u_i4]).toArray below meth c H locs 0 0 (MQ below (va_Qi (fun r μ' => (r, μ') = res ∧ mN μ' ≤ mN ν) (Bw b cs D) (Aw b (mN ν))) ([.ref (b + u_r0), .ref (b + u_r1), .int u_i2, .int u_i3, .int u_i4]).toArray s 0 0 (Aw b (mN ν))) (F0 m 0 ls [])) ∧
      (∀ (r0 : Nat) (r1 : Nat) (i2 : Int32) (i3 : Int32) (i4 : Int32) (i5 : Int32) (x0 : Int32) (μ : Mem) (H : Heap) (locs : List Loc) (ls : Array Slot), F_AT_bind N 1 r0 r1 i2 i3 i4 i5 x0 μ = some res → Wd (Aw b (mN ν)) b cs D s.heap μ H locs → lv_has ls 7 [(0, .ref (b + r0)), (1, .ref (b + r1)), (2, .int i2), (4, .int i4)] → W p l e (headSpec w_AT_bind { frames := 1, cells := 0, slots := 0, locals := 21 }).room s m ([.ref (b + u_r0), .ref (b + u_r1), .int u_i2, .int u_i3, .int u_i4]).toArray below meth c H locs 0 0 (MQ below (va_Qi (fun r μ' => (r, μ') = res ∧ mN μ' ≤ mN ν) (Bw b cs D) (Aw b (mN ν))) ([.ref (b + u_r0), .ref (b + u_r1), .int u_i2, .int u_i3, .int u_i4]).toArray s 0 0 (Aw b (mN ν))) (F0 m 13 ls [.int x0])) ∧
      (∀ (r0 : Nat) (r1 : Nat) (i2 : Int32) (i3 : Int32) (i4 : Int32) (i5 : Int32) (x0 : Int32) (μ : Mem) (H : Heap) (locs : List Loc) (ls : Array Slot), F_AT_bind N 2 r0 r1 i2 i3 i4 i5 x0 μ = some res → Wd (Aw b (mN ν)) b cs D s.heap μ H locs → lv_has ls 7 [(0, .ref (b + r0)), (1, .ref (b + r1)), (2, .int i2), (5, .int i5)] → W p l e (headSpec w_AT_bind { frames := 1, cells := 0, slots := 0, locals := 21 }).room s m ([.ref (b + u_r0), .ref (b + u_r1), .int u_i2, .int u_i3, .int u_i4]).toArray below meth c H locs 0 0 (MQ below (va_Qi (fun r μ' => (r, μ') = res ∧ mN μ' ≤ mN ν) (Bw b cs D) (Aw b (mN ν))) ([.ref (b + u_r0), .ref (b + u_r1), .int u_i2, .int u_i3, .int u_i4]).toArray s 0 0 (Aw b (mN ν))) (F0 m 29 ls [.int x0])) := by
    intro N
    induction N with
    | zero => exact ⟨fun _ _ _ _ _ _ _ _ _ _ _ h => (nomatch h), fun _ _ _ _ _ _ _ _ _ _ _ h => (nomatch h), fun _ _ _ _ _ _ _ _ _ _ _ h => (nomatch h)⟩
    | succ n ih =>
      obtain ⟨ih0, ih1, ih2⟩ := ih
      refine ⟨?_, ?_, ?_⟩
      · intro r0 r1 i2 i3 i4 i5 x0 μ H locs ls h hM hl
        have h : B_AT_bind_0 n (F_AT_bind n) r0 r1 i2 i3 i4 i5 x0 μ = some res := h
        unfold B_AT_bind_0 at h
        refine lv_aload_n hx hb d_AT_bind_0 rfl (lv_at hl 1 rfl) ?_
        obtain ⟨g1, h⟩ := of_g h
        refine g_getN (C := "JoinedLeaves$Relation") (T := T_RE) (N := 3) (ref := "JoinedLeaves$Relation") (v := .int (mI μ r1 1)) hx hb hts jF_RE hown hK hM g1 (by decide) rfl 1 (by decide) (hK.nest _ jn_1 rfl) (fun _ h9 => h9) (by decide) rfl d_AT_bind_1 ?_
        refine lv_iconst (v := 1) hx hb d_AT_bind_4 (by decide) ?_
        refine lv_icmp_le (tgt := 12) hx hb d_AT_bind_5 (by decide) (fun hc => ?_) (fun hc => ?_)
        · replace h := of_t hc h
          refine lv_iload_n hx hb d_AT_bind_12 rfl (lv_at hl 2 rfl) ?_
          exact ih1 _ _ _ _ _ _ _ _ _ _ _ h hM (lv_sub hl [0, 1, 2, 4] rfl)
        · replace h := of_f hc h
          refine lv_iload_n hx hb d_AT_bind_8 rfl (lv_at hl 3 rfl) ?_
          refine lv_goto (tgt := 13) hx hb d_AT_bind_9 (by decide) ?_
          exact ih1 _ _ _ _ _ _ _ _ _ _ _ h hM (lv_sub hl [0, 1, 2, 4] rfl)
      · intro r0 r1 i2 i3 i4 i5 x0 μ H locs ls h hM hl
        have h : B_AT_bind_1 n (F_AT_bind n) r0 r1 i2 i3 i4 i5 x0 μ = some res := h
        unfold B_AT_bind_1 at h
        refine lv_istore hx hb d_AT_bind_13 hl (by decide) rfl (fun ls hl => ?_)
        have hl : lv_has ls 7 [(5, .int x0), (0, .ref (b + r0)), (1, .ref (b + r1)), (2, .int i2), (4, .int i4)] := hl
        refine lv_aload_n hx hb d_AT_bind_15 rfl (lv_at hl 2 rfl) ?_
        obtain ⟨g2, h⟩ := of_g h
        refine g_getN (C := "JoinedLeaves$Relation") (T := T_RE) (N := 3) (ref := "JoinedLeaves$Relation") (v := .int (mI μ r1 1)) hx hb hts jF_RE hown hK hM g2 (by decide) rfl 1 (by decide) (hK.nest _ jn_1 rfl) (fun _ h9 => h9) (by decide) rfl d_AT_bind_16 ?_
        refine lv_iconst (v := 2) hx hb d_AT_bind_19 (by decide) ?_
        refine lv_icmp_le (tgt := 28) hx hb d_AT_bind_20 (by decide) (fun hc => ?_) (fun hc => ?_)
        · replace h := of_t hc h
          refine lv_iload_n hx hb d_AT_bind_28 rfl (lv_at hl 3 rfl) ?_
          exact ih2 _ _ _ _ _ _ _ _ _ _ _ h hM (lv_sub hl [1, 2, 3, 0] rfl)
        · replace h := of_f hc h
          refine lv_iload hx hb d_AT_bind_23 (lv_at hl 4 rfl) ?_
          refine lv_goto (tgt := 29) hx hb d_AT_bind_25 (by decide) ?_
          exact ih2 _ _ _ _ _ _ _ _ _ _ _ h hM (lv_sub hl [1, 2, 3, 0] rfl)
      · intro r0 r1 i2 i3 i4 i5 x0 μ H locs ls h hM hl
        have h : B_AT_bind_2 n (F_AT_bind n) r0 r1 i2 i3 i4 i5 x0 μ = some res := h
        unfold B_AT_bind_2 at h
        refine lv_istore hx hb d_AT_bind_29 hl (by decide) rfl (fun ls hl => ?_)
        have hl : lv_has ls 7 [(6, .int x0), (0, .ref (b + r0)), (1, .ref (b + r1)), (2, .int i2), (5, .int i5)] := hl
        refine lv_iload_n hx hb d_AT_bind_31 rfl (lv_at hl 3 rfl) ?_
        refine lv_bipush (v := 8) hx hb d_AT_bind_32 (by decide) ?_
        obtain ⟨q3, hq3, h⟩ := of_b h
        refine g_calli (va_runSN (As := [.int i2, .int 8]) (rest := []) ⟨hx, hb, hml, hown, hts⟩ (S_JL_isBelow l D b cs i2 8 μ q3 n hq3) ⟨va_cnB 2 hts (goodIn_g jm_2_31) rfl rfl rfl (hK.2.1 _ jn_32) (hts _ jm_0_1) (by decide +kernel) ⟨Nat.le_of_ble_eq_true rfl, Nat.le_of_ble_eq_true rfl⟩, (hts _ jm_2_30), trivial⟩ (Wd.preS hK hM) rfl rfl hl.1 rfl (lv_room (Nat.le_of_ble_eq_true rfl)) d_AT_bind_34 ⟨Nat.le_of_ble_eq_true rfl, Nat.le_of_ble_eq_true rfl⟩) hM (fun H locs hM => ?_)
        refine lv_if_eq (tgt := 60) hx hb d_AT_bind_37 (by decide) (fun hc => ?_) (fun hc => ?_)
        · replace h := of_t hc h
          refine lv_iconst (v := 0) hx hb d_AT_bind_60 (by decide) ?_
          exact g_zret hx hb hr narrow_b0 hlocks hM (Option.some.inj h) d_AT_bind_61
        · replace h := of_f hc h
          refine lv_iload hx hb d_AT_bind_40 (lv_at hl 4 rfl) ?_
          refine lv_bipush (v := 8) hx hb d_AT_bind_42 (by decide) ?_
          obtain ⟨q4, hq4, h⟩ := of_b h
          refine g_calli (va_runSN (As := [.int i5, .int 8]) (rest := []) ⟨hx, hb, hml, hown, hts⟩ (S_JL_isBelow l D b cs i5 8 q3.2 q4 n hq4) ⟨va_cnB 2 hts (goodIn_g jm_2_31) rfl rfl rfl (hK.2.1 _ jn_32) (hts _ jm_0_1) (by decide +kernel) ⟨Nat.le_of_ble_eq_true rfl, Nat.le_of_ble_eq_true rfl⟩, (hts _ jm_2_30), trivial⟩ (Wd.preS hK hM) rfl rfl hl.1 rfl (lv_room (Nat.le_of_ble_eq_true rfl)) d_AT_bind_44 ⟨Nat.le_of_ble_eq_true rfl, Nat.le_of_ble_eq_true rfl⟩) hM (fun H locs hM => ?_)
          refine lv_if_eq (tgt := 60) hx hb d_AT_bind_47 (by decide) (fun hc => ?_) (fun hc => ?_)
          · replace h := of_t hc h
            refine lv_iconst (v := 0) hx hb d_AT_bind_60 (by decide) ?_
            exact g_zret hx hb hr narrow_b0 hlocks hM (Option.some.inj h) d_AT_bind_61
          · replace h := of_f hc h
            refine lv_iload hx hb d_AT_bind_50 (lv_at hl 0 rfl) ?_
            refine lv_bipush (v := 8) hx hb d_AT_bind_52 (by decide) ?_
            obtain ⟨q5, hq5, h⟩ := of_b h
            refine g_calli (va_runSN (As := [.int x0, .int 8]) (rest := []) ⟨hx, hb, hml, hown, hts⟩ (S_JL_isBelow l D b cs x0 8 q4.2 q5 n hq5) ⟨va_cnB 2 hts (goodIn_g jm_2_31) rfl rfl rfl (hK.2.1 _ jn_32) (hts _ jm_0_1) (by decide +kernel) ⟨Nat.le_of_ble_eq_true rfl, Nat.le_of_ble_eq_true rfl⟩, (hts _ jm_2_30), trivial⟩ (Wd.preS hK hM) rfl rfl hl.1 rfl (lv_room (Nat.le_of_ble_eq_true rfl)) d_AT_bind_54 ⟨Nat.le_of_ble_eq_true rfl, Nat.le_of_ble_eq_true rfl⟩) hM (fun H locs hM => ?_)
            refine lv_if_ne (tgt := 62) hx hb d_AT_bind_57 (by decide) (fun hc => ?_) (fun hc => ?_)
            · replace h := of_f hc h
              refine lv_aload_n hx hb d_AT_bind_62 rfl (lv_at hl 1 rfl) ?_
              refine lv_aload_n hx hb d_AT_bind_63 rfl (lv_at hl 2 rfl) ?_
              obtain ⟨g6, h⟩ := of_g h
              obtain ⟨g7, h⟩ := of_g h
              obtain ⟨μ8, e_μ8, h⟩ := of_b h
              obtain rfl := Option.some.inj e_μ8
              refine g_putr (v := r1) (C := "JoinedLeaves$Atom") (T := T_AT) (N := 3) (ref := "JoinedLeaves$Atom") hx hb hts jF_AT t_AT o_AT n_AT hown hK hM g6 (by decide) rfl 2 (by decide) (hts _ jm_1_1) (fun _ h9 => h9) rfl (ty := (.object "JoinedLeaves$Relation")) (by decide +kernel) rfl rfl (by decide) (fun _ => rfl) (ok_0 g7) d_AT_bind_64 (fun H locs hM => ?_)
              refine lv_aload_n hx hb d_AT_bind_67 rfl (lv_at hl 1 rfl) ?_
              obtain ⟨g9, h⟩ := of_g h
              refine g_get (C := "JoinedLeaves$Atom") (T := T_AT) (N := 3) (ref := "JoinedLeaves$Atom") (v := .ref (b + (mR (sR q5.2 r0 2 r1) r0 0))) hx hb hts jF_AT hown hK hM g6 (by decide) rfl 0 (by decide) (hts _ jm_0_47) (fun _ h9 => h9) (by decide) (rv_of (ok_0 g9)) d_AT_bind_68 ?_
              refine lv_iconst (v := 0) hx hb d_AT_bind_71 (by decide) ?_
              refine lv_iload_n hx hb d_AT_bind_72 rfl (lv_at hl 3 rfl) ?_
              obtain ⟨g10, h⟩ := of_g h
              obtain ⟨μ11, e_μ11, h⟩ := of_b h
              obtain rfl := Option.some.inj e_μ11
              refine g_iast (v := i2) hx hb hK hM g9 g10 d_AT_bind_73 (fun H locs hM => ?_)
              refine lv_aload_n hx hb d_AT_bind_74 rfl (lv_at hl 1 rfl) ?_
              obtain ⟨g12, h⟩ := of_g h
              refine g_get (C := "JoinedLeaves$Atom") (T := T_AT) (N := 3) (ref := "JoinedLeaves$Atom") (v := .ref (b + (mR (sI (sR q5.2 r0 2 r1) (mR (sR q5.2 r0 2 r1) r0 0) (Int32.toNatClampNeg 0) i2) r0 0))) hx hb hts jF_AT hown hK hM g6 (by decide) rfl 0 (by decide) (hts _ jm_0_47) (fun _ h9 => h9) (by decide) (rv_of (ok_0 g12)) d_AT_bind_75 ?_
              refine lv_iconst (v := 1) hx hb d_AT_bind_78 (by decide) ?_
              refine lv_iload hx hb d_AT_bind_79 (lv_at hl 4 rfl) ?_
              obtain ⟨g13, h⟩ := of_g h
              obtain ⟨μ14, e_μ14, h⟩ := of_b h
              obtain rfl := Option.some.inj e_μ14
              refine g_iast (v := i5) hx hb hK hM g12 g13 d_AT_bind_81 (fun H locs hM => ?_)
              refine lv_aload_n hx hb d_AT_bind_82 rfl (lv_at hl 1 rfl) ?_
              obtain ⟨g15, h⟩ := of_g h
              refine g_get (C := "JoinedLeaves$Atom") (T := T_AT) (N := 3) (ref := "JoinedLeaves$Atom") (v := .ref (b + (mR (sI (sI (sR q5.2 r0 2 r1) (mR (sR q5.2 r0 2 r1) r0 0) (Int32.toNatClampNeg 0) i2) (mR (sI (sR q5.2 r0 2 r1) (mR (sR q5.2 r0 2 r1) r0 0) (Int32.toNatClampNeg 0) i2) r0 0) (Int32.toNatClampNeg 1) i5) r0 0))) hx hb hts jF_AT hown hK hM g6 (by decide) rfl 0 (by decide) (hts _ jm_0_47) (fun _ h9 => h9) (by decide) (rv_of (ok_0 g15)) d_AT_bind_83 ?_
              refine lv_iconst (v := 2) hx hb d_AT_bind_86 (by decide) ?_
              refine lv_iload hx hb d_AT_bind_87 (lv_at hl 0 rfl) ?_
              obtain ⟨g16, h⟩ := of_g h
              obtain ⟨μ17, e_μ17, h⟩ := of_b h
              obtain rfl := Option.some.inj e_μ17
              refine g_iast (v := x0) hx hb hK hM g15 g16 d_AT_bind_89 (fun H locs hM => ?_)
              refine lv_aload_n hx hb d_AT_bind_90 rfl (lv_at hl 1 rfl) ?_
              refine lv_iconst (v := 1) hx hb d_AT_bind_91 (by decide) ?_
              refine lv_iload_n hx hb d_AT_bind_92 rfl (lv_at hl 3 rfl) ?_
              refine lv_ishl hx hb d_AT_bind_93 ?_
              refine lv_iconst (v := 1) hx hb d_AT_bind_94 (by decide) ?_
              refine lv_iload hx hb d_AT_bind_95 (lv_at hl 4 rfl) ?_
              refine lv_ishl hx hb d_AT_bind_97 ?_
              refine lv_ior hx hb d_AT_bind_98 ?_
              refine lv_iconst (v := 1) hx hb d_AT_bind_99 (by decide) ?_
              refine lv_iload hx hb d_AT_bind_100 (lv_at hl 0 rfl) ?_
              refine lv_ishl hx hb d_AT_bind_102 ?_
              refine lv_ior hx hb d_AT_bind_103 ?_
              obtain ⟨μ18, e_μ18, h⟩ := of_b h
              obtain rfl := Option.some.inj e_μ18
              refine g_puti (v := ((1 <<< (i2 &&& 31)) ||| (1 <<< (i5 &&& 31))) ||| (1 <<< (x0 &&& 31))) (C := "JoinedLeaves$Atom") (T := T_AT) (N := 3) (ref := "JoinedLeaves$Atom") hx hb hts jF_AT t_AT o_AT n_AT hown hK hM g6 (by decide) rfl 1 (by decide) (hts _ jm_1_0) (fun _ h9 => h9) rfl (ty := .int) (by decide +kernel) rfl rfl (by decide) (Or.inl rfl) d_AT_bind_104 (fun H locs hM => ?_)
              refine lv_iconst (v := 1) hx hb d_AT_bind_107 (by decide) ?_
              exact g_zret hx hb hr narrow_b1 hlocks hM (Option.some.inj h) d_AT_bind_108
            · replace h := of_t hc h
              refine lv_iconst (v := 0) hx hb d_AT_bind_60 (by decide) ?_
              exact g_zret hx hb hr narrow_b0 hlocks hM (Option.some.inj h) d_AT_bind_61
  exact (key n).1 _ _ _ _ _ _ _ _ _ _ _ h hM hl
abbrev w_AT_agreesWithItself : List Cond := .code y_AT_agreesWithItself b_AT_agreesWithItself 4 (Option.some Jvm.ClassFile.FieldType.boolean) :: jW
def B_AT_agreesWithItself_0 (n : Nat) (k : Nat → Nat → Int32 → Int32 → Int32 → Mem → Option (Int32 × Mem)) (r0 : Nat) (i1 : Int32) (i2 : Int32) (i3 : Int32) (μ : Mem) : Option (Int32 × Mem) :=
  k 1 r0 i1 1 0 μ
def B_AT_agreesWithItself_1 (n : Nat) (k : Nat → Nat → Int32 → Int32 → Int32 → Mem → Option (Int32 × Mem)) (r0 : Nat) (i1 : Int32) (i2 : Int32) (i3 : Int32) (μ : Mem) : Option (Int32 × Mem) :=
  if 3 ≤ i2 then some (1, μ) else k 2 r0 i1 i2 0 μ
def B_AT_agreesWithItself_2 (n : Nat) (k : Nat → Nat → Int32 → Int32 → Int32 → Mem → Option (Int32 × Mem)) (r0 : Nat) (i1 : Int32) (i2 : Int32) (i3 : Int32) (μ : Mem) : Option (Int32 × Mem) :=
  if i2 ≤ i3 then Option.bind (some (i2 + 1)) (fun v1 => k 1 r0 i1 v1 0 μ) else if ok μ r0 1 = true then if ok μ (mR μ r0 0) 100 = true then if ib i2 (mZ μ (mR μ r0 0)) = true then if ib i3 (mZ μ (mR μ r0 0)) = true then if (mI μ (mR μ r0 0) (Int32.toNatClampNeg i2)) = (mI μ (mR μ r0 0) (Int32.toNatClampNeg i3)) then if ok μ (mR μ r0 2) 0 = true then Option.bind (C_RE_valueAt n (mR μ r0 2) i1 i2 μ) (fun q7 => if ok q7.2 r0 1 = true then if ok q7.2 (mR q7.2 r0 2) 0 = true then Option.bind (C_RE_valueAt n (mR q7.2 r0 2) i1 i3 q7.2) (fun q10 => if q7.1 = q10.1 then k 3 r0 i1 i2 i3 q10.2 else some (0, q10.2)) else none else none) else none else k 3 r0 i1 i2 i3 μ else none else none else none else none
def B_AT_agreesWithItself_3 (n : Nat) (k : Nat → Nat → Int32 → Int32 → Int32 → Mem → Option (Int32 × Mem)) (r0 : Nat) (i1 : Int32) (i2 : Int32) (i3 : Int32) (μ : Mem) : Option (Int32 × Mem) :=
  Option.bind (some (i3 + 1)) (fun v11 => k 2 r0 i1 i2 v11 μ)
def F_AT_agreesWithItself : Nat → Nat → Nat → Int32 → Int32 → Int32 → Mem → Option (Int32 × Mem)
  | 0 => fun _ _ _ _ _ _ => none
  | n + 1 => fun id r0 i1 i2 i3 μ => match id with
    | 0 => B_AT_agreesWithItself_0 n (F_AT_agreesWithItself n) r0 i1 i2 i3 μ
    | 1 => B_AT_agreesWithItself_1 n (F_AT_agreesWithItself n) r0 i1 i2 i3 μ
    | 2 => B_AT_agreesWithItself_2 n (F_AT_agreesWithItself n) r0 i1 i2 i3 μ
    | 3 => B_AT_agreesWithItself_3 n (F_AT_agreesWithItself n) r0 i1 i2 i3 μ
    | _ => none
def C_AT_agreesWithItself (n : Nat) (r0 : Nat) (i1 : Int32) (μ : Mem) : Option (Int32 × Mem) := F_AT_agreesWithItself n 0 r0 i1 0 0 μ
set_option maxHeartbeats 4000000 in
set_option maxRecDepth 100000 in
theorem S_AT_agreesWithItself (l : Launch) (D : va_G) (b : Nat) (cs : Nat → ClassId) (u_r0 : Nat) (u_i1 : Int32) (ν : Mem) (res : Int32 × Mem) (n : Nat) (h : C_AT_agreesWithItself n u_r0 u_i1 ν = some res) : MetI l y_AT_agreesWithItself w_AT_agreesWithItself 1 22 b cs D ν [.ref (b + u_r0), .int u_i1] res := by
  refine Met.ofW (cc := b_AT_agreesWithItself) (maxL := 4) (ret := (Option.some Jvm.ClassFile.FieldType.boolean)) (by decide) rfl ?_
  intro p e s m args below meth c s₁ B hml hv
  obtain ⟨rfl, hK, hM⟩ := Wd.start hv
  have hx := B.exec
  have hb := B.bytes
  have hr := B.returns
  have hts : ∀ w ∈ jW, w.before _ s = true := fun w hw => atoms_spec (ws := w_AT_agreesWithItself) B.pre w (List.mem_cons_of_mem _ hw)
  have hown : s.vm.findClass "JoinedLeaves$Atom" = some m.cls := findClass_of_methodNamed B.named
  have hlocks := B.notSynchronized
  have hl := lv_entry ([.ref (b + u_r0), .int u_i1]) (n := 4) (Nat.le_of_ble_eq_true rfl)
  rw [lg_entry_eq]
  generalize (lg_sl ([.ref (b + u_r0), .int u_i1]) ++ List.replicate (4 - (lg_sl ([.ref (b + u_r0), .int u_i1])).length) Slot.unset).toArray = ls at hl ⊢
  have hl : lv_has ls 4 [(0, .ref (b + u_r0)), (1, .int u_i1)] := hl
  have key : ∀ N : Nat, (∀ (r0 : Nat) (i1 : Int32) (i2 : Int32) (i3 : Int32) (μ : Mem) (H : Heap) (locs : List Loc) (ls : Array Slot), F_AT_agreesWithItself N 0 r0 i1 i2 i3 μ = some res → Wd (Aw b (mN ν)) b cs D s.heap μ H locs → lv_has ls 4 [(0, .ref (b + r0)), (1, .int i1)] → W p l e (headSpec w_AT_agreesWithItself { frames := 1, cells := 0, slots := 0, locals := 22 }).room s m ([.ref (b + u_r0), .int u_i1]).toArray below meth c H locs 0 0 (MQ below (va_Qi (fun r μ' => (r, μ') = res ∧ mN μ' ≤ mN ν) (Bw b cs D) (Aw b (mN ν))) ([.ref (b + u_r0), .int u_i1]).toArray s 0 0 (Aw b (mN ν))) (F0 m 0 ls [])) ∧
      (∀ (r0 : Nat) (i1 : Int32) (i2 : Int32) (i3 : Int32) (μ : Mem) (H : Heap) (locs : List Loc) (ls : Array Slot), F_AT_agreesWithItself N 1 r0 i1 i2 i3 μ = some res → Wd (Aw b (mN ν)) b cs D s.heap μ H locs → lv_has ls 4 [(0, .ref (b + r0)), (1, .int i1), (2, .int i2)] → W p l e (headSpec w_AT_agreesWithItself { frames := 1, cells := 0, slots := 0, locals := 22 }).room s m ([.ref (b + u_r0), .int u_i1]).toArray below meth c H locs 0 0 (MQ below (va_Qi (fun r μ' => (r, μ') = res ∧ mN μ' ≤ mN ν) (Bw b cs D) (Aw b (mN ν))) ([.ref (b + u_r0), .int u_i1]).toArray s 0 0 (Aw b (mN ν))) (F0 m 2 ls [])) ∧
      (∀ (r0 : Nat) (i1 : Int32) (i2 : Int32) (i3 : Int32) (μ : Mem) (H : Heap) (locs : List Loc) (ls : Array Slot), F_AT_agreesWithItself N 2 r0 i1 i2 i3 μ = some res → Wd (Aw b (mN ν)) b cs D s.heap μ H locs → lv_has ls 4 [(0, .ref (b + r0)), (1, .int i1), (2, .int i2), (3, .int i3)] → W p l e (headSpec w_AT_agreesWithItself { frames := 1, cells := 0, slots := 0, locals := 22 }).room s m ([.ref (b + u_r0), .int u_i1]).toArray below meth c H locs 0 0 (MQ below (va_Qi (fun r μ' => (r, μ') = res ∧ mN μ' ≤ mN ν) (Bw b cs D) (Aw b (mN ν))) ([.ref (b + u_r0), .int u_i1]).toArray s 0 0 (Aw b (mN ν))) (F0 m 9 ls [])) ∧
      (∀ (r0 : Nat) (i1 : Int32) (i2 : Int32) (i3 : Int32) (μ : Mem) (H : Heap) (locs : List Loc) (ls : Array Slot), F_AT_agreesWithItself N 3 r0 i1 i2 i3 μ = some res → Wd (Aw b (mN ν)) b cs D s.heap μ H locs → lv_has ls 4 [(0, .ref (b + r0)), (1, .int i1), (2, .int i2), (3, .int i3)] → W p l e (headSpec w_AT_agreesWithItself { frames := 1, cells := 0, slots := 0, locals := 22 }).room s m ([.ref (b + u_r0), .int u_i1]).toArray below meth c H locs 0 0 (MQ below (va_Qi (fun r μ' => (r, μ') = res ∧ mN μ' ≤ mN ν) (Bw b cs D) (Aw b (mN ν))) ([.ref (b + u_r0), .int u_i1]).toArray s 0 0 (Aw b (mN ν))) (F0 m 52 ls [])) := by
    intro N
    induction N with
    | zero => exact ⟨fun _ _ _ _ _ _ _ _ h => (nomatch h), fun _ _ _ _ _ _ _ _ h => (nomatch h), fun _ _ _ _ _ _ _ _ h => (nomatch h), fun _ _ _ _ _ _ _ _ h => (nomatch h)⟩
    | succ n ih =>
      obtain ⟨ih0, ih1, ih2, ih3⟩ := ih
      refine ⟨?_, ?_, ?_, ?_⟩
      · intro r0 i1 i2 i3 μ H locs ls h hM hl
        have h : B_AT_agreesWithItself_0 n (F_AT_agreesWithItself n) r0 i1 i2 i3 μ = some res := h
        unfold B_AT_agreesWithItself_0 at h
        refine lv_iconst (v := 1) hx hb d_AT_agreesWithItself_0 (by decide) ?_
        refine lv_istore_n hx hb d_AT_agreesWithItself_1 rfl hl (by decide) rfl (fun ls hl => ?_)
        have hl : lv_has ls 4 [(2, .int 1), (0, .ref (b + r0)), (1, .int i1)] := hl
        exact ih1 _ _ _ _ _ _ _ _ h hM (lv_sub hl [1, 2, 0] rfl)
      · intro r0 i1 i2 i3 μ H locs ls h hM hl
        have h : B_AT_agreesWithItself_1 n (F_AT_agreesWithItself n) r0 i1 i2 i3 μ = some res := h
        unfold B_AT_agreesWithItself_1 at h
        refine lv_iload_n hx hb d_AT_agreesWithItself_2 rfl (lv_at hl 2 rfl) ?_
        refine lv_iconst (v := 3) hx hb d_AT_agreesWithItself_3 (by decide) ?_
        refine lv_icmp_ge (tgt := 64) hx hb d_AT_agreesWithItself_4 (by decide) (fun hc => ?_) (fun hc => ?_)
        · replace h := of_t hc h
          refine lv_iconst (v := 1) hx hb d_AT_agreesWithItself_64 (by decide) ?_
          exact g_zret hx hb hr narrow_b1 hlocks hM (Option.some.inj h) d_AT_agreesWithItself_65
        · replace h := of_f hc h
          refine lv_iconst (v := 0) hx hb d_AT_agreesWithItself_7 (by decide) ?_
          refine lv_istore_n hx hb d_AT_agreesWithItself_8 rfl hl (by decide) rfl (fun ls hl => ?_)
          have hl : lv_has ls 4 [(3, .int 0), (0, .ref (b + r0)), (1, .int i1), (2, .int i2)] := hl
          exact ih2 _ _ _ _ _ _ _ _ h hM (lv_sub hl [1, 2, 3, 0] rfl)
      · intro r0 i1 i2 i3 μ H locs ls h hM hl
        have h : B_AT_agreesWithItself_2 n (F_AT_agreesWithItself n) r0 i1 i2 i3 μ = some res := h
        unfold B_AT_agreesWithItself_2 at h
        refine lv_iload_n hx hb d_AT_agreesWithItself_9 rfl (lv_at hl 3 rfl) ?_
        refine lv_iload_n hx hb d_AT_agreesWithItself_10 rfl (lv_at hl 2 rfl) ?_
        refine lv_icmp_ge (tgt := 58) hx hb d_AT_agreesWithItself_11 (by decide) (fun hc => ?_) (fun hc => ?_)
        · replace h := of_t hc h
          obtain ⟨v1, e_v1, h⟩ := of_b h
          refine lv_iinc (v := v1) hx hb d_AT_agreesWithItself_58 hl (k := 2) rfl (by rw [lit1]; exact Option.some.inj e_v1) (by decide) rfl (fun ls hl => ?_)
          have hl : lv_has ls 4 [(2, .int v1), (0, .ref (b + r0)), (1, .int i1), (3, .int i3)] := hl
          refine lv_goto (tgt := 2) hx hb d_AT_agreesWithItself_61 (by decide) ?_
          exact ih1 _ _ _ _ _ _ _ _ h hM (lv_sub hl [1, 2, 0] rfl)
        · replace h := of_f hc h
          refine lv_aload_n hx hb d_AT_agreesWithItself_14 rfl (lv_at hl 0 rfl) ?_
          obtain ⟨g2, h⟩ := of_g h
          obtain ⟨g3, h⟩ := of_g h
          refine g_get (C := "JoinedLeaves$Atom") (T := T_AT) (N := 3) (ref := "JoinedLeaves$Atom") (v := .ref (b + (mR μ r0 0))) hx hb hts jF_AT hown hK hM g2 (by decide) rfl 0 (by decide) (hts _ jm_0_47) (fun _ h9 => h9) (by decide) (rv_of (ok_0 g3)) d_AT_agreesWithItself_15 ?_
          refine lv_iload_n hx hb d_AT_agreesWithItself_18 rfl (lv_at hl 2 rfl) ?_
          obtain ⟨g4, h⟩ := of_g h
          refine g_iald hx hb hK hM g3 g4 d_AT_agreesWithItself_19 ?_
          refine lv_aload_n hx hb d_AT_agreesWithItself_20 rfl (lv_at hl 0 rfl) ?_
          refine g_get (C := "JoinedLeaves$Atom") (T := T_AT) (N := 3) (ref := "JoinedLeaves$Atom") (v := .ref (b + (mR μ r0 0))) hx hb hts jF_AT hown hK hM g2 (by decide) rfl 0 (by decide) (hts _ jm_0_47) (fun _ h9 => h9) (by decide) (rv_of (ok_0 g3)) d_AT_agreesWithItself_21 ?_
          refine lv_iload_n hx hb d_AT_agreesWithItself_24 rfl (lv_at hl 3 rfl) ?_
          obtain ⟨g5, h⟩ := of_g h
          refine g_iald hx hb hK hM g3 g5 d_AT_agreesWithItself_25 ?_
          refine lv_icmp_ne (tgt := 52) hx hb d_AT_agreesWithItself_26 (by decide) (fun hc => ?_) (fun hc => ?_)
          · replace h := of_f hc h
            exact ih3 _ _ _ _ _ _ _ _ h hM (lv_sub hl [0, 1, 2, 3] rfl)
          · replace h := of_t hc h
            refine lv_aload_n hx hb d_AT_agreesWithItself_29 rfl (lv_at hl 0 rfl) ?_
            obtain ⟨g6, h⟩ := of_g h
            refine g_get (C := "JoinedLeaves$Atom") (T := T_AT) (N := 3) (ref := "JoinedLeaves$Atom") (v := .ref (b + (mR μ r0 2))) hx hb hts jF_AT hown hK hM g2 (by decide) rfl 2 (by decide) (hts _ jm_1_1) (fun _ h9 => h9) (by decide) (rv_of (ok_0 g6)) d_AT_agreesWithItself_30 ?_
            refine lv_iload_n hx hb d_AT_agreesWithItself_33 rfl (lv_at hl 1 rfl) ?_
            refine lv_iload_n hx hb d_AT_agreesWithItself_34 rfl (lv_at hl 2 rfl) ?_
            obtain ⟨q7, hq7, h⟩ := of_b h
            refine g_calli (va_runVN (As := [.int i1, .int i2]) (rest := []) ⟨hx, hb, hml, hown, hts⟩ (S_RE_valueAt l D b cs (mR μ r0 2) i1 i2 μ q7 n hq7) ⟨va_cnB 2 hts (goodIn_g jm_5_27) rfl rfl rfl (hK.2.1 _ jn_50) (hts _ jm_0_2) (by decide +kernel) ⟨Nat.le_of_ble_eq_true rfl, Nat.le_of_ble_eq_true rfl⟩, (hts _ jm_5_26), (hts _ jm_11_40)⟩ (Wd.preV hK hM g6 rfl (by decide)) rfl rfl hl.1 rfl (lv_room (Nat.le_of_ble_eq_true rfl)) d_AT_agreesWithItself_35 ⟨Nat.le_of_ble_eq_true rfl, Nat.le_of_ble_eq_true rfl⟩) hM (fun H locs hM => ?_)
            refine lv_aload_n hx hb d_AT_agreesWithItself_38 rfl (lv_at hl 0 rfl) ?_
            obtain ⟨g8, h⟩ := of_g h
            obtain ⟨g9, h⟩ := of_g h
            refine g_get (C := "JoinedLeaves$Atom") (T := T_AT) (N := 3) (ref := "JoinedLeaves$Atom") (v := .ref (b + (mR q7.2 r0 2))) hx hb hts jF_AT hown hK hM g8 (by decide) rfl 2 (by decide) (hts _ jm_1_1) (fun _ h9 => h9) (by decide) (rv_of (ok_0 g9)) d_AT_agreesWithItself_39 ?_
            refine lv_iload_n hx hb d_AT_agreesWithItself_42 rfl (lv_at hl 1 rfl) ?_
            refine lv_iload_n hx hb d_AT_agreesWithItself_43 rfl (lv_at hl 3 rfl) ?_
            obtain ⟨q10, hq10, h⟩ := of_b h
            refine g_calli (va_runVN (As := [.int i1, .int i3]) (rest := [.int q7.1]) ⟨hx, hb, hml, hown, hts⟩ (S_RE_valueAt l D b cs (mR q7.2 r0 2) i1 i3 q7.2 q10 n hq10) ⟨va_cnB 2 hts (goodIn_g jm_5_27) rfl rfl rfl (hK.2.1 _ jn_50) (hts _ jm_0_2) (by decide +kernel) ⟨Nat.le_of_ble_eq_true rfl, Nat.le_of_ble_eq_true rfl⟩, (hts _ jm_5_26), (hts _ jm_11_40)⟩ (Wd.preV hK hM g9 rfl (by decide)) rfl rfl hl.1 rfl (lv_room (Nat.le_of_ble_eq_true rfl)) d_AT_agreesWithItself_44 ⟨Nat.le_of_ble_eq_true rfl, Nat.le_of_ble_eq_true rfl⟩) hM (fun H locs hM => ?_)
            refine lv_icmp_eq (tgt := 52) hx hb d_AT_agreesWithItself_47 (by decide) (fun hc => ?_) (fun hc => ?_)
            · replace h := of_t hc h
              exact ih3 _ _ _ _ _ _ _ _ h hM (lv_sub hl [0, 1, 2, 3] rfl)
            · replace h := of_f hc h
              refine lv_iconst (v := 0) hx hb d_AT_agreesWithItself_50 (by decide) ?_
              exact g_zret hx hb hr narrow_b0 hlocks hM (Option.some.inj h) d_AT_agreesWithItself_51
      · intro r0 i1 i2 i3 μ H locs ls h hM hl
        have h : B_AT_agreesWithItself_3 n (F_AT_agreesWithItself n) r0 i1 i2 i3 μ = some res := h
        unfold B_AT_agreesWithItself_3 at h
        obtain ⟨v11, e_v11, h⟩ := of_b h
        refine lv_iinc (v := v11) hx hb d_AT_agreesWithItself_52 hl (k := 3) rfl (by rw [lit1]; exact Option.some.inj e_v11) (by decide) rfl (fun ls hl => ?_)
        have hl : lv_has ls 4 [(3, .int v11), (0, .ref (b + r0)), (1, .int i1), (2, .int i2)] := hl
        refine lv_goto (tgt := 9) hx hb d_AT_agreesWithItself_55 (by decide) ?_
        exact ih2 _ _ _ _ _ _ _ _ h hM (lv_sub hl [1, 2, 3, 0] rfl)
  exact (key n).1 _ _ _ _ _ _ _ _ h hM hl
abbrev w_AT_rowsAgreeingWithThemselves : List Cond := .code y_AT_rowsAgreeingWithThemselves b_AT_rowsAgreeingWithThemselves 3 (Option.some Jvm.ClassFile.FieldType.int) :: jW
def B_AT_rowsAgreeingWithThemselves_0 (n : Nat) (k : Nat → Nat → Int32 → Int32 → Mem → Option (Int32 × Mem)) (r0 : Nat) (i1 : Int32) (i2 : Int32) (μ : Mem) : Option (Int32 × Mem) :=
  k 1 r0 0 0 μ
def B_AT_rowsAgreeingWithThemselves_1 (n : Nat) (k : Nat → Nat → Int32 → Int32 → Mem → Option (Int32 × Mem)) (r0 : Nat) (i1 : Int32) (i2 : Int32) (μ : Mem) : Option (Int32 × Mem) :=
  if ok μ r0 1 = true then if ok μ (mR μ r0 2) 0 = true then if (mI μ (mR μ r0 2) 2) ≤ i2 then some (i1, μ) else Option.bind (C_AT_agreesWithItself n r0 i2 μ) (fun q3 => if q3.1 = 0 then k 2 r0 i1 i2 q3.2 else Option.bind (some (i1 ||| (1 <<< (i2 &&& 31)))) (fun v4 => k 2 r0 v4 i2 q3.2)) else none else none
def B_AT_rowsAgreeingWithThemselves_2 (n : Nat) (k : Nat → Nat → Int32 → Int32 → Mem → Option (Int32 × Mem)) (r0 : Nat) (i1 : Int32) (i2 : Int32) (μ : Mem) : Option (Int32 × Mem) :=
  Option.bind (some (i2 + 1)) (fun v5 => k 1 r0 i1 v5 μ)
def F_AT_rowsAgreeingWithThemselves : Nat → Nat → Nat → Int32 → Int32 → Mem → Option (Int32 × Mem)
  | 0 => fun _ _ _ _ _ => none
  | n + 1 => fun id r0 i1 i2 μ => match id with
    | 0 => B_AT_rowsAgreeingWithThemselves_0 n (F_AT_rowsAgreeingWithThemselves n) r0 i1 i2 μ
    | 1 => B_AT_rowsAgreeingWithThemselves_1 n (F_AT_rowsAgreeingWithThemselves n) r0 i1 i2 μ
    | 2 => B_AT_rowsAgreeingWithThemselves_2 n (F_AT_rowsAgreeingWithThemselves n) r0 i1 i2 μ
    | _ => none
def C_AT_rowsAgreeingWithThemselves (n : Nat) (r0 : Nat) (μ : Mem) : Option (Int32 × Mem) := F_AT_rowsAgreeingWithThemselves n 0 r0 0 0 μ
set_option maxHeartbeats 4000000 in
set_option maxRecDepth 100000 in
theorem S_AT_rowsAgreeingWithThemselves (l : Launch) (D : va_G) (b : Nat) (cs : Nat → ClassId) (u_r0 : Nat) (ν : Mem) (res : Int32 × Mem) (n : Nat) (h : C_AT_rowsAgreeingWithThemselves n u_r0 ν = some res) : MetI l y_AT_rowsAgreeingWithThemselves w_AT_rowsAgreeingWithThemselves 2 45 b cs D ν [.ref (b + u_r0)] res := by
  refine Met.ofW (cc := b_AT_rowsAgreeingWithThemselves) (maxL := 3) (ret := (Option.some Jvm.ClassFile.FieldType.int)) (by decide) rfl ?_
  intro p e s m args below meth c s₁ B hml hv
  obtain ⟨rfl, hK, hM⟩ := Wd.start hv
  have hx := B.exec
  have hb := B.bytes
  have hr := B.returns
  have hts : ∀ w ∈ jW, w.before _ s = true := fun w hw => atoms_spec (ws := w_AT_rowsAgreeingWithThemselves) B.pre w (List.mem_cons_of_mem _ hw)
  have hown : s.vm.findClass "JoinedLeaves$Atom" = some m.cls := findClass_of_methodNamed B.named
  have hlocks := B.notSynchronized
  have hl := lv_entry ([.ref (b + u_r0)]) (n := 3) (Nat.le_of_ble_eq_true rfl)
  rw [lg_entry_eq]
  generalize (lg_sl ([.ref (b + u_r0)]) ++ List.replicate (3 - (lg_sl ([.ref (b + u_r0)])).length) Slot.unset).toArray = ls at hl ⊢
  have hl : lv_has ls 3 [(0, .ref (b + u_r0))] := hl
  have key : ∀ N : Nat, (∀ (r0 : Nat) (i1 : Int32) (i2 : Int32) (μ : Mem) (H : Heap) (locs : List Loc) (ls : Array Slot), F_AT_rowsAgreeingWithThemselves N 0 r0 i1 i2 μ = some res → Wd (Aw b (mN ν)) b cs D s.heap μ H locs → lv_has ls 3 [(0, .ref (b + r0))] → W p l e (headSpec w_AT_rowsAgreeingWithThemselves { frames := 2, cells := 0, slots := 0, locals := 45 }).room s m ([.ref (b + u_r0)]).toArray below meth c H locs 0 0 (MQ below (va_Qi (fun r μ' => (r, μ') = res ∧ mN μ' ≤ mN ν) (Bw b cs D) (Aw b (mN ν))) ([.ref (b + u_r0)]).toArray s 0 0 (Aw b (mN ν))) (F0 m 0 ls [])) ∧
      (∀ (r0 : Nat) (i1 : Int32) (i2 : Int32) (μ : Mem) (H : Heap) (locs : List Loc) (ls : Array Slot), F_AT_rowsAgreeingWithThemselves N 1 r0 i1 i2 μ = some res → Wd (Aw b (mN ν)) b cs D s.heap μ H locs → lv_has ls 3 [(0, .ref (b + r0)), (1, .int i1), (2, .int i2)] → W p l e (headSpec w_AT_rowsAgreeingWithThemselves { frames := 2, cells := 0, slots := 0, locals := 45 }).room s m ([.ref (b + u_r0)]).toArray below meth c H locs 0 0 (MQ below (va_Qi (fun r μ' => (r, μ') = res ∧ mN μ' ≤ mN ν) (Bw b cs D) (Aw b (mN ν))) ([.ref (b + u_r0)]).toArray s 0 0 (Aw b (mN ν))) (F0 m 4 ls [])) ∧
      (∀ (r0 : Nat) (i1 : Int32) (i2 : Int32) (μ : Mem) (H : Heap) (locs : List Loc) (ls : Array Slot), F_AT_rowsAgreeingWithThemselves N 2 r0 i1 i2 μ = some res → Wd (Aw b (mN ν)) b cs D s.heap μ H locs → lv_has ls 3 [(0, .ref (b + r0)), (1, .int i1), (2, .int i2)] → W p l e (headSpec w_AT_rowsAgreeingWithThemselves { frames := 2, cells := 0, slots := 0, locals := 45 }).room s m ([.ref (b + u_r0)]).toArray below meth c H locs 0 0 (MQ below (va_Qi (fun r μ' => (r, μ') = res ∧ mN μ' ≤ mN ν) (Bw b cs D) (Aw b (mN ν))) ([.ref (b + u_r0)]).toArray s 0 0 (Aw b (mN ν))) (F0 m 29 ls [])) := by
    intro N
    induction N with
    | zero => exact ⟨fun _ _ _ _ _ _ _ h => (nomatch h), fun _ _ _ _ _ _ _ h => (nomatch h), fun _ _ _ _ _ _ _ h => (nomatch h)⟩
    | succ n ih =>
      obtain ⟨ih0, ih1, ih2⟩ := ih
      refine ⟨?_, ?_, ?_⟩
      · intro r0 i1 i2 μ H locs ls h hM hl
        have h : B_AT_rowsAgreeingWithThemselves_0 n (F_AT_rowsAgreeingWithThemselves n) r0 i1 i2 μ = some res := h
        unfold B_AT_rowsAgreeingWithThemselves_0 at h
        refine lv_iconst (v := 0) hx hb d_AT_rowsAgreeingWithThemselves_0 (by decide) ?_
        refine lv_istore_n hx hb d_AT_rowsAgreeingWithThemselves_1 rfl hl (by decide) rfl (fun ls hl => ?_)
        have hl : lv_has ls 3 [(1, .int 0), (0, .ref (b + r0))] := hl
        refine lv_iconst (v := 0) hx hb d_AT_rowsAgreeingWithThemselves_2 (by decide) ?_
        refine lv_istore_n hx hb d_AT_rowsAgreeingWithThemselves_3 rfl hl (by decide) rfl (fun ls hl => ?_)
        have hl : lv_has ls 3 [(2, .int 0), (1, .int 0), (0, .ref (b + r0))] := hl
        exact ih1 _ _ _ _ _ _ _ h hM (lv_sub hl [2, 1, 0] rfl)
      · intro r0 i1 i2 μ H locs ls h hM hl
        have h : B_AT_rowsAgreeingWithThemselves_1 n (F_AT_rowsAgreeingWithThemselves n) r0 i1 i2 μ = some res := h
        unfold B_AT_rowsAgreeingWithThemselves_1 at h
        refine lv_iload_n hx hb d_AT_rowsAgreeingWithThemselves_4 rfl (lv_at hl 2 rfl) ?_
        refine lv_aload_n hx hb d_AT_rowsAgreeingWithThemselves_5 rfl (lv_at hl 0 rfl) ?_
        obtain ⟨g1, h⟩ := of_g h
        obtain ⟨g2, h⟩ := of_g h
        refine g_get (C := "JoinedLeaves$Atom") (T := T_AT) (N := 3) (ref := "JoinedLeaves$Atom") (v := .ref (b + (mR μ r0 2))) hx hb hts jF_AT hown hK hM g1 (by decide) rfl 2 (by decide) (hts _ jm_1_1) (fun _ h9 => h9) (by decide) (rv_of (ok_0 g2)) d_AT_rowsAgreeingWithThemselves_6 ?_
        refine g_getN (C := "JoinedLeaves$Relation") (T := T_RE) (N := 3) (ref := "JoinedLeaves$Relation") (v := .int (mI μ (mR μ r0 2) 2)) hx hb hts jF_RE hown hK hM g2 (by decide) rfl 2 (by decide) (hK.nest _ jn_3 rfl) (fun _ h9 => h9) (by decide) rfl d_AT_rowsAgreeingWithThemselves_9 ?_
        refine lv_icmp_ge (tgt := 35) hx hb d_AT_rowsAgreeingWithThemselves_12 (by decide) (fun hc => ?_) (fun hc => ?_)
        · replace h := of_t hc h
          refine lv_iload_n hx hb d_AT_rowsAgreeingWithThemselves_35 rfl (lv_at hl 1 rfl) ?_
          exact g_iret hx hb hr hlocks hM (Option.some.inj h) d_AT_rowsAgreeingWithThemselves_36
        · replace h := of_f hc h
          refine lv_aload_n hx hb d_AT_rowsAgreeingWithThemselves_15 rfl (lv_at hl 0 rfl) ?_
          refine lv_iload_n hx hb d_AT_rowsAgreeingWithThemselves_16 rfl (lv_at hl 2 rfl) ?_
          obtain ⟨q3, hq3, h⟩ := of_b h
          refine g_calli (va_runV (As := [.int i2]) (rest := []) ⟨hx, hb, hml, hown, hts⟩ (S_AT_agreesWithItself l D b cs r0 i2 μ q3 n hq3) ⟨callB_of 1 hts (goodIn_g jm_5_25) rfl rfl rfl (hts _ jm_0_4) (hts _ jm_5_23) (by decide +kernel) ⟨Nat.le_of_ble_eq_true rfl, Nat.le_of_ble_eq_true rfl⟩, (hts _ jm_5_24), (hts _ jm_11_39)⟩ (Wd.preV hK hM g1 rfl (by decide)) rfl rfl hl.1 rfl (lv_room (Nat.le_of_ble_eq_true rfl)) d_AT_rowsAgreeingWithThemselves_17 ⟨Nat.le_of_ble_eq_true rfl, Nat.le_of_ble_eq_true rfl⟩) hM (fun H locs hM => ?_)
          refine lv_if_eq (tgt := 29) hx hb d_AT_rowsAgreeingWithThemselves_20 (by decide) (fun hc => ?_) (fun hc => ?_)
          · replace h := of_t hc h
            exact ih2 _ _ _ _ _ _ _ h hM (lv_sub hl [0, 1, 2] rfl)
          · replace h := of_f hc h
            refine lv_iload_n hx hb d_AT_rowsAgreeingWithThemselves_23 rfl (lv_at hl 1 rfl) ?_
            refine lv_iconst (v := 1) hx hb d_AT_rowsAgreeingWithThemselves_24 (by decide) ?_
            refine lv_iload_n hx hb d_AT_rowsAgreeingWithThemselves_25 rfl (lv_at hl 2 rfl) ?_
            refine lv_ishl hx hb d_AT_rowsAgreeingWithThemselves_26 ?_
            refine lv_ior hx hb d_AT_rowsAgreeingWithThemselves_27 ?_
            obtain ⟨v4, e_v4, h⟩ := of_b h
            refine top_i (Option.some.inj e_v4) ?_
            refine lv_istore_n hx hb d_AT_rowsAgreeingWithThemselves_28 rfl hl (by decide) rfl (fun ls hl => ?_)
            have hl : lv_has ls 3 [(1, .int v4), (0, .ref (b + r0)), (2, .int i2)] := hl
            exact ih2 _ _ _ _ _ _ _ h hM (lv_sub hl [1, 0, 2] rfl)
      · intro r0 i1 i2 μ H locs ls h hM hl
        have h : B_AT_rowsAgreeingWithThemselves_2 n (F_AT_rowsAgreeingWithThemselves n) r0 i1 i2 μ = some res := h
        unfold B_AT_rowsAgreeingWithThemselves_2 at h
        obtain ⟨v5, e_v5, h⟩ := of_b h
        refine lv_iinc (v := v5) hx hb d_AT_rowsAgreeingWithThemselves_29 hl (k := 2) rfl (by rw [lit1]; exact Option.some.inj e_v5) (by decide) rfl (fun ls hl => ?_)
        have hl : lv_has ls 3 [(2, .int v5), (0, .ref (b + r0)), (1, .int i1)] := hl
        refine lv_goto (tgt := 4) hx hb d_AT_rowsAgreeingWithThemselves_32 (by decide) ?_
        exact ih1 _ _ _ _ _ _ _ h hM (lv_sub hl [1, 2, 0] rfl)
  exact (key n).1 _ _ _ _ _ _ _ h hM hl
abbrev w_AT_rowsAllowing : List Cond := .code y_AT_rowsAllowing b_AT_rowsAllowing 6 (Option.some Jvm.ClassFile.FieldType.int) :: jW
def B_AT_rowsAllowing_0 (n : Nat) (k : Nat → Nat → Int32 → Int32 → Int32 → Int32 → Int32 → Mem → Option (Int32 × Mem)) (r0 : Nat) (i1 : Int32) (i2 : Int32) (i3 : Int32) (i4 : Int32) (i5 : Int32) (μ : Mem) : Option (Int32 × Mem) :=
  if ok μ r0 1 = true then if ok μ (mR μ r0 2) 0 = true then Option.bind (some ((1 <<< ((mI μ (mR μ r0 2) 2) &&& 31)) - 1)) (fun v3 => k 1 r0 i1 i2 v3 0 0 μ) else none else none
def B_AT_rowsAllowing_1 (n : Nat) (k : Nat → Nat → Int32 → Int32 → Int32 → Int32 → Int32 → Mem → Option (Int32 × Mem)) (r0 : Nat) (i1 : Int32) (i2 : Int32) (i3 : Int32) (i4 : Int32) (i5 : Int32) (μ : Mem) : Option (Int32 × Mem) :=
  if 3 ≤ i4 then some (i3, μ) else k 2 r0 i1 i2 i3 i4 0 μ
def B_AT_rowsAllowing_2 (n : Nat) (k : Nat → Nat → Int32 → Int32 → Int32 → Int32 → Int32 → Mem → Option (Int32 × Mem)) (r0 : Nat) (i1 : Int32) (i2 : Int32) (i3 : Int32) (i4 : Int32) (i5 : Int32) (μ : Mem) : Option (Int32 × Mem) :=
  if ok μ r0 1 = true then if ok μ (mR μ r0 2) 0 = true then if (mI μ (mR μ r0 2) 2) ≤ i5 then k 4 r0 i1 i2 i3 i4 0 μ else if ok μ (mR μ r0 0) 100 = true then if ib i4 (mZ μ (mR μ r0 0)) = true then if (mI μ (mR μ r0 0) (Int32.toNatClampNeg i4)) = i1 then Option.bind (C_RE_valueAt n (mR μ r0 2) i5 i4 μ) (fun q8 => if q8.1 = i2 then k 3 r0 i1 i2 i3 i4 i5 q8.2 else Option.bind (some (i3 &&& ((1 <<< (i5 &&& 31)) ^^^ (-1)))) (fun v9 => k 3 r0 i1 i2 v9 i4 i5 q8.2)) else k 4 r0 i1 i2 i3 i4 0 μ else none else none else none else none
def B_AT_rowsAllowing_3 (n : Nat) (k : Nat → Nat → Int32 → Int32 → Int32 → Int32 → Int32 → Mem → Option (Int32 × Mem)) (r0 : Nat) (i1 : Int32) (i2 : Int32) (i3 : Int32) (i4 : Int32) (i5 : Int32) (μ : Mem) : Option (Int32 × Mem) :=
  Option.bind (some (i5 + 1)) (fun v10 => k 2 r0 i1 i2 i3 i4 v10 μ)
def B_AT_rowsAllowing_4 (n : Nat) (k : Nat → Nat → Int32 → Int32 → Int32 → Int32 → Int32 → Mem → Option (Int32 × Mem)) (r0 : Nat) (i1 : Int32) (i2 : Int32) (i3 : Int32) (i4 : Int32) (i5 : Int32) (μ : Mem) : Option (Int32 × Mem) :=
  Option.bind (some (i4 + 1)) (fun v11 => k 1 r0 i1 i2 i3 v11 0 μ)
def F_AT_rowsAllowing : Nat → Nat → Nat → Int32 → Int32 → Int32 → Int32 → Int32 → Mem → Option (Int32 × Mem)
  | 0 => fun _ _ _ _ _ _ _ _ => none
  | n + 1 => fun id r0 i1 i2 i3 i4 i5 μ => match id with
    | 0 => B_AT_rowsAllowing_0 n (F_AT_rowsAllowing n) r0 i1 i2 i3 i4 i5 μ
    | 1 => B_AT_rowsAllowing_1 n (F_AT_rowsAllowing n) r0 i1 i2 i3 i4 i5 μ
    | 2 => B_AT_rowsAllowing_2 n (F_AT_rowsAllowing n) r0 i1 i2 i3 i4 i5 μ
    | 3 => B_AT_rowsAllowing_3 n (F_AT_rowsAllowing n) r0 i1 i2 i3 i4 i5 μ
    | 4 => B_AT_rowsAllowing_4 n (F_AT_rowsAllowing n) r0 i1 i2 i3 i4 i5 μ
    | _ => none
def C_AT_rowsAllowing (n : Nat) (r0 : Nat) (i1 : Int32) (i2 : Int32) (μ : Mem) : Option (Int32 × Mem) := F_AT_rowsAllowing n 0 r0 i1 i2 0 0 0 μ
set_option maxHeartbeats 4000000 in
set_option maxRecDepth 100000 in
theorem S_AT_rowsAllowing (l : Launch) (D : va_G) (b : Nat) (cs : Nat → ClassId) (u_r0 : Nat) (u_i1 : Int32) (u_i2 : Int32) (ν : Mem) (res : Int32 × Mem) (n : Nat) (h : C_AT_rowsAllowing n u_r0 u_i1 u_i2 ν = some res) : MetI l y_AT_rowsAllowing w_AT_rowsAllowing 1 22 b cs D ν [.ref (b + u_r0), .int u_i1, .int u_i2] res := by
  refine Met.ofW (cc := b_AT_rowsAllowing) (maxL := 6) (ret := (Option.some Jvm.ClassFile.FieldType.int)) (by decide) rfl ?_
  intro p e s m args below meth c s₁ B hml hv
  obtain ⟨rfl, hK, hM⟩ := Wd.start hv
  have hx := B.exec
  have hb := B.bytes
  have hr := B.returns
  have hts : ∀ w ∈ jW, w.before _ s = true := fun w hw => atoms_spec (ws := w_AT_rowsAllowing) B.pre w (List.mem_cons_of_mem _ hw)
  have hown : s.vm.findClass "JoinedLeaves$Atom" = some m.cls := findClass_of_methodNamed B.named
  have hlocks := B.notSynchronized
  have hl := lv_entry ([.ref (b + u_r0), .int u_i1, .int u_i2]) (n := 6) (Nat.le_of_ble_eq_true rfl)
  rw [lg_entry_eq]
  generalize (lg_sl ([.ref (b + u_r0), .int u_i1, .int u_i2]) ++ List.replicate (6 - (lg_sl ([.ref (b + u_r0), .int u_i1, .int u_i2])).length) Slot.unset).toArray = ls at hl ⊢
  have hl : lv_has ls 6 [(0, .ref (b + u_r0)), (1, .int u_i1), (2, .int u_i2)] := hl
  have key : ∀ N : Nat, (∀ (r0 : Nat) (i1 : Int32) (i2 : Int32) (i3 : Int32) (i4 : Int32) (i5 : Int32) (μ : Mem) (H : Heap) (locs : List Loc) (ls : Array Slot), F_AT_rowsAllowing N 0 r0 i1 i2 i3 i4 i5 μ = some res → Wd (Aw b (mN ν)) b cs D s.heap μ H locs → lv_has ls 6 [(0, .ref (b + r0)), (1, .int i1), (2, .int i2)] → W p l e (headSpec w_AT_rowsAllowing { frames := 1, cells := 0, slots := 0, locals := 22 }).room s m ([.ref (b + u_r0), .int u_i1, .int u_i2]).toArray below meth c H locs 0 0 (MQ below (va_Qi (fun r μ' => (r, μ') = res ∧ mN μ' ≤ mN ν) (Bw b cs D) (Aw b (mN ν))) ([.ref (b + u_r0), .int u_i1, .int u_i2]).toArray s 0 0 (Aw b (mN ν))) (F0 m 0 ls [])) ∧
      (∀ (r0 : Nat) (i1 : Int32) (i2 : Int32) (i3 : Int32) (i4 : Int32) (i5 : Int32) (μ : Mem) (H : Heap) (locs : List Loc) (ls : Array Slot), F_AT_rowsAllowing N 1 r0 i1 i2 i3 i4 i5 μ = some res → Wd (Aw b (mN ν)) b cs D s.heap μ H locs → lv_has ls 6 [(0, .ref (b + r0)), (1, .int i1), (2, .int i2), (3, .int i3), (4, .int i4)] → W p l e (headSpec w_AT_rowsAllowing { frames := 1, cells := 0, slots := 0, locals := 22 }).room s m ([.ref (b + u_r0), .int u_i1, .int u_i2]).toArray below meth c H locs 0 0 (MQ below (va_Qi (fun r μ' => (r, μ') = res ∧ mN μ' ≤ mN ν) (Bw b cs D) (Aw b (mN ν))) ([.ref (b + u_r0), .int u_i1, .int u_i2]).toArray s 0 0 (Aw b (mN ν))) (F0 m 15 ls [])) ∧
      (∀ (r0 : Nat) (i1 : Int32) (i2 : Int32) (i3 : Int32) (i4 : Int32) (i5 : Int32) (μ : Mem) (H : Heap) (locs : List Loc) (ls : Array Slot), F_AT_rowsAllowing N 2 r0 i1 i2 i3 i4 i5 μ = some res → Wd (Aw b (mN ν)) b cs D s.heap μ H locs → lv_has ls 6 [(0, .ref (b + r0)), (1, .int i1), (2, .int i2), (3, .int i3), (4, .int i4), (5, .int i5)] → W p l e (headSpec w_AT_rowsAllowing { frames := 1, cells := 0, slots := 0, locals := 22 }).room s m ([.ref (b + u_r0), .int u_i1, .int u_i2]).toArray below meth c H locs 0 0 (MQ below (va_Qi (fun r μ' => (r, μ') = res ∧ mN μ' ≤ mN ν) (Bw b cs D) (Aw b (mN ν))) ([.ref (b + u_r0), .int u_i1, .int u_i2]).toArray s 0 0 (Aw b (mN ν))) (F0 m 24 ls [])) ∧
      (∀ (r0 : Nat) (i1 : Int32) (i2 : Int32) (i3 : Int32) (i4 : Int32) (i5 : Int32) (μ : Mem) (H : Heap) (locs : List Loc) (ls : Array Slot), F_AT_rowsAllowing N 3 r0 i1 i2 i3 i4 i5 μ = some res → Wd (Aw b (mN ν)) b cs D s.heap μ H locs → lv_has ls 6 [(0, .ref (b + r0)), (1, .int i1), (2, .int i2), (3, .int i3), (4, .int i4), (5, .int i5)] → W p l e (headSpec w_AT_rowsAllowing { frames := 1, cells := 0, slots := 0, locals := 22 }).room s m ([.ref (b + u_r0), .int u_i1, .int u_i2]).toArray below meth c H locs 0 0 (MQ below (va_Qi (fun r μ' => (r, μ') = res ∧ mN μ' ≤ mN ν) (Bw b cs D) (Aw b (mN ν))) ([.ref (b + u_r0), .int u_i1, .int u_i2]).toArray s 0 0 (Aw b (mN ν))) (F0 m 71 ls [])) ∧
      (∀ (r0 : Nat) (i1 : Int32) (i2 : Int32) (i3 : Int32) (i4 : Int32) (i5 : Int32) (μ : Mem) (H : Heap) (locs : List Loc) (ls : Array Slot), F_AT_rowsAllowing N 4 r0 i1 i2 i3 i4 i5 μ = some res → Wd (Aw b (mN ν)) b cs D s.heap μ H locs → lv_has ls 6 [(0, .ref (b + r0)), (1, .int i1), (2, .int i2), (3, .int i3), (4, .int i4)] → W p l e (headSpec w_AT_rowsAllowing { frames := 1, cells := 0, slots := 0, locals := 22 }).room s m ([.ref (b + u_r0), .int u_i1, .int u_i2]).toArray below meth c H locs 0 0 (MQ below (va_Qi (fun r μ' => (r, μ') = res ∧ mN μ' ≤ mN ν) (Bw b cs D) (Aw b (mN ν))) ([.ref (b + u_r0), .int u_i1, .int u_i2]).toArray s 0 0 (Aw b (mN ν))) (F0 m 77 ls [])) := by
    intro N
    induction N with
    | zero => exact ⟨fun _ _ _ _ _ _ _ _ _ _ h => (nomatch h), fun _ _ _ _ _ _ _ _ _ _ h => (nomatch h), fun _ _ _ _ _ _ _ _ _ _ h => (nomatch h), fun _ _ _ _ _ _ _ _ _ _ h => (nomatch h), fun _ _ _ _ _ _ _ _ _ _ h => (nomatch h)⟩
    | succ n ih =>
      obtain ⟨ih0, ih1, ih2, ih3, ih4⟩ := ih
      refine ⟨?_, ?_, ?_, ?_, ?_⟩
      · intro r0 i1 i2 i3 i4 i5 μ H locs ls h hM hl
        have h : B_AT_rowsAllowing_0 n (F_AT_rowsAllowing n) r0 i1 i2 i3 i4 i5 μ = some res := h
        unfold B_AT_rowsAllowing_0 at h
        refine lv_iconst (v := 1) hx hb d_AT_rowsAllowing_0 (by decide) ?_
        refine lv_aload_n hx hb d_AT_rowsAllowing_1 rfl (lv_at hl 0 rfl) ?_
        obtain ⟨g1, h⟩ := of_g h
        obtain ⟨g2, h⟩ := of_g h
        refine g_get (C := "JoinedLeaves$Atom") (T := T_AT) (N := 3) (ref := "JoinedLeaves$Atom") (v := .ref (b + (mR μ r0 2))) hx hb hts jF_AT hown hK hM g1 (by decide) rfl 2 (by decide) (hts _ jm_1_1) (fun _ h9 => h9) (by decide) (rv_of (ok_0 g2)) d_AT_rowsAllowing_2 ?_
        refine g_getN (C := "JoinedLeaves$Relation") (T := T_RE) (N := 3) (ref := "JoinedLeaves$Relation") (v := .int (mI μ (mR μ r0 2) 2)) hx hb hts jF_RE hown hK hM g2 (by decide) rfl 2 (by decide) (hK.nest _ jn_3 rfl) (fun _ h9 => h9) (by decide) rfl d_AT_rowsAllowing_5 ?_
        refine lv_ishl hx hb d_AT_rowsAllowing_8 ?_
        refine lv_iconst (v := 1) hx hb d_AT_rowsAllowing_9 (by decide) ?_
        refine lv_isub hx hb d_AT_rowsAllowing_10 ?_
        obtain ⟨v3, e_v3, h⟩ := of_b h
        refine top_i (Option.some.inj e_v3) ?_
        refine lv_istore_n hx hb d_AT_rowsAllowing_11 rfl hl (by decide) rfl (fun ls hl => ?_)
        have hl : lv_has ls 6 [(3, .int v3), (0, .ref (b + r0)), (1, .int i1), (2, .int i2)] := hl
        refine lv_iconst (v := 0) hx hb d_AT_rowsAllowing_12 (by decide) ?_
        refine lv_istore hx hb d_AT_rowsAllowing_13 hl (by decide) rfl (fun ls hl => ?_)
        have hl : lv_has ls 6 [(4, .int 0), (3, .int v3), (0, .ref (b + r0)), (1, .int i1), (2, .int i2)] := hl
        exact ih1 _ _ _ _ _ _ _ _ _ _ h hM (lv_sub hl [2, 3, 4, 1, 0] rfl)
      · intro r0 i1 i2 i3 i4 i5 μ H locs ls h hM hl
        have h : B_AT_rowsAllowing_1 n (F_AT_rowsAllowing n) r0 i1 i2 i3 i4 i5 μ = some res := h
        unfold B_AT_rowsAllowing_1 at h
        refine lv_iload hx hb d_AT_rowsAllowing_15 (lv_at hl 4 rfl) ?_
        refine lv_iconst (v := 3) hx hb d_AT_rowsAllowing_17 (by decide) ?_
        refine lv_icmp_ge (tgt := 83) hx hb d_AT_rowsAllowing_18 (by decide) (fun hc => ?_) (fun hc => ?_)
        · replace h := of_t hc h
          refine lv_iload_n hx hb d_AT_rowsAllowing_83 rfl (lv_at hl 3 rfl) ?_
          exact g_iret hx hb hr hlocks hM (Option.some.inj h) d_AT_rowsAllowing_84
        · replace h := of_f hc h
          refine lv_iconst (v := 0) hx hb d_AT_rowsAllowing_21 (by decide) ?_
          refine lv_istore hx hb d_AT_rowsAllowing_22 hl (by decide) rfl (fun ls hl => ?_)
          have hl : lv_has ls 6 [(5, .int 0), (0, .ref (b + r0)), (1, .int i1), (2, .int i2), (3, .int i3), (4, .int i4)] := hl
          exact ih2 _ _ _ _ _ _ _ _ _ _ h hM (lv_sub hl [1, 2, 3, 4, 5, 0] rfl)
      · intro r0 i1 i2 i3 i4 i5 μ H locs ls h hM hl
        have h : B_AT_rowsAllowing_2 n (F_AT_rowsAllowing n) r0 i1 i2 i3 i4 i5 μ = some res := h
        unfold B_AT_rowsAllowing_2 at h
        refine lv_iload hx hb d_AT_rowsAllowing_24 (lv_at hl 5 rfl) ?_
        refine lv_aload_n hx hb d_AT_rowsAllowing_26 rfl (lv_at hl 0 rfl) ?_
        obtain ⟨g4, h⟩ := of_g h
        obtain ⟨g5, h⟩ := of_g h
        refine g_get (C := "JoinedLeaves$Atom") (T := T_AT) (N := 3) (ref := "JoinedLeaves$Atom") (v := .ref (b + (mR μ r0 2))) hx hb hts jF_AT hown hK hM g4 (by decide) rfl 2 (by decide) (hts _ jm_1_1) (fun _ h9 => h9) (by decide) (rv_of (ok_0 g5)) d_AT_rowsAllowing_27 ?_
        refine g_getN (C := "JoinedLeaves$Relation") (T := T_RE) (N := 3) (ref := "JoinedLeaves$Relation") (v := .int (mI μ (mR μ r0 2) 2)) hx hb hts jF_RE hown hK hM g5 (by decide) rfl 2 (by decide) (hK.nest _ jn_3 rfl) (fun _ h9 => h9) (by decide) rfl d_AT_rowsAllowing_30 ?_
        refine lv_icmp_ge (tgt := 77) hx hb d_AT_rowsAllowing_33 (by decide) (fun hc => ?_) (fun hc => ?_)
        · replace h := of_t hc h
          exact ih4 _ _ _ _ _ _ _ _ _ _ h hM (lv_sub hl [0, 1, 2, 3, 4] rfl)
        · replace h := of_f hc h
          refine lv_aload_n hx hb d_AT_rowsAllowing_36 rfl (lv_at hl 0 rfl) ?_
          obtain ⟨g6, h⟩ := of_g h
          refine g_get (C := "JoinedLeaves$Atom") (T := T_AT) (N := 3) (ref := "JoinedLeaves$Atom") (v := .ref (b + (mR μ r0 0))) hx hb hts jF_AT hown hK hM g4 (by decide) rfl 0 (by decide) (hts _ jm_0_47) (fun _ h9 => h9) (by decide) (rv_of (ok_0 g6)) d_AT_rowsAllowing_37 ?_
          refine lv_iload hx hb d_AT_rowsAllowing_40 (lv_at hl 4 rfl) ?_
          obtain ⟨g7, h⟩ := of_g h
          refine g_iald hx hb hK hM g6 g7 d_AT_rowsAllowing_42 ?_
          refine lv_iload_n hx hb d_AT_rowsAllowing_43 rfl (lv_at hl 1 rfl) ?_
          refine lv_icmp_ne (tgt := 77) hx hb d_AT_rowsAllowing_44 (by decide) (fun hc => ?_) (fun hc => ?_)
          · replace h := of_f hc h
            exact ih4 _ _ _ _ _ _ _ _ _ _ h hM (lv_sub hl [0, 1, 2, 3, 4] rfl)
          · replace h := of_t hc h
            refine lv_aload_n hx hb d_AT_rowsAllowing_47 rfl (lv_at hl 0 rfl) ?_
            refine g_get (C := "JoinedLeaves$Atom") (T := T_AT) (N := 3) (ref := "JoinedLeaves$Atom") (v := .ref (b + (mR μ r0 2))) hx hb hts jF_AT hown hK hM g4 (by decide) rfl 2 (by decide) (hts _ jm_1_1) (fun _ h9 => h9) (by decide) (rv_of (ok_0 g5)) d_AT_rowsAllowing_48 ?_
            refine lv_iload hx hb d_AT_rowsAllowing_51 (lv_at hl 5 rfl) ?_
            refine lv_iload hx hb d_AT_rowsAllowing_53 (lv_at hl 4 rfl) ?_
            obtain ⟨q8, hq8, h⟩ := of_b h
            refine g_calli (va_runVN (As := [.int i5, .int i4]) (rest := []) ⟨hx, hb, hml, hown, hts⟩ (S_RE_valueAt l D b cs (mR μ r0 2) i5 i4 μ q8 n hq8) ⟨va_cnB 2 hts (goodIn_g jm_5_27) rfl rfl rfl (hK.2.1 _ jn_50) (hts _ jm_0_2) (by decide +kernel) ⟨Nat.le_of_ble_eq_true rfl, Nat.le_of_ble_eq_true rfl⟩, (hts _ jm_5_26), (hts _ jm_11_40)⟩ (Wd.preV hK hM g5 rfl (by decide)) rfl rfl hl.1 rfl (lv_room (Nat.le_of_ble_eq_true rfl)) d_AT_rowsAllowing_55 ⟨Nat.le_of_ble_eq_true rfl, Nat.le_of_ble_eq_true rfl⟩) hM (fun H locs hM => ?_)
            refine lv_iload_n hx hb d_AT_rowsAllowing_58 rfl (lv_at hl 2 rfl) ?_
            refine lv_icmp_eq (tgt := 71) hx hb d_AT_rowsAllowing_59 (by decide) (fun hc => ?_) (fun hc => ?_)
            · replace h := of_t hc h
              exact ih3 _ _ _ _ _ _ _ _ _ _ h hM (lv_sub hl [0, 1, 2, 3, 4, 5] rfl)
            · replace h := of_f hc h
              refine lv_iload_n hx hb d_AT_rowsAllowing_62 rfl (lv_at hl 3 rfl) ?_
              refine lv_iconst (v := 1) hx hb d_AT_rowsAllowing_63 (by decide) ?_
              refine lv_iload hx hb d_AT_rowsAllowing_64 (lv_at hl 5 rfl) ?_
              refine lv_ishl hx hb d_AT_rowsAllowing_66 ?_
              refine lv_iconst (v := (-1)) hx hb d_AT_rowsAllowing_67 (by decide) ?_
              refine lv_ixor hx hb d_AT_rowsAllowing_68 ?_
              refine lv_iand hx hb d_AT_rowsAllowing_69 ?_
              obtain ⟨v9, e_v9, h⟩ := of_b h
              refine top_i (Option.some.inj e_v9) ?_
              refine lv_istore_n hx hb d_AT_rowsAllowing_70 rfl hl (by decide) rfl (fun ls hl => ?_)
              have hl : lv_has ls 6 [(3, .int v9), (0, .ref (b + r0)), (1, .int i1), (2, .int i2), (4, .int i4), (5, .int i5)] := hl
              exact ih3 _ _ _ _ _ _ _ _ _ _ h hM (lv_sub hl [1, 2, 3, 0, 4, 5] rfl)
      · intro r0 i1 i2 i3 i4 i5 μ H locs ls h hM hl
        have h : B_AT_rowsAllowing_3 n (F_AT_rowsAllowing n) r0 i1 i2 i3 i4 i5 μ = some res := h
        unfold B_AT_rowsAllowing_3 at h
        obtain ⟨v10, e_v10, h⟩ := of_b h
        refine lv_iinc (v := v10) hx hb d_AT_rowsAllowing_71 hl (k := 5) rfl (by rw [lit1]; exact Option.some.inj e_v10) (by decide) rfl (fun ls hl => ?_)
        have hl : lv_has ls 6 [(5, .int v10), (0, .ref (b + r0)), (1, .int i1), (2, .int i2), (3, .int i3), (4, .int i4)] := hl
        refine lv_goto (tgt := 24) hx hb d_AT_rowsAllowing_74 (by decide) ?_
        exact ih2 _ _ _ _ _ _ _ _ _ _ h hM (lv_sub hl [1, 2, 3, 4, 5, 0] rfl)
      · intro r0 i1 i2 i3 i4 i5 μ H locs ls h hM hl
        have h : B_AT_rowsAllowing_4 n (F_AT_rowsAllowing n) r0 i1 i2 i3 i4 i5 μ = some res := h
        unfold B_AT_rowsAllowing_4 at h
        obtain ⟨v11, e_v11, h⟩ := of_b h
        refine lv_iinc (v := v11) hx hb d_AT_rowsAllowing_77 hl (k := 4) rfl (by rw [lit1]; exact Option.some.inj e_v11) (by decide) rfl (fun ls hl => ?_)
        have hl : lv_has ls 6 [(4, .int v11), (0, .ref (b + r0)), (1, .int i1), (2, .int i2), (3, .int i3)] := hl
        refine lv_goto (tgt := 15) hx hb d_AT_rowsAllowing_80 (by decide) ?_
        exact ih1 _ _ _ _ _ _ _ _ _ _ h hM (lv_sub hl [1, 2, 3, 4, 0] rfl)
  exact (key n).1 _ _ _ _ _ _ _ _ _ _ h hM hl
abbrev w_AT_rowsAgreeingWith : List Cond := .code y_AT_rowsAgreeingWith b_AT_rowsAgreeingWith 6 (Option.some Jvm.ClassFile.FieldType.int) :: jW
def B_AT_rowsAgreeingWith_0 (n : Nat) (k : Nat → Nat → Nat → Int32 → Int32 → Int32 → Mem → Option (Int32 × Mem)) (r0 : Nat) (r1 : Nat) (i2 : Int32) (i3 : Int32) (i4 : Int32) (μ : Mem) : Option (Int32 × Mem) :=
  if ok μ r0 1 = true then if ok μ (mR μ r0 2) 0 = true then Option.bind (some ((1 <<< ((mI μ (mR μ r0 2) 2) &&& 31)) - 1)) (fun v3 => k 1 r0 r1 i2 v3 0 μ) else none else none
def B_AT_rowsAgreeingWith_1 (n : Nat) (k : Nat → Nat → Nat → Int32 → Int32 → Int32 → Mem → Option (Int32 × Mem)) (r0 : Nat) (r1 : Nat) (i2 : Int32) (i3 : Int32) (i4 : Int32) (μ : Mem) : Option (Int32 × Mem) :=
  if 3 ≤ i4 then some (i3, μ) else if ok μ r1 1 = true then if ok μ (mR μ r1 2) 0 = true then Option.bind (C_RE_valueAt n (mR μ r1 2) i2 i4 μ) (fun q6 => if ok q6.2 r1 1 = true then if ok q6.2 (mR q6.2 r1 0) 100 = true then if ib i4 (mZ q6.2 (mR q6.2 r1 0)) = true then if ok q6.2 r0 1 = true then Option.bind (C_AT_rowsAllowing n r0 (mI q6.2 (mR q6.2 r1 0) (Int32.toNatClampNeg i4)) q6.1 q6.2) (fun q11 => Option.bind (some (i3 &&& q11.1)) (fun v12 => Option.bind (some (i4 + 1)) (fun v13 => k 1 r0 r1 i2 v12 v13 q11.2))) else none else none else none else none) else none else none
def F_AT_rowsAgreeingWith : Nat → Nat → Nat → Nat → Int32 → Int32 → Int32 → Mem → Option (Int32 × Mem)
  | 0 => fun _ _ _ _ _ _ _ => none
  | n + 1 => fun id r0 r1 i2 i3 i4 μ => match id with
    | 0 => B_AT_rowsAgreeingWith_0 n (F_AT_rowsAgreeingWith n) r0 r1 i2 i3 i4 μ
    | 1 => B_AT_rowsAgreeingWith_1 n (F_AT_rowsAgreeingWith n) r0 r1 i2 i3 i4 μ
    | _ => none
def C_AT_rowsAgreeingWith (n : Nat) (r0 : Nat) (r1 : Nat) (i2 : Int32) (μ : Mem) : Option (Int32 × Mem) := F_AT_rowsAgreeingWith n 0 r0 r1 i2 0 0 μ
set_option maxHeartbeats 4000000 in
set_option maxRecDepth 100000 in
theorem S_AT_rowsAgreeingWith (l : Launch) (D : va_G) (b : Nat) (cs : Nat → ClassId) (u_r0 : Nat) (u_r1 : Nat) (u_i2 : Int32) (ν : Mem) (res : Int32 × Mem) (n : Nat) (h : C_AT_rowsAgreeingWith n u_r0 u_r1 u_i2 ν = some res) : MetI l y_AT_rowsAgreeingWith w_AT_rowsAgreeingWith 2 47 b cs D ν [.ref (b + u_r0), .ref (b + u_r1), .int u_i2] res := by
  refine Met.ofW (cc := b_AT_rowsAgreeingWith) (maxL := 6) (ret := (Option.some Jvm.ClassFile.FieldType.int)) (by decide) rfl ?_
  intro p e s m args below meth c s₁ B hml hv
  obtain ⟨rfl, hK, hM⟩ := Wd.start hv
  have hx := B.exec
  have hb := B.bytes
  have hr := B.returns
  have hts : ∀ w ∈ jW, w.before _ s = true := fun w hw => atoms_spec (ws := w_AT_rowsAgreeingWith) B.pre w (List.mem_cons_of_mem _ hw)
  have hown : s.vm.findClass "JoinedLeaves$Atom" = some m.cls := findClass_of_methodNamed B.named
  have hlocks := B.notSynchronized
  have hl := lv_entry ([.ref (b + u_r0), .ref (b + u_r1), .int u_i2]) (n := 6) (Nat.le_of_ble_eq_true rfl)
  rw [lg_entry_eq]
  generalize (lg_sl ([.ref (b + u_r0), .ref (b + u_r1), .int u_i2]) ++ List.replicate (6 - (lg_sl ([.ref (b + u_r0), .ref (b + u_r1), .int u_i2])).length) Slot.unset).toArray = ls at hl ⊢
  have hl : lv_has ls 6 [(0, .ref (b + u_r0)), (1, .ref (b + u_r1)), (2, .int u_i2)] := hl
  have key : ∀ N : Nat, (∀ (r0 : Nat) (r1 : Nat) (i2 : Int32) (i3 : Int32) (i4 : Int32) (μ : Mem) (H : Heap) (locs : List Loc) (ls : Array Slot), F_AT_rowsAgreeingWith N 0 r0 r1 i2 i3 i4 μ = some res → Wd (Aw b (mN ν)) b cs D s.heap μ H locs → lv_has ls 6 [(0, .ref (b + r0)), (1, .ref (b + r1)), (2, .int i2)] → W p l e (headSpec w_AT_rowsAgreeingWith { frames := 2, cells := 0, slots := 0, locals := 47 }).room s m ([.ref (b + u_r0), .ref (b + u_r1), .int u_i2]).toArray below meth c H locs 0 0 (MQ below (va_Qi (fun r μ' => (r, μ') = res ∧ mN μ' ≤ mN ν) (Bw b cs D) (Aw b (mN ν))) ([.ref (b + u_r0), .ref (b + u_r1), .int u_i2]).toArray s 0 0 (Aw b (mN ν))) (F0 m 0 ls [])) ∧
      (∀ (r0 : Nat) (r1 : Nat) (i2 : Int32) (i3 : Int32) (i4 : Int32) (μ : Mem) (H : Heap) (locs : List Loc) (ls : Array Slot), F_AT_rowsAgreeingWith N 1 r0 r1 i2 i3 i4 μ = some res → Wd (Aw b (mN ν)) b cs D s.heap μ H locs → lv_has ls 6 [(0, .ref (b + r0)), (1, .ref (b + r1)), (2, .int i2), (3, .int i3), (4, .int i4)] → W p l e (headSpec w_AT_rowsAgreeingWith { frames := 2, cells := 0, slots := 0, locals := 47 }).room s m ([.ref (b + u_r0), .ref (b + u_r1), .int u_i2]).toArray below meth c H locs 0 0 (MQ below (va_Qi (fun r μ' => (r, μ') = res ∧ mN μ' ≤ mN ν) (Bw b cs D) (Aw b (mN ν))) ([.ref (b + u_r0), .ref (b + u_r1), .int u_i2]).toArray s 0 0 (Aw b (mN ν))) (F0 m 15 ls [])) := by
    intro N
    induction N with
    | zero => exact ⟨fun _ _ _ _ _ _ _ _ _ h => (nomatch h), fun _ _ _ _ _ _ _ _ _ h => (nomatch h)⟩
    | succ n ih =>
      obtain ⟨ih0, ih1⟩ := ih
      refine ⟨?_, ?_⟩
      · intro r0 r1 i2 i3 i4 μ H locs ls h hM hl
        have h : B_AT_rowsAgreeingWith_0 n (F_AT_rowsAgreeingWith n) r0 r1 i2 i3 i4 μ = some res := h
        unfold B_AT_rowsAgreeingWith_0 at h
        refine lv_iconst (v := 1) hx hb d_AT_rowsAgreeingWith_0 (by decide) ?_
        refine lv_aload_n hx hb d_AT_rowsAgreeingWith_1 rfl (lv_at hl 0 rfl) ?_
        obtain ⟨g1, h⟩ := of_g h
        obtain ⟨g2, h⟩ := of_g h
        refine g_get (C := "JoinedLeaves$Atom") (T := T_AT) (N := 3) (ref := "JoinedLeaves$Atom") (v := .ref (b + (mR μ r0 2))) hx hb hts jF_AT hown hK hM g1 (by decide) rfl 2 (by decide) (hts _ jm_1_1) (fun _ h9 => h9) (by decide) (rv_of (ok_0 g2)) d_AT_rowsAgreeingWith_2 ?_
        refine g_getN (C := "JoinedLeaves$Relation") (T := T_RE) (N := 3) (ref := "JoinedLeaves$Relation") (v := .int (mI μ (mR μ r0 2) 2)) hx hb hts jF_RE hown hK hM g2 (by decide) rfl 2 (by decide) (hK.nest _ jn_3 rfl) (fun _ h9 => h9) (by decide) rfl d_AT_rowsAgreeingWith_5 ?_
        refine lv_ishl hx hb d_AT_rowsAgreeingWith_8 ?_
        refine lv_iconst (v := 1) hx hb d_AT_rowsAgreeingWith_9 (by decide) ?_
        refine lv_isub hx hb d_AT_rowsAgreeingWith_10 ?_
        obtain ⟨v3, e_v3, h⟩ := of_b h
        refine top_i (Option.some.inj e_v3) ?_
        refine lv_istore_n hx hb d_AT_rowsAgreeingWith_11 rfl hl (by decide) rfl (fun ls hl => ?_)
        have hl : lv_has ls 6 [(3, .int v3), (0, .ref (b + r0)), (1, .ref (b + r1)), (2, .int i2)] := hl
        refine lv_iconst (v := 0) hx hb d_AT_rowsAgreeingWith_12 (by decide) ?_
        refine lv_istore hx hb d_AT_rowsAgreeingWith_13 hl (by decide) rfl (fun ls hl => ?_)
        have hl : lv_has ls 6 [(4, .int 0), (3, .int v3), (0, .ref (b + r0)), (1, .ref (b + r1)), (2, .int i2)] := hl
        exact ih1 _ _ _ _ _ _ _ _ _ h hM (lv_sub hl [2, 3, 4, 1, 0] rfl)
      · intro r0 r1 i2 i3 i4 μ H locs ls h hM hl
        have h : B_AT_rowsAgreeingWith_1 n (F_AT_rowsAgreeingWith n) r0 r1 i2 i3 i4 μ = some res := h
        unfold B_AT_rowsAgreeingWith_1 at h
        refine lv_iload hx hb d_AT_rowsAgreeingWith_15 (lv_at hl 4 rfl) ?_
        refine lv_iconst (v := 3) hx hb d_AT_rowsAgreeingWith_17 (by decide) ?_
        refine lv_icmp_ge (tgt := 55) hx hb d_AT_rowsAgreeingWith_18 (by decide) (fun hc => ?_) (fun hc => ?_)
        · replace h := of_t hc h
          refine lv_iload_n hx hb d_AT_rowsAgreeingWith_55 rfl (lv_at hl 3 rfl) ?_
          exact g_iret hx hb hr hlocks hM (Option.some.inj h) d_AT_rowsAgreeingWith_56
        · replace h := of_f hc h
          refine lv_aload_n hx hb d_AT_rowsAgreeingWith_21 rfl (lv_at hl 1 rfl) ?_
          obtain ⟨g4, h⟩ := of_g h
          obtain ⟨g5, h⟩ := of_g h
          refine g_get (C := "JoinedLeaves$Atom") (T := T_AT) (N := 3) (ref := "JoinedLeaves$Atom") (v := .ref (b + (mR μ r1 2))) hx hb hts jF_AT hown hK hM g4 (by decide) rfl 2 (by decide) (hts _ jm_1_1) (fun _ h9 => h9) (by decide) (rv_of (ok_0 g5)) d_AT_rowsAgreeingWith_22 ?_
          refine lv_iload_n hx hb d_AT_rowsAgreeingWith_25 rfl (lv_at hl 2 rfl) ?_
          refine lv_iload hx hb d_AT_rowsAgreeingWith_26 (lv_at hl 4 rfl) ?_
          obtain ⟨q6, hq6, h⟩ := of_b h
          refine g_calli (va_runVN (As := [.int i2, .int i4]) (rest := []) ⟨hx, hb, hml, hown, hts⟩ (S_RE_valueAt l D b cs (mR μ r1 2) i2 i4 μ q6 n hq6) ⟨va_cnB 2 hts (goodIn_g jm_5_27) rfl rfl rfl (hK.2.1 _ jn_50) (hts _ jm_0_2) (by decide +kernel) ⟨Nat.le_of_ble_eq_true rfl, Nat.le_of_ble_eq_true rfl⟩, (hts _ jm_5_26), (hts _ jm_11_40)⟩ (Wd.preV hK hM g5 rfl (by decide)) rfl rfl hl.1 rfl (lv_room (Nat.le_of_ble_eq_true rfl)) d_AT_rowsAgreeingWith_28 ⟨Nat.le_of_ble_eq_true rfl, Nat.le_of_ble_eq_true rfl⟩) hM (fun H locs hM => ?_)
          refine lv_istore hx hb d_AT_rowsAgreeingWith_31 hl (by decide) rfl (fun ls hl => ?_)
          have hl : lv_has ls 6 [(5, .int q6.1), (0, .ref (b + r0)), (1, .ref (b + r1)), (2, .int i2), (3, .int i3), (4, .int i4)] := hl
          refine lv_iload_n hx hb d_AT_rowsAgreeingWith_33 rfl (lv_at hl 4 rfl) ?_
          refine lv_aload_n hx hb d_AT_rowsAgreeingWith_34 rfl (lv_at hl 1 rfl) ?_
          refine lv_aload_n hx hb d_AT_rowsAgreeingWith_35 rfl (lv_at hl 2 rfl) ?_
          obtain ⟨g7, h⟩ := of_g h
          obtain ⟨g8, h⟩ := of_g h
          refine g_get (C := "JoinedLeaves$Atom") (T := T_AT) (N := 3) (ref := "JoinedLeaves$Atom") (v := .ref (b + (mR q6.2 r1 0))) hx hb hts jF_AT hown hK hM g7 (by decide) rfl 0 (by decide) (hts _ jm_0_47) (fun _ h9 => h9) (by decide) (rv_of (ok_0 g8)) d_AT_rowsAgreeingWith_36 ?_
          refine lv_iload hx hb d_AT_rowsAgreeingWith_39 (lv_at hl 5 rfl) ?_
          obtain ⟨g9, h⟩ := of_g h
          refine g_iald hx hb hK hM g8 g9 d_AT_rowsAgreeingWith_41 ?_
          refine lv_iload hx hb d_AT_rowsAgreeingWith_42 (lv_at hl 0 rfl) ?_
          obtain ⟨g10, h⟩ := of_g h
          obtain ⟨q11, hq11, h⟩ := of_b h
          refine g_calli (va_runV (As := [.int (mI q6.2 (mR q6.2 r1 0) (Int32.toNatClampNeg i4)), .int q6.1]) (rest := [.int i3]) ⟨hx, hb, hml, hown, hts⟩ (S_AT_rowsAllowing l D b cs r0 (mI q6.2 (mR q6.2 r1 0) (Int32.toNatClampNeg i4)) q6.1 q6.2 q11 n hq11) ⟨callB_of 2 hts (goodIn_g jm_5_32) rfl rfl rfl (hts _ jm_0_4) (hts _ jm_5_30) (by decide +kernel) ⟨Nat.le_of_ble_eq_true rfl, Nat.le_of_ble_eq_true rfl⟩, (hts _ jm_5_31), (hts _ jm_11_42)⟩ (Wd.preV hK hM g10 rfl (by decide)) rfl rfl hl.1 rfl (lv_room (Nat.le_of_ble_eq_true rfl)) d_AT_rowsAgreeingWith_44 ⟨Nat.le_of_ble_eq_true rfl, Nat.le_of_ble_eq_true rfl⟩) hM (fun H locs hM => ?_)
          refine lv_iand hx hb d_AT_rowsAgreeingWith_47 ?_
          obtain ⟨v12, e_v12, h⟩ := of_b h
          refine top_i (Option.some.inj e_v12) ?_
          refine lv_istore_n hx hb d_AT_rowsAgreeingWith_48 rfl hl (by decide) rfl (fun ls hl => ?_)
          have hl : lv_has ls 6 [(3, .int v12), (5, .int q6.1), (0, .ref (b + r0)), (1, .ref (b + r1)), (2, .int i2), (4, .int i4)] := hl
          obtain ⟨v13, e_v13, h⟩ := of_b h
          refine lv_iinc (v := v13) hx hb d_AT_rowsAgreeingWith_49 hl (k := 5) rfl (by rw [lit1]; exact Option.some.inj e_v13) (by decide) rfl (fun ls hl => ?_)
          have hl : lv_has ls 6 [(4, .int v13), (3, .int v12), (5, .int q6.1), (0, .ref (b + r0)), (1, .ref (b + r1)), (2, .int i2)] := hl
          refine lv_goto (tgt := 15) hx hb d_AT_rowsAgreeingWith_52 (by decide) ?_
          exact ih1 _ _ _ _ _ _ _ _ _ h hM (lv_sub hl [3, 4, 5, 1, 0] rfl)
  exact (key n).1 _ _ _ _ _ _ _ _ _ h hM hl
abbrev w_AT_valuesOf : List Cond := .code y_AT_valuesOf b_AT_valuesOf 6 (Option.some Jvm.ClassFile.FieldType.int) :: jW
def B_AT_valuesOf_0 (n : Nat) (k : Nat → Nat → Int32 → Int32 → Int32 → Int32 → Int32 → Mem → Option (Int32 × Mem)) (r0 : Nat) (i1 : Int32) (i2 : Int32) (i3 : Int32) (i4 : Int32) (i5 : Int32) (μ : Mem) : Option (Int32 × Mem) :=
  k 1 r0 i1 i2 0 0 0 μ
def B_AT_valuesOf_1 (n : Nat) (k : Nat → Nat → Int32 → Int32 → Int32 → Int32 → Int32 → Mem → Option (Int32 × Mem)) (r0 : Nat) (i1 : Int32) (i2 : Int32) (i3 : Int32) (i4 : Int32) (i5 : Int32) (μ : Mem) : Option (Int32 × Mem) :=
  if 3 ≤ i4 then some (i3, μ) else k 2 r0 i1 i2 i3 i4 0 μ
def B_AT_valuesOf_2 (n : Nat) (k : Nat → Nat → Int32 → Int32 → Int32 → Int32 → Int32 → Mem → Option (Int32 × Mem)) (r0 : Nat) (i1 : Int32) (i2 : Int32) (i3 : Int32) (i4 : Int32) (i5 : Int32) (μ : Mem) : Option (Int32 × Mem) :=
  if ok μ r0 1 = true then if ok μ (mR μ r0 2) 0 = true then if (mI μ (mR μ r0 2) 2) ≤ i5 then k 4 r0 i1 i2 i3 i4 0 μ else if ok μ (mR μ r0 0) 100 = true then if ib i4 (mZ μ (mR μ r0 0)) = true then if (mI μ (mR μ r0 0) (Int32.toNatClampNeg i4)) = i1 then Option.bind (C_JL_isIn n i5 i2 μ) (fun q5 => if q5.1 = 0 then k 3 r0 i1 i2 i3 i4 i5 q5.2 else if ok q5.2 r0 1 = true then if ok q5.2 (mR q5.2 r0 2) 0 = true then Option.bind (C_RE_valueAt n (mR q5.2 r0 2) i5 i4 q5.2) (fun q8 => Option.bind (some (i3 ||| (1 <<< (q8.1 &&& 31)))) (fun v9 => k 3 r0 i1 i2 v9 i4 i5 q8.2)) else none else none) else k 4 r0 i1 i2 i3 i4 0 μ else none else none else none else none
def B_AT_valuesOf_3 (n : Nat) (k : Nat → Nat → Int32 → Int32 → Int32 → Int32 → Int32 → Mem → Option (Int32 × Mem)) (r0 : Nat) (i1 : Int32) (i2 : Int32) (i3 : Int32) (i4 : Int32) (i5 : Int32) (μ : Mem) : Option (Int32 × Mem) :=
  Option.bind (some (i5 + 1)) (fun v10 => k 2 r0 i1 i2 i3 i4 v10 μ)
def B_AT_valuesOf_4 (n : Nat) (k : Nat → Nat → Int32 → Int32 → Int32 → Int32 → Int32 → Mem → Option (Int32 × Mem)) (r0 : Nat) (i1 : Int32) (i2 : Int32) (i3 : Int32) (i4 : Int32) (i5 : Int32) (μ : Mem) : Option (Int32 × Mem) :=
  Option.bind (some (i4 + 1)) (fun v11 => k 1 r0 i1 i2 i3 v11 0 μ)
def F_AT_valuesOf : Nat → Nat → Nat → Int32 → Int32 → Int32 → Int32 → Int32 → Mem → Option (Int32 × Mem)
  | 0 => fun _ _ _ _ _ _ _ _ => none
  | n + 1 => fun id r0 i1 i2 i3 i4 i5 μ => match id with
    | 0 => B_AT_valuesOf_0 n (F_AT_valuesOf n) r0 i1 i2 i3 i4 i5 μ
    | 1 => B_AT_valuesOf_1 n (F_AT_valuesOf n) r0 i1 i2 i3 i4 i5 μ
    | 2 => B_AT_valuesOf_2 n (F_AT_valuesOf n) r0 i1 i2 i3 i4 i5 μ
    | 3 => B_AT_valuesOf_3 n (F_AT_valuesOf n) r0 i1 i2 i3 i4 i5 μ
    | 4 => B_AT_valuesOf_4 n (F_AT_valuesOf n) r0 i1 i2 i3 i4 i5 μ
    | _ => none
def C_AT_valuesOf (n : Nat) (r0 : Nat) (i1 : Int32) (i2 : Int32) (μ : Mem) : Option (Int32 × Mem) := F_AT_valuesOf n 0 r0 i1 i2 0 0 0 μ
set_option maxHeartbeats 4000000 in
set_option maxRecDepth 100000 in
theorem S_AT_valuesOf (l : Launch) (D : va_G) (b : Nat) (cs : Nat → ClassId) (u_r0 : Nat) (u_i1 : Int32) (u_i2 : Int32) (ν : Mem) (res : Int32 × Mem) (n : Nat) (h : C_AT_valuesOf n u_r0 u_i1 u_i2 ν = some res) : MetI l y_AT_valuesOf w_AT_valuesOf 1 22 b cs D ν [.ref (b + u_r0), .int u_i1, .int u_i2] res := by
  refine Met.ofW (cc := b_AT_valuesOf) (maxL := 6) (ret := (Option.some Jvm.ClassFile.FieldType.int)) (by decide) rfl ?_
  intro p e s m args below meth c s₁ B hml hv
  obtain ⟨rfl, hK, hM⟩ := Wd.start hv
  have hx := B.exec
  have hb := B.bytes
  have hr := B.returns
  have hts : ∀ w ∈ jW, w.before _ s = true := fun w hw => atoms_spec (ws := w_AT_valuesOf) B.pre w (List.mem_cons_of_mem _ hw)
  have hown : s.vm.findClass "JoinedLeaves$Atom" = some m.cls := findClass_of_methodNamed B.named
  have hlocks := B.notSynchronized
  have hl := lv_entry ([.ref (b + u_r0), .int u_i1, .int u_i2]) (n := 6) (Nat.le_of_ble_eq_true rfl)
  rw [lg_entry_eq]
  generalize (lg_sl ([.ref (b + u_r0), .int u_i1, .int u_i2]) ++ List.replicate (6 - (lg_sl ([.ref (b + u_r0), .int u_i1, .int u_i2])).length) Slot.unset).toArray = ls at hl ⊢
  have hl : lv_has ls 6 [(0, .ref (b + u_r0)), (1, .int u_i1), (2, .int u_i2)] := hl
  have key : ∀ N : Nat, (∀ (r0 : Nat) (i1 : Int32) (i2 : Int32) (i3 : Int32) (i4 : Int32) (i5 : Int32) (μ : Mem) (H : Heap) (locs : List Loc) (ls : Array Slot), F_AT_valuesOf N 0 r0 i1 i2 i3 i4 i5 μ = some res → Wd (Aw b (mN ν)) b cs D s.heap μ H locs → lv_has ls 6 [(0, .ref (b + r0)), (1, .int i1), (2, .int i2)] → W p l e (headSpec w_AT_valuesOf { frames := 1, cells := 0, slots := 0, locals := 22 }).room s m ([.ref (b + u_r0), .int u_i1, .int u_i2]).toArray below meth c H locs 0 0 (MQ below (va_Qi (fun r μ' => (r, μ') = res ∧ mN μ' ≤ mN ν) (Bw b cs D) (Aw b (mN ν))) ([.ref (b + u_r0), .int u_i1, .int u_i2]).toArray s 0 0 (Aw b (mN ν))) (F0 m 0 ls [])) ∧
      (∀ (r0 : Nat) (i1 : Int32) (i2 : Int32) (i3 : Int32) (i4 : Int32) (i5 : Int32) (μ : Mem) (H : Heap) (locs : List Loc) (ls : Array Slot), F_AT_valuesOf N 1 r0 i1 i2 i3 i4 i5 μ = some res → Wd (Aw b (mN ν)) b cs D s.heap μ H locs → lv_has ls 6 [(0, .ref (b + r0)), (1, .int i1), (2, .int i2), (3, .int i3), (4, .int i4)] → W p l e (headSpec w_AT_valuesOf { frames := 1, cells := 0, slots := 0, locals := 22 }).room s m ([.ref (b + u_r0), .int u_i1, .int u_i2]).toArray below meth c H locs 0 0 (MQ below (va_Qi (fun r μ' => (r, μ') = res ∧ mN μ' ≤ mN ν) (Bw b cs D) (Aw b (mN ν))) ([.ref (b + u_r0), .int u_i1, .int u_i2]).toArray s 0 0 (Aw b (mN ν))) (F0 m 5 ls [])) ∧
      (∀ (r0 : Nat) (i1 : Int32) (i2 : Int32) (i3 : Int32) (i4 : Int32) (i5 : Int32) (μ : Mem) (H : Heap) (locs : List Loc) (ls : Array Slot), F_AT_valuesOf N 2 r0 i1 i2 i3 i4 i5 μ = some res → Wd (Aw b (mN ν)) b cs D s.heap μ H locs → lv_has ls 6 [(0, .ref (b + r0)), (1, .int i1), (2, .int i2), (3, .int i3), (4, .int i4), (5, .int i5)] → W p l e (headSpec w_AT_valuesOf { frames := 1, cells := 0, slots := 0, locals := 22 }).room s m ([.ref (b + u_r0), .int u_i1, .int u_i2]).toArray below meth c H locs 0 0 (MQ below (va_Qi (fun r μ' => (r, μ') = res ∧ mN μ' ≤ mN ν) (Bw b cs D) (Aw b (mN ν))) ([.ref (b + u_r0), .int u_i1, .int u_i2]).toArray s 0 0 (Aw b (mN ν))) (F0 m 14 ls [])) ∧
      (∀ (r0 : Nat) (i1 : Int32) (i2 : Int32) (i3 : Int32) (i4 : Int32) (i5 : Int32) (μ : Mem) (H : Heap) (locs : List Loc) (ls : Array Slot), F_AT_valuesOf N 3 r0 i1 i2 i3 i4 i5 μ = some res → Wd (Aw b (mN ν)) b cs D s.heap μ H locs → lv_has ls 6 [(0, .ref (b + r0)), (1, .int i1), (2, .int i2), (3, .int i3), (4, .int i4), (5, .int i5)] → W p l e (headSpec w_AT_valuesOf { frames := 1, cells := 0, slots := 0, locals := 22 }).room s m ([.ref (b + u_r0), .int u_i1, .int u_i2]).toArray below meth c H locs 0 0 (MQ below (va_Qi (fun r μ' => (r, μ') = res ∧ mN μ' ≤ mN ν) (Bw b cs D) (Aw b (mN ν))) ([.ref (b + u_r0), .int u_i1, .int u_i2]).toArray s 0 0 (Aw b (mN ν))) (F0 m 62 ls [])) ∧
      (∀ (r0 : Nat) (i1 : Int32) (i2 : Int32) (i3 : Int32) (i4 : Int32) (i5 : Int32) (μ : Mem) (H : Heap) (locs : List Loc) (ls : Array Slot), F_AT_valuesOf N 4 r0 i1 i2 i3 i4 i5 μ = some res → Wd (Aw b (mN ν)) b cs D s.heap μ H locs → lv_has ls 6 [(0, .ref (b + r0)), (1, .int i1), (2, .int i2), (3, .int i3), (4, .int i4)] → W p l e (headSpec w_AT_valuesOf { frames := 1, cells := 0, slots := 0, locals := 22 }).room s m ([.ref (b + u_r0), .int u_i1, .int u_i2]).toArray below meth c H locs 0 0 (MQ below (va_Qi (fun r μ' => (r, μ') = res ∧ mN μ' ≤ mN ν) (Bw b cs D) (Aw b (mN ν))) ([.ref (b + u_r0), .int u_i1, .int u_i2]).toArray s 0 0 (Aw b (mN ν))) (F0 m 68 ls [])) := by
    intro N
    induction N with
    | zero => exact ⟨fun _ _ _ _ _ _ _ _ _ _ h => (nomatch h), fun _ _ _ _ _ _ _ _ _ _ h => (nomatch h), fun _ _ _ _ _ _ _ _ _ _ h => (nomatch h), fun _ _ _ _ _ _ _ _ _ _ h => (nomatch h), fun _ _ _ _ _ _ _ _ _ _ h => (nomatch h)⟩
    | succ n ih =>
      obtain ⟨ih0, ih1, ih2, ih3, ih4⟩ := ih
      refine ⟨?_, ?_, ?_, ?_, ?_⟩
      · intro r0 i1 i2 i3 i4 i5 μ H locs ls h hM hl
        have h : B_AT_valuesOf_0 n (F_AT_valuesOf n) r0 i1 i2 i3 i4 i5 μ = some res := h
        unfold B_AT_valuesOf_0 at h
        refine lv_iconst (v := 0) hx hb d_AT_valuesOf_0 (by decide) ?_
        refine lv_istore_n hx hb d_AT_valuesOf_1 rfl hl (by decide) rfl (fun ls hl => ?_)
        have hl : lv_has ls 6 [(3, .int 0), (0, .ref (b + r0)), (1, .int i1), (2, .int i2)] := hl
        refine lv_iconst (v := 0) hx hb d_AT_valuesOf_2 (by decide) ?_
        refine lv_istore hx hb d_AT_valuesOf_3 hl (by decide) rfl (fun ls hl => ?_)
        have hl : lv_has ls 6 [(4, .int 0), (3, .int 0), (0, .ref (b + r0)), (1, .int i1), (2, .int i2)] := hl
        exact ih1 _ _ _ _ _ _ _ _ _ _ h hM (lv_sub hl [2, 3, 4, 1, 0] rfl)
      · intro r0 i1 i2 i3 i4 i5 μ H locs ls h hM hl
        have h : B_AT_valuesOf_1 n (F_AT_valuesOf n) r0 i1 i2 i3 i4 i5 μ = some res := h
        unfold B_AT_valuesOf_1 at h
        refine lv_iload hx hb d_AT_valuesOf_5 (lv_at hl 4 rfl) ?_
        refine lv_iconst (v := 3) hx hb d_AT_valuesOf_7 (by decide) ?_
        refine lv_icmp_ge (tgt := 74) hx hb d_AT_valuesOf_8 (by decide) (fun hc => ?_) (fun hc => ?_)
        · replace h := of_t hc h
          refine lv_iload_n hx hb d_AT_valuesOf_74 rfl (lv_at hl 3 rfl) ?_
          exact g_iret hx hb hr hlocks hM (Option.some.inj h) d_AT_valuesOf_75
        · replace h := of_f hc h
          refine lv_iconst (v := 0) hx hb d_AT_valuesOf_11 (by decide) ?_
          refine lv_istore hx hb d_AT_valuesOf_12 hl (by decide) rfl (fun ls hl => ?_)
          have hl : lv_has ls 6 [(5, .int 0), (0, .ref (b + r0)), (1, .int i1), (2, .int i2), (3, .int i3), (4, .int i4)] := hl
          exact ih2 _ _ _ _ _ _ _ _ _ _ h hM (lv_sub hl [1, 2, 3, 4, 5, 0] rfl)
      · intro r0 i1 i2 i3 i4 i5 μ H locs ls h hM hl
        have h : B_AT_valuesOf_2 n (F_AT_valuesOf n) r0 i1 i2 i3 i4 i5 μ = some res := h
        unfold B_AT_valuesOf_2 at h
        refine lv_iload hx hb d_AT_valuesOf_14 (lv_at hl 5 rfl) ?_
        refine lv_aload_n hx hb d_AT_valuesOf_16 rfl (lv_at hl 0 rfl) ?_
        obtain ⟨g1, h⟩ := of_g h
        obtain ⟨g2, h⟩ := of_g h
        refine g_get (C := "JoinedLeaves$Atom") (T := T_AT) (N := 3) (ref := "JoinedLeaves$Atom") (v := .ref (b + (mR μ r0 2))) hx hb hts jF_AT hown hK hM g1 (by decide) rfl 2 (by decide) (hts _ jm_1_1) (fun _ h9 => h9) (by decide) (rv_of (ok_0 g2)) d_AT_valuesOf_17 ?_
        refine g_getN (C := "JoinedLeaves$Relation") (T := T_RE) (N := 3) (ref := "JoinedLeaves$Relation") (v := .int (mI μ (mR μ r0 2) 2)) hx hb hts jF_RE hown hK hM g2 (by decide) rfl 2 (by decide) (hK.nest _ jn_3 rfl) (fun _ h9 => h9) (by decide) rfl d_AT_valuesOf_20 ?_
        refine lv_icmp_ge (tgt := 68) hx hb d_AT_valuesOf_23 (by decide) (fun hc => ?_) (fun hc => ?_)
        · replace h := of_t hc h
          exact ih4 _ _ _ _ _ _ _ _ _ _ h hM (lv_sub hl [0, 1, 2, 3, 4] rfl)
        · replace h := of_f hc h
          refine lv_aload_n hx hb d_AT_valuesOf_26 rfl (lv_at hl 0 rfl) ?_
          obtain ⟨g3, h⟩ := of_g h
          refine g_get (C := "JoinedLeaves$Atom") (T := T_AT) (N := 3) (ref := "JoinedLeaves$Atom") (v := .ref (b + (mR μ r0 0))) hx hb hts jF_AT hown hK hM g1 (by decide) rfl 0 (by decide) (hts _ jm_0_47) (fun _ h9 => h9) (by decide) (rv_of (ok_0 g3)) d_AT_valuesOf_27 ?_
          refine lv_iload hx hb d_AT_valuesOf_30 (lv_at hl 4 rfl) ?_
          obtain ⟨g4, h⟩ := of_g h
          refine g_iald hx hb hK hM g3 g4 d_AT_valuesOf_32 ?_
          refine lv_iload_n hx hb d_AT_valuesOf_33 rfl (lv_at hl 1 rfl) ?_
          refine lv_icmp_ne (tgt := 68) hx hb d_AT_valuesOf_34 (by decide) (fun hc => ?_) (fun hc => ?_)
          · replace h := of_f hc h
            exact ih4 _ _ _ _ _ _ _ _ _ _ h hM (lv_sub hl [0, 1, 2, 3, 4] rfl)
          · replace h := of_t hc h
            refine lv_iload hx hb d_AT_valuesOf_37 (lv_at hl 5 rfl) ?_
            refine lv_iload_n hx hb d_AT_valuesOf_39 rfl (lv_at hl 2 rfl) ?_
            obtain ⟨q5, hq5, h⟩ := of_b h
            refine g_calli (va_runSN (As := [.int i5, .int i2]) (rest := []) ⟨hx, hb, hml, hown, hts⟩ (S_JL_isIn l D b cs i5 i2 μ q5 n hq5) ⟨va_cnB 2 hts (goodIn_g jm_3_19) rfl rfl rfl (hK.2.1 _ jn_60) (hts _ jm_0_1) (by decide +kernel) ⟨Nat.le_of_ble_eq_true rfl, Nat.le_of_ble_eq_true rfl⟩, (hts _ jm_3_18), trivial⟩ (Wd.preS hK hM) rfl rfl hl.1 rfl (lv_room (Nat.le_of_ble_eq_true rfl)) d_AT_valuesOf_40 ⟨Nat.le_of_ble_eq_true rfl, Nat.le_of_ble_eq_true rfl⟩) hM (fun H locs hM => ?_)
            refine lv_if_eq (tgt := 62) hx hb d_AT_valuesOf_43 (by decide) (fun hc => ?_) (fun hc => ?_)
            · replace h := of_t hc h
              exact ih3 _ _ _ _ _ _ _ _ _ _ h hM (lv_sub hl [0, 1, 2, 3, 4, 5] rfl)
            · replace h := of_f hc h
              refine lv_iload_n hx hb d_AT_valuesOf_46 rfl (lv_at hl 3 rfl) ?_
              refine lv_iconst (v := 1) hx hb d_AT_valuesOf_47 (by decide) ?_
              refine lv_aload_n hx hb d_AT_valuesOf_48 rfl (lv_at hl 0 rfl) ?_
              obtain ⟨g6, h⟩ := of_g h
              obtain ⟨g7, h⟩ := of_g h
              refine g_get (C := "JoinedLeaves$Atom") (T := T_AT) (N := 3) (ref := "JoinedLeaves$Atom") (v := .ref (b + (mR q5.2 r0 2))) hx hb hts jF_AT hown hK hM g6 (by decide) rfl 2 (by decide) (hts _ jm_1_1) (fun _ h9 => h9) (by decide) (rv_of (ok_0 g7)) d_AT_valuesOf_49 ?_
              refine lv_iload hx hb d_AT_valuesOf_52 (lv_at hl 5 rfl) ?_
              refine lv_iload hx hb d_AT_valuesOf_54 (lv_at hl 4 rfl) ?_
              obtain ⟨q8, hq8, h⟩ := of_b h
              refine g_calli (va_runVN (As := [.int i5, .int i4]) (rest := [.int 1, .int i3]) ⟨hx, hb, hml, hown, hts⟩ (S_RE_valueAt l D b cs (mR q5.2 r0 2) i5 i4 q5.2 q8 n hq8) ⟨va_cnB 2 hts (goodIn_g jm_5_27) rfl rfl rfl (hK.2.1 _ jn_50) (hts _ jm_0_2) (by decide +kernel) ⟨Nat.le_of_ble_eq_true rfl, Nat.le_of_ble_eq_true rfl⟩, (hts _ jm_5_26), (hts _ jm_11_40)⟩ (Wd.preV hK hM g7 rfl (by decide)) rfl rfl hl.1 rfl (lv_room (Nat.le_of_ble_eq_true rfl)) d_AT_valuesOf_56 ⟨Nat.le_of_ble_eq_true rfl, Nat.le_of_ble_eq_true rfl⟩) hM (fun H locs hM => ?_)
              refine lv_ishl hx hb d_AT_valuesOf_59 ?_
              refine lv_ior hx hb d_AT_valuesOf_60 ?_
              obtain ⟨v9, e_v9, h⟩ := of_b h
              refine top_i (Option.some.inj e_v9) ?_
              refine lv_istore_n hx hb d_AT_valuesOf_61 rfl hl (by decide) rfl (fun ls hl => ?_)
              have hl : lv_has ls 6 [(3, .int v9), (0, .ref (b + r0)), (1, .int i1), (2, .int i2), (4, .int i4), (5, .int i5)] := hl
              exact ih3 _ _ _ _ _ _ _ _ _ _ h hM (lv_sub hl [1, 2, 3, 0, 4, 5] rfl)
      · intro r0 i1 i2 i3 i4 i5 μ H locs ls h hM hl
        have h : B_AT_valuesOf_3 n (F_AT_valuesOf n) r0 i1 i2 i3 i4 i5 μ = some res := h
        unfold B_AT_valuesOf_3 at h
        obtain ⟨v10, e_v10, h⟩ := of_b h
        refine lv_iinc (v := v10) hx hb d_AT_valuesOf_62 hl (k := 5) rfl (by rw [lit1]; exact Option.some.inj e_v10) (by decide) rfl (fun ls hl => ?_)
        have hl : lv_has ls 6 [(5, .int v10), (0, .ref (b + r0)), (1, .int i1), (2, .int i2), (3, .int i3), (4, .int i4)] := hl
        refine lv_goto (tgt := 14) hx hb d_AT_valuesOf_65 (by decide) ?_
        exact ih2 _ _ _ _ _ _ _ _ _ _ h hM (lv_sub hl [1, 2, 3, 4, 5, 0] rfl)
      · intro r0 i1 i2 i3 i4 i5 μ H locs ls h hM hl
        have h : B_AT_valuesOf_4 n (F_AT_valuesOf n) r0 i1 i2 i3 i4 i5 μ = some res := h
        unfold B_AT_valuesOf_4 at h
        obtain ⟨v11, e_v11, h⟩ := of_b h
        refine lv_iinc (v := v11) hx hb d_AT_valuesOf_68 hl (k := 4) rfl (by rw [lit1]; exact Option.some.inj e_v11) (by decide) rfl (fun ls hl => ?_)
        have hl : lv_has ls 6 [(4, .int v11), (0, .ref (b + r0)), (1, .int i1), (2, .int i2), (3, .int i3)] := hl
        refine lv_goto (tgt := 5) hx hb d_AT_valuesOf_71 (by decide) ?_
        exact ih1 _ _ _ _ _ _ _ _ _ _ h hM (lv_sub hl [1, 2, 3, 4, 0] rfl)
  exact (key n).1 _ _ _ _ _ _ _ _ _ _ h hM hl
