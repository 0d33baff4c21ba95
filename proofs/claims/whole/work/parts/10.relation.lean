/-! By program (wip/whole/gen.py): for each method its function over memories, and its contract. -/
abbrev w_JL_isBelow : List Cond := .code y_JL_isBelow b_JL_isBelow 2 (Option.some Jvm.ClassFile.FieldType.boolean) :: jW
def C_JL_isBelow (n : Nat) (i0 : Int32) (i1 : Int32) (μ : Mem) : Option (Int32 × Mem) :=
  if i0 < 0 then some (0, μ) else if i1 ≤ i0 then some (0, μ) else some (1, μ)
set_option maxHeartbeats 4000000 in
set_option maxRecDepth 100000 in
theorem S_JL_isBelow (l : Launch) (D : va_G) (b : Nat) (cs : Nat → ClassId) (i0 : Int32) (i1 : Int32) (μ : Mem) (res : Int32 × Mem) (n : Nat) (h : C_JL_isBelow n i0 i1 μ = some res) : MetI l y_JL_isBelow w_JL_isBelow 0 0 b cs D μ [.int i0, .int i1] res := by
  refine Met.ofW (cc := b_JL_isBelow) (maxL := 2) (ret := (Option.some Jvm.ClassFile.FieldType.boolean)) (by decide) rfl ?_
  intro p e s m args below meth c s₁ B hml hv
  obtain ⟨rfl, hK, hM⟩ := Wd.start hv
  have hx := B.exec
  have hb := B.bytes
  have hr := B.returns
  have hts : ∀ w ∈ jW, w.before _ s = true := fun w hw => atoms_spec (ws := w_JL_isBelow) B.pre w (List.mem_cons_of_mem _ hw)
  have hown : s.vm.findClass "JoinedLeaves" = some m.cls := findClass_of_methodNamed B.named
  have hlocks := B.notSynchronized
  have hl := lv_entry ([.int i0, .int i1]) (n := 2) (Nat.le_of_ble_eq_true rfl)
  rw [lg_entry_eq]
  generalize (lg_sl ([.int i0, .int i1]) ++ List.replicate (2 - (lg_sl ([.int i0, .int i1])).length) Slot.unset).toArray = ls at hl ⊢
  have hl : lv_has ls 2 [(0, .int i0), (1, .int i1)] := hl
  unfold C_JL_isBelow at h
  refine lv_iload_n hx hb d_JL_isBelow_0 rfl (lv_at hl 0 rfl) ?_
  refine lv_if_lt (tgt := 13) hx hb d_JL_isBelow_1 (by decide) (fun hc => ?_) (fun hc => ?_)
  · replace h := of_t hc h
    refine lv_iconst (v := 0) hx hb d_JL_isBelow_13 (by decide) ?_
    exact g_zret hx hb hr narrow_b0 hlocks hM (Option.some.inj h) d_JL_isBelow_14
  · replace h := of_f hc h
    refine lv_iload_n hx hb d_JL_isBelow_4 rfl (lv_at hl 0 rfl) ?_
    refine lv_iload_n hx hb d_JL_isBelow_5 rfl (lv_at hl 1 rfl) ?_
    refine lv_icmp_ge (tgt := 13) hx hb d_JL_isBelow_6 (by decide) (fun hc => ?_) (fun hc => ?_)
    · replace h := of_t hc h
      refine lv_iconst (v := 0) hx hb d_JL_isBelow_13 (by decide) ?_
      exact g_zret hx hb hr narrow_b0 hlocks hM (Option.some.inj h) d_JL_isBelow_14
    · replace h := of_f hc h
      refine lv_iconst (v := 1) hx hb d_JL_isBelow_9 (by decide) ?_
      refine lv_goto (tgt := 14) hx hb d_JL_isBelow_10 (by decide) ?_
      exact g_zret hx hb hr narrow_b1 hlocks hM (Option.some.inj h) d_JL_isBelow_14
abbrev w_RE_init : List Cond := .code y_RE_init b_RE_init 1 (Option.none : Option Jvm.ClassFile.FieldType) :: jW
def C_RE_init (n : Nat) (r0 : Nat) (μ : Mem) : Option Mem :=
  Option.bind (some (al μ 100 12)) (fun μ1 => if ok μ1 r0 0 = true then if ok μ1 (mN μ + 1) 100 = true then Option.bind (some (sR μ1 r0 0 (mN μ + 1))) (fun μ5 => some μ5) else none else none)
set_option maxHeartbeats 4000000 in
set_option maxRecDepth 100000 in
theorem S_RE_init (l : Launch) (D : va_G) (b : Nat) (cs : Nat → ClassId) (r0 : Nat) (μ : Mem) (res : Mem) (n : Nat) (h : C_RE_init n r0 μ = some res) : MetC l y_RE_init w_RE_init 1 1 12 12 b cs D μ [.ref (b + r0)] res := by
  refine Met.ofW (cc := b_RE_init) (maxL := 1) (ret := (Option.none : Option Jvm.ClassFile.FieldType)) (by decide) rfl ?_
  intro p e s m args below meth c s₁ B hml hv
  obtain ⟨rfl, hsz, hK, hM⟩ := Wd.startC hv
  have hx := B.exec
  have hb := B.bytes
  have hr := B.returns
  have hts : ∀ w ∈ jW, w.before _ s = true := fun w hw => atoms_spec (ws := w_RE_init) B.pre w (List.mem_cons_of_mem _ hw)
  have hown : s.vm.findClass "JoinedLeaves$Relation" = some m.cls := findClass_of_methodNamed B.named
  have hlocks := B.notSynchronized
  have hin : meth.name = "<init>" := (name_of_methodNamed B.named B.method).1
  have hN0 : mN μ = mN μ + 0 := rfl
  have hl := lv_entry ([.ref (b + r0)]) (n := 1) (Nat.le_of_ble_eq_true rfl)
  rw [lg_entry_eq]
  generalize (lg_sl ([.ref (b + r0)]) ++ List.replicate (1 - (lg_sl ([.ref (b + r0)])).length) Slot.unset).toArray = ls at hl ⊢
  have hl : lv_has ls 1 [(0, .ref (b + r0))] := hl
  unfold C_RE_init at h
  refine lv_aload_n hx hb d_RE_init_0 rfl (lv_at hl 0 rfl) ?_
  refine W.objInit hx hb hown (hts _ jm_0_28) (hts _ jm_0_22) (hts _ jm_0_23) rfl (by rw [hml]; exact hl.1) rfl d_RE_init_1 (Nat.le_of_ble_eq_true rfl) (Nat.le_of_ble_eq_true rfl) ?_
  refine W.eq (g2 := F0 m 4 ls []) rfl ?_
  refine lv_aload_n hx hb d_RE_init_4 rfl (lv_at hl 0 rfl) ?_
  refine lv_bipush (v := 12) hx hb d_RE_init_5 (by decide) ?_
  obtain ⟨μ1, e_μ1, h⟩ := of_b h
  refine g_newi (N := 12) (atype := .int) hx hb rfl (hts _ jm_0_36) hK hM (cs_of hsz hN0) rfl (by decide) (by decide) (by decide) (Nat.le_of_ble_eq_true rfl) (Nat.le_of_ble_eq_true rfl) d_RE_init_7 (fun H hM => ?_)
  refine W.widen (k := 1) (n := 12) (by decide) (by decide) ?_
  rw [Option.some.inj e_μ1] at hM
  have hN2 : mN μ1 = mN μ + 1 := by rw [← Option.some.inj e_μ1]; exact congrArg (· + 1) hN0
  obtain ⟨g3, h⟩ := of_g h
  obtain ⟨g4, h⟩ := of_g h
  obtain ⟨μ5, e_μ5, h⟩ := of_b h
  refine g_putrF (v := mN μ + 1) (C := "JoinedLeaves$Relation") (T := T_RE) (N := 3) (ref := "JoinedLeaves$Relation") hx hb hts jF_RE t_RE o_RE n_RE hown hK hM g3 (by decide) rfl 0 (by decide) (hts _ jm_0_29) (fun _ h9 => h9) rfl hin rfl (ty := (.array .int)) (by decide +kernel) rfl rfl (by decide) (fun _ => rfl) (ok_0 g4) d_RE_init_9 (fun H locs hM => ?_)
  rw [Option.some.inj e_μ5] at hM
  have hN6 : mN μ5 = mN μ + 1 := by rw [← Option.some.inj e_μ5]; exact hN2
  exact g_cret hx hb hr hlocks hM (Option.some.inj h) d_RE_init_12
abbrev w_RE_valueAt : List Cond := .code y_RE_valueAt b_RE_valueAt 3 (Option.some Jvm.ClassFile.FieldType.int) :: jW
def C_RE_valueAt (n : Nat) (r0 : Nat) (i1 : Int32) (i2 : Int32) (μ : Mem) : Option (Int32 × Mem) :=
  if ok μ r0 0 = true then if ok μ (mR μ r0 0) 100 = true then if ib i1 (mZ μ (mR μ r0 0)) = true then some (((mI μ (mR μ r0 0) (Int32.toNatClampNeg i1)) >>> ((4 * i2) &&& 31)) &&& 15, μ) else none else none else none
set_option maxHeartbeats 4000000 in
set_option maxRecDepth 100000 in
theorem S_RE_valueAt (l : Launch) (D : va_G) (b : Nat) (cs : Nat → ClassId) (r0 : Nat) (i1 : Int32) (i2 : Int32) (μ : Mem) (res : Int32 × Mem) (n : Nat) (h : C_RE_valueAt n r0 i1 i2 μ = some res) : MetI l y_RE_valueAt w_RE_valueAt 0 0 b cs D μ [.ref (b + r0), .int i1, .int i2] res := by
  refine Met.ofW (cc := b_RE_valueAt) (maxL := 3) (ret := (Option.some Jvm.ClassFile.FieldType.int)) (by decide) rfl ?_
  intro p e s m args below meth c s₁ B hml hv
  obtain ⟨rfl, hK, hM⟩ := Wd.start hv
  have hx := B.exec
  have hb := B.bytes
  have hr := B.returns
  have hts : ∀ w ∈ jW, w.before _ s = true := fun w hw => atoms_spec (ws := w_RE_valueAt) B.pre w (List.mem_cons_of_mem _ hw)
  have hown : s.vm.findClass "JoinedLeaves$Relation" = some m.cls := findClass_of_methodNamed B.named
  have hlocks := B.notSynchronized
  have hl := lv_entry ([.ref (b + r0), .int i1, .int i2]) (n := 3) (Nat.le_of_ble_eq_true rfl)
  rw [lg_entry_eq]
  generalize (lg_sl ([.ref (b + r0), .int i1, .int i2]) ++ List.replicate (3 - (lg_sl ([.ref (b + r0), .int i1, .int i2])).length) Slot.unset).toArray = ls at hl ⊢
  have hl : lv_has ls 3 [(0, .ref (b + r0)), (1, .int i1), (2, .int i2)] := hl
  unfold C_RE_valueAt at h
  refine lv_aload_n hx hb d_RE_valueAt_0 rfl (lv_at hl 0 rfl) ?_
  obtain ⟨g1, h⟩ := of_g h
  obtain ⟨g2, h⟩ := of_g h
  refine g_get (C := "JoinedLeaves$Relation") (T := T_RE) (N := 3) (ref := "JoinedLeaves$Relation") (v := .ref (b + (mR μ r0 0))) hx hb hts jF_RE hown hK hM g1 (by decide) rfl 0 (by decide) (hts _ jm_0_29) (fun _ h9 => h9) (by decide) (rv_of (ok_0 g2)) d_RE_valueAt_1 ?_
  refine lv_iload_n hx hb d_RE_valueAt_4 rfl (lv_at hl 1 rfl) ?_
  obtain ⟨g3, h⟩ := of_g h
  refine g_iald hx hb hK hM g2 g3 d_RE_valueAt_5 ?_
  refine lv_iconst (v := 4) hx hb d_RE_valueAt_6 (by decide) ?_
  refine lv_iload_n hx hb d_RE_valueAt_7 rfl (lv_at hl 2 rfl) ?_
  refine lv_imul hx hb d_RE_valueAt_8 ?_
  refine lv_ishr hx hb d_RE_valueAt_9 ?_
  refine lv_bipush (v := 15) hx hb d_RE_valueAt_10 (by decide) ?_
  refine lv_iand hx hb d_RE_valueAt_12 ?_
  exact g_iret hx hb hr hlocks hM (Option.some.inj h) d_RE_valueAt_13
abbrev w_RE_pack : List Cond := .code y_RE_pack b_RE_pack 6 (Option.some Jvm.ClassFile.FieldType.int) :: jW
def B_RE_pack_0 (n : Nat) (k : Nat → Nat → Int32 → Int32 → Int32 → Int32 → Int32 → Mem → Option (Int32 × Mem)) (r0 : Nat) (i1 : Int32) (i2 : Int32) (i3 : Int32) (i4 : Int32) (x0 : Int32) (μ : Mem) : Option (Int32 × Mem) :=
  if ok μ r0 0 = true then if (mI μ r0 1) ≤ 1 then k 1 r0 i1 0 i3 0 i1 μ else k 1 r0 i1 0 i3 0 i2 μ else none
def B_RE_pack_1 (n : Nat) (k : Nat → Nat → Int32 → Int32 → Int32 → Int32 → Int32 → Mem → Option (Int32 × Mem)) (r0 : Nat) (i1 : Int32) (i2 : Int32) (i3 : Int32) (i4 : Int32) (x0 : Int32) (μ : Mem) : Option (Int32 × Mem) :=
  if ok μ r0 0 = true then if (mI μ r0 1) ≤ 2 then k 2 0 i1 0 0 x0 i1 μ else k 2 0 i1 0 0 x0 i3 μ else none
def B_RE_pack_2 (n : Nat) (k : Nat → Nat → Int32 → Int32 → Int32 → Int32 → Int32 → Mem → Option (Int32 × Mem)) (r0 : Nat) (i1 : Int32) (i2 : Int32) (i3 : Int32) (i4 : Int32) (x0 : Int32) (μ : Mem) : Option (Int32 × Mem) :=
  Option.bind (C_JL_isBelow n i1 16 μ) (fun q3 => if q3.1 = 0 then some ((-1), q3.2) else Option.bind (C_JL_isBelow n i4 16 q3.2) (fun q4 => if q4.1 = 0 then some ((-1), q4.2) else Option.bind (C_JL_isBelow n x0 16 q4.2) (fun q5 => if q5.1 = 0 then some ((-1), q5.2) else some ((i1 ||| (i4 <<< (4 &&& 31))) ||| (x0 <<< (8 &&& 31)), q5.2))))
def F_RE_pack : Nat → Nat → Nat → Int32 → Int32 → Int32 → Int32 → Int32 → Mem → Option (Int32 × Mem)
  | 0 => fun _ _ _ _ _ _ _ _ => none
  | n + 1 => fun id r0 i1 i2 i3 i4 x0 μ => match id with
    | 0 => B_RE_pack_0 n (F_RE_pack n) r0 i1 i2 i3 i4 x0 μ
    | 1 => B_RE_pack_1 n (F_RE_pack n) r0 i1 i2 i3 i4 x0 μ
    | 2 => B_RE_pack_2 n (F_RE_pack n) r0 i1 i2 i3 i4 x0 μ
    | _ => none
def C_RE_pack (n : Nat) (r0 : Nat) (i1 : Int32) (i2 : Int32) (i3 : Int32) (μ : Mem) : Option (Int32 × Mem) := F_RE_pack n 0 r0 i1 i2 i3 0 0 μ
set_option maxHeartbeats 4000000 in
set_option maxRecDepth 100000 in
theorem S_RE_pack (l : Launch) (D : va_G) (b : Nat) (cs : Nat → ClassId) (u_r0 : Nat) (u_i1 : Int32) (u_i2 : Int32) (u_i3 : Int32) (ν : Mem) (res : Int32 × Mem) (n : Nat) (h : C_RE_pack n u_r0 u_i1 u_i2 u_i3 ν = some res) : MetI l y_RE_pack w_RE_pack 1 21 b cs D ν [.ref (b + u_r0), .int u_i1, .int u_i2, .int u_i3] res := by
  refine Met.ofW (cc := b_RE_pack) (maxL := 6) (ret := (Option.some Jvm.ClassFile.FieldType.int)) (by decide) rfl ?_
  intro p e s m args below meth c s₁ B hml hv
  obtain ⟨rfl, hK, hM⟩ := Wd.start hv
  have hx := B.exec
  have hb := B.bytes
  have hr := B.returns
  have hts : ∀ w ∈ jW, w.before _ s = true := fun w hw => atoms_spec (ws := w_RE_pack) B.pre w (List.mem_cons_of_mem _ hw)
  have hown : s.vm.findClass "JoinedLeaves$Relation" = some m.cls := findClass_of_methodNamed B.named
  have hlocks := B.notSynchronized
  have hl := lv_entry ([.ref (b + u_r0), .int u_i1, .int u_i2, .int u_i3]) (n := 6) (Nat.le_of_ble_eq_true rfl)
  rw [lg_entry_eq]
  generalize (lg_sl ([.ref (b + u_r0), .int u_i1, .int u_i2, .int u_i3]) ++ List.replicate (6 - (lg_sl ([.ref (b + u_r0), .int u_i1, .int u_i2, .int u_i3])).length) Slot.unset).toArray = ls at hl ⊢
  have hl : lv_has ls 6 [(0, .ref (b + u_r0)), (1, .int u_i1), (2, .int u_i2), (3, .int u_i3)] := hl
  have key : ∀ N : Nat, (∀ (r0 : Nat) (i1 : Int32) (i2 : Int32) (i3 : Int32) (i4 : Int32) (x0 : Int32) (μ : Mem) (H : Heap) (locs : List Loc) (ls : Array Slot), F_RE_pack N 0 r0 i1 i2 i3 i4 x0 μ = some res → Wd (Aw b (mN ν)) b cs D s.heap μ H locs → lv_has ls 6 [(0, .ref (b + r0)), (1, .int i1), (2, .int i2), (3, .int i3)] → W p l e (headSpec w_RE_pack { frames := 1, cells := 0, slots := 0, locals := 21 }).room s m ([.ref (b + u_r0), .int u_i1, .int u_i2, .int u_i3]).toArray below meth c H locs 0 0 (MQ below (va_Qi (fun r μ' => (r, μ') = res ∧ mN μ' ≤ mN ν) (Bw b cs D) (Aw b (mN ν))) ([.ref (b + u_r0), .int u_i1, .int u_i2, .int u_i3]).toArray s 0 0 (Aw b (mN ν))) (F0 m 0 ls [])) ∧
      (∀ (r0 : Nat) (i1 : Int32) (i2 : Int32) (i3 : Int32) (i4 : Int32) (x0 : Int32) (μ : Mem) (H : Heap) (locs : List Loc) (ls : Array Slot), F_RE_pack N 1 r0 i1 i2 i3 i4 x0 μ = some res → Wd (Aw b (mN ν)) b cs D s.heap μ H locs → lv_has ls 6 [(0, .ref (b + r0)), (1, .int i1), (3, .int i3)] → W p l e (headSpec w_RE_pack { frames := 1, cells := 0, slots := 0, locals := 21 }).room s m ([.ref (b + u_r0), .int u_i1, .int u_i2, .int u_i3]).toArray below meth c H locs 0 0 (MQ below (va_Qi (fun r μ' => (r, μ') = res ∧ mN μ' ≤ mN ν) (Bw b cs D) (Aw b (mN ν))) ([.ref (b + u_r0), .int u_i1, .int u_i2, .int u_i3]).toArray s 0 0 (Aw b (mN ν))) (F0 m 13 ls [.int x0])) ∧
      (∀ (r0 : Nat) (i1 : Int32) (i2 : Int32) (i3 : Int32) (i4 : Int32) (x0 : Int32) (μ : Mem) (H : Heap) (locs : List Loc) (ls : Array Slot), F_RE_pack N 2 r0 i1 i2 i3 i4 x0 μ = some res → Wd (Aw b (mN ν)) b cs D s.heap μ H locs → lv_has ls 6 [(1, .int i1), (4, .int i4)] → W p l e (headSpec w_RE_pack { frames := 1, cells := 0, slots := 0, locals := 21 }).room s m ([.ref (b + u_r0), .int u_i1, .int u_i2, .int u_i3]).toArray below meth c H locs 0 0 (MQ below (va_Qi (fun r μ' => (r, μ') = res ∧ mN μ' ≤ mN ν) (Bw b cs D) (Aw b (mN ν))) ([.ref (b + u_r0), .int u_i1, .int u_i2, .int u_i3]).toArray s 0 0 (Aw b (mN ν))) (F0 m 28 ls [.int x0])) := by
    intro N
    induction N with
    | zero => exact ⟨fun _ _ _ _ _ _ _ _ _ _ h => (nomatch h), fun _ _ _ _ _ _ _ _ _ _ h => (nomatch h), fun _ _ _ _ _ _ _ _ _ _ h => (nomatch h)⟩
    | succ n ih =>
      obtain ⟨ih0, ih1, ih2⟩ := ih
      refine ⟨?_, ?_, ?_⟩
      · intro r0 i1 i2 i3 i4 x0 μ H locs ls h hM hl
        have h : B_RE_pack_0 n (F_RE_pack n) r0 i1 i2 i3 i4 x0 μ = some res := h
        unfold B_RE_pack_0 at h
        refine lv_aload_n hx hb d_RE_pack_0 rfl (lv_at hl 0 rfl) ?_
        obtain ⟨g1, h⟩ := of_g h
        refine g_get (C := "JoinedLeaves$Relation") (T := T_RE) (N := 3) (ref := "JoinedLeaves$Relation") (v := .int (mI μ r0 1)) hx hb hts jF_RE hown hK hM g1 (by decide) rfl 1 (by decide) (hts _ jm_0_30) (fun _ h9 => h9) (by decide) rfl d_RE_pack_1 ?_
        refine lv_iconst (v := 1) hx hb d_RE_pack_4 (by decide) ?_
        refine lv_icmp_le (tgt := 12) hx hb d_RE_pack_5 (by decide) (fun hc => ?_) (fun hc => ?_)
        · replace h := of_t hc h
          refine lv_iload_n hx hb d_RE_pack_12 rfl (lv_at hl 1 rfl) ?_
          exact ih1 _ _ _ _ _ _ _ _ _ _ h hM (lv_sub hl [0, 1, 3] rfl)
        · replace h := of_f hc h
          refine lv_iload_n hx hb d_RE_pack_8 rfl (lv_at hl 2 rfl) ?_
          refine lv_goto (tgt := 13) hx hb d_RE_pack_9 (by decide) ?_
          exact ih1 _ _ _ _ _ _ _ _ _ _ h hM (lv_sub hl [0, 1, 3] rfl)
      · intro r0 i1 i2 i3 i4 x0 μ H locs ls h hM hl
        have h : B_RE_pack_1 n (F_RE_pack n) r0 i1 i2 i3 i4 x0 μ = some res := h
        unfold B_RE_pack_1 at h
        refine lv_istore hx hb d_RE_pack_13 hl (by decide) rfl (fun ls hl => ?_)
        have hl : lv_has ls 6 [(4, .int x0), (0, .ref (b + r0)), (1, .int i1), (3, .int i3)] := hl
        refine lv_aload_n hx hb d_RE_pack_15 rfl (lv_at hl 1 rfl) ?_
        obtain ⟨g2, h⟩ := of_g h
        refine g_get (C := "JoinedLeaves$Relation") (T := T_RE) (N := 3) (ref := "JoinedLeaves$Relation") (v := .int (mI μ r0 1)) hx hb hts jF_RE hown hK hM g2 (by decide) rfl 1 (by decide) (hts _ jm_0_30) (fun _ h9 => h9) (by decide) rfl d_RE_pack_16 ?_
        refine lv_iconst (v := 2) hx hb d_RE_pack_19 (by decide) ?_
        refine lv_icmp_le (tgt := 27) hx hb d_RE_pack_20 (by decide) (fun hc => ?_) (fun hc => ?_)
        · replace h := of_t hc h
          refine lv_iload_n hx hb d_RE_pack_27 rfl (lv_at hl 2 rfl) ?_
          exact ih2 _ _ _ _ _ _ _ _ _ _ h hM (lv_sub hl [2, 0] rfl)
        · replace h := of_f hc h
          refine lv_iload_n hx hb d_RE_pack_23 rfl (lv_at hl 3 rfl) ?_
          refine lv_goto (tgt := 28) hx hb d_RE_pack_24 (by decide) ?_
          exact ih2 _ _ _ _ _ _ _ _ _ _ h hM (lv_sub hl [2, 0] rfl)
      · intro r0 i1 i2 i3 i4 x0 μ H locs ls h hM hl
        have h : B_RE_pack_2 n (F_RE_pack n) r0 i1 i2 i3 i4 x0 μ = some res := h
        unfold B_RE_pack_2 at h
        refine lv_istore hx hb d_RE_pack_28 hl (by decide) rfl (fun ls hl => ?_)
        have hl : lv_has ls 6 [(5, .int x0), (1, .int i1), (4, .int i4)] := hl
        refine lv_iload_n hx hb d_RE_pack_30 rfl (lv_at hl 1 rfl) ?_
        refine lv_bipush (v := 16) hx hb d_RE_pack_31 (by decide) ?_
        obtain ⟨q3, hq3, h⟩ := of_b h
        refine g_calli (va_runSN (As := [.int i1, .int 16]) (rest := []) ⟨hx, hb, hml, hown, hts⟩ (S_JL_isBelow l D b cs i1 16 μ q3 n hq3) ⟨va_cnB 2 hts (goodIn_g jm_2_31) rfl rfl rfl (hK.2.1 _ jn_28) (hts _ jm_0_1) (by decide +kernel) ⟨Nat.le_of_ble_eq_true rfl, Nat.le_of_ble_eq_true rfl⟩, (hts _ jm_2_30), trivial⟩ (Wd.preS hK hM) rfl rfl hl.1 rfl (lv_room (Nat.le_of_ble_eq_true rfl)) d_RE_pack_33 ⟨Nat.le_of_ble_eq_true rfl, Nat.le_of_ble_eq_true rfl⟩) hM (fun H locs hM => ?_)
        refine lv_if_eq (tgt := 59) hx hb d_RE_pack_36 (by decide) (fun hc => ?_) (fun hc => ?_)
        · replace h := of_t hc h
          refine lv_iconst (v := (-1)) hx hb d_RE_pack_59 (by decide) ?_
          exact g_iret hx hb hr hlocks hM (Option.some.inj h) d_RE_pack_60
        · replace h := of_f hc h
          refine lv_iload hx hb d_RE_pack_39 (lv_at hl 2 rfl) ?_
          refine lv_bipush (v := 16) hx hb d_RE_pack_41 (by decide) ?_
          obtain ⟨q4, hq4, h⟩ := of_b h
          refine g_calli (va_runSN (As := [.int i4, .int 16]) (rest := []) ⟨hx, hb, hml, hown, hts⟩ (S_JL_isBelow l D b cs i4 16 q3.2 q4 n hq4) ⟨va_cnB 2 hts (goodIn_g jm_2_31) rfl rfl rfl (hK.2.1 _ jn_28) (hts _ jm_0_1) (by decide +kernel) ⟨Nat.le_of_ble_eq_true rfl, Nat.le_of_ble_eq_true rfl⟩, (hts _ jm_2_30), trivial⟩ (Wd.preS hK hM) rfl rfl hl.1 rfl (lv_room (Nat.le_of_ble_eq_true rfl)) d_RE_pack_43 ⟨Nat.le_of_ble_eq_true rfl, Nat.le_of_ble_eq_true rfl⟩) hM (fun H locs hM => ?_)
          refine lv_if_eq (tgt := 59) hx hb d_RE_pack_46 (by decide) (fun hc => ?_) (fun hc => ?_)
          · replace h := of_t hc h
            refine lv_iconst (v := (-1)) hx hb d_RE_pack_59 (by decide) ?_
            exact g_iret hx hb hr hlocks hM (Option.some.inj h) d_RE_pack_60
          · replace h := of_f hc h
            refine lv_iload hx hb d_RE_pack_49 (lv_at hl 0 rfl) ?_
            refine lv_bipush (v := 16) hx hb d_RE_pack_51 (by decide) ?_
            obtain ⟨q5, hq5, h⟩ := of_b h
            refine g_calli (va_runSN (As := [.int x0, .int 16]) (rest := []) ⟨hx, hb, hml, hown, hts⟩ (S_JL_isBelow l D b cs x0 16 q4.2 q5 n hq5) ⟨va_cnB 2 hts (goodIn_g jm_2_31) rfl rfl rfl (hK.2.1 _ jn_28) (hts _ jm_0_1) (by decide +kernel) ⟨Nat.le_of_ble_eq_true rfl, Nat.le_of_ble_eq_true rfl⟩, (hts _ jm_2_30), trivial⟩ (Wd.preS hK hM) rfl rfl hl.1 rfl (lv_room (Nat.le_of_ble_eq_true rfl)) d_RE_pack_53 ⟨Nat.le_of_ble_eq_true rfl, Nat.le_of_ble_eq_true rfl⟩) hM (fun H locs hM => ?_)
            refine lv_if_ne (tgt := 61) hx hb d_RE_pack_56 (by decide) (fun hc => ?_) (fun hc => ?_)
            · replace h := of_f hc h
              refine lv_iload_n hx hb d_RE_pack_61 rfl (lv_at hl 1 rfl) ?_
              refine lv_iload hx hb d_RE_pack_62 (lv_at hl 2 rfl) ?_
              refine lv_iconst (v := 4) hx hb d_RE_pack_64 (by decide) ?_
              refine lv_ishl hx hb d_RE_pack_65 ?_
              refine lv_ior hx hb d_RE_pack_66 ?_
              refine lv_iload hx hb d_RE_pack_67 (lv_at hl 0 rfl) ?_
              refine lv_bipush (v := 8) hx hb d_RE_pack_69 (by decide) ?_
              refine lv_ishl hx hb d_RE_pack_71 ?_
              refine lv_ior hx hb d_RE_pack_72 ?_
              exact g_iret hx hb hr hlocks hM (Option.some.inj h) d_RE_pack_73
            · replace h := of_t hc h
              refine lv_iconst (v := (-1)) hx hb d_RE_pack_59 (by decide) ?_
              exact g_iret hx hb hr hlocks hM (Option.some.inj h) d_RE_pack_60
  exact (key n).1 _ _ _ _ _ _ _ _ _ _ h hM hl
abbrev w_RE_placeOf : List Cond := .code y_RE_placeOf b_RE_placeOf 3 (Option.some Jvm.ClassFile.FieldType.int) :: jW
def B_RE_placeOf_0 (n : Nat) (k : Nat → Nat → Int32 → Int32 → Mem → Option (Int32 × Mem)) (r0 : Nat) (i1 : Int32) (i2 : Int32) (μ : Mem) : Option (Int32 × Mem) :=
  k 1 r0 i1 0 μ
def B_RE_placeOf_1 (n : Nat) (k : Nat → Nat → Int32 → Int32 → Mem → Option (Int32 × Mem)) (r0 : Nat) (i1 : Int32) (i2 : Int32) (μ : Mem) : Option (Int32 × Mem) :=
  if ok μ r0 0 = true then if (mI μ r0 2) ≤ i2 then some ((-1), μ) else if ok μ (mR μ r0 0) 100 = true then if ib i2 (mZ μ (mR μ r0 0)) = true then if (mI μ (mR μ r0 0) (Int32.toNatClampNeg i2)) = i1 then some (i2, μ) else Option.bind (some (i2 + 1)) (fun v4 => k 1 r0 i1 v4 μ) else none else none else none
def F_RE_placeOf : Nat → Nat → Nat → Int32 → Int32 → Mem → Option (Int32 × Mem)
  | 0 => fun _ _ _ _ _ => none
  | n + 1 => fun id r0 i1 i2 μ => match id with
    | 0 => B_RE_placeOf_0 n (F_RE_placeOf n) r0 i1 i2 μ
    | 1 => B_RE_placeOf_1 n (F_RE_placeOf n) r0 i1 i2 μ
    | _ => none
def C_RE_placeOf (n : Nat) (r0 : Nat) (i1 : Int32) (μ : Mem) : Option (Int32 × Mem) := F_RE_placeOf n 0 r0 i1 0 μ
set_option maxHeartbeats 4000000 in
set_option maxRecDepth 100000 in
theorem S_RE_placeOf (l : Launch) (D : va_G) (b : Nat) (cs : Nat → ClassId) (u_r0 : Nat) (u_i1 : Int32) (ν : Mem) (res : Int32 × Mem) (n : Nat) (h : C_RE_placeOf n u_r0 u_i1 ν = some res) : MetI l y_RE_placeOf w_RE_placeOf 0 0 b cs D ν [.ref (b + u_r0), .int u_i1] res := by
  refine Met.ofW (cc := b_RE_placeOf) (maxL := 3) (ret := (Option.some Jvm.ClassFile.FieldType.int)) (by decide) rfl ?_
  intro p e s m args below meth c s₁ B hml hv
  obtain ⟨rfl, hK, hM⟩ := Wd.start hv
  have hx := B.exec
  have hb := B.bytes
  have hr := B.returns
  have hts : ∀ w ∈ jW, w.before _ s = true := fun w hw => atoms_spec (ws := w_RE_placeOf) B.pre w (List.mem_cons_of_mem _ hw)
  have hown : s.vm.findClass "JoinedLeaves$Relation" = some m.cls := findClass_of_methodNamed B.named
  have hlocks := B.notSynchronized
  have hl := lv_entry ([.ref (b + u_r0), .int u_i1]) (n := 3) (Nat.le_of_ble_eq_true rfl)
  rw [lg_entry_eq]
  generalize (lg_sl ([.ref (b + u_r0), .int u_i1]) ++ List.replicate (3 - (lg_sl ([.ref (b + u_r0), .int u_i1])).length) Slot.unset).toArray = ls at hl ⊢
  have hl : lv_has ls 3 [(0, .ref (b + u_r0)), (1, .int u_i1)] := hl
  have key : ∀ N : Nat, (∀ (r0 : Nat) (i1 : Int32) (i2 : Int32) (μ : Mem) (H : Heap) (locs : List Loc) (ls : Array Slot), F_RE_placeOf N 0 r0 i1 i2 μ = some res → Wd (Aw b (mN ν)) b cs D s.heap μ H locs → lv_has ls 3 [(0, .ref (b + r0)), (1, .int i1)] → W p l e (headSpec w_RE_placeOf { frames := 0, cells := 0, slots := 0, locals := 0 }).room s m ([.ref (b + u_r0), .int u_i1]).toArray below meth c H locs 0 0 (MQ below (va_Qi (fun r μ' => (r, μ') = res ∧ mN μ' ≤ mN ν) (Bw b cs D) (Aw b (mN ν))) ([.ref (b + u_r0), .int u_i1]).toArray s 0 0 (Aw b (mN ν))) (F0 m 0 ls [])) ∧
      (∀ (r0 : Nat) (i1 : Int32) (i2 : Int32) (μ : Mem) (H : Heap) (locs : List Loc) (ls : Array Slot), F_RE_placeOf N 1 r0 i1 i2 μ = some res → Wd (Aw b (mN ν)) b cs D s.heap μ H locs → lv_has ls 3 [(0, .ref (b + r0)), (1, .int i1), (2, .int i2)] → W p l e (headSpec w_RE_placeOf { frames := 0, cells := 0, slots := 0, locals := 0 }).room s m ([.ref (b + u_r0), .int u_i1]).toArray below meth c H locs 0 0 (MQ below (va_Qi (fun r μ' => (r, μ') = res ∧ mN μ' ≤ mN ν) (Bw b cs D) (Aw b (mN ν))) ([.ref (b + u_r0), .int u_i1]).toArray s 0 0 (Aw b (mN ν))) (F0 m 2 ls [])) := by
    intro N
    induction N with
    | zero => exact ⟨fun _ _ _ _ _ _ _ h => (nomatch h), fun _ _ _ _ _ _ _ h => (nomatch h)⟩
    | succ n ih =>
      obtain ⟨ih0, ih1⟩ := ih
      refine ⟨?_, ?_⟩
      · intro r0 i1 i2 μ H locs ls h hM hl
        have h : B_RE_placeOf_0 n (F_RE_placeOf n) r0 i1 i2 μ = some res := h
        unfold B_RE_placeOf_0 at h
        refine lv_iconst (v := 0) hx hb d_RE_placeOf_0 (by decide) ?_
        refine lv_istore_n hx hb d_RE_placeOf_1 rfl hl (by decide) rfl (fun ls hl => ?_)
        have hl : lv_has ls 3 [(2, .int 0), (0, .ref (b + r0)), (1, .int i1)] := hl
        exact ih1 _ _ _ _ _ _ _ h hM (lv_sub hl [1, 2, 0] rfl)
      · intro r0 i1 i2 μ H locs ls h hM hl
        have h : B_RE_placeOf_1 n (F_RE_placeOf n) r0 i1 i2 μ = some res := h
        unfold B_RE_placeOf_1 at h
        refine lv_iload_n hx hb d_RE_placeOf_2 rfl (lv_at hl 2 rfl) ?_
        refine lv_aload_n hx hb d_RE_placeOf_3 rfl (lv_at hl 0 rfl) ?_
        obtain ⟨g1, h⟩ := of_g h
        refine g_get (C := "JoinedLeaves$Relation") (T := T_RE) (N := 3) (ref := "JoinedLeaves$Relation") (v := .int (mI μ r0 2)) hx hb hts jF_RE hown hK hM g1 (by decide) rfl 2 (by decide) (hts _ jm_0_31) (fun _ h9 => h9) (by decide) rfl d_RE_placeOf_4 ?_
        refine lv_icmp_ge (tgt := 28) hx hb d_RE_placeOf_7 (by decide) (fun hc => ?_) (fun hc => ?_)
        · replace h := of_t hc h
          refine lv_iconst (v := (-1)) hx hb d_RE_placeOf_28 (by decide) ?_
          exact g_iret hx hb hr hlocks hM (Option.some.inj h) d_RE_placeOf_29
        · replace h := of_f hc h
          refine lv_aload_n hx hb d_RE_placeOf_10 rfl (lv_at hl 0 rfl) ?_
          obtain ⟨g2, h⟩ := of_g h
          refine g_get (C := "JoinedLeaves$Relation") (T := T_RE) (N := 3) (ref := "JoinedLeaves$Relation") (v := .ref (b + (mR μ r0 0))) hx hb hts jF_RE hown hK hM g1 (by decide) rfl 0 (by decide) (hts _ jm_0_29) (fun _ h9 => h9) (by decide) (rv_of (ok_0 g2)) d_RE_placeOf_11 ?_
          refine lv_iload_n hx hb d_RE_placeOf_14 rfl (lv_at hl 2 rfl) ?_
          obtain ⟨g3, h⟩ := of_g h
          refine g_iald hx hb hK hM g2 g3 d_RE_placeOf_15 ?_
          refine lv_iload_n hx hb d_RE_placeOf_16 rfl (lv_at hl 1 rfl) ?_
          refine lv_icmp_ne (tgt := 22) hx hb d_RE_placeOf_17 (by decide) (fun hc => ?_) (fun hc => ?_)
          · replace h := of_f hc h
            obtain ⟨v4, e_v4, h⟩ := of_b h
            refine lv_iinc (v := v4) hx hb d_RE_placeOf_22 hl (k := 2) rfl (by rw [lit1]; exact Option.some.inj e_v4) (by decide) rfl (fun ls hl => ?_)
            have hl : lv_has ls 3 [(2, .int v4), (0, .ref (b + r0)), (1, .int i1)] := hl
            refine lv_goto (tgt := 2) hx hb d_RE_placeOf_25 (by decide) ?_
            exact ih1 _ _ _ _ _ _ _ h hM (lv_sub hl [1, 2, 0] rfl)
          · replace h := of_t hc h
            refine lv_iload_n hx hb d_RE_placeOf_20 rfl (lv_at hl 2 rfl) ?_
            exact g_iret hx hb hr hlocks hM (Option.some.inj h) d_RE_placeOf_21
  exact (key n).1 _ _ _ _ _ _ _ h hM hl
abbrev w_RE_put : List Cond := .code y_RE_put b_RE_put 5 (Option.some Jvm.ClassFile.FieldType.boolean) :: jW
def C_RE_put (n : Nat) (r0 : Nat) (i1 : Int32) (i2 : Int32) (i3 : Int32) (μ : Mem) : Option (Int32 × Mem) :=
  if ok μ r0 0 = true then Option.bind (C_RE_pack n r0 i1 i2 i3 μ) (fun q2 => if q2.1 = (-1) then some (0, q2.2) else if ok q2.2 r0 0 = true then if (mI q2.2 r0 2) = 12 then some (0, q2.2) else Option.bind (C_RE_placeOf n r0 q2.1 q2.2) (fun q4 => if q4.1 = (-1) then if ok q4.2 r0 0 = true then if ok q4.2 (mR q4.2 r0 0) 100 = true then if ib (mI q4.2 r0 2) (mZ q4.2 (mR q4.2 r0 0)) = true then Option.bind (some (sI q4.2 (mR q4.2 r0 0) (Int32.toNatClampNeg (mI q4.2 r0 2)) q2.1)) (fun μ8 => Option.bind (some (sI μ8 r0 2 ((mI μ8 r0 2) + 1))) (fun μ9 => some (1, μ9))) else none else none else none else some (0, q4.2)) else none) else none
set_option maxHeartbeats 4000000 in
set_option maxRecDepth 100000 in
theorem S_RE_put (l : Launch) (D : va_G) (b : Nat) (cs : Nat → ClassId) (r0 : Nat) (i1 : Int32) (i2 : Int32) (i3 : Int32) (μ : Mem) (res : Int32 × Mem) (n : Nat) (h : C_RE_put n r0 i1 i2 i3 μ = some res) : MetI l y_RE_put w_RE_put 2 46 b cs D μ [.ref (b + r0), .int i1, .int i2, .int i3] res := by
  refine Met.ofW (cc := b_RE_put) (maxL := 5) (ret := (Option.some Jvm.ClassFile.FieldType.boolean)) (by decide) rfl ?_
  intro p e s m args below meth c s₁ B hml hv
  obtain ⟨rfl, hK, hM⟩ := Wd.start hv
  have hx := B.exec
  have hb := B.bytes
  have hr := B.returns
  have hts : ∀ w ∈ jW, w.before _ s = true := fun w hw => atoms_spec (ws := w_RE_put) B.pre w (List.mem_cons_of_mem _ hw)
  have hown : s.vm.findClass "JoinedLeaves$Relation" = some m.cls := findClass_of_methodNamed B.named
  have hlocks := B.notSynchronized
  have hl := lv_entry ([.ref (b + r0), .int i1, .int i2, .int i3]) (n := 5) (Nat.le_of_ble_eq_true rfl)
  rw [lg_entry_eq]
  generalize (lg_sl ([.ref (b + r0), .int i1, .int i2, .int i3]) ++ List.replicate (5 - (lg_sl ([.ref (b + r0), .int i1, .int i2, .int i3])).length) Slot.unset).toArray = ls at hl ⊢
  have hl : lv_has ls 5 [(0, .ref (b + r0)), (1, .int i1), (2, .int i2), (3, .int i3)] := hl
  unfold C_RE_put at h
  refine lv_aload_n hx hb d_RE_put_0 rfl (lv_at hl 0 rfl) ?_
  refine lv_iload_n hx hb d_RE_put_1 rfl (lv_at hl 1 rfl) ?_
  refine lv_iload_n hx hb d_RE_put_2 rfl (lv_at hl 2 rfl) ?_
  refine lv_iload_n hx hb d_RE_put_3 rfl (lv_at hl 3 rfl) ?_
  obtain ⟨g1, h⟩ := of_g h
  obtain ⟨q2, hq2, h⟩ := of_b h
  refine g_calli (va_runV (As := [.int i1, .int i2, .int i3]) (rest := []) ⟨hx, hb, hml, hown, hts⟩ (S_RE_pack l D b cs r0 i1 i2 i3 μ q2 n hq2) ⟨callB_of 3 hts (goodIn_g jm_2_36) rfl rfl rfl (hts _ jm_0_2) (hts _ jm_2_34) (by decide +kernel) ⟨Nat.le_of_ble_eq_true rfl, Nat.le_of_ble_eq_true rfl⟩, (hts _ jm_2_35), (hts _ jm_11_21)⟩ (Wd.preV hK hM g1 rfl (by decide)) rfl rfl hl.1 rfl (lv_room (Nat.le_of_ble_eq_true rfl)) d_RE_put_4 ⟨Nat.le_of_ble_eq_true rfl, Nat.le_of_ble_eq_true rfl⟩) hM (fun H locs hM => ?_)
  refine lv_istore hx hb d_RE_put_7 hl (by decide) rfl (fun ls hl => ?_)
  have hl : lv_has ls 5 [(4, .int q2.1), (0, .ref (b + r0)), (1, .int i1), (2, .int i2), (3, .int i3)] := hl
  refine lv_iload hx hb d_RE_put_9 (lv_at hl 0 rfl) ?_
  refine lv_iconst (v := (-1)) hx hb d_RE_put_11 (by decide) ?_
  refine lv_icmp_eq (tgt := 34) hx hb d_RE_put_12 (by decide) (fun hc => ?_) (fun hc => ?_)
  · replace h := of_t hc h
    refine lv_iconst (v := 0) hx hb d_RE_put_34 (by decide) ?_
    exact g_zret hx hb hr narrow_b0 hlocks hM (Option.some.inj h) d_RE_put_35
  · replace h := of_f hc h
    refine lv_aload_n hx hb d_RE_put_15 rfl (lv_at hl 1 rfl) ?_
    obtain ⟨g3, h⟩ := of_g h
    refine g_get (C := "JoinedLeaves$Relation") (T := T_RE) (N := 3) (ref := "JoinedLeaves$Relation") (v := .int (mI q2.2 r0 2)) hx hb hts jF_RE hown hK hM g3 (by decide) rfl 2 (by decide) (hts _ jm_0_31) (fun _ h9 => h9) (by decide) rfl d_RE_put_16 ?_
    refine lv_bipush (v := 12) hx hb d_RE_put_19 (by decide) ?_
    refine lv_icmp_eq (tgt := 34) hx hb d_RE_put_21 (by decide) (fun hc => ?_) (fun hc => ?_)
    · replace h := of_t hc h
      refine lv_iconst (v := 0) hx hb d_RE_put_34 (by decide) ?_
      exact g_zret hx hb hr narrow_b0 hlocks hM (Option.some.inj h) d_RE_put_35
    · replace h := of_f hc h
      refine lv_aload_n hx hb d_RE_put_24 rfl (lv_at hl 1 rfl) ?_
      refine lv_iload hx hb d_RE_put_25 (lv_at hl 0 rfl) ?_
      obtain ⟨q4, hq4, h⟩ := of_b h
      refine g_calli (va_runV (As := [.int q2.1]) (rest := []) ⟨hx, hb, hml, hown, hts⟩ (S_RE_placeOf l D b cs r0 q2.1 q2.2 q4 n hq4) ⟨callB_of 1 hts (goodIn_g jm_2_39) rfl rfl rfl (hts _ jm_0_2) (hts _ jm_2_37) (by decide +kernel) ⟨Nat.le_of_ble_eq_true rfl, Nat.le_of_ble_eq_true rfl⟩, (hts _ jm_2_38), (hts _ jm_11_22)⟩ (Wd.preV hK hM g3 rfl (by decide)) rfl rfl hl.1 rfl (lv_room (Nat.le_of_ble_eq_true rfl)) d_RE_put_27 ⟨Nat.le_of_ble_eq_true rfl, Nat.le_of_ble_eq_true rfl⟩) hM (fun H locs hM => ?_)
      refine lv_iconst (v := (-1)) hx hb d_RE_put_30 (by decide) ?_
      refine lv_icmp_eq (tgt := 36) hx hb d_RE_put_31 (by decide) (fun hc => ?_) (fun hc => ?_)
      · replace h := of_t hc h
        refine lv_aload_n hx hb d_RE_put_36 rfl (lv_at hl 1 rfl) ?_
        obtain ⟨g5, h⟩ := of_g h
        obtain ⟨g6, h⟩ := of_g h
        refine g_get (C := "JoinedLeaves$Relation") (T := T_RE) (N := 3) (ref := "JoinedLeaves$Relation") (v := .ref (b + (mR q4.2 r0 0))) hx hb hts jF_RE hown hK hM g5 (by decide) rfl 0 (by decide) (hts _ jm_0_29) (fun _ h9 => h9) (by decide) (rv_of (ok_0 g6)) d_RE_put_37 ?_
        refine lv_aload_n hx hb d_RE_put_40 rfl (lv_at hl 1 rfl) ?_
        refine g_get (C := "JoinedLeaves$Relation") (T := T_RE) (N := 3) (ref := "JoinedLeaves$Relation") (v := .int (mI q4.2 r0 2)) hx hb hts jF_RE hown hK hM g5 (by decide) rfl 2 (by decide) (hts _ jm_0_31) (fun _ h9 => h9) (by decide) rfl d_RE_put_41 ?_
        refine lv_iload hx hb d_RE_put_44 (lv_at hl 0 rfl) ?_
        obtain ⟨g7, h⟩ := of_g h
        obtain ⟨μ8, e_μ8, h⟩ := of_b h
        obtain rfl := Option.some.inj e_μ8
        refine g_iast (v := q2.1) hx hb hK hM g6 g7 d_RE_put_46 (fun H locs hM => ?_)
        refine lv_aload_n hx hb d_RE_put_47 rfl (lv_at hl 1 rfl) ?_
        refine lv_dup hx hb d_RE_put_48 rfl ?_
        refine g_get (C := "JoinedLeaves$Relation") (T := T_RE) (N := 3) (ref := "JoinedLeaves$Relation") (v := .int (mI (sI q4.2 (mR q4.2 r0 0) (Int32.toNatClampNeg (mI q4.2 r0 2)) q2.1) r0 2)) hx hb hts jF_RE hown hK hM g5 (by decide) rfl 2 (by decide) (hts _ jm_0_31) (fun _ h9 => h9) (by decide) rfl d_RE_put_49 ?_
        refine lv_iconst (v := 1) hx hb d_RE_put_52 (by decide) ?_
        refine lv_iadd hx hb d_RE_put_53 ?_
        obtain ⟨μ9, e_μ9, h⟩ := of_b h
        obtain rfl := Option.some.inj e_μ9
        refine g_puti (v := (mI (sI q4.2 (mR q4.2 r0 0) (Int32.toNatClampNeg (mI q4.2 r0 2)) q2.1) r0 2) + 1) (C := "JoinedLeaves$Relation") (T := T_RE) (N := 3) (ref := "JoinedLeaves$Relation") hx hb hts jF_RE t_RE o_RE n_RE hown hK hM g5 (by decide) rfl 2 (by decide) (hts _ jm_0_31) (fun _ h9 => h9) rfl (ty := .int) (by decide +kernel) rfl rfl (by decide) (Or.inl rfl) d_RE_put_54 (fun H locs hM => ?_)
        refine lv_iconst (v := 1) hx hb d_RE_put_57 (by decide) ?_
        exact g_zret hx hb hr narrow_b1 hlocks hM (Option.some.inj h) d_RE_put_58
      · replace h := of_f hc h
        refine lv_iconst (v := 0) hx hb d_RE_put_34 (by decide) ?_
        exact g_zret hx hb hr narrow_b0 hlocks hM (Option.some.inj h) d_RE_put_35
abbrev w_RE_take : List Cond := .code y_RE_take b_RE_take 5 (Option.some Jvm.ClassFile.FieldType.boolean) :: jW
def C_RE_take (n : Nat) (r0 : Nat) (i1 : Int32) (i2 : Int32) (i3 : Int32) (μ : Mem) : Option (Int32 × Mem) :=
  if ok μ r0 0 = true then Option.bind (C_RE_pack n r0 i1 i2 i3 μ) (fun q2 => if ok q2.2 r0 0 = true then Option.bind (C_RE_placeOf n r0 q2.1 q2.2) (fun q4 => if q4.1 = (-1) then some (0, q4.2) else if ok q4.2 r0 0 = true then Option.bind (some (sI q4.2 r0 2 ((mI q4.2 r0 2) - 1))) (fun μ6 => if ok μ6 (mR μ6 r0 0) 100 = true then if ib (mI μ6 r0 2) (mZ μ6 (mR μ6 r0 0)) = true then if ib q4.1 (mZ μ6 (mR μ6 r0 0)) = true then Option.bind (some (sI μ6 (mR μ6 r0 0) (Int32.toNatClampNeg q4.1) (mI μ6 (mR μ6 r0 0) (Int32.toNatClampNeg (mI μ6 r0 2))))) (fun μ10 => some (1, μ10)) else none else none else none) else none) else none) else none
set_option maxHeartbeats 4000000 in
set_option maxRecDepth 100000 in
theorem S_RE_take (l : Launch) (D : va_G) (b : Nat) (cs : Nat → ClassId) (r0 : Nat) (i1 : Int32) (i2 : Int32) (i3 : Int32) (μ : Mem) (res : Int32 × Mem) (n : Nat) (h : C_RE_take n r0 i1 i2 i3 μ = some res) : MetI l y_RE_take w_RE_take 2 46 b cs D μ [.ref (b + r0), .int i1, .int i2, .int i3] res := by
  refine Met.ofW (cc := b_RE_take) (maxL := 5) (ret := (Option.some Jvm.ClassFile.FieldType.boolean)) (by decide) rfl ?_
  intro p e s m args below meth c s₁ B hml hv
  obtain ⟨rfl, hK, hM⟩ := Wd.start hv
  have hx := B.exec
  have hb := B.bytes
  have hr := B.returns
  have hts : ∀ w ∈ jW, w.before _ s = true := fun w hw => atoms_spec (ws := w_RE_take) B.pre w (List.mem_cons_of_mem _ hw)
  have hown : s.vm.findClass "JoinedLeaves$Relation" = some m.cls := findClass_of_methodNamed B.named
  have hlocks := B.notSynchronized
  have hl := lv_entry ([.ref (b + r0), .int i1, .int i2, .int i3]) (n := 5) (Nat.le_of_ble_eq_true rfl)
  rw [lg_entry_eq]
  generalize (lg_sl ([.ref (b + r0), .int i1, .int i2, .int i3]) ++ List.replicate (5 - (lg_sl ([.ref (b + r0), .int i1, .int i2, .int i3])).length) Slot.unset).toArray = ls at hl ⊢
  have hl : lv_has ls 5 [(0, .ref (b + r0)), (1, .int i1), (2, .int i2), (3, .int i3)] := hl
  unfold C_RE_take at h
  refine lv_aload_n hx hb d_RE_take_0 rfl (lv_at hl 0 rfl) ?_
  refine lv_aload_n hx hb d_RE_take_1 rfl (lv_at hl 0 rfl) ?_
  refine lv_iload_n hx hb d_RE_take_2 rfl (lv_at hl 1 rfl) ?_
  refine lv_iload_n hx hb d_RE_take_3 rfl (lv_at hl 2 rfl) ?_
  refine lv_iload_n hx hb d_RE_take_4 rfl (lv_at hl 3 rfl) ?_
  obtain ⟨g1, h⟩ := of_g h
  obtain ⟨q2, hq2, h⟩ := of_b h
  refine g_calli (va_runV (As := [.int i1, .int i2, .int i3]) (rest := [.ref (b + r0)]) ⟨hx, hb, hml, hown, hts⟩ (S_RE_pack l D b cs r0 i1 i2 i3 μ q2 n hq2) ⟨callB_of 3 hts (goodIn_g jm_2_36) rfl rfl rfl (hts _ jm_0_2) (hts _ jm_2_34) (by decide +kernel) ⟨Nat.le_of_ble_eq_true rfl, Nat.le_of_ble_eq_true rfl⟩, (hts _ jm_2_35), (hts _ jm_11_21)⟩ (Wd.preV hK hM g1 rfl (by decide)) rfl rfl hl.1 rfl (lv_room (Nat.le_of_ble_eq_true rfl)) d_RE_take_5 ⟨Nat.le_of_ble_eq_true rfl, Nat.le_of_ble_eq_true rfl⟩) hM (fun H locs hM => ?_)
  obtain ⟨g3, h⟩ := of_g h
  obtain ⟨q4, hq4, h⟩ := of_b h
  refine g_calli (va_runV (As := [.int q2.1]) (rest := []) ⟨hx, hb, hml, hown, hts⟩ (S_RE_placeOf l D b cs r0 q2.1 q2.2 q4 n hq4) ⟨callB_of 1 hts (goodIn_g jm_2_39) rfl rfl rfl (hts _ jm_0_2) (hts _ jm_2_37) (by decide +kernel) ⟨Nat.le_of_ble_eq_true rfl, Nat.le_of_ble_eq_true rfl⟩, (hts _ jm_2_38), (hts _ jm_11_22)⟩ (Wd.preV hK hM g3 rfl (by decide)) rfl rfl hl.1 rfl (lv_room (Nat.le_of_ble_eq_true rfl)) d_RE_take_8 ⟨Nat.le_of_ble_eq_true rfl, Nat.le_of_ble_eq_true rfl⟩) hM (fun H locs hM => ?_)
  refine lv_istore hx hb d_RE_take_11 hl (by decide) rfl (fun ls hl => ?_)
  have hl : lv_has ls 5 [(4, .int q4.1), (0, .ref (b + r0)), (1, .int i1), (2, .int i2), (3, .int i3)] := hl
  refine lv_iload hx hb d_RE_take_13 (lv_at hl 0 rfl) ?_
  refine lv_iconst (v := (-1)) hx hb d_RE_take_15 (by decide) ?_
  refine lv_icmp_ne (tgt := 21) hx hb d_RE_take_16 (by decide) (fun hc => ?_) (fun hc => ?_)
  · replace h := of_f hc h
    refine lv_aload_n hx hb d_RE_take_21 rfl (lv_at hl 1 rfl) ?_
    refine lv_dup hx hb d_RE_take_22 rfl ?_
    obtain ⟨g5, h⟩ := of_g h
    refine g_get (C := "JoinedLeaves$Relation") (T := T_RE) (N := 3) (ref := "JoinedLeaves$Relation") (v := .int (mI q4.2 r0 2)) hx hb hts jF_RE hown hK hM g5 (by decide) rfl 2 (by decide) (hts _ jm_0_31) (fun _ h9 => h9) (by decide) rfl d_RE_take_23 ?_
    refine lv_iconst (v := 1) hx hb d_RE_take_26 (by decide) ?_
    refine lv_isub hx hb d_RE_take_27 ?_
    obtain ⟨μ6, e_μ6, h⟩ := of_b h
    obtain rfl := Option.some.inj e_μ6
    refine g_puti (v := (mI q4.2 r0 2) - 1) (C := "JoinedLeaves$Relation") (T := T_RE) (N := 3) (ref := "JoinedLeaves$Relation") hx hb hts jF_RE t_RE o_RE n_RE hown hK hM g5 (by decide) rfl 2 (by decide) (hts _ jm_0_31) (fun _ h9 => h9) rfl (ty := .int) (by decide +kernel) rfl rfl (by decide) (Or.inl rfl) d_RE_take_28 (fun H locs hM => ?_)
    refine lv_aload_n hx hb d_RE_take_31 rfl (lv_at hl 1 rfl) ?_
    obtain ⟨g7, h⟩ := of_g h
    refine g_get (C := "JoinedLeaves$Relation") (T := T_RE) (N := 3) (ref := "JoinedLeaves$Relation") (v := .ref (b + (mR (sI q4.2 r0 2 ((mI q4.2 r0 2) - 1)) r0 0))) hx hb hts jF_RE hown hK hM g5 (by decide) rfl 0 (by decide) (hts _ jm_0_29) (fun _ h9 => h9) (by decide) (rv_of (ok_0 g7)) d_RE_take_32 ?_
    refine lv_iload hx hb d_RE_take_35 (lv_at hl 0 rfl) ?_
    refine lv_aload_n hx hb d_RE_take_37 rfl (lv_at hl 1 rfl) ?_
    refine g_get (C := "JoinedLeaves$Relation") (T := T_RE) (N := 3) (ref := "JoinedLeaves$Relation") (v := .ref (b + (mR (sI q4.2 r0 2 ((mI q4.2 r0 2) - 1)) r0 0))) hx hb hts jF_RE hown hK hM g5 (by decide) rfl 0 (by decide) (hts _ jm_0_29) (fun _ h9 => h9) (by decide) (rv_of (ok_0 g7)) d_RE_take_38 ?_
    refine lv_aload_n hx hb d_RE_take_41 rfl (lv_at hl 1 rfl) ?_
    refine g_get (C := "JoinedLeaves$Relation") (T := T_RE) (N := 3) (ref := "JoinedLeaves$Relation") (v := .int (mI (sI q4.2 r0 2 ((mI q4.2 r0 2) - 1)) r0 2)) hx hb hts jF_RE hown hK hM g5 (by decide) rfl 2 (by decide) (hts _ jm_0_31) (fun _ h9 => h9) (by decide) rfl d_RE_take_42 ?_
    obtain ⟨g8, h⟩ := of_g h
    refine g_iald hx hb hK hM g7 g8 d_RE_take_45 ?_
    obtain ⟨g9, h⟩ := of_g h
    obtain ⟨μ10, e_μ10, h⟩ := of_b h
    obtain rfl := Option.some.inj e_μ10
    refine g_iast (v := mI (sI q4.2 r0 2 ((mI q4.2 r0 2) - 1)) (mR (sI q4.2 r0 2 ((mI q4.2 r0 2) - 1)) r0 0) (Int32.toNatClampNeg (mI (sI q4.2 r0 2 ((mI q4.2 r0 2) - 1)) r0 2))) hx hb hK hM g7 g9 d_RE_take_46 (fun H locs hM => ?_)
    refine lv_iconst (v := 1) hx hb d_RE_take_47 (by decide) ?_
    exact g_zret hx hb hr narrow_b1 hlocks hM (Option.some.inj h) d_RE_take_48
  · replace h := of_t hc h
    refine lv_iconst (v := 0) hx hb d_RE_take_19 (by decide) ?_
    exact g_zret hx hb hr narrow_b0 hlocks hM (Option.some.inj h) d_RE_take_20
