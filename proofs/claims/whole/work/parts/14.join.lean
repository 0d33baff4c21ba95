/-! By program (wip/whole/gen.py): for each method its function over memories, and its contract. -/
abbrev w_JI_bitCount : List Cond := .code y_JI_bitCount b_JI_bitCount 1 (Option.some Jvm.ClassFile.FieldType.int) :: jW
def C_JI_bitCount (n : Nat) (i0 : Int32) (μ : Mem) : Option (Int32 × Mem) :=
  Option.bind (some (i0 - ((((Int32.toUInt32 i0) >>> ((Int32.toUInt32 1) &&& Int32.toUInt32 31)).toInt32) &&& 1431655765))) (fun v1 => Option.bind (some ((v1 &&& 858993459) + ((((Int32.toUInt32 v1) >>> ((Int32.toUInt32 2) &&& Int32.toUInt32 31)).toInt32) &&& 858993459))) (fun v2 => Option.bind (some ((v2 + (((Int32.toUInt32 v2) >>> ((Int32.toUInt32 4) &&& Int32.toUInt32 31)).toInt32)) &&& 252645135)) (fun v3 => Option.bind (some (v3 + (((Int32.toUInt32 v3) >>> ((Int32.toUInt32 8) &&& Int32.toUInt32 31)).toInt32))) (fun v4 => Option.bind (some (v4 + (((Int32.toUInt32 v4) >>> ((Int32.toUInt32 16) &&& Int32.toUInt32 31)).toInt32))) (fun v5 => some (v5 &&& 63, μ))))))
set_option maxHeartbeats 4000000 in
set_option maxRecDepth 100000 in
theorem S_JI_bitCount (l : Launch) (D : va_G) (b : Nat) (cs : Nat → ClassId) (i0 : Int32) (μ : Mem) (res : Int32 × Mem) (n : Nat) (h : C_JI_bitCount n i0 μ = some res) : MetI l y_JI_bitCount w_JI_bitCount 0 0 b cs D μ [.int i0] res := by
  refine Met.ofW (cc := b_JI_bitCount) (maxL := 1) (ret := (Option.some Jvm.ClassFile.FieldType.int)) (by decide) rfl ?_
  intro p e s m args below meth c s₁ B hml hv
  obtain ⟨rfl, hK, hM⟩ := Wd.start hv
  have hx := B.exec
  have hb := B.bytes
  have hr := B.returns
  have hts : ∀ w ∈ jW, w.before _ s = true := fun w hw => atoms_spec (ws := w_JI_bitCount) B.pre w (List.mem_cons_of_mem _ hw)
  have hown : s.vm.findClass "java/lang/Integer" = some m.cls := findClass_of_methodNamed B.named
  have hlocks := B.notSynchronized
  have hl := lv_entry ([.int i0]) (n := 1) (Nat.le_of_ble_eq_true rfl)
  rw [lg_entry_eq]
  generalize (lg_sl ([.int i0]) ++ List.replicate (1 - (lg_sl ([.int i0])).length) Slot.unset).toArray = ls at hl ⊢
  have hl : lv_has ls 1 [(0, .int i0)] := hl
  unfold C_JI_bitCount at h
  refine lv_iload_n hx hb d_JI_bitCount_0 rfl (lv_at hl 0 rfl) ?_
  refine lv_iload_n hx hb d_JI_bitCount_1 rfl (lv_at hl 0 rfl) ?_
  refine lv_iconst (v := 1) hx hb d_JI_bitCount_2 (by decide) ?_
  refine lv_iushr hx hb d_JI_bitCount_3 rfl ?_
  refine lv_ldcw hx hb hown (hts _ jm_6_30) d_JI_bitCount_4 ?_
  refine lv_iand hx hb d_JI_bitCount_7 ?_
  refine lv_isub hx hb d_JI_bitCount_8 ?_
  obtain ⟨v1, e_v1, h⟩ := of_b h
  refine top_i (Option.some.inj e_v1) ?_
  refine lv_istore_n hx hb d_JI_bitCount_9 rfl hl (by decide) rfl (fun ls hl => ?_)
  have hl : lv_has ls 1 [(0, .int v1)] := hl
  refine lv_iload_n hx hb d_JI_bitCount_10 rfl (lv_at hl 0 rfl) ?_
  refine lv_ldcw hx hb hown (hts _ jm_6_31) d_JI_bitCount_11 ?_
  refine lv_iand hx hb d_JI_bitCount_14 ?_
  refine lv_iload_n hx hb d_JI_bitCount_15 rfl (lv_at hl 0 rfl) ?_
  refine lv_iconst (v := 2) hx hb d_JI_bitCount_16 (by decide) ?_
  refine lv_iushr hx hb d_JI_bitCount_17 rfl ?_
  refine lv_ldcw hx hb hown (hts _ jm_6_31) d_JI_bitCount_18 ?_
  refine lv_iand hx hb d_JI_bitCount_21 ?_
  refine lv_iadd hx hb d_JI_bitCount_22 ?_
  obtain ⟨v2, e_v2, h⟩ := of_b h
  refine top_i (Option.some.inj e_v2) ?_
  refine lv_istore_n hx hb d_JI_bitCount_23 rfl hl (by decide) rfl (fun ls hl => ?_)
  have hl : lv_has ls 1 [(0, .int v2)] := hl
  refine lv_iload_n hx hb d_JI_bitCount_24 rfl (lv_at hl 0 rfl) ?_
  refine lv_iload_n hx hb d_JI_bitCount_25 rfl (lv_at hl 0 rfl) ?_
  refine lv_iconst (v := 4) hx hb d_JI_bitCount_26 (by decide) ?_
  refine lv_iushr hx hb d_JI_bitCount_27 rfl ?_
  refine lv_iadd hx hb d_JI_bitCount_28 ?_
  refine lv_ldcw hx hb hown (hts _ jm_6_32) d_JI_bitCount_29 ?_
  refine lv_iand hx hb d_JI_bitCount_32 ?_
  obtain ⟨v3, e_v3, h⟩ := of_b h
  refine top_i (Option.some.inj e_v3) ?_
  refine lv_istore_n hx hb d_JI_bitCount_33 rfl hl (by decide) rfl (fun ls hl => ?_)
  have hl : lv_has ls 1 [(0, .int v3)] := hl
  refine lv_iload_n hx hb d_JI_bitCount_34 rfl (lv_at hl 0 rfl) ?_
  refine lv_iload_n hx hb d_JI_bitCount_35 rfl (lv_at hl 0 rfl) ?_
  refine lv_bipush (v := 8) hx hb d_JI_bitCount_36 (by decide) ?_
  refine lv_iushr hx hb d_JI_bitCount_38 rfl ?_
  refine lv_iadd hx hb d_JI_bitCount_39 ?_
  obtain ⟨v4, e_v4, h⟩ := of_b h
  refine top_i (Option.some.inj e_v4) ?_
  refine lv_istore_n hx hb d_JI_bitCount_40 rfl hl (by decide) rfl (fun ls hl => ?_)
  have hl : lv_has ls 1 [(0, .int v4)] := hl
  refine lv_iload_n hx hb d_JI_bitCount_41 rfl (lv_at hl 0 rfl) ?_
  refine lv_iload_n hx hb d_JI_bitCount_42 rfl (lv_at hl 0 rfl) ?_
  refine lv_bipush (v := 16) hx hb d_JI_bitCount_43 (by decide) ?_
  refine lv_iushr hx hb d_JI_bitCount_45 rfl ?_
  refine lv_iadd hx hb d_JI_bitCount_46 ?_
  obtain ⟨v5, e_v5, h⟩ := of_b h
  refine top_i (Option.some.inj e_v5) ?_
  refine lv_istore_n hx hb d_JI_bitCount_47 rfl hl (by decide) rfl (fun ls hl => ?_)
  have hl : lv_has ls 1 [(0, .int v5)] := hl
  refine lv_iload_n hx hb d_JI_bitCount_48 rfl (lv_at hl 0 rfl) ?_
  refine lv_bipush (v := 63) hx hb d_JI_bitCount_49 (by decide) ?_
  refine lv_iand hx hb d_JI_bitCount_51 ?_
  exact g_iret hx hb hr hlocks hM (Option.some.inj h) d_JI_bitCount_52
abbrev w_JO_compareRows : List Cond := .code y_JO_compareRows b_JO_compareRows 5 (Option.none : Option Jvm.ClassFile.FieldType) :: jW
def B_JO_compareRows_0 (n : Nat) (k : Nat → Nat → Int32 → Int32 → Nat → Int32 → Mem → Option (Mem)) (r0 : Nat) (i1 : Int32) (i2 : Int32) (r3 : Nat) (i4 : Int32) (μ : Mem) : Option (Mem) :=
  k 1 r0 0 0 0 0 μ
def B_JO_compareRows_1 (n : Nat) (k : Nat → Nat → Int32 → Int32 → Nat → Int32 → Mem → Option (Mem)) (r0 : Nat) (i1 : Int32) (i2 : Int32) (r3 : Nat) (i4 : Int32) (μ : Mem) : Option (Mem) :=
  if ok μ r0 4 = true then if ok μ (mR μ r0 0) 2 = true then if (mI μ (mR μ r0 0) 1) ≤ i1 then k 2 r0 0 0 0 0 μ else if ok μ (mR μ r0 3) 104 = true then if ib 0 (mZ μ (mR μ r0 3)) = true then if ok μ (mR μ (mR μ r0 3) (Int32.toNatClampNeg 0)) 100 = true then if ok μ (mR μ (mR μ r0 0) 0) 103 = true then if ib i1 (mZ μ (mR μ (mR μ r0 0) 0)) = true then if ok μ (mR μ (mR μ (mR μ r0 0) 0) (Int32.toNatClampNeg i1)) 1 = true then Option.bind (C_AT_rowsAgreeingWithThemselves n (mR μ (mR μ (mR μ r0 0) 0) (Int32.toNatClampNeg i1)) μ) (fun q9 => if ok q9.2 (mR μ (mR μ r0 3) (Int32.toNatClampNeg 0)) 100 = true then if ib i1 (mZ q9.2 (mR μ (mR μ r0 3) (Int32.toNatClampNeg 0))) = true then Option.bind (some (sI q9.2 (mR μ (mR μ r0 3) (Int32.toNatClampNeg 0)) (Int32.toNatClampNeg i1) q9.1)) (fun μ12 => Option.bind (some (i1 + 1)) (fun v13 => k 1 r0 v13 0 0 0 μ12)) else none else none) else none else none else none else none else none else none else none else none
def B_JO_compareRows_2 (n : Nat) (k : Nat → Nat → Int32 → Int32 → Nat → Int32 → Mem → Option (Mem)) (r0 : Nat) (i1 : Int32) (i2 : Int32) (r3 : Nat) (i4 : Int32) (μ : Mem) : Option (Mem) :=
  if ok μ r0 4 = true then if ok μ (mR μ r0 1) 3 = true then if (mI μ (mR μ r0 1) 4) ≤ i1 then some μ else if ok μ (mR μ (mR μ r0 1) 3) 100 = true then if ib i1 (mZ μ (mR μ (mR μ r0 1) 3)) = true then Option.bind (some (mI μ (mR μ (mR μ r0 1) 3) (Int32.toNatClampNeg i1))) (fun v18 => if ok μ (mR μ r0 0) 2 = true then if ok μ (mR μ (mR μ r0 0) 0) 103 = true then if ok μ (mR μ (mR μ r0 1) 1) 100 = true then if ib v18 (mZ μ (mR μ (mR μ r0 1) 1)) = true then if ib (mI μ (mR μ (mR μ r0 1) 1) (Int32.toNatClampNeg v18)) (mZ μ (mR μ (mR μ r0 0) 0)) = true then if ok μ (mR μ (mR μ (mR μ r0 0) 0) (Int32.toNatClampNeg (mI μ (mR μ (mR μ r0 1) 1) (Int32.toNatClampNeg v18)))) 1 = true then k 3 r0 i1 v18 (mR μ (mR μ (mR μ r0 0) 0) (Int32.toNatClampNeg (mI μ (mR μ (mR μ r0 1) 1) (Int32.toNatClampNeg v18)))) 0 μ else none else none else none else none else none else none) else none else none else none else none
def B_JO_compareRows_3 (n : Nat) (k : Nat → Nat → Int32 → Int32 → Nat → Int32 → Mem → Option (Mem)) (r0 : Nat) (i1 : Int32) (i2 : Int32) (r3 : Nat) (i4 : Int32) (μ : Mem) : Option (Mem) :=
  if ok μ r3 1 = true then if ok μ (mR μ r3 2) 0 = true then if (mI μ (mR μ r3 2) 2) ≤ i4 then Option.bind (some (i1 + 1)) (fun v27 => k 2 r0 v27 0 0 0 μ) else if ok μ r0 4 = true then if ok μ (mR μ r0 2) 104 = true then if ib i2 (mZ μ (mR μ r0 2)) = true then if ok μ (mR μ (mR μ r0 2) (Int32.toNatClampNeg i2)) 100 = true then if ok μ (mR μ r0 0) 2 = true then if ok μ (mR μ (mR μ r0 0) 0) 103 = true then if ib i2 (mZ μ (mR μ (mR μ r0 0) 0)) = true then if ok μ (mR μ (mR μ (mR μ r0 0) 0) (Int32.toNatClampNeg i2)) 1 = true then Option.bind (C_AT_rowsAgreeingWith n (mR μ (mR μ (mR μ r0 0) 0) (Int32.toNatClampNeg i2)) r3 i4 μ) (fun q36 => if ok q36.2 (mR μ (mR μ r0 2) (Int32.toNatClampNeg i2)) 100 = true then if ib i4 (mZ q36.2 (mR μ (mR μ r0 2) (Int32.toNatClampNeg i2))) = true then Option.bind (some (sI q36.2 (mR μ (mR μ r0 2) (Int32.toNatClampNeg i2)) (Int32.toNatClampNeg i4) q36.1)) (fun μ39 => Option.bind (some (i4 + 1)) (fun v40 => k 3 r0 i1 i2 r3 v40 μ39)) else none else none) else none else none else none else none else none else none else none else none else none else none
def F_JO_compareRows : Nat → Nat → Nat → Int32 → Int32 → Nat → Int32 → Mem → Option (Mem)
  | 0 => fun _ _ _ _ _ _ _ => none
  | n + 1 => fun id r0 i1 i2 r3 i4 μ => match id with
    | 0 => B_JO_compareRows_0 n (F_JO_compareRows n) r0 i1 i2 r3 i4 μ
    | 1 => B_JO_compareRows_1 n (F_JO_compareRows n) r0 i1 i2 r3 i4 μ
    | 2 => B_JO_compareRows_2 n (F_JO_compareRows n) r0 i1 i2 r3 i4 μ
    | 3 => B_JO_compareRows_3 n (F_JO_compareRows n) r0 i1 i2 r3 i4 μ
    | _ => none
def C_JO_compareRows (n : Nat) (r0 : Nat) (μ : Mem) : Option (Mem) := F_JO_compareRows n 0 r0 0 0 0 0 μ
set_option maxHeartbeats 4000000 in
set_option maxRecDepth 100000 in
theorem S_JO_compareRows (l : Launch) (D : va_G) (b : Nat) (cs : Nat → ClassId) (u_r0 : Nat) (ν : Mem) (res : Mem) (n : Nat) (h : C_JO_compareRows n u_r0 ν = some res) : MetV l y_JO_compareRows w_JO_compareRows 3 72 b cs D ν [.ref (b + u_r0)] res := by
  refine Met.ofW (cc := b_JO_compareRows) (maxL := 5) (ret := (Option.none : Option Jvm.ClassFile.FieldType)) (by decide) rfl ?_
  intro p e s m args below meth c s₁ B hml hv
  obtain ⟨rfl, hK, hM⟩ := Wd.start hv
  have hx := B.exec
  have hb := B.bytes
  have hr := B.returns
  have hts : ∀ w ∈ jW, w.before _ s = true := fun w hw => atoms_spec (ws := w_JO_compareRows) B.pre w (List.mem_cons_of_mem _ hw)
  have hown : s.vm.findClass "JoinedLeaves$Join" = some m.cls := findClass_of_methodNamed B.named
  have hlocks := B.notSynchronized
  have hl := lv_entry ([.ref (b + u_r0)]) (n := 5) (Nat.le_of_ble_eq_true rfl)
  rw [lg_entry_eq]
  generalize (lg_sl ([.ref (b + u_r0)]) ++ List.replicate (5 - (lg_sl ([.ref (b + u_r0)])).length) Slot.unset).toArray = ls at hl ⊢
  have hl : lv_has ls 5 [(0, .ref (b + u_r0))] := hl
  have key : ∀ N : Nat, (∀ (r0 : Nat) (i1 : Int32) (i2 : Int32) (r3 : Nat) (i4 : Int32) (μ : Mem) (H : Heap) (locs : List Loc) (ls : Array Slot), F_JO_compareRows N 0 r0 i1 i2 r3 i4 μ = some res → Wd (Aw b (mN ν)) b cs D s.heap μ H locs → lv_has ls 5 [(0, .ref (b + r0))] → W p l e (headSpec w_JO_compareRows { frames := 3, cells := 0, slots := 0, locals := 72 }).room s m ([.ref (b + u_r0)]).toArray below meth c H locs 0 0 (MQ below (va_Qv (fun μ' => μ' = res ∧ mN μ' ≤ mN ν) (Bw b cs D) (Aw b (mN ν))) ([.ref (b + u_r0)]).toArray s 0 0 (Aw b (mN ν))) (F0 m 0 ls [])) ∧
      (∀ (r0 : Nat) (i1 : Int32) (i2 : Int32) (r3 : Nat) (i4 : Int32) (μ : Mem) (H : Heap) (locs : List Loc) (ls : Array Slot), F_JO_compareRows N 1 r0 i1 i2 r3 i4 μ = some res → Wd (Aw b (mN ν)) b cs D s.heap μ H locs → lv_has ls 5 [(0, .ref (b + r0)), (1, .int i1)] → W p l e (headSpec w_JO_compareRows { frames := 3, cells := 0, slots := 0, locals := 72 }).room s m ([.ref (b + u_r0)]).toArray below meth c H locs 0 0 (MQ below (va_Qv (fun μ' => μ' = res ∧ mN μ' ≤ mN ν) (Bw b cs D) (Aw b (mN ν))) ([.ref (b + u_r0)]).toArray s 0 0 (Aw b (mN ν))) (F0 m 2 ls [])) ∧
      (∀ (r0 : Nat) (i1 : Int32) (i2 : Int32) (r3 : Nat) (i4 : Int32) (μ : Mem) (H : Heap) (locs : List Loc) (ls : Array Slot), F_JO_compareRows N 2 r0 i1 i2 r3 i4 μ = some res → Wd (Aw b (mN ν)) b cs D s.heap μ H locs → lv_has ls 5 [(0, .ref (b + r0)), (1, .int i1)] → W p l e (headSpec w_JO_compareRows { frames := 3, cells := 0, slots := 0, locals := 72 }).room s m ([.ref (b + u_r0)]).toArray below meth c H locs 0 0 (MQ below (va_Qv (fun μ' => μ' = res ∧ mN μ' ≤ mN ν) (Bw b cs D) (Aw b (mN ν))) ([.ref (b + u_r0)]).toArray s 0 0 (Aw b (mN ν))) (F0 m 41 ls [])) ∧
      (∀ (r0 : Nat) (i1 : Int32) (i2 : Int32) (r3 : Nat) (i4 : Int32) (μ : Mem) (H : Heap) (locs : List Loc) (ls : Array Slot), F_JO_compareRows N 3 r0 i1 i2 r3 i4 μ = some res → Wd (Aw b (mN ν)) b cs D s.heap μ H locs → lv_has ls 5 [(0, .ref (b + r0)), (1, .int i1), (2, .int i2), (3, .ref (b + r3)), (4, .int i4)] → W p l e (headSpec w_JO_compareRows { frames := 3, cells := 0, slots := 0, locals := 72 }).room s m ([.ref (b + u_r0)]).toArray below meth c H locs 0 0 (MQ below (va_Qv (fun μ' => μ' = res ∧ mN μ' ≤ mN ν) (Bw b cs D) (Aw b (mN ν))) ([.ref (b + u_r0)]).toArray s 0 0 (Aw b (mN ν))) (F0 m 83 ls [])) := by
    intro N
    induction N with
    | zero => exact ⟨fun _ _ _ _ _ _ _ _ _ h => (nomatch h), fun _ _ _ _ _ _ _ _ _ h => (nomatch h), fun _ _ _ _ _ _ _ _ _ h => (nomatch h), fun _ _ _ _ _ _ _ _ _ h => (nomatch h)⟩
    | succ n ih =>
      obtain ⟨ih0, ih1, ih2, ih3⟩ := ih
      refine ⟨?_, ?_, ?_, ?_⟩
      · intro r0 i1 i2 r3 i4 μ H locs ls h hM hl
        have h : B_JO_compareRows_0 n (F_JO_compareRows n) r0 i1 i2 r3 i4 μ = some res := h
        unfold B_JO_compareRows_0 at h
        refine lv_iconst (v := 0) hx hb d_JO_compareRows_0 (by decide) ?_
        refine lv_istore_n hx hb d_JO_compareRows_1 rfl hl (by decide) rfl (fun ls hl => ?_)
        have hl : lv_has ls 5 [(1, .int 0), (0, .ref (b + r0))] := hl
        exact ih1 _ _ _ _ _ _ _ _ _ h hM (lv_sub hl [1, 0] rfl)
      · intro r0 i1 i2 r3 i4 μ H locs ls h hM hl
        have h : B_JO_compareRows_1 n (F_JO_compareRows n) r0 i1 i2 r3 i4 μ = some res := h
        unfold B_JO_compareRows_1 at h
        refine lv_iload_n hx hb d_JO_compareRows_2 rfl (lv_at hl 1 rfl) ?_
        refine lv_aload_n hx hb d_JO_compareRows_3 rfl (lv_at hl 0 rfl) ?_
        obtain ⟨g1, h⟩ := of_g h
        obtain ⟨g2, h⟩ := of_g h
        refine g_get (C := "JoinedLeaves$Join") (T := T_JO) (N := 7) (ref := "JoinedLeaves$Join") (v := .ref (b + (mR μ r0 0))) hx hb hts jF_JO hown hK hM g1 (by decide) rfl 0 (by decide) (hts _ jm_1_42) (fun _ h9 => h9) (by decide) (rv_of (ok_0 g2)) d_JO_compareRows_4 ?_
        refine g_getN (C := "JoinedLeaves$Question") (T := T_QU) (N := 5) (ref := "JoinedLeaves$Question") (v := .int (mI μ (mR μ r0 0) 1)) hx hb hts jF_QU hown hK hM g2 (by decide) rfl 1 (by decide) (hK.nest _ jn_14 rfl) (fun _ h9 => h9) (by decide) rfl d_JO_compareRows_7 ?_
        refine lv_icmp_ge (tgt := 39) hx hb d_JO_compareRows_10 (by decide) (fun hc => ?_) (fun hc => ?_)
        · replace h := of_t hc h
          refine lv_iconst (v := 0) hx hb d_JO_compareRows_39 (by decide) ?_
          refine lv_istore_n hx hb d_JO_compareRows_40 rfl hl (by decide) rfl (fun ls hl => ?_)
          have hl : lv_has ls 5 [(1, .int 0), (0, .ref (b + r0))] := hl
          exact ih2 _ _ _ _ _ _ _ _ _ h hM (lv_sub hl [1, 0] rfl)
        · replace h := of_f hc h
          refine lv_aload_n hx hb d_JO_compareRows_13 rfl (lv_at hl 0 rfl) ?_
          obtain ⟨g3, h⟩ := of_g h
          refine g_get (C := "JoinedLeaves$Join") (T := T_JO) (N := 7) (ref := "JoinedLeaves$Join") (v := .ref (b + (mR μ r0 3))) hx hb hts jF_JO hown hK hM g1 (by decide) rfl 3 (by decide) (hts _ jm_1_45) (fun _ h9 => h9) (by decide) (rv_of (ok_0 g3)) d_JO_compareRows_14 ?_
          refine lv_iconst (v := 0) hx hb d_JO_compareRows_17 (by decide) ?_
          obtain ⟨g4, h⟩ := of_g h
          obtain ⟨g5, h⟩ := of_g h
          refine g_aald (ty := (.array .int)) hx hb hK hM 2 rfl rfl g3 g4 (ok_0 g5) d_JO_compareRows_18 ?_
          refine lv_iload_n hx hb d_JO_compareRows_19 rfl (lv_at hl 1 rfl) ?_
          refine lv_aload_n hx hb d_JO_compareRows_20 rfl (lv_at hl 0 rfl) ?_
          refine g_get (C := "JoinedLeaves$Join") (T := T_JO) (N := 7) (ref := "JoinedLeaves$Join") (v := .ref (b + (mR μ r0 0))) hx hb hts jF_JO hown hK hM g1 (by decide) rfl 0 (by decide) (hts _ jm_1_42) (fun _ h9 => h9) (by decide) (rv_of (ok_0 g2)) d_JO_compareRows_21 ?_
          obtain ⟨g6, h⟩ := of_g h
          refine g_getN (C := "JoinedLeaves$Question") (T := T_QU) (N := 5) (ref := "JoinedLeaves$Question") (v := .ref (b + (mR μ (mR μ r0 0) 0))) hx hb hts jF_QU hown hK hM g2 (by decide) rfl 0 (by decide) (hK.nest _ jn_11 rfl) (fun _ h9 => h9) (by decide) (rv_of (ok_0 g6)) d_JO_compareRows_24 ?_
          refine lv_iload_n hx hb d_JO_compareRows_27 rfl (lv_at hl 1 rfl) ?_
          obtain ⟨g7, h⟩ := of_g h
          obtain ⟨g8, h⟩ := of_g h
          refine g_aald (ty := (.object "JoinedLeaves$Atom")) hx hb hK hM 1 rfl rfl g6 g7 (ok_0 g8) d_JO_compareRows_28 ?_
          obtain ⟨q9, hq9, h⟩ := of_b h
          refine g_calli (va_runVN (As := []) (rest := [.int i1, .ref (b + (mR μ (mR μ r0 3) (Int32.toNatClampNeg 0)))]) ⟨hx, hb, hml, hown, hts⟩ (S_AT_rowsAgreeingWithThemselves l D b cs (mR μ (mR μ (mR μ r0 0) 0) (Int32.toNatClampNeg i1)) μ q9 n hq9) ⟨va_cnB 0 hts (goodIn_g jm_5_22) rfl rfl rfl (hK.2.1 _ jn_49) (hts _ jm_0_4) (by decide +kernel) ⟨Nat.le_of_ble_eq_true rfl, Nat.le_of_ble_eq_true rfl⟩, (hts _ jm_5_21), (hts _ jm_11_38)⟩ (Wd.preV hK hM g8 rfl (by decide)) rfl rfl hl.1 rfl (lv_room (Nat.le_of_ble_eq_true rfl)) d_JO_compareRows_29 ⟨Nat.le_of_ble_eq_true rfl, Nat.le_of_ble_eq_true rfl⟩) hM (fun H locs hM => ?_)
          obtain ⟨g10, h⟩ := of_g h
          obtain ⟨g11, h⟩ := of_g h
          obtain ⟨μ12, e_μ12, h⟩ := of_b h
          obtain rfl := Option.some.inj e_μ12
          refine g_iast (v := q9.1) hx hb hK hM g10 g11 d_JO_compareRows_32 (fun H locs hM => ?_)
          obtain ⟨v13, e_v13, h⟩ := of_b h
          refine lv_iinc (v := v13) hx hb d_JO_compareRows_33 hl (k := 1) rfl (by rw [lit1]; exact Option.some.inj e_v13) (by decide) rfl (fun ls hl => ?_)
          have hl : lv_has ls 5 [(1, .int v13), (0, .ref (b + r0))] := hl
          refine lv_goto (tgt := 2) hx hb d_JO_compareRows_36 (by decide) ?_
          exact ih1 _ _ _ _ _ _ _ _ _ h hM (lv_sub hl [1, 0] rfl)
      · intro r0 i1 i2 r3 i4 μ H locs ls h hM hl
        have h : B_JO_compareRows_2 n (F_JO_compareRows n) r0 i1 i2 r3 i4 μ = some res := h
        unfold B_JO_compareRows_2 at h
        refine lv_iload_n hx hb d_JO_compareRows_41 rfl (lv_at hl 1 rfl) ?_
        refine lv_aload_n hx hb d_JO_compareRows_42 rfl (lv_at hl 0 rfl) ?_
        obtain ⟨g14, h⟩ := of_g h
        obtain ⟨g15, h⟩ := of_g h
        refine g_get (C := "JoinedLeaves$Join") (T := T_JO) (N := 7) (ref := "JoinedLeaves$Join") (v := .ref (b + (mR μ r0 1))) hx hb hts jF_JO hown hK hM g14 (by decide) rfl 1 (by decide) (hts _ jm_1_43) (fun _ h9 => h9) (by decide) (rv_of (ok_0 g15)) d_JO_compareRows_43 ?_
        refine g_getN (C := "JoinedLeaves$Hanging") (T := T_HA) (N := 6) (ref := "JoinedLeaves$Hanging") (v := .int (mI μ (mR μ r0 1) 4)) hx hb hts jF_HA hown hK hM g15 (by decide) rfl 4 (by decide) (hK.nest _ jn_24 rfl) (fun _ h9 => h9) (by decide) rfl d_JO_compareRows_46 ?_
        refine lv_icmp_ge (tgt := 131) hx hb d_JO_compareRows_49 (by decide) (fun hc => ?_) (fun hc => ?_)
        · replace h := of_t hc h
          exact g_vret hx hb hr hlocks hM (Option.some.inj h) d_JO_compareRows_131
        · replace h := of_f hc h
          refine lv_aload_n hx hb d_JO_compareRows_52 rfl (lv_at hl 0 rfl) ?_
          refine g_get (C := "JoinedLeaves$Join") (T := T_JO) (N := 7) (ref := "JoinedLeaves$Join") (v := .ref (b + (mR μ r0 1))) hx hb hts jF_JO hown hK hM g14 (by decide) rfl 1 (by decide) (hts _ jm_1_43) (fun _ h9 => h9) (by decide) (rv_of (ok_0 g15)) d_JO_compareRows_53 ?_
          obtain ⟨g16, h⟩ := of_g h
          refine g_getN (C := "JoinedLeaves$Hanging") (T := T_HA) (N := 6) (ref := "JoinedLeaves$Hanging") (v := .ref (b + (mR μ (mR μ r0 1) 3))) hx hb hts jF_HA hown hK hM g15 (by decide) rfl 3 (by decide) (hK.nest _ jn_23 rfl) (fun _ h9 => h9) (by decide) (rv_of (ok_0 g16)) d_JO_compareRows_56 ?_
          refine lv_iload_n hx hb d_JO_compareRows_59 rfl (lv_at hl 1 rfl) ?_
          obtain ⟨g17, h⟩ := of_g h
          refine g_iald hx hb hK hM g16 g17 d_JO_compareRows_60 ?_
          obtain ⟨v18, e_v18, h⟩ := of_b h
          refine top_i (Option.some.inj e_v18) ?_
          refine lv_istore_n hx hb d_JO_compareRows_61 rfl hl (by decide) rfl (fun ls hl => ?_)
          have hl : lv_has ls 5 [(2, .int v18), (0, .ref (b + r0)), (1, .int i1)] := hl
          refine lv_aload_n hx hb d_JO_compareRows_62 rfl (lv_at hl 1 rfl) ?_
          obtain ⟨g19, h⟩ := of_g h
          refine g_get (C := "JoinedLeaves$Join") (T := T_JO) (N := 7) (ref := "JoinedLeaves$Join") (v := .ref (b + (mR μ r0 0))) hx hb hts jF_JO hown hK hM g14 (by decide) rfl 0 (by decide) (hts _ jm_1_42) (fun _ h9 => h9) (by decide) (rv_of (ok_0 g19)) d_JO_compareRows_63 ?_
          obtain ⟨g20, h⟩ := of_g h
          refine g_getN (C := "JoinedLeaves$Question") (T := T_QU) (N := 5) (ref := "JoinedLeaves$Question") (v := .ref (b + (mR μ (mR μ r0 0) 0))) hx hb hts jF_QU hown hK hM g19 (by decide) rfl 0 (by decide) (hK.nest _ jn_11 rfl) (fun _ h9 => h9) (by decide) (rv_of (ok_0 g20)) d_JO_compareRows_66 ?_
          refine lv_aload_n hx hb d_JO_compareRows_69 rfl (lv_at hl 1 rfl) ?_
          refine g_get (C := "JoinedLeaves$Join") (T := T_JO) (N := 7) (ref := "JoinedLeaves$Join") (v := .ref (b + (mR μ r0 1))) hx hb hts jF_JO hown hK hM g14 (by decide) rfl 1 (by decide) (hts _ jm_1_43) (fun _ h9 => h9) (by decide) (rv_of (ok_0 g15)) d_JO_compareRows_70 ?_
          obtain ⟨g21, h⟩ := of_g h
          refine g_getN (C := "JoinedLeaves$Hanging") (T := T_HA) (N := 6) (ref := "JoinedLeaves$Hanging") (v := .ref (b + (mR μ (mR μ r0 1) 1))) hx hb hts jF_HA hown hK hM g15 (by decide) rfl 1 (by decide) (hK.nest _ jn_20 rfl) (fun _ h9 => h9) (by decide) (rv_of (ok_0 g21)) d_JO_compareRows_73 ?_
          refine lv_iload_n hx hb d_JO_compareRows_76 rfl (lv_at hl 0 rfl) ?_
          obtain ⟨g22, h⟩ := of_g h
          refine g_iald hx hb hK hM g21 g22 d_JO_compareRows_77 ?_
          obtain ⟨g23, h⟩ := of_g h
          obtain ⟨g24, h⟩ := of_g h
          refine g_aald (ty := (.object "JoinedLeaves$Atom")) hx hb hK hM 1 rfl rfl g20 g23 (ok_0 g24) d_JO_compareRows_78 ?_
          refine lv_astore_n hx hb d_JO_compareRows_79 rfl hl (by decide) rfl (fun ls hl => ?_)
          have hl : lv_has ls 5 [(3, .ref (b + (mR μ (mR μ (mR μ r0 0) 0) (Int32.toNatClampNeg (mI μ (mR μ (mR μ r0 1) 1) (Int32.toNatClampNeg v18)))))), (2, .int v18), (0, .ref (b + r0)), (1, .int i1)] := hl
          refine lv_iconst (v := 0) hx hb d_JO_compareRows_80 (by decide) ?_
          refine lv_istore hx hb d_JO_compareRows_81 hl (by decide) rfl (fun ls hl => ?_)
          have hl : lv_has ls 5 [(4, .int 0), (3, .ref (b + (mR μ (mR μ (mR μ r0 0) 0) (Int32.toNatClampNeg (mI μ (mR μ (mR μ r0 1) 1) (Int32.toNatClampNeg v18)))))), (2, .int v18), (0, .ref (b + r0)), (1, .int i1)] := hl
          exact ih3 _ _ _ _ _ _ _ _ _ h hM (lv_sub hl [3, 4, 2, 1, 0] rfl)
      · intro r0 i1 i2 r3 i4 μ H locs ls h hM hl
        have h : B_JO_compareRows_3 n (F_JO_compareRows n) r0 i1 i2 r3 i4 μ = some res := h
        unfold B_JO_compareRows_3 at h
        refine lv_iload hx hb d_JO_compareRows_83 (lv_at hl 4 rfl) ?_
        refine lv_aload_n hx hb d_JO_compareRows_85 rfl (lv_at hl 3 rfl) ?_
        obtain ⟨g25, h⟩ := of_g h
        obtain ⟨g26, h⟩ := of_g h
        refine g_getN (C := "JoinedLeaves$Atom") (T := T_AT) (N := 3) (ref := "JoinedLeaves$Atom") (v := .ref (b + (mR μ r3 2))) hx hb hts jF_AT hown hK hM g25 (by decide) rfl 2 (by decide) (hK.nest _ jn_10 rfl) (fun _ h9 => h9) (by decide) (rv_of (ok_0 g26)) d_JO_compareRows_86 ?_
        refine g_getN (C := "JoinedLeaves$Relation") (T := T_RE) (N := 3) (ref := "JoinedLeaves$Relation") (v := .int (mI μ (mR μ r3 2) 2)) hx hb hts jF_RE hown hK hM g26 (by decide) rfl 2 (by decide) (hK.nest _ jn_5 rfl) (fun _ h9 => h9) (by decide) rfl d_JO_compareRows_89 ?_
        refine lv_icmp_ge (tgt := 125) hx hb d_JO_compareRows_92 (by decide) (fun hc => ?_) (fun hc => ?_)
        · replace h := of_t hc h
          obtain ⟨v27, e_v27, h⟩ := of_b h
          refine lv_iinc (v := v27) hx hb d_JO_compareRows_125 hl (k := 1) rfl (by rw [lit1]; exact Option.some.inj e_v27) (by decide) rfl (fun ls hl => ?_)
          have hl : lv_has ls 5 [(1, .int v27), (0, .ref (b + r0)), (2, .int i2), (3, .ref (b + r3)), (4, .int i4)] := hl
          refine lv_goto (tgt := 41) hx hb d_JO_compareRows_128 (by decide) ?_
          exact ih2 _ _ _ _ _ _ _ _ _ h hM (lv_sub hl [1, 0] rfl)
        · replace h := of_f hc h
          refine lv_aload_n hx hb d_JO_compareRows_95 rfl (lv_at hl 0 rfl) ?_
          obtain ⟨g28, h⟩ := of_g h
          obtain ⟨g29, h⟩ := of_g h
          refine g_get (C := "JoinedLeaves$Join") (T := T_JO) (N := 7) (ref := "JoinedLeaves$Join") (v := .ref (b + (mR μ r0 2))) hx hb hts jF_JO hown hK hM g28 (by decide) rfl 2 (by decide) (hts _ jm_1_44) (fun _ h9 => h9) (by decide) (rv_of (ok_0 g29)) d_JO_compareRows_96 ?_
          refine lv_iload_n hx hb d_JO_compareRows_99 rfl (lv_at hl 2 rfl) ?_
          obtain ⟨g30, h⟩ := of_g h
          obtain ⟨g31, h⟩ := of_g h
          refine g_aald (ty := (.array .int)) hx hb hK hM 2 rfl rfl g29 g30 (ok_0 g31) d_JO_compareRows_100 ?_
          refine lv_iload hx hb d_JO_compareRows_101 (lv_at hl 4 rfl) ?_
          refine lv_aload_n hx hb d_JO_compareRows_103 rfl (lv_at hl 0 rfl) ?_
          obtain ⟨g32, h⟩ := of_g h
          refine g_get (C := "JoinedLeaves$Join") (T := T_JO) (N := 7) (ref := "JoinedLeaves$Join") (v := .ref (b + (mR μ r0 0))) hx hb hts jF_JO hown hK hM g28 (by decide) rfl 0 (by decide) (hts _ jm_1_42) (fun _ h9 => h9) (by decide) (rv_of (ok_0 g32)) d_JO_compareRows_104 ?_
          obtain ⟨g33, h⟩ := of_g h
          refine g_getN (C := "JoinedLeaves$Question") (T := T_QU) (N := 5) (ref := "JoinedLeaves$Question") (v := .ref (b + (mR μ (mR μ r0 0) 0))) hx hb hts jF_QU hown hK hM g32 (by decide) rfl 0 (by decide) (hK.nest _ jn_11 rfl) (fun _ h9 => h9) (by decide) (rv_of (ok_0 g33)) d_JO_compareRows_107 ?_
          refine lv_iload_n hx hb d_JO_compareRows_110 rfl (lv_at hl 2 rfl) ?_
          obtain ⟨g34, h⟩ := of_g h
          obtain ⟨g35, h⟩ := of_g h
          refine g_aald (ty := (.object "JoinedLeaves$Atom")) hx hb hK hM 1 rfl rfl g33 g34 (ok_0 g35) d_JO_compareRows_111 ?_
          refine lv_aload_n hx hb d_JO_compareRows_112 rfl (lv_at hl 3 rfl) ?_
          refine lv_iload hx hb d_JO_compareRows_113 (lv_at hl 4 rfl) ?_
          obtain ⟨q36, hq36, h⟩ := of_b h
          refine g_calli (va_runVN (As := [.ref (b + r3), .int i4]) (rest := [.int i4, .ref (b + (mR μ (mR μ r0 2) (Int32.toNatClampNeg i2)))]) ⟨hx, hb, hml, hown, hts⟩ (S_AT_rowsAgreeingWith l D b cs (mR μ (mR μ (mR μ r0 0) 0) (Int32.toNatClampNeg i2)) r3 i4 μ q36 n hq36) ⟨va_cnB 2 hts (goodIn_g jm_5_29) rfl rfl rfl (hK.2.1 _ jn_51) (hts _ jm_0_4) (by decide +kernel) ⟨Nat.le_of_ble_eq_true rfl, Nat.le_of_ble_eq_true rfl⟩, (hts _ jm_5_28), (hts _ jm_11_41)⟩ (Wd.preV hK hM g35 rfl (by decide)) rfl rfl hl.1 rfl (lv_room (Nat.le_of_ble_eq_true rfl)) d_JO_compareRows_115 ⟨Nat.le_of_ble_eq_true rfl, Nat.le_of_ble_eq_true rfl⟩) hM (fun H locs hM => ?_)
          obtain ⟨g37, h⟩ := of_g h
          obtain ⟨g38, h⟩ := of_g h
          obtain ⟨μ39, e_μ39, h⟩ := of_b h
          obtain rfl := Option.some.inj e_μ39
          refine g_iast (v := q36.1) hx hb hK hM g37 g38 d_JO_compareRows_118 (fun H locs hM => ?_)
          obtain ⟨v40, e_v40, h⟩ := of_b h
          refine lv_iinc (v := v40) hx hb d_JO_compareRows_119 hl (k := 4) rfl (by rw [lit1]; exact Option.some.inj e_v40) (by decide) rfl (fun ls hl => ?_)
          have hl : lv_has ls 5 [(4, .int v40), (0, .ref (b + r0)), (1, .int i1), (2, .int i2), (3, .ref (b + r3))] := hl
          refine lv_goto (tgt := 83) hx hb d_JO_compareRows_122 (by decide) ?_
          exact ih3 _ _ _ _ _ _ _ _ _ h hM (lv_sub hl [1, 2, 3, 4, 0] rfl)
  exact (key n).1 _ _ _ _ _ _ _ _ _ h hM hl
abbrev w_JO_startWeights : List Cond := .code y_JO_startWeights b_JO_startWeights 3 (Option.none : Option Jvm.ClassFile.FieldType) :: jW
def B_JO_startWeights_0 (n : Nat) (k : Nat → Nat → Int32 → Int32 → Mem → Option (Mem)) (r0 : Nat) (i1 : Int32) (i2 : Int32) (μ : Mem) : Option (Mem) :=
  k 1 r0 0 0 μ
def B_JO_startWeights_1 (n : Nat) (k : Nat → Nat → Int32 → Int32 → Mem → Option (Mem)) (r0 : Nat) (i1 : Int32) (i2 : Int32) (μ : Mem) : Option (Mem) :=
  if ok μ r0 4 = true then if ok μ (mR μ r0 0) 2 = true then if (mI μ (mR μ r0 0) 1) ≤ i1 then some μ else k 2 r0 i1 0 μ else none else none
def B_JO_startWeights_2 (n : Nat) (k : Nat → Nat → Int32 → Int32 → Mem → Option (Mem)) (r0 : Nat) (i1 : Int32) (i2 : Int32) (μ : Mem) : Option (Mem) :=
  if 12 ≤ i2 then Option.bind (some (i1 + 1)) (fun v3 => k 1 r0 v3 0 μ) else if ok μ r0 4 = true then if ok μ (mR μ r0 4) 105 = true then if ib i1 (mZ μ (mR μ r0 4)) = true then if ok μ (mR μ (mR μ r0 4) (Int32.toNatClampNeg i1)) 101 = true then if ib i2 (mZ μ (mR μ (mR μ r0 4) (Int32.toNatClampNeg i1))) = true then Option.bind (some (sL μ (mR μ (mR μ r0 4) (Int32.toNatClampNeg i1)) (Int32.toNatClampNeg i2) 1)) (fun μ9 => Option.bind (some (i2 + 1)) (fun v10 => k 2 r0 i1 v10 μ9)) else none else none else none else none else none
def F_JO_startWeights : Nat → Nat → Nat → Int32 → Int32 → Mem → Option (Mem)
  | 0 => fun _ _ _ _ _ => none
  | n + 1 => fun id r0 i1 i2 μ => match id with
    | 0 => B_JO_startWeights_0 n (F_JO_startWeights n) r0 i1 i2 μ
    | 1 => B_JO_startWeights_1 n (F_JO_startWeights n) r0 i1 i2 μ
    | 2 => B_JO_startWeights_2 n (F_JO_startWeights n) r0 i1 i2 μ
    | _ => none
def C_JO_startWeights (n : Nat) (r0 : Nat) (μ : Mem) : Option (Mem) := F_JO_startWeights n 0 r0 0 0 μ
set_option maxHeartbeats 4000000 in
set_option maxRecDepth 100000 in
theorem S_JO_startWeights (l : Launch) (D : va_G) (b : Nat) (cs : Nat → ClassId) (u_r0 : Nat) (ν : Mem) (res : Mem) (n : Nat) (h : C_JO_startWeights n u_r0 ν = some res) : MetV l y_JO_startWeights w_JO_startWeights 0 0 b cs D ν [.ref (b + u_r0)] res := by
  refine Met.ofW (cc := b_JO_startWeights) (maxL := 3) (ret := (Option.none : Option Jvm.ClassFile.FieldType)) (by decide) rfl ?_
  intro p e s m args below meth c s₁ B hml hv
  obtain ⟨rfl, hK, hM⟩ := Wd.start hv
  have hx := B.exec
  have hb := B.bytes
  have hr := B.returns
  have hts : ∀ w ∈ jW, w.before _ s = true := fun w hw => atoms_spec (ws := w_JO_startWeights) B.pre w (List.mem_cons_of_mem _ hw)
  have hown : s.vm.findClass "JoinedLeaves$Join" = some m.cls := findClass_of_methodNamed B.named
  have hlocks := B.notSynchronized
  have hl := lv_entry ([.ref (b + u_r0)]) (n := 3) (Nat.le_of_ble_eq_true rfl)
  rw [lg_entry_eq]
  generalize (lg_sl ([.ref (b + u_r0)]) ++ List.replicate (3 - (lg_sl ([.ref (b + u_r0)])).length) Slot.unset).toArray = ls at hl ⊢
  have hl : lv_has ls 3 [(0, .ref (b + u_r0))] := hl
  have key : ∀ N : Nat, (∀ (r0 : Nat) (i1 : Int32) (i2 : Int32) (μ : Mem) (H : Heap) (locs : List Loc) (ls : Array Slot), F_JO_startWeights N 0 r0 i1 i2 μ = some res → Wd (Aw b (mN ν)) b cs D s.heap μ H locs → lv_has ls 3 [(0, .ref (b + r0))] → W p l e (headSpec w_JO_startWeights { frames := 0, cells := 0, slots := 0, locals := 0 }).room s m ([.ref (b + u_r0)]).toArray below meth c H locs 0 0 (MQ below (va_Qv (fun μ' => μ' = res ∧ mN μ' ≤ mN ν) (Bw b cs D) (Aw b (mN ν))) ([.ref (b + u_r0)]).toArray s 0 0 (Aw b (mN ν))) (F0 m 0 ls [])) ∧
      (∀ (r0 : Nat) (i1 : Int32) (i2 : Int32) (μ : Mem) (H : Heap) (locs : List Loc) (ls : Array Slot), F_JO_startWeights N 1 r0 i1 i2 μ = some res → Wd (Aw b (mN ν)) b cs D s.heap μ H locs → lv_has ls 3 [(0, .ref (b + r0)), (1, .int i1)] → W p l e (headSpec w_JO_startWeights { frames := 0, cells := 0, slots := 0, locals := 0 }).room s m ([.ref (b + u_r0)]).toArray below meth c H locs 0 0 (MQ below (va_Qv (fun μ' => μ' = res ∧ mN μ' ≤ mN ν) (Bw b cs D) (Aw b (mN ν))) ([.ref (b + u_r0)]).toArray s 0 0 (Aw b (mN ν))) (F0 m 2 ls [])) ∧
      (∀ (r0 : Nat) (i1 : Int32) (i2 : Int32) (μ : Mem) (H : Heap) (locs : List Loc) (ls : Array Slot), F_JO_startWeights N 2 r0 i1 i2 μ = some res → Wd (Aw b (mN ν)) b cs D s.heap μ H locs → lv_has ls 3 [(0, .ref (b + r0)), (1, .int i1), (2, .int i2)] → W p l e (headSpec w_JO_startWeights { frames := 0, cells := 0, slots := 0, locals := 0 }).room s m ([.ref (b + u_r0)]).toArray below meth c H locs 0 0 (MQ below (va_Qv (fun μ' => μ' = res ∧ mN μ' ≤ mN ν) (Bw b cs D) (Aw b (mN ν))) ([.ref (b + u_r0)]).toArray s 0 0 (Aw b (mN ν))) (F0 m 15 ls [])) := by
    intro N
    induction N with
    | zero => exact ⟨fun _ _ _ _ _ _ _ h => (nomatch h), fun _ _ _ _ _ _ _ h => (nomatch h), fun _ _ _ _ _ _ _ h => (nomatch h)⟩
    | succ n ih =>
      obtain ⟨ih0, ih1, ih2⟩ := ih
      refine ⟨?_, ?_, ?_⟩
      · intro r0 i1 i2 μ H locs ls h hM hl
        have h : B_JO_startWeights_0 n (F_JO_startWeights n) r0 i1 i2 μ = some res := h
        unfold B_JO_startWeights_0 at h
        refine lv_iconst (v := 0) hx hb d_JO_startWeights_0 (by decide) ?_
        refine lv_istore_n hx hb d_JO_startWeights_1 rfl hl (by decide) rfl (fun ls hl => ?_)
        have hl : lv_has ls 3 [(1, .int 0), (0, .ref (b + r0))] := hl
        exact ih1 _ _ _ _ _ _ _ h hM (lv_sub hl [1, 0] rfl)
      · intro r0 i1 i2 μ H locs ls h hM hl
        have h : B_JO_startWeights_1 n (F_JO_startWeights n) r0 i1 i2 μ = some res := h
        unfold B_JO_startWeights_1 at h
        refine lv_iload_n hx hb d_JO_startWeights_2 rfl (lv_at hl 1 rfl) ?_
        refine lv_aload_n hx hb d_JO_startWeights_3 rfl (lv_at hl 0 rfl) ?_
        obtain ⟨g1, h⟩ := of_g h
        obtain ⟨g2, h⟩ := of_g h
        refine g_get (C := "JoinedLeaves$Join") (T := T_JO) (N := 7) (ref := "JoinedLeaves$Join") (v := .ref (b + (mR μ r0 0))) hx hb hts jF_JO hown hK hM g1 (by decide) rfl 0 (by decide) (hts _ jm_1_42) (fun _ h9 => h9) (by decide) (rv_of (ok_0 g2)) d_JO_startWeights_4 ?_
        refine g_getN (C := "JoinedLeaves$Question") (T := T_QU) (N := 5) (ref := "JoinedLeaves$Question") (v := .int (mI μ (mR μ r0 0) 1)) hx hb hts jF_QU hown hK hM g2 (by decide) rfl 1 (by decide) (hK.nest _ jn_14 rfl) (fun _ h9 => h9) (by decide) rfl d_JO_startWeights_7 ?_
        refine lv_icmp_ge (tgt := 42) hx hb d_JO_startWeights_10 (by decide) (fun hc => ?_) (fun hc => ?_)
        · replace h := of_t hc h
          exact g_vret hx hb hr hlocks hM (Option.some.inj h) d_JO_startWeights_42
        · replace h := of_f hc h
          refine lv_iconst (v := 0) hx hb d_JO_startWeights_13 (by decide) ?_
          refine lv_istore_n hx hb d_JO_startWeights_14 rfl hl (by decide) rfl (fun ls hl => ?_)
          have hl : lv_has ls 3 [(2, .int 0), (0, .ref (b + r0)), (1, .int i1)] := hl
          exact ih2 _ _ _ _ _ _ _ h hM (lv_sub hl [1, 2, 0] rfl)
      · intro r0 i1 i2 μ H locs ls h hM hl
        have h : B_JO_startWeights_2 n (F_JO_startWeights n) r0 i1 i2 μ = some res := h
        unfold B_JO_startWeights_2 at h
        refine lv_iload_n hx hb d_JO_startWeights_15 rfl (lv_at hl 2 rfl) ?_
        refine lv_bipush (v := 12) hx hb d_JO_startWeights_16 (by decide) ?_
        refine lv_icmp_ge (tgt := 36) hx hb d_JO_startWeights_18 (by decide) (fun hc => ?_) (fun hc => ?_)
        · replace h := of_t hc h
          obtain ⟨v3, e_v3, h⟩ := of_b h
          refine lv_iinc (v := v3) hx hb d_JO_startWeights_36 hl (k := 1) rfl (by rw [lit1]; exact Option.some.inj e_v3) (by decide) rfl (fun ls hl => ?_)
          have hl : lv_has ls 3 [(1, .int v3), (0, .ref (b + r0)), (2, .int i2)] := hl
          refine lv_goto (tgt := 2) hx hb d_JO_startWeights_39 (by decide) ?_
          exact ih1 _ _ _ _ _ _ _ h hM (lv_sub hl [1, 0] rfl)
        · replace h := of_f hc h
          refine lv_aload_n hx hb d_JO_startWeights_21 rfl (lv_at hl 0 rfl) ?_
          obtain ⟨g4, h⟩ := of_g h
          obtain ⟨g5, h⟩ := of_g h
          refine g_get (C := "JoinedLeaves$Join") (T := T_JO) (N := 7) (ref := "JoinedLeaves$Join") (v := .ref (b + (mR μ r0 4))) hx hb hts jF_JO hown hK hM g4 (by decide) rfl 4 (by decide) (hts _ jm_1_46) (fun _ h9 => h9) (by decide) (rv_of (ok_0 g5)) d_JO_startWeights_22 ?_
          refine lv_iload_n hx hb d_JO_startWeights_25 rfl (lv_at hl 1 rfl) ?_
          obtain ⟨g6, h⟩ := of_g h
          obtain ⟨g7, h⟩ := of_g h
          refine g_aald (ty := (.array .long)) hx hb hK hM 3 rfl rfl g5 g6 (ok_0 g7) d_JO_startWeights_26 ?_
          refine lv_iload_n hx hb d_JO_startWeights_27 rfl (lv_at hl 2 rfl) ?_
          refine lv_lconst (v := 1) hx hb d_JO_startWeights_28 (by decide) ?_
          obtain ⟨g8, h⟩ := of_g h
          obtain ⟨μ9, e_μ9, h⟩ := of_b h
          obtain rfl := Option.some.inj e_μ9
          refine g_last (v := 1) hx hb hK hM g7 g8 d_JO_startWeights_29 (fun H locs hM => ?_)
          obtain ⟨v10, e_v10, h⟩ := of_b h
          refine lv_iinc (v := v10) hx hb d_JO_startWeights_30 hl (k := 2) rfl (by rw [lit1]; exact Option.some.inj e_v10) (by decide) rfl (fun ls hl => ?_)
          have hl : lv_has ls 3 [(2, .int v10), (0, .ref (b + r0)), (1, .int i1)] := hl
          refine lv_goto (tgt := 15) hx hb d_JO_startWeights_33 (by decide) ?_
          exact ih2 _ _ _ _ _ _ _ h hM (lv_sub hl [1, 2, 0] rfl)
  exact (key n).1 _ _ _ _ _ _ _ h hM hl
abbrev w_JO_weightOf : List Cond := .code y_JO_weightOf b_JO_weightOf 6 (Option.some Jvm.ClassFile.FieldType.long) :: jW
def B_JO_weightOf_0 (n : Nat) (k : Nat → Nat → Int32 → Int32 → Int64 → Int32 → Mem → Option (Int64 × Mem)) (r0 : Nat) (i1 : Int32) (i2 : Int32) (j3 : Int64) (i5 : Int32) (μ : Mem) : Option (Int64 × Mem) :=
  k 1 r0 i1 i2 0 0 μ
def B_JO_weightOf_1 (n : Nat) (k : Nat → Nat → Int32 → Int32 → Int64 → Int32 → Mem → Option (Int64 × Mem)) (r0 : Nat) (i1 : Int32) (i2 : Int32) (j3 : Int64) (i5 : Int32) (μ : Mem) : Option (Int64 × Mem) :=
  if 12 ≤ i5 then some (j3, μ) else Option.bind (C_JL_isIn n i5 i2 μ) (fun q1 => if q1.1 = 0 then k 2 r0 i1 i2 j3 i5 q1.2 else if ok q1.2 r0 4 = true then if ok q1.2 (mR q1.2 r0 4) 105 = true then if ib i1 (mZ q1.2 (mR q1.2 r0 4)) = true then if ok q1.2 (mR q1.2 (mR q1.2 r0 4) (Int32.toNatClampNeg i1)) 101 = true then if ib i5 (mZ q1.2 (mR q1.2 (mR q1.2 r0 4) (Int32.toNatClampNeg i1))) = true then Option.bind (some (j3 + (mL q1.2 (mR q1.2 (mR q1.2 r0 4) (Int32.toNatClampNeg i1)) (Int32.toNatClampNeg i5)))) (fun v7 => k 2 r0 i1 i2 v7 i5 q1.2) else none else none else none else none else none)
def B_JO_weightOf_2 (n : Nat) (k : Nat → Nat → Int32 → Int32 → Int64 → Int32 → Mem → Option (Int64 × Mem)) (r0 : Nat) (i1 : Int32) (i2 : Int32) (j3 : Int64) (i5 : Int32) (μ : Mem) : Option (Int64 × Mem) :=
  Option.bind (some (i5 + 1)) (fun v8 => k 1 r0 i1 i2 j3 v8 μ)
def F_JO_weightOf : Nat → Nat → Nat → Int32 → Int32 → Int64 → Int32 → Mem → Option (Int64 × Mem)
  | 0 => fun _ _ _ _ _ _ _ => none
  | n + 1 => fun id r0 i1 i2 j3 i5 μ => match id with
    | 0 => B_JO_weightOf_0 n (F_JO_weightOf n) r0 i1 i2 j3 i5 μ
    | 1 => B_JO_weightOf_1 n (F_JO_weightOf n) r0 i1 i2 j3 i5 μ
    | 2 => B_JO_weightOf_2 n (F_JO_weightOf n) r0 i1 i2 j3 i5 μ
    | _ => none
def C_JO_weightOf (n : Nat) (r0 : Nat) (i1 : Int32) (i2 : Int32) (μ : Mem) : Option (Int64 × Mem) := F_JO_weightOf n 0 r0 i1 i2 0 0 μ
set_option maxHeartbeats 4000000 in
set_option maxRecDepth 100000 in
theorem S_JO_weightOf (l : Launch) (D : va_G) (b : Nat) (cs : Nat → ClassId) (u_r0 : Nat) (u_i1 : Int32) (u_i2 : Int32) (ν : Mem) (res : Int64 × Mem) (n : Nat) (h : C_JO_weightOf n u_r0 u_i1 u_i2 ν = some res) : MetL l y_JO_weightOf w_JO_weightOf 1 21 b cs D ν [.ref (b + u_r0), .int u_i1, .int u_i2] res := by
  refine Met.ofW (cc := b_JO_weightOf) (maxL := 6) (ret := (Option.some Jvm.ClassFile.FieldType.long)) (by decide) rfl ?_
  intro p e s m args below meth c s₁ B hml hv
  obtain ⟨rfl, hK, hM⟩ := Wd.start hv
  have hx := B.exec
  have hb := B.bytes
  have hr := B.returns
  have hts : ∀ w ∈ jW, w.before _ s = true := fun w hw => atoms_spec (ws := w_JO_weightOf) B.pre w (List.mem_cons_of_mem _ hw)
  have hown : s.vm.findClass "JoinedLeaves$Join" = some m.cls := findClass_of_methodNamed B.named
  have hlocks := B.notSynchronized
  have hl := lv_entry ([.ref (b + u_r0), .int u_i1, .int u_i2]) (n := 6) (Nat.le_of_ble_eq_true rfl)
  rw [lg_entry_eq]
  generalize (lg_sl ([.ref (b + u_r0), .int u_i1, .int u_i2]) ++ List.replicate (6 - (lg_sl ([.ref (b + u_r0), .int u_i1, .int u_i2])).length) Slot.unset).toArray = ls at hl ⊢
  have hl : lv_has ls 6 [(0, .ref (b + u_r0)), (1, .int u_i1), (2, .int u_i2)] := hl
  have key : ∀ N : Nat, (∀ (r0 : Nat) (i1 : Int32) (i2 : Int32) (j3 : Int64) (i5 : Int32) (μ : Mem) (H : Heap) (locs : List Loc) (ls : Array Slot), F_JO_weightOf N 0 r0 i1 i2 j3 i5 μ = some res → Wd (Aw b (mN ν)) b cs D s.heap μ H locs → lv_has ls 6 [(0, .ref (b + r0)), (1, .int i1), (2, .int i2)] → W p l e (headSpec w_JO_weightOf { frames := 1, cells := 0, slots := 0, locals := 21 }).room s m ([.ref (b + u_r0), .int u_i1, .int u_i2]).toArray below meth c H locs 0 0 (MQ below (va_Ql (fun r μ' => (r, μ') = res ∧ mN μ' ≤ mN ν) (Bw b cs D) (Aw b (mN ν))) ([.ref (b + u_r0), .int u_i1, .int u_i2]).toArray s 0 0 (Aw b (mN ν))) (F0 m 0 ls [])) ∧
      (∀ (r0 : Nat) (i1 : Int32) (i2 : Int32) (j3 : Int64) (i5 : Int32) (μ : Mem) (H : Heap) (locs : List Loc) (ls : Array Slot), F_JO_weightOf N 1 r0 i1 i2 j3 i5 μ = some res → Wd (Aw b (mN ν)) b cs D s.heap μ H locs → lv_has ls 6 [(0, .ref (b + r0)), (1, .int i1), (2, .int i2), (3, .long j3), (5, .int i5)] → W p l e (headSpec w_JO_weightOf { frames := 1, cells := 0, slots := 0, locals := 21 }).room s m ([.ref (b + u_r0), .int u_i1, .int u_i2]).toArray below meth c H locs 0 0 (MQ below (va_Ql (fun r μ' => (r, μ') = res ∧ mN μ' ≤ mN ν) (Bw b cs D) (Aw b (mN ν))) ([.ref (b + u_r0), .int u_i1, .int u_i2]).toArray s 0 0 (Aw b (mN ν))) (F0 m 5 ls [])) ∧
      (∀ (r0 : Nat) (i1 : Int32) (i2 : Int32) (j3 : Int64) (i5 : Int32) (μ : Mem) (H : Heap) (locs : List Loc) (ls : Array Slot), F_JO_weightOf N 2 r0 i1 i2 j3 i5 μ = some res → Wd (Aw b (mN ν)) b cs D s.heap μ H locs → lv_has ls 6 [(0, .ref (b + r0)), (1, .int i1), (2, .int i2), (3, .long j3), (5, .int i5)] → W p l e (headSpec w_JO_weightOf { frames := 1, cells := 0, slots := 0, locals := 21 }).room s m ([.ref (b + u_r0), .int u_i1, .int u_i2]).toArray below meth c H locs 0 0 (MQ below (va_Ql (fun r μ' => (r, μ') = res ∧ mN μ' ≤ mN ν) (Bw b cs D) (Aw b (mN ν))) ([.ref (b + u_r0), .int u_i1, .int u_i2]).toArray s 0 0 (Aw b (mN ν))) (F0 m 33 ls [])) := by
    intro N
    induction N with
    | zero => exact ⟨fun _ _ _ _ _ _ _ _ _ h => (nomatch h), fun _ _ _ _ _ _ _ _ _ h => (nomatch h), fun _ _ _ _ _ _ _ _ _ h => (nomatch h)⟩
    | succ n ih =>
      obtain ⟨ih0, ih1, ih2⟩ := ih
      refine ⟨?_, ?_, ?_⟩
      · intro r0 i1 i2 j3 i5 μ H locs ls h hM hl
        have h : B_JO_weightOf_0 n (F_JO_weightOf n) r0 i1 i2 j3 i5 μ = some res := h
        unfold B_JO_weightOf_0 at h
        refine lv_lconst (v := 0) hx hb d_JO_weightOf_0 (by decide) ?_
        refine lv_lstore_n hx hb d_JO_weightOf_1 rfl hl (by decide) rfl (fun ls hl => ?_)
        have hl : lv_has ls 6 [(3, .long 0), (0, .ref (b + r0)), (1, .int i1), (2, .int i2)] := hl
        refine lv_iconst (v := 0) hx hb d_JO_weightOf_2 (by decide) ?_
        refine lv_istore hx hb d_JO_weightOf_3 hl (by decide) rfl (fun ls hl => ?_)
        have hl : lv_has ls 6 [(5, .int 0), (3, .long 0), (0, .ref (b + r0)), (1, .int i1), (2, .int i2)] := hl
        exact ih1 _ _ _ _ _ _ _ _ _ h hM (lv_sub hl [2, 3, 4, 1, 0] rfl)
      · intro r0 i1 i2 j3 i5 μ H locs ls h hM hl
        have h : B_JO_weightOf_1 n (F_JO_weightOf n) r0 i1 i2 j3 i5 μ = some res := h
        unfold B_JO_weightOf_1 at h
        refine lv_iload hx hb d_JO_weightOf_5 (lv_at hl 4 rfl) ?_
        refine lv_bipush (v := 12) hx hb d_JO_weightOf_7 (by decide) ?_
        refine lv_icmp_ge (tgt := 39) hx hb d_JO_weightOf_9 (by decide) (fun hc => ?_) (fun hc => ?_)
        · replace h := of_t hc h
          refine lv_lload_n hx hb d_JO_weightOf_39 rfl (lv_at hl 3 rfl) ?_
          exact g_lret hx hb hr hlocks hM (Option.some.inj h) d_JO_weightOf_40
        · replace h := of_f hc h
          refine lv_iload hx hb d_JO_weightOf_12 (lv_at hl 4 rfl) ?_
          refine lv_iload_n hx hb d_JO_weightOf_14 rfl (lv_at hl 2 rfl) ?_
          obtain ⟨q1, hq1, h⟩ := of_b h
          refine g_calli (va_runSN (As := [.int i5, .int i2]) (rest := []) ⟨hx, hb, hml, hown, hts⟩ (S_JL_isIn l D b cs i5 i2 μ q1 n hq1) ⟨va_cnB 2 hts (goodIn_g jm_3_19) rfl rfl rfl (hK.2.1 _ jn_52) (hts _ jm_0_1) (by decide +kernel) ⟨Nat.le_of_ble_eq_true rfl, Nat.le_of_ble_eq_true rfl⟩, (hts _ jm_3_18), trivial⟩ (Wd.preS hK hM) rfl rfl hl.1 rfl (lv_room (Nat.le_of_ble_eq_true rfl)) d_JO_weightOf_15 ⟨Nat.le_of_ble_eq_true rfl, Nat.le_of_ble_eq_true rfl⟩) hM (fun H locs hM => ?_)
          refine lv_if_eq (tgt := 33) hx hb d_JO_weightOf_18 (by decide) (fun hc => ?_) (fun hc => ?_)
          · replace h := of_t hc h
            exact ih2 _ _ _ _ _ _ _ _ _ h hM (lv_sub hl [0, 1, 2, 3, 4] rfl)
          · replace h := of_f hc h
            refine lv_lload_n hx hb d_JO_weightOf_21 rfl (lv_at hl 3 rfl) ?_
            refine lv_aload_n hx hb d_JO_weightOf_22 rfl (lv_at hl 0 rfl) ?_
            obtain ⟨g2, h⟩ := of_g h
            obtain ⟨g3, h⟩ := of_g h
            refine g_get (C := "JoinedLeaves$Join") (T := T_JO) (N := 7) (ref := "JoinedLeaves$Join") (v := .ref (b + (mR q1.2 r0 4))) hx hb hts jF_JO hown hK hM g2 (by decide) rfl 4 (by decide) (hts _ jm_1_46) (fun _ h9 => h9) (by decide) (rv_of (ok_0 g3)) d_JO_weightOf_23 ?_
            refine lv_iload_n hx hb d_JO_weightOf_26 rfl (lv_at hl 1 rfl) ?_
            obtain ⟨g4, h⟩ := of_g h
            obtain ⟨g5, h⟩ := of_g h
            refine g_aald (ty := (.array .long)) hx hb hK hM 3 rfl rfl g3 g4 (ok_0 g5) d_JO_weightOf_27 ?_
            refine lv_iload hx hb d_JO_weightOf_28 (lv_at hl 4 rfl) ?_
            obtain ⟨g6, h⟩ := of_g h
            refine g_lald hx hb hK hM g5 g6 d_JO_weightOf_30 ?_
            refine lv_ladd hx hb d_JO_weightOf_31 ?_
            obtain ⟨v7, e_v7, h⟩ := of_b h
            refine top_l (Option.some.inj e_v7) ?_
            refine lv_lstore_n hx hb d_JO_weightOf_32 rfl hl (by decide) rfl (fun ls hl => ?_)
            have hl : lv_has ls 6 [(3, .long v7), (0, .ref (b + r0)), (1, .int i1), (2, .int i2), (5, .int i5)] := hl
            exact ih2 _ _ _ _ _ _ _ _ _ h hM (lv_sub hl [1, 2, 3, 0, 4] rfl)
      · intro r0 i1 i2 j3 i5 μ H locs ls h hM hl
        have h : B_JO_weightOf_2 n (F_JO_weightOf n) r0 i1 i2 j3 i5 μ = some res := h
        unfold B_JO_weightOf_2 at h
        obtain ⟨v8, e_v8, h⟩ := of_b h
        refine lv_iinc (v := v8) hx hb d_JO_weightOf_33 hl (k := 4) rfl (by rw [lit1]; exact Option.some.inj e_v8) (by decide) rfl (fun ls hl => ?_)
        have hl : lv_has ls 6 [(5, .int v8), (0, .ref (b + r0)), (1, .int i1), (2, .int i2), (3, .long j3)] := hl
        refine lv_goto (tgt := 5) hx hb d_JO_weightOf_36 (by decide) ?_
        exact ih1 _ _ _ _ _ _ _ _ _ h hM (lv_sub hl [1, 2, 3, 4, 0] rfl)
  exact (key n).1 _ _ _ _ _ _ _ _ _ h hM hl
abbrev w_JO_weighIntoParent : List Cond := .code y_JO_weighIntoParent b_JO_weighIntoParent 4 (Option.none : Option Jvm.ClassFile.FieldType) :: jW
def B_JO_weighIntoParent_0 (n : Nat) (k : Nat → Nat → Int32 → Int32 → Int32 → Mem → Option (Mem)) (r0 : Nat) (i1 : Int32) (i2 : Int32) (i3 : Int32) (μ : Mem) : Option (Mem) :=
  if ok μ r0 4 = true then if ok μ (mR μ r0 1) 3 = true then if ok μ (mR μ (mR μ r0 1) 1) 100 = true then if ib i1 (mZ μ (mR μ (mR μ r0 1) 1)) = true then Option.bind (some (mI μ (mR μ (mR μ r0 1) 1) (Int32.toNatClampNeg i1))) (fun v5 => k 1 r0 i1 v5 0 μ) else none else none else none else none
def B_JO_weighIntoParent_1 (n : Nat) (k : Nat → Nat → Int32 → Int32 → Int32 → Mem → Option (Mem)) (r0 : Nat) (i1 : Int32) (i2 : Int32) (i3 : Int32) (μ : Mem) : Option (Mem) :=
  if 12 ≤ i3 then some μ else if ok μ r0 4 = true then if ok μ (mR μ r0 3) 104 = true then if ib 0 (mZ μ (mR μ r0 3)) = true then if ok μ (mR μ (mR μ r0 3) (Int32.toNatClampNeg 0)) 100 = true then if ib i2 (mZ μ (mR μ (mR μ r0 3) (Int32.toNatClampNeg 0))) = true then Option.bind (C_JL_isIn n i3 (mI μ (mR μ (mR μ r0 3) (Int32.toNatClampNeg 0)) (Int32.toNatClampNeg i2)) μ) (fun q11 => if q11.1 = 0 then k 2 r0 i1 i2 i3 q11.2 else if ok q11.2 r0 4 = true then if ok q11.2 (mR q11.2 r0 4) 105 = true then if ib i2 (mZ q11.2 (mR q11.2 r0 4)) = true then if ok q11.2 (mR q11.2 (mR q11.2 r0 4) (Int32.toNatClampNeg i2)) 101 = true then if ib i3 (mZ q11.2 (mR q11.2 (mR q11.2 r0 4) (Int32.toNatClampNeg i2))) = true then if ok q11.2 (mR q11.2 r0 2) 104 = true then if ib i1 (mZ q11.2 (mR q11.2 r0 2)) = true then if ok q11.2 (mR q11.2 (mR q11.2 r0 2) (Int32.toNatClampNeg i1)) 100 = true then if ib i3 (mZ q11.2 (mR q11.2 (mR q11.2 r0 2) (Int32.toNatClampNeg i1))) = true then if ok q11.2 (mR q11.2 r0 3) 104 = true then if ib 0 (mZ q11.2 (mR q11.2 r0 3)) = true then if ok q11.2 (mR q11.2 (mR q11.2 r0 3) (Int32.toNatClampNeg 0)) 100 = true then if ib i1 (mZ q11.2 (mR q11.2 (mR q11.2 r0 3) (Int32.toNatClampNeg 0))) = true then Option.bind (C_JO_weightOf n r0 i1 ((mI q11.2 (mR q11.2 (mR q11.2 r0 2) (Int32.toNatClampNeg i1)) (Int32.toNatClampNeg i3)) &&& (mI q11.2 (mR q11.2 (mR q11.2 r0 3) (Int32.toNatClampNeg 0)) (Int32.toNatClampNeg i1))) q11.2) (fun q25 => if ok q25.2 (mR q11.2 (mR q11.2 r0 4) (Int32.toNatClampNeg i2)) 101 = true then if ib i3 (mZ q25.2 (mR q11.2 (mR q11.2 r0 4) (Int32.toNatClampNeg i2))) = true then Option.bind (some (sL q25.2 (mR q11.2 (mR q11.2 r0 4) (Int32.toNatClampNeg i2)) (Int32.toNatClampNeg i3) ((mL q11.2 (mR q11.2 (mR q11.2 r0 4) (Int32.toNatClampNeg i2)) (Int32.toNatClampNeg i3)) * q25.1))) (fun μ28 => k 2 r0 i1 i2 i3 μ28) else none else none) else none else none else none else none else none else none else none else none else none else none else none else none else none) else none else none else none else none else none
def B_JO_weighIntoParent_2 (n : Nat) (k : Nat → Nat → Int32 → Int32 → Int32 → Mem → Option (Mem)) (r0 : Nat) (i1 : Int32) (i2 : Int32) (i3 : Int32) (μ : Mem) : Option (Mem) :=
  Option.bind (some (i3 + 1)) (fun v29 => k 1 r0 i1 i2 v29 μ)
def F_JO_weighIntoParent : Nat → Nat → Nat → Int32 → Int32 → Int32 → Mem → Option (Mem)
  | 0 => fun _ _ _ _ _ _ => none
  | n + 1 => fun id r0 i1 i2 i3 μ => match id with
    | 0 => B_JO_weighIntoParent_0 n (F_JO_weighIntoParent n) r0 i1 i2 i3 μ
    | 1 => B_JO_weighIntoParent_1 n (F_JO_weighIntoParent n) r0 i1 i2 i3 μ
    | 2 => B_JO_weighIntoParent_2 n (F_JO_weighIntoParent n) r0 i1 i2 i3 μ
    | _ => none
def C_JO_weighIntoParent (n : Nat) (r0 : Nat) (i1 : Int32) (μ : Mem) : Option (Mem) := F_JO_weighIntoParent n 0 r0 i1 0 0 μ
set_option maxHeartbeats 4000000 in
set_option maxRecDepth 100000 in
theorem S_JO_weighIntoParent (l : Launch) (D : va_G) (b : Nat) (cs : Nat → ClassId) (u_r0 : Nat) (u_i1 : Int32) (ν : Mem) (res : Mem) (n : Nat) (h : C_JO_weighIntoParent n u_r0 u_i1 ν = some res) : MetV l y_JO_weighIntoParent w_JO_weighIntoParent 2 46 b cs D ν [.ref (b + u_r0), .int u_i1] res := by
  refine Met.ofW (cc := b_JO_weighIntoParent) (maxL := 4) (ret := (Option.none : Option Jvm.ClassFile.FieldType)) (by decide) rfl ?_
  intro p e s m args below meth c s₁ B hml hv
  obtain ⟨rfl, hK, hM⟩ := Wd.start hv
  have hx := B.exec
  have hb := B.bytes
  have hr := B.returns
  have hts : ∀ w ∈ jW, w.before _ s = true := fun w hw => atoms_spec (ws := w_JO_weighIntoParent) B.pre w (List.mem_cons_of_mem _ hw)
  have hown : s.vm.findClass "JoinedLeaves$Join" = some m.cls := findClass_of_methodNamed B.named
  have hlocks := B.notSynchronized
  have hl := lv_entry ([.ref (b + u_r0), .int u_i1]) (n := 4) (Nat.le_of_ble_eq_true rfl)
  rw [lg_entry_eq]
  generalize (lg_sl ([.ref (b + u_r0), .int u_i1]) ++ List.replicate (4 - (lg_sl ([.ref (b + u_r0), .int u_i1])).length) Slot.unset).toArray = ls at hl ⊢
  have hl : lv_has ls 4 [(0, .ref (b + u_r0)), (1, .int u_i1)] := hl
  have key : ∀ N : Nat, (∀ (r0 : Nat) (i1 : Int32) (i2 : Int32) (i3 : Int32) (μ : Mem) (H : Heap) (locs : List Loc) (ls : Array Slot), F_JO_weighIntoParent N 0 r0 i1 i2 i3 μ = some res → Wd (Aw b (mN ν)) b cs D s.heap μ H locs → lv_has ls 4 [(0, .ref (b + r0)), (1, .int i1)] → W p l e (headSpec w_JO_weighIntoParent { frames := 2, cells := 0, slots := 0, locals := 46 }).room s m ([.ref (b + u_r0), .int u_i1]).toArray below meth c H locs 0 0 (MQ below (va_Qv (fun μ' => μ' = res ∧ mN μ' ≤ mN ν) (Bw b cs D) (Aw b (mN ν))) ([.ref (b + u_r0), .int u_i1]).toArray s 0 0 (Aw b (mN ν))) (F0 m 0 ls [])) ∧
      (∀ (r0 : Nat) (i1 : Int32) (i2 : Int32) (i3 : Int32) (μ : Mem) (H : Heap) (locs : List Loc) (ls : Array Slot), F_JO_weighIntoParent N 1 r0 i1 i2 i3 μ = some res → Wd (Aw b (mN ν)) b cs D s.heap μ H locs → lv_has ls 4 [(0, .ref (b + r0)), (1, .int i1), (2, .int i2), (3, .int i3)] → W p l e (headSpec w_JO_weighIntoParent { frames := 2, cells := 0, slots := 0, locals := 46 }).room s m ([.ref (b + u_r0), .int u_i1]).toArray below meth c H locs 0 0 (MQ below (va_Qv (fun μ' => μ' = res ∧ mN μ' ≤ mN ν) (Bw b cs D) (Aw b (mN ν))) ([.ref (b + u_r0), .int u_i1]).toArray s 0 0 (Aw b (mN ν))) (F0 m 12 ls [])) ∧
      (∀ (r0 : Nat) (i1 : Int32) (i2 : Int32) (i3 : Int32) (μ : Mem) (H : Heap) (locs : List Loc) (ls : Array Slot), F_JO_weighIntoParent N 2 r0 i1 i2 i3 μ = some res → Wd (Aw b (mN ν)) b cs D s.heap μ H locs → lv_has ls 4 [(0, .ref (b + r0)), (1, .int i1), (2, .int i2), (3, .int i3)] → W p l e (headSpec w_JO_weighIntoParent { frames := 2, cells := 0, slots := 0, locals := 46 }).room s m ([.ref (b + u_r0), .int u_i1]).toArray below meth c H locs 0 0 (MQ below (va_Qv (fun μ' => μ' = res ∧ mN μ' ≤ mN ν) (Bw b cs D) (Aw b (mN ν))) ([.ref (b + u_r0), .int u_i1]).toArray s 0 0 (Aw b (mN ν))) (F0 m 66 ls [])) := by
    intro N
    induction N with
    | zero => exact ⟨fun _ _ _ _ _ _ _ _ h => (nomatch h), fun _ _ _ _ _ _ _ _ h => (nomatch h), fun _ _ _ _ _ _ _ _ h => (nomatch h)⟩
    | succ n ih =>
      obtain ⟨ih0, ih1, ih2⟩ := ih
      refine ⟨?_, ?_, ?_⟩
      · intro r0 i1 i2 i3 μ H locs ls h hM hl
        have h : B_JO_weighIntoParent_0 n (F_JO_weighIntoParent n) r0 i1 i2 i3 μ = some res := h
        unfold B_JO_weighIntoParent_0 at h
        refine lv_aload_n hx hb d_JO_weighIntoParent_0 rfl (lv_at hl 0 rfl) ?_
        obtain ⟨g1, h⟩ := of_g h
        obtain ⟨g2, h⟩ := of_g h
        refine g_get (C := "JoinedLeaves$Join") (T := T_JO) (N := 7) (ref := "JoinedLeaves$Join") (v := .ref (b + (mR μ r0 1))) hx hb hts jF_JO hown hK hM g1 (by decide) rfl 1 (by decide) (hts _ jm_1_43) (fun _ h9 => h9) (by decide) (rv_of (ok_0 g2)) d_JO_weighIntoParent_1 ?_
        obtain ⟨g3, h⟩ := of_g h
        refine g_getN (C := "JoinedLeaves$Hanging") (T := T_HA) (N := 6) (ref := "JoinedLeaves$Hanging") (v := .ref (b + (mR μ (mR μ r0 1) 1))) hx hb hts jF_HA hown hK hM g2 (by decide) rfl 1 (by decide) (hK.nest _ jn_20 rfl) (fun _ h9 => h9) (by decide) (rv_of (ok_0 g3)) d_JO_weighIntoParent_4 ?_
        refine lv_iload_n hx hb d_JO_weighIntoParent_7 rfl (lv_at hl 1 rfl) ?_
        obtain ⟨g4, h⟩ := of_g h
        refine g_iald hx hb hK hM g3 g4 d_JO_weighIntoParent_8 ?_
        obtain ⟨v5, e_v5, h⟩ := of_b h
        refine top_i (Option.some.inj e_v5) ?_
        refine lv_istore_n hx hb d_JO_weighIntoParent_9 rfl hl (by decide) rfl (fun ls hl => ?_)
        have hl : lv_has ls 4 [(2, .int v5), (0, .ref (b + r0)), (1, .int i1)] := hl
        refine lv_iconst (v := 0) hx hb d_JO_weighIntoParent_10 (by decide) ?_
        refine lv_istore_n hx hb d_JO_weighIntoParent_11 rfl hl (by decide) rfl (fun ls hl => ?_)
        have hl : lv_has ls 4 [(3, .int 0), (2, .int v5), (0, .ref (b + r0)), (1, .int i1)] := hl
        exact ih1 _ _ _ _ _ _ _ _ h hM (lv_sub hl [2, 3, 1, 0] rfl)
      · intro r0 i1 i2 i3 μ H locs ls h hM hl
        have h : B_JO_weighIntoParent_1 n (F_JO_weighIntoParent n) r0 i1 i2 i3 μ = some res := h
        unfold B_JO_weighIntoParent_1 at h
        refine lv_iload_n hx hb d_JO_weighIntoParent_12 rfl (lv_at hl 3 rfl) ?_
        refine lv_bipush (v := 12) hx hb d_JO_weighIntoParent_13 (by decide) ?_
        refine lv_icmp_ge (tgt := 72) hx hb d_JO_weighIntoParent_15 (by decide) (fun hc => ?_) (fun hc => ?_)
        · replace h := of_t hc h
          exact g_vret hx hb hr hlocks hM (Option.some.inj h) d_JO_weighIntoParent_72
        · replace h := of_f hc h
          refine lv_iload_n hx hb d_JO_weighIntoParent_18 rfl (lv_at hl 3 rfl) ?_
          refine lv_aload_n hx hb d_JO_weighIntoParent_19 rfl (lv_at hl 0 rfl) ?_
          obtain ⟨g6, h⟩ := of_g h
          obtain ⟨g7, h⟩ := of_g h
          refine g_get (C := "JoinedLeaves$Join") (T := T_JO) (N := 7) (ref := "JoinedLeaves$Join") (v := .ref (b + (mR μ r0 3))) hx hb hts jF_JO hown hK hM g6 (by decide) rfl 3 (by decide) (hts _ jm_1_45) (fun _ h9 => h9) (by decide) (rv_of (ok_0 g7)) d_JO_weighIntoParent_20 ?_
          refine lv_iconst (v := 0) hx hb d_JO_weighIntoParent_23 (by decide) ?_
          obtain ⟨g8, h⟩ := of_g h
          obtain ⟨g9, h⟩ := of_g h
          refine g_aald (ty := (.array .int)) hx hb hK hM 2 rfl rfl g7 g8 (ok_0 g9) d_JO_weighIntoParent_24 ?_
          refine lv_iload_n hx hb d_JO_weighIntoParent_25 rfl (lv_at hl 2 rfl) ?_
          obtain ⟨g10, h⟩ := of_g h
          refine g_iald hx hb hK hM g9 g10 d_JO_weighIntoParent_26 ?_
          obtain ⟨q11, hq11, h⟩ := of_b h
          refine g_calli (va_runSN (As := [.int i3, .int (mI μ (mR μ (mR μ r0 3) (Int32.toNatClampNeg 0)) (Int32.toNatClampNeg i2))]) (rest := []) ⟨hx, hb, hml, hown, hts⟩ (S_JL_isIn l D b cs i3 (mI μ (mR μ (mR μ r0 3) (Int32.toNatClampNeg 0)) (Int32.toNatClampNeg i2)) μ q11 n hq11) ⟨va_cnB 2 hts (goodIn_g jm_3_19) rfl rfl rfl (hK.2.1 _ jn_52) (hts _ jm_0_1) (by decide +kernel) ⟨Nat.le_of_ble_eq_true rfl, Nat.le_of_ble_eq_true rfl⟩, (hts _ jm_3_18), trivial⟩ (Wd.preS hK hM) rfl rfl hl.1 rfl (lv_room (Nat.le_of_ble_eq_true rfl)) d_JO_weighIntoParent_27 ⟨Nat.le_of_ble_eq_true rfl, Nat.le_of_ble_eq_true rfl⟩) hM (fun H locs hM => ?_)
          refine lv_if_eq (tgt := 66) hx hb d_JO_weighIntoParent_30 (by decide) (fun hc => ?_) (fun hc => ?_)
          · replace h := of_t hc h
            exact ih2 _ _ _ _ _ _ _ _ h hM (lv_sub hl [0, 1, 2, 3] rfl)
          · replace h := of_f hc h
            refine lv_aload_n hx hb d_JO_weighIntoParent_33 rfl (lv_at hl 0 rfl) ?_
            obtain ⟨g12, h⟩ := of_g h
            obtain ⟨g13, h⟩ := of_g h
            refine g_get (C := "JoinedLeaves$Join") (T := T_JO) (N := 7) (ref := "JoinedLeaves$Join") (v := .ref (b + (mR q11.2 r0 4))) hx hb hts jF_JO hown hK hM g12 (by decide) rfl 4 (by decide) (hts _ jm_1_46) (fun _ h9 => h9) (by decide) (rv_of (ok_0 g13)) d_JO_weighIntoParent_34 ?_
            refine lv_iload_n hx hb d_JO_weighIntoParent_37 rfl (lv_at hl 2 rfl) ?_
            obtain ⟨g14, h⟩ := of_g h
            obtain ⟨g15, h⟩ := of_g h
            refine g_aald (ty := (.array .long)) hx hb hK hM 3 rfl rfl g13 g14 (ok_0 g15) d_JO_weighIntoParent_38 ?_
            refine lv_iload_n hx hb d_JO_weighIntoParent_39 rfl (lv_at hl 3 rfl) ?_
            refine lv_dup2_11 hx hb d_JO_weighIntoParent_40 rfl rfl ?_
            obtain ⟨g16, h⟩ := of_g h
            refine g_lald hx hb hK hM g15 g16 d_JO_weighIntoParent_41 ?_
            refine lv_aload_n hx hb d_JO_weighIntoParent_42 rfl (lv_at hl 0 rfl) ?_
            refine lv_iload_n hx hb d_JO_weighIntoParent_43 rfl (lv_at hl 1 rfl) ?_
            refine lv_aload_n hx hb d_JO_weighIntoParent_44 rfl (lv_at hl 0 rfl) ?_
            obtain ⟨g17, h⟩ := of_g h
            refine g_get (C := "JoinedLeaves$Join") (T := T_JO) (N := 7) (ref := "JoinedLeaves$Join") (v := .ref (b + (mR q11.2 r0 2))) hx hb hts jF_JO hown hK hM g12 (by decide) rfl 2 (by decide) (hts _ jm_1_44) (fun _ h9 => h9) (by decide) (rv_of (ok_0 g17)) d_JO_weighIntoParent_45 ?_
            refine lv_iload_n hx hb d_JO_weighIntoParent_48 rfl (lv_at hl 1 rfl) ?_
            obtain ⟨g18, h⟩ := of_g h
            obtain ⟨g19, h⟩ := of_g h
            refine g_aald (ty := (.array .int)) hx hb hK hM 2 rfl rfl g17 g18 (ok_0 g19) d_JO_weighIntoParent_49 ?_
            refine lv_iload_n hx hb d_JO_weighIntoParent_50 rfl (lv_at hl 3 rfl) ?_
            obtain ⟨g20, h⟩ := of_g h
            refine g_iald hx hb hK hM g19 g20 d_JO_weighIntoParent_51 ?_
            refine lv_aload_n hx hb d_JO_weighIntoParent_52 rfl (lv_at hl 0 rfl) ?_
            obtain ⟨g21, h⟩ := of_g h
            refine g_get (C := "JoinedLeaves$Join") (T := T_JO) (N := 7) (ref := "JoinedLeaves$Join") (v := .ref (b + (mR q11.2 r0 3))) hx hb hts jF_JO hown hK hM g12 (by decide) rfl 3 (by decide) (hts _ jm_1_45) (fun _ h9 => h9) (by decide) (rv_of (ok_0 g21)) d_JO_weighIntoParent_53 ?_
            refine lv_iconst (v := 0) hx hb d_JO_weighIntoParent_56 (by decide) ?_
            obtain ⟨g22, h⟩ := of_g h
            obtain ⟨g23, h⟩ := of_g h
            refine g_aald (ty := (.array .int)) hx hb hK hM 2 rfl rfl g21 g22 (ok_0 g23) d_JO_weighIntoParent_57 ?_
            refine lv_iload_n hx hb d_JO_weighIntoParent_58 rfl (lv_at hl 1 rfl) ?_
            obtain ⟨g24, h⟩ := of_g h
            refine g_iald hx hb hK hM g23 g24 d_JO_weighIntoParent_59 ?_
            refine lv_iand hx hb d_JO_weighIntoParent_60 ?_
            obtain ⟨q25, hq25, h⟩ := of_b h
            refine g_calll (va_runV (As := [.int i1, .int ((mI q11.2 (mR q11.2 (mR q11.2 r0 2) (Int32.toNatClampNeg i1)) (Int32.toNatClampNeg i3)) &&& (mI q11.2 (mR q11.2 (mR q11.2 r0 3) (Int32.toNatClampNeg 0)) (Int32.toNatClampNeg i1)))]) (rest := [.long (mL q11.2 (mR q11.2 (mR q11.2 r0 4) (Int32.toNatClampNeg i2)) (Int32.toNatClampNeg i3)), .int i3, .ref (b + (mR q11.2 (mR q11.2 r0 4) (Int32.toNatClampNeg i2)))]) ⟨hx, hb, hml, hown, hts⟩ (S_JO_weightOf l D b cs r0 i1 ((mI q11.2 (mR q11.2 (mR q11.2 r0 2) (Int32.toNatClampNeg i1)) (Int32.toNatClampNeg i3)) &&& (mI q11.2 (mR q11.2 (mR q11.2 r0 3) (Int32.toNatClampNeg 0)) (Int32.toNatClampNeg i1))) q11.2 q25 n hq25) ⟨callB_of 2 hts (goodIn_g jm_5_41) rfl rfl rfl (hts _ jm_0_6) (hts _ jm_5_39) (by decide +kernel) ⟨Nat.le_of_ble_eq_true rfl, Nat.le_of_ble_eq_true rfl⟩, (hts _ jm_5_40), (hts _ jm_11_45)⟩ (Wd.preV hK hM g12 rfl (by decide)) rfl rfl hl.1 rfl (lv_room (Nat.le_of_ble_eq_true rfl)) d_JO_weighIntoParent_61 ⟨Nat.le_of_ble_eq_true rfl, Nat.le_of_ble_eq_true rfl⟩) hM (fun H locs hM => ?_)
            refine lv_lmul hx hb d_JO_weighIntoParent_64 ?_
            obtain ⟨g26, h⟩ := of_g h
            obtain ⟨g27, h⟩ := of_g h
            obtain ⟨μ28, e_μ28, h⟩ := of_b h
            obtain rfl := Option.some.inj e_μ28
            refine g_last (v := (mL q11.2 (mR q11.2 (mR q11.2 r0 4) (Int32.toNatClampNeg i2)) (Int32.toNatClampNeg i3)) * q25.1) hx hb hK hM g26 g27 d_JO_weighIntoParent_65 (fun H locs hM => ?_)
            exact ih2 _ _ _ _ _ _ _ _ h hM (lv_sub hl [0, 1, 2, 3] rfl)
      · intro r0 i1 i2 i3 μ H locs ls h hM hl
        have h : B_JO_weighIntoParent_2 n (F_JO_weighIntoParent n) r0 i1 i2 i3 μ = some res := h
        unfold B_JO_weighIntoParent_2 at h
        obtain ⟨v29, e_v29, h⟩ := of_b h
        refine lv_iinc (v := v29) hx hb d_JO_weighIntoParent_66 hl (k := 3) rfl (by rw [lit1]; exact Option.some.inj e_v29) (by decide) rfl (fun ls hl => ?_)
        have hl : lv_has ls 4 [(3, .int v29), (0, .ref (b + r0)), (1, .int i1), (2, .int i2)] := hl
        refine lv_goto (tgt := 12) hx hb d_JO_weighIntoParent_69 (by decide) ?_
        exact ih1 _ _ _ _ _ _ _ _ h hM (lv_sub hl [1, 2, 3, 0] rfl)
  exact (key n).1 _ _ _ _ _ _ _ _ h hM hl
abbrev w_JO_countWays : List Cond := .code y_JO_countWays b_JO_countWays 3 (Option.some Jvm.ClassFile.FieldType.long) :: jW
def B_JO_countWays_0 (n : Nat) (k : Nat → Nat → Int32 → Int32 → Mem → Option (Int64 × Mem)) (r0 : Nat) (i1 : Int32) (i2 : Int32) (μ : Mem) : Option (Int64 × Mem) :=
  if ok μ r0 4 = true then if ok μ (mR μ r0 1) 3 = true then Option.bind (C_HA_root n (mR μ r0 1) μ) (fun q3 => if q3.1 = (-1) then some (1, q3.2) else if ok q3.2 r0 4 = true then Option.bind (C_JO_compareRows n r0 q3.2) (fun q5 => if ok q5 r0 4 = true then Option.bind (C_JO_startWeights n r0 q5) (fun q7 => k 1 r0 q3.1 0 q7) else none) else none) else none else none
def B_JO_countWays_1 (n : Nat) (k : Nat → Nat → Int32 → Int32 → Mem → Option (Int64 × Mem)) (r0 : Nat) (i1 : Int32) (i2 : Int32) (μ : Mem) : Option (Int64 × Mem) :=
  if ok μ r0 4 = true then if ok μ (mR μ r0 1) 3 = true then if (mI μ (mR μ r0 1) 4) ≤ i2 then if ok μ (mR μ r0 3) 104 = true then if ib 0 (mZ μ (mR μ r0 3)) = true then if ok μ (mR μ (mR μ r0 3) (Int32.toNatClampNeg 0)) 100 = true then if ib i1 (mZ μ (mR μ (mR μ r0 3) (Int32.toNatClampNeg 0))) = true then Option.bind (C_JO_weightOf n r0 i1 (mI μ (mR μ (mR μ r0 3) (Int32.toNatClampNeg 0)) (Int32.toNatClampNeg i1)) μ) (fun q14 => some (q14.1, q14.2)) else none else none else none else none else if ok μ (mR μ (mR μ r0 1) 3) 100 = true then if ib i2 (mZ μ (mR μ (mR μ r0 1) 3)) = true then Option.bind (C_JO_weighIntoParent n r0 (mI μ (mR μ (mR μ r0 1) 3) (Int32.toNatClampNeg i2)) μ) (fun q17 => Option.bind (some (i2 + 1)) (fun v18 => k 1 r0 i1 v18 q17)) else none else none else none else none
def F_JO_countWays : Nat → Nat → Nat → Int32 → Int32 → Mem → Option (Int64 × Mem)
  | 0 => fun _ _ _ _ _ => none
  | n + 1 => fun id r0 i1 i2 μ => match id with
    | 0 => B_JO_countWays_0 n (F_JO_countWays n) r0 i1 i2 μ
    | 1 => B_JO_countWays_1 n (F_JO_countWays n) r0 i1 i2 μ
    | _ => none
def C_JO_countWays (n : Nat) (r0 : Nat) (μ : Mem) : Option (Int64 × Mem) := F_JO_countWays n 0 r0 0 0 μ
set_option maxHeartbeats 4000000 in
set_option maxRecDepth 100000 in
theorem S_JO_countWays (l : Launch) (D : va_G) (b : Nat) (cs : Nat → ClassId) (u_r0 : Nat) (ν : Mem) (res : Int64 × Mem) (n : Nat) (h : C_JO_countWays n u_r0 ν = some res) : MetL l y_JO_countWays w_JO_countWays 4 96 b cs D ν [.ref (b + u_r0)] res := by
  refine Met.ofW (cc := b_JO_countWays) (maxL := 3) (ret := (Option.some Jvm.ClassFile.FieldType.long)) (by decide) rfl ?_
  intro p e s m args below meth c s₁ B hml hv
  obtain ⟨rfl, hK, hM⟩ := Wd.start hv
  have hx := B.exec
  have hb := B.bytes
  have hr := B.returns
  have hts : ∀ w ∈ jW, w.before _ s = true := fun w hw => atoms_spec (ws := w_JO_countWays) B.pre w (List.mem_cons_of_mem _ hw)
  have hown : s.vm.findClass "JoinedLeaves$Join" = some m.cls := findClass_of_methodNamed B.named
  have hlocks := B.notSynchronized
  have hl := lv_entry ([.ref (b + u_r0)]) (n := 3) (Nat.le_of_ble_eq_true rfl)
  rw [lg_entry_eq]
  generalize (lg_sl ([.ref (b + u_r0)]) ++ List.replicate (3 - (lg_sl ([.ref (b + u_r0)])).length) Slot.unset).toArray = ls at hl ⊢
  have hl : lv_has ls 3 [(0, .ref (b + u_r0))] := hl
  have key : ∀ N : Nat, (∀ (r0 : Nat) (i1 : Int32) (i2 : Int32) (μ : Mem) (H : Heap) (locs : List Loc) (ls : Array Slot), F_JO_countWays N 0 r0 i1 i2 μ = some res → Wd (Aw b (mN ν)) b cs D s.heap μ H locs → lv_has ls 3 [(0, .ref (b + r0))] → W p l e (headSpec w_JO_countWays { frames := 4, cells := 0, slots := 0, locals := 96 }).room s m ([.ref (b + u_r0)]).toArray below meth c H locs 0 0 (MQ below (va_Ql (fun r μ' => (r, μ') = res ∧ mN μ' ≤ mN ν) (Bw b cs D) (Aw b (mN ν))) ([.ref (b + u_r0)]).toArray s 0 0 (Aw b (mN ν))) (F0 m 0 ls [])) ∧
      (∀ (r0 : Nat) (i1 : Int32) (i2 : Int32) (μ : Mem) (H : Heap) (locs : List Loc) (ls : Array Slot), F_JO_countWays N 1 r0 i1 i2 μ = some res → Wd (Aw b (mN ν)) b cs D s.heap μ H locs → lv_has ls 3 [(0, .ref (b + r0)), (1, .int i1), (2, .int i2)] → W p l e (headSpec w_JO_countWays { frames := 4, cells := 0, slots := 0, locals := 96 }).room s m ([.ref (b + u_r0)]).toArray below meth c H locs 0 0 (MQ below (va_Ql (fun r μ' => (r, μ') = res ∧ mN μ' ≤ mN ν) (Bw b cs D) (Aw b (mN ν))) ([.ref (b + u_r0)]).toArray s 0 0 (Aw b (mN ν))) (F0 m 25 ls [])) := by
    intro N
    induction N with
    | zero => exact ⟨fun _ _ _ _ _ _ _ h => (nomatch h), fun _ _ _ _ _ _ _ h => (nomatch h)⟩
    | succ n ih =>
      obtain ⟨ih0, ih1⟩ := ih
      refine ⟨?_, ?_⟩
      · intro r0 i1 i2 μ H locs ls h hM hl
        have h : B_JO_countWays_0 n (F_JO_countWays n) r0 i1 i2 μ = some res := h
        unfold B_JO_countWays_0 at h
        refine lv_aload_n hx hb d_JO_countWays_0 rfl (lv_at hl 0 rfl) ?_
        obtain ⟨g1, h⟩ := of_g h
        obtain ⟨g2, h⟩ := of_g h
        refine g_get (C := "JoinedLeaves$Join") (T := T_JO) (N := 7) (ref := "JoinedLeaves$Join") (v := .ref (b + (mR μ r0 1))) hx hb hts jF_JO hown hK hM g1 (by decide) rfl 1 (by decide) (hts _ jm_1_43) (fun _ h9 => h9) (by decide) (rv_of (ok_0 g2)) d_JO_countWays_1 ?_
        obtain ⟨q3, hq3, h⟩ := of_b h
        refine g_calli (va_runVN (As := []) (rest := []) ⟨hx, hb, hml, hown, hts⟩ (S_HA_root l D b cs (mR μ r0 1) μ q3 n hq3) ⟨va_cnB 0 hts (goodIn_g jm_5_17) rfl rfl rfl (hK.2.1 _ jn_48) (hts _ jm_0_5) (by decide +kernel) ⟨Nat.le_of_ble_eq_true rfl, Nat.le_of_ble_eq_true rfl⟩, (hts _ jm_5_16), (hts _ jm_11_36)⟩ (Wd.preV hK hM g2 rfl (by decide)) rfl rfl hl.1 rfl (lv_room (Nat.le_of_ble_eq_true rfl)) d_JO_countWays_4 ⟨Nat.le_of_ble_eq_true rfl, Nat.le_of_ble_eq_true rfl⟩) hM (fun H locs hM => ?_)
        refine lv_istore_n hx hb d_JO_countWays_7 rfl hl (by decide) rfl (fun ls hl => ?_)
        have hl : lv_has ls 3 [(1, .int q3.1), (0, .ref (b + r0))] := hl
        refine lv_iload_n hx hb d_JO_countWays_8 rfl (lv_at hl 0 rfl) ?_
        refine lv_iconst (v := (-1)) hx hb d_JO_countWays_9 (by decide) ?_
        refine lv_icmp_ne (tgt := 15) hx hb d_JO_countWays_10 (by decide) (fun hc => ?_) (fun hc => ?_)
        · replace h := of_f hc h
          refine lv_aload_n hx hb d_JO_countWays_15 rfl (lv_at hl 1 rfl) ?_
          obtain ⟨g4, h⟩ := of_g h
          obtain ⟨q5, hq5, h⟩ := of_b h
          refine g_callv (va_runV (As := []) (rest := []) ⟨hx, hb, hml, hown, hts⟩ (S_JO_compareRows l D b cs r0 q3.2 q5 n hq5) ⟨callB_of 0 hts (goodIn_g jm_5_20) rfl rfl rfl (hts _ jm_0_6) (hts _ jm_5_18) (by decide +kernel) ⟨Nat.le_of_ble_eq_true rfl, Nat.le_of_ble_eq_true rfl⟩, (hts _ jm_5_19), (hts _ jm_11_37)⟩ (Wd.preV hK hM g4 rfl (by decide)) rfl rfl hl.1 rfl (lv_room (Nat.le_of_ble_eq_true rfl)) d_JO_countWays_16 ⟨Nat.le_of_ble_eq_true rfl, Nat.le_of_ble_eq_true rfl⟩) hM (fun H locs hM => ?_)
          refine lv_aload_n hx hb d_JO_countWays_19 rfl (lv_at hl 1 rfl) ?_
          obtain ⟨g6, h⟩ := of_g h
          obtain ⟨q7, hq7, h⟩ := of_b h
          refine g_callv (va_runV (As := []) (rest := []) ⟨hx, hb, hml, hown, hts⟩ (S_JO_startWeights l D b cs r0 q5 q7 n hq7) ⟨callB_of 0 hts (goodIn_g jm_5_35) rfl rfl rfl (hts _ jm_0_6) (hts _ jm_5_33) (by decide +kernel) ⟨Nat.le_of_ble_eq_true rfl, Nat.le_of_ble_eq_true rfl⟩, (hts _ jm_5_34), (hts _ jm_11_43)⟩ (Wd.preV hK hM g6 rfl (by decide)) rfl rfl hl.1 rfl (lv_room (Nat.le_of_ble_eq_true rfl)) d_JO_countWays_20 ⟨Nat.le_of_ble_eq_true rfl, Nat.le_of_ble_eq_true rfl⟩) hM (fun H locs hM => ?_)
          refine lv_iconst (v := 0) hx hb d_JO_countWays_23 (by decide) ?_
          refine lv_istore_n hx hb d_JO_countWays_24 rfl hl (by decide) rfl (fun ls hl => ?_)
          have hl : lv_has ls 3 [(2, .int 0), (1, .int q3.1), (0, .ref (b + r0))] := hl
          exact ih1 _ _ _ _ _ _ _ h hM (lv_sub hl [2, 1, 0] rfl)
        · replace h := of_t hc h
          refine lv_lconst (v := 1) hx hb d_JO_countWays_13 (by decide) ?_
          exact g_lret hx hb hr hlocks hM (Option.some.inj h) d_JO_countWays_14
      · intro r0 i1 i2 μ H locs ls h hM hl
        have h : B_JO_countWays_1 n (F_JO_countWays n) r0 i1 i2 μ = some res := h
        unfold B_JO_countWays_1 at h
        refine lv_iload_n hx hb d_JO_countWays_25 rfl (lv_at hl 2 rfl) ?_
        refine lv_aload_n hx hb d_JO_countWays_26 rfl (lv_at hl 0 rfl) ?_
        obtain ⟨g8, h⟩ := of_g h
        obtain ⟨g9, h⟩ := of_g h
        refine g_get (C := "JoinedLeaves$Join") (T := T_JO) (N := 7) (ref := "JoinedLeaves$Join") (v := .ref (b + (mR μ r0 1))) hx hb hts jF_JO hown hK hM g8 (by decide) rfl 1 (by decide) (hts _ jm_1_43) (fun _ h9 => h9) (by decide) (rv_of (ok_0 g9)) d_JO_countWays_27 ?_
        refine g_getN (C := "JoinedLeaves$Hanging") (T := T_HA) (N := 6) (ref := "JoinedLeaves$Hanging") (v := .int (mI μ (mR μ r0 1) 4)) hx hb hts jF_HA hown hK hM g9 (by decide) rfl 4 (by decide) (hK.nest _ jn_24 rfl) (fun _ h9 => h9) (by decide) rfl d_JO_countWays_30 ?_
        refine lv_icmp_ge (tgt := 55) hx hb d_JO_countWays_33 (by decide) (fun hc => ?_) (fun hc => ?_)
        · replace h := of_t hc h
          refine lv_aload_n hx hb d_JO_countWays_55 rfl (lv_at hl 0 rfl) ?_
          refine lv_iload_n hx hb d_JO_countWays_56 rfl (lv_at hl 1 rfl) ?_
          refine lv_aload_n hx hb d_JO_countWays_57 rfl (lv_at hl 0 rfl) ?_
          obtain ⟨g10, h⟩ := of_g h
          refine g_get (C := "JoinedLeaves$Join") (T := T_JO) (N := 7) (ref := "JoinedLeaves$Join") (v := .ref (b + (mR μ r0 3))) hx hb hts jF_JO hown hK hM g8 (by decide) rfl 3 (by decide) (hts _ jm_1_45) (fun _ h9 => h9) (by decide) (rv_of (ok_0 g10)) d_JO_countWays_58 ?_
          refine lv_iconst (v := 0) hx hb d_JO_countWays_61 (by decide) ?_
          obtain ⟨g11, h⟩ := of_g h
          obtain ⟨g12, h⟩ := of_g h
          refine g_aald (ty := (.array .int)) hx hb hK hM 2 rfl rfl g10 g11 (ok_0 g12) d_JO_countWays_62 ?_
          refine lv_iload_n hx hb d_JO_countWays_63 rfl (lv_at hl 1 rfl) ?_
          obtain ⟨g13, h⟩ := of_g h
          refine g_iald hx hb hK hM g12 g13 d_JO_countWays_64 ?_
          obtain ⟨q14, hq14, h⟩ := of_b h
          refine g_calll (va_runV (As := [.int i1, .int (mI μ (mR μ (mR μ r0 3) (Int32.toNatClampNeg 0)) (Int32.toNatClampNeg i1))]) (rest := []) ⟨hx, hb, hml, hown, hts⟩ (S_JO_weightOf l D b cs r0 i1 (mI μ (mR μ (mR μ r0 3) (Int32.toNatClampNeg 0)) (Int32.toNatClampNeg i1)) μ q14 n hq14) ⟨callB_of 2 hts (goodIn_g jm_5_41) rfl rfl rfl (hts _ jm_0_6) (hts _ jm_5_39) (by decide +kernel) ⟨Nat.le_of_ble_eq_true rfl, Nat.le_of_ble_eq_true rfl⟩, (hts _ jm_5_40), (hts _ jm_11_45)⟩ (Wd.preV hK hM g8 rfl (by decide)) rfl rfl hl.1 rfl (lv_room (Nat.le_of_ble_eq_true rfl)) d_JO_countWays_65 ⟨Nat.le_of_ble_eq_true rfl, Nat.le_of_ble_eq_true rfl⟩) hM (fun H locs hM => ?_)
          exact g_lret hx hb hr hlocks hM (Option.some.inj h) d_JO_countWays_68
        · replace h := of_f hc h
          refine lv_aload_n hx hb d_JO_countWays_36 rfl (lv_at hl 0 rfl) ?_
          refine lv_aload_n hx hb d_JO_countWays_37 rfl (lv_at hl 0 rfl) ?_
          refine g_get (C := "JoinedLeaves$Join") (T := T_JO) (N := 7) (ref := "JoinedLeaves$Join") (v := .ref (b + (mR μ r0 1))) hx hb hts jF_JO hown hK hM g8 (by decide) rfl 1 (by decide) (hts _ jm_1_43) (fun _ h9 => h9) (by decide) (rv_of (ok_0 g9)) d_JO_countWays_38 ?_
          obtain ⟨g15, h⟩ := of_g h
          refine g_getN (C := "JoinedLeaves$Hanging") (T := T_HA) (N := 6) (ref := "JoinedLeaves$Hanging") (v := .ref (b + (mR μ (mR μ r0 1) 3))) hx hb hts jF_HA hown hK hM g9 (by decide) rfl 3 (by decide) (hK.nest _ jn_23 rfl) (fun _ h9 => h9) (by decide) (rv_of (ok_0 g15)) d_JO_countWays_41 ?_
          refine lv_iload_n hx hb d_JO_countWays_44 rfl (lv_at hl 2 rfl) ?_
          obtain ⟨g16, h⟩ := of_g h
          refine g_iald hx hb hK hM g15 g16 d_JO_countWays_45 ?_
          obtain ⟨q17, hq17, h⟩ := of_b h
          refine g_callv (va_runV (As := [.int (mI μ (mR μ (mR μ r0 1) 3) (Int32.toNatClampNeg i2))]) (rest := []) ⟨hx, hb, hml, hown, hts⟩ (S_JO_weighIntoParent l D b cs r0 (mI μ (mR μ (mR μ r0 1) 3) (Int32.toNatClampNeg i2)) μ q17 n hq17) ⟨callB_of 1 hts (goodIn_g jm_5_38) rfl rfl rfl (hts _ jm_0_6) (hts _ jm_5_36) (by decide +kernel) ⟨Nat.le_of_ble_eq_true rfl, Nat.le_of_ble_eq_true rfl⟩, (hts _ jm_5_37), (hts _ jm_11_44)⟩ (Wd.preV hK hM g8 rfl (by decide)) rfl rfl hl.1 rfl (lv_room (Nat.le_of_ble_eq_true rfl)) d_JO_countWays_46 ⟨Nat.le_of_ble_eq_true rfl, Nat.le_of_ble_eq_true rfl⟩) hM (fun H locs hM => ?_)
          obtain ⟨v18, e_v18, h⟩ := of_b h
          refine lv_iinc (v := v18) hx hb d_JO_countWays_49 hl (k := 2) rfl (by rw [lit1]; exact Option.some.inj e_v18) (by decide) rfl (fun ls hl => ?_)
          have hl : lv_has ls 3 [(2, .int v18), (0, .ref (b + r0)), (1, .int i1)] := hl
          refine lv_goto (tgt := 25) hx hb d_JO_countWays_52 (by decide) ?_
          exact ih1 _ _ _ _ _ _ _ h hM (lv_sub hl [1, 2, 0] rfl)
  exact (key n).1 _ _ _ _ _ _ _ h hM hl
abbrev w_JO_keepRowsOfParent : List Cond := .code y_JO_keepRowsOfParent b_JO_keepRowsOfParent 5 (Option.none : Option Jvm.ClassFile.FieldType) :: jW
def B_JO_keepRowsOfParent_0 (n : Nat) (k : Nat → Nat → Nat → Int32 → Int32 → Int32 → Mem → Option (Mem)) (r0 : Nat) (r1 : Nat) (i2 : Int32) (i3 : Int32) (i4 : Int32) (μ : Mem) : Option (Mem) :=
  if ok μ r0 4 = true then if ok μ (mR μ r0 1) 3 = true then if ok μ (mR μ (mR μ r0 1) 1) 100 = true then if ib i2 (mZ μ (mR μ (mR μ r0 1) 1)) = true then Option.bind (some (mI μ (mR μ (mR μ r0 1) 1) (Int32.toNatClampNeg i2))) (fun v5 => k 1 r0 r1 i2 v5 0 μ) else none else none else none else none
def B_JO_keepRowsOfParent_1 (n : Nat) (k : Nat → Nat → Nat → Int32 → Int32 → Int32 → Mem → Option (Mem)) (r0 : Nat) (r1 : Nat) (i2 : Int32) (i3 : Int32) (i4 : Int32) (μ : Mem) : Option (Mem) :=
  if 12 ≤ i4 then some μ else if ok μ r1 100 = true then if ib i3 (mZ μ r1) = true then Option.bind (C_JL_isIn n i4 (mI μ r1 (Int32.toNatClampNeg i3)) μ) (fun q8 => if q8.1 = 0 then k 2 r0 r1 i2 i3 i4 q8.2 else if ok q8.2 r0 4 = true then if ok q8.2 (mR q8.2 r0 2) 104 = true then if ib i2 (mZ q8.2 (mR q8.2 r0 2)) = true then if ok q8.2 (mR q8.2 (mR q8.2 r0 2) (Int32.toNatClampNeg i2)) 100 = true then if ib i4 (mZ q8.2 (mR q8.2 (mR q8.2 r0 2) (Int32.toNatClampNeg i2))) = true then if ok q8.2 r1 100 = true then if ib i2 (mZ q8.2 r1) = true then if ((mI q8.2 (mR q8.2 (mR q8.2 r0 2) (Int32.toNatClampNeg i2)) (Int32.toNatClampNeg i4)) &&& (mI q8.2 r1 (Int32.toNatClampNeg i2))) = 0 then if ib i3 (mZ q8.2 r1) = true then if ib i3 (mZ q8.2 r1) = true then Option.bind (some (sI q8.2 r1 (Int32.toNatClampNeg i3) ((mI q8.2 r1 (Int32.toNatClampNeg i3)) &&& ((1 <<< (i4 &&& 31)) ^^^ (-1))))) (fun μ18 => k 2 r0 r1 i2 i3 i4 μ18) else none else none else k 2 r0 r1 i2 i3 i4 q8.2 else none else none else none else none else none else none else none) else none else none
def B_JO_keepRowsOfParent_2 (n : Nat) (k : Nat → Nat → Nat → Int32 → Int32 → Int32 → Mem → Option (Mem)) (r0 : Nat) (r1 : Nat) (i2 : Int32) (i3 : Int32) (i4 : Int32) (μ : Mem) : Option (Mem) :=
  Option.bind (some (i4 + 1)) (fun v19 => k 1 r0 r1 i2 i3 v19 μ)
def F_JO_keepRowsOfParent : Nat → Nat → Nat → Nat → Int32 → Int32 → Int32 → Mem → Option (Mem)
  | 0 => fun _ _ _ _ _ _ _ => none
  | n + 1 => fun id r0 r1 i2 i3 i4 μ => match id with
    | 0 => B_JO_keepRowsOfParent_0 n (F_JO_keepRowsOfParent n) r0 r1 i2 i3 i4 μ
    | 1 => B_JO_keepRowsOfParent_1 n (F_JO_keepRowsOfParent n) r0 r1 i2 i3 i4 μ
    | 2 => B_JO_keepRowsOfParent_2 n (F_JO_keepRowsOfParent n) r0 r1 i2 i3 i4 μ
    | _ => none
def C_JO_keepRowsOfParent (n : Nat) (r0 : Nat) (r1 : Nat) (i2 : Int32) (μ : Mem) : Option (Mem) := F_JO_keepRowsOfParent n 0 r0 r1 i2 0 0 μ
set_option maxHeartbeats 4000000 in
set_option maxRecDepth 100000 in
theorem S_JO_keepRowsOfParent (l : Launch) (D : va_G) (b : Nat) (cs : Nat → ClassId) (u_r0 : Nat) (u_r1 : Nat) (u_i2 : Int32) (ν : Mem) (res : Mem) (n : Nat) (h : C_JO_keepRowsOfParent n u_r0 u_r1 u_i2 ν = some res) : MetV l y_JO_keepRowsOfParent w_JO_keepRowsOfParent 1 21 b cs D ν [.ref (b + u_r0), .ref (b + u_r1), .int u_i2] res := by
  refine Met.ofW (cc := b_JO_keepRowsOfParent) (maxL := 5) (ret := (Option.none : Option Jvm.ClassFile.FieldType)) (by decide) rfl ?_
  intro p e s m args below meth c s₁ B hml hv
  obtain ⟨rfl, hK, hM⟩ := Wd.start hv
  have hx := B.exec
  have hb := B.bytes
  have hr := B.returns
  have hts : ∀ w ∈ jW, w.before _ s = true := fun w hw => atoms_spec (ws := w_JO_keepRowsOfParent) B.pre w (List.mem_cons_of_mem _ hw)
  have hown : s.vm.findClass "JoinedLeaves$Join" = some m.cls := findClass_of_methodNamed B.named
  have hlocks := B.notSynchronized
  have hl := lv_entry ([.ref (b + u_r0), .ref (b + u_r1), .int u_i2]) (n := 5) (Nat.le_of_ble_eq_true rfl)
  rw [lg_entry_eq]
  generalize (lg_sl ([.ref (b + u_r0), .ref (b + u_r1), .int u_i2]) ++ List.replicate (5 - (lg_sl ([.ref (b + u_r0), .ref (b + u_r1), .int u_i2])).length) Slot.unset).toArray = ls at hl ⊢
  have hl : lv_has ls 5 [(0, .ref (b + u_r0)), (1, .ref (b + u_r1)), (2, .int u_i2)] := hl
  have key : ∀ N : Nat, (∀ (r0 : Nat) (r1 : Nat) (i2 : Int32) (i3 : Int32) (i4 : Int32) (μ : Mem) (H : Heap) (locs : List Loc) (ls : Array Slot), F_JO_keepRowsOfParent N 0 r0 r1 i2 i3 i4 μ = some res → Wd (Aw b (mN ν)) b cs D s.heap μ H locs → lv_has ls 5 [(0, .ref (b + r0)), (1, .ref (b + r1)), (2, .int i2)] → W p l e (headSpec w_JO_keepRowsOfParent { frames := 1, cells := 0, slots := 0, locals := 21 }).room s m ([.ref (b + u_r0), .ref (b + u_r1), .int u_i2]).toArray below meth c H locs 0 0 (MQ below (va_Qv (fun μ' => μ' = res ∧ mN μ' ≤ mN ν) (Bw b cs D) (Aw b (mN ν))) ([.ref (b + u_r0), .ref (b + u_r1), .int u_i2]).toArray s 0 0 (Aw b (mN ν))) (F0 m 0 ls [])) ∧
      (∀ (r0 : Nat) (r1 : Nat) (i2 : Int32) (i3 : Int32) (i4 : Int32) (μ : Mem) (H : Heap) (locs : List Loc) (ls : Array Slot), F_JO_keepRowsOfParent N 1 r0 r1 i2 i3 i4 μ = some res → Wd (Aw b (mN ν)) b cs D s.heap μ H locs → lv_has ls 5 [(0, .ref (b + r0)), (1, .ref (b + r1)), (2, .int i2), (3, .int i3), (4, .int i4)] → W p l e (headSpec w_JO_keepRowsOfParent { frames := 1, cells := 0, slots := 0, locals := 21 }).room s m ([.ref (b + u_r0), .ref (b + u_r1), .int u_i2]).toArray below meth c H locs 0 0 (MQ below (va_Qv (fun μ' => μ' = res ∧ mN μ' ≤ mN ν) (Bw b cs D) (Aw b (mN ν))) ([.ref (b + u_r0), .ref (b + u_r1), .int u_i2]).toArray s 0 0 (Aw b (mN ν))) (F0 m 13 ls [])) ∧
      (∀ (r0 : Nat) (r1 : Nat) (i2 : Int32) (i3 : Int32) (i4 : Int32) (μ : Mem) (H : Heap) (locs : List Loc) (ls : Array Slot), F_JO_keepRowsOfParent N 2 r0 r1 i2 i3 i4 μ = some res → Wd (Aw b (mN ν)) b cs D s.heap μ H locs → lv_has ls 5 [(0, .ref (b + r0)), (1, .ref (b + r1)), (2, .int i2), (3, .int i3), (4, .int i4)] → W p l e (headSpec w_JO_keepRowsOfParent { frames := 1, cells := 0, slots := 0, locals := 21 }).room s m ([.ref (b + u_r0), .ref (b + u_r1), .int u_i2]).toArray below meth c H locs 0 0 (MQ below (va_Qv (fun μ' => μ' = res ∧ mN μ' ≤ mN ν) (Bw b cs D) (Aw b (mN ν))) ([.ref (b + u_r0), .ref (b + u_r1), .int u_i2]).toArray s 0 0 (Aw b (mN ν))) (F0 m 59 ls [])) := by
    intro N
    induction N with
    | zero => exact ⟨fun _ _ _ _ _ _ _ _ _ h => (nomatch h), fun _ _ _ _ _ _ _ _ _ h => (nomatch h), fun _ _ _ _ _ _ _ _ _ h => (nomatch h)⟩
    | succ n ih =>
      obtain ⟨ih0, ih1, ih2⟩ := ih
      refine ⟨?_, ?_, ?_⟩
      · intro r0 r1 i2 i3 i4 μ H locs ls h hM hl
        have h : B_JO_keepRowsOfParent_0 n (F_JO_keepRowsOfParent n) r0 r1 i2 i3 i4 μ = some res := h
        unfold B_JO_keepRowsOfParent_0 at h
        refine lv_aload_n hx hb d_JO_keepRowsOfParent_0 rfl (lv_at hl 0 rfl) ?_
        obtain ⟨g1, h⟩ := of_g h
        obtain ⟨g2, h⟩ := of_g h
        refine g_get (C := "JoinedLeaves$Join") (T := T_JO) (N := 7) (ref := "JoinedLeaves$Join") (v := .ref (b + (mR μ r0 1))) hx hb hts jF_JO hown hK hM g1 (by decide) rfl 1 (by decide) (hts _ jm_1_43) (fun _ h9 => h9) (by decide) (rv_of (ok_0 g2)) d_JO_keepRowsOfParent_1 ?_
        obtain ⟨g3, h⟩ := of_g h
        refine g_getN (C := "JoinedLeaves$Hanging") (T := T_HA) (N := 6) (ref := "JoinedLeaves$Hanging") (v := .ref (b + (mR μ (mR μ r0 1) 1))) hx hb hts jF_HA hown hK hM g2 (by decide) rfl 1 (by decide) (hK.nest _ jn_20 rfl) (fun _ h9 => h9) (by decide) (rv_of (ok_0 g3)) d_JO_keepRowsOfParent_4 ?_
        refine lv_iload_n hx hb d_JO_keepRowsOfParent_7 rfl (lv_at hl 2 rfl) ?_
        obtain ⟨g4, h⟩ := of_g h
        refine g_iald hx hb hK hM g3 g4 d_JO_keepRowsOfParent_8 ?_
        obtain ⟨v5, e_v5, h⟩ := of_b h
        refine top_i (Option.some.inj e_v5) ?_
        refine lv_istore_n hx hb d_JO_keepRowsOfParent_9 rfl hl (by decide) rfl (fun ls hl => ?_)
        have hl : lv_has ls 5 [(3, .int v5), (0, .ref (b + r0)), (1, .ref (b + r1)), (2, .int i2)] := hl
        refine lv_iconst (v := 0) hx hb d_JO_keepRowsOfParent_10 (by decide) ?_
        refine lv_istore hx hb d_JO_keepRowsOfParent_11 hl (by decide) rfl (fun ls hl => ?_)
        have hl : lv_has ls 5 [(4, .int 0), (3, .int v5), (0, .ref (b + r0)), (1, .ref (b + r1)), (2, .int i2)] := hl
        exact ih1 _ _ _ _ _ _ _ _ _ h hM (lv_sub hl [2, 3, 4, 1, 0] rfl)
      · intro r0 r1 i2 i3 i4 μ H locs ls h hM hl
        have h : B_JO_keepRowsOfParent_1 n (F_JO_keepRowsOfParent n) r0 r1 i2 i3 i4 μ = some res := h
        unfold B_JO_keepRowsOfParent_1 at h
        refine lv_iload hx hb d_JO_keepRowsOfParent_13 (lv_at hl 4 rfl) ?_
        refine lv_bipush (v := 12) hx hb d_JO_keepRowsOfParent_15 (by decide) ?_
        refine lv_icmp_ge (tgt := 65) hx hb d_JO_keepRowsOfParent_17 (by decide) (fun hc => ?_) (fun hc => ?_)
        · replace h := of_t hc h
          exact g_vret hx hb hr hlocks hM (Option.some.inj h) d_JO_keepRowsOfParent_65
        · replace h := of_f hc h
          refine lv_iload hx hb d_JO_keepRowsOfParent_20 (lv_at hl 4 rfl) ?_
          refine lv_aload_n hx hb d_JO_keepRowsOfParent_22 rfl (lv_at hl 1 rfl) ?_
          refine lv_iload_n hx hb d_JO_keepRowsOfParent_23 rfl (lv_at hl 3 rfl) ?_
          obtain ⟨g6, h⟩ := of_g h
          obtain ⟨g7, h⟩ := of_g h
          refine g_iald hx hb hK hM g6 g7 d_JO_keepRowsOfParent_24 ?_
          obtain ⟨q8, hq8, h⟩ := of_b h
          refine g_calli (va_runSN (As := [.int i4, .int (mI μ r1 (Int32.toNatClampNeg i3))]) (rest := []) ⟨hx, hb, hml, hown, hts⟩ (S_JL_isIn l D b cs i4 (mI μ r1 (Int32.toNatClampNeg i3)) μ q8 n hq8) ⟨va_cnB 2 hts (goodIn_g jm_3_19) rfl rfl rfl (hK.2.1 _ jn_52) (hts _ jm_0_1) (by decide +kernel) ⟨Nat.le_of_ble_eq_true rfl, Nat.le_of_ble_eq_true rfl⟩, (hts _ jm_3_18), trivial⟩ (Wd.preS hK hM) rfl rfl hl.1 rfl (lv_room (Nat.le_of_ble_eq_true rfl)) d_JO_keepRowsOfParent_25 ⟨Nat.le_of_ble_eq_true rfl, Nat.le_of_ble_eq_true rfl⟩) hM (fun H locs hM => ?_)
          refine lv_if_eq (tgt := 59) hx hb d_JO_keepRowsOfParent_28 (by decide) (fun hc => ?_) (fun hc => ?_)
          · replace h := of_t hc h
            exact ih2 _ _ _ _ _ _ _ _ _ h hM (lv_sub hl [0, 1, 2, 3, 4] rfl)
          · replace h := of_f hc h
            refine lv_aload_n hx hb d_JO_keepRowsOfParent_31 rfl (lv_at hl 0 rfl) ?_
            obtain ⟨g9, h⟩ := of_g h
            obtain ⟨g10, h⟩ := of_g h
            refine g_get (C := "JoinedLeaves$Join") (T := T_JO) (N := 7) (ref := "JoinedLeaves$Join") (v := .ref (b + (mR q8.2 r0 2))) hx hb hts jF_JO hown hK hM g9 (by decide) rfl 2 (by decide) (hts _ jm_1_44) (fun _ h9 => h9) (by decide) (rv_of (ok_0 g10)) d_JO_keepRowsOfParent_32 ?_
            refine lv_iload_n hx hb d_JO_keepRowsOfParent_35 rfl (lv_at hl 2 rfl) ?_
            obtain ⟨g11, h⟩ := of_g h
            obtain ⟨g12, h⟩ := of_g h
            refine g_aald (ty := (.array .int)) hx hb hK hM 2 rfl rfl g10 g11 (ok_0 g12) d_JO_keepRowsOfParent_36 ?_
            refine lv_iload hx hb d_JO_keepRowsOfParent_37 (lv_at hl 4 rfl) ?_
            obtain ⟨g13, h⟩ := of_g h
            refine g_iald hx hb hK hM g12 g13 d_JO_keepRowsOfParent_39 ?_
            refine lv_aload_n hx hb d_JO_keepRowsOfParent_40 rfl (lv_at hl 1 rfl) ?_
            refine lv_iload_n hx hb d_JO_keepRowsOfParent_41 rfl (lv_at hl 2 rfl) ?_
            obtain ⟨g14, h⟩ := of_g h
            obtain ⟨g15, h⟩ := of_g h
            refine g_iald hx hb hK hM g14 g15 d_JO_keepRowsOfParent_42 ?_
            refine lv_iand hx hb d_JO_keepRowsOfParent_43 ?_
            refine lv_if_ne (tgt := 59) hx hb d_JO_keepRowsOfParent_44 (by decide) (fun hc => ?_) (fun hc => ?_)
            · replace h := of_f hc h
              exact ih2 _ _ _ _ _ _ _ _ _ h hM (lv_sub hl [0, 1, 2, 3, 4] rfl)
            · replace h := of_t hc h
              refine lv_aload_n hx hb d_JO_keepRowsOfParent_47 rfl (lv_at hl 1 rfl) ?_
              refine lv_iload_n hx hb d_JO_keepRowsOfParent_48 rfl (lv_at hl 3 rfl) ?_
              refine lv_dup2_11 hx hb d_JO_keepRowsOfParent_49 rfl rfl ?_
              obtain ⟨g16, h⟩ := of_g h
              refine g_iald hx hb hK hM g14 g16 d_JO_keepRowsOfParent_50 ?_
              refine lv_iconst (v := 1) hx hb d_JO_keepRowsOfParent_51 (by decide) ?_
              refine lv_iload hx hb d_JO_keepRowsOfParent_52 (lv_at hl 4 rfl) ?_
              refine lv_ishl hx hb d_JO_keepRowsOfParent_54 ?_
              refine lv_iconst (v := (-1)) hx hb d_JO_keepRowsOfParent_55 (by decide) ?_
              refine lv_ixor hx hb d_JO_keepRowsOfParent_56 ?_
              refine lv_iand hx hb d_JO_keepRowsOfParent_57 ?_
              obtain ⟨g17, h⟩ := of_g h
              obtain ⟨μ18, e_μ18, h⟩ := of_b h
              obtain rfl := Option.some.inj e_μ18
              refine g_iast (v := (mI q8.2 r1 (Int32.toNatClampNeg i3)) &&& ((1 <<< (i4 &&& 31)) ^^^ (-1))) hx hb hK hM g14 g17 d_JO_keepRowsOfParent_58 (fun H locs hM => ?_)
              exact ih2 _ _ _ _ _ _ _ _ _ h hM (lv_sub hl [0, 1, 2, 3, 4] rfl)
      · intro r0 r1 i2 i3 i4 μ H locs ls h hM hl
        have h : B_JO_keepRowsOfParent_2 n (F_JO_keepRowsOfParent n) r0 r1 i2 i3 i4 μ = some res := h
        unfold B_JO_keepRowsOfParent_2 at h
        obtain ⟨v19, e_v19, h⟩ := of_b h
        refine lv_iinc (v := v19) hx hb d_JO_keepRowsOfParent_59 hl (k := 4) rfl (by rw [lit1]; exact Option.some.inj e_v19) (by decide) rfl (fun ls hl => ?_)
        have hl : lv_has ls 5 [(4, .int v19), (0, .ref (b + r0)), (1, .ref (b + r1)), (2, .int i2), (3, .int i3)] := hl
        refine lv_goto (tgt := 13) hx hb d_JO_keepRowsOfParent_62 (by decide) ?_
        exact ih1 _ _ _ _ _ _ _ _ _ h hM (lv_sub hl [1, 2, 3, 4, 0] rfl)
  exact (key n).1 _ _ _ _ _ _ _ _ _ h hM hl
abbrev w_JO_keepRowsOfChild : List Cond := .code y_JO_keepRowsOfChild b_JO_keepRowsOfChild 6 (Option.none : Option Jvm.ClassFile.FieldType) :: jW
def B_JO_keepRowsOfChild_0 (n : Nat) (k : Nat → Nat → Nat → Int32 → Int32 → Int32 → Int32 → Mem → Option (Mem)) (r0 : Nat) (r1 : Nat) (i2 : Int32) (i3 : Int32) (i4 : Int32) (i5 : Int32) (μ : Mem) : Option (Mem) :=
  if ok μ r0 4 = true then if ok μ (mR μ r0 1) 3 = true then if ok μ (mR μ (mR μ r0 1) 1) 100 = true then if ib i2 (mZ μ (mR μ (mR μ r0 1) 1)) = true then Option.bind (some (mI μ (mR μ (mR μ r0 1) 1) (Int32.toNatClampNeg i2))) (fun v5 => k 1 r0 r1 i2 v5 0 0 μ) else none else none else none else none
def B_JO_keepRowsOfChild_1 (n : Nat) (k : Nat → Nat → Nat → Int32 → Int32 → Int32 → Int32 → Mem → Option (Mem)) (r0 : Nat) (r1 : Nat) (i2 : Int32) (i3 : Int32) (i4 : Int32) (i5 : Int32) (μ : Mem) : Option (Mem) :=
  if 12 ≤ i5 then if ok μ r1 100 = true then if ib i2 (mZ μ r1) = true then if ib i2 (mZ μ r1) = true then Option.bind (some (sI μ r1 (Int32.toNatClampNeg i2) ((mI μ r1 (Int32.toNatClampNeg i2)) &&& i4))) (fun μ9 => some μ9) else none else none else none else if ok μ r1 100 = true then if ib i3 (mZ μ r1) = true then Option.bind (C_JL_isIn n i5 (mI μ r1 (Int32.toNatClampNeg i3)) μ) (fun q12 => if q12.1 = 0 then k 2 r0 r1 i2 i3 i4 i5 q12.2 else if ok q12.2 r0 4 = true then if ok q12.2 (mR q12.2 r0 2) 104 = true then if ib i2 (mZ q12.2 (mR q12.2 r0 2)) = true then if ok q12.2 (mR q12.2 (mR q12.2 r0 2) (Int32.toNatClampNeg i2)) 100 = true then if ib i5 (mZ q12.2 (mR q12.2 (mR q12.2 r0 2) (Int32.toNatClampNeg i2))) = true then Option.bind (some (i4 ||| (mI q12.2 (mR q12.2 (mR q12.2 r0 2) (Int32.toNatClampNeg i2)) (Int32.toNatClampNeg i5)))) (fun v18 => k 2 r0 r1 i2 i3 v18 i5 q12.2) else none else none else none else none else none) else none else none
def B_JO_keepRowsOfChild_2 (n : Nat) (k : Nat → Nat → Nat → Int32 → Int32 → Int32 → Int32 → Mem → Option (Mem)) (r0 : Nat) (r1 : Nat) (i2 : Int32) (i3 : Int32) (i4 : Int32) (i5 : Int32) (μ : Mem) : Option (Mem) :=
  Option.bind (some (i5 + 1)) (fun v19 => k 1 r0 r1 i2 i3 i4 v19 μ)
def F_JO_keepRowsOfChild : Nat → Nat → Nat → Nat → Int32 → Int32 → Int32 → Int32 → Mem → Option (Mem)
  | 0 => fun _ _ _ _ _ _ _ _ => none
  | n + 1 => fun id r0 r1 i2 i3 i4 i5 μ => match id with
    | 0 => B_JO_keepRowsOfChild_0 n (F_JO_keepRowsOfChild n) r0 r1 i2 i3 i4 i5 μ
    | 1 => B_JO_keepRowsOfChild_1 n (F_JO_keepRowsOfChild n) r0 r1 i2 i3 i4 i5 μ
    | 2 => B_JO_keepRowsOfChild_2 n (F_JO_keepRowsOfChild n) r0 r1 i2 i3 i4 i5 μ
    | _ => none
def C_JO_keepRowsOfChild (n : Nat) (r0 : Nat) (r1 : Nat) (i2 : Int32) (μ : Mem) : Option (Mem) := F_JO_keepRowsOfChild n 0 r0 r1 i2 0 0 0 μ
set_option maxHeartbeats 4000000 in
set_option maxRecDepth 100000 in
theorem S_JO_keepRowsOfChild (l : Launch) (D : va_G) (b : Nat) (cs : Nat → ClassId) (u_r0 : Nat) (u_r1 : Nat) (u_i2 : Int32) (ν : Mem) (res : Mem) (n : Nat) (h : C_JO_keepRowsOfChild n u_r0 u_r1 u_i2 ν = some res) : MetV l y_JO_keepRowsOfChild w_JO_keepRowsOfChild 1 21 b cs D ν [.ref (b + u_r0), .ref (b + u_r1), .int u_i2] res := by
  refine Met.ofW (cc := b_JO_keepRowsOfChild) (maxL := 6) (ret := (Option.none : Option Jvm.ClassFile.FieldType)) (by decide) rfl ?_
  intro p e s m args below meth c s₁ B hml hv
  obtain ⟨rfl, hK, hM⟩ := Wd.start hv
  have hx := B.exec
  have hb := B.bytes
  have hr := B.returns
  have hts : ∀ w ∈ jW, w.before _ s = true := fun w hw => atoms_spec (ws := w_JO_keepRowsOfChild) B.pre w (List.mem_cons_of_mem _ hw)
  have hown : s.vm.findClass "JoinedLeaves$Join" = some m.cls := findClass_of_methodNamed B.named
  have hlocks := B.notSynchronized
  have hl := lv_entry ([.ref (b + u_r0), .ref (b + u_r1), .int u_i2]) (n := 6) (Nat.le_of_ble_eq_true rfl)
  rw [lg_entry_eq]
  generalize (lg_sl ([.ref (b + u_r0), .ref (b + u_r1), .int u_i2]) ++ List.replicate (6 - (lg_sl ([.ref (b + u_r0), .ref (b + u_r1), .int u_i2])).length) Slot.unset).toArray = ls at hl ⊢
  have hl : lv_has ls 6 [(0, .ref (b + u_r0)), (1, .ref (b + u_r1)), (2, .int u_i2)] := hl
  have key : ∀ N : Nat, (∀ (r0 : Nat) (r1 : Nat) (i2 : Int32) (i3 : Int32) (i4 : Int32) (i5 : Int32) (μ : Mem) (H : Heap) (locs : List Loc) (ls : Array Slot), F_JO_keepRowsOfChild N 0 r0 r1 i2 i3 i4 i5 μ = some res → Wd (Aw b (mN ν)) b cs D s.heap μ H locs → lv_has ls 6 [(0, .ref (b + r0)), (1, .ref (b + r1)), (2, .int i2)] → W p l e (headSpec w_JO_keepRowsOfChild { frames := 1, cells := 0, slots := 0, locals := 21 }).room s m ([.ref (b + u_r0), .ref (b + u_r1), .int u_i2]).toArray below meth c H locs 0 0 (MQ below (va_Qv (fun μ' => μ' = res ∧ mN μ' ≤ mN ν) (Bw b cs D) (Aw b (mN ν))) ([.ref (b + u_r0), .ref (b + u_r1), .int u_i2]).toArray s 0 0 (Aw b (mN ν))) (F0 m 0 ls [])) ∧
      (∀ (r0 : Nat) (r1 : Nat) (i2 : Int32) (i3 : Int32) (i4 : Int32) (i5 : Int32) (μ : Mem) (H : Heap) (locs : List Loc) (ls : Array Slot), F_JO_keepRowsOfChild N 1 r0 r1 i2 i3 i4 i5 μ = some res → Wd (Aw b (mN ν)) b cs D s.heap μ H locs → lv_has ls 6 [(0, .ref (b + r0)), (1, .ref (b + r1)), (2, .int i2), (3, .int i3), (4, .int i4), (5, .int i5)] → W p l e (headSpec w_JO_keepRowsOfChild { frames := 1, cells := 0, slots := 0, locals := 21 }).room s m ([.ref (b + u_r0), .ref (b + u_r1), .int u_i2]).toArray below meth c H locs 0 0 (MQ below (va_Qv (fun μ' => μ' = res ∧ mN μ' ≤ mN ν) (Bw b cs D) (Aw b (mN ν))) ([.ref (b + u_r0), .ref (b + u_r1), .int u_i2]).toArray s 0 0 (Aw b (mN ν))) (F0 m 16 ls [])) ∧
      (∀ (r0 : Nat) (r1 : Nat) (i2 : Int32) (i3 : Int32) (i4 : Int32) (i5 : Int32) (μ : Mem) (H : Heap) (locs : List Loc) (ls : Array Slot), F_JO_keepRowsOfChild N 2 r0 r1 i2 i3 i4 i5 μ = some res → Wd (Aw b (mN ν)) b cs D s.heap μ H locs → lv_has ls 6 [(0, .ref (b + r0)), (1, .ref (b + r1)), (2, .int i2), (3, .int i3), (4, .int i4), (5, .int i5)] → W p l e (headSpec w_JO_keepRowsOfChild { frames := 1, cells := 0, slots := 0, locals := 21 }).room s m ([.ref (b + u_r0), .ref (b + u_r1), .int u_i2]).toArray below meth c H locs 0 0 (MQ below (va_Qv (fun μ' => μ' = res ∧ mN μ' ≤ mN ν) (Bw b cs D) (Aw b (mN ν))) ([.ref (b + u_r0), .ref (b + u_r1), .int u_i2]).toArray s 0 0 (Aw b (mN ν))) (F0 m 48 ls [])) := by
    intro N
    induction N with
    | zero => exact ⟨fun _ _ _ _ _ _ _ _ _ _ h => (nomatch h), fun _ _ _ _ _ _ _ _ _ _ h => (nomatch h), fun _ _ _ _ _ _ _ _ _ _ h => (nomatch h)⟩
    | succ n ih =>
      obtain ⟨ih0, ih1, ih2⟩ := ih
      refine ⟨?_, ?_, ?_⟩
      · intro r0 r1 i2 i3 i4 i5 μ H locs ls h hM hl
        have h : B_JO_keepRowsOfChild_0 n (F_JO_keepRowsOfChild n) r0 r1 i2 i3 i4 i5 μ = some res := h
        unfold B_JO_keepRowsOfChild_0 at h
        refine lv_aload_n hx hb d_JO_keepRowsOfChild_0 rfl (lv_at hl 0 rfl) ?_
        obtain ⟨g1, h⟩ := of_g h
        obtain ⟨g2, h⟩ := of_g h
        refine g_get (C := "JoinedLeaves$Join") (T := T_JO) (N := 7) (ref := "JoinedLeaves$Join") (v := .ref (b + (mR μ r0 1))) hx hb hts jF_JO hown hK hM g1 (by decide) rfl 1 (by decide) (hts _ jm_1_43) (fun _ h9 => h9) (by decide) (rv_of (ok_0 g2)) d_JO_keepRowsOfChild_1 ?_
        obtain ⟨g3, h⟩ := of_g h
        refine g_getN (C := "JoinedLeaves$Hanging") (T := T_HA) (N := 6) (ref := "JoinedLeaves$Hanging") (v := .ref (b + (mR μ (mR μ r0 1) 1))) hx hb hts jF_HA hown hK hM g2 (by decide) rfl 1 (by decide) (hK.nest _ jn_20 rfl) (fun _ h9 => h9) (by decide) (rv_of (ok_0 g3)) d_JO_keepRowsOfChild_4 ?_
        refine lv_iload_n hx hb d_JO_keepRowsOfChild_7 rfl (lv_at hl 2 rfl) ?_
        obtain ⟨g4, h⟩ := of_g h
        refine g_iald hx hb hK hM g3 g4 d_JO_keepRowsOfChild_8 ?_
        obtain ⟨v5, e_v5, h⟩ := of_b h
        refine top_i (Option.some.inj e_v5) ?_
        refine lv_istore_n hx hb d_JO_keepRowsOfChild_9 rfl hl (by decide) rfl (fun ls hl => ?_)
        have hl : lv_has ls 6 [(3, .int v5), (0, .ref (b + r0)), (1, .ref (b + r1)), (2, .int i2)] := hl
        refine lv_iconst (v := 0) hx hb d_JO_keepRowsOfChild_10 (by decide) ?_
        refine lv_istore hx hb d_JO_keepRowsOfChild_11 hl (by decide) rfl (fun ls hl => ?_)
        have hl : lv_has ls 6 [(4, .int 0), (3, .int v5), (0, .ref (b + r0)), (1, .ref (b + r1)), (2, .int i2)] := hl
        refine lv_iconst (v := 0) hx hb d_JO_keepRowsOfChild_13 (by decide) ?_
        refine lv_istore hx hb d_JO_keepRowsOfChild_14 hl (by decide) rfl (fun ls hl => ?_)
        have hl : lv_has ls 6 [(5, .int 0), (4, .int 0), (3, .int v5), (0, .ref (b + r0)), (1, .ref (b + r1)), (2, .int i2)] := hl
        exact ih1 _ _ _ _ _ _ _ _ _ _ h hM (lv_sub hl [3, 4, 5, 2, 1, 0] rfl)
      · intro r0 r1 i2 i3 i4 i5 μ H locs ls h hM hl
        have h : B_JO_keepRowsOfChild_1 n (F_JO_keepRowsOfChild n) r0 r1 i2 i3 i4 i5 μ = some res := h
        unfold B_JO_keepRowsOfChild_1 at h
        refine lv_iload hx hb d_JO_keepRowsOfChild_16 (lv_at hl 5 rfl) ?_
        refine lv_bipush (v := 12) hx hb d_JO_keepRowsOfChild_18 (by decide) ?_
        refine lv_icmp_ge (tgt := 54) hx hb d_JO_keepRowsOfChild_20 (by decide) (fun hc => ?_) (fun hc => ?_)
        · replace h := of_t hc h
          refine lv_aload_n hx hb d_JO_keepRowsOfChild_54 rfl (lv_at hl 1 rfl) ?_
          refine lv_iload_n hx hb d_JO_keepRowsOfChild_55 rfl (lv_at hl 2 rfl) ?_
          refine lv_dup2_11 hx hb d_JO_keepRowsOfChild_56 rfl rfl ?_
          obtain ⟨g6, h⟩ := of_g h
          obtain ⟨g7, h⟩ := of_g h
          refine g_iald hx hb hK hM g6 g7 d_JO_keepRowsOfChild_57 ?_
          refine lv_iload hx hb d_JO_keepRowsOfChild_58 (lv_at hl 4 rfl) ?_
          refine lv_iand hx hb d_JO_keepRowsOfChild_60 ?_
          obtain ⟨g8, h⟩ := of_g h
          obtain ⟨μ9, e_μ9, h⟩ := of_b h
          obtain rfl := Option.some.inj e_μ9
          refine g_iast (v := (mI μ r1 (Int32.toNatClampNeg i2)) &&& i4) hx hb hK hM g6 g8 d_JO_keepRowsOfChild_61 (fun H locs hM => ?_)
          exact g_vret hx hb hr hlocks hM (Option.some.inj h) d_JO_keepRowsOfChild_62
        · replace h := of_f hc h
          refine lv_iload hx hb d_JO_keepRowsOfChild_23 (lv_at hl 5 rfl) ?_
          refine lv_aload_n hx hb d_JO_keepRowsOfChild_25 rfl (lv_at hl 1 rfl) ?_
          refine lv_iload_n hx hb d_JO_keepRowsOfChild_26 rfl (lv_at hl 3 rfl) ?_
          obtain ⟨g10, h⟩ := of_g h
          obtain ⟨g11, h⟩ := of_g h
          refine g_iald hx hb hK hM g10 g11 d_JO_keepRowsOfChild_27 ?_
          obtain ⟨q12, hq12, h⟩ := of_b h
          refine g_calli (va_runSN (As := [.int i5, .int (mI μ r1 (Int32.toNatClampNeg i3))]) (rest := []) ⟨hx, hb, hml, hown, hts⟩ (S_JL_isIn l D b cs i5 (mI μ r1 (Int32.toNatClampNeg i3)) μ q12 n hq12) ⟨va_cnB 2 hts (goodIn_g jm_3_19) rfl rfl rfl (hK.2.1 _ jn_52) (hts _ jm_0_1) (by decide +kernel) ⟨Nat.le_of_ble_eq_true rfl, Nat.le_of_ble_eq_true rfl⟩, (hts _ jm_3_18), trivial⟩ (Wd.preS hK hM) rfl rfl hl.1 rfl (lv_room (Nat.le_of_ble_eq_true rfl)) d_JO_keepRowsOfChild_28 ⟨Nat.le_of_ble_eq_true rfl, Nat.le_of_ble_eq_true rfl⟩) hM (fun H locs hM => ?_)
          refine lv_if_eq (tgt := 48) hx hb d_JO_keepRowsOfChild_31 (by decide) (fun hc => ?_) (fun hc => ?_)
          · replace h := of_t hc h
            exact ih2 _ _ _ _ _ _ _ _ _ _ h hM (lv_sub hl [0, 1, 2, 3, 4, 5] rfl)
          · replace h := of_f hc h
            refine lv_iload hx hb d_JO_keepRowsOfChild_34 (lv_at hl 4 rfl) ?_
            refine lv_aload_n hx hb d_JO_keepRowsOfChild_36 rfl (lv_at hl 0 rfl) ?_
            obtain ⟨g13, h⟩ := of_g h
            obtain ⟨g14, h⟩ := of_g h
            refine g_get (C := "JoinedLeaves$Join") (T := T_JO) (N := 7) (ref := "JoinedLeaves$Join") (v := .ref (b + (mR q12.2 r0 2))) hx hb hts jF_JO hown hK hM g13 (by decide) rfl 2 (by decide) (hts _ jm_1_44) (fun _ h9 => h9) (by decide) (rv_of (ok_0 g14)) d_JO_keepRowsOfChild_37 ?_
            refine lv_iload_n hx hb d_JO_keepRowsOfChild_40 rfl (lv_at hl 2 rfl) ?_
            obtain ⟨g15, h⟩ := of_g h
            obtain ⟨g16, h⟩ := of_g h
            refine g_aald (ty := (.array .int)) hx hb hK hM 2 rfl rfl g14 g15 (ok_0 g16) d_JO_keepRowsOfChild_41 ?_
            refine lv_iload hx hb d_JO_keepRowsOfChild_42 (lv_at hl 5 rfl) ?_
            obtain ⟨g17, h⟩ := of_g h
            refine g_iald hx hb hK hM g16 g17 d_JO_keepRowsOfChild_44 ?_
            refine lv_ior hx hb d_JO_keepRowsOfChild_45 ?_
            obtain ⟨v18, e_v18, h⟩ := of_b h
            refine top_i (Option.some.inj e_v18) ?_
            refine lv_istore hx hb d_JO_keepRowsOfChild_46 hl (by decide) rfl (fun ls hl => ?_)
            have hl : lv_has ls 6 [(4, .int v18), (0, .ref (b + r0)), (1, .ref (b + r1)), (2, .int i2), (3, .int i3), (5, .int i5)] := hl
            exact ih2 _ _ _ _ _ _ _ _ _ _ h hM (lv_sub hl [1, 2, 3, 4, 0, 5] rfl)
      · intro r0 r1 i2 i3 i4 i5 μ H locs ls h hM hl
        have h : B_JO_keepRowsOfChild_2 n (F_JO_keepRowsOfChild n) r0 r1 i2 i3 i4 i5 μ = some res := h
        unfold B_JO_keepRowsOfChild_2 at h
        obtain ⟨v19, e_v19, h⟩ := of_b h
        refine lv_iinc (v := v19) hx hb d_JO_keepRowsOfChild_48 hl (k := 5) rfl (by rw [lit1]; exact Option.some.inj e_v19) (by decide) rfl (fun ls hl => ?_)
        have hl : lv_has ls 6 [(5, .int v19), (0, .ref (b + r0)), (1, .ref (b + r1)), (2, .int i2), (3, .int i3), (4, .int i4)] := hl
        refine lv_goto (tgt := 16) hx hb d_JO_keepRowsOfChild_51 (by decide) ?_
        exact ih1 _ _ _ _ _ _ _ _ _ _ h hM (lv_sub hl [1, 2, 3, 4, 5, 0] rfl)
  exact (key n).1 _ _ _ _ _ _ _ _ _ _ h hM hl
abbrev w_JO_keepLiveRows : List Cond := .code y_JO_keepLiveRows b_JO_keepLiveRows 3 (Option.none : Option Jvm.ClassFile.FieldType) :: jW
def B_JO_keepLiveRows_0 (n : Nat) (k : Nat → Nat → Nat → Int32 → Mem → Option (Mem)) (r0 : Nat) (r1 : Nat) (i2 : Int32) (μ : Mem) : Option (Mem) :=
  k 1 r0 r1 0 μ
def B_JO_keepLiveRows_1 (n : Nat) (k : Nat → Nat → Nat → Int32 → Mem → Option (Mem)) (r0 : Nat) (r1 : Nat) (i2 : Int32) (μ : Mem) : Option (Mem) :=
  if ok μ r0 4 = true then if ok μ (mR μ r0 1) 3 = true then if (mI μ (mR μ r0 1) 4) ≤ i2 then Option.bind (some ((mI μ (mR μ r0 1) 4) - 1)) (fun v3 => k 2 r0 r1 v3 μ) else if ok μ (mR μ (mR μ r0 1) 3) 100 = true then if ib i2 (mZ μ (mR μ (mR μ r0 1) 3)) = true then Option.bind (C_JO_keepRowsOfParent n r0 r1 (mI μ (mR μ (mR μ r0 1) 3) (Int32.toNatClampNeg i2)) μ) (fun q6 => Option.bind (some (i2 + 1)) (fun v7 => k 1 r0 r1 v7 q6)) else none else none else none else none
def B_JO_keepLiveRows_2 (n : Nat) (k : Nat → Nat → Nat → Int32 → Mem → Option (Mem)) (r0 : Nat) (r1 : Nat) (i2 : Int32) (μ : Mem) : Option (Mem) :=
  if i2 < 0 then some μ else if ok μ r0 4 = true then if ok μ (mR μ r0 1) 3 = true then if ok μ (mR μ (mR μ r0 1) 3) 100 = true then if ib i2 (mZ μ (mR μ (mR μ r0 1) 3)) = true then Option.bind (C_JO_keepRowsOfChild n r0 r1 (mI μ (mR μ (mR μ r0 1) 3) (Int32.toNatClampNeg i2)) μ) (fun q12 => Option.bind (some (i2 + (-1))) (fun v13 => k 2 r0 r1 v13 q12)) else none else none else none else none
def F_JO_keepLiveRows : Nat → Nat → Nat → Nat → Int32 → Mem → Option (Mem)
  | 0 => fun _ _ _ _ _ => none
  | n + 1 => fun id r0 r1 i2 μ => match id with
    | 0 => B_JO_keepLiveRows_0 n (F_JO_keepLiveRows n) r0 r1 i2 μ
    | 1 => B_JO_keepLiveRows_1 n (F_JO_keepLiveRows n) r0 r1 i2 μ
    | 2 => B_JO_keepLiveRows_2 n (F_JO_keepLiveRows n) r0 r1 i2 μ
    | _ => none
def C_JO_keepLiveRows (n : Nat) (r0 : Nat) (r1 : Nat) (μ : Mem) : Option (Mem) := F_JO_keepLiveRows n 0 r0 r1 0 μ
set_option maxHeartbeats 4000000 in
set_option maxRecDepth 100000 in
theorem S_JO_keepLiveRows (l : Launch) (D : va_G) (b : Nat) (cs : Nat → ClassId) (u_r0 : Nat) (u_r1 : Nat) (ν : Mem) (res : Mem) (n : Nat) (h : C_JO_keepLiveRows n u_r0 u_r1 ν = some res) : MetV l y_JO_keepLiveRows w_JO_keepLiveRows 2 46 b cs D ν [.ref (b + u_r0), .ref (b + u_r1)] res := by
  refine Met.ofW (cc := b_JO_keepLiveRows) (maxL := 3) (ret := (Option.none : Option Jvm.ClassFile.FieldType)) (by decide) rfl ?_
  intro p e s m args below meth c s₁ B hml hv
  obtain ⟨rfl, hK, hM⟩ := Wd.start hv
  have hx := B.exec
  have hb := B.bytes
  have hr := B.returns
  have hts : ∀ w ∈ jW, w.before _ s = true := fun w hw => atoms_spec (ws := w_JO_keepLiveRows) B.pre w (List.mem_cons_of_mem _ hw)
  have hown : s.vm.findClass "JoinedLeaves$Join" = some m.cls := findClass_of_methodNamed B.named
  have hlocks := B.notSynchronized
  have hl := lv_entry ([.ref (b + u_r0), .ref (b + u_r1)]) (n := 3) (Nat.le_of_ble_eq_true rfl)
  rw [lg_entry_eq]
  generalize (lg_sl ([.ref (b + u_r0), .ref (b + u_r1)]) ++ List.replicate (3 - (lg_sl ([.ref (b + u_r0), .ref (b + u_r1)])).length) Slot.unset).toArray = ls at hl ⊢
  have hl : lv_has ls 3 [(0, .ref (b + u_r0)), (1, .ref (b + u_r1))] := hl
  have key : ∀ N : Nat, (∀ (r0 : Nat) (r1 : Nat) (i2 : Int32) (μ : Mem) (H : Heap) (locs : List Loc) (ls : Array Slot), F_JO_keepLiveRows N 0 r0 r1 i2 μ = some res → Wd (Aw b (mN ν)) b cs D s.heap μ H locs → lv_has ls 3 [(0, .ref (b + r0)), (1, .ref (b + r1))] → W p l e (headSpec w_JO_keepLiveRows { frames := 2, cells := 0, slots := 0, locals := 46 }).room s m ([.ref (b + u_r0), .ref (b + u_r1)]).toArray below meth c H locs 0 0 (MQ below (va_Qv (fun μ' => μ' = res ∧ mN μ' ≤ mN ν) (Bw b cs D) (Aw b (mN ν))) ([.ref (b + u_r0), .ref (b + u_r1)]).toArray s 0 0 (Aw b (mN ν))) (F0 m 0 ls [])) ∧
      (∀ (r0 : Nat) (r1 : Nat) (i2 : Int32) (μ : Mem) (H : Heap) (locs : List Loc) (ls : Array Slot), F_JO_keepLiveRows N 1 r0 r1 i2 μ = some res → Wd (Aw b (mN ν)) b cs D s.heap μ H locs → lv_has ls 3 [(0, .ref (b + r0)), (1, .ref (b + r1)), (2, .int i2)] → W p l e (headSpec w_JO_keepLiveRows { frames := 2, cells := 0, slots := 0, locals := 46 }).room s m ([.ref (b + u_r0), .ref (b + u_r1)]).toArray below meth c H locs 0 0 (MQ below (va_Qv (fun μ' => μ' = res ∧ mN μ' ≤ mN ν) (Bw b cs D) (Aw b (mN ν))) ([.ref (b + u_r0), .ref (b + u_r1)]).toArray s 0 0 (Aw b (mN ν))) (F0 m 2 ls [])) ∧
      (∀ (r0 : Nat) (r1 : Nat) (i2 : Int32) (μ : Mem) (H : Heap) (locs : List Loc) (ls : Array Slot), F_JO_keepLiveRows N 2 r0 r1 i2 μ = some res → Wd (Aw b (mN ν)) b cs D s.heap μ H locs → lv_has ls 3 [(0, .ref (b + r0)), (1, .ref (b + r1)), (2, .int i2)] → W p l e (headSpec w_JO_keepLiveRows { frames := 2, cells := 0, slots := 0, locals := 46 }).room s m ([.ref (b + u_r0), .ref (b + u_r1)]).toArray below meth c H locs 0 0 (MQ below (va_Qv (fun μ' => μ' = res ∧ mN μ' ≤ mN ν) (Bw b cs D) (Aw b (mN ν))) ([.ref (b + u_r0), .ref (b + u_r1)]).toArray s 0 0 (Aw b (mN ν))) (F0 m 43 ls [])) := by
    intro N
    induction N with
    | zero => exact ⟨fun _ _ _ _ _ _ _ h => (nomatch h), fun _ _ _ _ _ _ _ h => (nomatch h), fun _ _ _ _ _ _ _ h => (nomatch h)⟩
    | succ n ih =>
      obtain ⟨ih0, ih1, ih2⟩ := ih
      refine ⟨?_, ?_, ?_⟩
      · intro r0 r1 i2 μ H locs ls h hM hl
        have h : B_JO_keepLiveRows_0 n (F_JO_keepLiveRows n) r0 r1 i2 μ = some res := h
        unfold B_JO_keepLiveRows_0 at h
        refine lv_iconst (v := 0) hx hb d_JO_keepLiveRows_0 (by decide) ?_
        refine lv_istore_n hx hb d_JO_keepLiveRows_1 rfl hl (by decide) rfl (fun ls hl => ?_)
        have hl : lv_has ls 3 [(2, .int 0), (0, .ref (b + r0)), (1, .ref (b + r1))] := hl
        exact ih1 _ _ _ _ _ _ _ h hM (lv_sub hl [1, 2, 0] rfl)
      · intro r0 r1 i2 μ H locs ls h hM hl
        have h : B_JO_keepLiveRows_1 n (F_JO_keepLiveRows n) r0 r1 i2 μ = some res := h
        unfold B_JO_keepLiveRows_1 at h
        refine lv_iload_n hx hb d_JO_keepLiveRows_2 rfl (lv_at hl 2 rfl) ?_
        refine lv_aload_n hx hb d_JO_keepLiveRows_3 rfl (lv_at hl 0 rfl) ?_
        obtain ⟨g1, h⟩ := of_g h
        obtain ⟨g2, h⟩ := of_g h
        refine g_get (C := "JoinedLeaves$Join") (T := T_JO) (N := 7) (ref := "JoinedLeaves$Join") (v := .ref (b + (mR μ r0 1))) hx hb hts jF_JO hown hK hM g1 (by decide) rfl 1 (by decide) (hts _ jm_1_43) (fun _ h9 => h9) (by decide) (rv_of (ok_0 g2)) d_JO_keepLiveRows_4 ?_
        refine g_getN (C := "JoinedLeaves$Hanging") (T := T_HA) (N := 6) (ref := "JoinedLeaves$Hanging") (v := .int (mI μ (mR μ r0 1) 4)) hx hb hts jF_HA hown hK hM g2 (by decide) rfl 4 (by decide) (hK.nest _ jn_24 rfl) (fun _ h9 => h9) (by decide) rfl d_JO_keepLiveRows_7 ?_
        refine lv_icmp_ge (tgt := 33) hx hb d_JO_keepLiveRows_10 (by decide) (fun hc => ?_) (fun hc => ?_)
        · replace h := of_t hc h
          refine lv_aload_n hx hb d_JO_keepLiveRows_33 rfl (lv_at hl 0 rfl) ?_
          refine g_get (C := "JoinedLeaves$Join") (T := T_JO) (N := 7) (ref := "JoinedLeaves$Join") (v := .ref (b + (mR μ r0 1))) hx hb hts jF_JO hown hK hM g1 (by decide) rfl 1 (by decide) (hts _ jm_1_43) (fun _ h9 => h9) (by decide) (rv_of (ok_0 g2)) d_JO_keepLiveRows_34 ?_
          refine g_getN (C := "JoinedLeaves$Hanging") (T := T_HA) (N := 6) (ref := "JoinedLeaves$Hanging") (v := .int (mI μ (mR μ r0 1) 4)) hx hb hts jF_HA hown hK hM g2 (by decide) rfl 4 (by decide) (hK.nest _ jn_24 rfl) (fun _ h9 => h9) (by decide) rfl d_JO_keepLiveRows_37 ?_
          refine lv_iconst (v := 1) hx hb d_JO_keepLiveRows_40 (by decide) ?_
          refine lv_isub hx hb d_JO_keepLiveRows_41 ?_
          obtain ⟨v3, e_v3, h⟩ := of_b h
          refine top_i (Option.some.inj e_v3) ?_
          refine lv_istore_n hx hb d_JO_keepLiveRows_42 rfl hl (by decide) rfl (fun ls hl => ?_)
          have hl : lv_has ls 3 [(2, .int v3), (0, .ref (b + r0)), (1, .ref (b + r1))] := hl
          exact ih2 _ _ _ _ _ _ _ h hM (lv_sub hl [1, 2, 0] rfl)
        · replace h := of_f hc h
          refine lv_aload_n hx hb d_JO_keepLiveRows_13 rfl (lv_at hl 0 rfl) ?_
          refine lv_aload_n hx hb d_JO_keepLiveRows_14 rfl (lv_at hl 1 rfl) ?_
          refine lv_aload_n hx hb d_JO_keepLiveRows_15 rfl (lv_at hl 0 rfl) ?_
          refine g_get (C := "JoinedLeaves$Join") (T := T_JO) (N := 7) (ref := "JoinedLeaves$Join") (v := .ref (b + (mR μ r0 1))) hx hb hts jF_JO hown hK hM g1 (by decide) rfl 1 (by decide) (hts _ jm_1_43) (fun _ h9 => h9) (by decide) (rv_of (ok_0 g2)) d_JO_keepLiveRows_16 ?_
          obtain ⟨g4, h⟩ := of_g h
          refine g_getN (C := "JoinedLeaves$Hanging") (T := T_HA) (N := 6) (ref := "JoinedLeaves$Hanging") (v := .ref (b + (mR μ (mR μ r0 1) 3))) hx hb hts jF_HA hown hK hM g2 (by decide) rfl 3 (by decide) (hK.nest _ jn_23 rfl) (fun _ h9 => h9) (by decide) (rv_of (ok_0 g4)) d_JO_keepLiveRows_19 ?_
          refine lv_iload_n hx hb d_JO_keepLiveRows_22 rfl (lv_at hl 2 rfl) ?_
          obtain ⟨g5, h⟩ := of_g h
          refine g_iald hx hb hK hM g4 g5 d_JO_keepLiveRows_23 ?_
          obtain ⟨q6, hq6, h⟩ := of_b h
          refine g_callv (va_runV (As := [.ref (b + r1), .int (mI μ (mR μ (mR μ r0 1) 3) (Int32.toNatClampNeg i2))]) (rest := []) ⟨hx, hb, hml, hown, hts⟩ (S_JO_keepRowsOfParent l D b cs r0 r1 (mI μ (mR μ (mR μ r0 1) 3) (Int32.toNatClampNeg i2)) μ q6 n hq6) ⟨callB_of 2 hts (goodIn_g jm_6_23) rfl rfl rfl (hts _ jm_0_6) (hts _ jm_6_21) (by decide +kernel) ⟨Nat.le_of_ble_eq_true rfl, Nat.le_of_ble_eq_true rfl⟩, (hts _ jm_6_22), (hts _ jm_12_0)⟩ (Wd.preV hK hM g1 rfl (by decide)) rfl rfl hl.1 rfl (lv_room (Nat.le_of_ble_eq_true rfl)) d_JO_keepLiveRows_24 ⟨Nat.le_of_ble_eq_true rfl, Nat.le_of_ble_eq_true rfl⟩) hM (fun H locs hM => ?_)
          obtain ⟨v7, e_v7, h⟩ := of_b h
          refine lv_iinc (v := v7) hx hb d_JO_keepLiveRows_27 hl (k := 2) rfl (by rw [lit1]; exact Option.some.inj e_v7) (by decide) rfl (fun ls hl => ?_)
          have hl : lv_has ls 3 [(2, .int v7), (0, .ref (b + r0)), (1, .ref (b + r1))] := hl
          refine lv_goto (tgt := 2) hx hb d_JO_keepLiveRows_30 (by decide) ?_
          exact ih1 _ _ _ _ _ _ _ h hM (lv_sub hl [1, 2, 0] rfl)
      · intro r0 r1 i2 μ H locs ls h hM hl
        have h : B_JO_keepLiveRows_2 n (F_JO_keepLiveRows n) r0 r1 i2 μ = some res := h
        unfold B_JO_keepLiveRows_2 at h
        refine lv_iload_n hx hb d_JO_keepLiveRows_43 rfl (lv_at hl 2 rfl) ?_
        refine lv_if_lt (tgt := 67) hx hb d_JO_keepLiveRows_44 (by decide) (fun hc => ?_) (fun hc => ?_)
        · replace h := of_t hc h
          exact g_vret hx hb hr hlocks hM (Option.some.inj h) d_JO_keepLiveRows_67
        · replace h := of_f hc h
          refine lv_aload_n hx hb d_JO_keepLiveRows_47 rfl (lv_at hl 0 rfl) ?_
          refine lv_aload_n hx hb d_JO_keepLiveRows_48 rfl (lv_at hl 1 rfl) ?_
          refine lv_aload_n hx hb d_JO_keepLiveRows_49 rfl (lv_at hl 0 rfl) ?_
          obtain ⟨g8, h⟩ := of_g h
          obtain ⟨g9, h⟩ := of_g h
          refine g_get (C := "JoinedLeaves$Join") (T := T_JO) (N := 7) (ref := "JoinedLeaves$Join") (v := .ref (b + (mR μ r0 1))) hx hb hts jF_JO hown hK hM g8 (by decide) rfl 1 (by decide) (hts _ jm_1_43) (fun _ h9 => h9) (by decide) (rv_of (ok_0 g9)) d_JO_keepLiveRows_50 ?_
          obtain ⟨g10, h⟩ := of_g h
          refine g_getN (C := "JoinedLeaves$Hanging") (T := T_HA) (N := 6) (ref := "JoinedLeaves$Hanging") (v := .ref (b + (mR μ (mR μ r0 1) 3))) hx hb hts jF_HA hown hK hM g9 (by decide) rfl 3 (by decide) (hK.nest _ jn_23 rfl) (fun _ h9 => h9) (by decide) (rv_of (ok_0 g10)) d_JO_keepLiveRows_53 ?_
          refine lv_iload_n hx hb d_JO_keepLiveRows_56 rfl (lv_at hl 2 rfl) ?_
          obtain ⟨g11, h⟩ := of_g h
          refine g_iald hx hb hK hM g10 g11 d_JO_keepLiveRows_57 ?_
          obtain ⟨q12, hq12, h⟩ := of_b h
          refine g_callv (va_runV (As := [.ref (b + r1), .int (mI μ (mR μ (mR μ r0 1) 3) (Int32.toNatClampNeg i2))]) (rest := []) ⟨hx, hb, hml, hown, hts⟩ (S_JO_keepRowsOfChild l D b cs r0 r1 (mI μ (mR μ (mR μ r0 1) 3) (Int32.toNatClampNeg i2)) μ q12 n hq12) ⟨callB_of 2 hts (goodIn_g jm_6_26) rfl rfl rfl (hts _ jm_0_6) (hts _ jm_6_24) (by decide +kernel) ⟨Nat.le_of_ble_eq_true rfl, Nat.le_of_ble_eq_true rfl⟩, (hts _ jm_6_25), (hts _ jm_12_1)⟩ (Wd.preV hK hM g8 rfl (by decide)) rfl rfl hl.1 rfl (lv_room (Nat.le_of_ble_eq_true rfl)) d_JO_keepLiveRows_58 ⟨Nat.le_of_ble_eq_true rfl, Nat.le_of_ble_eq_true rfl⟩) hM (fun H locs hM => ?_)
          obtain ⟨v13, e_v13, h⟩ := of_b h
          refine lv_iinc (v := v13) hx hb d_JO_keepLiveRows_61 hl (k := 2) rfl (by rw [litm1]; exact Option.some.inj e_v13) (by decide) rfl (fun ls hl => ?_)
          have hl : lv_has ls 3 [(2, .int v13), (0, .ref (b + r0)), (1, .ref (b + r1))] := hl
          refine lv_goto (tgt := 43) hx hb d_JO_keepLiveRows_64 (by decide) ?_
          exact ih2 _ _ _ _ _ _ _ h hM (lv_sub hl [1, 2, 0] rfl)
  exact (key n).1 _ _ _ _ _ _ _ h hM hl
abbrev w_JO_countLiveRows : List Cond := .code y_JO_countLiveRows b_JO_countLiveRows 2 (Option.some Jvm.ClassFile.FieldType.int) :: jW
def C_JO_countLiveRows (n : Nat) (r0 : Nat) (i1 : Int32) (μ : Mem) : Option (Int32 × Mem) :=
  if ok μ r0 4 = true then Option.bind (C_JO_compareRows n r0 μ) (fun q2 => if ok q2 r0 4 = true then if ok q2 (mR q2 r0 3) 104 = true then if ib 0 (mZ q2 (mR q2 r0 3)) = true then if ok q2 (mR q2 (mR q2 r0 3) (Int32.toNatClampNeg 0)) 100 = true then Option.bind (C_JO_keepLiveRows n r0 (mR q2 (mR q2 r0 3) (Int32.toNatClampNeg 0)) q2) (fun q7 => if ok q7 r0 4 = true then if ok q7 (mR q7 r0 3) 104 = true then if ib 0 (mZ q7 (mR q7 r0 3)) = true then if ok q7 (mR q7 (mR q7 r0 3) (Int32.toNatClampNeg 0)) 100 = true then if ib i1 (mZ q7 (mR q7 (mR q7 r0 3) (Int32.toNatClampNeg 0))) = true then Option.bind (C_JI_bitCount n (mI q7 (mR q7 (mR q7 r0 3) (Int32.toNatClampNeg 0)) (Int32.toNatClampNeg i1)) q7) (fun q13 => some (q13.1, q13.2)) else none else none else none else none else none) else none else none else none else none) else none
set_option maxHeartbeats 4000000 in
set_option maxRecDepth 100000 in
theorem S_JO_countLiveRows (l : Launch) (D : va_G) (b : Nat) (cs : Nat → ClassId) (r0 : Nat) (i1 : Int32) (μ : Mem) (res : Int32 × Mem) (n : Nat) (h : C_JO_countLiveRows n r0 i1 μ = some res) : MetI l y_JO_countLiveRows w_JO_countLiveRows 4 96 b cs D μ [.ref (b + r0), .int i1] res := by
  refine Met.ofW (cc := b_JO_countLiveRows) (maxL := 2) (ret := (Option.some Jvm.ClassFile.FieldType.int)) (by decide) rfl ?_
  intro p e s m args below meth c s₁ B hml hv
  obtain ⟨rfl, hK, hM⟩ := Wd.start hv
  have hx := B.exec
  have hb := B.bytes
  have hr := B.returns
  have hts : ∀ w ∈ jW, w.before _ s = true := fun w hw => atoms_spec (ws := w_JO_countLiveRows) B.pre w (List.mem_cons_of_mem _ hw)
  have hown : s.vm.findClass "JoinedLeaves$Join" = some m.cls := findClass_of_methodNamed B.named
  have hlocks := B.notSynchronized
  have hl := lv_entry ([.ref (b + r0), .int i1]) (n := 2) (Nat.le_of_ble_eq_true rfl)
  rw [lg_entry_eq]
  generalize (lg_sl ([.ref (b + r0), .int i1]) ++ List.replicate (2 - (lg_sl ([.ref (b + r0), .int i1])).length) Slot.unset).toArray = ls at hl ⊢
  have hl : lv_has ls 2 [(0, .ref (b + r0)), (1, .int i1)] := hl
  unfold C_JO_countLiveRows at h
  refine lv_aload_n hx hb d_JO_countLiveRows_0 rfl (lv_at hl 0 rfl) ?_
  obtain ⟨g1, h⟩ := of_g h
  obtain ⟨q2, hq2, h⟩ := of_b h
  refine g_callv (va_runV (As := []) (rest := []) ⟨hx, hb, hml, hown, hts⟩ (S_JO_compareRows l D b cs r0 μ q2 n hq2) ⟨callB_of 0 hts (goodIn_g jm_5_20) rfl rfl rfl (hts _ jm_0_6) (hts _ jm_5_18) (by decide +kernel) ⟨Nat.le_of_ble_eq_true rfl, Nat.le_of_ble_eq_true rfl⟩, (hts _ jm_5_19), (hts _ jm_11_37)⟩ (Wd.preV hK hM g1 rfl (by decide)) rfl rfl hl.1 rfl (lv_room (Nat.le_of_ble_eq_true rfl)) d_JO_countLiveRows_1 ⟨Nat.le_of_ble_eq_true rfl, Nat.le_of_ble_eq_true rfl⟩) hM (fun H locs hM => ?_)
  refine lv_aload_n hx hb d_JO_countLiveRows_4 rfl (lv_at hl 0 rfl) ?_
  refine lv_aload_n hx hb d_JO_countLiveRows_5 rfl (lv_at hl 0 rfl) ?_
  obtain ⟨g3, h⟩ := of_g h
  obtain ⟨g4, h⟩ := of_g h
  refine g_get (C := "JoinedLeaves$Join") (T := T_JO) (N := 7) (ref := "JoinedLeaves$Join") (v := .ref (b + (mR q2 r0 3))) hx hb hts jF_JO hown hK hM g3 (by decide) rfl 3 (by decide) (hts _ jm_1_45) (fun _ h9 => h9) (by decide) (rv_of (ok_0 g4)) d_JO_countLiveRows_6 ?_
  refine lv_iconst (v := 0) hx hb d_JO_countLiveRows_9 (by decide) ?_
  obtain ⟨g5, h⟩ := of_g h
  obtain ⟨g6, h⟩ := of_g h
  refine g_aald (ty := (.array .int)) hx hb hK hM 2 rfl rfl g4 g5 (ok_0 g6) d_JO_countLiveRows_10 ?_
  obtain ⟨q7, hq7, h⟩ := of_b h
  refine g_callv (va_runV (As := [.ref (b + (mR q2 (mR q2 r0 3) (Int32.toNatClampNeg 0)))]) (rest := []) ⟨hx, hb, hml, hown, hts⟩ (S_JO_keepLiveRows l D b cs r0 (mR q2 (mR q2 r0 3) (Int32.toNatClampNeg 0)) q2 q7 n hq7) ⟨callB_of 1 hts (goodIn_g jm_6_20) rfl rfl rfl (hts _ jm_0_6) (hts _ jm_6_18) (by decide +kernel) ⟨Nat.le_of_ble_eq_true rfl, Nat.le_of_ble_eq_true rfl⟩, (hts _ jm_6_19), (hts _ jm_11_47)⟩ (Wd.preV hK hM g3 rfl (by decide)) rfl rfl hl.1 rfl (lv_room (Nat.le_of_ble_eq_true rfl)) d_JO_countLiveRows_11 ⟨Nat.le_of_ble_eq_true rfl, Nat.le_of_ble_eq_true rfl⟩) hM (fun H locs hM => ?_)
  refine lv_aload_n hx hb d_JO_countLiveRows_14 rfl (lv_at hl 0 rfl) ?_
  obtain ⟨g8, h⟩ := of_g h
  obtain ⟨g9, h⟩ := of_g h
  refine g_get (C := "JoinedLeaves$Join") (T := T_JO) (N := 7) (ref := "JoinedLeaves$Join") (v := .ref (b + (mR q7 r0 3))) hx hb hts jF_JO hown hK hM g8 (by decide) rfl 3 (by decide) (hts _ jm_1_45) (fun _ h9 => h9) (by decide) (rv_of (ok_0 g9)) d_JO_countLiveRows_15 ?_
  refine lv_iconst (v := 0) hx hb d_JO_countLiveRows_18 (by decide) ?_
  obtain ⟨g10, h⟩ := of_g h
  obtain ⟨g11, h⟩ := of_g h
  refine g_aald (ty := (.array .int)) hx hb hK hM 2 rfl rfl g9 g10 (ok_0 g11) d_JO_countLiveRows_19 ?_
  refine lv_iload_n hx hb d_JO_countLiveRows_20 rfl (lv_at hl 1 rfl) ?_
  obtain ⟨g12, h⟩ := of_g h
  refine g_iald hx hb hK hM g11 g12 d_JO_countLiveRows_21 ?_
  obtain ⟨q13, hq13, h⟩ := of_b h
  refine g_calli (va_runS (As := [.int (mI q7 (mR q7 (mR q7 r0 3) (Int32.toNatClampNeg 0)) (Int32.toNatClampNeg i1))]) (rest := []) ⟨hx, hb, hml, hown, hts⟩ (S_JI_bitCount l D b cs (mI q7 (mR q7 (mR q7 r0 3) (Int32.toNatClampNeg 0)) (Int32.toNatClampNeg i1)) q7 q13 n hq13) ⟨callB_of 1 hts (goodIn_g jm_6_29) rfl rfl rfl (hts _ jm_0_13) (hts _ jm_6_27) (by decide +kernel) ⟨Nat.le_of_ble_eq_true rfl, Nat.le_of_ble_eq_true rfl⟩, (hts _ jm_6_28)⟩ (Wd.preS hK hM) rfl rfl hl.1 rfl (lv_room (Nat.le_of_ble_eq_true rfl)) d_JO_countLiveRows_22 ⟨Nat.le_of_ble_eq_true rfl, Nat.le_of_ble_eq_true rfl⟩) hM (fun H locs hM => ?_)
  exact g_iret hx hb hr hlocks hM (Option.some.inj h) d_JO_countLiveRows_25
abbrev w_JO_hasWay : List Cond := .code y_JO_hasWay b_JO_hasWay 3 (Option.some Jvm.ClassFile.FieldType.boolean) :: jW
def B_JO_hasWay_0 (n : Nat) (k : Nat → Nat → Nat → Mem → Option (Int32 × Mem)) (r0 : Nat) (r1 : Nat) (μ : Mem) : Option (Int32 × Mem) :=
  if ok μ r0 4 = true then if ok μ (mR μ r0 1) 3 = true then Option.bind (C_HA_root n (mR μ r0 1) μ) (fun q3 => if q3.1 = (-1) then k 1 0 0 q3.2 else if ok q3.2 r1 100 = true then if ib q3.1 (mZ q3.2 r1) = true then if (mI q3.2 r1 (Int32.toNatClampNeg q3.1)) = 0 then some (0, q3.2) else k 1 0 0 q3.2 else none else none) else none else none
def B_JO_hasWay_1 (n : Nat) (k : Nat → Nat → Nat → Mem → Option (Int32 × Mem)) (r0 : Nat) (r1 : Nat) (μ : Mem) : Option (Int32 × Mem) :=
  some (1, μ)
def F_JO_hasWay : Nat → Nat → Nat → Nat → Mem → Option (Int32 × Mem)
  | 0 => fun _ _ _ _ => none
  | n + 1 => fun id r0 r1 μ => match id with
    | 0 => B_JO_hasWay_0 n (F_JO_hasWay n) r0 r1 μ
    | 1 => B_JO_hasWay_1 n (F_JO_hasWay n) r0 r1 μ
    | _ => none
def C_JO_hasWay (n : Nat) (r0 : Nat) (r1 : Nat) (μ : Mem) : Option (Int32 × Mem) := F_JO_hasWay n 0 r0 r1 μ
set_option maxHeartbeats 4000000 in
set_option maxRecDepth 100000 in
theorem S_JO_hasWay (l : Launch) (D : va_G) (b : Nat) (cs : Nat → ClassId) (u_r0 : Nat) (u_r1 : Nat) (ν : Mem) (res : Int32 × Mem) (n : Nat) (h : C_JO_hasWay n u_r0 u_r1 ν = some res) : MetI l y_JO_hasWay w_JO_hasWay 2 42 b cs D ν [.ref (b + u_r0), .ref (b + u_r1)] res := by
  refine Met.ofW (cc := b_JO_hasWay) (maxL := 3) (ret := (Option.some Jvm.ClassFile.FieldType.boolean)) (by decide) rfl ?_
  intro p e s m args below meth c s₁ B hml hv
  obtain ⟨rfl, hK, hM⟩ := Wd.start hv
  have hx := B.exec
  have hb := B.bytes
  have hr := B.returns
  have hts : ∀ w ∈ jW, w.before _ s = true := fun w hw => atoms_spec (ws := w_JO_hasWay) B.pre w (List.mem_cons_of_mem _ hw)
  have hown : s.vm.findClass "JoinedLeaves$Join" = some m.cls := findClass_of_methodNamed B.named
  have hlocks := B.notSynchronized
  have hl := lv_entry ([.ref (b + u_r0), .ref (b + u_r1)]) (n := 3) (Nat.le_of_ble_eq_true rfl)
  rw [lg_entry_eq]
  generalize (lg_sl ([.ref (b + u_r0), .ref (b + u_r1)]) ++ List.replicate (3 - (lg_sl ([.ref (b + u_r0), .ref (b + u_r1)])).length) Slot.unset).toArray = ls at hl ⊢
  have hl : lv_has ls 3 [(0, .ref (b + u_r0)), (1, .ref (b + u_r1))] := hl
  have key : ∀ N : Nat, (∀ (r0 : Nat) (r1 : Nat) (μ : Mem) (H : Heap) (locs : List Loc) (ls : Array Slot), F_JO_hasWay N 0 r0 r1 μ = some res → Wd (Aw b (mN ν)) b cs D s.heap μ H locs → lv_has ls 3 [(0, .ref (b + r0)), (1, .ref (b + r1))] → W p l e (headSpec w_JO_hasWay { frames := 2, cells := 0, slots := 0, locals := 42 }).room s m ([.ref (b + u_r0), .ref (b + u_r1)]).toArray below meth c H locs 0 0 (MQ below (va_Qi (fun r μ' => (r, μ') = res ∧ mN μ' ≤ mN ν) (Bw b cs D) (Aw b (mN ν))) ([.ref (b + u_r0), .ref (b + u_r1)]).toArray s 0 0 (Aw b (mN ν))) (F0 m 0 ls [])) ∧
      (∀ (r0 : Nat) (r1 : Nat) (μ : Mem) (H : Heap) (locs : List Loc) (ls : Array Slot), F_JO_hasWay N 1 r0 r1 μ = some res → Wd (Aw b (mN ν)) b cs D s.heap μ H locs → lv_has ls 3 [] → W p l e (headSpec w_JO_hasWay { frames := 2, cells := 0, slots := 0, locals := 42 }).room s m ([.ref (b + u_r0), .ref (b + u_r1)]).toArray below meth c H locs 0 0 (MQ below (va_Qi (fun r μ' => (r, μ') = res ∧ mN μ' ≤ mN ν) (Bw b cs D) (Aw b (mN ν))) ([.ref (b + u_r0), .ref (b + u_r1)]).toArray s 0 0 (Aw b (mN ν))) (F0 m 19 ls [])) := by
    intro N
    induction N with
    | zero => exact ⟨fun _ _ _ _ _ _ h => (nomatch h), fun _ _ _ _ _ _ h => (nomatch h)⟩
    | succ n ih =>
      obtain ⟨ih0, ih1⟩ := ih
      refine ⟨?_, ?_⟩
      · intro r0 r1 μ H locs ls h hM hl
        have h : B_JO_hasWay_0 n (F_JO_hasWay n) r0 r1 μ = some res := h
        unfold B_JO_hasWay_0 at h
        refine lv_aload_n hx hb d_JO_hasWay_0 rfl (lv_at hl 0 rfl) ?_
        obtain ⟨g1, h⟩ := of_g h
        obtain ⟨g2, h⟩ := of_g h
        refine g_get (C := "JoinedLeaves$Join") (T := T_JO) (N := 7) (ref := "JoinedLeaves$Join") (v := .ref (b + (mR μ r0 1))) hx hb hts jF_JO hown hK hM g1 (by decide) rfl 1 (by decide) (hts _ jm_1_43) (fun _ h9 => h9) (by decide) (rv_of (ok_0 g2)) d_JO_hasWay_1 ?_
        obtain ⟨q3, hq3, h⟩ := of_b h
        refine g_calli (va_runVN (As := []) (rest := []) ⟨hx, hb, hml, hown, hts⟩ (S_HA_root l D b cs (mR μ r0 1) μ q3 n hq3) ⟨va_cnB 0 hts (goodIn_g jm_5_17) rfl rfl rfl (hK.2.1 _ jn_48) (hts _ jm_0_5) (by decide +kernel) ⟨Nat.le_of_ble_eq_true rfl, Nat.le_of_ble_eq_true rfl⟩, (hts _ jm_5_16), (hts _ jm_11_36)⟩ (Wd.preV hK hM g2 rfl (by decide)) rfl rfl hl.1 rfl (lv_room (Nat.le_of_ble_eq_true rfl)) d_JO_hasWay_4 ⟨Nat.le_of_ble_eq_true rfl, Nat.le_of_ble_eq_true rfl⟩) hM (fun H locs hM => ?_)
        refine lv_istore_n hx hb d_JO_hasWay_7 rfl hl (by decide) rfl (fun ls hl => ?_)
        have hl : lv_has ls 3 [(2, .int q3.1), (0, .ref (b + r0)), (1, .ref (b + r1))] := hl
        refine lv_iload_n hx hb d_JO_hasWay_8 rfl (lv_at hl 0 rfl) ?_
        refine lv_iconst (v := (-1)) hx hb d_JO_hasWay_9 (by decide) ?_
        refine lv_icmp_eq (tgt := 19) hx hb d_JO_hasWay_10 (by decide) (fun hc => ?_) (fun hc => ?_)
        · replace h := of_t hc h
          exact ih1 _ _ _ _ _ _ h hM (lv_sub hl [] rfl)
        · replace h := of_f hc h
          refine lv_aload_n hx hb d_JO_hasWay_13 rfl (lv_at hl 2 rfl) ?_
          refine lv_iload_n hx hb d_JO_hasWay_14 rfl (lv_at hl 0 rfl) ?_
          obtain ⟨g4, h⟩ := of_g h
          obtain ⟨g5, h⟩ := of_g h
          refine g_iald hx hb hK hM g4 g5 d_JO_hasWay_15 ?_
          refine lv_if_eq (tgt := 23) hx hb d_JO_hasWay_16 (by decide) (fun hc => ?_) (fun hc => ?_)
          · replace h := of_t hc h
            refine lv_iconst (v := 0) hx hb d_JO_hasWay_23 (by decide) ?_
            exact g_zret hx hb hr narrow_b0 hlocks hM (Option.some.inj h) d_JO_hasWay_24
          · replace h := of_f hc h
            exact ih1 _ _ _ _ _ _ h hM (lv_sub hl [] rfl)
      · intro r0 r1 μ H locs ls h hM hl
        have h : B_JO_hasWay_1 n (F_JO_hasWay n) r0 r1 μ = some res := h
        unfold B_JO_hasWay_1 at h
        refine lv_iconst (v := 1) hx hb d_JO_hasWay_19 (by decide) ?_
        refine lv_goto (tgt := 24) hx hb d_JO_hasWay_20 (by decide) ?_
        exact g_zret hx hb hr narrow_b1 hlocks hM (Option.some.inj h) d_JO_hasWay_24
  exact (key n).1 _ _ _ _ _ _ h hM hl
abbrev w_JO_storeAnswer : List Cond := .code y_JO_storeAnswer b_JO_storeAnswer 2 (Option.none : Option Jvm.ClassFile.FieldType) :: jW
def B_JO_storeAnswer_0 (n : Nat) (k : Nat → Nat → Int32 → Mem → Option (Mem)) (r0 : Nat) (i1 : Int32) (μ : Mem) : Option (Mem) :=
  if ok μ r0 4 = true then if 64 ≤ (mI μ r0 6) then k 1 r0 0 μ else if ok μ (mR μ r0 5) 100 = true then if ib (mI μ r0 6) (mZ μ (mR μ r0 5)) = true then Option.bind (some (sI μ (mR μ r0 5) (Int32.toNatClampNeg (mI μ r0 6)) i1)) (fun μ4 => k 1 r0 0 μ4) else none else none else none
def B_JO_storeAnswer_1 (n : Nat) (k : Nat → Nat → Int32 → Mem → Option (Mem)) (r0 : Nat) (i1 : Int32) (μ : Mem) : Option (Mem) :=
  if ok μ r0 4 = true then Option.bind (some (sI μ r0 6 ((mI μ r0 6) + 1))) (fun μ6 => some μ6) else none
def F_JO_storeAnswer : Nat → Nat → Nat → Int32 → Mem → Option (Mem)
  | 0 => fun _ _ _ _ => none
  | n + 1 => fun id r0 i1 μ => match id with
    | 0 => B_JO_storeAnswer_0 n (F_JO_storeAnswer n) r0 i1 μ
    | 1 => B_JO_storeAnswer_1 n (F_JO_storeAnswer n) r0 i1 μ
    | _ => none
def C_JO_storeAnswer (n : Nat) (r0 : Nat) (i1 : Int32) (μ : Mem) : Option (Mem) := F_JO_storeAnswer n 0 r0 i1 μ
set_option maxHeartbeats 4000000 in
set_option maxRecDepth 100000 in
theorem S_JO_storeAnswer (l : Launch) (D : va_G) (b : Nat) (cs : Nat → ClassId) (u_r0 : Nat) (u_i1 : Int32) (ν : Mem) (res : Mem) (n : Nat) (h : C_JO_storeAnswer n u_r0 u_i1 ν = some res) : MetV l y_JO_storeAnswer w_JO_storeAnswer 0 0 b cs D ν [.ref (b + u_r0), .int u_i1] res := by
  refine Met.ofW (cc := b_JO_storeAnswer) (maxL := 2) (ret := (Option.none : Option Jvm.ClassFile.FieldType)) (by decide) rfl ?_
  intro p e s m args below meth c s₁ B hml hv
  obtain ⟨rfl, hK, hM⟩ := Wd.start hv
  have hx := B.exec
  have hb := B.bytes
  have hr := B.returns
  have hts : ∀ w ∈ jW, w.before _ s = true := fun w hw => atoms_spec (ws := w_JO_storeAnswer) B.pre w (List.mem_cons_of_mem _ hw)
  have hown : s.vm.findClass "JoinedLeaves$Join" = some m.cls := findClass_of_methodNamed B.named
  have hlocks := B.notSynchronized
  have hl := lv_entry ([.ref (b + u_r0), .int u_i1]) (n := 2) (Nat.le_of_ble_eq_true rfl)
  rw [lg_entry_eq]
  generalize (lg_sl ([.ref (b + u_r0), .int u_i1]) ++ List.replicate (2 - (lg_sl ([.ref (b + u_r0), .int u_i1])).length) Slot.unset).toArray = ls at hl ⊢
  have hl : lv_has ls 2 [(0, .ref (b + u_r0)), (1, .int u_i1)] := hl
  have key : ∀ N : Nat, (∀ (r0 : Nat) (i1 : Int32) (μ : Mem) (H : Heap) (locs : List Loc) (ls : Array Slot), F_JO_storeAnswer N 0 r0 i1 μ = some res → Wd (Aw b (mN ν)) b cs D s.heap μ H locs → lv_has ls 2 [(0, .ref (b + r0)), (1, .int i1)] → W p l e (headSpec w_JO_storeAnswer { frames := 0, cells := 0, slots := 0, locals := 0 }).room s m ([.ref (b + u_r0), .int u_i1]).toArray below meth c H locs 0 0 (MQ below (va_Qv (fun μ' => μ' = res ∧ mN μ' ≤ mN ν) (Bw b cs D) (Aw b (mN ν))) ([.ref (b + u_r0), .int u_i1]).toArray s 0 0 (Aw b (mN ν))) (F0 m 0 ls [])) ∧
      (∀ (r0 : Nat) (i1 : Int32) (μ : Mem) (H : Heap) (locs : List Loc) (ls : Array Slot), F_JO_storeAnswer N 1 r0 i1 μ = some res → Wd (Aw b (mN ν)) b cs D s.heap μ H locs → lv_has ls 2 [(0, .ref (b + r0))] → W p l e (headSpec w_JO_storeAnswer { frames := 0, cells := 0, slots := 0, locals := 0 }).room s m ([.ref (b + u_r0), .int u_i1]).toArray below meth c H locs 0 0 (MQ below (va_Qv (fun μ' => μ' = res ∧ mN μ' ≤ mN ν) (Bw b cs D) (Aw b (mN ν))) ([.ref (b + u_r0), .int u_i1]).toArray s 0 0 (Aw b (mN ν))) (F0 m 19 ls [])) := by
    intro N
    induction N with
    | zero => exact ⟨fun _ _ _ _ _ _ h => (nomatch h), fun _ _ _ _ _ _ h => (nomatch h)⟩
    | succ n ih =>
      obtain ⟨ih0, ih1⟩ := ih
      refine ⟨?_, ?_⟩
      · intro r0 i1 μ H locs ls h hM hl
        have h : B_JO_storeAnswer_0 n (F_JO_storeAnswer n) r0 i1 μ = some res := h
        unfold B_JO_storeAnswer_0 at h
        refine lv_aload_n hx hb d_JO_storeAnswer_0 rfl (lv_at hl 0 rfl) ?_
        obtain ⟨g1, h⟩ := of_g h
        refine g_get (C := "JoinedLeaves$Join") (T := T_JO) (N := 7) (ref := "JoinedLeaves$Join") (v := .int (mI μ r0 6)) hx hb hts jF_JO hown hK hM g1 (by decide) rfl 6 (by decide) (hts _ jm_2_0) (fun _ h9 => h9) (by decide) rfl d_JO_storeAnswer_1 ?_
        refine lv_bipush (v := 64) hx hb d_JO_storeAnswer_4 (by decide) ?_
        refine lv_icmp_ge (tgt := 19) hx hb d_JO_storeAnswer_6 (by decide) (fun hc => ?_) (fun hc => ?_)
        · replace h := of_t hc h
          exact ih1 _ _ _ _ _ _ h hM (lv_sub hl [0] rfl)
        · replace h := of_f hc h
          refine lv_aload_n hx hb d_JO_storeAnswer_9 rfl (lv_at hl 0 rfl) ?_
          obtain ⟨g2, h⟩ := of_g h
          refine g_get (C := "JoinedLeaves$Join") (T := T_JO) (N := 7) (ref := "JoinedLeaves$Join") (v := .ref (b + (mR μ r0 5))) hx hb hts jF_JO hown hK hM g1 (by decide) rfl 5 (by decide) (hts _ jm_1_47) (fun _ h9 => h9) (by decide) (rv_of (ok_0 g2)) d_JO_storeAnswer_10 ?_
          refine lv_aload_n hx hb d_JO_storeAnswer_13 rfl (lv_at hl 0 rfl) ?_
          refine g_get (C := "JoinedLeaves$Join") (T := T_JO) (N := 7) (ref := "JoinedLeaves$Join") (v := .int (mI μ r0 6)) hx hb hts jF_JO hown hK hM g1 (by decide) rfl 6 (by decide) (hts _ jm_2_0) (fun _ h9 => h9) (by decide) rfl d_JO_storeAnswer_14 ?_
          refine lv_iload_n hx hb d_JO_storeAnswer_17 rfl (lv_at hl 1 rfl) ?_
          obtain ⟨g3, h⟩ := of_g h
          obtain ⟨μ4, e_μ4, h⟩ := of_b h
          obtain rfl := Option.some.inj e_μ4
          refine g_iast (v := i1) hx hb hK hM g2 g3 d_JO_storeAnswer_18 (fun H locs hM => ?_)
          exact ih1 _ _ _ _ _ _ h hM (lv_sub hl [0] rfl)
      · intro r0 i1 μ H locs ls h hM hl
        have h : B_JO_storeAnswer_1 n (F_JO_storeAnswer n) r0 i1 μ = some res := h
        unfold B_JO_storeAnswer_1 at h
        refine lv_aload_n hx hb d_JO_storeAnswer_19 rfl (lv_at hl 0 rfl) ?_
        refine lv_dup hx hb d_JO_storeAnswer_20 rfl ?_
        obtain ⟨g5, h⟩ := of_g h
        refine g_get (C := "JoinedLeaves$Join") (T := T_JO) (N := 7) (ref := "JoinedLeaves$Join") (v := .int (mI μ r0 6)) hx hb hts jF_JO hown hK hM g5 (by decide) rfl 6 (by decide) (hts _ jm_2_0) (fun _ h9 => h9) (by decide) rfl d_JO_storeAnswer_21 ?_
        refine lv_iconst (v := 1) hx hb d_JO_storeAnswer_24 (by decide) ?_
        refine lv_iadd hx hb d_JO_storeAnswer_25 ?_
        obtain ⟨μ6, e_μ6, h⟩ := of_b h
        obtain rfl := Option.some.inj e_μ6
        refine g_puti (v := (mI μ r0 6) + 1) (C := "JoinedLeaves$Join") (T := T_JO) (N := 7) (ref := "JoinedLeaves$Join") hx hb hts jF_JO t_JO o_JO n_JO hown hK hM g5 (by decide) rfl 6 (by decide) (hts _ jm_2_0) (fun _ h9 => h9) rfl (ty := .int) (by decide +kernel) rfl rfl (by decide) (Or.inl rfl) d_JO_storeAnswer_26 (fun H locs hM => ?_)
        exact g_vret hx hb hr hlocks hM (Option.some.inj h) d_JO_storeAnswer_29
  exact (key n).1 _ _ _ _ _ _ h hM hl
abbrev w_JO_liveValuesOf : List Cond := .code y_JO_liveValuesOf b_JO_liveValuesOf 4 (Option.some Jvm.ClassFile.FieldType.int) :: jW
def C_JO_liveValuesOf (n : Nat) (r0 : Nat) (i1 : Int32) (r2 : Nat) (μ : Mem) : Option (Int32 × Mem) :=
  if ok μ r0 4 = true then if ok μ (mR μ r0 0) 2 = true then Option.bind (C_QU_atomWith n (mR μ r0 0) i1 μ) (fun q3 => if q3.1 = (-1) then some (0, q3.2) else if ok q3.2 r0 4 = true then if ok q3.2 (mR q3.2 r0 0) 2 = true then if ok q3.2 (mR q3.2 (mR q3.2 r0 0) 0) 103 = true then if ib q3.1 (mZ q3.2 (mR q3.2 (mR q3.2 r0 0) 0)) = true then if ok q3.2 (mR q3.2 (mR q3.2 (mR q3.2 r0 0) 0) (Int32.toNatClampNeg q3.1)) 1 = true then if ok q3.2 r2 100 = true then if ib q3.1 (mZ q3.2 r2) = true then Option.bind (C_AT_valuesOf n (mR q3.2 (mR q3.2 (mR q3.2 r0 0) 0) (Int32.toNatClampNeg q3.1)) i1 (mI q3.2 r2 (Int32.toNatClampNeg q3.1)) q3.2) (fun q11 => some (q11.1, q11.2)) else none else none else none else none else none else none else none) else none else none
set_option maxHeartbeats 4000000 in
set_option maxRecDepth 100000 in
theorem S_JO_liveValuesOf (l : Launch) (D : va_G) (b : Nat) (cs : Nat → ClassId) (r0 : Nat) (i1 : Int32) (r2 : Nat) (μ : Mem) (res : Int32 × Mem) (n : Nat) (h : C_JO_liveValuesOf n r0 i1 r2 μ = some res) : MetI l y_JO_liveValuesOf w_JO_liveValuesOf 2 47 b cs D μ [.ref (b + r0), .int i1, .ref (b + r2)] res := by
  refine Met.ofW (cc := b_JO_liveValuesOf) (maxL := 4) (ret := (Option.some Jvm.ClassFile.FieldType.int)) (by decide) rfl ?_
  intro p e s m args below meth c s₁ B hml hv
  obtain ⟨rfl, hK, hM⟩ := Wd.start hv
  have hx := B.exec
  have hb := B.bytes
  have hr := B.returns
  have hts : ∀ w ∈ jW, w.before _ s = true := fun w hw => atoms_spec (ws := w_JO_liveValuesOf) B.pre w (List.mem_cons_of_mem _ hw)
  have hown : s.vm.findClass "JoinedLeaves$Join" = some m.cls := findClass_of_methodNamed B.named
  have hlocks := B.notSynchronized
  have hl := lv_entry ([.ref (b + r0), .int i1, .ref (b + r2)]) (n := 4) (Nat.le_of_ble_eq_true rfl)
  rw [lg_entry_eq]
  generalize (lg_sl ([.ref (b + r0), .int i1, .ref (b + r2)]) ++ List.replicate (4 - (lg_sl ([.ref (b + r0), .int i1, .ref (b + r2)])).length) Slot.unset).toArray = ls at hl ⊢
  have hl : lv_has ls 4 [(0, .ref (b + r0)), (1, .int i1), (2, .ref (b + r2))] := hl
  unfold C_JO_liveValuesOf at h
  refine lv_aload_n hx hb d_JO_liveValuesOf_0 rfl (lv_at hl 0 rfl) ?_
  obtain ⟨g1, h⟩ := of_g h
  obtain ⟨g2, h⟩ := of_g h
  refine g_get (C := "JoinedLeaves$Join") (T := T_JO) (N := 7) (ref := "JoinedLeaves$Join") (v := .ref (b + (mR μ r0 0))) hx hb hts jF_JO hown hK hM g1 (by decide) rfl 0 (by decide) (hts _ jm_1_42) (fun _ h9 => h9) (by decide) (rv_of (ok_0 g2)) d_JO_liveValuesOf_1 ?_
  refine lv_iload_n hx hb d_JO_liveValuesOf_4 rfl (lv_at hl 1 rfl) ?_
  obtain ⟨q3, hq3, h⟩ := of_b h
  refine g_calli (va_runVN (As := [.int i1]) (rest := []) ⟨hx, hb, hml, hown, hts⟩ (S_QU_atomWith l D b cs (mR μ r0 0) i1 μ q3 n hq3) ⟨va_cnB 1 hts (goodIn_g jm_7_28) rfl rfl rfl (hK.2.1 _ jn_58) (hts _ jm_0_3) (by decide +kernel) ⟨Nat.le_of_ble_eq_true rfl, Nat.le_of_ble_eq_true rfl⟩, (hts _ jm_7_27), (hts _ jm_12_9)⟩ (Wd.preV hK hM g2 rfl (by decide)) rfl rfl hl.1 rfl (lv_room (Nat.le_of_ble_eq_true rfl)) d_JO_liveValuesOf_5 ⟨Nat.le_of_ble_eq_true rfl, Nat.le_of_ble_eq_true rfl⟩) hM (fun H locs hM => ?_)
  refine lv_istore_n hx hb d_JO_liveValuesOf_8 rfl hl (by decide) rfl (fun ls hl => ?_)
  have hl : lv_has ls 4 [(3, .int q3.1), (0, .ref (b + r0)), (1, .int i1), (2, .ref (b + r2))] := hl
  refine lv_iload_n hx hb d_JO_liveValuesOf_9 rfl (lv_at hl 0 rfl) ?_
  refine lv_iconst (v := (-1)) hx hb d_JO_liveValuesOf_10 (by decide) ?_
  refine lv_icmp_ne (tgt := 18) hx hb d_JO_liveValuesOf_11 (by decide) (fun hc => ?_) (fun hc => ?_)
  · replace h := of_f hc h
    refine lv_aload_n hx hb d_JO_liveValuesOf_18 rfl (lv_at hl 1 rfl) ?_
    obtain ⟨g4, h⟩ := of_g h
    obtain ⟨g5, h⟩ := of_g h
    refine g_get (C := "JoinedLeaves$Join") (T := T_JO) (N := 7) (ref := "JoinedLeaves$Join") (v := .ref (b + (mR q3.2 r0 0))) hx hb hts jF_JO hown hK hM g4 (by decide) rfl 0 (by decide) (hts _ jm_1_42) (fun _ h9 => h9) (by decide) (rv_of (ok_0 g5)) d_JO_liveValuesOf_19 ?_
    obtain ⟨g6, h⟩ := of_g h
    refine g_getN (C := "JoinedLeaves$Question") (T := T_QU) (N := 5) (ref := "JoinedLeaves$Question") (v := .ref (b + (mR q3.2 (mR q3.2 r0 0) 0))) hx hb hts jF_QU hown hK hM g5 (by decide) rfl 0 (by decide) (hK.nest _ jn_11 rfl) (fun _ h9 => h9) (by decide) (rv_of (ok_0 g6)) d_JO_liveValuesOf_22 ?_
    refine lv_iload_n hx hb d_JO_liveValuesOf_25 rfl (lv_at hl 0 rfl) ?_
    obtain ⟨g7, h⟩ := of_g h
    obtain ⟨g8, h⟩ := of_g h
    refine g_aald (ty := (.object "JoinedLeaves$Atom")) hx hb hK hM 1 rfl rfl g6 g7 (ok_0 g8) d_JO_liveValuesOf_26 ?_
    refine lv_iload_n hx hb d_JO_liveValuesOf_27 rfl (lv_at hl 2 rfl) ?_
    refine lv_aload_n hx hb d_JO_liveValuesOf_28 rfl (lv_at hl 3 rfl) ?_
    refine lv_iload_n hx hb d_JO_liveValuesOf_29 rfl (lv_at hl 0 rfl) ?_
    obtain ⟨g9, h⟩ := of_g h
    obtain ⟨g10, h⟩ := of_g h
    refine g_iald hx hb hK hM g9 g10 d_JO_liveValuesOf_30 ?_
    obtain ⟨q11, hq11, h⟩ := of_b h
    refine g_calli (va_runVN (As := [.int i1, .int (mI q3.2 r2 (Int32.toNatClampNeg q3.1))]) (rest := []) ⟨hx, hb, hml, hown, hts⟩ (S_AT_valuesOf l D b cs (mR q3.2 (mR q3.2 (mR q3.2 r0 0) 0) (Int32.toNatClampNeg q3.1)) i1 (mI q3.2 r2 (Int32.toNatClampNeg q3.1)) q3.2 q11 n hq11) ⟨va_cnB 2 hts (goodIn_g jm_7_30) rfl rfl rfl (hK.2.1 _ jn_59) (hts _ jm_0_4) (by decide +kernel) ⟨Nat.le_of_ble_eq_true rfl, Nat.le_of_ble_eq_true rfl⟩, (hts _ jm_7_29), (hts _ jm_12_10)⟩ (Wd.preV hK hM g8 rfl (by decide)) rfl rfl hl.1 rfl (lv_room (Nat.le_of_ble_eq_true rfl)) d_JO_liveValuesOf_31 ⟨Nat.le_of_ble_eq_true rfl, Nat.le_of_ble_eq_true rfl⟩) hM (fun H locs hM => ?_)
    exact g_iret hx hb hr hlocks hM (Option.some.inj h) d_JO_liveValuesOf_34
  · replace h := of_t hc h
    refine lv_iconst (v := 0) hx hb d_JO_liveValuesOf_14 (by decide) ?_
    refine lv_goto (tgt := 34) hx hb d_JO_liveValuesOf_15 (by decide) ?_
    exact g_iret hx hb hr hlocks hM (Option.some.inj h) d_JO_liveValuesOf_34
abbrev w_JO_keepRowsWith : List Cond := .code y_JO_keepRowsWith b_JO_keepRowsWith 7 (Option.none : Option Jvm.ClassFile.FieldType) :: jW
def B_JO_keepRowsWith_0 (n : Nat) (k : Nat → Nat → Int32 → Int32 → Int32 → Nat → Int32 → Mem → Option (Mem)) (r0 : Nat) (i1 : Int32) (i2 : Int32) (i3 : Int32) (r4 : Nat) (i5 : Int32) (μ : Mem) : Option (Mem) :=
  if ok μ r0 4 = true then if ok μ (mR μ r0 3) 104 = true then if ib (i1 + 1) (mZ μ (mR μ r0 3)) = true then if ok μ (mR μ (mR μ r0 3) (Int32.toNatClampNeg (i1 + 1))) 100 = true then k 1 r0 i1 i2 i3 (mR μ (mR μ r0 3) (Int32.toNatClampNeg (i1 + 1))) 0 μ else none else none else none else none
def B_JO_keepRowsWith_1 (n : Nat) (k : Nat → Nat → Int32 → Int32 → Int32 → Nat → Int32 → Mem → Option (Mem)) (r0 : Nat) (i1 : Int32) (i2 : Int32) (i3 : Int32) (r4 : Nat) (i5 : Int32) (μ : Mem) : Option (Mem) :=
  if ok μ r0 4 = true then if ok μ (mR μ r0 0) 2 = true then if (mI μ (mR μ r0 0) 1) ≤ i5 then Option.bind (C_JO_keepLiveRows n r0 r4 μ) (fun q7 => some q7) else if ok μ (mR μ (mR μ r0 0) 0) 103 = true then if ib i5 (mZ μ (mR μ (mR μ r0 0) 0)) = true then if ok μ (mR μ (mR μ (mR μ r0 0) 0) (Int32.toNatClampNeg i5)) 1 = true then Option.bind (C_AT_rowsAllowing n (mR μ (mR μ (mR μ r0 0) 0) (Int32.toNatClampNeg i5)) i2 i3 μ) (fun q11 => if ok q11.2 r0 4 = true then if ok q11.2 (mR q11.2 r0 3) 104 = true then if ib i1 (mZ q11.2 (mR q11.2 r0 3)) = true then if ok q11.2 (mR q11.2 (mR q11.2 r0 3) (Int32.toNatClampNeg i1)) 100 = true then if ib i5 (mZ q11.2 (mR q11.2 (mR q11.2 r0 3) (Int32.toNatClampNeg i1))) = true then if ok q11.2 r4 100 = true then if ib i5 (mZ q11.2 r4) = true then Option.bind (some (sI q11.2 r4 (Int32.toNatClampNeg i5) ((mI q11.2 (mR q11.2 (mR q11.2 r0 3) (Int32.toNatClampNeg i1)) (Int32.toNatClampNeg i5)) &&& q11.1))) (fun μ19 => Option.bind (some (i5 + 1)) (fun v20 => k 1 r0 i1 i2 i3 r4 v20 μ19)) else none else none else none else none else none else none else none) else none else none else none else none else none
def F_JO_keepRowsWith : Nat → Nat → Nat → Int32 → Int32 → Int32 → Nat → Int32 → Mem → Option (Mem)
  | 0 => fun _ _ _ _ _ _ _ _ => none
  | n + 1 => fun id r0 i1 i2 i3 r4 i5 μ => match id with
    | 0 => B_JO_keepRowsWith_0 n (F_JO_keepRowsWith n) r0 i1 i2 i3 r4 i5 μ
    | 1 => B_JO_keepRowsWith_1 n (F_JO_keepRowsWith n) r0 i1 i2 i3 r4 i5 μ
    | _ => none
def C_JO_keepRowsWith (n : Nat) (r0 : Nat) (i1 : Int32) (i2 : Int32) (i3 : Int32) (μ : Mem) : Option (Mem) := F_JO_keepRowsWith n 0 r0 i1 i2 i3 0 0 μ
set_option maxHeartbeats 4000000 in
set_option maxRecDepth 100000 in
theorem S_JO_keepRowsWith (l : Launch) (D : va_G) (b : Nat) (cs : Nat → ClassId) (u_r0 : Nat) (u_i1 : Int32) (u_i2 : Int32) (u_i3 : Int32) (ν : Mem) (res : Mem) (n : Nat) (h : C_JO_keepRowsWith n u_r0 u_i1 u_i2 u_i3 ν = some res) : MetV l y_JO_keepRowsWith w_JO_keepRowsWith 3 68 b cs D ν [.ref (b + u_r0), .int u_i1, .int u_i2, .int u_i3] res := by
  refine Met.ofW (cc := b_JO_keepRowsWith) (maxL := 7) (ret := (Option.none : Option Jvm.ClassFile.FieldType)) (by decide) rfl ?_
  intro p e s m args below meth c s₁ B hml hv
  obtain ⟨rfl, hK, hM⟩ := Wd.start hv
  have hx := B.exec
  have hb := B.bytes
  have hr := B.returns
  have hts : ∀ w ∈ jW, w.before _ s = true := fun w hw => atoms_spec (ws := w_JO_keepRowsWith) B.pre w (List.mem_cons_of_mem _ hw)
  have hown : s.vm.findClass "JoinedLeaves$Join" = some m.cls := findClass_of_methodNamed B.named
  have hlocks := B.notSynchronized
  have hl := lv_entry ([.ref (b + u_r0), .int u_i1, .int u_i2, .int u_i3]) (n := 7) (Nat.le_of_ble_eq_true rfl)
  rw [lg_entry_eq]
  generalize (lg_sl ([.ref (b + u_r0), .int u_i1, .int u_i2, .int u_i3]) ++ List.replicate (7 - (lg_sl ([.ref (b + u_r0), .int u_i1, .int u_i2, .int u_i3])).length) Slot.unset).toArray = ls at hl ⊢
  have hl : lv_has ls 7 [(0, .ref (b + u_r0)), (1, .int u_i1), (2, .int u_i2), (3, .int u_i3)] := hl
  have key : ∀ N : Nat, (∀ (r0 : Nat) (i1 : Int32) (i2 : Int32) (i3 : Int32) (r4 : Nat) (i5 : Int32) (μ : Mem) (H : Heap) (locs : List Loc) (ls : Array Slot), F_JO_keepRowsWith N 0 r0 i1 i2 i3 r4 i5 μ = some res → Wd (Aw b (mN ν)) b cs D s.heap μ H locs → lv_has ls 7 [(0, .ref (b + r0)), (1, .int i1), (2, .int i2), (3, .int i3)] → W p l e (headSpec w_JO_keepRowsWith { frames := 3, cells := 0, slots := 0, locals := 68 }).room s m ([.ref (b + u_r0), .int u_i1, .int u_i2, .int u_i3]).toArray below meth c H locs 0 0 (MQ below (va_Qv (fun μ' => μ' = res ∧ mN μ' ≤ mN ν) (Bw b cs D) (Aw b (mN ν))) ([.ref (b + u_r0), .int u_i1, .int u_i2, .int u_i3]).toArray s 0 0 (Aw b (mN ν))) (F0 m 0 ls [])) ∧
      (∀ (r0 : Nat) (i1 : Int32) (i2 : Int32) (i3 : Int32) (r4 : Nat) (i5 : Int32) (μ : Mem) (H : Heap) (locs : List Loc) (ls : Array Slot), F_JO_keepRowsWith N 1 r0 i1 i2 i3 r4 i5 μ = some res → Wd (Aw b (mN ν)) b cs D s.heap μ H locs → lv_has ls 7 [(0, .ref (b + r0)), (1, .int i1), (2, .int i2), (3, .int i3), (4, .ref (b + r4)), (5, .int i5)] → W p l e (headSpec w_JO_keepRowsWith { frames := 3, cells := 0, slots := 0, locals := 68 }).room s m ([.ref (b + u_r0), .int u_i1, .int u_i2, .int u_i3]).toArray below meth c H locs 0 0 (MQ below (va_Qv (fun μ' => μ' = res ∧ mN μ' ≤ mN ν) (Bw b cs D) (Aw b (mN ν))) ([.ref (b + u_r0), .int u_i1, .int u_i2, .int u_i3]).toArray s 0 0 (Aw b (mN ν))) (F0 m 13 ls [])) := by
    intro N
    induction N with
    | zero => exact ⟨fun _ _ _ _ _ _ _ _ _ _ h => (nomatch h), fun _ _ _ _ _ _ _ _ _ _ h => (nomatch h)⟩
    | succ n ih =>
      obtain ⟨ih0, ih1⟩ := ih
      refine ⟨?_, ?_⟩
      · intro r0 i1 i2 i3 r4 i5 μ H locs ls h hM hl
        have h : B_JO_keepRowsWith_0 n (F_JO_keepRowsWith n) r0 i1 i2 i3 r4 i5 μ = some res := h
        unfold B_JO_keepRowsWith_0 at h
        refine lv_aload_n hx hb d_JO_keepRowsWith_0 rfl (lv_at hl 0 rfl) ?_
        obtain ⟨g1, h⟩ := of_g h
        obtain ⟨g2, h⟩ := of_g h
        refine g_get (C := "JoinedLeaves$Join") (T := T_JO) (N := 7) (ref := "JoinedLeaves$Join") (v := .ref (b + (mR μ r0 3))) hx hb hts jF_JO hown hK hM g1 (by decide) rfl 3 (by decide) (hts _ jm_1_45) (fun _ h9 => h9) (by decide) (rv_of (ok_0 g2)) d_JO_keepRowsWith_1 ?_
        refine lv_iload_n hx hb d_JO_keepRowsWith_4 rfl (lv_at hl 1 rfl) ?_
        refine lv_iconst (v := 1) hx hb d_JO_keepRowsWith_5 (by decide) ?_
        refine lv_iadd hx hb d_JO_keepRowsWith_6 ?_
        obtain ⟨g3, h⟩ := of_g h
        obtain ⟨g4, h⟩ := of_g h
        refine g_aald (ty := (.array .int)) hx hb hK hM 2 rfl rfl g2 g3 (ok_0 g4) d_JO_keepRowsWith_7 ?_
        refine lv_astore hx hb d_JO_keepRowsWith_8 hl (by decide) rfl (fun ls hl => ?_)
        have hl : lv_has ls 7 [(4, .ref (b + (mR μ (mR μ r0 3) (Int32.toNatClampNeg (i1 + 1))))), (0, .ref (b + r0)), (1, .int i1), (2, .int i2), (3, .int i3)] := hl
        refine lv_iconst (v := 0) hx hb d_JO_keepRowsWith_10 (by decide) ?_
        refine lv_istore hx hb d_JO_keepRowsWith_11 hl (by decide) rfl (fun ls hl => ?_)
        have hl : lv_has ls 7 [(5, .int 0), (4, .ref (b + (mR μ (mR μ r0 3) (Int32.toNatClampNeg (i1 + 1))))), (0, .ref (b + r0)), (1, .int i1), (2, .int i2), (3, .int i3)] := hl
        exact ih1 _ _ _ _ _ _ _ _ _ _ h hM (lv_sub hl [2, 3, 4, 5, 1, 0] rfl)
      · intro r0 i1 i2 i3 r4 i5 μ H locs ls h hM hl
        have h : B_JO_keepRowsWith_1 n (F_JO_keepRowsWith n) r0 i1 i2 i3 r4 i5 μ = some res := h
        unfold B_JO_keepRowsWith_1 at h
        refine lv_iload hx hb d_JO_keepRowsWith_13 (lv_at hl 5 rfl) ?_
        refine lv_aload_n hx hb d_JO_keepRowsWith_15 rfl (lv_at hl 0 rfl) ?_
        obtain ⟨g5, h⟩ := of_g h
        obtain ⟨g6, h⟩ := of_g h
        refine g_get (C := "JoinedLeaves$Join") (T := T_JO) (N := 7) (ref := "JoinedLeaves$Join") (v := .ref (b + (mR μ r0 0))) hx hb hts jF_JO hown hK hM g5 (by decide) rfl 0 (by decide) (hts _ jm_1_42) (fun _ h9 => h9) (by decide) (rv_of (ok_0 g6)) d_JO_keepRowsWith_16 ?_
        refine g_getN (C := "JoinedLeaves$Question") (T := T_QU) (N := 5) (ref := "JoinedLeaves$Question") (v := .int (mI μ (mR μ r0 0) 1)) hx hb hts jF_QU hown hK hM g6 (by decide) rfl 1 (by decide) (hK.nest _ jn_14 rfl) (fun _ h9 => h9) (by decide) rfl d_JO_keepRowsWith_19 ?_
        refine lv_icmp_ge (tgt := 65) hx hb d_JO_keepRowsWith_22 (by decide) (fun hc => ?_) (fun hc => ?_)
        · replace h := of_t hc h
          refine lv_aload_n hx hb d_JO_keepRowsWith_65 rfl (lv_at hl 0 rfl) ?_
          refine lv_aload hx hb d_JO_keepRowsWith_66 (lv_at hl 4 rfl) ?_
          obtain ⟨q7, hq7, h⟩ := of_b h
          refine g_callv (va_runV (As := [.ref (b + r4)]) (rest := []) ⟨hx, hb, hml, hown, hts⟩ (S_JO_keepLiveRows l D b cs r0 r4 μ q7 n hq7) ⟨callB_of 1 hts (goodIn_g jm_6_20) rfl rfl rfl (hts _ jm_0_6) (hts _ jm_6_18) (by decide +kernel) ⟨Nat.le_of_ble_eq_true rfl, Nat.le_of_ble_eq_true rfl⟩, (hts _ jm_6_19), (hts _ jm_11_47)⟩ (Wd.preV hK hM g5 rfl (by decide)) rfl rfl hl.1 rfl (lv_room (Nat.le_of_ble_eq_true rfl)) d_JO_keepRowsWith_68 ⟨Nat.le_of_ble_eq_true rfl, Nat.le_of_ble_eq_true rfl⟩) hM (fun H locs hM => ?_)
          exact g_vret hx hb hr hlocks hM (Option.some.inj h) d_JO_keepRowsWith_71
        · replace h := of_f hc h
          refine lv_aload_n hx hb d_JO_keepRowsWith_25 rfl (lv_at hl 0 rfl) ?_
          refine g_get (C := "JoinedLeaves$Join") (T := T_JO) (N := 7) (ref := "JoinedLeaves$Join") (v := .ref (b + (mR μ r0 0))) hx hb hts jF_JO hown hK hM g5 (by decide) rfl 0 (by decide) (hts _ jm_1_42) (fun _ h9 => h9) (by decide) (rv_of (ok_0 g6)) d_JO_keepRowsWith_26 ?_
          obtain ⟨g8, h⟩ := of_g h
          refine g_getN (C := "JoinedLeaves$Question") (T := T_QU) (N := 5) (ref := "JoinedLeaves$Question") (v := .ref (b + (mR μ (mR μ r0 0) 0))) hx hb hts jF_QU hown hK hM g6 (by decide) rfl 0 (by decide) (hK.nest _ jn_11 rfl) (fun _ h9 => h9) (by decide) (rv_of (ok_0 g8)) d_JO_keepRowsWith_29 ?_
          refine lv_iload hx hb d_JO_keepRowsWith_32 (lv_at hl 5 rfl) ?_
          obtain ⟨g9, h⟩ := of_g h
          obtain ⟨g10, h⟩ := of_g h
          refine g_aald (ty := (.object "JoinedLeaves$Atom")) hx hb hK hM 1 rfl rfl g8 g9 (ok_0 g10) d_JO_keepRowsWith_34 ?_
          refine lv_iload_n hx hb d_JO_keepRowsWith_35 rfl (lv_at hl 2 rfl) ?_
          refine lv_iload_n hx hb d_JO_keepRowsWith_36 rfl (lv_at hl 3 rfl) ?_
          obtain ⟨q11, hq11, h⟩ := of_b h
          refine g_calli (va_runVN (As := [.int i2, .int i3]) (rest := []) ⟨hx, hb, hml, hown, hts⟩ (S_AT_rowsAllowing l D b cs (mR μ (mR μ (mR μ r0 0) 0) (Int32.toNatClampNeg i5)) i2 i3 μ q11 n hq11) ⟨va_cnB 2 hts (goodIn_g jm_5_32) rfl rfl rfl (hK.2.1 _ jn_61) (hts _ jm_0_4) (by decide +kernel) ⟨Nat.le_of_ble_eq_true rfl, Nat.le_of_ble_eq_true rfl⟩, (hts _ jm_5_31), (hts _ jm_11_42)⟩ (Wd.preV hK hM g10 rfl (by decide)) rfl rfl hl.1 rfl (lv_room (Nat.le_of_ble_eq_true rfl)) d_JO_keepRowsWith_37 ⟨Nat.le_of_ble_eq_true rfl, Nat.le_of_ble_eq_true rfl⟩) hM (fun H locs hM => ?_)
          refine lv_istore hx hb d_JO_keepRowsWith_40 hl (by decide) rfl (fun ls hl => ?_)
          have hl : lv_has ls 7 [(6, .int q11.1), (0, .ref (b + r0)), (1, .int i1), (2, .int i2), (3, .int i3), (4, .ref (b + r4)), (5, .int i5)] := hl
          refine lv_aload hx hb d_JO_keepRowsWith_42 (lv_at hl 5 rfl) ?_
          refine lv_iload hx hb d_JO_keepRowsWith_44 (lv_at hl 6 rfl) ?_
          refine lv_aload_n hx hb d_JO_keepRowsWith_46 rfl (lv_at hl 1 rfl) ?_
          obtain ⟨g12, h⟩ := of_g h
          obtain ⟨g13, h⟩ := of_g h
          refine g_get (C := "JoinedLeaves$Join") (T := T_JO) (N := 7) (ref := "JoinedLeaves$Join") (v := .ref (b + (mR q11.2 r0 3))) hx hb hts jF_JO hown hK hM g12 (by decide) rfl 3 (by decide) (hts _ jm_1_45) (fun _ h9 => h9) (by decide) (rv_of (ok_0 g13)) d_JO_keepRowsWith_47 ?_
          refine lv_iload_n hx hb d_JO_keepRowsWith_50 rfl (lv_at hl 2 rfl) ?_
          obtain ⟨g14, h⟩ := of_g h
          obtain ⟨g15, h⟩ := of_g h
          refine g_aald (ty := (.array .int)) hx hb hK hM 2 rfl rfl g13 g14 (ok_0 g15) d_JO_keepRowsWith_51 ?_
          refine lv_iload hx hb d_JO_keepRowsWith_52 (lv_at hl 6 rfl) ?_
          obtain ⟨g16, h⟩ := of_g h
          refine g_iald hx hb hK hM g15 g16 d_JO_keepRowsWith_54 ?_
          refine lv_iload hx hb d_JO_keepRowsWith_55 (lv_at hl 0 rfl) ?_
          refine lv_iand hx hb d_JO_keepRowsWith_57 ?_
          obtain ⟨g17, h⟩ := of_g h
          obtain ⟨g18, h⟩ := of_g h
          obtain ⟨μ19, e_μ19, h⟩ := of_b h
          obtain rfl := Option.some.inj e_μ19
          refine g_iast (v := (mI q11.2 (mR q11.2 (mR q11.2 r0 3) (Int32.toNatClampNeg i1)) (Int32.toNatClampNeg i5)) &&& q11.1) hx hb hK hM g17 g18 d_JO_keepRowsWith_58 (fun H locs hM => ?_)
          obtain ⟨v20, e_v20, h⟩ := of_b h
          refine lv_iinc (v := v20) hx hb d_JO_keepRowsWith_59 hl (k := 6) rfl (by rw [lit1]; exact Option.some.inj e_v20) (by decide) rfl (fun ls hl => ?_)
          have hl : lv_has ls 7 [(5, .int v20), (6, .int q11.1), (0, .ref (b + r0)), (1, .int i1), (2, .int i2), (3, .int i3), (4, .ref (b + r4))] := hl
          refine lv_goto (tgt := 13) hx hb d_JO_keepRowsWith_62 (by decide) ?_
          exact ih1 _ _ _ _ _ _ _ _ _ _ h hM (lv_sub hl [2, 3, 4, 5, 6, 0] rfl)
  exact (key n).1 _ _ _ _ _ _ _ _ _ _ h hM hl
abbrev w_JO_valueInAnswer : List Cond := .code y_JO_valueInAnswer b_JO_valueInAnswer 3 (Option.some Jvm.ClassFile.FieldType.int) :: jW
def C_JO_valueInAnswer (n : Nat) (r0 : Nat) (i1 : Int32) (i2 : Int32) (μ : Mem) : Option (Int32 × Mem) :=
  if ok μ r0 4 = true then if ok μ (mR μ r0 5) 100 = true then if ib i1 (mZ μ (mR μ r0 5)) = true then if ok μ (mR μ r0 0) 2 = true then some (((mI μ (mR μ r0 5) (Int32.toNatClampNeg i1)) >>> ((4 * (((mI μ (mR μ r0 0) 3) - 1) - i2)) &&& 31)) &&& 15, μ) else none else none else none else none
set_option maxHeartbeats 4000000 in
set_option maxRecDepth 100000 in
theorem S_JO_valueInAnswer (l : Launch) (D : va_G) (b : Nat) (cs : Nat → ClassId) (r0 : Nat) (i1 : Int32) (i2 : Int32) (μ : Mem) (res : Int32 × Mem) (n : Nat) (h : C_JO_valueInAnswer n r0 i1 i2 μ = some res) : MetI l y_JO_valueInAnswer w_JO_valueInAnswer 0 0 b cs D μ [.ref (b + r0), .int i1, .int i2] res := by
  refine Met.ofW (cc := b_JO_valueInAnswer) (maxL := 3) (ret := (Option.some Jvm.ClassFile.FieldType.int)) (by decide) rfl ?_
  intro p e s m args below meth c s₁ B hml hv
  obtain ⟨rfl, hK, hM⟩ := Wd.start hv
  have hx := B.exec
  have hb := B.bytes
  have hr := B.returns
  have hts : ∀ w ∈ jW, w.before _ s = true := fun w hw => atoms_spec (ws := w_JO_valueInAnswer) B.pre w (List.mem_cons_of_mem _ hw)
  have hown : s.vm.findClass "JoinedLeaves$Join" = some m.cls := findClass_of_methodNamed B.named
  have hlocks := B.notSynchronized
  have hl := lv_entry ([.ref (b + r0), .int i1, .int i2]) (n := 3) (Nat.le_of_ble_eq_true rfl)
  rw [lg_entry_eq]
  generalize (lg_sl ([.ref (b + r0), .int i1, .int i2]) ++ List.replicate (3 - (lg_sl ([.ref (b + r0), .int i1, .int i2])).length) Slot.unset).toArray = ls at hl ⊢
  have hl : lv_has ls 3 [(0, .ref (b + r0)), (1, .int i1), (2, .int i2)] := hl
  unfold C_JO_valueInAnswer at h
  refine lv_aload_n hx hb d_JO_valueInAnswer_0 rfl (lv_at hl 0 rfl) ?_
  obtain ⟨g1, h⟩ := of_g h
  obtain ⟨g2, h⟩ := of_g h
  refine g_get (C := "JoinedLeaves$Join") (T := T_JO) (N := 7) (ref := "JoinedLeaves$Join") (v := .ref (b + (mR μ r0 5))) hx hb hts jF_JO hown hK hM g1 (by decide) rfl 5 (by decide) (hts _ jm_1_47) (fun _ h9 => h9) (by decide) (rv_of (ok_0 g2)) d_JO_valueInAnswer_1 ?_
  refine lv_iload_n hx hb d_JO_valueInAnswer_4 rfl (lv_at hl 1 rfl) ?_
  obtain ⟨g3, h⟩ := of_g h
  refine g_iald hx hb hK hM g2 g3 d_JO_valueInAnswer_5 ?_
  refine lv_iconst (v := 4) hx hb d_JO_valueInAnswer_6 (by decide) ?_
  refine lv_aload_n hx hb d_JO_valueInAnswer_7 rfl (lv_at hl 0 rfl) ?_
  obtain ⟨g4, h⟩ := of_g h
  refine g_get (C := "JoinedLeaves$Join") (T := T_JO) (N := 7) (ref := "JoinedLeaves$Join") (v := .ref (b + (mR μ r0 0))) hx hb hts jF_JO hown hK hM g1 (by decide) rfl 0 (by decide) (hts _ jm_1_42) (fun _ h9 => h9) (by decide) (rv_of (ok_0 g4)) d_JO_valueInAnswer_8 ?_
  refine g_getN (C := "JoinedLeaves$Question") (T := T_QU) (N := 5) (ref := "JoinedLeaves$Question") (v := .int (mI μ (mR μ r0 0) 3)) hx hb hts jF_QU hown hK hM g4 (by decide) rfl 3 (by decide) (hK.nest _ jn_17 rfl) (fun _ h9 => h9) (by decide) rfl d_JO_valueInAnswer_11 ?_
  refine lv_iconst (v := 1) hx hb d_JO_valueInAnswer_14 (by decide) ?_
  refine lv_isub hx hb d_JO_valueInAnswer_15 ?_
  refine lv_iload_n hx hb d_JO_valueInAnswer_16 rfl (lv_at hl 2 rfl) ?_
  refine lv_isub hx hb d_JO_valueInAnswer_17 ?_
  refine lv_imul hx hb d_JO_valueInAnswer_18 ?_
  refine lv_ishr hx hb d_JO_valueInAnswer_19 ?_
  refine lv_bipush (v := 15) hx hb d_JO_valueInAnswer_20 (by decide) ?_
  refine lv_iand hx hb d_JO_valueInAnswer_22 ?_
  exact g_iret hx hb hr hlocks hM (Option.some.inj h) d_JO_valueInAnswer_23
