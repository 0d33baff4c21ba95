/-! By program (wip/whole/gen.py): for each method its function over memories, and its contract. -/
abbrev w_MO_before : List Cond := .code y_MO_before b_MO_before 4 (Option.some Jvm.ClassFile.FieldType.int) :: jW
def B_MO_before_0 (n : Nat) (k : Nat → Nat → Int32 → Int32 → Int32 → Mem → Option (Int32 × Mem)) (r0 : Nat) (i1 : Int32) (i2 : Int32) (i3 : Int32) (μ : Mem) : Option (Int32 × Mem) :=
  k 1 r0 i1 0 0 μ
def B_MO_before_1 (n : Nat) (k : Nat → Nat → Int32 → Int32 → Int32 → Mem → Option (Int32 × Mem)) (r0 : Nat) (i1 : Int32) (i2 : Int32) (i3 : Int32) (μ : Mem) : Option (Int32 × Mem) :=
  if i1 ≤ i3 then some (i2, μ) else if ok μ r0 6 = true then Option.bind (C_MO_setOf n r0 i3 μ) (fun q2 => Option.bind (some (i2 ||| q2.1)) (fun v3 => Option.bind (some (i3 + 1)) (fun v4 => k 1 r0 i1 v3 v4 q2.2))) else none
def F_MO_before : Nat → Nat → Nat → Int32 → Int32 → Int32 → Mem → Option (Int32 × Mem)
  | 0 => fun _ _ _ _ _ _ => none
  | n + 1 => fun id r0 i1 i2 i3 μ => match id with
    | 0 => B_MO_before_0 n (F_MO_before n) r0 i1 i2 i3 μ
    | 1 => B_MO_before_1 n (F_MO_before n) r0 i1 i2 i3 μ
    | _ => none
def C_MO_before (n : Nat) (r0 : Nat) (i1 : Int32) (μ : Mem) : Option (Int32 × Mem) := F_MO_before n 0 r0 i1 0 0 μ
set_option maxHeartbeats 4000000 in
set_option maxRecDepth 100000 in
theorem S_MO_before (l : Launch) (D : va_G) (b : Nat) (cs : Nat → ClassId) (u_r0 : Nat) (u_i1 : Int32) (ν : Mem) (res : Int32 × Mem) (n : Nat) (h : C_MO_before n u_r0 u_i1 ν = some res) : MetI l y_MO_before w_MO_before 1 23 b cs D ν [.ref (b + u_r0), .int u_i1] res := by
  refine Met.ofW (cc := b_MO_before) (maxL := 4) (ret := (Option.some Jvm.ClassFile.FieldType.int)) (by decide) rfl ?_
  intro p e s m args below meth c s₁ B hml hv
  obtain ⟨rfl, hK, hM⟩ := Wd.start hv
  have hx := B.exec
  have hb := B.bytes
  have hr := B.returns
  have hts : ∀ w ∈ jW, w.before _ s = true := fun w hw => atoms_spec (ws := w_MO_before) B.pre w (List.mem_cons_of_mem _ hw)
  have hown : s.vm.findClass "JoinedLeavesModel" = some m.cls := findClass_of_methodNamed B.named
  have hlocks := B.notSynchronized
  have hl := lv_entry ([.ref (b + u_r0), .int u_i1]) (n := 4) (Nat.le_of_ble_eq_true rfl)
  rw [lg_entry_eq]
  generalize (lg_sl ([.ref (b + u_r0), .int u_i1]) ++ List.replicate (4 - (lg_sl ([.ref (b + u_r0), .int u_i1])).length) Slot.unset).toArray = ls at hl ⊢
  have hl : lv_has ls 4 [(0, .ref (b + u_r0)), (1, .int u_i1)] := hl
  have key : ∀ N : Nat, (∀ (r0 : Nat) (i1 : Int32) (i2 : Int32) (i3 : Int32) (μ : Mem) (H : Heap) (locs : List Loc) (ls : Array Slot), F_MO_before N 0 r0 i1 i2 i3 μ = some res → Wd (Aw b (mN ν)) b cs D s.heap μ H locs → lv_has ls 4 [(0, .ref (b + r0)), (1, .int i1)] → W p l e (headSpec w_MO_before { frames := 1, cells := 0, slots := 0, locals := 23 }).room s m ([.ref (b + u_r0), .int u_i1]).toArray below meth c H locs 0 0 (MQ below (va_Qi (fun r μ' => (r, μ') = res ∧ mN μ' ≤ mN ν) (Bw b cs D) (Aw b (mN ν))) ([.ref (b + u_r0), .int u_i1]).toArray s 0 0 (Aw b (mN ν))) (F0 m 0 ls [])) ∧
      (∀ (r0 : Nat) (i1 : Int32) (i2 : Int32) (i3 : Int32) (μ : Mem) (H : Heap) (locs : List Loc) (ls : Array Slot), F_MO_before N 1 r0 i1 i2 i3 μ = some res → Wd (Aw b (mN ν)) b cs D s.heap μ H locs → lv_has ls 4 [(0, .ref (b + r0)), (1, .int i1), (2, .int i2), (3, .int i3)] → W p l e (headSpec w_MO_before { frames := 1, cells := 0, slots := 0, locals := 23 }).room s m ([.ref (b + u_r0), .int u_i1]).toArray below meth c H locs 0 0 (MQ below (va_Qi (fun r μ' => (r, μ') = res ∧ mN μ' ≤ mN ν) (Bw b cs D) (Aw b (mN ν))) ([.ref (b + u_r0), .int u_i1]).toArray s 0 0 (Aw b (mN ν))) (F0 m 4 ls [])) := by
    intro N
    induction N with
    | zero => exact ⟨fun _ _ _ _ _ _ _ _ h => (nomatch h), fun _ _ _ _ _ _ _ _ h => (nomatch h)⟩
    | succ n ih =>
      obtain ⟨ih0, ih1⟩ := ih
      refine ⟨?_, ?_⟩
      · intro r0 i1 i2 i3 μ H locs ls h hM hl
        have h : B_MO_before_0 n (F_MO_before n) r0 i1 i2 i3 μ = some res := h
        unfold B_MO_before_0 at h
        refine lv_iconst (v := 0) hx hb d_MO_before_0 (by decide) ?_
        refine lv_istore_n hx hb d_MO_before_1 rfl hl (by decide) rfl (fun ls hl => ?_)
        have hl : lv_has ls 4 [(2, .int 0), (0, .ref (b + r0)), (1, .int i1)] := hl
        refine lv_iconst (v := 0) hx hb d_MO_before_2 (by decide) ?_
        refine lv_istore_n hx hb d_MO_before_3 rfl hl (by decide) rfl (fun ls hl => ?_)
        have hl : lv_has ls 4 [(3, .int 0), (2, .int 0), (0, .ref (b + r0)), (1, .int i1)] := hl
        exact ih1 _ _ _ _ _ _ _ _ h hM (lv_sub hl [2, 3, 1, 0] rfl)
      · intro r0 i1 i2 i3 μ H locs ls h hM hl
        have h : B_MO_before_1 n (F_MO_before n) r0 i1 i2 i3 μ = some res := h
        unfold B_MO_before_1 at h
        refine lv_iload_n hx hb d_MO_before_4 rfl (lv_at hl 3 rfl) ?_
        refine lv_iload_n hx hb d_MO_before_5 rfl (lv_at hl 1 rfl) ?_
        refine lv_icmp_ge (tgt := 23) hx hb d_MO_before_6 (by decide) (fun hc => ?_) (fun hc => ?_)
        · replace h := of_t hc h
          refine lv_iload_n hx hb d_MO_before_23 rfl (lv_at hl 2 rfl) ?_
          exact g_iret hx hb hr hlocks hM (Option.some.inj h) d_MO_before_24
        · replace h := of_f hc h
          refine lv_iload_n hx hb d_MO_before_9 rfl (lv_at hl 2 rfl) ?_
          refine lv_aload_n hx hb d_MO_before_10 rfl (lv_at hl 0 rfl) ?_
          refine lv_iload_n hx hb d_MO_before_11 rfl (lv_at hl 3 rfl) ?_
          obtain ⟨g1, h⟩ := of_g h
          obtain ⟨q2, hq2, h⟩ := of_b h
          refine g_calli (va_runV (As := [.int i3]) (rest := [.int i2]) ⟨hx, hb, hml, hown, hts⟩ (S_MO_setOf l D b cs r0 i3 μ q2 n hq2) ⟨callB_of 1 hts (goodIn_g jm_10_21) rfl rfl rfl (hts _ jm_0_7) (hts _ jm_10_19) (by decide +kernel) ⟨Nat.le_of_ble_eq_true rfl, Nat.le_of_ble_eq_true rfl⟩, (hts _ jm_10_20), (hts _ jm_12_19)⟩ (Wd.preV hK hM g1 rfl (by decide)) rfl rfl hl.1 rfl (lv_room (Nat.le_of_ble_eq_true rfl)) d_MO_before_12 ⟨Nat.le_of_ble_eq_true rfl, Nat.le_of_ble_eq_true rfl⟩) hM (fun H locs hM => ?_)
          refine lv_ior hx hb d_MO_before_15 ?_
          obtain ⟨v3, e_v3, h⟩ := of_b h
          refine top_i (Option.some.inj e_v3) ?_
          refine lv_istore_n hx hb d_MO_before_16 rfl hl (by decide) rfl (fun ls hl => ?_)
          have hl : lv_has ls 4 [(2, .int v3), (0, .ref (b + r0)), (1, .int i1), (3, .int i3)] := hl
          obtain ⟨v4, e_v4, h⟩ := of_b h
          refine lv_iinc (v := v4) hx hb d_MO_before_17 hl (k := 3) rfl (by rw [lit1]; exact Option.some.inj e_v4) (by decide) rfl (fun ls hl => ?_)
          have hl : lv_has ls 4 [(3, .int v4), (2, .int v3), (0, .ref (b + r0)), (1, .int i1)] := hl
          refine lv_goto (tgt := 4) hx hb d_MO_before_20 (by decide) ?_
          exact ih1 _ _ _ _ _ _ _ _ h hM (lv_sub hl [2, 3, 1, 0] rfl)
  exact (key n).1 _ _ _ _ _ _ _ _ h hM hl
abbrev w_MO_fits : List Cond := .code y_MO_fits b_MO_fits 9 (Option.some Jvm.ClassFile.FieldType.boolean) :: jW
def B_MO_fits_0 (n : Nat) (k : Nat → Nat → Int32 → Int32 → Int32 → Int32 → Int32 → Int32 → Int32 → Int32 → Int32 → Int32 → Nat → Mem → Option (Int32 × Mem)) (r0 : Nat) (i1 : Int32) (i2 : Int32) (i3 : Int32) (i4 : Int32) (i5 : Int32) (i6 : Int32) (i7 : Int32) (i8 : Int32) (x0 : Int32) (x1 : Int32) (z2 : Nat) (μ : Mem) : Option (Int32 × Mem) :=
  if ok μ r0 6 = true then if ok μ (mR μ r0 6) 100 = true then if ib i1 (mZ μ (mR μ r0 6)) = true then Option.bind (some (mI μ (mR μ r0 6) (Int32.toNatClampNeg i1))) (fun v4 => Option.bind (C_MO_before n r0 i1 μ) (fun q5 => k 1 r0 i1 i2 v4 q5.1 1 0 0 0 0 0 0 q5.2)) else none else none else none
def B_MO_fits_1 (n : Nat) (k : Nat → Nat → Int32 → Int32 → Int32 → Int32 → Int32 → Int32 → Int32 → Int32 → Int32 → Int32 → Nat → Mem → Option (Int32 × Mem)) (r0 : Nat) (i1 : Int32) (i2 : Int32) (i3 : Int32) (i4 : Int32) (i5 : Int32) (i6 : Int32) (i7 : Int32) (i8 : Int32) (x0 : Int32) (x1 : Int32) (z2 : Nat) (μ : Mem) : Option (Int32 × Mem) :=
  if ok μ r0 6 = true then if ok μ (mR μ r0 2) 100 = true then if ib i3 (mZ μ (mR μ r0 2)) = true then if (mI μ (mR μ r0 2) (Int32.toNatClampNeg i3)) ≤ i6 then if (i5 = 0 ∨ i5 = 1) then some (i5, μ) else none else if i5 = 0 then if (i5 = 0 ∨ i5 = 1) then some (i5, μ) else none else if ok μ (mR μ r0 7) 100 = true then if ib ((3 * i1) + i6) (mZ μ (mR μ r0 7)) = true then Option.bind (some (mI μ (mR μ r0 7) (Int32.toNatClampNeg ((3 * i1) + i6)))) (fun v11 => if ok μ (mR μ r0 4) 100 = true then if ib (((36 * i3) + (3 * i2)) + i6) (mZ μ (mR μ r0 4)) = true then Option.bind (some (mI μ (mR μ r0 4) (Int32.toNatClampNeg (((36 * i3) + (3 * i2)) + i6)))) (fun v14 => if ((i4 >>> (v11 &&& 31)) &&& 1) = 0 then k 2 r0 i1 i2 i3 i4 0 i6 v11 v14 0 0 0 μ else if ok μ (mR μ r0 15) 100 = true then if ib v11 (mZ μ (mR μ r0 15)) = true then if (mI μ (mR μ r0 15) (Int32.toNatClampNeg v11)) = v14 then k 2 r0 i1 i2 i3 i4 0 i6 v11 v14 0 0 0 μ else k 3 r0 i1 i2 i3 i4 0 i6 v11 v14 0 0 0 μ else none else none) else none else none) else none else none else none else none else none
def B_MO_fits_2 (n : Nat) (k : Nat → Nat → Int32 → Int32 → Int32 → Int32 → Int32 → Int32 → Int32 → Int32 → Int32 → Int32 → Nat → Mem → Option (Int32 × Mem)) (r0 : Nat) (i1 : Int32) (i2 : Int32) (i3 : Int32) (i4 : Int32) (i5 : Int32) (i6 : Int32) (i7 : Int32) (i8 : Int32) (x0 : Int32) (x1 : Int32) (z2 : Nat) (μ : Mem) : Option (Int32 × Mem) :=
  k 3 r0 i1 i2 i3 i4 0 i6 i7 i8 1 0 0 μ
def B_MO_fits_3 (n : Nat) (k : Nat → Nat → Int32 → Int32 → Int32 → Int32 → Int32 → Int32 → Int32 → Int32 → Int32 → Int32 → Nat → Mem → Option (Int32 × Mem)) (r0 : Nat) (i1 : Int32) (i2 : Int32) (i3 : Int32) (i4 : Int32) (i5 : Int32) (i6 : Int32) (i7 : Int32) (i8 : Int32) (x0 : Int32) (x1 : Int32) (z2 : Nat) (μ : Mem) : Option (Int32 × Mem) :=
  if ok μ r0 6 = true then if ok μ (mR μ r0 15) 100 = true then if ((i4 >>> (i7 &&& 31)) &&& 1) = 0 then k 4 r0 i1 i2 i3 i4 x0 i6 i7 0 i8 i7 (mR μ r0 15) μ else if ib i7 (mZ μ (mR μ r0 15)) = true then k 4 r0 i1 i2 i3 i4 x0 i6 i7 0 (mI μ (mR μ r0 15) (Int32.toNatClampNeg i7)) i7 (mR μ r0 15) μ else none else none else none
def B_MO_fits_4 (n : Nat) (k : Nat → Nat → Int32 → Int32 → Int32 → Int32 → Int32 → Int32 → Int32 → Int32 → Int32 → Int32 → Nat → Mem → Option (Int32 × Mem)) (r0 : Nat) (i1 : Int32) (i2 : Int32) (i3 : Int32) (i4 : Int32) (i5 : Int32) (i6 : Int32) (i7 : Int32) (i8 : Int32) (x0 : Int32) (x1 : Int32) (z2 : Nat) (μ : Mem) : Option (Int32 × Mem) :=
  if ok μ z2 100 = true then if ib x1 (mZ μ z2) = true then Option.bind (some (sI μ z2 (Int32.toNatClampNeg x1) x0)) (fun μ22 => Option.bind (some (i4 ||| (1 <<< (i7 &&& 31)))) (fun v23 => Option.bind (some (i6 + 1)) (fun v24 => k 1 r0 i1 i2 i3 v23 i5 v24 0 0 0 0 0 μ22))) else none else none
def F_MO_fits : Nat → Nat → Nat → Int32 → Int32 → Int32 → Int32 → Int32 → Int32 → Int32 → Int32 → Int32 → Int32 → Nat → Mem → Option (Int32 × Mem)
  | 0 => fun _ _ _ _ _ _ _ _ _ _ _ _ _ _ => none
  | n + 1 => fun id r0 i1 i2 i3 i4 i5 i6 i7 i8 x0 x1 z2 μ => match id with
    | 0 => B_MO_fits_0 n (F_MO_fits n) r0 i1 i2 i3 i4 i5 i6 i7 i8 x0 x1 z2 μ
    | 1 => B_MO_fits_1 n (F_MO_fits n) r0 i1 i2 i3 i4 i5 i6 i7 i8 x0 x1 z2 μ
    | 2 => B_MO_fits_2 n (F_MO_fits n) r0 i1 i2 i3 i4 i5 i6 i7 i8 x0 x1 z2 μ
    | 3 => B_MO_fits_3 n (F_MO_fits n) r0 i1 i2 i3 i4 i5 i6 i7 i8 x0 x1 z2 μ
    | 4 => B_MO_fits_4 n (F_MO_fits n) r0 i1 i2 i3 i4 i5 i6 i7 i8 x0 x1 z2 μ
    | _ => none
def C_MO_fits (n : Nat) (r0 : Nat) (i1 : Int32) (i2 : Int32) (μ : Mem) : Option (Int32 × Mem) := F_MO_fits n 0 r0 i1 i2 0 0 0 0 0 0 0 0 0 μ
set_option maxHeartbeats 4000000 in
set_option maxRecDepth 100000 in
theorem S_MO_fits (l : Launch) (D : va_G) (b : Nat) (cs : Nat → ClassId) (u_r0 : Nat) (u_i1 : Int32) (u_i2 : Int32) (ν : Mem) (res : Int32 × Mem) (n : Nat) (h : C_MO_fits n u_r0 u_i1 u_i2 ν = some res) : MetI l y_MO_fits w_MO_fits 2 46 b cs D ν [.ref (b + u_r0), .int u_i1, .int u_i2] res := by
  refine Met.ofW (cc := b_MO_fits) (maxL := 9) (ret := (Option.some Jvm.ClassFile.FieldType.boolean)) (by decide) rfl ?_
  intro p e s m args below meth c s₁ B hml hv
  obtain ⟨rfl, hK, hM⟩ := Wd.start hv
  have hx := B.exec
  have hb := B.bytes
  have hr := B.returns
  have hts : ∀ w ∈ jW, w.before _ s = true := fun w hw => atoms_spec (ws := w_MO_fits) B.pre w (List.mem_cons_of_mem _ hw)
  have hown : s.vm.findClass "JoinedLeavesModel" = some m.cls := findClass_of_methodNamed B.named
  have hlocks := B.notSynchronized
  have hl := lv_entry ([.ref (b + u_r0), .int u_i1, .int u_i2]) (n := 9) (Nat.le_of_ble_eq_true rfl)
  rw [lg_entry_eq]
  generalize (lg_sl ([.ref (b + u_r0), .int u_i1, .int u_i2]) ++ List.replicate (9 - (lg_sl ([.ref (b + u_r0), .int u_i1, .int u_i2])).length) Slot.unset).toArray = ls at hl ⊢
  have hl : lv_has ls 9 [(0, .ref (b + u_r0)), (1, .int u_i1), (2, .int u_i2)] := hl
  have key : ∀ N : Nat, (∀ (r0 : Nat) (i1 : Int32) (i2 : Int32) (i3 : Int32) (i4 : Int32) (i5 : Int32) (i6 : Int32) (i7 : Int32) (i8 : Int32) (x0 : Int32) (x1 : Int32) (z2 : Nat) (μ : Mem) (H : Heap) (locs : List Loc) (ls : Array Slot), F_MO_fits N 0 r0 i1 i2 i3 i4 i5 i6 i7 i8 x0 x1 z2 μ = some res → Wd (Aw b (mN ν)) b cs D s.heap μ H locs → lv_has ls 9 [(0, .ref (b + r0)), (1, .int i1), (2, .int i2)] → W p l e (headSpec w_MO_fits { frames := 2, cells := 0, slots := 0, locals := 46 }).room s m ([.ref (b + u_r0), .int u_i1, .int u_i2]).toArray below meth c H locs 0 0 (MQ below (va_Qi (fun r μ' => (r, μ') = res ∧ mN μ' ≤ mN ν) (Bw b cs D) (Aw b (mN ν))) ([.ref (b + u_r0), .int u_i1, .int u_i2]).toArray s 0 0 (Aw b (mN ν))) (F0 m 0 ls [])) ∧
      (∀ (r0 : Nat) (i1 : Int32) (i2 : Int32) (i3 : Int32) (i4 : Int32) (i5 : Int32) (i6 : Int32) (i7 : Int32) (i8 : Int32) (x0 : Int32) (x1 : Int32) (z2 : Nat) (μ : Mem) (H : Heap) (locs : List Loc) (ls : Array Slot), F_MO_fits N 1 r0 i1 i2 i3 i4 i5 i6 i7 i8 x0 x1 z2 μ = some res → Wd (Aw b (mN ν)) b cs D s.heap μ H locs → lv_has ls 9 [(0, .ref (b + r0)), (1, .int i1), (2, .int i2), (3, .int i3), (4, .int i4), (5, .int i5), (6, .int i6)] → W p l e (headSpec w_MO_fits { frames := 2, cells := 0, slots := 0, locals := 46 }).room s m ([.ref (b + u_r0), .int u_i1, .int u_i2]).toArray below meth c H locs 0 0 (MQ below (va_Qi (fun r μ' => (r, μ') = res ∧ mN μ' ≤ mN ν) (Bw b cs D) (Aw b (mN ν))) ([.ref (b + u_r0), .int u_i1, .int u_i2]).toArray s 0 0 (Aw b (mN ν))) (F0 m 20 ls [])) ∧
      (∀ (r0 : Nat) (i1 : Int32) (i2 : Int32) (i3 : Int32) (i4 : Int32) (i5 : Int32) (i6 : Int32) (i7 : Int32) (i8 : Int32) (x0 : Int32) (x1 : Int32) (z2 : Nat) (μ : Mem) (H : Heap) (locs : List Loc) (ls : Array Slot), F_MO_fits N 2 r0 i1 i2 i3 i4 i5 i6 i7 i8 x0 x1 z2 μ = some res → Wd (Aw b (mN ν)) b cs D s.heap μ H locs → lv_has ls 9 [(0, .ref (b + r0)), (1, .int i1), (2, .int i2), (3, .int i3), (4, .int i4), (6, .int i6), (7, .int i7), (8, .int i8)] → W p l e (headSpec w_MO_fits { frames := 2, cells := 0, slots := 0, locals := 46 }).room s m ([.ref (b + u_r0), .int u_i1, .int u_i2]).toArray below meth c H locs 0 0 (MQ below (va_Qi (fun r μ' => (r, μ') = res ∧ mN μ' ≤ mN ν) (Bw b cs D) (Aw b (mN ν))) ([.ref (b + u_r0), .int u_i1, .int u_i2]).toArray s 0 0 (Aw b (mN ν))) (F0 m 89 ls [])) ∧
      (∀ (r0 : Nat) (i1 : Int32) (i2 : Int32) (i3 : Int32) (i4 : Int32) (i5 : Int32) (i6 : Int32) (i7 : Int32) (i8 : Int32) (x0 : Int32) (x1 : Int32) (z2 : Nat) (μ : Mem) (H : Heap) (locs : List Loc) (ls : Array Slot), F_MO_fits N 3 r0 i1 i2 i3 i4 i5 i6 i7 i8 x0 x1 z2 μ = some res → Wd (Aw b (mN ν)) b cs D s.heap μ H locs → lv_has ls 9 [(0, .ref (b + r0)), (1, .int i1), (2, .int i2), (3, .int i3), (4, .int i4), (6, .int i6), (7, .int i7), (8, .int i8)] → W p l e (headSpec w_MO_fits { frames := 2, cells := 0, slots := 0, locals := 46 }).room s m ([.ref (b + u_r0), .int u_i1, .int u_i2]).toArray below meth c H locs 0 0 (MQ below (va_Qi (fun r μ' => (r, μ') = res ∧ mN μ' ≤ mN ν) (Bw b cs D) (Aw b (mN ν))) ([.ref (b + u_r0), .int u_i1, .int u_i2]).toArray s 0 0 (Aw b (mN ν))) (F0 m 94 ls [.int x0])) ∧
      (∀ (r0 : Nat) (i1 : Int32) (i2 : Int32) (i3 : Int32) (i4 : Int32) (i5 : Int32) (i6 : Int32) (i7 : Int32) (i8 : Int32) (x0 : Int32) (x1 : Int32) (z2 : Nat) (μ : Mem) (H : Heap) (locs : List Loc) (ls : Array Slot), F_MO_fits N 4 r0 i1 i2 i3 i4 i5 i6 i7 i8 x0 x1 z2 μ = some res → Wd (Aw b (mN ν)) b cs D s.heap μ H locs → lv_has ls 9 [(0, .ref (b + r0)), (1, .int i1), (2, .int i2), (3, .int i3), (4, .int i4), (5, .int i5), (6, .int i6), (7, .int i7)] → W p l e (headSpec w_MO_fits { frames := 2, cells := 0, slots := 0, locals := 46 }).room s m ([.ref (b + u_r0), .int u_i1, .int u_i2]).toArray below meth c H locs 0 0 (MQ below (va_Qi (fun r μ' => (r, μ') = res ∧ mN μ' ≤ mN ν) (Bw b cs D) (Aw b (mN ν))) ([.ref (b + u_r0), .int u_i1, .int u_i2]).toArray s 0 0 (Aw b (mN ν))) (F0 m 124 ls [.int x0, .int x1, .ref (b + z2)])) := by
    intro N
    induction N with
    | zero => exact ⟨fun _ _ _ _ _ _ _ _ _ _ _ _ _ _ _ _ h => (nomatch h), fun _ _ _ _ _ _ _ _ _ _ _ _ _ _ _ _ h => (nomatch h), fun _ _ _ _ _ _ _ _ _ _ _ _ _ _ _ _ h => (nomatch h), fun _ _ _ _ _ _ _ _ _ _ _ _ _ _ _ _ h => (nomatch h), fun _ _ _ _ _ _ _ _ _ _ _ _ _ _ _ _ h => (nomatch h)⟩
    | succ n ih =>
      obtain ⟨ih0, ih1, ih2, ih3, ih4⟩ := ih
      refine ⟨?_, ?_, ?_, ?_, ?_⟩
      · intro r0 i1 i2 i3 i4 i5 i6 i7 i8 x0 x1 z2 μ H locs ls h hM hl
        have h : B_MO_fits_0 n (F_MO_fits n) r0 i1 i2 i3 i4 i5 i6 i7 i8 x0 x1 z2 μ = some res := h
        unfold B_MO_fits_0 at h
        refine lv_aload_n hx hb d_MO_fits_0 rfl (lv_at hl 0 rfl) ?_
        obtain ⟨g1, h⟩ := of_g h
        obtain ⟨g2, h⟩ := of_g h
        refine g_get (C := "JoinedLeavesModel") (T := T_MO) (N := 21) (ref := "JoinedLeavesModel") (v := .ref (b + (mR μ r0 6))) hx hb hts jF_MO hown hK hM g1 (by decide) rfl 6 (by decide) (hts _ jm_8_21) (fun _ h9 => h9) (by decide) (rv_of (ok_0 g2)) d_MO_fits_1 ?_
        refine lv_iload_n hx hb d_MO_fits_4 rfl (lv_at hl 1 rfl) ?_
        obtain ⟨g3, h⟩ := of_g h
        refine g_iald hx hb hK hM g2 g3 d_MO_fits_5 ?_
        obtain ⟨v4, e_v4, h⟩ := of_b h
        refine top_i (Option.some.inj e_v4) ?_
        refine lv_istore_n hx hb d_MO_fits_6 rfl hl (by decide) rfl (fun ls hl => ?_)
        have hl : lv_has ls 9 [(3, .int v4), (0, .ref (b + r0)), (1, .int i1), (2, .int i2)] := hl
        refine lv_aload_n hx hb d_MO_fits_7 rfl (lv_at hl 1 rfl) ?_
        refine lv_iload_n hx hb d_MO_fits_8 rfl (lv_at hl 2 rfl) ?_
        obtain ⟨q5, hq5, h⟩ := of_b h
        refine g_calli (va_runV (As := [.int i1]) (rest := []) ⟨hx, hb, hml, hown, hts⟩ (S_MO_before l D b cs r0 i1 μ q5 n hq5) ⟨callB_of 1 hts (goodIn_g jm_11_0) rfl rfl rfl (hts _ jm_0_7) (hts _ jm_10_46) (by decide +kernel) ⟨Nat.le_of_ble_eq_true rfl, Nat.le_of_ble_eq_true rfl⟩, (hts _ jm_10_47), (hts _ jm_12_24)⟩ (Wd.preV hK hM g1 rfl (by decide)) rfl rfl hl.1 rfl (lv_room (Nat.le_of_ble_eq_true rfl)) d_MO_fits_9 ⟨Nat.le_of_ble_eq_true rfl, Nat.le_of_ble_eq_true rfl⟩) hM (fun H locs hM => ?_)
        refine lv_istore hx hb d_MO_fits_12 hl (by decide) rfl (fun ls hl => ?_)
        have hl : lv_has ls 9 [(4, .int q5.1), (3, .int v4), (0, .ref (b + r0)), (1, .int i1), (2, .int i2)] := hl
        refine lv_iconst (v := 1) hx hb d_MO_fits_14 (by decide) ?_
        refine lv_istore hx hb d_MO_fits_15 hl (by decide) rfl (fun ls hl => ?_)
        have hl : lv_has ls 9 [(5, .int 1), (4, .int q5.1), (3, .int v4), (0, .ref (b + r0)), (1, .int i1), (2, .int i2)] := hl
        refine lv_iconst (v := 0) hx hb d_MO_fits_17 (by decide) ?_
        refine lv_istore hx hb d_MO_fits_18 hl (by decide) rfl (fun ls hl => ?_)
        have hl : lv_has ls 9 [(6, .int 0), (5, .int 1), (4, .int q5.1), (3, .int v4), (0, .ref (b + r0)), (1, .int i1), (2, .int i2)] := hl
        exact ih1 _ _ _ _ _ _ _ _ _ _ _ _ _ _ _ _ h hM (lv_sub hl [4, 5, 6, 3, 2, 1, 0] rfl)
      · intro r0 i1 i2 i3 i4 i5 i6 i7 i8 x0 x1 z2 μ H locs ls h hM hl
        have h : B_MO_fits_1 n (F_MO_fits n) r0 i1 i2 i3 i4 i5 i6 i7 i8 x0 x1 z2 μ = some res := h
        unfold B_MO_fits_1 at h
        refine lv_iload hx hb d_MO_fits_20 (lv_at hl 6 rfl) ?_
        refine lv_aload_n hx hb d_MO_fits_22 rfl (lv_at hl 0 rfl) ?_
        obtain ⟨g6, h⟩ := of_g h
        obtain ⟨g7, h⟩ := of_g h
        refine g_get (C := "JoinedLeavesModel") (T := T_MO) (N := 21) (ref := "JoinedLeavesModel") (v := .ref (b + (mR μ r0 2))) hx hb hts jF_MO hown hK hM g6 (by decide) rfl 2 (by decide) (hts _ jm_8_17) (fun _ h9 => h9) (by decide) (rv_of (ok_0 g7)) d_MO_fits_23 ?_
        refine lv_iload_n hx hb d_MO_fits_26 rfl (lv_at hl 3 rfl) ?_
        obtain ⟨g8, h⟩ := of_g h
        refine g_iald hx hb hK hM g7 g8 d_MO_fits_27 ?_
        refine lv_icmp_ge (tgt := 140) hx hb d_MO_fits_28 (by decide) (fun hc => ?_) (fun hc => ?_)
        · replace h := of_t hc h
          refine lv_iload hx hb d_MO_fits_140 (lv_at hl 5 rfl) ?_
          obtain ⟨hz, h⟩ := of_g h
          exact g_zret hx hb hr (nb_01 hz) hlocks hM (Option.some.inj h) d_MO_fits_142
        · replace h := of_f hc h
          refine lv_iload hx hb d_MO_fits_31 (lv_at hl 5 rfl) ?_
          refine lv_if_eq (tgt := 140) hx hb d_MO_fits_33 (by decide) (fun hc => ?_) (fun hc => ?_)
          · replace h := of_t hc h
            refine lv_iload hx hb d_MO_fits_140 (lv_at hl 5 rfl) ?_
            obtain ⟨hz, h⟩ := of_g h
            exact g_zret hx hb hr (nb_01 hz) hlocks hM (Option.some.inj h) d_MO_fits_142
          · replace h := of_f hc h
            refine lv_aload_n hx hb d_MO_fits_36 rfl (lv_at hl 0 rfl) ?_
            obtain ⟨g9, h⟩ := of_g h
            refine g_get (C := "JoinedLeavesModel") (T := T_MO) (N := 21) (ref := "JoinedLeavesModel") (v := .ref (b + (mR μ r0 7))) hx hb hts jF_MO hown hK hM g6 (by decide) rfl 7 (by decide) (hts _ jm_8_22) (fun _ h9 => h9) (by decide) (rv_of (ok_0 g9)) d_MO_fits_37 ?_
            refine lv_iconst (v := 3) hx hb d_MO_fits_40 (by decide) ?_
            refine lv_iload_n hx hb d_MO_fits_41 rfl (lv_at hl 1 rfl) ?_
            refine lv_imul hx hb d_MO_fits_42 ?_
            refine lv_iload hx hb d_MO_fits_43 (lv_at hl 6 rfl) ?_
            refine lv_iadd hx hb d_MO_fits_45 ?_
            obtain ⟨g10, h⟩ := of_g h
            refine g_iald hx hb hK hM g9 g10 d_MO_fits_46 ?_
            obtain ⟨v11, e_v11, h⟩ := of_b h
            refine top_i (Option.some.inj e_v11) ?_
            refine lv_istore hx hb d_MO_fits_47 hl (by decide) rfl (fun ls hl => ?_)
            have hl : lv_has ls 9 [(7, .int v11), (0, .ref (b + r0)), (1, .int i1), (2, .int i2), (3, .int i3), (4, .int i4), (5, .int i5), (6, .int i6)] := hl
            refine lv_aload_n hx hb d_MO_fits_49 rfl (lv_at hl 1 rfl) ?_
            obtain ⟨g12, h⟩ := of_g h
            refine g_get (C := "JoinedLeavesModel") (T := T_MO) (N := 21) (ref := "JoinedLeavesModel") (v := .ref (b + (mR μ r0 4))) hx hb hts jF_MO hown hK hM g6 (by decide) rfl 4 (by decide) (hts _ jm_8_19) (fun _ h9 => h9) (by decide) (rv_of (ok_0 g12)) d_MO_fits_50 ?_
            refine lv_bipush (v := 36) hx hb d_MO_fits_53 (by decide) ?_
            refine lv_iload_n hx hb d_MO_fits_55 rfl (lv_at hl 4 rfl) ?_
            refine lv_imul hx hb d_MO_fits_56 ?_
            refine lv_iconst (v := 3) hx hb d_MO_fits_57 (by decide) ?_
            refine lv_iload_n hx hb d_MO_fits_58 rfl (lv_at hl 3 rfl) ?_
            refine lv_imul hx hb d_MO_fits_59 ?_
            refine lv_iadd hx hb d_MO_fits_60 ?_
            refine lv_iload hx hb d_MO_fits_61 (lv_at hl 7 rfl) ?_
            refine lv_iadd hx hb d_MO_fits_63 ?_
            obtain ⟨g13, h⟩ := of_g h
            refine g_iald hx hb hK hM g12 g13 d_MO_fits_64 ?_
            obtain ⟨v14, e_v14, h⟩ := of_b h
            refine top_i (Option.some.inj e_v14) ?_
            refine lv_istore hx hb d_MO_fits_65 hl (by decide) rfl (fun ls hl => ?_)
            have hl : lv_has ls 9 [(8, .int v14), (7, .int v11), (0, .ref (b + r0)), (1, .int i1), (2, .int i2), (3, .int i3), (4, .int i4), (5, .int i5), (6, .int i6)] := hl
            refine lv_iload hx hb d_MO_fits_67 (lv_at hl 6 rfl) ?_
            refine lv_iload hx hb d_MO_fits_69 (lv_at hl 1 rfl) ?_
            refine lv_ishr hx hb d_MO_fits_71 ?_
            refine lv_iconst (v := 1) hx hb d_MO_fits_72 (by decide) ?_
            refine lv_iand hx hb d_MO_fits_73 ?_
            refine lv_if_eq (tgt := 89) hx hb d_MO_fits_74 (by decide) (fun hc => ?_) (fun hc => ?_)
            · replace h := of_t hc h
              exact ih2 _ _ _ _ _ _ _ _ _ _ _ _ _ _ _ _ h hM (lv_sub hl [2, 3, 4, 5, 6, 8, 1, 0] rfl)
            · replace h := of_f hc h
              refine lv_aload_n hx hb d_MO_fits_77 rfl (lv_at hl 2 rfl) ?_
              obtain ⟨g15, h⟩ := of_g h
              refine g_get (C := "JoinedLeavesModel") (T := T_MO) (N := 21) (ref := "JoinedLeavesModel") (v := .ref (b + (mR μ r0 15))) hx hb hts jF_MO hown hK hM g6 (by decide) rfl 15 (by decide) (hts _ jm_8_30) (fun _ h9 => h9) (by decide) (rv_of (ok_0 g15)) d_MO_fits_78 ?_
              refine lv_iload hx hb d_MO_fits_81 (lv_at hl 1 rfl) ?_
              obtain ⟨g16, h⟩ := of_g h
              refine g_iald hx hb hK hM g15 g16 d_MO_fits_83 ?_
              refine lv_iload hx hb d_MO_fits_84 (lv_at hl 0 rfl) ?_
              refine lv_icmp_ne (tgt := 93) hx hb d_MO_fits_86 (by decide) (fun hc => ?_) (fun hc => ?_)
              · replace h := of_f hc h
                refine lv_iconst (v := 0) hx hb d_MO_fits_93 (by decide) ?_
                exact ih3 _ _ _ _ _ _ _ _ _ _ _ _ _ _ _ _ h hM (lv_sub hl [2, 3, 4, 5, 6, 8, 1, 0] rfl)
              · replace h := of_t hc h
                exact ih2 _ _ _ _ _ _ _ _ _ _ _ _ _ _ _ _ h hM (lv_sub hl [2, 3, 4, 5, 6, 8, 1, 0] rfl)
      · intro r0 i1 i2 i3 i4 i5 i6 i7 i8 x0 x1 z2 μ H locs ls h hM hl
        have h : B_MO_fits_2 n (F_MO_fits n) r0 i1 i2 i3 i4 i5 i6 i7 i8 x0 x1 z2 μ = some res := h
        unfold B_MO_fits_2 at h
        refine lv_iconst (v := 1) hx hb d_MO_fits_89 (by decide) ?_
        refine lv_goto (tgt := 94) hx hb d_MO_fits_90 (by decide) ?_
        exact ih3 _ _ _ _ _ _ _ _ _ _ _ _ _ _ _ _ h hM (lv_sub hl [0, 1, 2, 3, 4, 5, 6, 7] rfl)
      · intro r0 i1 i2 i3 i4 i5 i6 i7 i8 x0 x1 z2 μ H locs ls h hM hl
        have h : B_MO_fits_3 n (F_MO_fits n) r0 i1 i2 i3 i4 i5 i6 i7 i8 x0 x1 z2 μ = some res := h
        unfold B_MO_fits_3 at h
        refine lv_istore hx hb d_MO_fits_94 hl (by decide) rfl (fun ls hl => ?_)
        have hl : lv_has ls 9 [(5, .int x0), (0, .ref (b + r0)), (1, .int i1), (2, .int i2), (3, .int i3), (4, .int i4), (6, .int i6), (7, .int i7), (8, .int i8)] := hl
        refine lv_aload_n hx hb d_MO_fits_96 rfl (lv_at hl 1 rfl) ?_
        obtain ⟨g17, h⟩ := of_g h
        obtain ⟨g18, h⟩ := of_g h
        refine g_get (C := "JoinedLeavesModel") (T := T_MO) (N := 21) (ref := "JoinedLeavesModel") (v := .ref (b + (mR μ r0 15))) hx hb hts jF_MO hown hK hM g17 (by decide) rfl 15 (by decide) (hts _ jm_8_30) (fun _ h9 => h9) (by decide) (rv_of (ok_0 g18)) d_MO_fits_97 ?_
        refine lv_iload hx hb d_MO_fits_100 (lv_at hl 7 rfl) ?_
        refine lv_iload hx hb d_MO_fits_102 (lv_at hl 5 rfl) ?_
        refine lv_iload hx hb d_MO_fits_104 (lv_at hl 7 rfl) ?_
        refine lv_ishr hx hb d_MO_fits_106 ?_
        refine lv_iconst (v := 1) hx hb d_MO_fits_107 (by decide) ?_
        refine lv_iand hx hb d_MO_fits_108 ?_
        refine lv_if_ne (tgt := 117) hx hb d_MO_fits_109 (by decide) (fun hc => ?_) (fun hc => ?_)
        · replace h := of_f hc h
          refine lv_aload_n hx hb d_MO_fits_117 rfl (lv_at hl 1 rfl) ?_
          refine g_get (C := "JoinedLeavesModel") (T := T_MO) (N := 21) (ref := "JoinedLeavesModel") (v := .ref (b + (mR μ r0 15))) hx hb hts jF_MO hown hK hM g17 (by decide) rfl 15 (by decide) (hts _ jm_8_30) (fun _ h9 => h9) (by decide) (rv_of (ok_0 g18)) d_MO_fits_118 ?_
          refine lv_iload hx hb d_MO_fits_121 (lv_at hl 7 rfl) ?_
          obtain ⟨g19, h⟩ := of_g h
          refine g_iald hx hb hK hM g18 g19 d_MO_fits_123 ?_
          exact ih4 _ _ _ _ _ _ _ _ _ _ _ _ _ _ _ _ h hM (lv_sub hl [1, 2, 3, 4, 5, 0, 6, 7] rfl)
        · replace h := of_t hc h
          refine lv_iload hx hb d_MO_fits_112 (lv_at hl 8 rfl) ?_
          refine lv_goto (tgt := 124) hx hb d_MO_fits_114 (by decide) ?_
          exact ih4 _ _ _ _ _ _ _ _ _ _ _ _ _ _ _ _ h hM (lv_sub hl [1, 2, 3, 4, 5, 0, 6, 7] rfl)
      · intro r0 i1 i2 i3 i4 i5 i6 i7 i8 x0 x1 z2 μ H locs ls h hM hl
        have h : B_MO_fits_4 n (F_MO_fits n) r0 i1 i2 i3 i4 i5 i6 i7 i8 x0 x1 z2 μ = some res := h
        unfold B_MO_fits_4 at h
        obtain ⟨g20, h⟩ := of_g h
        obtain ⟨g21, h⟩ := of_g h
        obtain ⟨μ22, e_μ22, h⟩ := of_b h
        obtain rfl := Option.some.inj e_μ22
        refine g_iast (v := x0) hx hb hK hM g20 g21 d_MO_fits_124 (fun H locs hM => ?_)
        refine lv_iload hx hb d_MO_fits_125 (lv_at hl 4 rfl) ?_
        refine lv_iconst (v := 1) hx hb d_MO_fits_127 (by decide) ?_
        refine lv_iload hx hb d_MO_fits_128 (lv_at hl 7 rfl) ?_
        refine lv_ishl hx hb d_MO_fits_130 ?_
        refine lv_ior hx hb d_MO_fits_131 ?_
        obtain ⟨v23, e_v23, h⟩ := of_b h
        refine top_i (Option.some.inj e_v23) ?_
        refine lv_istore hx hb d_MO_fits_132 hl (by decide) rfl (fun ls hl => ?_)
        have hl : lv_has ls 9 [(4, .int v23), (0, .ref (b + r0)), (1, .int i1), (2, .int i2), (3, .int i3), (5, .int i5), (6, .int i6), (7, .int i7)] := hl
        obtain ⟨v24, e_v24, h⟩ := of_b h
        refine lv_iinc (v := v24) hx hb d_MO_fits_134 hl (k := 6) rfl (by rw [lit1]; exact Option.some.inj e_v24) (by decide) rfl (fun ls hl => ?_)
        have hl : lv_has ls 9 [(6, .int v24), (4, .int v23), (0, .ref (b + r0)), (1, .int i1), (2, .int i2), (3, .int i3), (5, .int i5), (7, .int i7)] := hl
        refine lv_goto (tgt := 20) hx hb d_MO_fits_137 (by decide) ?_
        exact ih1 _ _ _ _ _ _ _ _ _ _ _ _ _ _ _ _ h hM (lv_sub hl [2, 3, 4, 5, 1, 6, 0] rfl)
  exact (key n).1 _ _ _ _ _ _ _ _ _ _ _ _ _ _ _ _ h hM hl
abbrev w_MO_note : List Cond := .code y_MO_note b_MO_note 3 (Option.none : Option Jvm.ClassFile.FieldType) :: jW
def B_MO_note_0 (n : Nat) (k : Nat → Nat → Int32 → Int32 → Mem → Option (Mem)) (r0 : Nat) (i1 : Int32) (i2 : Int32) (μ : Mem) : Option (Mem) :=
  if ok μ r0 6 = true then Option.bind (some (sL μ r0 14 ((mL μ r0 14) + 1))) (fun μ2 => k 1 r0 0 0 μ2) else none
def B_MO_note_1 (n : Nat) (k : Nat → Nat → Int32 → Int32 → Mem → Option (Mem)) (r0 : Nat) (i1 : Int32) (i2 : Int32) (μ : Mem) : Option (Mem) :=
  if ok μ r0 6 = true then if (mI μ r0 5) ≤ i1 then k 2 r0 0 0 μ else if ok μ (mR μ r0 17) 100 = true then if ib i1 (mZ μ (mR μ r0 17)) = true then if ok μ (mR μ r0 16) 100 = true then if ib i1 (mZ μ (mR μ r0 16)) = true then if ib i1 (mZ μ (mR μ r0 17)) = true then Option.bind (some (sI μ (mR μ r0 17) (Int32.toNatClampNeg i1) ((mI μ (mR μ r0 17) (Int32.toNatClampNeg i1)) ||| (1 <<< (((mI μ (mR μ r0 16) (Int32.toNatClampNeg i1)) - 1) &&& 31))))) (fun μ9 => Option.bind (some (i1 + 1)) (fun v10 => k 1 r0 v10 0 μ9)) else none else none else none else none else none else none
def B_MO_note_2 (n : Nat) (k : Nat → Nat → Int32 → Int32 → Mem → Option (Mem)) (r0 : Nat) (i1 : Int32) (i2 : Int32) (μ : Mem) : Option (Mem) :=
  if ok μ r0 6 = true then if (mI μ r0 8) ≤ i2 then if ok μ (mR μ r0 18) 100 = true then if ib (i1 >>> (5 &&& 31)) (mZ μ (mR μ r0 18)) = true then if ib (i1 >>> (5 &&& 31)) (mZ μ (mR μ r0 18)) = true then Option.bind (some (sI μ (mR μ r0 18) (Int32.toNatClampNeg (i1 >>> (5 &&& 31))) ((mI μ (mR μ r0 18) (Int32.toNatClampNeg (i1 >>> (5 &&& 31)))) ||| (1 <<< ((i1 &&& 31) &&& 31))))) (fun μ15 => some μ15) else none else none else none else if ok μ (mR μ r0 15) 100 = true then if ok μ (mR μ r0 9) 100 = true then if ib i2 (mZ μ (mR μ r0 9)) = true then if ib (mI μ (mR μ r0 9) (Int32.toNatClampNeg i2)) (mZ μ (mR μ r0 15)) = true then Option.bind (some ((16 * i1) + (mI μ (mR μ r0 15) (Int32.toNatClampNeg (mI μ (mR μ r0 9) (Int32.toNatClampNeg i2)))))) (fun v20 => Option.bind (some (i2 + 1)) (fun v21 => k 2 r0 v20 v21 μ)) else none else none else none else none else none
def F_MO_note : Nat → Nat → Nat → Int32 → Int32 → Mem → Option (Mem)
  | 0 => fun _ _ _ _ _ => none
  | n + 1 => fun id r0 i1 i2 μ => match id with
    | 0 => B_MO_note_0 n (F_MO_note n) r0 i1 i2 μ
    | 1 => B_MO_note_1 n (F_MO_note n) r0 i1 i2 μ
    | 2 => B_MO_note_2 n (F_MO_note n) r0 i1 i2 μ
    | _ => none
def C_MO_note (n : Nat) (r0 : Nat) (μ : Mem) : Option (Mem) := F_MO_note n 0 r0 0 0 μ
set_option maxHeartbeats 4000000 in
set_option maxRecDepth 100000 in
theorem S_MO_note (l : Launch) (D : va_G) (b : Nat) (cs : Nat → ClassId) (u_r0 : Nat) (ν : Mem) (res : Mem) (n : Nat) (h : C_MO_note n u_r0 ν = some res) : MetV l y_MO_note w_MO_note 0 0 b cs D ν [.ref (b + u_r0)] res := by
  refine Met.ofW (cc := b_MO_note) (maxL := 3) (ret := (Option.none : Option Jvm.ClassFile.FieldType)) (by decide) rfl ?_
  intro p e s m args below meth c s₁ B hml hv
  obtain ⟨rfl, hK, hM⟩ := Wd.start hv
  have hx := B.exec
  have hb := B.bytes
  have hr := B.returns
  have hts : ∀ w ∈ jW, w.before _ s = true := fun w hw => atoms_spec (ws := w_MO_note) B.pre w (List.mem_cons_of_mem _ hw)
  have hown : s.vm.findClass "JoinedLeavesModel" = some m.cls := findClass_of_methodNamed B.named
  have hlocks := B.notSynchronized
  have hl := lv_entry ([.ref (b + u_r0)]) (n := 3) (Nat.le_of_ble_eq_true rfl)
  rw [lg_entry_eq]
  generalize (lg_sl ([.ref (b + u_r0)]) ++ List.replicate (3 - (lg_sl ([.ref (b + u_r0)])).length) Slot.unset).toArray = ls at hl ⊢
  have hl : lv_has ls 3 [(0, .ref (b + u_r0))] := hl
  have key : ∀ N : Nat, (∀ (r0 : Nat) (i1 : Int32) (i2 : Int32) (μ : Mem) (H : Heap) (locs : List Loc) (ls : Array Slot), F_MO_note N 0 r0 i1 i2 μ = some res → Wd (Aw b (mN ν)) b cs D s.heap μ H locs → lv_has ls 3 [(0, .ref (b + r0))] → W p l e (headSpec w_MO_note { frames := 0, cells := 0, slots := 0, locals := 0 }).room s m ([.ref (b + u_r0)]).toArray below meth c H locs 0 0 (MQ below (va_Qv (fun μ' => μ' = res ∧ mN μ' ≤ mN ν) (Bw b cs D) (Aw b (mN ν))) ([.ref (b + u_r0)]).toArray s 0 0 (Aw b (mN ν))) (F0 m 0 ls [])) ∧
      (∀ (r0 : Nat) (i1 : Int32) (i2 : Int32) (μ : Mem) (H : Heap) (locs : List Loc) (ls : Array Slot), F_MO_note N 1 r0 i1 i2 μ = some res → Wd (Aw b (mN ν)) b cs D s.heap μ H locs → lv_has ls 3 [(0, .ref (b + r0)), (1, .int i1)] → W p l e (headSpec w_MO_note { frames := 0, cells := 0, slots := 0, locals := 0 }).room s m ([.ref (b + u_r0)]).toArray below meth c H locs 0 0 (MQ below (va_Qv (fun μ' => μ' = res ∧ mN μ' ≤ mN ν) (Bw b cs D) (Aw b (mN ν))) ([.ref (b + u_r0)]).toArray s 0 0 (Aw b (mN ν))) (F0 m 12 ls [])) ∧
      (∀ (r0 : Nat) (i1 : Int32) (i2 : Int32) (μ : Mem) (H : Heap) (locs : List Loc) (ls : Array Slot), F_MO_note N 2 r0 i1 i2 μ = some res → Wd (Aw b (mN ν)) b cs D s.heap μ H locs → lv_has ls 3 [(0, .ref (b + r0)), (1, .int i1), (2, .int i2)] → W p l e (headSpec w_MO_note { frames := 0, cells := 0, slots := 0, locals := 0 }).room s m ([.ref (b + u_r0)]).toArray below meth c H locs 0 0 (MQ below (va_Qv (fun μ' => μ' = res ∧ mN μ' ≤ mN ν) (Bw b cs D) (Aw b (mN ν))) ([.ref (b + u_r0)]).toArray s 0 0 (Aw b (mN ν))) (F0 m 53 ls [])) := by
    intro N
    induction N with
    | zero => exact ⟨fun _ _ _ _ _ _ _ h => (nomatch h), fun _ _ _ _ _ _ _ h => (nomatch h), fun _ _ _ _ _ _ _ h => (nomatch h)⟩
    | succ n ih =>
      obtain ⟨ih0, ih1, ih2⟩ := ih
      refine ⟨?_, ?_, ?_⟩
      · intro r0 i1 i2 μ H locs ls h hM hl
        have h : B_MO_note_0 n (F_MO_note n) r0 i1 i2 μ = some res := h
        unfold B_MO_note_0 at h
        refine lv_aload_n hx hb d_MO_note_0 rfl (lv_at hl 0 rfl) ?_
        refine lv_aload_n hx hb d_MO_note_1 rfl (lv_at hl 0 rfl) ?_
        obtain ⟨g1, h⟩ := of_g h
        refine g_get (C := "JoinedLeavesModel") (T := T_MO) (N := 21) (ref := "JoinedLeavesModel") (v := .long (mL μ r0 14)) hx hb hts jF_MO hown hK hM g1 (by decide) rfl 14 (by decide) (hts _ jm_8_29) (fun _ h9 => h9) (by decide) rfl d_MO_note_2 ?_
        refine lv_lconst (v := 1) hx hb d_MO_note_5 (by decide) ?_
        refine lv_ladd hx hb d_MO_note_6 ?_
        obtain ⟨μ2, e_μ2, h⟩ := of_b h
        obtain rfl := Option.some.inj e_μ2
        refine g_putl (v := (mL μ r0 14) + 1) (C := "JoinedLeavesModel") (T := T_MO) (N := 21) (ref := "JoinedLeavesModel") hx hb hts jF_MO t_MO o_MO n_MO hown hK hM g1 (by decide) rfl 14 (by decide) (hts _ jm_8_29) (fun _ h9 => h9) rfl (ty := .long) (by decide +kernel) rfl rfl (by decide) rfl d_MO_note_7 (fun H locs hM => ?_)
        refine lv_iconst (v := 0) hx hb d_MO_note_10 (by decide) ?_
        refine lv_istore_n hx hb d_MO_note_11 rfl hl (by decide) rfl (fun ls hl => ?_)
        have hl : lv_has ls 3 [(1, .int 0), (0, .ref (b + r0))] := hl
        exact ih1 _ _ _ _ _ _ _ h hM (lv_sub hl [1, 0] rfl)
      · intro r0 i1 i2 μ H locs ls h hM hl
        have h : B_MO_note_1 n (F_MO_note n) r0 i1 i2 μ = some res := h
        unfold B_MO_note_1 at h
        refine lv_iload_n hx hb d_MO_note_12 rfl (lv_at hl 1 rfl) ?_
        refine lv_aload_n hx hb d_MO_note_13 rfl (lv_at hl 0 rfl) ?_
        obtain ⟨g3, h⟩ := of_g h
        refine g_get (C := "JoinedLeavesModel") (T := T_MO) (N := 21) (ref := "JoinedLeavesModel") (v := .int (mI μ r0 5)) hx hb hts jF_MO hown hK hM g3 (by decide) rfl 5 (by decide) (hts _ jm_8_20) (fun _ h9 => h9) (by decide) rfl d_MO_note_14 ?_
        refine lv_icmp_ge (tgt := 49) hx hb d_MO_note_17 (by decide) (fun hc => ?_) (fun hc => ?_)
        · replace h := of_t hc h
          refine lv_iconst (v := 0) hx hb d_MO_note_49 (by decide) ?_
          refine lv_istore_n hx hb d_MO_note_50 rfl hl (by decide) rfl (fun ls hl => ?_)
          have hl : lv_has ls 3 [(1, .int 0), (0, .ref (b + r0))] := hl
          refine lv_iconst (v := 0) hx hb d_MO_note_51 (by decide) ?_
          refine lv_istore_n hx hb d_MO_note_52 rfl hl (by decide) rfl (fun ls hl => ?_)
          have hl : lv_has ls 3 [(2, .int 0), (1, .int 0), (0, .ref (b + r0))] := hl
          exact ih2 _ _ _ _ _ _ _ h hM (lv_sub hl [2, 1, 0] rfl)
        · replace h := of_f hc h
          refine lv_aload_n hx hb d_MO_note_20 rfl (lv_at hl 0 rfl) ?_
          obtain ⟨g4, h⟩ := of_g h
          refine g_get (C := "JoinedLeavesModel") (T := T_MO) (N := 21) (ref := "JoinedLeavesModel") (v := .ref (b + (mR μ r0 17))) hx hb hts jF_MO hown hK hM g3 (by decide) rfl 17 (by decide) (hts _ jm_8_32) (fun _ h9 => h9) (by decide) (rv_of (ok_0 g4)) d_MO_note_21 ?_
          refine lv_iload_n hx hb d_MO_note_24 rfl (lv_at hl 1 rfl) ?_
          refine lv_aload_n hx hb d_MO_note_25 rfl (lv_at hl 0 rfl) ?_
          refine g_get (C := "JoinedLeavesModel") (T := T_MO) (N := 21) (ref := "JoinedLeavesModel") (v := .ref (b + (mR μ r0 17))) hx hb hts jF_MO hown hK hM g3 (by decide) rfl 17 (by decide) (hts _ jm_8_32) (fun _ h9 => h9) (by decide) (rv_of (ok_0 g4)) d_MO_note_26 ?_
          refine lv_iload_n hx hb d_MO_note_29 rfl (lv_at hl 1 rfl) ?_
          obtain ⟨g5, h⟩ := of_g h
          refine g_iald hx hb hK hM g4 g5 d_MO_note_30 ?_
          refine lv_iconst (v := 1) hx hb d_MO_note_31 (by decide) ?_
          refine lv_aload_n hx hb d_MO_note_32 rfl (lv_at hl 0 rfl) ?_
          obtain ⟨g6, h⟩ := of_g h
          refine g_get (C := "JoinedLeavesModel") (T := T_MO) (N := 21) (ref := "JoinedLeavesModel") (v := .ref (b + (mR μ r0 16))) hx hb hts jF_MO hown hK hM g3 (by decide) rfl 16 (by decide) (hts _ jm_8_31) (fun _ h9 => h9) (by decide) (rv_of (ok_0 g6)) d_MO_note_33 ?_
          refine lv_iload_n hx hb d_MO_note_36 rfl (lv_at hl 1 rfl) ?_
          obtain ⟨g7, h⟩ := of_g h
          refine g_iald hx hb hK hM g6 g7 d_MO_note_37 ?_
          refine lv_iconst (v := 1) hx hb d_MO_note_38 (by decide) ?_
          refine lv_isub hx hb d_MO_note_39 ?_
          refine lv_ishl hx hb d_MO_note_40 ?_
          refine lv_ior hx hb d_MO_note_41 ?_
          obtain ⟨g8, h⟩ := of_g h
          obtain ⟨μ9, e_μ9, h⟩ := of_b h
          obtain rfl := Option.some.inj e_μ9
          refine g_iast (v := (mI μ (mR μ r0 17) (Int32.toNatClampNeg i1)) ||| (1 <<< (((mI μ (mR μ r0 16) (Int32.toNatClampNeg i1)) - 1) &&& 31))) hx hb hK hM g4 g8 d_MO_note_42 (fun H locs hM => ?_)
          obtain ⟨v10, e_v10, h⟩ := of_b h
          refine lv_iinc (v := v10) hx hb d_MO_note_43 hl (k := 1) rfl (by rw [lit1]; exact Option.some.inj e_v10) (by decide) rfl (fun ls hl => ?_)
          have hl : lv_has ls 3 [(1, .int v10), (0, .ref (b + r0))] := hl
          refine lv_goto (tgt := 12) hx hb d_MO_note_46 (by decide) ?_
          exact ih1 _ _ _ _ _ _ _ h hM (lv_sub hl [1, 0] rfl)
      · intro r0 i1 i2 μ H locs ls h hM hl
        have h : B_MO_note_2 n (F_MO_note n) r0 i1 i2 μ = some res := h
        unfold B_MO_note_2 at h
        refine lv_iload_n hx hb d_MO_note_53 rfl (lv_at hl 2 rfl) ?_
        refine lv_aload_n hx hb d_MO_note_54 rfl (lv_at hl 0 rfl) ?_
        obtain ⟨g11, h⟩ := of_g h
        refine g_get (C := "JoinedLeavesModel") (T := T_MO) (N := 21) (ref := "JoinedLeavesModel") (v := .int (mI μ r0 8)) hx hb hts jF_MO hown hK hM g11 (by decide) rfl 8 (by decide) (hts _ jm_8_23) (fun _ h9 => h9) (by decide) rfl d_MO_note_55 ?_
        refine lv_icmp_ge (tgt := 84) hx hb d_MO_note_58 (by decide) (fun hc => ?_) (fun hc => ?_)
        · replace h := of_t hc h
          refine lv_aload_n hx hb d_MO_note_84 rfl (lv_at hl 0 rfl) ?_
          obtain ⟨g12, h⟩ := of_g h
          refine g_get (C := "JoinedLeavesModel") (T := T_MO) (N := 21) (ref := "JoinedLeavesModel") (v := .ref (b + (mR μ r0 18))) hx hb hts jF_MO hown hK hM g11 (by decide) rfl 18 (by decide) (hts _ jm_8_33) (fun _ h9 => h9) (by decide) (rv_of (ok_0 g12)) d_MO_note_85 ?_
          refine lv_iload_n hx hb d_MO_note_88 rfl (lv_at hl 1 rfl) ?_
          refine lv_iconst (v := 5) hx hb d_MO_note_89 (by decide) ?_
          refine lv_ishr hx hb d_MO_note_90 ?_
          refine lv_aload_n hx hb d_MO_note_91 rfl (lv_at hl 0 rfl) ?_
          refine g_get (C := "JoinedLeavesModel") (T := T_MO) (N := 21) (ref := "JoinedLeavesModel") (v := .ref (b + (mR μ r0 18))) hx hb hts jF_MO hown hK hM g11 (by decide) rfl 18 (by decide) (hts _ jm_8_33) (fun _ h9 => h9) (by decide) (rv_of (ok_0 g12)) d_MO_note_92 ?_
          refine lv_iload_n hx hb d_MO_note_95 rfl (lv_at hl 1 rfl) ?_
          refine lv_iconst (v := 5) hx hb d_MO_note_96 (by decide) ?_
          refine lv_ishr hx hb d_MO_note_97 ?_
          obtain ⟨g13, h⟩ := of_g h
          refine g_iald hx hb hK hM g12 g13 d_MO_note_98 ?_
          refine lv_iconst (v := 1) hx hb d_MO_note_99 (by decide) ?_
          refine lv_iload_n hx hb d_MO_note_100 rfl (lv_at hl 1 rfl) ?_
          refine lv_bipush (v := 31) hx hb d_MO_note_101 (by decide) ?_
          refine lv_iand hx hb d_MO_note_103 ?_
          refine lv_ishl hx hb d_MO_note_104 ?_
          refine lv_ior hx hb d_MO_note_105 ?_
          obtain ⟨g14, h⟩ := of_g h
          obtain ⟨μ15, e_μ15, h⟩ := of_b h
          obtain rfl := Option.some.inj e_μ15
          refine g_iast (v := (mI μ (mR μ r0 18) (Int32.toNatClampNeg (i1 >>> (5 &&& 31)))) ||| (1 <<< ((i1 &&& 31) &&& 31))) hx hb hK hM g12 g14 d_MO_note_106 (fun H locs hM => ?_)
          exact g_vret hx hb hr hlocks hM (Option.some.inj h) d_MO_note_107
        · replace h := of_f hc h
          refine lv_bipush (v := 16) hx hb d_MO_note_61 (by decide) ?_
          refine lv_iload_n hx hb d_MO_note_63 rfl (lv_at hl 1 rfl) ?_
          refine lv_imul hx hb d_MO_note_64 ?_
          refine lv_aload_n hx hb d_MO_note_65 rfl (lv_at hl 0 rfl) ?_
          obtain ⟨g16, h⟩ := of_g h
          refine g_get (C := "JoinedLeavesModel") (T := T_MO) (N := 21) (ref := "JoinedLeavesModel") (v := .ref (b + (mR μ r0 15))) hx hb hts jF_MO hown hK hM g11 (by decide) rfl 15 (by decide) (hts _ jm_8_30) (fun _ h9 => h9) (by decide) (rv_of (ok_0 g16)) d_MO_note_66 ?_
          refine lv_aload_n hx hb d_MO_note_69 rfl (lv_at hl 0 rfl) ?_
          obtain ⟨g17, h⟩ := of_g h
          refine g_get (C := "JoinedLeavesModel") (T := T_MO) (N := 21) (ref := "JoinedLeavesModel") (v := .ref (b + (mR μ r0 9))) hx hb hts jF_MO hown hK hM g11 (by decide) rfl 9 (by decide) (hts _ jm_8_24) (fun _ h9 => h9) (by decide) (rv_of (ok_0 g17)) d_MO_note_70 ?_
          refine lv_iload_n hx hb d_MO_note_73 rfl (lv_at hl 2 rfl) ?_
          obtain ⟨g18, h⟩ := of_g h
          refine g_iald hx hb hK hM g17 g18 d_MO_note_74 ?_
          obtain ⟨g19, h⟩ := of_g h
          refine g_iald hx hb hK hM g16 g19 d_MO_note_75 ?_
          refine lv_iadd hx hb d_MO_note_76 ?_
          obtain ⟨v20, e_v20, h⟩ := of_b h
          refine top_i (Option.some.inj e_v20) ?_
          refine lv_istore_n hx hb d_MO_note_77 rfl hl (by decide) rfl (fun ls hl => ?_)
          have hl : lv_has ls 3 [(1, .int v20), (0, .ref (b + r0)), (2, .int i2)] := hl
          obtain ⟨v21, e_v21, h⟩ := of_b h
          refine lv_iinc (v := v21) hx hb d_MO_note_78 hl (k := 2) rfl (by rw [lit1]; exact Option.some.inj e_v21) (by decide) rfl (fun ls hl => ?_)
          have hl : lv_has ls 3 [(2, .int v21), (1, .int v20), (0, .ref (b + r0))] := hl
          refine lv_goto (tgt := 53) hx hb d_MO_note_81 (by decide) ?_
          exact ih2 _ _ _ _ _ _ _ h hM (lv_sub hl [2, 1, 0] rfl)
  exact (key n).1 _ _ _ _ _ _ _ h hM hl
abbrev w_MO_look : List Cond := .code y_MO_look b_MO_look 3 (Option.none : Option Jvm.ClassFile.FieldType) :: jW
def B_MO_look_0 (n : Nat) (k : Nat → Nat → Int32 → Int32 → Mem → Option (Mem)) (r0 : Nat) (i1 : Int32) (i2 : Int32) (μ : Mem) : Option (Mem) :=
  if ok μ r0 6 = true then if (mI μ r0 13) = 0 then Option.bind (some (sI μ r0 13 1)) (fun μ2 => Option.bind (some (sL μ2 r0 14 0)) (fun μ3 => k 1 r0 0 0 μ3)) else some μ else none
def B_MO_look_1 (n : Nat) (k : Nat → Nat → Int32 → Int32 → Mem → Option (Mem)) (r0 : Nat) (i1 : Int32) (i2 : Int32) (μ : Mem) : Option (Mem) :=
  if 6 ≤ i1 then k 2 r0 0 0 μ else if ok μ r0 6 = true then if ok μ (mR μ r0 17) 100 = true then if ib i1 (mZ μ (mR μ r0 17)) = true then Option.bind (some (sI μ (mR μ r0 17) (Int32.toNatClampNeg i1) 0)) (fun μ7 => Option.bind (some (i1 + 1)) (fun v8 => k 1 r0 v8 0 μ7)) else none else none else none
def B_MO_look_2 (n : Nat) (k : Nat → Nat → Int32 → Int32 → Mem → Option (Mem)) (r0 : Nat) (i1 : Int32) (i2 : Int32) (μ : Mem) : Option (Mem) :=
  if 2048 ≤ i1 then if ok μ r0 6 = true then if ok μ (mR μ r0 16) 100 = true then if ib 0 (mZ μ (mR μ r0 16)) = true then Option.bind (some (sI μ (mR μ r0 16) (Int32.toNatClampNeg 0) 0)) (fun μ12 => k 3 r0 0 0 μ12) else none else none else none else if ok μ r0 6 = true then if ok μ (mR μ r0 18) 100 = true then if ib i1 (mZ μ (mR μ r0 18)) = true then Option.bind (some (sI μ (mR μ r0 18) (Int32.toNatClampNeg i1) 0)) (fun μ16 => Option.bind (some (i1 + 1)) (fun v17 => k 2 r0 v17 0 μ16)) else none else none else none
def B_MO_look_3 (n : Nat) (k : Nat → Nat → Int32 → Int32 → Mem → Option (Mem)) (r0 : Nat) (i1 : Int32) (i2 : Int32) (μ : Mem) : Option (Mem) :=
  if i1 < 0 then if ok μ r0 6 = true then Option.bind (some (sI μ r0 19 0)) (fun μ19 => k 4 r0 0 0 μ19) else none else if ok μ r0 6 = true then if i1 = (mI μ r0 5) then Option.bind (C_MO_note n r0 μ) (fun q39 => Option.bind (some (i1 - 1)) (fun v40 => k 3 r0 v40 0 q39)) else if ok μ (mR μ r0 16) 100 = true then if ib i1 (mZ μ (mR μ r0 16)) = true then if ok μ (mR μ r0 3) 100 = true then if ok μ (mR μ r0 6) 100 = true then if ib i1 (mZ μ (mR μ r0 6)) = true then if ib (mI μ (mR μ r0 6) (Int32.toNatClampNeg i1)) (mZ μ (mR μ r0 3)) = true then if (mI μ (mR μ r0 16) (Int32.toNatClampNeg i1)) = (mI μ (mR μ r0 3) (Int32.toNatClampNeg (mI μ (mR μ r0 6) (Int32.toNatClampNeg i1)))) then Option.bind (some (i1 - 1)) (fun v38 => k 3 r0 v38 0 μ) else if ib i1 (mZ μ (mR μ r0 16)) = true then if ib i1 (mZ μ (mR μ r0 16)) = true then Option.bind (some (sI μ (mR μ r0 16) (Int32.toNatClampNeg i1) ((mI μ (mR μ r0 16) (Int32.toNatClampNeg i1)) + 1))) (fun μ29 => if ok μ29 (mR μ29 r0 16) 100 = true then if ib i1 (mZ μ29 (mR μ29 r0 16)) = true then Option.bind (C_MO_fits n r0 i1 ((mI μ29 (mR μ29 r0 16) (Int32.toNatClampNeg i1)) - 1) μ29) (fun q32 => if q32.1 = 0 then k 3 r0 i1 0 q32.2 else Option.bind (some (i1 + 1)) (fun v33 => if ok q32.2 r0 6 = true then if ok q32.2 (mR q32.2 r0 16) 100 = true then if ib v33 (mZ q32.2 (mR q32.2 r0 16)) = true then Option.bind (some (sI q32.2 (mR q32.2 r0 16) (Int32.toNatClampNeg v33) 0)) (fun μ37 => k 3 r0 v33 0 μ37) else none else none else none)) else none else none) else none else none else none else none else none else none else none else none else none
def B_MO_look_4 (n : Nat) (k : Nat → Nat → Int32 → Int32 → Mem → Option (Mem)) (r0 : Nat) (i1 : Int32) (i2 : Int32) (μ : Mem) : Option (Mem) :=
  if 65536 ≤ i2 then some μ else if ok μ r0 6 = true then if ok μ (mR μ r0 18) 100 = true then if ib (i2 >>> (5 &&& 31)) (mZ μ (mR μ r0 18)) = true then if (((mI μ (mR μ r0 18) (Int32.toNatClampNeg (i2 >>> (5 &&& 31)))) >>> ((i2 &&& 31) &&& 31)) &&& 1) = 1 then if 64 ≤ (mI μ r0 19) then k 5 r0 0 i2 μ else if ok μ (mR μ r0 20) 100 = true then if ib (mI μ r0 19) (mZ μ (mR μ r0 20)) = true then Option.bind (some (sI μ (mR μ r0 20) (Int32.toNatClampNeg (mI μ r0 19)) i2)) (fun μ46 => k 5 r0 0 i2 μ46) else none else none else k 6 r0 0 i2 μ else none else none else none
def B_MO_look_5 (n : Nat) (k : Nat → Nat → Int32 → Int32 → Mem → Option (Mem)) (r0 : Nat) (i1 : Int32) (i2 : Int32) (μ : Mem) : Option (Mem) :=
  if ok μ r0 6 = true then Option.bind (some (sI μ r0 19 ((mI μ r0 19) + 1))) (fun μ48 => k 6 r0 0 i2 μ48) else none
def B_MO_look_6 (n : Nat) (k : Nat → Nat → Int32 → Int32 → Mem → Option (Mem)) (r0 : Nat) (i1 : Int32) (i2 : Int32) (μ : Mem) : Option (Mem) :=
  Option.bind (some (i2 + 1)) (fun v49 => k 4 r0 0 v49 μ)
def F_MO_look : Nat → Nat → Nat → Int32 → Int32 → Mem → Option (Mem)
  | 0 => fun _ _ _ _ _ => none
  | n + 1 => fun id r0 i1 i2 μ => match id with
    | 0 => B_MO_look_0 n (F_MO_look n) r0 i1 i2 μ
    | 1 => B_MO_look_1 n (F_MO_look n) r0 i1 i2 μ
    | 2 => B_MO_look_2 n (F_MO_look n) r0 i1 i2 μ
    | 3 => B_MO_look_3 n (F_MO_look n) r0 i1 i2 μ
    | 4 => B_MO_look_4 n (F_MO_look n) r0 i1 i2 μ
    | 5 => B_MO_look_5 n (F_MO_look n) r0 i1 i2 μ
    | 6 => B_MO_look_6 n (F_MO_look n) r0 i1 i2 μ
    | _ => none
def C_MO_look (n : Nat) (r0 : Nat) (μ : Mem) : Option (Mem) := F_MO_look n 0 r0 0 0 μ
set_option maxHeartbeats 4000000 in
set_option maxRecDepth 100000 in
theorem S_MO_look (l : Launch) (D : va_G) (b : Nat) (cs : Nat → ClassId) (u_r0 : Nat) (ν : Mem) (res : Mem) (n : Nat) (h : C_MO_look n u_r0 ν = some res) : MetV l y_MO_look w_MO_look 3 74 b cs D ν [.ref (b + u_r0)] res := by
  refine Met.ofW (cc := b_MO_look) (maxL := 3) (ret := (Option.none : Option Jvm.ClassFile.FieldType)) (by decide) rfl ?_
  intro p e s m args below meth c s₁ B hml hv
  obtain ⟨rfl, hK, hM⟩ := Wd.start hv
  have hx := B.exec
  have hb := B.bytes
  have hr := B.returns
  have hts : ∀ w ∈ jW, w.before _ s = true := fun w hw => atoms_spec (ws := w_MO_look) B.pre w (List.mem_cons_of_mem _ hw)
  have hown : s.vm.findClass "JoinedLeavesModel" = some m.cls := findClass_of_methodNamed B.named
  have hlocks := B.notSynchronized
  have hl := lv_entry ([.ref (b + u_r0)]) (n := 3) (Nat.le_of_ble_eq_true rfl)
  rw [lg_entry_eq]
  generalize (lg_sl ([.ref (b + u_r0)]) ++ List.replicate (3 - (lg_sl ([.ref (b + u_r0)])).length) Slot.unset).toArray = ls at hl ⊢
  have hl : lv_has ls 3 [(0, .ref (b + u_r0))] := hl
  have key : ∀ N : Nat, (∀ (r0 : Nat) (i1 : Int32) (i2 : Int32) (μ : Mem) (H : Heap) (locs : List Loc) (ls : Array Slot), F_MO_look N 0 r0 i1 i2 μ = some res → Wd (Aw b (mN ν)) b cs D s.heap μ H locs → lv_has ls 3 [(0, .ref (b + r0))] → W p l e (headSpec w_MO_look { frames := 3, cells := 0, slots := 0, locals := 74 }).room s m ([.ref (b + u_r0)]).toArray below meth c H locs 0 0 (MQ below (va_Qv (fun μ' => μ' = res ∧ mN μ' ≤ mN ν) (Bw b cs D) (Aw b (mN ν))) ([.ref (b + u_r0)]).toArray s 0 0 (Aw b (mN ν))) (F0 m 0 ls [])) ∧
      (∀ (r0 : Nat) (i1 : Int32) (i2 : Int32) (μ : Mem) (H : Heap) (locs : List Loc) (ls : Array Slot), F_MO_look N 1 r0 i1 i2 μ = some res → Wd (Aw b (mN ν)) b cs D s.heap μ H locs → lv_has ls 3 [(0, .ref (b + r0)), (1, .int i1)] → W p l e (headSpec w_MO_look { frames := 3, cells := 0, slots := 0, locals := 74 }).room s m ([.ref (b + u_r0)]).toArray below meth c H locs 0 0 (MQ below (va_Qv (fun μ' => μ' = res ∧ mN μ' ≤ mN ν) (Bw b cs D) (Aw b (mN ν))) ([.ref (b + u_r0)]).toArray s 0 0 (Aw b (mN ν))) (F0 m 20 ls [])) ∧
      (∀ (r0 : Nat) (i1 : Int32) (i2 : Int32) (μ : Mem) (H : Heap) (locs : List Loc) (ls : Array Slot), F_MO_look N 2 r0 i1 i2 μ = some res → Wd (Aw b (mN ν)) b cs D s.heap μ H locs → lv_has ls 3 [(0, .ref (b + r0)), (1, .int i1)] → W p l e (headSpec w_MO_look { frames := 3, cells := 0, slots := 0, locals := 74 }).room s m ([.ref (b + u_r0)]).toArray below meth c H locs 0 0 (MQ below (va_Qv (fun μ' => μ' = res ∧ mN μ' ≤ mN ν) (Bw b cs D) (Aw b (mN ν))) ([.ref (b + u_r0)]).toArray s 0 0 (Aw b (mN ν))) (F0 m 41 ls [])) ∧
      (∀ (r0 : Nat) (i1 : Int32) (i2 : Int32) (μ : Mem) (H : Heap) (locs : List Loc) (ls : Array Slot), F_MO_look N 3 r0 i1 i2 μ = some res → Wd (Aw b (mN ν)) b cs D s.heap μ H locs → lv_has ls 3 [(0, .ref (b + r0)), (1, .int i1)] → W p l e (headSpec w_MO_look { frames := 3, cells := 0, slots := 0, locals := 74 }).room s m ([.ref (b + u_r0)]).toArray below meth c H locs 0 0 (MQ below (va_Qv (fun μ' => μ' = res ∧ mN μ' ≤ mN ν) (Bw b cs D) (Aw b (mN ν))) ([.ref (b + u_r0)]).toArray s 0 0 (Aw b (mN ν))) (F0 m 70 ls [])) ∧
      (∀ (r0 : Nat) (i1 : Int32) (i2 : Int32) (μ : Mem) (H : Heap) (locs : List Loc) (ls : Array Slot), F_MO_look N 4 r0 i1 i2 μ = some res → Wd (Aw b (mN ν)) b cs D s.heap μ H locs → lv_has ls 3 [(0, .ref (b + r0)), (2, .int i2)] → W p l e (headSpec w_MO_look { frames := 3, cells := 0, slots := 0, locals := 74 }).room s m ([.ref (b + u_r0)]).toArray below meth c H locs 0 0 (MQ below (va_Qv (fun μ' => μ' = res ∧ mN μ' ≤ mN ν) (Bw b cs D) (Aw b (mN ν))) ([.ref (b + u_r0)]).toArray s 0 0 (Aw b (mN ν))) (F0 m 171 ls [])) ∧
      (∀ (r0 : Nat) (i1 : Int32) (i2 : Int32) (μ : Mem) (H : Heap) (locs : List Loc) (ls : Array Slot), F_MO_look N 5 r0 i1 i2 μ = some res → Wd (Aw b (mN ν)) b cs D s.heap μ H locs → lv_has ls 3 [(0, .ref (b + r0)), (2, .int i2)] → W p l e (headSpec w_MO_look { frames := 3, cells := 0, slots := 0, locals := 74 }).room s m ([.ref (b + u_r0)]).toArray below meth c H locs 0 0 (MQ below (va_Qv (fun μ' => μ' = res ∧ mN μ' ≤ mN ν) (Bw b cs D) (Aw b (mN ν))) ([.ref (b + u_r0)]).toArray s 0 0 (Aw b (mN ν))) (F0 m 215 ls [])) ∧
      (∀ (r0 : Nat) (i1 : Int32) (i2 : Int32) (μ : Mem) (H : Heap) (locs : List Loc) (ls : Array Slot), F_MO_look N 6 r0 i1 i2 μ = some res → Wd (Aw b (mN ν)) b cs D s.heap μ H locs → lv_has ls 3 [(0, .ref (b + r0)), (2, .int i2)] → W p l e (headSpec w_MO_look { frames := 3, cells := 0, slots := 0, locals := 74 }).room s m ([.ref (b + u_r0)]).toArray below meth c H locs 0 0 (MQ below (va_Qv (fun μ' => μ' = res ∧ mN μ' ≤ mN ν) (Bw b cs D) (Aw b (mN ν))) ([.ref (b + u_r0)]).toArray s 0 0 (Aw b (mN ν))) (F0 m 225 ls [])) := by
    intro N
    induction N with
    | zero => exact ⟨fun _ _ _ _ _ _ _ h => (nomatch h), fun _ _ _ _ _ _ _ h => (nomatch h), fun _ _ _ _ _ _ _ h => (nomatch h), fun _ _ _ _ _ _ _ h => (nomatch h), fun _ _ _ _ _ _ _ h => (nomatch h), fun _ _ _ _ _ _ _ h => (nomatch h), fun _ _ _ _ _ _ _ h => (nomatch h)⟩
    | succ n ih =>
      obtain ⟨ih0, ih1, ih2, ih3, ih4, ih5, ih6⟩ := ih
      refine ⟨?_, ?_, ?_, ?_, ?_, ?_, ?_⟩
      · intro r0 i1 i2 μ H locs ls h hM hl
        have h : B_MO_look_0 n (F_MO_look n) r0 i1 i2 μ = some res := h
        unfold B_MO_look_0 at h
        refine lv_aload_n hx hb d_MO_look_0 rfl (lv_at hl 0 rfl) ?_
        obtain ⟨g1, h⟩ := of_g h
        refine g_get (C := "JoinedLeavesModel") (T := T_MO) (N := 21) (ref := "JoinedLeavesModel") (v := .int (mI μ r0 13)) hx hb hts jF_MO hown hK hM g1 (by decide) rfl 13 (by decide) (hts _ jm_8_28) (fun _ h9 => h9) (by decide) rfl d_MO_look_1 ?_
        refine lv_if_eq (tgt := 8) hx hb d_MO_look_4 (by decide) (fun hc => ?_) (fun hc => ?_)
        · replace h := of_t hc h
          refine lv_aload_n hx hb d_MO_look_8 rfl (lv_at hl 0 rfl) ?_
          refine lv_iconst (v := 1) hx hb d_MO_look_9 (by decide) ?_
          obtain ⟨μ2, e_μ2, h⟩ := of_b h
          obtain rfl := Option.some.inj e_μ2
          refine g_puti (v := 1) (C := "JoinedLeavesModel") (T := T_MO) (N := 21) (ref := "JoinedLeavesModel") hx hb hts jF_MO t_MO o_MO n_MO hown hK hM g1 (by decide) rfl 13 (by decide) (hts _ jm_8_28) (fun _ h9 => h9) rfl (ty := .boolean) (by decide +kernel) narrow_b1 rfl (by decide) (Or.inr rfl) d_MO_look_10 (fun H locs hM => ?_)
          refine lv_aload_n hx hb d_MO_look_13 rfl (lv_at hl 0 rfl) ?_
          refine lv_lconst (v := 0) hx hb d_MO_look_14 (by decide) ?_
          obtain ⟨μ3, e_μ3, h⟩ := of_b h
          obtain rfl := Option.some.inj e_μ3
          refine g_putl (v := 0) (C := "JoinedLeavesModel") (T := T_MO) (N := 21) (ref := "JoinedLeavesModel") hx hb hts jF_MO t_MO o_MO n_MO hown hK hM g1 (by decide) rfl 14 (by decide) (hts _ jm_8_29) (fun _ h9 => h9) rfl (ty := .long) (by decide +kernel) rfl rfl (by decide) rfl d_MO_look_15 (fun H locs hM => ?_)
          refine lv_iconst (v := 0) hx hb d_MO_look_18 (by decide) ?_
          refine lv_istore_n hx hb d_MO_look_19 rfl hl (by decide) rfl (fun ls hl => ?_)
          have hl : lv_has ls 3 [(1, .int 0), (0, .ref (b + r0))] := hl
          exact ih1 _ _ _ _ _ _ _ h hM (lv_sub hl [1, 0] rfl)
        · replace h := of_f hc h
          exact g_vret hx hb hr hlocks hM (Option.some.inj h) d_MO_look_7
      · intro r0 i1 i2 μ H locs ls h hM hl
        have h : B_MO_look_1 n (F_MO_look n) r0 i1 i2 μ = some res := h
        unfold B_MO_look_1 at h
        refine lv_iload_n hx hb d_MO_look_20 rfl (lv_at hl 1 rfl) ?_
        refine lv_bipush (v := 6) hx hb d_MO_look_21 (by decide) ?_
        refine lv_icmp_ge (tgt := 39) hx hb d_MO_look_23 (by decide) (fun hc => ?_) (fun hc => ?_)
        · replace h := of_t hc h
          refine lv_iconst (v := 0) hx hb d_MO_look_39 (by decide) ?_
          refine lv_istore_n hx hb d_MO_look_40 rfl hl (by decide) rfl (fun ls hl => ?_)
          have hl : lv_has ls 3 [(1, .int 0), (0, .ref (b + r0))] := hl
          exact ih2 _ _ _ _ _ _ _ h hM (lv_sub hl [1, 0] rfl)
        · replace h := of_f hc h
          refine lv_aload_n hx hb d_MO_look_26 rfl (lv_at hl 0 rfl) ?_
          obtain ⟨g4, h⟩ := of_g h
          obtain ⟨g5, h⟩ := of_g h
          refine g_get (C := "JoinedLeavesModel") (T := T_MO) (N := 21) (ref := "JoinedLeavesModel") (v := .ref (b + (mR μ r0 17))) hx hb hts jF_MO hown hK hM g4 (by decide) rfl 17 (by decide) (hts _ jm_8_32) (fun _ h9 => h9) (by decide) (rv_of (ok_0 g5)) d_MO_look_27 ?_
          refine lv_iload_n hx hb d_MO_look_30 rfl (lv_at hl 1 rfl) ?_
          refine lv_iconst (v := 0) hx hb d_MO_look_31 (by decide) ?_
          obtain ⟨g6, h⟩ := of_g h
          obtain ⟨μ7, e_μ7, h⟩ := of_b h
          obtain rfl := Option.some.inj e_μ7
          refine g_iast (v := 0) hx hb hK hM g5 g6 d_MO_look_32 (fun H locs hM => ?_)
          obtain ⟨v8, e_v8, h⟩ := of_b h
          refine lv_iinc (v := v8) hx hb d_MO_look_33 hl (k := 1) rfl (by rw [lit1]; exact Option.some.inj e_v8) (by decide) rfl (fun ls hl => ?_)
          have hl : lv_has ls 3 [(1, .int v8), (0, .ref (b + r0))] := hl
          refine lv_goto (tgt := 20) hx hb d_MO_look_36 (by decide) ?_
          exact ih1 _ _ _ _ _ _ _ h hM (lv_sub hl [1, 0] rfl)
      · intro r0 i1 i2 μ H locs ls h hM hl
        have h : B_MO_look_2 n (F_MO_look n) r0 i1 i2 μ = some res := h
        unfold B_MO_look_2 at h
        refine lv_iload_n hx hb d_MO_look_41 rfl (lv_at hl 1 rfl) ?_
        refine lv_sipush (v := 2048) hx hb d_MO_look_42 (by decide) ?_
        refine lv_icmp_ge (tgt := 61) hx hb d_MO_look_45 (by decide) (fun hc => ?_) (fun hc => ?_)
        · replace h := of_t hc h
          refine lv_iconst (v := 0) hx hb d_MO_look_61 (by decide) ?_
          refine lv_istore_n hx hb d_MO_look_62 rfl hl (by decide) rfl (fun ls hl => ?_)
          have hl : lv_has ls 3 [(1, .int 0), (0, .ref (b + r0))] := hl
          refine lv_aload_n hx hb d_MO_look_63 rfl (lv_at hl 1 rfl) ?_
          obtain ⟨g9, h⟩ := of_g h
          obtain ⟨g10, h⟩ := of_g h
          refine g_get (C := "JoinedLeavesModel") (T := T_MO) (N := 21) (ref := "JoinedLeavesModel") (v := .ref (b + (mR μ r0 16))) hx hb hts jF_MO hown hK hM g9 (by decide) rfl 16 (by decide) (hts _ jm_8_31) (fun _ h9 => h9) (by decide) (rv_of (ok_0 g10)) d_MO_look_64 ?_
          refine lv_iconst (v := 0) hx hb d_MO_look_67 (by decide) ?_
          refine lv_iconst (v := 0) hx hb d_MO_look_68 (by decide) ?_
          obtain ⟨g11, h⟩ := of_g h
          obtain ⟨μ12, e_μ12, h⟩ := of_b h
          obtain rfl := Option.some.inj e_μ12
          refine g_iast (v := 0) hx hb hK hM g10 g11 d_MO_look_69 (fun H locs hM => ?_)
          exact ih3 _ _ _ _ _ _ _ h hM (lv_sub hl [1, 0] rfl)
        · replace h := of_f hc h
          refine lv_aload_n hx hb d_MO_look_48 rfl (lv_at hl 0 rfl) ?_
          obtain ⟨g13, h⟩ := of_g h
          obtain ⟨g14, h⟩ := of_g h
          refine g_get (C := "JoinedLeavesModel") (T := T_MO) (N := 21) (ref := "JoinedLeavesModel") (v := .ref (b + (mR μ r0 18))) hx hb hts jF_MO hown hK hM g13 (by decide) rfl 18 (by decide) (hts _ jm_8_33) (fun _ h9 => h9) (by decide) (rv_of (ok_0 g14)) d_MO_look_49 ?_
          refine lv_iload_n hx hb d_MO_look_52 rfl (lv_at hl 1 rfl) ?_
          refine lv_iconst (v := 0) hx hb d_MO_look_53 (by decide) ?_
          obtain ⟨g15, h⟩ := of_g h
          obtain ⟨μ16, e_μ16, h⟩ := of_b h
          obtain rfl := Option.some.inj e_μ16
          refine g_iast (v := 0) hx hb hK hM g14 g15 d_MO_look_54 (fun H locs hM => ?_)
          obtain ⟨v17, e_v17, h⟩ := of_b h
          refine lv_iinc (v := v17) hx hb d_MO_look_55 hl (k := 1) rfl (by rw [lit1]; exact Option.some.inj e_v17) (by decide) rfl (fun ls hl => ?_)
          have hl : lv_has ls 3 [(1, .int v17), (0, .ref (b + r0))] := hl
          refine lv_goto (tgt := 41) hx hb d_MO_look_58 (by decide) ?_
          exact ih2 _ _ _ _ _ _ _ h hM (lv_sub hl [1, 0] rfl)
      · intro r0 i1 i2 μ H locs ls h hM hl
        have h : B_MO_look_3 n (F_MO_look n) r0 i1 i2 μ = some res := h
        unfold B_MO_look_3 at h
        refine lv_iload_n hx hb d_MO_look_70 rfl (lv_at hl 1 rfl) ?_
        refine lv_if_lt (tgt := 164) hx hb d_MO_look_71 (by decide) (fun hc => ?_) (fun hc => ?_)
        · replace h := of_t hc h
          refine lv_aload_n hx hb d_MO_look_164 rfl (lv_at hl 0 rfl) ?_
          refine lv_iconst (v := 0) hx hb d_MO_look_165 (by decide) ?_
          obtain ⟨g18, h⟩ := of_g h
          obtain ⟨μ19, e_μ19, h⟩ := of_b h
          obtain rfl := Option.some.inj e_μ19
          refine g_puti (v := 0) (C := "JoinedLeavesModel") (T := T_MO) (N := 21) (ref := "JoinedLeavesModel") hx hb hts jF_MO t_MO o_MO n_MO hown hK hM g18 (by decide) rfl 19 (by decide) (hts _ jm_8_34) (fun _ h9 => h9) rfl (ty := .int) (by decide +kernel) rfl rfl (by decide) (Or.inl rfl) d_MO_look_166 (fun H locs hM => ?_)
          refine lv_iconst (v := 0) hx hb d_MO_look_169 (by decide) ?_
          refine lv_istore_n hx hb d_MO_look_170 rfl hl (by decide) rfl (fun ls hl => ?_)
          have hl : lv_has ls 3 [(2, .int 0), (0, .ref (b + r0)), (1, .int i1)] := hl
          exact ih4 _ _ _ _ _ _ _ h hM (lv_sub hl [1, 0] rfl)
        · replace h := of_f hc h
          refine lv_iload_n hx hb d_MO_look_74 rfl (lv_at hl 1 rfl) ?_
          refine lv_aload_n hx hb d_MO_look_75 rfl (lv_at hl 0 rfl) ?_
          obtain ⟨g20, h⟩ := of_g h
          refine g_get (C := "JoinedLeavesModel") (T := T_MO) (N := 21) (ref := "JoinedLeavesModel") (v := .int (mI μ r0 5)) hx hb hts jF_MO hown hK hM g20 (by decide) rfl 5 (by decide) (hts _ jm_8_20) (fun _ h9 => h9) (by decide) rfl d_MO_look_76 ?_
          refine lv_icmp_ne (tgt := 93) hx hb d_MO_look_79 (by decide) (fun hc => ?_) (fun hc => ?_)
          · replace h := of_f hc h
            refine lv_aload_n hx hb d_MO_look_93 rfl (lv_at hl 0 rfl) ?_
            obtain ⟨g21, h⟩ := of_g h
            refine g_get (C := "JoinedLeavesModel") (T := T_MO) (N := 21) (ref := "JoinedLeavesModel") (v := .ref (b + (mR μ r0 16))) hx hb hts jF_MO hown hK hM g20 (by decide) rfl 16 (by decide) (hts _ jm_8_31) (fun _ h9 => h9) (by decide) (rv_of (ok_0 g21)) d_MO_look_94 ?_
            refine lv_iload_n hx hb d_MO_look_97 rfl (lv_at hl 1 rfl) ?_
            obtain ⟨g22, h⟩ := of_g h
            refine g_iald hx hb hK hM g21 g22 d_MO_look_98 ?_
            refine lv_aload_n hx hb d_MO_look_99 rfl (lv_at hl 0 rfl) ?_
            obtain ⟨g23, h⟩ := of_g h
            refine g_get (C := "JoinedLeavesModel") (T := T_MO) (N := 21) (ref := "JoinedLeavesModel") (v := .ref (b + (mR μ r0 3))) hx hb hts jF_MO hown hK hM g20 (by decide) rfl 3 (by decide) (hts _ jm_8_18) (fun _ h9 => h9) (by decide) (rv_of (ok_0 g23)) d_MO_look_100 ?_
            refine lv_aload_n hx hb d_MO_look_103 rfl (lv_at hl 0 rfl) ?_
            obtain ⟨g24, h⟩ := of_g h
            refine g_get (C := "JoinedLeavesModel") (T := T_MO) (N := 21) (ref := "JoinedLeavesModel") (v := .ref (b + (mR μ r0 6))) hx hb hts jF_MO hown hK hM g20 (by decide) rfl 6 (by decide) (hts _ jm_8_21) (fun _ h9 => h9) (by decide) (rv_of (ok_0 g24)) d_MO_look_104 ?_
            refine lv_iload_n hx hb d_MO_look_107 rfl (lv_at hl 1 rfl) ?_
            obtain ⟨g25, h⟩ := of_g h
            refine g_iald hx hb hK hM g24 g25 d_MO_look_108 ?_
            obtain ⟨g26, h⟩ := of_g h
            refine g_iald hx hb hK hM g23 g26 d_MO_look_109 ?_
            refine lv_icmp_ne (tgt := 120) hx hb d_MO_look_110 (by decide) (fun hc => ?_) (fun hc => ?_)
            · replace h := of_f hc h
              refine lv_aload_n hx hb d_MO_look_120 rfl (lv_at hl 0 rfl) ?_
              refine g_get (C := "JoinedLeavesModel") (T := T_MO) (N := 21) (ref := "JoinedLeavesModel") (v := .ref (b + (mR μ r0 16))) hx hb hts jF_MO hown hK hM g20 (by decide) rfl 16 (by decide) (hts _ jm_8_31) (fun _ h9 => h9) (by decide) (rv_of (ok_0 g21)) d_MO_look_121 ?_
              refine lv_iload_n hx hb d_MO_look_124 rfl (lv_at hl 1 rfl) ?_
              refine lv_aload_n hx hb d_MO_look_125 rfl (lv_at hl 0 rfl) ?_
              refine g_get (C := "JoinedLeavesModel") (T := T_MO) (N := 21) (ref := "JoinedLeavesModel") (v := .ref (b + (mR μ r0 16))) hx hb hts jF_MO hown hK hM g20 (by decide) rfl 16 (by decide) (hts _ jm_8_31) (fun _ h9 => h9) (by decide) (rv_of (ok_0 g21)) d_MO_look_126 ?_
              refine lv_iload_n hx hb d_MO_look_129 rfl (lv_at hl 1 rfl) ?_
              obtain ⟨g27, h⟩ := of_g h
              refine g_iald hx hb hK hM g21 g27 d_MO_look_130 ?_
              refine lv_iconst (v := 1) hx hb d_MO_look_131 (by decide) ?_
              refine lv_iadd hx hb d_MO_look_132 ?_
              obtain ⟨g28, h⟩ := of_g h
              obtain ⟨μ29, e_μ29, h⟩ := of_b h
              obtain rfl := Option.some.inj e_μ29
              refine g_iast (v := (mI μ (mR μ r0 16) (Int32.toNatClampNeg i1)) + 1) hx hb hK hM g21 g28 d_MO_look_133 (fun H locs hM => ?_)
              refine lv_aload_n hx hb d_MO_look_134 rfl (lv_at hl 0 rfl) ?_
              refine lv_iload_n hx hb d_MO_look_135 rfl (lv_at hl 1 rfl) ?_
              refine lv_aload_n hx hb d_MO_look_136 rfl (lv_at hl 0 rfl) ?_
              obtain ⟨g30, h⟩ := of_g h
              refine g_get (C := "JoinedLeavesModel") (T := T_MO) (N := 21) (ref := "JoinedLeavesModel") (v := .ref (b + (mR (sI μ (mR μ r0 16) (Int32.toNatClampNeg i1) ((mI μ (mR μ r0 16) (Int32.toNatClampNeg i1)) + 1)) r0 16))) hx hb hts jF_MO hown hK hM g20 (by decide) rfl 16 (by decide) (hts _ jm_8_31) (fun _ h9 => h9) (by decide) (rv_of (ok_0 g30)) d_MO_look_137 ?_
              refine lv_iload_n hx hb d_MO_look_140 rfl (lv_at hl 1 rfl) ?_
              obtain ⟨g31, h⟩ := of_g h
              refine g_iald hx hb hK hM g30 g31 d_MO_look_141 ?_
              refine lv_iconst (v := 1) hx hb d_MO_look_142 (by decide) ?_
              refine lv_isub hx hb d_MO_look_143 ?_
              obtain ⟨q32, hq32, h⟩ := of_b h
              refine g_calli (va_runV (As := [.int i1, .int ((mI (sI μ (mR μ r0 16) (Int32.toNatClampNeg i1) ((mI μ (mR μ r0 16) (Int32.toNatClampNeg i1)) + 1)) (mR (sI μ (mR μ r0 16) (Int32.toNatClampNeg i1) ((mI μ (mR μ r0 16) (Int32.toNatClampNeg i1)) + 1)) r0 16) (Int32.toNatClampNeg i1)) - 1)]) (rest := []) ⟨hx, hb, hml, hown, hts⟩ (S_MO_fits l D b cs r0 i1 ((mI (sI μ (mR μ r0 16) (Int32.toNatClampNeg i1) ((mI μ (mR μ r0 16) (Int32.toNatClampNeg i1)) + 1)) (mR (sI μ (mR μ r0 16) (Int32.toNatClampNeg i1) ((mI μ (mR μ r0 16) (Int32.toNatClampNeg i1)) + 1)) r0 16) (Int32.toNatClampNeg i1)) - 1) (sI μ (mR μ r0 16) (Int32.toNatClampNeg i1) ((mI μ (mR μ r0 16) (Int32.toNatClampNeg i1)) + 1)) q32 n hq32) ⟨callB_of 2 hts (goodIn_g jm_10_45) rfl rfl rfl (hts _ jm_0_7) (hts _ jm_10_43) (by decide +kernel) ⟨Nat.le_of_ble_eq_true rfl, Nat.le_of_ble_eq_true rfl⟩, (hts _ jm_10_44), (hts _ jm_12_23)⟩ (Wd.preV hK hM g20 rfl (by decide)) rfl rfl hl.1 rfl (lv_room (Nat.le_of_ble_eq_true rfl)) d_MO_look_144 ⟨Nat.le_of_ble_eq_true rfl, Nat.le_of_ble_eq_true rfl⟩) hM (fun H locs hM => ?_)
              refine lv_if_eq (tgt := 70) hx hb d_MO_look_147 (by decide) (fun hc => ?_) (fun hc => ?_)
              · replace h := of_t hc h
                exact ih3 _ _ _ _ _ _ _ h hM (lv_sub hl [0, 1] rfl)
              · replace h := of_f hc h
                refine lv_iload_n hx hb d_MO_look_150 rfl (lv_at hl 1 rfl) ?_
                refine lv_iconst (v := 1) hx hb d_MO_look_151 (by decide) ?_
                refine lv_iadd hx hb d_MO_look_152 ?_
                obtain ⟨v33, e_v33, h⟩ := of_b h
                refine top_i (Option.some.inj e_v33) ?_
                refine lv_istore_n hx hb d_MO_look_153 rfl hl (by decide) rfl (fun ls hl => ?_)
                have hl : lv_has ls 3 [(1, .int v33), (0, .ref (b + r0))] := hl
                refine lv_aload_n hx hb d_MO_look_154 rfl (lv_at hl 1 rfl) ?_
                obtain ⟨g34, h⟩ := of_g h
                obtain ⟨g35, h⟩ := of_g h
                refine g_get (C := "JoinedLeavesModel") (T := T_MO) (N := 21) (ref := "JoinedLeavesModel") (v := .ref (b + (mR q32.2 r0 16))) hx hb hts jF_MO hown hK hM g34 (by decide) rfl 16 (by decide) (hts _ jm_8_31) (fun _ h9 => h9) (by decide) (rv_of (ok_0 g35)) d_MO_look_155 ?_
                refine lv_iload_n hx hb d_MO_look_158 rfl (lv_at hl 0 rfl) ?_
                refine lv_iconst (v := 0) hx hb d_MO_look_159 (by decide) ?_
                obtain ⟨g36, h⟩ := of_g h
                obtain ⟨μ37, e_μ37, h⟩ := of_b h
                obtain rfl := Option.some.inj e_μ37
                refine g_iast (v := 0) hx hb hK hM g35 g36 d_MO_look_160 (fun H locs hM => ?_)
                refine lv_goto (tgt := 70) hx hb d_MO_look_161 (by decide) ?_
                exact ih3 _ _ _ _ _ _ _ h hM (lv_sub hl [1, 0] rfl)
            · replace h := of_t hc h
              refine lv_iload_n hx hb d_MO_look_113 rfl (lv_at hl 1 rfl) ?_
              refine lv_iconst (v := 1) hx hb d_MO_look_114 (by decide) ?_
              refine lv_isub hx hb d_MO_look_115 ?_
              obtain ⟨v38, e_v38, h⟩ := of_b h
              refine top_i (Option.some.inj e_v38) ?_
              refine lv_istore_n hx hb d_MO_look_116 rfl hl (by decide) rfl (fun ls hl => ?_)
              have hl : lv_has ls 3 [(1, .int v38), (0, .ref (b + r0))] := hl
              refine lv_goto (tgt := 70) hx hb d_MO_look_117 (by decide) ?_
              exact ih3 _ _ _ _ _ _ _ h hM (lv_sub hl [1, 0] rfl)
          · replace h := of_t hc h
            refine lv_aload_n hx hb d_MO_look_82 rfl (lv_at hl 0 rfl) ?_
            obtain ⟨q39, hq39, h⟩ := of_b h
            refine g_callv (va_runV (As := []) (rest := []) ⟨hx, hb, hml, hown, hts⟩ (S_MO_note l D b cs r0 μ q39 n hq39) ⟨callB_of 0 hts (goodIn_g jm_10_42) rfl rfl rfl (hts _ jm_0_7) (hts _ jm_10_40) (by decide +kernel) ⟨Nat.le_of_ble_eq_true rfl, Nat.le_of_ble_eq_true rfl⟩, (hts _ jm_10_41), (hts _ jm_12_22)⟩ (Wd.preV hK hM g20 rfl (by decide)) rfl rfl hl.1 rfl (lv_room (Nat.le_of_ble_eq_true rfl)) d_MO_look_83 ⟨Nat.le_of_ble_eq_true rfl, Nat.le_of_ble_eq_true rfl⟩) hM (fun H locs hM => ?_)
            refine lv_iload_n hx hb d_MO_look_86 rfl (lv_at hl 1 rfl) ?_
            refine lv_iconst (v := 1) hx hb d_MO_look_87 (by decide) ?_
            refine lv_isub hx hb d_MO_look_88 ?_
            obtain ⟨v40, e_v40, h⟩ := of_b h
            refine top_i (Option.some.inj e_v40) ?_
            refine lv_istore_n hx hb d_MO_look_89 rfl hl (by decide) rfl (fun ls hl => ?_)
            have hl : lv_has ls 3 [(1, .int v40), (0, .ref (b + r0))] := hl
            refine lv_goto (tgt := 70) hx hb d_MO_look_90 (by decide) ?_
            exact ih3 _ _ _ _ _ _ _ h hM (lv_sub hl [1, 0] rfl)
      · intro r0 i1 i2 μ H locs ls h hM hl
        have h : B_MO_look_4 n (F_MO_look n) r0 i1 i2 μ = some res := h
        unfold B_MO_look_4 at h
        refine lv_iload_n hx hb d_MO_look_171 rfl (lv_at hl 1 rfl) ?_
        refine lv_ldc hx hb hown (hts _ jm_11_1) d_MO_look_172 ?_
        refine lv_icmp_ge (tgt := 231) hx hb d_MO_look_174 (by decide) (fun hc => ?_) (fun hc => ?_)
        · replace h := of_t hc h
          exact g_vret hx hb hr hlocks hM (Option.some.inj h) d_MO_look_231
        · replace h := of_f hc h
          refine lv_aload_n hx hb d_MO_look_177 rfl (lv_at hl 0 rfl) ?_
          obtain ⟨g41, h⟩ := of_g h
          obtain ⟨g42, h⟩ := of_g h
          refine g_get (C := "JoinedLeavesModel") (T := T_MO) (N := 21) (ref := "JoinedLeavesModel") (v := .ref (b + (mR μ r0 18))) hx hb hts jF_MO hown hK hM g41 (by decide) rfl 18 (by decide) (hts _ jm_8_33) (fun _ h9 => h9) (by decide) (rv_of (ok_0 g42)) d_MO_look_178 ?_
          refine lv_iload_n hx hb d_MO_look_181 rfl (lv_at hl 1 rfl) ?_
          refine lv_iconst (v := 5) hx hb d_MO_look_182 (by decide) ?_
          refine lv_ishr hx hb d_MO_look_183 ?_
          obtain ⟨g43, h⟩ := of_g h
          refine g_iald hx hb hK hM g42 g43 d_MO_look_184 ?_
          refine lv_iload_n hx hb d_MO_look_185 rfl (lv_at hl 1 rfl) ?_
          refine lv_bipush (v := 31) hx hb d_MO_look_186 (by decide) ?_
          refine lv_iand hx hb d_MO_look_188 ?_
          refine lv_ishr hx hb d_MO_look_189 ?_
          refine lv_iconst (v := 1) hx hb d_MO_look_190 (by decide) ?_
          refine lv_iand hx hb d_MO_look_191 ?_
          refine lv_iconst (v := 1) hx hb d_MO_look_192 (by decide) ?_
          refine lv_icmp_ne (tgt := 225) hx hb d_MO_look_193 (by decide) (fun hc => ?_) (fun hc => ?_)
          · replace h := of_f hc h
            exact ih6 _ _ _ _ _ _ _ h hM (lv_sub hl [0, 1] rfl)
          · replace h := of_t hc h
            refine lv_aload_n hx hb d_MO_look_196 rfl (lv_at hl 0 rfl) ?_
            refine g_get (C := "JoinedLeavesModel") (T := T_MO) (N := 21) (ref := "JoinedLeavesModel") (v := .int (mI μ r0 19)) hx hb hts jF_MO hown hK hM g41 (by decide) rfl 19 (by decide) (hts _ jm_8_34) (fun _ h9 => h9) (by decide) rfl d_MO_look_197 ?_
            refine lv_bipush (v := 64) hx hb d_MO_look_200 (by decide) ?_
            refine lv_icmp_ge (tgt := 215) hx hb d_MO_look_202 (by decide) (fun hc => ?_) (fun hc => ?_)
            · replace h := of_t hc h
              exact ih5 _ _ _ _ _ _ _ h hM (lv_sub hl [0, 1] rfl)
            · replace h := of_f hc h
              refine lv_aload_n hx hb d_MO_look_205 rfl (lv_at hl 0 rfl) ?_
              obtain ⟨g44, h⟩ := of_g h
              refine g_get (C := "JoinedLeavesModel") (T := T_MO) (N := 21) (ref := "JoinedLeavesModel") (v := .ref (b + (mR μ r0 20))) hx hb hts jF_MO hown hK hM g41 (by decide) rfl 20 (by decide) (hts _ jm_8_35) (fun _ h9 => h9) (by decide) (rv_of (ok_0 g44)) d_MO_look_206 ?_
              refine lv_aload_n hx hb d_MO_look_209 rfl (lv_at hl 0 rfl) ?_
              refine g_get (C := "JoinedLeavesModel") (T := T_MO) (N := 21) (ref := "JoinedLeavesModel") (v := .int (mI μ r0 19)) hx hb hts jF_MO hown hK hM g41 (by decide) rfl 19 (by decide) (hts _ jm_8_34) (fun _ h9 => h9) (by decide) rfl d_MO_look_210 ?_
              refine lv_iload_n hx hb d_MO_look_213 rfl (lv_at hl 1 rfl) ?_
              obtain ⟨g45, h⟩ := of_g h
              obtain ⟨μ46, e_μ46, h⟩ := of_b h
              obtain rfl := Option.some.inj e_μ46
              refine g_iast (v := i2) hx hb hK hM g44 g45 d_MO_look_214 (fun H locs hM => ?_)
              exact ih5 _ _ _ _ _ _ _ h hM (lv_sub hl [0, 1] rfl)
      · intro r0 i1 i2 μ H locs ls h hM hl
        have h : B_MO_look_5 n (F_MO_look n) r0 i1 i2 μ = some res := h
        unfold B_MO_look_5 at h
        refine lv_aload_n hx hb d_MO_look_215 rfl (lv_at hl 0 rfl) ?_
        refine lv_aload_n hx hb d_MO_look_216 rfl (lv_at hl 0 rfl) ?_
        obtain ⟨g47, h⟩ := of_g h
        refine g_get (C := "JoinedLeavesModel") (T := T_MO) (N := 21) (ref := "JoinedLeavesModel") (v := .int (mI μ r0 19)) hx hb hts jF_MO hown hK hM g47 (by decide) rfl 19 (by decide) (hts _ jm_8_34) (fun _ h9 => h9) (by decide) rfl d_MO_look_217 ?_
        refine lv_iconst (v := 1) hx hb d_MO_look_220 (by decide) ?_
        refine lv_iadd hx hb d_MO_look_221 ?_
        obtain ⟨μ48, e_μ48, h⟩ := of_b h
        obtain rfl := Option.some.inj e_μ48
        refine g_puti (v := (mI μ r0 19) + 1) (C := "JoinedLeavesModel") (T := T_MO) (N := 21) (ref := "JoinedLeavesModel") hx hb hts jF_MO t_MO o_MO n_MO hown hK hM g47 (by decide) rfl 19 (by decide) (hts _ jm_8_34) (fun _ h9 => h9) rfl (ty := .int) (by decide +kernel) rfl rfl (by decide) (Or.inl rfl) d_MO_look_222 (fun H locs hM => ?_)
        exact ih6 _ _ _ _ _ _ _ h hM (lv_sub hl [0, 1] rfl)
      · intro r0 i1 i2 μ H locs ls h hM hl
        have h : B_MO_look_6 n (F_MO_look n) r0 i1 i2 μ = some res := h
        unfold B_MO_look_6 at h
        obtain ⟨v49, e_v49, h⟩ := of_b h
        refine lv_iinc (v := v49) hx hb d_MO_look_225 hl (k := 1) rfl (by rw [lit1]; exact Option.some.inj e_v49) (by decide) rfl (fun ls hl => ?_)
        have hl : lv_has ls 3 [(2, .int v49), (0, .ref (b + r0))] := hl
        refine lv_goto (tgt := 171) hx hb d_MO_look_228 (by decide) ?_
        exact ih4 _ _ _ _ _ _ _ h hM (lv_sub hl [1, 0] rfl)
  exact (key n).1 _ _ _ _ _ _ _ h hM hl
abbrev w_MO_ways : List Cond := .code y_MO_ways b_MO_ways 1 (Option.some Jvm.ClassFile.FieldType.long) :: jW
def B_MO_ways_0 (n : Nat) (k : Nat → Nat → Int32 → Nat → Mem → Option (Int64 × Mem)) (r0 : Nat) (x0 : Int32) (z1 : Nat) (μ : Mem) : Option (Int64 × Mem) :=
  if ok μ r0 6 = true then Option.bind (C_MO_isTree n r0 μ) (fun q2 => if q2.1 = 0 then k 1 r0 1 r0 q2.2 else k 1 r0 0 r0 q2.2) else none
def B_MO_ways_1 (n : Nat) (k : Nat → Nat → Int32 → Nat → Mem → Option (Int64 × Mem)) (r0 : Nat) (x0 : Int32) (z1 : Nat) (μ : Mem) : Option (Int64 × Mem) :=
  if ok μ z1 6 = true then Option.bind (some (sI μ z1 0 x0)) (fun μ4 => if ok μ4 r0 6 = true then if (mI μ4 r0 0) ≤ 0 then Option.bind (C_MO_look n r0 μ4) (fun q6 => if ok q6 r0 6 = true then some (mL q6 r0 14, q6) else none) else some (0, μ4) else none) else none
def F_MO_ways : Nat → Nat → Nat → Int32 → Nat → Mem → Option (Int64 × Mem)
  | 0 => fun _ _ _ _ _ => none
  | n + 1 => fun id r0 x0 z1 μ => match id with
    | 0 => B_MO_ways_0 n (F_MO_ways n) r0 x0 z1 μ
    | 1 => B_MO_ways_1 n (F_MO_ways n) r0 x0 z1 μ
    | _ => none
def C_MO_ways (n : Nat) (r0 : Nat) (μ : Mem) : Option (Int64 × Mem) := F_MO_ways n 0 r0 0 0 μ
set_option maxHeartbeats 4000000 in
set_option maxRecDepth 100000 in
theorem S_MO_ways (l : Launch) (D : va_G) (b : Nat) (cs : Nat → ClassId) (u_r0 : Nat) (ν : Mem) (res : Int64 × Mem) (n : Nat) (h : C_MO_ways n u_r0 ν = some res) : MetL l y_MO_ways w_MO_ways 4 96 b cs D ν [.ref (b + u_r0)] res := by
  refine Met.ofW (cc := b_MO_ways) (maxL := 1) (ret := (Option.some Jvm.ClassFile.FieldType.long)) (by decide) rfl ?_
  intro p e s m args below meth c s₁ B hml hv
  obtain ⟨rfl, hK, hM⟩ := Wd.start hv
  have hx := B.exec
  have hb := B.bytes
  have hr := B.returns
  have hts : ∀ w ∈ jW, w.before _ s = true := fun w hw => atoms_spec (ws := w_MO_ways) B.pre w (List.mem_cons_of_mem _ hw)
  have hown : s.vm.findClass "JoinedLeavesModel" = some m.cls := findClass_of_methodNamed B.named
  have hlocks := B.notSynchronized
  have hl := lv_entry ([.ref (b + u_r0)]) (n := 1) (Nat.le_of_ble_eq_true rfl)
  rw [lg_entry_eq]
  generalize (lg_sl ([.ref (b + u_r0)]) ++ List.replicate (1 - (lg_sl ([.ref (b + u_r0)])).length) Slot.unset).toArray = ls at hl ⊢
  have hl : lv_has ls 1 [(0, .ref (b + u_r0))] := hl
  have key : ∀ N : Nat, (∀ (r0 : Nat) (x0 : Int32) (z1 : Nat) (μ : Mem) (H : Heap) (locs : List Loc) (ls : Array Slot), F_MO_ways N 0 r0 x0 z1 μ = some res → Wd (Aw b (mN ν)) b cs D s.heap μ H locs → lv_has ls 1 [(0, .ref (b + r0))] → W p l e (headSpec w_MO_ways { frames := 4, cells := 0, slots := 0, locals := 96 }).room s m ([.ref (b + u_r0)]).toArray below meth c H locs 0 0 (MQ below (va_Ql (fun r μ' => (r, μ') = res ∧ mN μ' ≤ mN ν) (Bw b cs D) (Aw b (mN ν))) ([.ref (b + u_r0)]).toArray s 0 0 (Aw b (mN ν))) (F0 m 0 ls [])) ∧
      (∀ (r0 : Nat) (x0 : Int32) (z1 : Nat) (μ : Mem) (H : Heap) (locs : List Loc) (ls : Array Slot), F_MO_ways N 1 r0 x0 z1 μ = some res → Wd (Aw b (mN ν)) b cs D s.heap μ H locs → lv_has ls 1 [(0, .ref (b + r0))] → W p l e (headSpec w_MO_ways { frames := 4, cells := 0, slots := 0, locals := 96 }).room s m ([.ref (b + u_r0)]).toArray below meth c H locs 0 0 (MQ below (va_Ql (fun r μ' => (r, μ') = res ∧ mN μ' ≤ mN ν) (Bw b cs D) (Aw b (mN ν))) ([.ref (b + u_r0)]).toArray s 0 0 (Aw b (mN ν))) (F0 m 13 ls [.int x0, .ref (b + z1)])) := by
    intro N
    induction N with
    | zero => exact ⟨fun _ _ _ _ _ _ _ h => (nomatch h), fun _ _ _ _ _ _ _ h => (nomatch h)⟩
    | succ n ih =>
      obtain ⟨ih0, ih1⟩ := ih
      refine ⟨?_, ?_⟩
      · intro r0 x0 z1 μ H locs ls h hM hl
        have h : B_MO_ways_0 n (F_MO_ways n) r0 x0 z1 μ = some res := h
        unfold B_MO_ways_0 at h
        refine lv_aload_n hx hb d_MO_ways_0 rfl (lv_at hl 0 rfl) ?_
        refine lv_aload_n hx hb d_MO_ways_1 rfl (lv_at hl 0 rfl) ?_
        obtain ⟨g1, h⟩ := of_g h
        obtain ⟨q2, hq2, h⟩ := of_b h
        refine g_calli (va_runV (As := []) (rest := [.ref (b + r0)]) ⟨hx, hb, hml, hown, hts⟩ (S_MO_isTree l D b cs r0 μ q2 n hq2) ⟨callB_of 0 hts (goodIn_g jm_10_9) rfl rfl rfl (hts _ jm_0_7) (hts _ jm_10_7) (by decide +kernel) ⟨Nat.le_of_ble_eq_true rfl, Nat.le_of_ble_eq_true rfl⟩, (hts _ jm_10_8), (hts _ jm_12_15)⟩ (Wd.preV hK hM g1 rfl (by decide)) rfl rfl hl.1 rfl (lv_room (Nat.le_of_ble_eq_true rfl)) d_MO_ways_2 ⟨Nat.le_of_ble_eq_true rfl, Nat.le_of_ble_eq_true rfl⟩) hM (fun H locs hM => ?_)
        refine lv_if_eq (tgt := 12) hx hb d_MO_ways_5 (by decide) (fun hc => ?_) (fun hc => ?_)
        · replace h := of_t hc h
          refine lv_iconst (v := 1) hx hb d_MO_ways_12 (by decide) ?_
          exact ih1 _ _ _ _ _ _ _ h hM (lv_sub hl [0] rfl)
        · replace h := of_f hc h
          refine lv_iconst (v := 0) hx hb d_MO_ways_8 (by decide) ?_
          refine lv_goto (tgt := 13) hx hb d_MO_ways_9 (by decide) ?_
          exact ih1 _ _ _ _ _ _ _ h hM (lv_sub hl [0] rfl)
      · intro r0 x0 z1 μ H locs ls h hM hl
        have h : B_MO_ways_1 n (F_MO_ways n) r0 x0 z1 μ = some res := h
        unfold B_MO_ways_1 at h
        obtain ⟨g3, h⟩ := of_g h
        obtain ⟨μ4, e_μ4, h⟩ := of_b h
        obtain rfl := Option.some.inj e_μ4
        refine g_puti (v := x0) (C := "JoinedLeavesModel") (T := T_MO) (N := 21) (ref := "JoinedLeavesModel") hx hb hts jF_MO t_MO o_MO n_MO hown hK hM g3 (by decide) rfl 0 (by decide) (hts _ jm_8_15) (fun _ h9 => h9) rfl (ty := .int) (by decide +kernel) rfl rfl (by decide) (Or.inl rfl) d_MO_ways_13 (fun H locs hM => ?_)
        refine lv_aload_n hx hb d_MO_ways_16 rfl (lv_at hl 0 rfl) ?_
        obtain ⟨g5, h⟩ := of_g h
        refine g_get (C := "JoinedLeavesModel") (T := T_MO) (N := 21) (ref := "JoinedLeavesModel") (v := .int (mI (sI μ z1 0 x0) r0 0)) hx hb hts jF_MO hown hK hM g5 (by decide) rfl 0 (by decide) (hts _ jm_8_15) (fun _ h9 => h9) (by decide) rfl d_MO_ways_17 ?_
        refine lv_if_le (tgt := 25) hx hb d_MO_ways_20 (by decide) (fun hc => ?_) (fun hc => ?_)
        · replace h := of_t hc h
          refine lv_aload_n hx hb d_MO_ways_25 rfl (lv_at hl 0 rfl) ?_
          obtain ⟨q6, hq6, h⟩ := of_b h
          refine g_callv (va_runV (As := []) (rest := []) ⟨hx, hb, hml, hown, hts⟩ (S_MO_look l D b cs r0 (sI μ z1 0 x0) q6 n hq6) ⟨callB_of 0 hts (goodIn_g jm_10_39) rfl rfl rfl (hts _ jm_0_7) (hts _ jm_10_37) (by decide +kernel) ⟨Nat.le_of_ble_eq_true rfl, Nat.le_of_ble_eq_true rfl⟩, (hts _ jm_10_38), (hts _ jm_12_21)⟩ (Wd.preV hK hM g5 rfl (by decide)) rfl rfl hl.1 rfl (lv_room (Nat.le_of_ble_eq_true rfl)) d_MO_ways_26 ⟨Nat.le_of_ble_eq_true rfl, Nat.le_of_ble_eq_true rfl⟩) hM (fun H locs hM => ?_)
          refine lv_aload_n hx hb d_MO_ways_29 rfl (lv_at hl 0 rfl) ?_
          obtain ⟨g7, h⟩ := of_g h
          refine g_get (C := "JoinedLeavesModel") (T := T_MO) (N := 21) (ref := "JoinedLeavesModel") (v := .long (mL q6 r0 14)) hx hb hts jF_MO hown hK hM g7 (by decide) rfl 14 (by decide) (hts _ jm_8_29) (fun _ h9 => h9) (by decide) rfl d_MO_ways_30 ?_
          exact g_lret hx hb hr hlocks hM (Option.some.inj h) d_MO_ways_33
        · replace h := of_f hc h
          refine lv_lconst (v := 0) hx hb d_MO_ways_23 (by decide) ?_
          exact g_lret hx hb hr hlocks hM (Option.some.inj h) d_MO_ways_24
  exact (key n).1 _ _ _ _ _ _ _ h hM hl
abbrev w_MO_live : List Cond := .code y_MO_live b_MO_live 4 (Option.some Jvm.ClassFile.FieldType.int) :: jW
def B_MO_live_0 (n : Nat) (k : Nat → Nat → Int32 → Int32 → Int32 → Int32 → Nat → Mem → Option (Int32 × Mem)) (r0 : Nat) (i1 : Int32) (i2 : Int32) (i3 : Int32) (x0 : Int32) (z1 : Nat) (μ : Mem) : Option (Int32 × Mem) :=
  if ok μ r0 6 = true then Option.bind (C_MO_isTree n r0 μ) (fun q2 => if q2.1 = 0 then k 1 r0 i1 0 0 1 r0 q2.2 else if ok q2.2 r0 6 = true then Option.bind (C_MO_isAtom n r0 i1 q2.2) (fun q4 => if q4.1 = 0 then k 1 r0 i1 0 0 2 r0 q4.2 else k 1 r0 i1 0 0 0 r0 q4.2) else none) else none
def B_MO_live_1 (n : Nat) (k : Nat → Nat → Int32 → Int32 → Int32 → Int32 → Nat → Mem → Option (Int32 × Mem)) (r0 : Nat) (i1 : Int32) (i2 : Int32) (i3 : Int32) (x0 : Int32) (z1 : Nat) (μ : Mem) : Option (Int32 × Mem) :=
  if ok μ z1 6 = true then Option.bind (some (sI μ z1 0 x0)) (fun μ6 => if ok μ6 r0 6 = true then if (mI μ6 r0 0) ≤ 0 then Option.bind (C_MO_look n r0 μ6) (fun q8 => k 2 r0 i1 0 0 0 0 q8) else some (0, μ6) else none) else none
def B_MO_live_2 (n : Nat) (k : Nat → Nat → Int32 → Int32 → Int32 → Int32 → Nat → Mem → Option (Int32 × Mem)) (r0 : Nat) (i1 : Int32) (i2 : Int32) (i3 : Int32) (x0 : Int32) (z1 : Nat) (μ : Mem) : Option (Int32 × Mem) :=
  if 12 ≤ i3 then some (i2, μ) else if ok μ r0 6 = true then if ok μ (mR μ r0 17) 100 = true then if ib i1 (mZ μ (mR μ r0 17)) = true then Option.bind (some (i2 + (((mI μ (mR μ r0 17) (Int32.toNatClampNeg i1)) >>> (i3 &&& 31)) &&& 1))) (fun v12 => Option.bind (some (i3 + 1)) (fun v13 => k 2 r0 i1 v12 v13 0 0 μ)) else none else none else none
def F_MO_live : Nat → Nat → Nat → Int32 → Int32 → Int32 → Int32 → Nat → Mem → Option (Int32 × Mem)
  | 0 => fun _ _ _ _ _ _ _ _ => none
  | n + 1 => fun id r0 i1 i2 i3 x0 z1 μ => match id with
    | 0 => B_MO_live_0 n (F_MO_live n) r0 i1 i2 i3 x0 z1 μ
    | 1 => B_MO_live_1 n (F_MO_live n) r0 i1 i2 i3 x0 z1 μ
    | 2 => B_MO_live_2 n (F_MO_live n) r0 i1 i2 i3 x0 z1 μ
    | _ => none
def C_MO_live (n : Nat) (r0 : Nat) (i1 : Int32) (μ : Mem) : Option (Int32 × Mem) := F_MO_live n 0 r0 i1 0 0 0 0 μ
set_option maxHeartbeats 4000000 in
set_option maxRecDepth 100000 in
theorem S_MO_live (l : Launch) (D : va_G) (b : Nat) (cs : Nat → ClassId) (u_r0 : Nat) (u_i1 : Int32) (ν : Mem) (res : Int32 × Mem) (n : Nat) (h : C_MO_live n u_r0 u_i1 ν = some res) : MetI l y_MO_live w_MO_live 4 96 b cs D ν [.ref (b + u_r0), .int u_i1] res := by
  refine Met.ofW (cc := b_MO_live) (maxL := 4) (ret := (Option.some Jvm.ClassFile.FieldType.int)) (by decide) rfl ?_
  intro p e s m args below meth c s₁ B hml hv
  obtain ⟨rfl, hK, hM⟩ := Wd.start hv
  have hx := B.exec
  have hb := B.bytes
  have hr := B.returns
  have hts : ∀ w ∈ jW, w.before _ s = true := fun w hw => atoms_spec (ws := w_MO_live) B.pre w (List.mem_cons_of_mem _ hw)
  have hown : s.vm.findClass "JoinedLeavesModel" = some m.cls := findClass_of_methodNamed B.named
  have hlocks := B.notSynchronized
  have hl := lv_entry ([.ref (b + u_r0), .int u_i1]) (n := 4) (Nat.le_of_ble_eq_true rfl)
  rw [lg_entry_eq]
  generalize (lg_sl ([.ref (b + u_r0), .int u_i1]) ++ List.replicate (4 - (lg_sl ([.ref (b + u_r0), .int u_i1])).length) Slot.unset).toArray = ls at hl ⊢
  have hl : lv_has ls 4 [(0, .ref (b + u_r0)), (1, .int u_i1)] := hl
  have key : ∀ N : Nat, (∀ (r0 : Nat) (i1 : Int32) (i2 : Int32) (i3 : Int32) (x0 : Int32) (z1 : Nat) (μ : Mem) (H : Heap) (locs : List Loc) (ls : Array Slot), F_MO_live N 0 r0 i1 i2 i3 x0 z1 μ = some res → Wd (Aw b (mN ν)) b cs D s.heap μ H locs → lv_has ls 4 [(0, .ref (b + r0)), (1, .int i1)] → W p l e (headSpec w_MO_live { frames := 4, cells := 0, slots := 0, locals := 96 }).room s m ([.ref (b + u_r0), .int u_i1]).toArray below meth c H locs 0 0 (MQ below (va_Qi (fun r μ' => (r, μ') = res ∧ mN μ' ≤ mN ν) (Bw b cs D) (Aw b (mN ν))) ([.ref (b + u_r0), .int u_i1]).toArray s 0 0 (Aw b (mN ν))) (F0 m 0 ls [])) ∧
      (∀ (r0 : Nat) (i1 : Int32) (i2 : Int32) (i3 : Int32) (x0 : Int32) (z1 : Nat) (μ : Mem) (H : Heap) (locs : List Loc) (ls : Array Slot), F_MO_live N 1 r0 i1 i2 i3 x0 z1 μ = some res → Wd (Aw b (mN ν)) b cs D s.heap μ H locs → lv_has ls 4 [(0, .ref (b + r0)), (1, .int i1)] → W p l e (headSpec w_MO_live { frames := 4, cells := 0, slots := 0, locals := 96 }).room s m ([.ref (b + u_r0), .int u_i1]).toArray below meth c H locs 0 0 (MQ below (va_Qi (fun r μ' => (r, μ') = res ∧ mN μ' ≤ mN ν) (Bw b cs D) (Aw b (mN ν))) ([.ref (b + u_r0), .int u_i1]).toArray s 0 0 (Aw b (mN ν))) (F0 m 25 ls [.int x0, .ref (b + z1)])) ∧
      (∀ (r0 : Nat) (i1 : Int32) (i2 : Int32) (i3 : Int32) (x0 : Int32) (z1 : Nat) (μ : Mem) (H : Heap) (locs : List Loc) (ls : Array Slot), F_MO_live N 2 r0 i1 i2 i3 x0 z1 μ = some res → Wd (Aw b (mN ν)) b cs D s.heap μ H locs → lv_has ls 4 [(0, .ref (b + r0)), (1, .int i1), (2, .int i2), (3, .int i3)] → W p l e (headSpec w_MO_live { frames := 4, cells := 0, slots := 0, locals := 96 }).room s m ([.ref (b + u_r0), .int u_i1]).toArray below meth c H locs 0 0 (MQ below (va_Qi (fun r μ' => (r, μ') = res ∧ mN μ' ≤ mN ν) (Bw b cs D) (Aw b (mN ν))) ([.ref (b + u_r0), .int u_i1]).toArray s 0 0 (Aw b (mN ν))) (F0 m 45 ls [])) := by
    intro N
    induction N with
    | zero => exact ⟨fun _ _ _ _ _ _ _ _ _ _ h => (nomatch h), fun _ _ _ _ _ _ _ _ _ _ h => (nomatch h), fun _ _ _ _ _ _ _ _ _ _ h => (nomatch h)⟩
    | succ n ih =>
      obtain ⟨ih0, ih1, ih2⟩ := ih
      refine ⟨?_, ?_, ?_⟩
      · intro r0 i1 i2 i3 x0 z1 μ H locs ls h hM hl
        have h : B_MO_live_0 n (F_MO_live n) r0 i1 i2 i3 x0 z1 μ = some res := h
        unfold B_MO_live_0 at h
        refine lv_aload_n hx hb d_MO_live_0 rfl (lv_at hl 0 rfl) ?_
        refine lv_aload_n hx hb d_MO_live_1 rfl (lv_at hl 0 rfl) ?_
        obtain ⟨g1, h⟩ := of_g h
        obtain ⟨q2, hq2, h⟩ := of_b h
        refine g_calli (va_runV (As := []) (rest := [.ref (b + r0)]) ⟨hx, hb, hml, hown, hts⟩ (S_MO_isTree l D b cs r0 μ q2 n hq2) ⟨callB_of 0 hts (goodIn_g jm_10_9) rfl rfl rfl (hts _ jm_0_7) (hts _ jm_10_7) (by decide +kernel) ⟨Nat.le_of_ble_eq_true rfl, Nat.le_of_ble_eq_true rfl⟩, (hts _ jm_10_8), (hts _ jm_12_15)⟩ (Wd.preV hK hM g1 rfl (by decide)) rfl rfl hl.1 rfl (lv_room (Nat.le_of_ble_eq_true rfl)) d_MO_live_2 ⟨Nat.le_of_ble_eq_true rfl, Nat.le_of_ble_eq_true rfl⟩) hM (fun H locs hM => ?_)
        refine lv_if_ne (tgt := 12) hx hb d_MO_live_5 (by decide) (fun hc => ?_) (fun hc => ?_)
        · replace h := of_f hc h
          refine lv_aload_n hx hb d_MO_live_12 rfl (lv_at hl 0 rfl) ?_
          refine lv_iload_n hx hb d_MO_live_13 rfl (lv_at hl 1 rfl) ?_
          obtain ⟨g3, h⟩ := of_g h
          obtain ⟨q4, hq4, h⟩ := of_b h
          refine g_calli (va_runV (As := [.int i1]) (rest := [.ref (b + r0)]) ⟨hx, hb, hml, hown, hts⟩ (S_MO_isAtom l D b cs r0 i1 q2.2 q4 n hq4) ⟨callB_of 1 hts (goodIn_g jm_10_28) rfl rfl rfl (hts _ jm_0_7) (hts _ jm_10_26) (by decide +kernel) ⟨Nat.le_of_ble_eq_true rfl, Nat.le_of_ble_eq_true rfl⟩, (hts _ jm_10_27), (hts _ jm_12_20)⟩ (Wd.preV hK hM g3 rfl (by decide)) rfl rfl hl.1 rfl (lv_room (Nat.le_of_ble_eq_true rfl)) d_MO_live_14 ⟨Nat.le_of_ble_eq_true rfl, Nat.le_of_ble_eq_true rfl⟩) hM (fun H locs hM => ?_)
          refine lv_if_ne (tgt := 24) hx hb d_MO_live_17 (by decide) (fun hc => ?_) (fun hc => ?_)
          · replace h := of_f hc h
            refine lv_iconst (v := 0) hx hb d_MO_live_24 (by decide) ?_
            exact ih1 _ _ _ _ _ _ _ _ _ _ h hM (lv_sub hl [0, 1] rfl)
          · replace h := of_t hc h
            refine lv_iconst (v := 2) hx hb d_MO_live_20 (by decide) ?_
            refine lv_goto (tgt := 25) hx hb d_MO_live_21 (by decide) ?_
            exact ih1 _ _ _ _ _ _ _ _ _ _ h hM (lv_sub hl [0, 1] rfl)
        · replace h := of_t hc h
          refine lv_iconst (v := 1) hx hb d_MO_live_8 (by decide) ?_
          refine lv_goto (tgt := 25) hx hb d_MO_live_9 (by decide) ?_
          exact ih1 _ _ _ _ _ _ _ _ _ _ h hM (lv_sub hl [0, 1] rfl)
      · intro r0 i1 i2 i3 x0 z1 μ H locs ls h hM hl
        have h : B_MO_live_1 n (F_MO_live n) r0 i1 i2 i3 x0 z1 μ = some res := h
        unfold B_MO_live_1 at h
        obtain ⟨g5, h⟩ := of_g h
        obtain ⟨μ6, e_μ6, h⟩ := of_b h
        obtain rfl := Option.some.inj e_μ6
        refine g_puti (v := x0) (C := "JoinedLeavesModel") (T := T_MO) (N := 21) (ref := "JoinedLeavesModel") hx hb hts jF_MO t_MO o_MO n_MO hown hK hM g5 (by decide) rfl 0 (by decide) (hts _ jm_8_15) (fun _ h9 => h9) rfl (ty := .int) (by decide +kernel) rfl rfl (by decide) (Or.inl rfl) d_MO_live_25 (fun H locs hM => ?_)
        refine lv_aload_n hx hb d_MO_live_28 rfl (lv_at hl 0 rfl) ?_
        obtain ⟨g7, h⟩ := of_g h
        refine g_get (C := "JoinedLeavesModel") (T := T_MO) (N := 21) (ref := "JoinedLeavesModel") (v := .int (mI (sI μ z1 0 x0) r0 0)) hx hb hts jF_MO hown hK hM g7 (by decide) rfl 0 (by decide) (hts _ jm_8_15) (fun _ h9 => h9) (by decide) rfl d_MO_live_29 ?_
        refine lv_if_le (tgt := 37) hx hb d_MO_live_32 (by decide) (fun hc => ?_) (fun hc => ?_)
        · replace h := of_t hc h
          refine lv_aload_n hx hb d_MO_live_37 rfl (lv_at hl 0 rfl) ?_
          obtain ⟨q8, hq8, h⟩ := of_b h
          refine g_callv (va_runV (As := []) (rest := []) ⟨hx, hb, hml, hown, hts⟩ (S_MO_look l D b cs r0 (sI μ z1 0 x0) q8 n hq8) ⟨callB_of 0 hts (goodIn_g jm_10_39) rfl rfl rfl (hts _ jm_0_7) (hts _ jm_10_37) (by decide +kernel) ⟨Nat.le_of_ble_eq_true rfl, Nat.le_of_ble_eq_true rfl⟩, (hts _ jm_10_38), (hts _ jm_12_21)⟩ (Wd.preV hK hM g7 rfl (by decide)) rfl rfl hl.1 rfl (lv_room (Nat.le_of_ble_eq_true rfl)) d_MO_live_38 ⟨Nat.le_of_ble_eq_true rfl, Nat.le_of_ble_eq_true rfl⟩) hM (fun H locs hM => ?_)
          refine lv_iconst (v := 0) hx hb d_MO_live_41 (by decide) ?_
          refine lv_istore_n hx hb d_MO_live_42 rfl hl (by decide) rfl (fun ls hl => ?_)
          have hl : lv_has ls 4 [(2, .int 0), (0, .ref (b + r0)), (1, .int i1)] := hl
          refine lv_iconst (v := 0) hx hb d_MO_live_43 (by decide) ?_
          refine lv_istore_n hx hb d_MO_live_44 rfl hl (by decide) rfl (fun ls hl => ?_)
          have hl : lv_has ls 4 [(3, .int 0), (2, .int 0), (0, .ref (b + r0)), (1, .int i1)] := hl
          exact ih2 _ _ _ _ _ _ _ _ _ _ h hM (lv_sub hl [2, 3, 1, 0] rfl)
        · replace h := of_f hc h
          refine lv_iconst (v := 0) hx hb d_MO_live_35 (by decide) ?_
          exact g_iret hx hb hr hlocks hM (Option.some.inj h) d_MO_live_36
      · intro r0 i1 i2 i3 x0 z1 μ H locs ls h hM hl
        have h : B_MO_live_2 n (F_MO_live n) r0 i1 i2 i3 x0 z1 μ = some res := h
        unfold B_MO_live_2 at h
        refine lv_iload_n hx hb d_MO_live_45 rfl (lv_at hl 3 rfl) ?_
        refine lv_bipush (v := 12) hx hb d_MO_live_46 (by decide) ?_
        refine lv_icmp_ge (tgt := 70) hx hb d_MO_live_48 (by decide) (fun hc => ?_) (fun hc => ?_)
        · replace h := of_t hc h
          refine lv_iload_n hx hb d_MO_live_70 rfl (lv_at hl 2 rfl) ?_
          exact g_iret hx hb hr hlocks hM (Option.some.inj h) d_MO_live_71
        · replace h := of_f hc h
          refine lv_iload_n hx hb d_MO_live_51 rfl (lv_at hl 2 rfl) ?_
          refine lv_aload_n hx hb d_MO_live_52 rfl (lv_at hl 0 rfl) ?_
          obtain ⟨g9, h⟩ := of_g h
          obtain ⟨g10, h⟩ := of_g h
          refine g_get (C := "JoinedLeavesModel") (T := T_MO) (N := 21) (ref := "JoinedLeavesModel") (v := .ref (b + (mR μ r0 17))) hx hb hts jF_MO hown hK hM g9 (by decide) rfl 17 (by decide) (hts _ jm_8_32) (fun _ h9 => h9) (by decide) (rv_of (ok_0 g10)) d_MO_live_53 ?_
          refine lv_iload_n hx hb d_MO_live_56 rfl (lv_at hl 1 rfl) ?_
          obtain ⟨g11, h⟩ := of_g h
          refine g_iald hx hb hK hM g10 g11 d_MO_live_57 ?_
          refine lv_iload_n hx hb d_MO_live_58 rfl (lv_at hl 3 rfl) ?_
          refine lv_ishr hx hb d_MO_live_59 ?_
          refine lv_iconst (v := 1) hx hb d_MO_live_60 (by decide) ?_
          refine lv_iand hx hb d_MO_live_61 ?_
          refine lv_iadd hx hb d_MO_live_62 ?_
          obtain ⟨v12, e_v12, h⟩ := of_b h
          refine top_i (Option.some.inj e_v12) ?_
          refine lv_istore_n hx hb d_MO_live_63 rfl hl (by decide) rfl (fun ls hl => ?_)
          have hl : lv_has ls 4 [(2, .int v12), (0, .ref (b + r0)), (1, .int i1), (3, .int i3)] := hl
          obtain ⟨v13, e_v13, h⟩ := of_b h
          refine lv_iinc (v := v13) hx hb d_MO_live_64 hl (k := 3) rfl (by rw [lit1]; exact Option.some.inj e_v13) (by decide) rfl (fun ls hl => ?_)
          have hl : lv_has ls 4 [(3, .int v13), (2, .int v12), (0, .ref (b + r0)), (1, .int i1)] := hl
          refine lv_goto (tgt := 45) hx hb d_MO_live_67 (by decide) ?_
          exact ih2 _ _ _ _ _ _ _ _ _ _ h hM (lv_sub hl [2, 3, 1, 0] rfl)
  exact (key n).1 _ _ _ _ _ _ _ _ _ _ h hM hl
abbrev w_MO_isHeadBound : List Cond := .code y_MO_isHeadBound b_MO_isHeadBound 3 (Option.some Jvm.ClassFile.FieldType.boolean) :: jW
def B_MO_isHeadBound_0 (n : Nat) (k : Nat → Nat → Int32 → Int32 → Int32 → Mem → Option (Int32 × Mem)) (r0 : Nat) (i1 : Int32) (i2 : Int32) (x0 : Int32) (μ : Mem) : Option (Int32 × Mem) :=
  k 1 r0 1 0 0 μ
def B_MO_isHeadBound_1 (n : Nat) (k : Nat → Nat → Int32 → Int32 → Int32 → Mem → Option (Int32 × Mem)) (r0 : Nat) (i1 : Int32) (i2 : Int32) (x0 : Int32) (μ : Mem) : Option (Int32 × Mem) :=
  if ok μ r0 6 = true then if (mI μ r0 8) ≤ i2 then if (i1 = 0 ∨ i1 = 1) then some (i1, μ) else none else if i1 = 0 then k 2 r0 0 i2 0 μ else Option.bind (C_MO_before n r0 (mI μ r0 5) μ) (fun q2 => if ok q2.2 r0 6 = true then if ok q2.2 (mR q2.2 r0 9) 100 = true then if ib i2 (mZ q2.2 (mR q2.2 r0 9)) = true then if ((q2.1 >>> ((mI q2.2 (mR q2.2 r0 9) (Int32.toNatClampNeg i2)) &&& 31)) &&& 1) = 1 then k 3 r0 0 i2 1 q2.2 else k 2 r0 0 i2 0 q2.2 else none else none else none) else none
def B_MO_isHeadBound_2 (n : Nat) (k : Nat → Nat → Int32 → Int32 → Int32 → Mem → Option (Int32 × Mem)) (r0 : Nat) (i1 : Int32) (i2 : Int32) (x0 : Int32) (μ : Mem) : Option (Int32 × Mem) :=
  k 3 r0 0 i2 0 μ
def B_MO_isHeadBound_3 (n : Nat) (k : Nat → Nat → Int32 → Int32 → Int32 → Mem → Option (Int32 × Mem)) (r0 : Nat) (i1 : Int32) (i2 : Int32) (x0 : Int32) (μ : Mem) : Option (Int32 × Mem) :=
  Option.bind (some (i2 + 1)) (fun v6 => k 1 r0 x0 v6 0 μ)
def F_MO_isHeadBound : Nat → Nat → Nat → Int32 → Int32 → Int32 → Mem → Option (Int32 × Mem)
  | 0 => fun _ _ _ _ _ _ => none
  | n + 1 => fun id r0 i1 i2 x0 μ => match id with
    | 0 => B_MO_isHeadBound_0 n (F_MO_isHeadBound n) r0 i1 i2 x0 μ
    | 1 => B_MO_isHeadBound_1 n (F_MO_isHeadBound n) r0 i1 i2 x0 μ
    | 2 => B_MO_isHeadBound_2 n (F_MO_isHeadBound n) r0 i1 i2 x0 μ
    | 3 => B_MO_isHeadBound_3 n (F_MO_isHeadBound n) r0 i1 i2 x0 μ
    | _ => none
def C_MO_isHeadBound (n : Nat) (r0 : Nat) (μ : Mem) : Option (Int32 × Mem) := F_MO_isHeadBound n 0 r0 0 0 0 μ
set_option maxHeartbeats 4000000 in
set_option maxRecDepth 100000 in
theorem S_MO_isHeadBound (l : Launch) (D : va_G) (b : Nat) (cs : Nat → ClassId) (u_r0 : Nat) (ν : Mem) (res : Int32 × Mem) (n : Nat) (h : C_MO_isHeadBound n u_r0 ν = some res) : MetI l y_MO_isHeadBound w_MO_isHeadBound 2 46 b cs D ν [.ref (b + u_r0)] res := by
  refine Met.ofW (cc := b_MO_isHeadBound) (maxL := 3) (ret := (Option.some Jvm.ClassFile.FieldType.boolean)) (by decide) rfl ?_
  intro p e s m args below meth c s₁ B hml hv
  obtain ⟨rfl, hK, hM⟩ := Wd.start hv
  have hx := B.exec
  have hb := B.bytes
  have hr := B.returns
  have hts : ∀ w ∈ jW, w.before _ s = true := fun w hw => atoms_spec (ws := w_MO_isHeadBound) B.pre w (List.mem_cons_of_mem _ hw)
  have hown : s.vm.findClass "JoinedLeavesModel" = some m.cls := findClass_of_methodNamed B.named
  have hlocks := B.notSynchronized
  have hl := lv_entry ([.ref (b + u_r0)]) (n := 3) (Nat.le_of_ble_eq_true rfl)
  rw [lg_entry_eq]
  generalize (lg_sl ([.ref (b + u_r0)]) ++ List.replicate (3 - (lg_sl ([.ref (b + u_r0)])).length) Slot.unset).toArray = ls at hl ⊢
  have hl : lv_has ls 3 [(0, .ref (b + u_r0))] := hl
  have key : ∀ N : Nat, (∀ (r0 : Nat) (i1 : Int32) (i2 : Int32) (x0 : Int32) (μ : Mem) (H : Heap) (locs : List Loc) (ls : Array Slot), F_MO_isHeadBound N 0 r0 i1 i2 x0 μ = some res → Wd (Aw b (mN ν)) b cs D s.heap μ H locs → lv_has ls 3 [(0, .ref (b + r0))] → W p l e (headSpec w_MO_isHeadBound { frames := 2, cells := 0, slots := 0, locals := 46 }).room s m ([.ref (b + u_r0)]).toArray below meth c H locs 0 0 (MQ below (va_Qi (fun r μ' => (r, μ') = res ∧ mN μ' ≤ mN ν) (Bw b cs D) (Aw b (mN ν))) ([.ref (b + u_r0)]).toArray s 0 0 (Aw b (mN ν))) (F0 m 0 ls [])) ∧
      (∀ (r0 : Nat) (i1 : Int32) (i2 : Int32) (x0 : Int32) (μ : Mem) (H : Heap) (locs : List Loc) (ls : Array Slot), F_MO_isHeadBound N 1 r0 i1 i2 x0 μ = some res → Wd (Aw b (mN ν)) b cs D s.heap μ H locs → lv_has ls 3 [(0, .ref (b + r0)), (1, .int i1), (2, .int i2)] → W p l e (headSpec w_MO_isHeadBound { frames := 2, cells := 0, slots := 0, locals := 46 }).room s m ([.ref (b + u_r0)]).toArray below meth c H locs 0 0 (MQ below (va_Qi (fun r μ' => (r, μ') = res ∧ mN μ' ≤ mN ν) (Bw b cs D) (Aw b (mN ν))) ([.ref (b + u_r0)]).toArray s 0 0 (Aw b (mN ν))) (F0 m 4 ls [])) ∧
      (∀ (r0 : Nat) (i1 : Int32) (i2 : Int32) (x0 : Int32) (μ : Mem) (H : Heap) (locs : List Loc) (ls : Array Slot), F_MO_isHeadBound N 2 r0 i1 i2 x0 μ = some res → Wd (Aw b (mN ν)) b cs D s.heap μ H locs → lv_has ls 3 [(0, .ref (b + r0)), (2, .int i2)] → W p l e (headSpec w_MO_isHeadBound { frames := 2, cells := 0, slots := 0, locals := 46 }).room s m ([.ref (b + u_r0)]).toArray below meth c H locs 0 0 (MQ below (va_Qi (fun r μ' => (r, μ') = res ∧ mN μ' ≤ mN ν) (Bw b cs D) (Aw b (mN ν))) ([.ref (b + u_r0)]).toArray s 0 0 (Aw b (mN ν))) (F0 m 41 ls [])) ∧
      (∀ (r0 : Nat) (i1 : Int32) (i2 : Int32) (x0 : Int32) (μ : Mem) (H : Heap) (locs : List Loc) (ls : Array Slot), F_MO_isHeadBound N 3 r0 i1 i2 x0 μ = some res → Wd (Aw b (mN ν)) b cs D s.heap μ H locs → lv_has ls 3 [(0, .ref (b + r0)), (2, .int i2)] → W p l e (headSpec w_MO_isHeadBound { frames := 2, cells := 0, slots := 0, locals := 46 }).room s m ([.ref (b + u_r0)]).toArray below meth c H locs 0 0 (MQ below (va_Qi (fun r μ' => (r, μ') = res ∧ mN μ' ≤ mN ν) (Bw b cs D) (Aw b (mN ν))) ([.ref (b + u_r0)]).toArray s 0 0 (Aw b (mN ν))) (F0 m 42 ls [.int x0])) := by
    intro N
    induction N with
    | zero => exact ⟨fun _ _ _ _ _ _ _ _ h => (nomatch h), fun _ _ _ _ _ _ _ _ h => (nomatch h), fun _ _ _ _ _ _ _ _ h => (nomatch h), fun _ _ _ _ _ _ _ _ h => (nomatch h)⟩
    | succ n ih =>
      obtain ⟨ih0, ih1, ih2, ih3⟩ := ih
      refine ⟨?_, ?_, ?_, ?_⟩
      · intro r0 i1 i2 x0 μ H locs ls h hM hl
        have h : B_MO_isHeadBound_0 n (F_MO_isHeadBound n) r0 i1 i2 x0 μ = some res := h
        unfold B_MO_isHeadBound_0 at h
        refine lv_iconst (v := 1) hx hb d_MO_isHeadBound_0 (by decide) ?_
        refine lv_istore_n hx hb d_MO_isHeadBound_1 rfl hl (by decide) rfl (fun ls hl => ?_)
        have hl : lv_has ls 3 [(1, .int 1), (0, .ref (b + r0))] := hl
        refine lv_iconst (v := 0) hx hb d_MO_isHeadBound_2 (by decide) ?_
        refine lv_istore_n hx hb d_MO_isHeadBound_3 rfl hl (by decide) rfl (fun ls hl => ?_)
        have hl : lv_has ls 3 [(2, .int 0), (1, .int 1), (0, .ref (b + r0))] := hl
        exact ih1 _ _ _ _ _ _ _ _ h hM (lv_sub hl [2, 1, 0] rfl)
      · intro r0 i1 i2 x0 μ H locs ls h hM hl
        have h : B_MO_isHeadBound_1 n (F_MO_isHeadBound n) r0 i1 i2 x0 μ = some res := h
        unfold B_MO_isHeadBound_1 at h
        refine lv_iload_n hx hb d_MO_isHeadBound_4 rfl (lv_at hl 2 rfl) ?_
        refine lv_aload_n hx hb d_MO_isHeadBound_5 rfl (lv_at hl 0 rfl) ?_
        obtain ⟨g1, h⟩ := of_g h
        refine g_get (C := "JoinedLeavesModel") (T := T_MO) (N := 21) (ref := "JoinedLeavesModel") (v := .int (mI μ r0 8)) hx hb hts jF_MO hown hK hM g1 (by decide) rfl 8 (by decide) (hts _ jm_8_23) (fun _ h9 => h9) (by decide) rfl d_MO_isHeadBound_6 ?_
        refine lv_icmp_ge (tgt := 49) hx hb d_MO_isHeadBound_9 (by decide) (fun hc => ?_) (fun hc => ?_)
        · replace h := of_t hc h
          refine lv_iload_n hx hb d_MO_isHeadBound_49 rfl (lv_at hl 1 rfl) ?_
          obtain ⟨hz, h⟩ := of_g h
          exact g_zret hx hb hr (nb_01 hz) hlocks hM (Option.some.inj h) d_MO_isHeadBound_50
        · replace h := of_f hc h
          refine lv_iload_n hx hb d_MO_isHeadBound_12 rfl (lv_at hl 1 rfl) ?_
          refine lv_if_eq (tgt := 41) hx hb d_MO_isHeadBound_13 (by decide) (fun hc => ?_) (fun hc => ?_)
          · replace h := of_t hc h
            exact ih2 _ _ _ _ _ _ _ _ h hM (lv_sub hl [0, 2] rfl)
          · replace h := of_f hc h
            refine lv_aload_n hx hb d_MO_isHeadBound_16 rfl (lv_at hl 0 rfl) ?_
            refine lv_aload_n hx hb d_MO_isHeadBound_17 rfl (lv_at hl 0 rfl) ?_
            refine g_get (C := "JoinedLeavesModel") (T := T_MO) (N := 21) (ref := "JoinedLeavesModel") (v := .int (mI μ r0 5)) hx hb hts jF_MO hown hK hM g1 (by decide) rfl 5 (by decide) (hts _ jm_8_20) (fun _ h9 => h9) (by decide) rfl d_MO_isHeadBound_18 ?_
            obtain ⟨q2, hq2, h⟩ := of_b h
            refine g_calli (va_runV (As := [.int (mI μ r0 5)]) (rest := []) ⟨hx, hb, hml, hown, hts⟩ (S_MO_before l D b cs r0 (mI μ r0 5) μ q2 n hq2) ⟨callB_of 1 hts (goodIn_g jm_11_0) rfl rfl rfl (hts _ jm_0_7) (hts _ jm_10_46) (by decide +kernel) ⟨Nat.le_of_ble_eq_true rfl, Nat.le_of_ble_eq_true rfl⟩, (hts _ jm_10_47), (hts _ jm_12_24)⟩ (Wd.preV hK hM g1 rfl (by decide)) rfl rfl hl.1 rfl (lv_room (Nat.le_of_ble_eq_true rfl)) d_MO_isHeadBound_21 ⟨Nat.le_of_ble_eq_true rfl, Nat.le_of_ble_eq_true rfl⟩) hM (fun H locs hM => ?_)
            refine lv_aload_n hx hb d_MO_isHeadBound_24 rfl (lv_at hl 0 rfl) ?_
            obtain ⟨g3, h⟩ := of_g h
            obtain ⟨g4, h⟩ := of_g h
            refine g_get (C := "JoinedLeavesModel") (T := T_MO) (N := 21) (ref := "JoinedLeavesModel") (v := .ref (b + (mR q2.2 r0 9))) hx hb hts jF_MO hown hK hM g3 (by decide) rfl 9 (by decide) (hts _ jm_8_24) (fun _ h9 => h9) (by decide) (rv_of (ok_0 g4)) d_MO_isHeadBound_25 ?_
            refine lv_iload_n hx hb d_MO_isHeadBound_28 rfl (lv_at hl 2 rfl) ?_
            obtain ⟨g5, h⟩ := of_g h
            refine g_iald hx hb hK hM g4 g5 d_MO_isHeadBound_29 ?_
            refine lv_ishr hx hb d_MO_isHeadBound_30 ?_
            refine lv_iconst (v := 1) hx hb d_MO_isHeadBound_31 (by decide) ?_
            refine lv_iand hx hb d_MO_isHeadBound_32 ?_
            refine lv_iconst (v := 1) hx hb d_MO_isHeadBound_33 (by decide) ?_
            refine lv_icmp_ne (tgt := 41) hx hb d_MO_isHeadBound_34 (by decide) (fun hc => ?_) (fun hc => ?_)
            · replace h := of_f hc h
              exact ih2 _ _ _ _ _ _ _ _ h hM (lv_sub hl [0, 2] rfl)
            · replace h := of_t hc h
              refine lv_iconst (v := 1) hx hb d_MO_isHeadBound_37 (by decide) ?_
              refine lv_goto (tgt := 42) hx hb d_MO_isHeadBound_38 (by decide) ?_
              exact ih3 _ _ _ _ _ _ _ _ h hM (lv_sub hl [0, 2] rfl)
      · intro r0 i1 i2 x0 μ H locs ls h hM hl
        have h : B_MO_isHeadBound_2 n (F_MO_isHeadBound n) r0 i1 i2 x0 μ = some res := h
        unfold B_MO_isHeadBound_2 at h
        refine lv_iconst (v := 0) hx hb d_MO_isHeadBound_41 (by decide) ?_
        exact ih3 _ _ _ _ _ _ _ _ h hM (lv_sub hl [0, 1] rfl)
      · intro r0 i1 i2 x0 μ H locs ls h hM hl
        have h : B_MO_isHeadBound_3 n (F_MO_isHeadBound n) r0 i1 i2 x0 μ = some res := h
        unfold B_MO_isHeadBound_3 at h
        refine lv_istore_n hx hb d_MO_isHeadBound_42 rfl hl (by decide) rfl (fun ls hl => ?_)
        have hl : lv_has ls 3 [(1, .int x0), (0, .ref (b + r0)), (2, .int i2)] := hl
        obtain ⟨v6, e_v6, h⟩ := of_b h
        refine lv_iinc (v := v6) hx hb d_MO_isHeadBound_43 hl (k := 2) rfl (by rw [lit1]; exact Option.some.inj e_v6) (by decide) rfl (fun ls hl => ?_)
        have hl : lv_has ls 3 [(2, .int v6), (1, .int x0), (0, .ref (b + r0))] := hl
        refine lv_goto (tgt := 4) hx hb d_MO_isHeadBound_46 (by decide) ?_
        exact ih1 _ _ _ _ _ _ _ _ h hM (lv_sub hl [2, 1, 0] rfl)
  exact (key n).1 _ _ _ _ _ _ _ _ h hM hl
abbrev w_MO_codeOfAnswers : List Cond := .code y_MO_codeOfAnswers b_MO_codeOfAnswers 1 (Option.some Jvm.ClassFile.FieldType.int) :: jW
def C_MO_codeOfAnswers (n : Nat) (r0 : Nat) (μ : Mem) : Option (Int32 × Mem) :=
  if ok μ r0 6 = true then Option.bind (C_MO_isTree n r0 μ) (fun q2 => if q2.1 = 0 then some (1, q2.2) else if ok q2.2 r0 6 = true then Option.bind (C_MO_isHeadBound n r0 q2.2) (fun q4 => if q4.1 = 0 then some (2, q4.2) else if ok q4.2 r0 6 = true then Option.bind (C_MO_look n r0 q4.2) (fun q6 => if ok q6 r0 6 = true then if (mI q6 r0 19) ≤ 64 then some (0, q6) else some (3, q6) else none) else none) else none) else none
set_option maxHeartbeats 4000000 in
set_option maxRecDepth 100000 in
theorem S_MO_codeOfAnswers (l : Launch) (D : va_G) (b : Nat) (cs : Nat → ClassId) (r0 : Nat) (μ : Mem) (res : Int32 × Mem) (n : Nat) (h : C_MO_codeOfAnswers n r0 μ = some res) : MetI l y_MO_codeOfAnswers w_MO_codeOfAnswers 4 96 b cs D μ [.ref (b + r0)] res := by
  refine Met.ofW (cc := b_MO_codeOfAnswers) (maxL := 1) (ret := (Option.some Jvm.ClassFile.FieldType.int)) (by decide) rfl ?_
  intro p e s m args below meth c s₁ B hml hv
  obtain ⟨rfl, hK, hM⟩ := Wd.start hv
  have hx := B.exec
  have hb := B.bytes
  have hr := B.returns
  have hts : ∀ w ∈ jW, w.before _ s = true := fun w hw => atoms_spec (ws := w_MO_codeOfAnswers) B.pre w (List.mem_cons_of_mem _ hw)
  have hown : s.vm.findClass "JoinedLeavesModel" = some m.cls := findClass_of_methodNamed B.named
  have hlocks := B.notSynchronized
  have hl := lv_entry ([.ref (b + r0)]) (n := 1) (Nat.le_of_ble_eq_true rfl)
  rw [lg_entry_eq]
  generalize (lg_sl ([.ref (b + r0)]) ++ List.replicate (1 - (lg_sl ([.ref (b + r0)])).length) Slot.unset).toArray = ls at hl ⊢
  have hl : lv_has ls 1 [(0, .ref (b + r0))] := hl
  unfold C_MO_codeOfAnswers at h
  refine lv_aload_n hx hb d_MO_codeOfAnswers_0 rfl (lv_at hl 0 rfl) ?_
  obtain ⟨g1, h⟩ := of_g h
  obtain ⟨q2, hq2, h⟩ := of_b h
  refine g_calli (va_runV (As := []) (rest := []) ⟨hx, hb, hml, hown, hts⟩ (S_MO_isTree l D b cs r0 μ q2 n hq2) ⟨callB_of 0 hts (goodIn_g jm_10_9) rfl rfl rfl (hts _ jm_0_7) (hts _ jm_10_7) (by decide +kernel) ⟨Nat.le_of_ble_eq_true rfl, Nat.le_of_ble_eq_true rfl⟩, (hts _ jm_10_8), (hts _ jm_12_15)⟩ (Wd.preV hK hM g1 rfl (by decide)) rfl rfl hl.1 rfl (lv_room (Nat.le_of_ble_eq_true rfl)) d_MO_codeOfAnswers_1 ⟨Nat.le_of_ble_eq_true rfl, Nat.le_of_ble_eq_true rfl⟩) hM (fun H locs hM => ?_)
  refine lv_if_ne (tgt := 9) hx hb d_MO_codeOfAnswers_4 (by decide) (fun hc => ?_) (fun hc => ?_)
  · replace h := of_f hc h
    refine lv_aload_n hx hb d_MO_codeOfAnswers_9 rfl (lv_at hl 0 rfl) ?_
    obtain ⟨g3, h⟩ := of_g h
    obtain ⟨q4, hq4, h⟩ := of_b h
    refine g_calli (va_runV (As := []) (rest := []) ⟨hx, hb, hml, hown, hts⟩ (S_MO_isHeadBound l D b cs r0 q2.2 q4 n hq4) ⟨callB_of 0 hts (goodIn_g jm_11_15) rfl rfl rfl (hts _ jm_0_7) (hts _ jm_11_13) (by decide +kernel) ⟨Nat.le_of_ble_eq_true rfl, Nat.le_of_ble_eq_true rfl⟩, (hts _ jm_11_14), (hts _ jm_12_26)⟩ (Wd.preV hK hM g3 rfl (by decide)) rfl rfl hl.1 rfl (lv_room (Nat.le_of_ble_eq_true rfl)) d_MO_codeOfAnswers_10 ⟨Nat.le_of_ble_eq_true rfl, Nat.le_of_ble_eq_true rfl⟩) hM (fun H locs hM => ?_)
    refine lv_if_ne (tgt := 18) hx hb d_MO_codeOfAnswers_13 (by decide) (fun hc => ?_) (fun hc => ?_)
    · replace h := of_f hc h
      refine lv_aload_n hx hb d_MO_codeOfAnswers_18 rfl (lv_at hl 0 rfl) ?_
      obtain ⟨g5, h⟩ := of_g h
      obtain ⟨q6, hq6, h⟩ := of_b h
      refine g_callv (va_runV (As := []) (rest := []) ⟨hx, hb, hml, hown, hts⟩ (S_MO_look l D b cs r0 q4.2 q6 n hq6) ⟨callB_of 0 hts (goodIn_g jm_10_39) rfl rfl rfl (hts _ jm_0_7) (hts _ jm_10_37) (by decide +kernel) ⟨Nat.le_of_ble_eq_true rfl, Nat.le_of_ble_eq_true rfl⟩, (hts _ jm_10_38), (hts _ jm_12_21)⟩ (Wd.preV hK hM g5 rfl (by decide)) rfl rfl hl.1 rfl (lv_room (Nat.le_of_ble_eq_true rfl)) d_MO_codeOfAnswers_19 ⟨Nat.le_of_ble_eq_true rfl, Nat.le_of_ble_eq_true rfl⟩) hM (fun H locs hM => ?_)
      refine lv_aload_n hx hb d_MO_codeOfAnswers_22 rfl (lv_at hl 0 rfl) ?_
      obtain ⟨g7, h⟩ := of_g h
      refine g_get (C := "JoinedLeavesModel") (T := T_MO) (N := 21) (ref := "JoinedLeavesModel") (v := .int (mI q6 r0 19)) hx hb hts jF_MO hown hK hM g7 (by decide) rfl 19 (by decide) (hts _ jm_8_34) (fun _ h9 => h9) (by decide) rfl d_MO_codeOfAnswers_23 ?_
      refine lv_bipush (v := 64) hx hb d_MO_codeOfAnswers_26 (by decide) ?_
      refine lv_icmp_le (tgt := 35) hx hb d_MO_codeOfAnswers_28 (by decide) (fun hc => ?_) (fun hc => ?_)
      · replace h := of_t hc h
        refine lv_iconst (v := 0) hx hb d_MO_codeOfAnswers_35 (by decide) ?_
        exact g_iret hx hb hr hlocks hM (Option.some.inj h) d_MO_codeOfAnswers_36
      · replace h := of_f hc h
        refine lv_iconst (v := 3) hx hb d_MO_codeOfAnswers_31 (by decide) ?_
        refine lv_goto (tgt := 36) hx hb d_MO_codeOfAnswers_32 (by decide) ?_
        exact g_iret hx hb hr hlocks hM (Option.some.inj h) d_MO_codeOfAnswers_36
    · replace h := of_t hc h
      refine lv_iconst (v := 2) hx hb d_MO_codeOfAnswers_16 (by decide) ?_
      exact g_iret hx hb hr hlocks hM (Option.some.inj h) d_MO_codeOfAnswers_17
  · replace h := of_t hc h
    refine lv_iconst (v := 1) hx hb d_MO_codeOfAnswers_7 (by decide) ?_
    exact g_iret hx hb hr hlocks hM (Option.some.inj h) d_MO_codeOfAnswers_8
abbrev w_MO_answers : List Cond := .code y_MO_answers b_MO_answers 1 (Option.some Jvm.ClassFile.FieldType.int) :: jW
def C_MO_answers (n : Nat) (r0 : Nat) (μ : Mem) : Option (Int32 × Mem) :=
  if ok μ r0 6 = true then Option.bind (C_MO_codeOfAnswers n r0 μ) (fun q2 => if ok q2.2 r0 6 = true then Option.bind (some (sI q2.2 r0 0 q2.1)) (fun μ4 => if (mI μ4 r0 0) ≤ 0 then some (mI μ4 r0 19, μ4) else some (0, μ4)) else none) else none
set_option maxHeartbeats 4000000 in
set_option maxRecDepth 100000 in
theorem S_MO_answers (l : Launch) (D : va_G) (b : Nat) (cs : Nat → ClassId) (r0 : Nat) (μ : Mem) (res : Int32 × Mem) (n : Nat) (h : C_MO_answers n r0 μ = some res) : MetI l y_MO_answers w_MO_answers 5 116 b cs D μ [.ref (b + r0)] res := by
  refine Met.ofW (cc := b_MO_answers) (maxL := 1) (ret := (Option.some Jvm.ClassFile.FieldType.int)) (by decide) rfl ?_
  intro p e s m args below meth c s₁ B hml hv
  obtain ⟨rfl, hK, hM⟩ := Wd.start hv
  have hx := B.exec
  have hb := B.bytes
  have hr := B.returns
  have hts : ∀ w ∈ jW, w.before _ s = true := fun w hw => atoms_spec (ws := w_MO_answers) B.pre w (List.mem_cons_of_mem _ hw)
  have hown : s.vm.findClass "JoinedLeavesModel" = some m.cls := findClass_of_methodNamed B.named
  have hlocks := B.notSynchronized
  have hl := lv_entry ([.ref (b + r0)]) (n := 1) (Nat.le_of_ble_eq_true rfl)
  rw [lg_entry_eq]
  generalize (lg_sl ([.ref (b + r0)]) ++ List.replicate (1 - (lg_sl ([.ref (b + r0)])).length) Slot.unset).toArray = ls at hl ⊢
  have hl : lv_has ls 1 [(0, .ref (b + r0))] := hl
  unfold C_MO_answers at h
  refine lv_aload_n hx hb d_MO_answers_0 rfl (lv_at hl 0 rfl) ?_
  refine lv_aload_n hx hb d_MO_answers_1 rfl (lv_at hl 0 rfl) ?_
  obtain ⟨g1, h⟩ := of_g h
  obtain ⟨q2, hq2, h⟩ := of_b h
  refine g_calli (va_runV (As := []) (rest := [.ref (b + r0)]) ⟨hx, hb, hml, hown, hts⟩ (S_MO_codeOfAnswers l D b cs r0 μ q2 n hq2) ⟨callB_of 0 hts (goodIn_g jm_11_12) rfl rfl rfl (hts _ jm_0_7) (hts _ jm_11_10) (by decide +kernel) ⟨Nat.le_of_ble_eq_true rfl, Nat.le_of_ble_eq_true rfl⟩, (hts _ jm_11_11), (hts _ jm_12_25)⟩ (Wd.preV hK hM g1 rfl (by decide)) rfl rfl hl.1 rfl (lv_room (Nat.le_of_ble_eq_true rfl)) d_MO_answers_2 ⟨Nat.le_of_ble_eq_true rfl, Nat.le_of_ble_eq_true rfl⟩) hM (fun H locs hM => ?_)
  obtain ⟨g3, h⟩ := of_g h
  obtain ⟨μ4, e_μ4, h⟩ := of_b h
  obtain rfl := Option.some.inj e_μ4
  refine g_puti (v := q2.1) (C := "JoinedLeavesModel") (T := T_MO) (N := 21) (ref := "JoinedLeavesModel") hx hb hts jF_MO t_MO o_MO n_MO hown hK hM g3 (by decide) rfl 0 (by decide) (hts _ jm_8_15) (fun _ h9 => h9) rfl (ty := .int) (by decide +kernel) rfl rfl (by decide) (Or.inl rfl) d_MO_answers_5 (fun H locs hM => ?_)
  refine lv_aload_n hx hb d_MO_answers_8 rfl (lv_at hl 0 rfl) ?_
  refine g_get (C := "JoinedLeavesModel") (T := T_MO) (N := 21) (ref := "JoinedLeavesModel") (v := .int (mI (sI q2.2 r0 0 q2.1) r0 0)) hx hb hts jF_MO hown hK hM g3 (by decide) rfl 0 (by decide) (hts _ jm_8_15) (fun _ h9 => h9) (by decide) rfl d_MO_answers_9 ?_
  refine lv_if_le (tgt := 19) hx hb d_MO_answers_12 (by decide) (fun hc => ?_) (fun hc => ?_)
  · replace h := of_t hc h
    refine lv_aload_n hx hb d_MO_answers_19 rfl (lv_at hl 0 rfl) ?_
    refine g_get (C := "JoinedLeavesModel") (T := T_MO) (N := 21) (ref := "JoinedLeavesModel") (v := .int (mI (sI q2.2 r0 0 q2.1) r0 19)) hx hb hts jF_MO hown hK hM g3 (by decide) rfl 19 (by decide) (hts _ jm_8_34) (fun _ h9 => h9) (by decide) rfl d_MO_answers_20 ?_
    exact g_iret hx hb hr hlocks hM (Option.some.inj h) d_MO_answers_23
  · replace h := of_f hc h
    refine lv_iconst (v := 0) hx hb d_MO_answers_15 (by decide) ?_
    refine lv_goto (tgt := 23) hx hb d_MO_answers_16 (by decide) ?_
    exact g_iret hx hb hr hlocks hM (Option.some.inj h) d_MO_answers_23
abbrev w_MO_answer : List Cond := .code y_MO_answer b_MO_answer 3 (Option.some Jvm.ClassFile.FieldType.int) :: jW
def B_MO_answer_0 (n : Nat) (k : Nat → Nat → Int32 → Int32 → Mem → Option (Int32 × Mem)) (r0 : Nat) (i1 : Int32) (i2 : Int32) (μ : Mem) : Option (Int32 × Mem) :=
  if ok μ r0 6 = true then Option.bind (C_MO_codeOfAnswers n r0 μ) (fun q2 => if ok q2.2 r0 6 = true then Option.bind (some (sI q2.2 r0 0 q2.1)) (fun μ4 => if (mI μ4 r0 0) ≤ 0 then if i1 < 0 then k 1 r0 0 0 μ4 else if (mI μ4 r0 19) ≤ i1 then k 1 r0 0 0 μ4 else if i2 < 0 then k 1 r0 0 0 μ4 else if i2 < (mI μ4 r0 8) then if ok μ4 (mR μ4 r0 20) 100 = true then if ib i1 (mZ μ4 (mR μ4 r0 20)) = true then some (((mI μ4 (mR μ4 r0 20) (Int32.toNatClampNeg i1)) >>> ((4 * (((mI μ4 r0 8) - 1) - i2)) &&& 31)) &&& 15, μ4) else none else none else k 1 r0 0 0 μ4 else some (0, μ4)) else none) else none
def B_MO_answer_1 (n : Nat) (k : Nat → Nat → Int32 → Int32 → Mem → Option (Int32 × Mem)) (r0 : Nat) (i1 : Int32) (i2 : Int32) (μ : Mem) : Option (Int32 × Mem) :=
  if ok μ r0 6 = true then Option.bind (some (sI μ r0 0 4)) (fun μ8 => some (0, μ8)) else none
def F_MO_answer : Nat → Nat → Nat → Int32 → Int32 → Mem → Option (Int32 × Mem)
  | 0 => fun _ _ _ _ _ => none
  | n + 1 => fun id r0 i1 i2 μ => match id with
    | 0 => B_MO_answer_0 n (F_MO_answer n) r0 i1 i2 μ
    | 1 => B_MO_answer_1 n (F_MO_answer n) r0 i1 i2 μ
    | _ => none
def C_MO_answer (n : Nat) (r0 : Nat) (i1 : Int32) (i2 : Int32) (μ : Mem) : Option (Int32 × Mem) := F_MO_answer n 0 r0 i1 i2 μ
set_option maxHeartbeats 4000000 in
set_option maxRecDepth 100000 in
theorem S_MO_answer (l : Launch) (D : va_G) (b : Nat) (cs : Nat → ClassId) (u_r0 : Nat) (u_i1 : Int32) (u_i2 : Int32) (ν : Mem) (res : Int32 × Mem) (n : Nat) (h : C_MO_answer n u_r0 u_i1 u_i2 ν = some res) : MetI l y_MO_answer w_MO_answer 5 116 b cs D ν [.ref (b + u_r0), .int u_i1, .int u_i2] res := by
  refine Met.ofW (cc := b_MO_answer) (maxL := 3) (ret := (Option.some Jvm.ClassFile.FieldType.int)) (by decide) rfl ?_
  intro p e s m args below meth c s₁ B hml hv
  obtain ⟨rfl, hK, hM⟩ := Wd.start hv
  have hx := B.exec
  have hb := B.bytes
  have hr := B.returns
  have hts : ∀ w ∈ jW, w.before _ s = true := fun w hw => atoms_spec (ws := w_MO_answer) B.pre w (List.mem_cons_of_mem _ hw)
  have hown : s.vm.findClass "JoinedLeavesModel" = some m.cls := findClass_of_methodNamed B.named
  have hlocks := B.notSynchronized
  have hl := lv_entry ([.ref (b + u_r0), .int u_i1, .int u_i2]) (n := 3) (Nat.le_of_ble_eq_true rfl)
  rw [lg_entry_eq]
  generalize (lg_sl ([.ref (b + u_r0), .int u_i1, .int u_i2]) ++ List.replicate (3 - (lg_sl ([.ref (b + u_r0), .int u_i1, .int u_i2])).length) Slot.unset).toArray = ls at hl ⊢
  have hl : lv_has ls 3 [(0, .ref (b + u_r0)), (1, .int u_i1), (2, .int u_i2)] := hl
  have key : ∀ N : Nat, (∀ (r0 : Nat) (i1 : Int32) (i2 : Int32) (μ : Mem) (H : Heap) (locs : List Loc) (ls : Array Slot), F_MO_answer N 0 r0 i1 i2 μ = some res → Wd (Aw b (mN ν)) b cs D s.heap μ H locs → lv_has ls 3 [(0, .ref (b + r0)), (1, .int i1), (2, .int i2)] → W p l e (headSpec w_MO_answer { frames := 5, cells := 0, slots := 0, locals := 116 }).room s m ([.ref (b + u_r0), .int u_i1, .int u_i2]).toArray below meth c H locs 0 0 (MQ below (va_Qi (fun r μ' => (r, μ') = res ∧ mN μ' ≤ mN ν) (Bw b cs D) (Aw b (mN ν))) ([.ref (b + u_r0), .int u_i1, .int u_i2]).toArray s 0 0 (Aw b (mN ν))) (F0 m 0 ls [])) ∧
      (∀ (r0 : Nat) (i1 : Int32) (i2 : Int32) (μ : Mem) (H : Heap) (locs : List Loc) (ls : Array Slot), F_MO_answer N 1 r0 i1 i2 μ = some res → Wd (Aw b (mN ν)) b cs D s.heap μ H locs → lv_has ls 3 [(0, .ref (b + r0))] → W p l e (headSpec w_MO_answer { frames := 5, cells := 0, slots := 0, locals := 116 }).room s m ([.ref (b + u_r0), .int u_i1, .int u_i2]).toArray below meth c H locs 0 0 (MQ below (va_Qi (fun r μ' => (r, μ') = res ∧ mN μ' ≤ mN ν) (Bw b cs D) (Aw b (mN ν))) ([.ref (b + u_r0), .int u_i1, .int u_i2]).toArray s 0 0 (Aw b (mN ν))) (F0 m 41 ls [])) := by
    intro N
    induction N with
    | zero => exact ⟨fun _ _ _ _ _ _ _ h => (nomatch h), fun _ _ _ _ _ _ _ h => (nomatch h)⟩
    | succ n ih =>
      obtain ⟨ih0, ih1⟩ := ih
      refine ⟨?_, ?_⟩
      · intro r0 i1 i2 μ H locs ls h hM hl
        have h : B_MO_answer_0 n (F_MO_answer n) r0 i1 i2 μ = some res := h
        unfold B_MO_answer_0 at h
        refine lv_aload_n hx hb d_MO_answer_0 rfl (lv_at hl 0 rfl) ?_
        refine lv_aload_n hx hb d_MO_answer_1 rfl (lv_at hl 0 rfl) ?_
        obtain ⟨g1, h⟩ := of_g h
        obtain ⟨q2, hq2, h⟩ := of_b h
        refine g_calli (va_runV (As := []) (rest := [.ref (b + r0)]) ⟨hx, hb, hml, hown, hts⟩ (S_MO_codeOfAnswers l D b cs r0 μ q2 n hq2) ⟨callB_of 0 hts (goodIn_g jm_11_12) rfl rfl rfl (hts _ jm_0_7) (hts _ jm_11_10) (by decide +kernel) ⟨Nat.le_of_ble_eq_true rfl, Nat.le_of_ble_eq_true rfl⟩, (hts _ jm_11_11), (hts _ jm_12_25)⟩ (Wd.preV hK hM g1 rfl (by decide)) rfl rfl hl.1 rfl (lv_room (Nat.le_of_ble_eq_true rfl)) d_MO_answer_2 ⟨Nat.le_of_ble_eq_true rfl, Nat.le_of_ble_eq_true rfl⟩) hM (fun H locs hM => ?_)
        obtain ⟨g3, h⟩ := of_g h
        obtain ⟨μ4, e_μ4, h⟩ := of_b h
        obtain rfl := Option.some.inj e_μ4
        refine g_puti (v := q2.1) (C := "JoinedLeavesModel") (T := T_MO) (N := 21) (ref := "JoinedLeavesModel") hx hb hts jF_MO t_MO o_MO n_MO hown hK hM g3 (by decide) rfl 0 (by decide) (hts _ jm_8_15) (fun _ h9 => h9) rfl (ty := .int) (by decide +kernel) rfl rfl (by decide) (Or.inl rfl) d_MO_answer_5 (fun H locs hM => ?_)
        refine lv_aload_n hx hb d_MO_answer_8 rfl (lv_at hl 0 rfl) ?_
        refine g_get (C := "JoinedLeavesModel") (T := T_MO) (N := 21) (ref := "JoinedLeavesModel") (v := .int (mI (sI q2.2 r0 0 q2.1) r0 0)) hx hb hts jF_MO hown hK hM g3 (by decide) rfl 0 (by decide) (hts _ jm_8_15) (fun _ h9 => h9) (by decide) rfl d_MO_answer_9 ?_
        refine lv_if_le (tgt := 17) hx hb d_MO_answer_12 (by decide) (fun hc => ?_) (fun hc => ?_)
        · replace h := of_t hc h
          refine lv_iload_n hx hb d_MO_answer_17 rfl (lv_at hl 1 rfl) ?_
          refine lv_if_lt (tgt := 41) hx hb d_MO_answer_18 (by decide) (fun hc => ?_) (fun hc => ?_)
          · replace h := of_t hc h
            exact ih1 _ _ _ _ _ _ _ h hM (lv_sub hl [0] rfl)
          · replace h := of_f hc h
            refine lv_iload_n hx hb d_MO_answer_21 rfl (lv_at hl 1 rfl) ?_
            refine lv_aload_n hx hb d_MO_answer_22 rfl (lv_at hl 0 rfl) ?_
            refine g_get (C := "JoinedLeavesModel") (T := T_MO) (N := 21) (ref := "JoinedLeavesModel") (v := .int (mI (sI q2.2 r0 0 q2.1) r0 19)) hx hb hts jF_MO hown hK hM g3 (by decide) rfl 19 (by decide) (hts _ jm_8_34) (fun _ h9 => h9) (by decide) rfl d_MO_answer_23 ?_
            refine lv_icmp_ge (tgt := 41) hx hb d_MO_answer_26 (by decide) (fun hc => ?_) (fun hc => ?_)
            · replace h := of_t hc h
              exact ih1 _ _ _ _ _ _ _ h hM (lv_sub hl [0] rfl)
            · replace h := of_f hc h
              refine lv_iload_n hx hb d_MO_answer_29 rfl (lv_at hl 2 rfl) ?_
              refine lv_if_lt (tgt := 41) hx hb d_MO_answer_30 (by decide) (fun hc => ?_) (fun hc => ?_)
              · replace h := of_t hc h
                exact ih1 _ _ _ _ _ _ _ h hM (lv_sub hl [0] rfl)
              · replace h := of_f hc h
                refine lv_iload_n hx hb d_MO_answer_33 rfl (lv_at hl 2 rfl) ?_
                refine lv_aload_n hx hb d_MO_answer_34 rfl (lv_at hl 0 rfl) ?_
                refine g_get (C := "JoinedLeavesModel") (T := T_MO) (N := 21) (ref := "JoinedLeavesModel") (v := .int (mI (sI q2.2 r0 0 q2.1) r0 8)) hx hb hts jF_MO hown hK hM g3 (by decide) rfl 8 (by decide) (hts _ jm_8_23) (fun _ h9 => h9) (by decide) rfl d_MO_answer_35 ?_
                refine lv_icmp_lt (tgt := 48) hx hb d_MO_answer_38 (by decide) (fun hc => ?_) (fun hc => ?_)
                · replace h := of_t hc h
                  refine lv_aload_n hx hb d_MO_answer_48 rfl (lv_at hl 0 rfl) ?_
                  obtain ⟨g5, h⟩ := of_g h
                  refine g_get (C := "JoinedLeavesModel") (T := T_MO) (N := 21) (ref := "JoinedLeavesModel") (v := .ref (b + (mR (sI q2.2 r0 0 q2.1) r0 20))) hx hb hts jF_MO hown hK hM g3 (by decide) rfl 20 (by decide) (hts _ jm_8_35) (fun _ h9 => h9) (by decide) (rv_of (ok_0 g5)) d_MO_answer_49 ?_
                  refine lv_iload_n hx hb d_MO_answer_52 rfl (lv_at hl 1 rfl) ?_
                  obtain ⟨g6, h⟩ := of_g h
                  refine g_iald hx hb hK hM g5 g6 d_MO_answer_53 ?_
                  refine lv_iconst (v := 4) hx hb d_MO_answer_54 (by decide) ?_
                  refine lv_aload_n hx hb d_MO_answer_55 rfl (lv_at hl 0 rfl) ?_
                  refine g_get (C := "JoinedLeavesModel") (T := T_MO) (N := 21) (ref := "JoinedLeavesModel") (v := .int (mI (sI q2.2 r0 0 q2.1) r0 8)) hx hb hts jF_MO hown hK hM g3 (by decide) rfl 8 (by decide) (hts _ jm_8_23) (fun _ h9 => h9) (by decide) rfl d_MO_answer_56 ?_
                  refine lv_iconst (v := 1) hx hb d_MO_answer_59 (by decide) ?_
                  refine lv_isub hx hb d_MO_answer_60 ?_
                  refine lv_iload_n hx hb d_MO_answer_61 rfl (lv_at hl 2 rfl) ?_
                  refine lv_isub hx hb d_MO_answer_62 ?_
                  refine lv_imul hx hb d_MO_answer_63 ?_
                  refine lv_ishr hx hb d_MO_answer_64 ?_
                  refine lv_bipush (v := 15) hx hb d_MO_answer_65 (by decide) ?_
                  refine lv_iand hx hb d_MO_answer_67 ?_
                  exact g_iret hx hb hr hlocks hM (Option.some.inj h) d_MO_answer_68
                · replace h := of_f hc h
                  exact ih1 _ _ _ _ _ _ _ h hM (lv_sub hl [0] rfl)
        · replace h := of_f hc h
          refine lv_iconst (v := 0) hx hb d_MO_answer_15 (by decide) ?_
          exact g_iret hx hb hr hlocks hM (Option.some.inj h) d_MO_answer_16
      · intro r0 i1 i2 μ H locs ls h hM hl
        have h : B_MO_answer_1 n (F_MO_answer n) r0 i1 i2 μ = some res := h
        unfold B_MO_answer_1 at h
        refine lv_aload_n hx hb d_MO_answer_41 rfl (lv_at hl 0 rfl) ?_
        refine lv_iconst (v := 4) hx hb d_MO_answer_42 (by decide) ?_
        obtain ⟨g7, h⟩ := of_g h
        obtain ⟨μ8, e_μ8, h⟩ := of_b h
        obtain rfl := Option.some.inj e_μ8
        refine g_puti (v := 4) (C := "JoinedLeavesModel") (T := T_MO) (N := 21) (ref := "JoinedLeavesModel") hx hb hts jF_MO t_MO o_MO n_MO hown hK hM g7 (by decide) rfl 0 (by decide) (hts _ jm_8_15) (fun _ h9 => h9) rfl (ty := .int) (by decide +kernel) rfl rfl (by decide) (Or.inl rfl) d_MO_answer_43 (fun H locs hM => ?_)
        refine lv_iconst (v := 0) hx hb d_MO_answer_46 (by decide) ?_
        exact g_iret hx hb hr hlocks hM (Option.some.inj h) d_MO_answer_47
  exact (key n).1 _ _ _ _ _ _ _ h hM hl
