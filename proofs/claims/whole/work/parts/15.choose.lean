/-! By program (wip/whole/gen.py): for each method its function over memories, and its contract. -/
abbrev w_JO_choose : List Cond := .code y_JO_choose b_JO_choose 6 (Option.none : Option Jvm.ClassFile.FieldType) :: jW
def B_JO_choose_0 (rc : Nat → Int32 → Int32 → Mem → Option (Mem)) (n : Nat) (k : Nat → Nat → Int32 → Int32 → Int32 → Int32 → Int32 → Mem → Option (Mem)) (r0 : Nat) (i1 : Int32) (i2 : Int32) (i3 : Int32) (i4 : Int32) (i5 : Int32) (μ : Mem) : Option (Mem) :=
  if ok μ r0 4 = true then if ok μ (mR μ r0 0) 2 = true then if i1 < (mI μ (mR μ r0 0) 3) then if ok μ (mR μ (mR μ r0 0) 2) 100 = true then if ib i1 (mZ μ (mR μ (mR μ r0 0) 2)) = true then Option.bind (some (mI μ (mR μ (mR μ r0 0) 2) (Int32.toNatClampNeg i1))) (fun v5 => if ok μ (mR μ r0 3) 104 = true then if ib i1 (mZ μ (mR μ r0 3)) = true then if ok μ (mR μ (mR μ r0 3) (Int32.toNatClampNeg i1)) 100 = true then Option.bind (C_JO_liveValuesOf n r0 v5 (mR μ (mR μ r0 3) (Int32.toNatClampNeg i1)) μ) (fun q9 => k 1 r0 i1 i2 v5 q9.1 0 q9.2) else none else none else none) else none else none else Option.bind (C_JO_storeAnswer n r0 i2 μ) (fun q10 => some q10) else none else none
def B_JO_choose_1 (rc : Nat → Int32 → Int32 → Mem → Option (Mem)) (n : Nat) (k : Nat → Nat → Int32 → Int32 → Int32 → Int32 → Int32 → Mem → Option (Mem)) (r0 : Nat) (i1 : Int32) (i2 : Int32) (i3 : Int32) (i4 : Int32) (i5 : Int32) (μ : Mem) : Option (Mem) :=
  if 16 ≤ i5 then some μ else if ok μ r0 4 = true then if 64 < (mI μ r0 6) then some μ else Option.bind (C_JL_isIn n i5 i4 μ) (fun q12 => if q12.1 = 0 then k 2 r0 i1 i2 i3 i4 i5 q12.2 else if ok q12.2 r0 4 = true then Option.bind (C_JO_keepRowsWith n r0 i1 i3 i5 q12.2) (fun q14 => if ok q14 r0 4 = true then Option.bind (rc r0 (i1 + 1) ((i2 <<< (4 &&& 31)) ||| i5) q14) (fun q16 => k 2 r0 i1 i2 i3 i4 i5 q16) else none) else none) else none
def B_JO_choose_2 (rc : Nat → Int32 → Int32 → Mem → Option (Mem)) (n : Nat) (k : Nat → Nat → Int32 → Int32 → Int32 → Int32 → Int32 → Mem → Option (Mem)) (r0 : Nat) (i1 : Int32) (i2 : Int32) (i3 : Int32) (i4 : Int32) (i5 : Int32) (μ : Mem) : Option (Mem) :=
  Option.bind (some (i5 + 1)) (fun v17 => k 1 r0 i1 i2 i3 i4 v17 μ)
def F_JO_choose (rc : Nat → Int32 → Int32 → Mem → Option (Mem)) : Nat → Nat → Nat → Int32 → Int32 → Int32 → Int32 → Int32 → Mem → Option (Mem)
  | 0 => fun _ _ _ _ _ _ _ _ => none
  | n + 1 => fun id r0 i1 i2 i3 i4 i5 μ => match id with
    | 0 => B_JO_choose_0 rc n (F_JO_choose rc n) r0 i1 i2 i3 i4 i5 μ
    | 1 => B_JO_choose_1 rc n (F_JO_choose rc n) r0 i1 i2 i3 i4 i5 μ
    | 2 => B_JO_choose_2 rc n (F_JO_choose rc n) r0 i1 i2 i3 i4 i5 μ
    | _ => none
def C_JO_choose : Nat → Nat → Nat → Int32 → Int32 → Mem → Option (Mem)
  | 0 => fun _ _ _ _ _ => none
  | d + 1 => fun n r0 i1 i2 μ => F_JO_choose (fun w0 w1 w2 ν => C_JO_choose d n w0 w1 w2 ν) n 0 r0 i1 i2 0 0 0 μ
set_option maxHeartbeats 4000000 in
set_option maxRecDepth 100000 in
theorem S_JO_choose_step (l : Launch) (D : va_G) (b : Nat) (cs : Nat → ClassId) (d : Nat) (ihd : ∀ (u_r0 : Nat) (u_i1 : Int32) (u_i2 : Int32) (μ : Mem) (res : Mem) (n : Nat) (h : C_JO_choose d n u_r0 u_i1 u_i2 μ = some res), MetV l y_JO_choose w_JO_choose (4 + d) (94 + d * 25) b cs D μ [.ref (b + u_r0), .int u_i1, .int u_i2] res) : ∀ (u_r0 : Nat) (u_i1 : Int32) (u_i2 : Int32) (μ : Mem) (res : Mem) (n : Nat) (h : C_JO_choose (d + 1) n u_r0 u_i1 u_i2 μ = some res), MetV l y_JO_choose w_JO_choose (4 + (d + 1)) (94 + (d + 1) * 25) b cs D μ [.ref (b + u_r0), .int u_i1, .int u_i2] res := by
  intro u_r0 u_i1 u_i2 μ res n0 h
  refine Met.ofW (cc := b_JO_choose) (maxL := 6) (ret := (Option.none : Option Jvm.ClassFile.FieldType)) (by decide) rfl ?_
  intro p e s m args below meth c s₁ B hml hv
  obtain ⟨rfl, hK, hM⟩ := Wd.start hv
  have hx := B.exec
  have hb := B.bytes
  have hr := B.returns
  have hts : ∀ w ∈ jW, w.before _ s = true := fun w hw => atoms_spec (ws := w_JO_choose) B.pre w (List.mem_cons_of_mem _ hw)
  have hown : s.vm.findClass "JoinedLeaves$Join" = some m.cls := findClass_of_methodNamed B.named
  have hlocks := B.notSynchronized
  have hl := lv_entry ([.ref (b + u_r0), .int u_i1, .int u_i2]) (n := 6) (Nat.le_of_ble_eq_true rfl)
  rw [lg_entry_eq]
  generalize (lg_sl ([.ref (b + u_r0), .int u_i1, .int u_i2]) ++ List.replicate (6 - (lg_sl ([.ref (b + u_r0), .int u_i1, .int u_i2])).length) Slot.unset).toArray = ls at hl ⊢
  have hl : lv_has ls 6 [(0, .ref (b + u_r0)), (1, .int u_i1), (2, .int u_i2)] := hl
  have key : ∀ N : Nat, (∀ (r0 : Nat) (i1 : Int32) (i2 : Int32) (i3 : Int32) (i4 : Int32) (i5 : Int32) (μ : Mem) (H : Heap) (locs : List Loc) (ls : Array Slot), F_JO_choose (fun w0 w1 w2 ν => C_JO_choose d n0 w0 w1 w2 ν) N 0 r0 i1 i2 i3 i4 i5 μ = some res → Wd b cs D s.heap μ H locs → lv_has ls 6 [(0, .ref (b + r0)), (1, .int i1), (2, .int i2)] → W p l e (headSpec w_JO_choose { frames := 4 + (d + 1), cells := 0, slots := 0, locals := 94 + (d + 1) * 25 }).room s m ([.ref (b + u_r0), .int u_i1, .int u_i2]).toArray below meth c H locs 0 0 (MQ below (va_Qv (fun μ' => μ' = res) (Bw b cs D) (Aw b)) ([.ref (b + u_r0), .int u_i1, .int u_i2]).toArray s 0 0 (Aw b)) (F0 m 0 ls [])) ∧
      (∀ (r0 : Nat) (i1 : Int32) (i2 : Int32) (i3 : Int32) (i4 : Int32) (i5 : Int32) (μ : Mem) (H : Heap) (locs : List Loc) (ls : Array Slot), F_JO_choose (fun w0 w1 w2 ν => C_JO_choose d n0 w0 w1 w2 ν) N 1 r0 i1 i2 i3 i4 i5 μ = some res → Wd b cs D s.heap μ H locs → lv_has ls 6 [(0, .ref (b + r0)), (1, .int i1), (2, .int i2), (3, .int i3), (4, .int i4), (5, .int i5)] → W p l e (headSpec w_JO_choose { frames := 4 + (d + 1), cells := 0, slots := 0, locals := 94 + (d + 1) * 25 }).room s m ([.ref (b + u_r0), .int u_i1, .int u_i2]).toArray below meth c H locs 0 0 (MQ below (va_Qv (fun μ' => μ' = res) (Bw b cs D) (Aw b)) ([.ref (b + u_r0), .int u_i1, .int u_i2]).toArray s 0 0 (Aw b)) (F0 m 43 ls [])) ∧
      (∀ (r0 : Nat) (i1 : Int32) (i2 : Int32) (i3 : Int32) (i4 : Int32) (i5 : Int32) (μ : Mem) (H : Heap) (locs : List Loc) (ls : Array Slot), F_JO_choose (fun w0 w1 w2 ν => C_JO_choose d n0 w0 w1 w2 ν) N 2 r0 i1 i2 i3 i4 i5 μ = some res → Wd b cs D s.heap μ H locs → lv_has ls 6 [(0, .ref (b + r0)), (1, .int i1), (2, .int i2), (3, .int i3), (4, .int i4), (5, .int i5)] → W p l e (headSpec w_JO_choose { frames := 4 + (d + 1), cells := 0, slots := 0, locals := 94 + (d + 1) * 25 }).room s m ([.ref (b + u_r0), .int u_i1, .int u_i2]).toArray below meth c H locs 0 0 (MQ below (va_Qv (fun μ' => μ' = res) (Bw b cs D) (Aw b)) ([.ref (b + u_r0), .int u_i1, .int u_i2]).toArray s 0 0 (Aw b)) (F0 m 90 ls [])) := by
    intro N
    induction N with
    | zero => exact ⟨fun _ _ _ _ _ _ _ _ _ _ h => (nomatch h), fun _ _ _ _ _ _ _ _ _ _ h => (nomatch h), fun _ _ _ _ _ _ _ _ _ _ h => (nomatch h)⟩
    | succ n ih =>
      obtain ⟨ih0, ih1, ih2⟩ := ih
      refine ⟨?_, ?_, ?_⟩
      · intro r0 i1 i2 i3 i4 i5 μ H locs ls h hM hl
        have h : B_JO_choose_0 (fun w0 w1 w2 ν => C_JO_choose d n0 w0 w1 w2 ν) n (F_JO_choose (fun w0 w1 w2 ν => C_JO_choose d n0 w0 w1 w2 ν) n) r0 i1 i2 i3 i4 i5 μ = some res := h
        unfold B_JO_choose_0 at h
        refine lv_iload_n hx hb d_JO_choose_0 rfl (lv_at hl 1 rfl) ?_
        refine lv_aload_n hx hb d_JO_choose_1 rfl (lv_at hl 0 rfl) ?_
        obtain ⟨g1, h⟩ := of_g h
        obtain ⟨g2, h⟩ := of_g h
        refine g_get (C := "JoinedLeaves$Join") (T := T_JO) (N := 7) (ref := "JoinedLeaves$Join") (v := .ref (b + (mR μ r0 0))) hx hb hts jF_JO hown hK hM g1 (by decide) rfl 0 (by decide) (hts _ jm_1_42) (fun _ h9 => h9) (by decide) (rv_of (ok_0 g2)) d_JO_choose_2 ?_
        refine g_getN (C := "JoinedLeaves$Question") (T := T_QU) (N := 5) (ref := "JoinedLeaves$Question") (v := .int (mI μ (mR μ r0 0) 3)) hx hb hts jF_QU hown hK hM g2 (by decide) rfl 3 (by decide) (hK.nest _ jn_17 rfl) (fun _ h9 => h9) (by decide) rfl d_JO_choose_5 ?_
        refine lv_icmp_lt (tgt := 17) hx hb d_JO_choose_8 (by decide) (fun hc => ?_) (fun hc => ?_)
        · replace h := of_t hc h
          refine lv_aload_n hx hb d_JO_choose_17 rfl (lv_at hl 0 rfl) ?_
          refine g_get (C := "JoinedLeaves$Join") (T := T_JO) (N := 7) (ref := "JoinedLeaves$Join") (v := .ref (b + (mR μ r0 0))) hx hb hts jF_JO hown hK hM g1 (by decide) rfl 0 (by decide) (hts _ jm_1_42) (fun _ h9 => h9) (by decide) (rv_of (ok_0 g2)) d_JO_choose_18 ?_
          obtain ⟨g3, h⟩ := of_g h
          refine g_getN (C := "JoinedLeaves$Question") (T := T_QU) (N := 5) (ref := "JoinedLeaves$Question") (v := .ref (b + (mR μ (mR μ r0 0) 2))) hx hb hts jF_QU hown hK hM g2 (by decide) rfl 2 (by decide) (hK.nest _ jn_16 rfl) (fun _ h9 => h9) (by decide) (rv_of (ok_0 g3)) d_JO_choose_21 ?_
          refine lv_iload_n hx hb d_JO_choose_24 rfl (lv_at hl 1 rfl) ?_
          obtain ⟨g4, h⟩ := of_g h
          refine g_iald hx hb hK hM g3 g4 d_JO_choose_25 ?_
          obtain ⟨v5, e_v5, h⟩ := of_b h
          refine top_i (Option.some.inj e_v5) ?_
          refine lv_istore_n hx hb d_JO_choose_26 rfl hl (by decide) rfl (fun ls hl => ?_)
          have hl : lv_has ls 6 [(3, .int v5), (0, .ref (b + r0)), (1, .int i1), (2, .int i2)] := hl
          refine lv_aload_n hx hb d_JO_choose_27 rfl (lv_at hl 1 rfl) ?_
          refine lv_iload_n hx hb d_JO_choose_28 rfl (lv_at hl 0 rfl) ?_
          refine lv_aload_n hx hb d_JO_choose_29 rfl (lv_at hl 1 rfl) ?_
          obtain ⟨g6, h⟩ := of_g h
          refine g_get (C := "JoinedLeaves$Join") (T := T_JO) (N := 7) (ref := "JoinedLeaves$Join") (v := .ref (b + (mR μ r0 3))) hx hb hts jF_JO hown hK hM g1 (by decide) rfl 3 (by decide) (hts _ jm_1_45) (fun _ h9 => h9) (by decide) (rv_of (ok_0 g6)) d_JO_choose_30 ?_
          refine lv_iload_n hx hb d_JO_choose_33 rfl (lv_at hl 2 rfl) ?_
          obtain ⟨g7, h⟩ := of_g h
          obtain ⟨g8, h⟩ := of_g h
          refine g_aald (ty := (.array .int)) hx hb hK hM 2 rfl rfl g6 g7 (ok_0 g8) d_JO_choose_34 ?_
          obtain ⟨q9, hq9, h⟩ := of_b h
          refine g_calli (va_runV (As := [.int v5, .ref (b + (mR μ (mR μ r0 3) (Int32.toNatClampNeg i1)))]) (rest := []) ⟨hx, hb, hml, hown, hts⟩ (S_JO_liveValuesOf l D b cs r0 v5 (mR μ (mR μ r0 3) (Int32.toNatClampNeg i1)) μ q9 n hq9) ⟨callB_of 2 hts (goodIn_g jm_7_21) rfl rfl rfl (hts _ jm_0_6) (hts _ jm_7_19) (by decide +kernel) ⟨Nat.le_trans (m := 4) (Nat.le_of_ble_eq_true rfl) (Nat.le_add_right _ _), Nat.le_trans (m := 94) (Nat.le_of_ble_eq_true rfl) (Nat.le_add_right _ _)⟩, (hts _ jm_7_20), (hts _ jm_12_2)⟩ (Wd.preV hK hM g1 rfl (by decide)) rfl rfl hl.1 rfl (lv_room (Nat.le_of_ble_eq_true rfl)) d_JO_choose_35 ⟨Nat.le_of_ble_eq_true rfl, Nat.le_of_ble_eq_true rfl⟩) hM (fun H locs hM => ?_)
          refine lv_istore hx hb d_JO_choose_38 hl (by decide) rfl (fun ls hl => ?_)
          have hl : lv_has ls 6 [(4, .int q9.1), (3, .int v5), (0, .ref (b + r0)), (1, .int i1), (2, .int i2)] := hl
          refine lv_iconst (v := 0) hx hb d_JO_choose_40 (by decide) ?_
          refine lv_istore hx hb d_JO_choose_41 hl (by decide) rfl (fun ls hl => ?_)
          have hl : lv_has ls 6 [(5, .int 0), (4, .int q9.1), (3, .int v5), (0, .ref (b + r0)), (1, .int i1), (2, .int i2)] := hl
          exact ih1 _ _ _ _ _ _ _ _ _ _ h hM (lv_sub hl [3, 4, 5, 2, 1, 0] rfl)
        · replace h := of_f hc h
          refine lv_aload_n hx hb d_JO_choose_11 rfl (lv_at hl 0 rfl) ?_
          refine lv_iload_n hx hb d_JO_choose_12 rfl (lv_at hl 2 rfl) ?_
          obtain ⟨q10, hq10, h⟩ := of_b h
          refine g_callv (va_runV (As := [.int i2]) (rest := []) ⟨hx, hb, hml, hown, hts⟩ (S_JO_storeAnswer l D b cs r0 i2 μ q10 n hq10) ⟨callB_of 1 hts (goodIn_g jm_7_18) rfl rfl rfl (hts _ jm_0_6) (hts _ jm_7_16) (by decide +kernel) ⟨Nat.le_trans (m := 4) (Nat.le_of_ble_eq_true rfl) (Nat.le_add_right _ _), Nat.le_trans (m := 94) (Nat.le_of_ble_eq_true rfl) (Nat.le_add_right _ _)⟩, (hts _ jm_7_17), (hts _ jm_12_1)⟩ (Wd.preV hK hM g1 rfl (by decide)) rfl rfl hl.1 rfl (lv_room (Nat.le_of_ble_eq_true rfl)) d_JO_choose_13 ⟨Nat.le_of_ble_eq_true rfl, Nat.le_of_ble_eq_true rfl⟩) hM (fun H locs hM => ?_)
          exact g_vret hx hb hr hlocks hM (Option.some.inj h) d_JO_choose_16
      · intro r0 i1 i2 i3 i4 i5 μ H locs ls h hM hl
        have h : B_JO_choose_1 (fun w0 w1 w2 ν => C_JO_choose d n0 w0 w1 w2 ν) n (F_JO_choose (fun w0 w1 w2 ν => C_JO_choose d n0 w0 w1 w2 ν) n) r0 i1 i2 i3 i4 i5 μ = some res := h
        unfold B_JO_choose_1 at h
        refine lv_iload hx hb d_JO_choose_43 (lv_at hl 5 rfl) ?_
        refine lv_bipush (v := 16) hx hb d_JO_choose_45 (by decide) ?_
        refine lv_icmp_ge (tgt := 96) hx hb d_JO_choose_47 (by decide) (fun hc => ?_) (fun hc => ?_)
        · replace h := of_t hc h
          exact g_vret hx hb hr hlocks hM (Option.some.inj h) d_JO_choose_96
        · replace h := of_f hc h
          refine lv_aload_n hx hb d_JO_choose_50 rfl (lv_at hl 0 rfl) ?_
          obtain ⟨g11, h⟩ := of_g h
          refine g_get (C := "JoinedLeaves$Join") (T := T_JO) (N := 7) (ref := "JoinedLeaves$Join") (v := .int (mI μ r0 6)) hx hb hts jF_JO hown hK hM g11 (by decide) rfl 6 (by decide) (hts _ jm_2_0) (fun _ h9 => h9) (by decide) rfl d_JO_choose_51 ?_
          refine lv_bipush (v := 64) hx hb d_JO_choose_54 (by decide) ?_
          refine lv_icmp_gt (tgt := 96) hx hb d_JO_choose_56 (by decide) (fun hc => ?_) (fun hc => ?_)
          · replace h := of_t hc h
            exact g_vret hx hb hr hlocks hM (Option.some.inj h) d_JO_choose_96
          · replace h := of_f hc h
            refine lv_iload hx hb d_JO_choose_59 (lv_at hl 5 rfl) ?_
            refine lv_iload hx hb d_JO_choose_61 (lv_at hl 4 rfl) ?_
            obtain ⟨q12, hq12, h⟩ := of_b h
            refine g_calli (va_runSN (As := [.int i5, .int i4]) (rest := []) ⟨hx, hb, hml, hown, hts⟩ (S_JL_isIn l D b cs i5 i4 μ q12 n hq12) ⟨va_cnB 2 hts (goodIn_g jm_3_19) rfl rfl rfl (hK.2.1 _ jn_45) (hts _ jm_0_1) (by decide +kernel) ⟨Nat.le_trans (m := 4) (Nat.le_of_ble_eq_true rfl) (Nat.le_add_right _ _), Nat.le_trans (m := 94) (Nat.le_of_ble_eq_true rfl) (Nat.le_add_right _ _)⟩, (hts _ jm_3_18), trivial⟩ (Wd.preS hK hM) rfl rfl hl.1 rfl (lv_room (Nat.le_of_ble_eq_true rfl)) d_JO_choose_63 ⟨Nat.le_of_ble_eq_true rfl, Nat.le_of_ble_eq_true rfl⟩) hM (fun H locs hM => ?_)
            refine lv_if_eq (tgt := 90) hx hb d_JO_choose_66 (by decide) (fun hc => ?_) (fun hc => ?_)
            · replace h := of_t hc h
              exact ih2 _ _ _ _ _ _ _ _ _ _ h hM (lv_sub hl [0, 1, 2, 3, 4, 5] rfl)
            · replace h := of_f hc h
              refine lv_aload_n hx hb d_JO_choose_69 rfl (lv_at hl 0 rfl) ?_
              refine lv_iload_n hx hb d_JO_choose_70 rfl (lv_at hl 1 rfl) ?_
              refine lv_iload_n hx hb d_JO_choose_71 rfl (lv_at hl 3 rfl) ?_
              refine lv_iload hx hb d_JO_choose_72 (lv_at hl 5 rfl) ?_
              obtain ⟨g13, h⟩ := of_g h
              obtain ⟨q14, hq14, h⟩ := of_b h
              refine g_callv (va_runV (As := [.int i1, .int i3, .int i5]) (rest := []) ⟨hx, hb, hml, hown, hts⟩ (S_JO_keepRowsWith l D b cs r0 i1 i3 i5 q12.2 q14 n hq14) ⟨callB_of 3 hts (goodIn_g jm_7_28) rfl rfl rfl (hts _ jm_0_6) (hts _ jm_7_26) (by decide +kernel) ⟨Nat.le_trans (m := 4) (Nat.le_of_ble_eq_true rfl) (Nat.le_add_right _ _), Nat.le_trans (m := 94) (Nat.le_of_ble_eq_true rfl) (Nat.le_add_right _ _)⟩, (hts _ jm_7_27), (hts _ jm_12_5)⟩ (Wd.preV hK hM g13 rfl (by decide)) rfl rfl hl.1 rfl (lv_room (Nat.le_of_ble_eq_true rfl)) d_JO_choose_74 ⟨Nat.le_of_ble_eq_true rfl, Nat.le_of_ble_eq_true rfl⟩) hM (fun H locs hM => ?_)
              refine lv_aload_n hx hb d_JO_choose_77 rfl (lv_at hl 0 rfl) ?_
              refine lv_iload_n hx hb d_JO_choose_78 rfl (lv_at hl 1 rfl) ?_
              refine lv_iconst (v := 1) hx hb d_JO_choose_79 (by decide) ?_
              refine lv_iadd hx hb d_JO_choose_80 ?_
              refine lv_iload_n hx hb d_JO_choose_81 rfl (lv_at hl 2 rfl) ?_
              refine lv_iconst (v := 4) hx hb d_JO_choose_82 (by decide) ?_
              refine lv_ishl hx hb d_JO_choose_83 ?_
              refine lv_iload hx hb d_JO_choose_84 (lv_at hl 5 rfl) ?_
              refine lv_ior hx hb d_JO_choose_86 ?_
              obtain ⟨g15, h⟩ := of_g h
              obtain ⟨q16, hq16, h⟩ := of_b h
              refine g_callv (va_runV (As := [.int (i1 + 1), .int ((i2 <<< (4 &&& 31)) ||| i5)]) (rest := []) ⟨hx, hb, hml, hown, hts⟩ (ihd r0 (i1 + 1) ((i2 <<< (4 &&& 31)) ||| i5) q14 q16 n0 hq16) ⟨callB_of 2 hts (goodIn_g jm_7_15) rfl rfl rfl (hts _ jm_0_6) (hts _ jm_7_13) (by decide +kernel) ⟨Nat.le_refl _, by show 8 + (6 + 11) + (94 + d * 25) ≤ 94 + (d + 1) * 25; omega⟩, (hts _ jm_7_14), (hts _ jm_12_0)⟩ (Wd.preV hK hM g15 rfl (by decide)) rfl rfl hl.1 rfl (lv_room (Nat.le_of_ble_eq_true rfl)) d_JO_choose_87 ⟨Nat.le_of_ble_eq_true rfl, Nat.le_of_ble_eq_true rfl⟩) hM (fun H locs hM => ?_)
              exact ih2 _ _ _ _ _ _ _ _ _ _ h hM (lv_sub hl [0, 1, 2, 3, 4, 5] rfl)
      · intro r0 i1 i2 i3 i4 i5 μ H locs ls h hM hl
        have h : B_JO_choose_2 (fun w0 w1 w2 ν => C_JO_choose d n0 w0 w1 w2 ν) n (F_JO_choose (fun w0 w1 w2 ν => C_JO_choose d n0 w0 w1 w2 ν) n) r0 i1 i2 i3 i4 i5 μ = some res := h
        unfold B_JO_choose_2 at h
        obtain ⟨v17, e_v17, h⟩ := of_b h
        refine lv_iinc (v := v17) hx hb d_JO_choose_90 hl (k := 5) rfl (by rw [lit1]; exact Option.some.inj e_v17) (by decide) rfl (fun ls hl => ?_)
        have hl : lv_has ls 6 [(5, .int v17), (0, .ref (b + r0)), (1, .int i1), (2, .int i2), (3, .int i3), (4, .int i4)] := hl
        refine lv_goto (tgt := 43) hx hb d_JO_choose_93 (by decide) ?_
        exact ih1 _ _ _ _ _ _ _ _ _ _ h hM (lv_sub hl [1, 2, 3, 4, 5, 0] rfl)
  exact (key n0).1 _ _ _ _ _ _ _ _ _ _ h hM hl
theorem S_JO_choose (l : Launch) (D : va_G) (b : Nat) (cs : Nat → ClassId) : ∀ d : Nat, ∀ (u_r0 : Nat) (u_i1 : Int32) (u_i2 : Int32) (μ : Mem) (res : Mem) (n : Nat) (h : C_JO_choose d n u_r0 u_i1 u_i2 μ = some res), MetV l y_JO_choose w_JO_choose (4 + d) (94 + d * 25) b cs D μ [.ref (b + u_r0), .int u_i1, .int u_i2] res := by
  intro d
  induction d with
  | zero => intro _ _ _ μ res n h; exact (nomatch h)
  | succ d ihd => exact S_JO_choose_step l D b cs d ihd
abbrev w_JO_search : List Cond := .code y_JO_search b_JO_search 1 (Option.none : Option Jvm.ClassFile.FieldType) :: jW
def C_JO_search (n : Nat) (r0 : Nat) (μ : Mem) : Option (Mem) :=
  if ok μ r0 4 = true then Option.bind (some (sI μ r0 6 0)) (fun μ2 => Option.bind (C_JO_compareRows n r0 μ2) (fun q3 => if ok q3 r0 4 = true then if ok q3 (mR q3 r0 3) 104 = true then if ib 0 (mZ q3 (mR q3 r0 3)) = true then if ok q3 (mR q3 (mR q3 r0 3) (Int32.toNatClampNeg 0)) 100 = true then Option.bind (C_JO_keepLiveRows n r0 (mR q3 (mR q3 r0 3) (Int32.toNatClampNeg 0)) q3) (fun q8 => if ok q8 r0 4 = true then if ok q8 (mR q8 r0 3) 104 = true then if ib 0 (mZ q8 (mR q8 r0 3)) = true then if ok q8 (mR q8 (mR q8 r0 3) (Int32.toNatClampNeg 0)) 100 = true then Option.bind (C_JO_hasWay n r0 (mR q8 (mR q8 r0 3) (Int32.toNatClampNeg 0)) q8) (fun q13 => if q13.1 = 0 then some q13.2 else if ok q13.2 r0 4 = true then Option.bind (C_JO_choose 6 n r0 0 0 q13.2) (fun q15 => some q15) else none) else none else none else none else none) else none else none else none else none)) else none
set_option maxHeartbeats 4000000 in
set_option maxRecDepth 100000 in
theorem S_JO_search (l : Launch) (D : va_G) (b : Nat) (cs : Nat → ClassId) (r0 : Nat) (μ : Mem) (res : Mem) (n : Nat) (h : C_JO_search n r0 μ = some res) : MetV l y_JO_search w_JO_search 11 269 b cs D μ [.ref (b + r0)] res := by
  refine Met.ofW (cc := b_JO_search) (maxL := 1) (ret := (Option.none : Option Jvm.ClassFile.FieldType)) (by decide) rfl ?_
  intro p e s m args below meth c s₁ B hml hv
  obtain ⟨rfl, hK, hM⟩ := Wd.start hv
  have hx := B.exec
  have hb := B.bytes
  have hr := B.returns
  have hts : ∀ w ∈ jW, w.before _ s = true := fun w hw => atoms_spec (ws := w_JO_search) B.pre w (List.mem_cons_of_mem _ hw)
  have hown : s.vm.findClass "JoinedLeaves$Join" = some m.cls := findClass_of_methodNamed B.named
  have hlocks := B.notSynchronized
  have hl := lv_entry ([.ref (b + r0)]) (n := 1) (Nat.le_of_ble_eq_true rfl)
  rw [lg_entry_eq]
  generalize (lg_sl ([.ref (b + r0)]) ++ List.replicate (1 - (lg_sl ([.ref (b + r0)])).length) Slot.unset).toArray = ls at hl ⊢
  have hl : lv_has ls 1 [(0, .ref (b + r0))] := hl
  unfold C_JO_search at h
  refine lv_aload_n hx hb d_JO_search_0 rfl (lv_at hl 0 rfl) ?_
  refine lv_iconst (v := 0) hx hb d_JO_search_1 (by decide) ?_
  obtain ⟨g1, h⟩ := of_g h
  obtain ⟨μ2, e_μ2, h⟩ := of_b h
  obtain rfl := Option.some.inj e_μ2
  refine g_puti (v := 0) (C := "JoinedLeaves$Join") (T := T_JO) (N := 7) (ref := "JoinedLeaves$Join") hx hb hts jF_JO t_JO o_JO n_JO hown hK hM g1 (by decide) rfl 6 (by decide) (hts _ jm_2_0) (fun _ h9 => h9) rfl (ty := .int) (by decide +kernel) rfl rfl (by decide) (Or.inl rfl) d_JO_search_2 (fun H locs hM => ?_)
  refine lv_aload_n hx hb d_JO_search_5 rfl (lv_at hl 0 rfl) ?_
  obtain ⟨q3, hq3, h⟩ := of_b h
  refine g_callv (va_runV (As := []) (rest := []) ⟨hx, hb, hml, hown, hts⟩ (S_JO_compareRows l D b cs r0 (sI μ r0 6 0) q3 n hq3) ⟨callB_of 0 hts (goodIn_g jm_5_17) rfl rfl rfl (hts _ jm_0_6) (hts _ jm_5_15) (by decide +kernel) ⟨Nat.le_of_ble_eq_true rfl, Nat.le_of_ble_eq_true rfl⟩, (hts _ jm_5_16), (hts _ jm_11_31)⟩ (Wd.preV hK hM g1 rfl (by decide)) rfl rfl hl.1 rfl (lv_room (Nat.le_of_ble_eq_true rfl)) d_JO_search_6 ⟨Nat.le_of_ble_eq_true rfl, Nat.le_of_ble_eq_true rfl⟩) hM (fun H locs hM => ?_)
  refine lv_aload_n hx hb d_JO_search_9 rfl (lv_at hl 0 rfl) ?_
  refine lv_aload_n hx hb d_JO_search_10 rfl (lv_at hl 0 rfl) ?_
  obtain ⟨g4, h⟩ := of_g h
  obtain ⟨g5, h⟩ := of_g h
  refine g_get (C := "JoinedLeaves$Join") (T := T_JO) (N := 7) (ref := "JoinedLeaves$Join") (v := .ref (b + (mR q3 r0 3))) hx hb hts jF_JO hown hK hM g4 (by decide) rfl 3 (by decide) (hts _ jm_1_45) (fun _ h9 => h9) (by decide) (rv_of (ok_0 g5)) d_JO_search_11 ?_
  refine lv_iconst (v := 0) hx hb d_JO_search_14 (by decide) ?_
  obtain ⟨g6, h⟩ := of_g h
  obtain ⟨g7, h⟩ := of_g h
  refine g_aald (ty := (.array .int)) hx hb hK hM 2 rfl rfl g5 g6 (ok_0 g7) d_JO_search_15 ?_
  obtain ⟨q8, hq8, h⟩ := of_b h
  refine g_callv (va_runV (As := [.ref (b + (mR q3 (mR q3 r0 3) (Int32.toNatClampNeg 0)))]) (rest := []) ⟨hx, hb, hml, hown, hts⟩ (S_JO_keepLiveRows l D b cs r0 (mR q3 (mR q3 r0 3) (Int32.toNatClampNeg 0)) q3 q8 n hq8) ⟨callB_of 1 hts (goodIn_g jm_6_16) rfl rfl rfl (hts _ jm_0_6) (hts _ jm_6_14) (by decide +kernel) ⟨Nat.le_of_ble_eq_true rfl, Nat.le_of_ble_eq_true rfl⟩, (hts _ jm_6_15), (hts _ jm_11_41)⟩ (Wd.preV hK hM g4 rfl (by decide)) rfl rfl hl.1 rfl (lv_room (Nat.le_of_ble_eq_true rfl)) d_JO_search_16 ⟨Nat.le_of_ble_eq_true rfl, Nat.le_of_ble_eq_true rfl⟩) hM (fun H locs hM => ?_)
  refine lv_aload_n hx hb d_JO_search_19 rfl (lv_at hl 0 rfl) ?_
  refine lv_aload_n hx hb d_JO_search_20 rfl (lv_at hl 0 rfl) ?_
  obtain ⟨g9, h⟩ := of_g h
  obtain ⟨g10, h⟩ := of_g h
  refine g_get (C := "JoinedLeaves$Join") (T := T_JO) (N := 7) (ref := "JoinedLeaves$Join") (v := .ref (b + (mR q8 r0 3))) hx hb hts jF_JO hown hK hM g9 (by decide) rfl 3 (by decide) (hts _ jm_1_45) (fun _ h9 => h9) (by decide) (rv_of (ok_0 g10)) d_JO_search_21 ?_
  refine lv_iconst (v := 0) hx hb d_JO_search_24 (by decide) ?_
  obtain ⟨g11, h⟩ := of_g h
  obtain ⟨g12, h⟩ := of_g h
  refine g_aald (ty := (.array .int)) hx hb hK hM 2 rfl rfl g10 g11 (ok_0 g12) d_JO_search_25 ?_
  obtain ⟨q13, hq13, h⟩ := of_b h
  refine g_calli (va_runV (As := [.ref (b + (mR q8 (mR q8 r0 3) (Int32.toNatClampNeg 0)))]) (rest := []) ⟨hx, hb, hml, hown, hts⟩ (S_JO_hasWay l D b cs r0 (mR q8 (mR q8 r0 3) (Int32.toNatClampNeg 0)) q8 q13 n hq13) ⟨callB_of 1 hts (goodIn_g jm_7_12) rfl rfl rfl (hts _ jm_0_6) (hts _ jm_7_10) (by decide +kernel) ⟨Nat.le_of_ble_eq_true rfl, Nat.le_of_ble_eq_true rfl⟩, (hts _ jm_7_11), (hts _ jm_11_47)⟩ (Wd.preV hK hM g9 rfl (by decide)) rfl rfl hl.1 rfl (lv_room (Nat.le_of_ble_eq_true rfl)) d_JO_search_26 ⟨Nat.le_of_ble_eq_true rfl, Nat.le_of_ble_eq_true rfl⟩) hM (fun H locs hM => ?_)
  refine lv_if_eq (tgt := 38) hx hb d_JO_search_29 (by decide) (fun hc => ?_) (fun hc => ?_)
  · replace h := of_t hc h
    exact g_vret hx hb hr hlocks hM (Option.some.inj h) d_JO_search_38
  · replace h := of_f hc h
    refine lv_aload_n hx hb d_JO_search_32 rfl (lv_at hl 0 rfl) ?_
    refine lv_iconst (v := 0) hx hb d_JO_search_33 (by decide) ?_
    refine lv_iconst (v := 0) hx hb d_JO_search_34 (by decide) ?_
    obtain ⟨g14, h⟩ := of_g h
    obtain ⟨q15, hq15, h⟩ := of_b h
    refine g_callv (va_runV (As := [.int 0, .int 0]) (rest := []) ⟨hx, hb, hml, hown, hts⟩ (S_JO_choose l D b cs 6 r0 0 0 q13.2 q15 n hq15) ⟨callB_of 2 hts (goodIn_g jm_7_15) rfl rfl rfl (hts _ jm_0_6) (hts _ jm_7_13) (by decide +kernel) ⟨Nat.le_of_ble_eq_true rfl, Nat.le_of_ble_eq_true rfl⟩, (hts _ jm_7_14), (hts _ jm_12_0)⟩ (Wd.preV hK hM g14 rfl (by decide)) rfl rfl hl.1 rfl (lv_room (Nat.le_of_ble_eq_true rfl)) d_JO_search_35 ⟨Nat.le_of_ble_eq_true rfl, Nat.le_of_ble_eq_true rfl⟩) hM (fun H locs hM => ?_)
    exact g_vret hx hb hr hlocks hM (Option.some.inj h) d_JO_search_38
