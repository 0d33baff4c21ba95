/-! By program (wip/whole/gen.py): the law, up to its loop -/
def m0 : Mem := (0, fun _ => (0, 0), fun _ _ => 0, fun _ _ => 0, fun _ _ => 0)
def Pro (n : Nat) (μ : Mem) : Option (Nat × Nat × Nat × Mem) :=
  Option.bind (some (al μ 5 0)) (fun μ1 => Option.bind (C_JL_init n (mN μ + 1) μ1) (fun q3 => if mN q3 = mN μ1 + 54 then Option.bind (some (al q3 6 0)) (fun μ6 => Option.bind (C_MO_init n (mN q3 + 1) μ6) (fun q8 => if mN q8 = mN μ6 + 13 then Option.bind (some (al q8 101 1)) (fun μ11 => some (mN μ + 1, mN q3 + 1, mN q8 + 1, μ11)) else none)) else none))
set_option maxHeartbeats 4000000 in
set_option maxRecDepth 100000 in
theorem K_pro {p : Program} {e : Env} {s : State} {m : MethodId} {below : List Frame} {meth : Method} {c : Code} {Q : State → Prop} (l : Launch) (D : va_G) (b : Nat) (cs : Nat → ClassId) {z : Nat} (hx : p.tables.exec = Jvm.exec) (hb : c.code = code) (hml : c.maxLocals = 8) (hown : s.vm.findClass "JoinedLeavesLaw" = some m.cls) (hts : ∀ w ∈ jW, w.before #[Value.ref z] s = true) (hK : Kw cs D s) (μ : Mem) (res : Nat × Nat × Nat × Mem) (n : Nat) (h : Pro n μ = some res) (hsz : s.heap.size = b + mN μ + 1) {ls : Array Slot} (hM : Wd (Ab b) b cs D s.heap μ s.heap []) (hl : lv_has ls 8 [(0, .ref z)])
    (kk : ∀ (H : Heap) (locs : List Loc) (ls : Array Slot), Wd (Ab b) b cs D s.heap res.2.2.2 H locs → lv_has ls 8 [(0, .ref z), (1, .ref (b + res.1)), (2, .ref (b + res.2.1)), (3, .ref (b + res.2.2.1)), (4, .int (nI 0))] → W p l e room_1 s m #[Value.ref z] below meth c H locs 70 2861 Q (F0 m 23 ls [])) : W p l e room_1 s m #[Value.ref z] below meth c s.heap [] 0 0 Q (F0 m 0 ls []) := by
  have hN0 : mN μ = mN μ + 0 := rfl
  unfold Pro at h
  obtain ⟨μ1, e_μ1, h⟩ := of_b h
  refine g_new (ci := 5) (C := "JoinedLeaves") (T := T_JL) (N := 5) hx hb hts jF_JL t_JL o_JL hown (hts _ jm_0_16) (hts _ jm_0_17) (hts _ jm_0_1) hK hM (cs_of hsz hN0) (by decide) rfl (by decide +kernel) (Nat.le_of_ble_eq_true rfl) (Nat.le_of_ble_eq_true rfl) d_LA_law_0 (fun H hM => ?_)
  refine W.widen (k := 1) (n := 5) (by decide) (by decide) ?_
  rw [Option.some.inj e_μ1] at hM
  have hN2 : mN μ1 = mN μ + 1 := by rw [← Option.some.inj e_μ1]; exact congrArg (· + 1) hN0
  refine lv_dup hx hb d_LA_law_3 rfl ?_
  obtain ⟨q3, hq3, h⟩ := of_b h
  obtain ⟨g4, h⟩ := of_g h
  refine W.sized fun hle => ?_
  have hz := hz_of hM hle (cs_of hsz hN2)
  refine g_callc (va_runI (As := []) (rest := [.ref (b + (mN μ + 1))]) ⟨hx, hb, hml, hown, hts⟩ (S_JL_init l D b cs (mN μ + 1) μ1 q3 n hq3) ⟨callB_of 0 hts (goodIn_g jm_0_20) rfl rfl rfl (hts _ jm_0_1) (hts _ jm_0_18) (by decide +kernel) ⟨Nat.le_of_ble_eq_true rfl, Nat.le_of_ble_eq_true rfl⟩, rfl, (hts _ jm_0_19)⟩ (Wd.preC hK hM hz) rfl rfl hl.1 rfl (lv_room (Nat.le_of_ble_eq_true rfl)) d_LA_law_4 ⟨Nat.le_of_ble_eq_true rfl, Nat.le_of_ble_eq_true rfl⟩) hM (fun H locs hM => ?_)
  refine W.widen (k := 55) (n := 438) (by decide) (by decide) ?_
  have hN5 : mN q3 = mN μ + 55 := N_of g4 hN2 rfl
  clear g4 hz hle
  refine lv_astore_n hx hb d_LA_law_7 rfl hl (by decide) rfl (fun ls hl => ?_)
  have hl : lv_has ls 8 [(1, .ref (b + (mN μ + 1))), (0, .ref z)] := hl
  obtain ⟨μ6, e_μ6, h⟩ := of_b h
  refine g_new (ci := 6) (C := "JoinedLeavesModel") (T := T_MO) (N := 21) hx hb hts jF_MO t_MO o_MO hown (hts _ jm_8_9) (hts _ jm_8_10) (hts _ jm_0_7) hK hM (cs_of hsz hN5) (by decide) rfl (by decide +kernel) (Nat.le_of_ble_eq_true rfl) (Nat.le_of_ble_eq_true rfl) d_LA_law_8 (fun H hM => ?_)
  refine W.widen (k := 56) (n := 459) (by decide) (by decide) ?_
  rw [Option.some.inj e_μ6] at hM
  have hN7 : mN μ6 = mN μ + 56 := by rw [← Option.some.inj e_μ6]; exact congrArg (· + 1) hN5
  refine lv_dup hx hb d_LA_law_11 rfl ?_
  obtain ⟨q8, hq8, h⟩ := of_b h
  obtain ⟨g9, h⟩ := of_g h
  refine W.sized fun hle => ?_
  have hz := hz_of hM hle (cs_of hsz hN7)
  refine g_callc (va_runI (As := []) (rest := [.ref (b + (mN q3 + 1))]) ⟨hx, hb, hml, hown, hts⟩ (S_MO_init l D b cs (mN q3 + 1) μ6 q8 n hq8) ⟨callB_of 0 hts (goodIn_g jm_8_13) rfl rfl rfl (hts _ jm_0_7) (hts _ jm_8_11) (by decide +kernel) ⟨Nat.le_of_ble_eq_true rfl, Nat.le_of_ble_eq_true rfl⟩, rfl, (hts _ jm_8_12)⟩ (Wd.preC hK hM hz) rfl rfl hl.1 rfl (lv_room (Nat.le_of_ble_eq_true rfl)) d_LA_law_12 ⟨Nat.le_of_ble_eq_true rfl, Nat.le_of_ble_eq_true rfl⟩) hM (fun H locs hM => ?_)
  refine W.widen (k := 69) (n := 2860) (by decide) (by decide) ?_
  have hN10 : mN q8 = mN μ + 69 := N_of g9 hN7 rfl
  clear g9 hz hle
  refine lv_astore_n hx hb d_LA_law_15 rfl hl (by decide) rfl (fun ls hl => ?_)
  have hl : lv_has ls 8 [(2, .ref (b + (mN q3 + 1))), (1, .ref (b + (mN μ + 1))), (0, .ref z)] := hl
  refine lv_iconst (v := 1) hx hb d_LA_law_16 (by decide) ?_
  obtain ⟨μ11, e_μ11, h⟩ := of_b h
  refine g_newl (N := 1) (atype := .long) hx hb rfl (hts _ jm_2_9) hK hM (cs_of hsz hN10) rfl (by decide) (by decide) (by decide) (Nat.le_of_ble_eq_true rfl) (Nat.le_of_ble_eq_true rfl) d_LA_law_17 (fun H hM => ?_)
  refine W.widen (k := 70) (n := 2861) (by decide) (by decide) ?_
  rw [Option.some.inj e_μ11] at hM
  have hN12 : mN μ11 = mN μ + 70 := by rw [← Option.some.inj e_μ11]; exact congrArg (· + 1) hN10
  refine lv_astore_n hx hb d_LA_law_19 rfl hl (by decide) rfl (fun ls hl => ?_)
  have hl : lv_has ls 8 [(3, .ref (b + (mN q8 + 1))), (2, .ref (b + (mN q3 + 1))), (1, .ref (b + (mN μ + 1))), (0, .ref z)] := hl
  refine lv_iconst (v := 0) hx hb d_LA_law_20 (by decide) ?_
  refine lv_istore hx hb d_LA_law_21 hl (by decide) rfl (fun ls hl => ?_)
  have hl : lv_has ls 8 [(4, .int 0), (3, .ref (b + (mN q8 + 1))), (2, .ref (b + (mN q3 + 1))), (1, .ref (b + (mN μ + 1))), (0, .ref z)] := hl
  obtain rfl := Option.some.inj h
  exact kk _ _ _ hM (lv_sub hl [4, 3, 2, 1, 0] rfl)
