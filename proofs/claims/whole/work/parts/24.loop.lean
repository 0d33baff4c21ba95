/-! The law's loop: by what is left of the script -/
def Tv (v : Int32) (n r1 r2 r3 : Nat) (i4 : Int32) (L : Nat) (xs : Nat → Int32) (μ : Mem) : Option Mem :=
  if v = 0 then T_0 n r1 r2 r3 i4 L xs μ else if v = 1 then T_1 n r1 r2 r3 i4 L xs μ else if v = 2 then T_2 n r1 r2 r3 i4 L xs μ else if v = 3 then T_3 n r1 r2 r3 i4 L xs μ else if v = 4 then T_4 n r1 r2 r3 i4 L xs μ else if v = 5 then T_5 n r1 r2 r3 i4 L xs μ else if v = 6 then T_6 n r1 r2 r3 i4 L xs μ else if v = 7 then T_7 n r1 r2 r3 i4 L xs μ else if v = 8 then T_8 n r1 r2 r3 i4 L xs μ else if v = 9 then T_9 n r1 r2 r3 i4 L xs μ else if v = 10 then T_10 n r1 r2 r3 i4 L xs μ else if v = 11 then T_11 n r1 r2 r3 i4 L xs μ else if v = 12 then T_12 n r1 r2 r3 i4 L xs μ else if v = 13 then T_13 n r1 r2 r3 i4 L xs μ else some μ
/-- one step of the loop -/
def Tsw (n r1 r2 r3 : Nat) (i4 : Int32) (L : Nat) (xs : Nat → Int32) (μ : Mem) : Option Mem := if ib i4 L = true then Tv (xs (Int32.toNatClampNeg i4) &&& 15) n r1 r2 r3 i4 L xs μ else none
/-- t steps from i on -/
def Lp (n r1 r2 r3 L : Nat) (xs : Nat → Int32) : Nat → Nat → Mem → Option Mem
  | 0, _, μ => some μ
  | t + 1, i, μ => Option.bind (Tsw n r1 r2 r3 (nI i) L xs μ) (fun μ1 => Lp n r1 r2 r3 L xs t (i + 5) μ1)
theorem Tv_0 {n r1 r2 r3 : Nat} {i4 : Int32} {L : Nat} {xs : Nat → Int32} {μ : Mem} : Tv (nI 0) n r1 r2 r3 i4 L xs μ = T_0 n r1 r2 r3 i4 L xs μ := rfl
theorem Tv_1 {n r1 r2 r3 : Nat} {i4 : Int32} {L : Nat} {xs : Nat → Int32} {μ : Mem} : Tv (nI 1) n r1 r2 r3 i4 L xs μ = T_1 n r1 r2 r3 i4 L xs μ := rfl
theorem Tv_2 {n r1 r2 r3 : Nat} {i4 : Int32} {L : Nat} {xs : Nat → Int32} {μ : Mem} : Tv (nI 2) n r1 r2 r3 i4 L xs μ = T_2 n r1 r2 r3 i4 L xs μ := rfl
theorem Tv_3 {n r1 r2 r3 : Nat} {i4 : Int32} {L : Nat} {xs : Nat → Int32} {μ : Mem} : Tv (nI 3) n r1 r2 r3 i4 L xs μ = T_3 n r1 r2 r3 i4 L xs μ := rfl
theorem Tv_4 {n r1 r2 r3 : Nat} {i4 : Int32} {L : Nat} {xs : Nat → Int32} {μ : Mem} : Tv (nI 4) n r1 r2 r3 i4 L xs μ = T_4 n r1 r2 r3 i4 L xs μ := rfl
theorem Tv_5 {n r1 r2 r3 : Nat} {i4 : Int32} {L : Nat} {xs : Nat → Int32} {μ : Mem} : Tv (nI 5) n r1 r2 r3 i4 L xs μ = T_5 n r1 r2 r3 i4 L xs μ := rfl
theorem Tv_6 {n r1 r2 r3 : Nat} {i4 : Int32} {L : Nat} {xs : Nat → Int32} {μ : Mem} : Tv (nI 6) n r1 r2 r3 i4 L xs μ = T_6 n r1 r2 r3 i4 L xs μ := rfl
theorem Tv_7 {n r1 r2 r3 : Nat} {i4 : Int32} {L : Nat} {xs : Nat → Int32} {μ : Mem} : Tv (nI 7) n r1 r2 r3 i4 L xs μ = T_7 n r1 r2 r3 i4 L xs μ := rfl
theorem Tv_8 {n r1 r2 r3 : Nat} {i4 : Int32} {L : Nat} {xs : Nat → Int32} {μ : Mem} : Tv (nI 8) n r1 r2 r3 i4 L xs μ = T_8 n r1 r2 r3 i4 L xs μ := rfl
theorem Tv_9 {n r1 r2 r3 : Nat} {i4 : Int32} {L : Nat} {xs : Nat → Int32} {μ : Mem} : Tv (nI 9) n r1 r2 r3 i4 L xs μ = T_9 n r1 r2 r3 i4 L xs μ := rfl
theorem Tv_10 {n r1 r2 r3 : Nat} {i4 : Int32} {L : Nat} {xs : Nat → Int32} {μ : Mem} : Tv (nI 10) n r1 r2 r3 i4 L xs μ = T_10 n r1 r2 r3 i4 L xs μ := rfl
theorem Tv_11 {n r1 r2 r3 : Nat} {i4 : Int32} {L : Nat} {xs : Nat → Int32} {μ : Mem} : Tv (nI 11) n r1 r2 r3 i4 L xs μ = T_11 n r1 r2 r3 i4 L xs μ := rfl
theorem Tv_12 {n r1 r2 r3 : Nat} {i4 : Int32} {L : Nat} {xs : Nat → Int32} {μ : Mem} : Tv (nI 12) n r1 r2 r3 i4 L xs μ = T_12 n r1 r2 r3 i4 L xs μ := rfl
theorem Tv_13 {n r1 r2 r3 : Nat} {i4 : Int32} {L : Nat} {xs : Nat → Int32} {μ : Mem} : Tv (nI 13) n r1 r2 r3 i4 L xs μ = T_13 n r1 r2 r3 i4 L xs μ := rfl
theorem Tv_14 {n r1 r2 r3 : Nat} {i4 : Int32} {L : Nat} {xs : Nat → Int32} {μ : Mem} : Tv (nI 14) n r1 r2 r3 i4 L xs μ = some μ := rfl
theorem Tv_15 {n r1 r2 r3 : Nat} {i4 : Int32} {L : Nat} {xs : Nat → Int32} {μ : Mem} : Tv (nI 15) n r1 r2 r3 i4 L xs μ = some μ := rfl
theorem lp_cond {L i : Nat} (hL : L ≤ 2560) (hi : i ≤ 3000) : (nI L - 5 < nI i) ↔ L < i + 5 := by
  have h5 : (5 : Int32) = nI 5 := rfl
  rw [Int32.lt_iff_toInt_lt, h5, pk_sub_toInt (by omega) (by omega), nI_toInt (by omega)]
  omega
set_option maxHeartbeats 4000000 in
set_option maxRecDepth 100000 in
/-- one step of the loop, from its body's first row on -/
theorem K_step {p : Program} {e : Env} {s : State} {m : MethodId} {below : List Frame} {meth : Method} {c : Code} {Q : State → Prop} (l : Launch) (hst : l.stackTraces = false) (D : va_G) (b : Nat) (cs : Nat → ClassId) {z L : Nat} {xs : Nat → Int32} (hx : p.tables.exec = Jvm.exec) (hb : c.code = code) (hml : c.maxLocals = 8) (hown : s.vm.findClass "JoinedLeavesLaw" = some m.cls) (hts : ∀ w ∈ jW, w.before #[Value.ref z] s = true) (hK : Kw cs D s) (hZ : Zx b s s.heap) (hX : va_X z L xs s s.heap) (hzl : z < s.heap.size) (hz : z ≤ b) (r1 r2 r3 : Nat) (i4 : Int32) (μ res : Mem) (n : Nat) (h : Tsw n r1 r2 r3 i4 L xs μ = some res) {H : Heap} {locs : List Loc} {cells slots : Nat} {ls : Array Slot} (hM : Wd (Ab b) b cs D s.heap μ H locs) (hl : lv_has ls 8 [(0, .ref z), (1, .ref (b + r1)), (2, .ref (b + r2)), (3, .ref (b + r3)), (4, .int i4)]) (hRc : cells + 1 ≤ room_1.cells) (hRs : slots + 6 ≤ room_1.slots)
    (kk : ∀ (H : Heap) (locs : List Loc) (ls : Array Slot), Wd (Ab b) b cs D s.heap res H locs → lv_has ls 8 [(0, .ref z), (1, .ref (b + r1)), (2, .ref (b + r2)), (3, .ref (b + r3)), (4, .int i4)] → W p l e room_1 s m #[Value.ref z] below meth c H locs (cells + 1) (slots + 6) Q (F0 m 653 ls [])) : W p l e room_1 s m #[Value.ref z] below meth c H locs cells slots Q (F0 m 32 ls []) := by
  unfold Tsw at h
  obtain ⟨g1, h⟩ := of_g h
  refine lv_aload_n hx hb d_LA_law_32 rfl (lv_at hl 0 rfl) ?_
  refine lv_iload hx hb d_LA_law_33 (lv_at hl 4 rfl) ?_
  refine g_sld hx hb hX hzl hz hM g1 d_LA_law_35 ?_
  refine lv_bipush (v := 15) hx hb d_LA_law_36 (by decide) ?_
  refine lv_iand hx hb d_LA_law_38 ?_
  obtain ⟨j, hj, hv⟩ := pk_andE (xs (Int32.toNatClampNeg i4)) (m := 15) 4 (by decide)
  rw [hv] at h
  refine top_i hv ?_
  have hj : j < 16 := hj
  have hc : j = 0 ∨ j = 1 ∨ j = 2 ∨ j = 3 ∨ j = 4 ∨ j = 5 ∨ j = 6 ∨ j = 7 ∨ j = 8 ∨ j = 9 ∨ j = 10 ∨ j = 11 ∨ j = 12 ∨ j = 13 ∨ j = 14 ∨ j = 15 := by omega
  rcases hc with rfl | rfl | rfl | rfl | rfl | rfl | rfl | rfl | rfl | rfl | rfl | rfl | rfl | rfl | rfl | rfl
  · rw [Tv_0] at h
    refine lv_tableIn (off := 69) (tgt := 108) hx hb d_LA_law_39 (by decide) (by decide) (by decide) (by decide) ?_
    exact K_0 l hst D b cs hx hb hml hown hts hK hZ hX hzl hz r1 r2 r3 i4 μ res n h hM hl hRc hRs kk
  · rw [Tv_1] at h
    refine lv_tableIn (off := 94) (tgt := 133) hx hb d_LA_law_39 (by decide) (by decide) (by decide) (by decide) ?_
    exact K_1 l hst D b cs hx hb hml hown hts hK hZ hX hzl hz r1 r2 r3 i4 μ res n h hM hl hRc hRs kk
  · rw [Tv_2] at h
    refine lv_tableIn (off := 155) (tgt := 194) hx hb d_LA_law_39 (by decide) (by decide) (by decide) (by decide) ?_
    exact K_2 l hst D b cs hx hb hml hown hts hK hZ hX hzl hz r1 r2 r3 i4 μ res n h hM hl hRc hRs kk
  · rw [Tv_3] at h
    refine lv_tableIn (off := 216) (tgt := 255) hx hb d_LA_law_39 (by decide) (by decide) (by decide) (by decide) ?_
    exact K_3 l hst D b cs hx hb hml hown hts hK hZ hX hzl hz r1 r2 r3 i4 μ res n h hM hl hRc hRs kk
  · rw [Tv_4] at h
    refine lv_tableIn (off := 241) (tgt := 280) hx hb d_LA_law_39 (by decide) (by decide) (by decide) (by decide) ?_
    exact K_4 l hst D b cs hx hb hml hown hts hK hZ hX hzl hz r1 r2 r3 i4 μ res n h hM hl hRc hRs kk
  · rw [Tv_5] at h
    refine lv_tableIn (off := 302) (tgt := 341) hx hb d_LA_law_39 (by decide) (by decide) (by decide) (by decide) ?_
    exact K_5 l hst D b cs hx hb hml hown hts hK hZ hX hzl hz r1 r2 r3 i4 μ res n h hM hl hRc hRs kk
  · rw [Tv_6] at h
    refine lv_tableIn (off := 327) (tgt := 366) hx hb d_LA_law_39 (by decide) (by decide) (by decide) (by decide) ?_
    exact K_6 l hst D b cs hx hb hml hown hts hK hZ hX hzl hz r1 r2 r3 i4 μ res n h hM hl hRc hRs kk
  · rw [Tv_7] at h
    refine lv_tableIn (off := 340) (tgt := 379) hx hb d_LA_law_39 (by decide) (by decide) (by decide) (by decide) ?_
    exact K_7 l hst D b cs hx hb hml hown hts hK hZ hX hzl hz r1 r2 r3 i4 μ res n h hM hl hRc hRs kk
  · rw [Tv_8] at h
    refine lv_tableIn (off := 353) (tgt := 392) hx hb d_LA_law_39 (by decide) (by decide) (by decide) (by decide) ?_
    exact K_8 l hst D b cs hx hb hml hown hts hK hZ hX hzl hz r1 r2 r3 i4 μ res n h hM hl hRc hRs kk
  · rw [Tv_9] at h
    refine lv_tableIn (off := 378) (tgt := 417) hx hb d_LA_law_39 (by decide) (by decide) (by decide) (by decide) ?_
    exact K_9 l hst D b cs hx hb hml hown hts hK hZ hX hzl hz r1 r2 r3 i4 μ res n h hM hl hRc hRs kk
  · rw [Tv_10] at h
    refine lv_tableIn (off := 403) (tgt := 442) hx hb d_LA_law_39 (by decide) (by decide) (by decide) (by decide) ?_
    exact K_10 l hst D b cs hx hb hml hown hts hK hZ hX hzl hz r1 r2 r3 i4 μ res n h hM hl hRc hRs kk
  · rw [Tv_11] at h
    refine lv_tableIn (off := 446) (tgt := 485) hx hb d_LA_law_39 (by decide) (by decide) (by decide) (by decide) ?_
    exact K_11 l hst D b cs hx hb hml hown hts hK hZ hX hzl hz r1 r2 r3 i4 μ res n h hM hl hRc hRs kk
  · rw [Tv_12] at h
    refine lv_tableIn (off := 502) (tgt := 541) hx hb d_LA_law_39 (by decide) (by decide) (by decide) (by decide) ?_
    exact K_12 l hst D b cs hx hb hml hown hts hK hZ hX hzl hz r1 r2 r3 i4 μ res n h hM hl hRc hRs kk
  · rw [Tv_13] at h
    refine lv_tableIn (off := 546) (tgt := 585) hx hb d_LA_law_39 (by decide) (by decide) (by decide) (by decide) ?_
    exact K_13 l hst D b cs hx hb hml hown hts hK hZ hX hzl hz r1 r2 r3 i4 μ res n h hM hl hRc hRs kk
  · rw [Tv_14] at h
    obtain rfl := Option.some.inj h
    refine lv_tableOut (tgt := 653) hx hb d_LA_law_39 (by decide) (by decide) ?_
    exact W.widen (Nat.le_succ _) (Nat.le_add_right _ 6) (kk _ _ _ hM hl)
  · rw [Tv_15] at h
    obtain rfl := Option.some.inj h
    refine lv_tableOut (tgt := 653) hx hb d_LA_law_39 (by decide) (by decide) ?_
    exact W.widen (Nat.le_succ _) (Nat.le_add_right _ 6) (kk _ _ _ hM hl)
set_option maxHeartbeats 4000000 in
set_option maxRecDepth 100000 in
theorem K_loop {p : Program} {e : Env} {s : State} {m : MethodId} {below : List Frame} {meth : Method} {c : Code} {Q : State → Prop} (l : Launch) (hst : l.stackTraces = false) (D : va_G) (b : Nat) (cs : Nat → ClassId) {z L : Nat} {xs : Nat → Int32} (hx : p.tables.exec = Jvm.exec) (hb : c.code = code) (hml : c.maxLocals = 8) (hown : s.vm.findClass "JoinedLeavesLaw" = some m.cls) (hts : ∀ w ∈ jW, w.before #[Value.ref z] s = true) (hK : Kw cs D s) (hZ : Zx b s s.heap) (hX : va_X z L xs s s.heap) (hzl : z < s.heap.size) (hz : z ≤ b) (hL : L ≤ 2560) (r1 r2 r3 n : Nat)
    (kend : ∀ (μ : Mem) (H : Heap) (locs : List Loc) (ls : Array Slot) (cells slots : Nat), Wd (Ab b) b cs D s.heap μ H locs → cells ≤ room_1.cells → slots ≤ room_1.slots → W p l e room_1 s m #[Value.ref z] below meth c H locs cells slots Q (F0 m 659 ls [])) :
    ∀ (t i : Nat) (μ res : Mem) (H : Heap) (locs : List Loc) (cells slots : Nat) (ls : Array Slot), Lp n r1 r2 r3 L xs t i μ = some res → i + 5 * t ≤ 2560 → L < i + 5 * t + 5 → (t = 0 ∨ i + 5 * t ≤ L) → Wd (Ab b) b cs D s.heap μ H locs → lv_has ls 8 [(0, .ref z), (1, .ref (b + r1)), (2, .ref (b + r2)), (3, .ref (b + r3)), (4, .int (nI i))] → cells + t ≤ room_1.cells → slots + 6 * t ≤ room_1.slots → W p l e room_1 s m #[Value.ref z] below meth c H locs cells slots Q (F0 m 23 ls []) := by
  intro t
  induction t with
  | zero =>
    intro i μ res H locs cells slots ls h h1 h2 h3 hM hl hRc hRs
    refine lv_iload hx hb d_LA_law_23 (lv_at hl 4 rfl) ?_
    refine lv_aload_n hx hb d_LA_law_25 rfl (lv_at hl 0 rfl) ?_
    refine g_slen hx hb hX hzl hz hM d_LA_law_26 ?_
    refine lv_iconst (v := 5) hx hb d_LA_law_27 (by decide) ?_
    refine lv_isub hx hb d_LA_law_28 ?_
    refine lv_icmp_gt (tgt := 659) hx hb d_LA_law_29 (by decide) (fun _ => ?_) (fun hc => ?_)
    · exact kend μ H locs ls cells slots hM hRc hRs
    · exact absurd ((lp_cond hL (by omega)).mpr (by omega)) hc
  | succ t ih =>
    intro i μ res H locs cells slots ls h h1 h2 h3 hM hl hRc hRs
    obtain ⟨μ1, hT, h⟩ := of_b (h : Option.bind (Tsw n r1 r2 r3 (nI i) L xs μ) (fun μ1 => Lp n r1 r2 r3 L xs t (i + 5) μ1) = some res)
    refine lv_iload hx hb d_LA_law_23 (lv_at hl 4 rfl) ?_
    refine lv_aload_n hx hb d_LA_law_25 rfl (lv_at hl 0 rfl) ?_
    refine g_slen hx hb hX hzl hz hM d_LA_law_26 ?_
    refine lv_iconst (v := 5) hx hb d_LA_law_27 (by decide) ?_
    refine lv_isub hx hb d_LA_law_28 ?_
    have h3 : i + 5 * (t + 1) ≤ L := by
      rcases h3 with h3 | h3
      · cases h3
      · exact h3
    refine lv_icmp_gt (tgt := 659) hx hb d_LA_law_29 (by decide) (fun hc => ?_) (fun _ => ?_)
    · exact absurd ((lp_cond hL (by omega)).mp hc) (by omega)
    · refine K_step l hst D b cs hx hb hml hown hts hK hZ hX hzl hz r1 r2 r3 (nI i) μ μ1 n hT hM hl (by omega) (by omega) (fun H locs ls hM hl => ?_)
      refine lv_iinc (v := nI (i + 5)) hx hb d_LA_law_653 hl (k := 4) rfl (by rw [lit5]; exact nI_add i 5) (by decide) rfl (fun ls hl => ?_)
      have hl : lv_has ls 8 [(4, .int (nI (i + 5))), (0, .ref z), (1, .ref (b + r1)), (2, .ref (b + r2)), (3, .ref (b + r3))] := hl
      refine lv_goto (tgt := 23) hx hb d_LA_law_656 (by decide) ?_
      exact ih (i + 5) μ1 res H locs (cells + 1) (slots + 6) ls h (by omega) (by omega) (Or.inr (by omega)) hM (lv_sub hl [1, 2, 3, 4, 0] rfl) (by omega) (by omega)
