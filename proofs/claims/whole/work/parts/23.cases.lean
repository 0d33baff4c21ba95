/-! By program (wip/whole/gen.py): the cases of the law. -/
def T_0 (n r1 r2 r3 : Nat) (i4 : Int32) (L : Nat) (xs : Nat → Int32) (μ : Mem) : Option Mem :=
  if ib (i4 + 1) L = true then if ok μ r1 5 = true then Option.bind (C_JL_relation n r1 (xs (Int32.toNatClampNeg (i4 + 1))) μ) (fun q3 => if ib (i4 + 1) L = true then if ok q3.2 r2 6 = true then Option.bind (C_MO_relation n r2 (xs (Int32.toNatClampNeg (i4 + 1))) q3.2) (fun q6 => if q3.1 = q6.1 then some q6.2 else none) else none else none) else none else none
set_option maxHeartbeats 4000000 in
set_option maxRecDepth 100000 in
theorem K_0 {p : Program} {e : Env} {s : State} {m : MethodId} {below : List Frame} {meth : Method} {c : Code} {Q : State → Prop} (l : Launch) (hst : l.stackTraces = false) (D : va_G) (b : Nat) (cs : Nat → ClassId) {z L : Nat} {xs : Nat → Int32} (hx : p.tables.exec = Jvm.exec) (hb : c.code = code) (hml : c.maxLocals = 8) (hown : s.vm.findClass "JoinedLeavesLaw" = some m.cls) (hts : ∀ w ∈ jW, w.before #[Value.ref z] s = true) (hK : Kw cs D s) (hZ : Zx b s s.heap) (hX : va_X z L xs s s.heap) (hzl : z < s.heap.size) (hz : z ≤ b) (r1 r2 r3 : Nat) (i4 : Int32) (μ res : Mem) (n : Nat) (h : T_0 n r1 r2 r3 i4 L xs μ = some res) {H : Heap} {locs : List Loc} {cells slots : Nat} {ls : Array Slot} (hM : Wd (Ab b) b cs D s.heap μ H locs) (hl : lv_has ls 8 [(0, .ref z), (1, .ref (b + r1)), (2, .ref (b + r2)), (3, .ref (b + r3)), (4, .int i4)]) (hRc : cells + 1 ≤ room_1.cells) (hRs : slots + 6 ≤ room_1.slots)
    (kk : ∀ (H : Heap) (locs : List Loc) (ls : Array Slot), Wd (Ab b) b cs D s.heap res H locs → lv_has ls 8 [(0, .ref z), (1, .ref (b + r1)), (2, .ref (b + r2)), (3, .ref (b + r3)), (4, .int i4)] → W p l e room_1 s m #[Value.ref z] below meth c H locs (cells + 1) (slots + 6) Q (F0 m 653 ls [])) : W p l e room_1 s m #[Value.ref z] below meth c H locs cells slots Q (F0 m 108 ls []) := by
  unfold T_0 at h
  refine lv_aload_n hx hb d_LA_law_108 rfl (lv_at hl 1 rfl) ?_
  refine lv_aload_n hx hb d_LA_law_109 rfl (lv_at hl 0 rfl) ?_
  refine lv_iload hx hb d_LA_law_110 (lv_at hl 4 rfl) ?_
  refine lv_iconst (v := 1) hx hb d_LA_law_112 (by decide) ?_
  refine lv_iadd hx hb d_LA_law_113 ?_
  obtain ⟨g1, h⟩ := of_g h
  refine g_sld hx hb hX hzl hz hM g1 d_LA_law_114 ?_
  obtain ⟨g2, h⟩ := of_g h
  obtain ⟨q3, hq3, h⟩ := of_b h
  refine g_calli (va_runV (As := [.int (xs (Int32.toNatClampNeg (i4 + 1)))]) (rest := []) ⟨hx, hb, hml, hown, hts⟩ (S_JL_relation l D b cs r1 (xs (Int32.toNatClampNeg (i4 + 1))) μ q3 n hq3) ⟨callB_of 1 hts (goodIn_g jm_2_24) rfl rfl rfl (hts _ jm_0_1) (hts _ jm_2_21) (by decide +kernel) ⟨Nat.le_of_ble_eq_true rfl, Nat.le_of_ble_eq_true rfl⟩, (hts _ jm_2_22), (hts _ jm_2_23)⟩ (Wd.preV hK hM g2 rfl (by decide)) rfl rfl hl.1 rfl (lv_room (Nat.le_of_ble_eq_true rfl)) d_LA_law_115 ⟨by first | exact hRc | exact Nat.le_trans (Nat.le_succ _) hRc, by first | exact hRs | exact Nat.le_trans (Nat.le_add_right _ 6) hRs⟩) hM (fun H locs hM => ?_)
  refine lv_aload_n hx hb d_LA_law_118 rfl (lv_at hl 2 rfl) ?_
  refine lv_aload_n hx hb d_LA_law_119 rfl (lv_at hl 0 rfl) ?_
  refine lv_iload hx hb d_LA_law_120 (lv_at hl 4 rfl) ?_
  refine lv_iconst (v := 1) hx hb d_LA_law_122 (by decide) ?_
  refine lv_iadd hx hb d_LA_law_123 ?_
  obtain ⟨g4, h⟩ := of_g h
  refine g_sld hx hb hX hzl hz hM g4 d_LA_law_124 ?_
  obtain ⟨g5, h⟩ := of_g h
  obtain ⟨q6, hq6, h⟩ := of_b h
  refine g_calli (va_runV (As := [.int (xs (Int32.toNatClampNeg (i4 + 1)))]) (rest := [.int q3.1]) ⟨hx, hb, hml, hown, hts⟩ (S_MO_relation l D b cs r2 (xs (Int32.toNatClampNeg (i4 + 1))) q3.2 q6 n hq6) ⟨callB_of 1 hts (goodIn_g jm_9_17) rfl rfl rfl (hts _ jm_0_7) (hts _ jm_9_14) (by decide +kernel) ⟨Nat.le_of_ble_eq_true rfl, Nat.le_of_ble_eq_true rfl⟩, (hts _ jm_9_15), (hts _ jm_9_16)⟩ (Wd.preV hK hM g5 rfl (by decide)) rfl rfl hl.1 rfl (lv_room (Nat.le_of_ble_eq_true rfl)) d_LA_law_125 ⟨by first | exact hRc | exact Nat.le_trans (Nat.le_succ _) hRc, by first | exact hRs | exact Nat.le_trans (Nat.le_add_right _ 6) hRs⟩) hM (fun H locs hM => ?_)
  refine lv_icmp_eq (tgt := 653) hx hb d_LA_law_128 (by decide) (fun hc => ?_) (fun hc => ?_)
  · replace h := of_t hc h
    obtain rfl := Option.some.inj h
    refine W.widen (k := cells + 1) (n := slots + 6) (by first | exact Nat.le_refl _ | exact Nat.le_add_right _ _) (by first | exact Nat.le_refl _ | exact Nat.le_add_right _ _) ?_
    exact kk _ _ _ hM (lv_sub hl [0, 1, 2, 3, 4] rfl)
  · replace h := of_f hc h
    refine lv_iconst (v := 0) hx hb d_LA_law_131 (by decide) ?_
    exact (nomatch h)
def T_1 (n r1 r2 r3 : Nat) (i4 : Int32) (L : Nat) (xs : Nat → Int32) (μ : Mem) : Option Mem :=
  if ib (i4 + 1) L = true then if ib (i4 + 2) L = true then if ib (i4 + 3) L = true then if ib (i4 + 4) L = true then if ok μ r1 5 = true then Option.bind (C_JL_add n r1 (xs (Int32.toNatClampNeg (i4 + 1))) (xs (Int32.toNatClampNeg (i4 + 2))) (xs (Int32.toNatClampNeg (i4 + 3))) (xs (Int32.toNatClampNeg (i4 + 4))) μ) (fun q6 => if ib (i4 + 1) L = true then if ib (i4 + 2) L = true then if ib (i4 + 3) L = true then if ib (i4 + 4) L = true then if ok q6.2 r2 6 = true then Option.bind (C_MO_add n r2 (xs (Int32.toNatClampNeg (i4 + 1))) (xs (Int32.toNatClampNeg (i4 + 2))) (xs (Int32.toNatClampNeg (i4 + 3))) (xs (Int32.toNatClampNeg (i4 + 4))) q6.2) (fun q12 => if q6.1 = q12.1 then some q12.2 else none) else none else none else none else none else none) else none else none else none else none else none
set_option maxHeartbeats 4000000 in
set_option maxRecDepth 100000 in
theorem K_1 {p : Program} {e : Env} {s : State} {m : MethodId} {below : List Frame} {meth : Method} {c : Code} {Q : State → Prop} (l : Launch) (hst : l.stackTraces = false) (D : va_G) (b : Nat) (cs : Nat → ClassId) {z L : Nat} {xs : Nat → Int32} (hx : p.tables.exec = Jvm.exec) (hb : c.code = code) (hml : c.maxLocals = 8) (hown : s.vm.findClass "JoinedLeavesLaw" = some m.cls) (hts : ∀ w ∈ jW, w.before #[Value.ref z] s = true) (hK : Kw cs D s) (hZ : Zx b s s.heap) (hX : va_X z L xs s s.heap) (hzl : z < s.heap.size) (hz : z ≤ b) (r1 r2 r3 : Nat) (i4 : Int32) (μ res : Mem) (n : Nat) (h : T_1 n r1 r2 r3 i4 L xs μ = some res) {H : Heap} {locs : List Loc} {cells slots : Nat} {ls : Array Slot} (hM : Wd (Ab b) b cs D s.heap μ H locs) (hl : lv_has ls 8 [(0, .ref z), (1, .ref (b + r1)), (2, .ref (b + r2)), (3, .ref (b + r3)), (4, .int i4)]) (hRc : cells + 1 ≤ room_1.cells) (hRs : slots + 6 ≤ room_1.slots)
    (kk : ∀ (H : Heap) (locs : List Loc) (ls : Array Slot), Wd (Ab b) b cs D s.heap res H locs → lv_has ls 8 [(0, .ref z), (1, .ref (b + r1)), (2, .ref (b + r2)), (3, .ref (b + r3)), (4, .int i4)] → W p l e room_1 s m #[Value.ref z] below meth c H locs (cells + 1) (slots + 6) Q (F0 m 653 ls [])) : W p l e room_1 s m #[Value.ref z] below meth c H locs cells slots Q (F0 m 133 ls []) := by
  unfold T_1 at h
  refine lv_aload_n hx hb d_LA_law_133 rfl (lv_at hl 1 rfl) ?_
  refine lv_aload_n hx hb d_LA_law_134 rfl (lv_at hl 0 rfl) ?_
  refine lv_iload hx hb d_LA_law_135 (lv_at hl 4 rfl) ?_
  refine lv_iconst (v := 1) hx hb d_LA_law_137 (by decide) ?_
  refine lv_iadd hx hb d_LA_law_138 ?_
  obtain ⟨g1, h⟩ := of_g h
  refine g_sld hx hb hX hzl hz hM g1 d_LA_law_139 ?_
  refine lv_aload_n hx hb d_LA_law_140 rfl (lv_at hl 0 rfl) ?_
  refine lv_iload hx hb d_LA_law_141 (lv_at hl 4 rfl) ?_
  refine lv_iconst (v := 2) hx hb d_LA_law_143 (by decide) ?_
  refine lv_iadd hx hb d_LA_law_144 ?_
  obtain ⟨g2, h⟩ := of_g h
  refine g_sld hx hb hX hzl hz hM g2 d_LA_law_145 ?_
  refine lv_aload_n hx hb d_LA_law_146 rfl (lv_at hl 0 rfl) ?_
  refine lv_iload hx hb d_LA_law_147 (lv_at hl 4 rfl) ?_
  refine lv_iconst (v := 3) hx hb d_LA_law_149 (by decide) ?_
  refine lv_iadd hx hb d_LA_law_150 ?_
  obtain ⟨g3, h⟩ := of_g h
  refine g_sld hx hb hX hzl hz hM g3 d_LA_law_151 ?_
  refine lv_aload_n hx hb d_LA_law_152 rfl (lv_at hl 0 rfl) ?_
  refine lv_iload hx hb d_LA_law_153 (lv_at hl 4 rfl) ?_
  refine lv_iconst (v := 4) hx hb d_LA_law_155 (by decide) ?_
  refine lv_iadd hx hb d_LA_law_156 ?_
  obtain ⟨g4, h⟩ := of_g h
  refine g_sld hx hb hX hzl hz hM g4 d_LA_law_157 ?_
  obtain ⟨g5, h⟩ := of_g h
  obtain ⟨q6, hq6, h⟩ := of_b h
  refine g_calli (va_runV (As := [.int (xs (Int32.toNatClampNeg (i4 + 1))), .int (xs (Int32.toNatClampNeg (i4 + 2))), .int (xs (Int32.toNatClampNeg (i4 + 3))), .int (xs (Int32.toNatClampNeg (i4 + 4)))]) (rest := []) ⟨hx, hb, hml, hown, hts⟩ (S_JL_add l D b cs r1 (xs (Int32.toNatClampNeg (i4 + 1))) (xs (Int32.toNatClampNeg (i4 + 2))) (xs (Int32.toNatClampNeg (i4 + 3))) (xs (Int32.toNatClampNeg (i4 + 4))) μ q6 n hq6) ⟨callB_of 4 hts (goodIn_g jm_2_28) rfl rfl rfl (hts _ jm_0_1) (hts _ jm_2_25) (by decide +kernel) ⟨Nat.le_of_ble_eq_true rfl, Nat.le_of_ble_eq_true rfl⟩, (hts _ jm_2_26), (hts _ jm_2_27)⟩ (Wd.preV hK hM g5 rfl (by decide)) rfl rfl hl.1 rfl (lv_room (Nat.le_of_ble_eq_true rfl)) d_LA_law_158 ⟨by first | exact hRc | exact Nat.le_trans (Nat.le_succ _) hRc, by first | exact hRs | exact Nat.le_trans (Nat.le_add_right _ 6) hRs⟩) hM (fun H locs hM => ?_)
  refine lv_aload_n hx hb d_LA_law_161 rfl (lv_at hl 2 rfl) ?_
  refine lv_aload_n hx hb d_LA_law_162 rfl (lv_at hl 0 rfl) ?_
  refine lv_iload hx hb d_LA_law_163 (lv_at hl 4 rfl) ?_
  refine lv_iconst (v := 1) hx hb d_LA_law_165 (by decide) ?_
  refine lv_iadd hx hb d_LA_law_166 ?_
  obtain ⟨g7, h⟩ := of_g h
  refine g_sld hx hb hX hzl hz hM g7 d_LA_law_167 ?_
  refine lv_aload_n hx hb d_LA_law_168 rfl (lv_at hl 0 rfl) ?_
  refine lv_iload hx hb d_LA_law_169 (lv_at hl 4 rfl) ?_
  refine lv_iconst (v := 2) hx hb d_LA_law_171 (by decide) ?_
  refine lv_iadd hx hb d_LA_law_172 ?_
  obtain ⟨g8, h⟩ := of_g h
  refine g_sld hx hb hX hzl hz hM g8 d_LA_law_173 ?_
  refine lv_aload_n hx hb d_LA_law_174 rfl (lv_at hl 0 rfl) ?_
  refine lv_iload hx hb d_LA_law_175 (lv_at hl 4 rfl) ?_
  refine lv_iconst (v := 3) hx hb d_LA_law_177 (by decide) ?_
  refine lv_iadd hx hb d_LA_law_178 ?_
  obtain ⟨g9, h⟩ := of_g h
  refine g_sld hx hb hX hzl hz hM g9 d_LA_law_179 ?_
  refine lv_aload_n hx hb d_LA_law_180 rfl (lv_at hl 0 rfl) ?_
  refine lv_iload hx hb d_LA_law_181 (lv_at hl 4 rfl) ?_
  refine lv_iconst (v := 4) hx hb d_LA_law_183 (by decide) ?_
  refine lv_iadd hx hb d_LA_law_184 ?_
  obtain ⟨g10, h⟩ := of_g h
  refine g_sld hx hb hX hzl hz hM g10 d_LA_law_185 ?_
  obtain ⟨g11, h⟩ := of_g h
  obtain ⟨q12, hq12, h⟩ := of_b h
  refine g_calli (va_runV (As := [.int (xs (Int32.toNatClampNeg (i4 + 1))), .int (xs (Int32.toNatClampNeg (i4 + 2))), .int (xs (Int32.toNatClampNeg (i4 + 3))), .int (xs (Int32.toNatClampNeg (i4 + 4)))]) (rest := [.int q6.1]) ⟨hx, hb, hml, hown, hts⟩ (S_MO_add l D b cs r2 (xs (Int32.toNatClampNeg (i4 + 1))) (xs (Int32.toNatClampNeg (i4 + 2))) (xs (Int32.toNatClampNeg (i4 + 3))) (xs (Int32.toNatClampNeg (i4 + 4))) q6.2 q12 n hq12) ⟨callB_of 4 hts (goodIn_g jm_9_21) rfl rfl rfl (hts _ jm_0_7) (hts _ jm_9_18) (by decide +kernel) ⟨Nat.le_of_ble_eq_true rfl, Nat.le_of_ble_eq_true rfl⟩, (hts _ jm_9_19), (hts _ jm_9_20)⟩ (Wd.preV hK hM g11 rfl (by decide)) rfl rfl hl.1 rfl (lv_room (Nat.le_of_ble_eq_true rfl)) d_LA_law_186 ⟨by first | exact hRc | exact Nat.le_trans (Nat.le_succ _) hRc, by first | exact hRs | exact Nat.le_trans (Nat.le_add_right _ 6) hRs⟩) hM (fun H locs hM => ?_)
  refine lv_icmp_eq (tgt := 653) hx hb d_LA_law_189 (by decide) (fun hc => ?_) (fun hc => ?_)
  · replace h := of_t hc h
    obtain rfl := Option.some.inj h
    refine W.widen (k := cells + 1) (n := slots + 6) (by first | exact Nat.le_refl _ | exact Nat.le_add_right _ _) (by first | exact Nat.le_refl _ | exact Nat.le_add_right _ _) ?_
    exact kk _ _ _ hM (lv_sub hl [0, 1, 2, 3, 4] rfl)
  · replace h := of_f hc h
    refine lv_iconst (v := 0) hx hb d_LA_law_192 (by decide) ?_
    exact (nomatch h)
def T_2 (n r1 r2 r3 : Nat) (i4 : Int32) (L : Nat) (xs : Nat → Int32) (μ : Mem) : Option Mem :=
  if ib (i4 + 1) L = true then if ib (i4 + 2) L = true then if ib (i4 + 3) L = true then if ib (i4 + 4) L = true then if ok μ r1 5 = true then Option.bind (C_JL_drop n r1 (xs (Int32.toNatClampNeg (i4 + 1))) (xs (Int32.toNatClampNeg (i4 + 2))) (xs (Int32.toNatClampNeg (i4 + 3))) (xs (Int32.toNatClampNeg (i4 + 4))) μ) (fun q6 => if ib (i4 + 1) L = true then if ib (i4 + 2) L = true then if ib (i4 + 3) L = true then if ib (i4 + 4) L = true then if ok q6.2 r2 6 = true then Option.bind (C_MO_drop n r2 (xs (Int32.toNatClampNeg (i4 + 1))) (xs (Int32.toNatClampNeg (i4 + 2))) (xs (Int32.toNatClampNeg (i4 + 3))) (xs (Int32.toNatClampNeg (i4 + 4))) q6.2) (fun q12 => if q6.1 = q12.1 then some q12.2 else none) else none else none else none else none else none) else none else none else none else none else none
set_option maxHeartbeats 4000000 in
set_option maxRecDepth 100000 in
theorem K_2 {p : Program} {e : Env} {s : State} {m : MethodId} {below : List Frame} {meth : Method} {c : Code} {Q : State → Prop} (l : Launch) (hst : l.stackTraces = false) (D : va_G) (b : Nat) (cs : Nat → ClassId) {z L : Nat} {xs : Nat → Int32} (hx : p.tables.exec = Jvm.exec) (hb : c.code = code) (hml : c.maxLocals = 8) (hown : s.vm.findClass "JoinedLeavesLaw" = some m.cls) (hts : ∀ w ∈ jW, w.before #[Value.ref z] s = true) (hK : Kw cs D s) (hZ : Zx b s s.heap) (hX : va_X z L xs s s.heap) (hzl : z < s.heap.size) (hz : z ≤ b) (r1 r2 r3 : Nat) (i4 : Int32) (μ res : Mem) (n : Nat) (h : T_2 n r1 r2 r3 i4 L xs μ = some res) {H : Heap} {locs : List Loc} {cells slots : Nat} {ls : Array Slot} (hM : Wd (Ab b) b cs D s.heap μ H locs) (hl : lv_has ls 8 [(0, .ref z), (1, .ref (b + r1)), (2, .ref (b + r2)), (3, .ref (b + r3)), (4, .int i4)]) (hRc : cells + 1 ≤ room_1.cells) (hRs : slots + 6 ≤ room_1.slots)
    (kk : ∀ (H : Heap) (locs : List Loc) (ls : Array Slot), Wd (Ab b) b cs D s.heap res H locs → lv_has ls 8 [(0, .ref z), (1, .ref (b + r1)), (2, .ref (b + r2)), (3, .ref (b + r3)), (4, .int i4)] → W p l e room_1 s m #[Value.ref z] below meth c H locs (cells + 1) (slots + 6) Q (F0 m 653 ls [])) : W p l e room_1 s m #[Value.ref z] below meth c H locs cells slots Q (F0 m 194 ls []) := by
  unfold T_2 at h
  refine lv_aload_n hx hb d_LA_law_194 rfl (lv_at hl 1 rfl) ?_
  refine lv_aload_n hx hb d_LA_law_195 rfl (lv_at hl 0 rfl) ?_
  refine lv_iload hx hb d_LA_law_196 (lv_at hl 4 rfl) ?_
  refine lv_iconst (v := 1) hx hb d_LA_law_198 (by decide) ?_
  refine lv_iadd hx hb d_LA_law_199 ?_
  obtain ⟨g1, h⟩ := of_g h
  refine g_sld hx hb hX hzl hz hM g1 d_LA_law_200 ?_
  refine lv_aload_n hx hb d_LA_law_201 rfl (lv_at hl 0 rfl) ?_
  refine lv_iload hx hb d_LA_law_202 (lv_at hl 4 rfl) ?_
  refine lv_iconst (v := 2) hx hb d_LA_law_204 (by decide) ?_
  refine lv_iadd hx hb d_LA_law_205 ?_
  obtain ⟨g2, h⟩ := of_g h
  refine g_sld hx hb hX hzl hz hM g2 d_LA_law_206 ?_
  refine lv_aload_n hx hb d_LA_law_207 rfl (lv_at hl 0 rfl) ?_
  refine lv_iload hx hb d_LA_law_208 (lv_at hl 4 rfl) ?_
  refine lv_iconst (v := 3) hx hb d_LA_law_210 (by decide) ?_
  refine lv_iadd hx hb d_LA_law_211 ?_
  obtain ⟨g3, h⟩ := of_g h
  refine g_sld hx hb hX hzl hz hM g3 d_LA_law_212 ?_
  refine lv_aload_n hx hb d_LA_law_213 rfl (lv_at hl 0 rfl) ?_
  refine lv_iload hx hb d_LA_law_214 (lv_at hl 4 rfl) ?_
  refine lv_iconst (v := 4) hx hb d_LA_law_216 (by decide) ?_
  refine lv_iadd hx hb d_LA_law_217 ?_
  obtain ⟨g4, h⟩ := of_g h
  refine g_sld hx hb hX hzl hz hM g4 d_LA_law_218 ?_
  obtain ⟨g5, h⟩ := of_g h
  obtain ⟨q6, hq6, h⟩ := of_b h
  refine g_calli (va_runV (As := [.int (xs (Int32.toNatClampNeg (i4 + 1))), .int (xs (Int32.toNatClampNeg (i4 + 2))), .int (xs (Int32.toNatClampNeg (i4 + 3))), .int (xs (Int32.toNatClampNeg (i4 + 4)))]) (rest := []) ⟨hx, hb, hml, hown, hts⟩ (S_JL_drop l D b cs r1 (xs (Int32.toNatClampNeg (i4 + 1))) (xs (Int32.toNatClampNeg (i4 + 2))) (xs (Int32.toNatClampNeg (i4 + 3))) (xs (Int32.toNatClampNeg (i4 + 4))) μ q6 n hq6) ⟨callB_of 4 hts (goodIn_g jm_2_43) rfl rfl rfl (hts _ jm_0_1) (hts _ jm_2_40) (by decide +kernel) ⟨Nat.le_of_ble_eq_true rfl, Nat.le_of_ble_eq_true rfl⟩, (hts _ jm_2_41), (hts _ jm_2_42)⟩ (Wd.preV hK hM g5 rfl (by decide)) rfl rfl hl.1 rfl (lv_room (Nat.le_of_ble_eq_true rfl)) d_LA_law_219 ⟨by first | exact hRc | exact Nat.le_trans (Nat.le_succ _) hRc, by first | exact hRs | exact Nat.le_trans (Nat.le_add_right _ 6) hRs⟩) hM (fun H locs hM => ?_)
  refine lv_aload_n hx hb d_LA_law_222 rfl (lv_at hl 2 rfl) ?_
  refine lv_aload_n hx hb d_LA_law_223 rfl (lv_at hl 0 rfl) ?_
  refine lv_iload hx hb d_LA_law_224 (lv_at hl 4 rfl) ?_
  refine lv_iconst (v := 1) hx hb d_LA_law_226 (by decide) ?_
  refine lv_iadd hx hb d_LA_law_227 ?_
  obtain ⟨g7, h⟩ := of_g h
  refine g_sld hx hb hX hzl hz hM g7 d_LA_law_228 ?_
  refine lv_aload_n hx hb d_LA_law_229 rfl (lv_at hl 0 rfl) ?_
  refine lv_iload hx hb d_LA_law_230 (lv_at hl 4 rfl) ?_
  refine lv_iconst (v := 2) hx hb d_LA_law_232 (by decide) ?_
  refine lv_iadd hx hb d_LA_law_233 ?_
  obtain ⟨g8, h⟩ := of_g h
  refine g_sld hx hb hX hzl hz hM g8 d_LA_law_234 ?_
  refine lv_aload_n hx hb d_LA_law_235 rfl (lv_at hl 0 rfl) ?_
  refine lv_iload hx hb d_LA_law_236 (lv_at hl 4 rfl) ?_
  refine lv_iconst (v := 3) hx hb d_LA_law_238 (by decide) ?_
  refine lv_iadd hx hb d_LA_law_239 ?_
  obtain ⟨g9, h⟩ := of_g h
  refine g_sld hx hb hX hzl hz hM g9 d_LA_law_240 ?_
  refine lv_aload_n hx hb d_LA_law_241 rfl (lv_at hl 0 rfl) ?_
  refine lv_iload hx hb d_LA_law_242 (lv_at hl 4 rfl) ?_
  refine lv_iconst (v := 4) hx hb d_LA_law_244 (by decide) ?_
  refine lv_iadd hx hb d_LA_law_245 ?_
  obtain ⟨g10, h⟩ := of_g h
  refine g_sld hx hb hX hzl hz hM g10 d_LA_law_246 ?_
  obtain ⟨g11, h⟩ := of_g h
  obtain ⟨q12, hq12, h⟩ := of_b h
  refine g_calli (va_runV (As := [.int (xs (Int32.toNatClampNeg (i4 + 1))), .int (xs (Int32.toNatClampNeg (i4 + 2))), .int (xs (Int32.toNatClampNeg (i4 + 3))), .int (xs (Int32.toNatClampNeg (i4 + 4)))]) (rest := [.int q6.1]) ⟨hx, hb, hml, hown, hts⟩ (S_MO_drop l D b cs r2 (xs (Int32.toNatClampNeg (i4 + 1))) (xs (Int32.toNatClampNeg (i4 + 2))) (xs (Int32.toNatClampNeg (i4 + 3))) (xs (Int32.toNatClampNeg (i4 + 4))) q6.2 q12 n hq12) ⟨callB_of 4 hts (goodIn_g jm_9_34) rfl rfl rfl (hts _ jm_0_7) (hts _ jm_9_31) (by decide +kernel) ⟨Nat.le_of_ble_eq_true rfl, Nat.le_of_ble_eq_true rfl⟩, (hts _ jm_9_32), (hts _ jm_9_33)⟩ (Wd.preV hK hM g11 rfl (by decide)) rfl rfl hl.1 rfl (lv_room (Nat.le_of_ble_eq_true rfl)) d_LA_law_247 ⟨by first | exact hRc | exact Nat.le_trans (Nat.le_succ _) hRc, by first | exact hRs | exact Nat.le_trans (Nat.le_add_right _ 6) hRs⟩) hM (fun H locs hM => ?_)
  refine lv_icmp_eq (tgt := 653) hx hb d_LA_law_250 (by decide) (fun hc => ?_) (fun hc => ?_)
  · replace h := of_t hc h
    obtain rfl := Option.some.inj h
    refine W.widen (k := cells + 1) (n := slots + 6) (by first | exact Nat.le_refl _ | exact Nat.le_add_right _ _) (by first | exact Nat.le_refl _ | exact Nat.le_add_right _ _) ?_
    exact kk _ _ _ hM (lv_sub hl [0, 1, 2, 3, 4] rfl)
  · replace h := of_f hc h
    refine lv_iconst (v := 0) hx hb d_LA_law_253 (by decide) ?_
    exact (nomatch h)
def T_3 (n r1 r2 r3 : Nat) (i4 : Int32) (L : Nat) (xs : Nat → Int32) (μ : Mem) : Option Mem :=
  if ib (i4 + 1) L = true then if ok μ r1 5 = true then Option.bind (C_JL_rows n r1 (xs (Int32.toNatClampNeg (i4 + 1))) μ) (fun q3 => if ib (i4 + 1) L = true then if ok q3.2 r2 6 = true then Option.bind (C_MO_rows n r2 (xs (Int32.toNatClampNeg (i4 + 1))) q3.2) (fun q6 => if q3.1 = q6.1 then some q6.2 else none) else none else none) else none else none
set_option maxHeartbeats 4000000 in
set_option maxRecDepth 100000 in
theorem K_3 {p : Program} {e : Env} {s : State} {m : MethodId} {below : List Frame} {meth : Method} {c : Code} {Q : State → Prop} (l : Launch) (hst : l.stackTraces = false) (D : va_G) (b : Nat) (cs : Nat → ClassId) {z L : Nat} {xs : Nat → Int32} (hx : p.tables.exec = Jvm.exec) (hb : c.code = code) (hml : c.maxLocals = 8) (hown : s.vm.findClass "JoinedLeavesLaw" = some m.cls) (hts : ∀ w ∈ jW, w.before #[Value.ref z] s = true) (hK : Kw cs D s) (hZ : Zx b s s.heap) (hX : va_X z L xs s s.heap) (hzl : z < s.heap.size) (hz : z ≤ b) (r1 r2 r3 : Nat) (i4 : Int32) (μ res : Mem) (n : Nat) (h : T_3 n r1 r2 r3 i4 L xs μ = some res) {H : Heap} {locs : List Loc} {cells slots : Nat} {ls : Array Slot} (hM : Wd (Ab b) b cs D s.heap μ H locs) (hl : lv_has ls 8 [(0, .ref z), (1, .ref (b + r1)), (2, .ref (b + r2)), (3, .ref (b + r3)), (4, .int i4)]) (hRc : cells + 1 ≤ room_1.cells) (hRs : slots + 6 ≤ room_1.slots)
    (kk : ∀ (H : Heap) (locs : List Loc) (ls : Array Slot), Wd (Ab b) b cs D s.heap res H locs → lv_has ls 8 [(0, .ref z), (1, .ref (b + r1)), (2, .ref (b + r2)), (3, .ref (b + r3)), (4, .int i4)] → W p l e room_1 s m #[Value.ref z] below meth c H locs (cells + 1) (slots + 6) Q (F0 m 653 ls [])) : W p l e room_1 s m #[Value.ref z] below meth c H locs cells slots Q (F0 m 255 ls []) := by
  unfold T_3 at h
  refine lv_aload_n hx hb d_LA_law_255 rfl (lv_at hl 1 rfl) ?_
  refine lv_aload_n hx hb d_LA_law_256 rfl (lv_at hl 0 rfl) ?_
  refine lv_iload hx hb d_LA_law_257 (lv_at hl 4 rfl) ?_
  refine lv_iconst (v := 1) hx hb d_LA_law_259 (by decide) ?_
  refine lv_iadd hx hb d_LA_law_260 ?_
  obtain ⟨g1, h⟩ := of_g h
  refine g_sld hx hb hX hzl hz hM g1 d_LA_law_261 ?_
  obtain ⟨g2, h⟩ := of_g h
  obtain ⟨q3, hq3, h⟩ := of_b h
  refine g_calli (va_runV (As := [.int (xs (Int32.toNatClampNeg (i4 + 1)))]) (rest := []) ⟨hx, hb, hml, hown, hts⟩ (S_JL_rows l D b cs r1 (xs (Int32.toNatClampNeg (i4 + 1))) μ q3 n hq3) ⟨callB_of 1 hts (goodIn_g jm_3_1) rfl rfl rfl (hts _ jm_0_1) (hts _ jm_2_46) (by decide +kernel) ⟨Nat.le_of_ble_eq_true rfl, Nat.le_of_ble_eq_true rfl⟩, (hts _ jm_2_47), (hts _ jm_3_0)⟩ (Wd.preV hK hM g2 rfl (by decide)) rfl rfl hl.1 rfl (lv_room (Nat.le_of_ble_eq_true rfl)) d_LA_law_262 ⟨by first | exact hRc | exact Nat.le_trans (Nat.le_succ _) hRc, by first | exact hRs | exact Nat.le_trans (Nat.le_add_right _ 6) hRs⟩) hM (fun H locs hM => ?_)
  refine lv_aload_n hx hb d_LA_law_265 rfl (lv_at hl 2 rfl) ?_
  refine lv_aload_n hx hb d_LA_law_266 rfl (lv_at hl 0 rfl) ?_
  refine lv_iload hx hb d_LA_law_267 (lv_at hl 4 rfl) ?_
  refine lv_iconst (v := 1) hx hb d_LA_law_269 (by decide) ?_
  refine lv_iadd hx hb d_LA_law_270 ?_
  obtain ⟨g4, h⟩ := of_g h
  refine g_sld hx hb hX hzl hz hM g4 d_LA_law_271 ?_
  obtain ⟨g5, h⟩ := of_g h
  obtain ⟨q6, hq6, h⟩ := of_b h
  refine g_calli (va_runV (As := [.int (xs (Int32.toNatClampNeg (i4 + 1)))]) (rest := [.int q3.1]) ⟨hx, hb, hml, hown, hts⟩ (S_MO_rows l D b cs r2 (xs (Int32.toNatClampNeg (i4 + 1))) q3.2 q6 n hq6) ⟨callB_of 1 hts (goodIn_g jm_9_38) rfl rfl rfl (hts _ jm_0_7) (hts _ jm_9_35) (by decide +kernel) ⟨Nat.le_of_ble_eq_true rfl, Nat.le_of_ble_eq_true rfl⟩, (hts _ jm_9_36), (hts _ jm_9_37)⟩ (Wd.preV hK hM g5 rfl (by decide)) rfl rfl hl.1 rfl (lv_room (Nat.le_of_ble_eq_true rfl)) d_LA_law_272 ⟨by first | exact hRc | exact Nat.le_trans (Nat.le_succ _) hRc, by first | exact hRs | exact Nat.le_trans (Nat.le_add_right _ 6) hRs⟩) hM (fun H locs hM => ?_)
  refine lv_icmp_eq (tgt := 653) hx hb d_LA_law_275 (by decide) (fun hc => ?_) (fun hc => ?_)
  · replace h := of_t hc h
    obtain rfl := Option.some.inj h
    refine W.widen (k := cells + 1) (n := slots + 6) (by first | exact Nat.le_refl _ | exact Nat.le_add_right _ _) (by first | exact Nat.le_refl _ | exact Nat.le_add_right _ _) ?_
    exact kk _ _ _ hM (lv_sub hl [0, 1, 2, 3, 4] rfl)
  · replace h := of_f hc h
    refine lv_iconst (v := 0) hx hb d_LA_law_278 (by decide) ?_
    exact (nomatch h)
def T_4 (n r1 r2 r3 : Nat) (i4 : Int32) (L : Nat) (xs : Nat → Int32) (μ : Mem) : Option Mem :=
  if ib (i4 + 1) L = true then if ib (i4 + 2) L = true then if ib (i4 + 3) L = true then if ib (i4 + 4) L = true then if ok μ r1 5 = true then Option.bind (C_JL_atom n r1 (xs (Int32.toNatClampNeg (i4 + 1))) (xs (Int32.toNatClampNeg (i4 + 2))) (xs (Int32.toNatClampNeg (i4 + 3))) (xs (Int32.toNatClampNeg (i4 + 4))) μ) (fun q6 => if ib (i4 + 1) L = true then if ib (i4 + 2) L = true then if ib (i4 + 3) L = true then if ib (i4 + 4) L = true then if ok q6.2 r2 6 = true then Option.bind (C_MO_atom n r2 (xs (Int32.toNatClampNeg (i4 + 1))) (xs (Int32.toNatClampNeg (i4 + 2))) (xs (Int32.toNatClampNeg (i4 + 3))) (xs (Int32.toNatClampNeg (i4 + 4))) q6.2) (fun q12 => if q6.1 = q12.1 then some q12.2 else none) else none else none else none else none else none) else none else none else none else none else none
set_option maxHeartbeats 4000000 in
set_option maxRecDepth 100000 in
theorem K_4 {p : Program} {e : Env} {s : State} {m : MethodId} {below : List Frame} {meth : Method} {c : Code} {Q : State → Prop} (l : Launch) (hst : l.stackTraces = false) (D : va_G) (b : Nat) (cs : Nat → ClassId) {z L : Nat} {xs : Nat → Int32} (hx : p.tables.exec = Jvm.exec) (hb : c.code = code) (hml : c.maxLocals = 8) (hown : s.vm.findClass "JoinedLeavesLaw" = some m.cls) (hts : ∀ w ∈ jW, w.before #[Value.ref z] s = true) (hK : Kw cs D s) (hZ : Zx b s s.heap) (hX : va_X z L xs s s.heap) (hzl : z < s.heap.size) (hz : z ≤ b) (r1 r2 r3 : Nat) (i4 : Int32) (μ res : Mem) (n : Nat) (h : T_4 n r1 r2 r3 i4 L xs μ = some res) {H : Heap} {locs : List Loc} {cells slots : Nat} {ls : Array Slot} (hM : Wd (Ab b) b cs D s.heap μ H locs) (hl : lv_has ls 8 [(0, .ref z), (1, .ref (b + r1)), (2, .ref (b + r2)), (3, .ref (b + r3)), (4, .int i4)]) (hRc : cells + 1 ≤ room_1.cells) (hRs : slots + 6 ≤ room_1.slots)
    (kk : ∀ (H : Heap) (locs : List Loc) (ls : Array Slot), Wd (Ab b) b cs D s.heap res H locs → lv_has ls 8 [(0, .ref z), (1, .ref (b + r1)), (2, .ref (b + r2)), (3, .ref (b + r3)), (4, .int i4)] → W p l e room_1 s m #[Value.ref z] below meth c H locs (cells + 1) (slots + 6) Q (F0 m 653 ls [])) : W p l e room_1 s m #[Value.ref z] below meth c H locs cells slots Q (F0 m 280 ls []) := by
  unfold T_4 at h
  refine lv_aload_n hx hb d_LA_law_280 rfl (lv_at hl 1 rfl) ?_
  refine lv_aload_n hx hb d_LA_law_281 rfl (lv_at hl 0 rfl) ?_
  refine lv_iload hx hb d_LA_law_282 (lv_at hl 4 rfl) ?_
  refine lv_iconst (v := 1) hx hb d_LA_law_284 (by decide) ?_
  refine lv_iadd hx hb d_LA_law_285 ?_
  obtain ⟨g1, h⟩ := of_g h
  refine g_sld hx hb hX hzl hz hM g1 d_LA_law_286 ?_
  refine lv_aload_n hx hb d_LA_law_287 rfl (lv_at hl 0 rfl) ?_
  refine lv_iload hx hb d_LA_law_288 (lv_at hl 4 rfl) ?_
  refine lv_iconst (v := 2) hx hb d_LA_law_290 (by decide) ?_
  refine lv_iadd hx hb d_LA_law_291 ?_
  obtain ⟨g2, h⟩ := of_g h
  refine g_sld hx hb hX hzl hz hM g2 d_LA_law_292 ?_
  refine lv_aload_n hx hb d_LA_law_293 rfl (lv_at hl 0 rfl) ?_
  refine lv_iload hx hb d_LA_law_294 (lv_at hl 4 rfl) ?_
  refine lv_iconst (v := 3) hx hb d_LA_law_296 (by decide) ?_
  refine lv_iadd hx hb d_LA_law_297 ?_
  obtain ⟨g3, h⟩ := of_g h
  refine g_sld hx hb hX hzl hz hM g3 d_LA_law_298 ?_
  refine lv_aload_n hx hb d_LA_law_299 rfl (lv_at hl 0 rfl) ?_
  refine lv_iload hx hb d_LA_law_300 (lv_at hl 4 rfl) ?_
  refine lv_iconst (v := 4) hx hb d_LA_law_302 (by decide) ?_
  refine lv_iadd hx hb d_LA_law_303 ?_
  obtain ⟨g4, h⟩ := of_g h
  refine g_sld hx hb hX hzl hz hM g4 d_LA_law_304 ?_
  obtain ⟨g5, h⟩ := of_g h
  obtain ⟨q6, hq6, h⟩ := of_b h
  refine g_calli (va_runV (As := [.int (xs (Int32.toNatClampNeg (i4 + 1))), .int (xs (Int32.toNatClampNeg (i4 + 2))), .int (xs (Int32.toNatClampNeg (i4 + 3))), .int (xs (Int32.toNatClampNeg (i4 + 4)))]) (rest := []) ⟨hx, hb, hml, hown, hts⟩ (S_JL_atom l D b cs r1 (xs (Int32.toNatClampNeg (i4 + 1))) (xs (Int32.toNatClampNeg (i4 + 2))) (xs (Int32.toNatClampNeg (i4 + 3))) (xs (Int32.toNatClampNeg (i4 + 4))) μ q6 n hq6) ⟨callB_of 4 hts (goodIn_g jm_3_5) rfl rfl rfl (hts _ jm_0_1) (hts _ jm_3_2) (by decide +kernel) ⟨Nat.le_of_ble_eq_true rfl, Nat.le_of_ble_eq_true rfl⟩, (hts _ jm_3_3), (hts _ jm_3_4)⟩ (Wd.preV hK hM g5 rfl (by decide)) rfl rfl hl.1 rfl (lv_room (Nat.le_of_ble_eq_true rfl)) d_LA_law_305 ⟨by first | exact hRc | exact Nat.le_trans (Nat.le_succ _) hRc, by first | exact hRs | exact Nat.le_trans (Nat.le_add_right _ 6) hRs⟩) hM (fun H locs hM => ?_)
  refine lv_aload_n hx hb d_LA_law_308 rfl (lv_at hl 2 rfl) ?_
  refine lv_aload_n hx hb d_LA_law_309 rfl (lv_at hl 0 rfl) ?_
  refine lv_iload hx hb d_LA_law_310 (lv_at hl 4 rfl) ?_
  refine lv_iconst (v := 1) hx hb d_LA_law_312 (by decide) ?_
  refine lv_iadd hx hb d_LA_law_313 ?_
  obtain ⟨g7, h⟩ := of_g h
  refine g_sld hx hb hX hzl hz hM g7 d_LA_law_314 ?_
  refine lv_aload_n hx hb d_LA_law_315 rfl (lv_at hl 0 rfl) ?_
  refine lv_iload hx hb d_LA_law_316 (lv_at hl 4 rfl) ?_
  refine lv_iconst (v := 2) hx hb d_LA_law_318 (by decide) ?_
  refine lv_iadd hx hb d_LA_law_319 ?_
  obtain ⟨g8, h⟩ := of_g h
  refine g_sld hx hb hX hzl hz hM g8 d_LA_law_320 ?_
  refine lv_aload_n hx hb d_LA_law_321 rfl (lv_at hl 0 rfl) ?_
  refine lv_iload hx hb d_LA_law_322 (lv_at hl 4 rfl) ?_
  refine lv_iconst (v := 3) hx hb d_LA_law_324 (by decide) ?_
  refine lv_iadd hx hb d_LA_law_325 ?_
  obtain ⟨g9, h⟩ := of_g h
  refine g_sld hx hb hX hzl hz hM g9 d_LA_law_326 ?_
  refine lv_aload_n hx hb d_LA_law_327 rfl (lv_at hl 0 rfl) ?_
  refine lv_iload hx hb d_LA_law_328 (lv_at hl 4 rfl) ?_
  refine lv_iconst (v := 4) hx hb d_LA_law_330 (by decide) ?_
  refine lv_iadd hx hb d_LA_law_331 ?_
  obtain ⟨g10, h⟩ := of_g h
  refine g_sld hx hb hX hzl hz hM g10 d_LA_law_332 ?_
  obtain ⟨g11, h⟩ := of_g h
  obtain ⟨q12, hq12, h⟩ := of_b h
  refine g_calli (va_runV (As := [.int (xs (Int32.toNatClampNeg (i4 + 1))), .int (xs (Int32.toNatClampNeg (i4 + 2))), .int (xs (Int32.toNatClampNeg (i4 + 3))), .int (xs (Int32.toNatClampNeg (i4 + 4)))]) (rest := [.int q6.1]) ⟨hx, hb, hml, hown, hts⟩ (S_MO_atom l D b cs r2 (xs (Int32.toNatClampNeg (i4 + 1))) (xs (Int32.toNatClampNeg (i4 + 2))) (xs (Int32.toNatClampNeg (i4 + 3))) (xs (Int32.toNatClampNeg (i4 + 4))) q6.2 q12 n hq12) ⟨callB_of 4 hts (goodIn_g jm_9_42) rfl rfl rfl (hts _ jm_0_7) (hts _ jm_9_39) (by decide +kernel) ⟨Nat.le_of_ble_eq_true rfl, Nat.le_of_ble_eq_true rfl⟩, (hts _ jm_9_40), (hts _ jm_9_41)⟩ (Wd.preV hK hM g11 rfl (by decide)) rfl rfl hl.1 rfl (lv_room (Nat.le_of_ble_eq_true rfl)) d_LA_law_333 ⟨by first | exact hRc | exact Nat.le_trans (Nat.le_succ _) hRc, by first | exact hRs | exact Nat.le_trans (Nat.le_add_right _ 6) hRs⟩) hM (fun H locs hM => ?_)
  refine lv_icmp_eq (tgt := 653) hx hb d_LA_law_336 (by decide) (fun hc => ?_) (fun hc => ?_)
  · replace h := of_t hc h
    obtain rfl := Option.some.inj h
    refine W.widen (k := cells + 1) (n := slots + 6) (by first | exact Nat.le_refl _ | exact Nat.le_add_right _ _) (by first | exact Nat.le_refl _ | exact Nat.le_add_right _ _) ?_
    exact kk _ _ _ hM (lv_sub hl [0, 1, 2, 3, 4] rfl)
  · replace h := of_f hc h
    refine lv_iconst (v := 0) hx hb d_LA_law_339 (by decide) ?_
    exact (nomatch h)
def T_5 (n r1 r2 r3 : Nat) (i4 : Int32) (L : Nat) (xs : Nat → Int32) (μ : Mem) : Option Mem :=
  if ib (i4 + 1) L = true then if ok μ r1 5 = true then Option.bind (C_JL_head n r1 (xs (Int32.toNatClampNeg (i4 + 1))) μ) (fun q3 => if ib (i4 + 1) L = true then if ok q3.2 r2 6 = true then Option.bind (C_MO_head n r2 (xs (Int32.toNatClampNeg (i4 + 1))) q3.2) (fun q6 => if q3.1 = q6.1 then some q6.2 else none) else none else none) else none else none
set_option maxHeartbeats 4000000 in
set_option maxRecDepth 100000 in
theorem K_5 {p : Program} {e : Env} {s : State} {m : MethodId} {below : List Frame} {meth : Method} {c : Code} {Q : State → Prop} (l : Launch) (hst : l.stackTraces = false) (D : va_G) (b : Nat) (cs : Nat → ClassId) {z L : Nat} {xs : Nat → Int32} (hx : p.tables.exec = Jvm.exec) (hb : c.code = code) (hml : c.maxLocals = 8) (hown : s.vm.findClass "JoinedLeavesLaw" = some m.cls) (hts : ∀ w ∈ jW, w.before #[Value.ref z] s = true) (hK : Kw cs D s) (hZ : Zx b s s.heap) (hX : va_X z L xs s s.heap) (hzl : z < s.heap.size) (hz : z ≤ b) (r1 r2 r3 : Nat) (i4 : Int32) (μ res : Mem) (n : Nat) (h : T_5 n r1 r2 r3 i4 L xs μ = some res) {H : Heap} {locs : List Loc} {cells slots : Nat} {ls : Array Slot} (hM : Wd (Ab b) b cs D s.heap μ H locs) (hl : lv_has ls 8 [(0, .ref z), (1, .ref (b + r1)), (2, .ref (b + r2)), (3, .ref (b + r3)), (4, .int i4)]) (hRc : cells + 1 ≤ room_1.cells) (hRs : slots + 6 ≤ room_1.slots)
    (kk : ∀ (H : Heap) (locs : List Loc) (ls : Array Slot), Wd (Ab b) b cs D s.heap res H locs → lv_has ls 8 [(0, .ref z), (1, .ref (b + r1)), (2, .ref (b + r2)), (3, .ref (b + r3)), (4, .int i4)] → W p l e room_1 s m #[Value.ref z] below meth c H locs (cells + 1) (slots + 6) Q (F0 m 653 ls [])) : W p l e room_1 s m #[Value.ref z] below meth c H locs cells slots Q (F0 m 341 ls []) := by
  unfold T_5 at h
  refine lv_aload_n hx hb d_LA_law_341 rfl (lv_at hl 1 rfl) ?_
  refine lv_aload_n hx hb d_LA_law_342 rfl (lv_at hl 0 rfl) ?_
  refine lv_iload hx hb d_LA_law_343 (lv_at hl 4 rfl) ?_
  refine lv_iconst (v := 1) hx hb d_LA_law_345 (by decide) ?_
  refine lv_iadd hx hb d_LA_law_346 ?_
  obtain ⟨g1, h⟩ := of_g h
  refine g_sld hx hb hX hzl hz hM g1 d_LA_law_347 ?_
  obtain ⟨g2, h⟩ := of_g h
  obtain ⟨q3, hq3, h⟩ := of_b h
  refine g_calli (va_runV (As := [.int (xs (Int32.toNatClampNeg (i4 + 1)))]) (rest := []) ⟨hx, hb, hml, hown, hts⟩ (S_JL_head l D b cs r1 (xs (Int32.toNatClampNeg (i4 + 1))) μ q3 n hq3) ⟨callB_of 1 hts (goodIn_g jm_3_26) rfl rfl rfl (hts _ jm_0_1) (hts _ jm_3_23) (by decide +kernel) ⟨Nat.le_of_ble_eq_true rfl, Nat.le_of_ble_eq_true rfl⟩, (hts _ jm_3_24), (hts _ jm_3_25)⟩ (Wd.preV hK hM g2 rfl (by decide)) rfl rfl hl.1 rfl (lv_room (Nat.le_of_ble_eq_true rfl)) d_LA_law_348 ⟨by first | exact hRc | exact Nat.le_trans (Nat.le_succ _) hRc, by first | exact hRs | exact Nat.le_trans (Nat.le_add_right _ 6) hRs⟩) hM (fun H locs hM => ?_)
  refine lv_aload_n hx hb d_LA_law_351 rfl (lv_at hl 2 rfl) ?_
  refine lv_aload_n hx hb d_LA_law_352 rfl (lv_at hl 0 rfl) ?_
  refine lv_iload hx hb d_LA_law_353 (lv_at hl 4 rfl) ?_
  refine lv_iconst (v := 1) hx hb d_LA_law_355 (by decide) ?_
  refine lv_iadd hx hb d_LA_law_356 ?_
  obtain ⟨g4, h⟩ := of_g h
  refine g_sld hx hb hX hzl hz hM g4 d_LA_law_357 ?_
  obtain ⟨g5, h⟩ := of_g h
  obtain ⟨q6, hq6, h⟩ := of_b h
  refine g_calli (va_runV (As := [.int (xs (Int32.toNatClampNeg (i4 + 1)))]) (rest := [.int q3.1]) ⟨hx, hb, hml, hown, hts⟩ (S_MO_head l D b cs r2 (xs (Int32.toNatClampNeg (i4 + 1))) q3.2 q6 n hq6) ⟨callB_of 1 hts (goodIn_g jm_9_46) rfl rfl rfl (hts _ jm_0_7) (hts _ jm_9_43) (by decide +kernel) ⟨Nat.le_of_ble_eq_true rfl, Nat.le_of_ble_eq_true rfl⟩, (hts _ jm_9_44), (hts _ jm_9_45)⟩ (Wd.preV hK hM g5 rfl (by decide)) rfl rfl hl.1 rfl (lv_room (Nat.le_of_ble_eq_true rfl)) d_LA_law_358 ⟨by first | exact hRc | exact Nat.le_trans (Nat.le_succ _) hRc, by first | exact hRs | exact Nat.le_trans (Nat.le_add_right _ 6) hRs⟩) hM (fun H locs hM => ?_)
  refine lv_icmp_eq (tgt := 653) hx hb d_LA_law_361 (by decide) (fun hc => ?_) (fun hc => ?_)
  · replace h := of_t hc h
    obtain rfl := Option.some.inj h
    refine W.widen (k := cells + 1) (n := slots + 6) (by first | exact Nat.le_refl _ | exact Nat.le_add_right _ _) (by first | exact Nat.le_refl _ | exact Nat.le_add_right _ _) ?_
    exact kk _ _ _ hM (lv_sub hl [0, 1, 2, 3, 4] rfl)
  · replace h := of_f hc h
    refine lv_iconst (v := 0) hx hb d_LA_law_364 (by decide) ?_
    exact (nomatch h)
def T_6 (n r1 r2 r3 : Nat) (i4 : Int32) (L : Nat) (xs : Nat → Int32) (μ : Mem) : Option Mem :=
  if ok μ r1 5 = true then Option.bind (C_JL_clear n r1 μ) (fun q2 => if ok q2.2 r2 6 = true then Option.bind (C_MO_clear n r2 q2.2) (fun q4 => if q2.1 = q4.1 then some q4.2 else none) else none) else none
set_option maxHeartbeats 4000000 in
set_option maxRecDepth 100000 in
theorem K_6 {p : Program} {e : Env} {s : State} {m : MethodId} {below : List Frame} {meth : Method} {c : Code} {Q : State → Prop} (l : Launch) (hst : l.stackTraces = false) (D : va_G) (b : Nat) (cs : Nat → ClassId) {z L : Nat} {xs : Nat → Int32} (hx : p.tables.exec = Jvm.exec) (hb : c.code = code) (hml : c.maxLocals = 8) (hown : s.vm.findClass "JoinedLeavesLaw" = some m.cls) (hts : ∀ w ∈ jW, w.before #[Value.ref z] s = true) (hK : Kw cs D s) (hZ : Zx b s s.heap) (hX : va_X z L xs s s.heap) (hzl : z < s.heap.size) (hz : z ≤ b) (r1 r2 r3 : Nat) (i4 : Int32) (μ res : Mem) (n : Nat) (h : T_6 n r1 r2 r3 i4 L xs μ = some res) {H : Heap} {locs : List Loc} {cells slots : Nat} {ls : Array Slot} (hM : Wd (Ab b) b cs D s.heap μ H locs) (hl : lv_has ls 8 [(0, .ref z), (1, .ref (b + r1)), (2, .ref (b + r2)), (3, .ref (b + r3)), (4, .int i4)]) (hRc : cells + 1 ≤ room_1.cells) (hRs : slots + 6 ≤ room_1.slots)
    (kk : ∀ (H : Heap) (locs : List Loc) (ls : Array Slot), Wd (Ab b) b cs D s.heap res H locs → lv_has ls 8 [(0, .ref z), (1, .ref (b + r1)), (2, .ref (b + r2)), (3, .ref (b + r3)), (4, .int i4)] → W p l e room_1 s m #[Value.ref z] below meth c H locs (cells + 1) (slots + 6) Q (F0 m 653 ls [])) : W p l e room_1 s m #[Value.ref z] below meth c H locs cells slots Q (F0 m 366 ls []) := by
  unfold T_6 at h
  refine lv_aload_n hx hb d_LA_law_366 rfl (lv_at hl 1 rfl) ?_
  obtain ⟨g1, h⟩ := of_g h
  obtain ⟨q2, hq2, h⟩ := of_b h
  refine g_calli (va_runV (As := []) (rest := []) ⟨hx, hb, hml, hown, hts⟩ (S_JL_clear l D b cs r1 μ q2 n hq2) ⟨callB_of 0 hts (goodIn_g jm_3_32) rfl rfl rfl (hts _ jm_0_1) (hts _ jm_3_29) (by decide +kernel) ⟨Nat.le_of_ble_eq_true rfl, Nat.le_of_ble_eq_true rfl⟩, (hts _ jm_3_30), (hts _ jm_3_31)⟩ (Wd.preV hK hM g1 rfl (by decide)) rfl rfl hl.1 rfl (lv_room (Nat.le_of_ble_eq_true rfl)) d_LA_law_367 ⟨by first | exact hRc | exact Nat.le_trans (Nat.le_succ _) hRc, by first | exact hRs | exact Nat.le_trans (Nat.le_add_right _ 6) hRs⟩) hM (fun H locs hM => ?_)
  refine lv_aload_n hx hb d_LA_law_370 rfl (lv_at hl 2 rfl) ?_
  obtain ⟨g3, h⟩ := of_g h
  obtain ⟨q4, hq4, h⟩ := of_b h
  refine g_calli (va_runV (As := []) (rest := [.int q2.1]) ⟨hx, hb, hml, hown, hts⟩ (S_MO_clear l D b cs r2 q2.2 q4 n hq4) ⟨callB_of 0 hts (goodIn_g jm_10_2) rfl rfl rfl (hts _ jm_0_7) (hts _ jm_9_47) (by decide +kernel) ⟨Nat.le_of_ble_eq_true rfl, Nat.le_of_ble_eq_true rfl⟩, (hts _ jm_10_0), (hts _ jm_10_1)⟩ (Wd.preV hK hM g3 rfl (by decide)) rfl rfl hl.1 rfl (lv_room (Nat.le_of_ble_eq_true rfl)) d_LA_law_371 ⟨by first | exact hRc | exact Nat.le_trans (Nat.le_succ _) hRc, by first | exact hRs | exact Nat.le_trans (Nat.le_add_right _ 6) hRs⟩) hM (fun H locs hM => ?_)
  refine lv_icmp_eq (tgt := 653) hx hb d_LA_law_374 (by decide) (fun hc => ?_) (fun hc => ?_)
  · replace h := of_t hc h
    obtain rfl := Option.some.inj h
    refine W.widen (k := cells + 1) (n := slots + 6) (by first | exact Nat.le_refl _ | exact Nat.le_add_right _ _) (by first | exact Nat.le_refl _ | exact Nat.le_add_right _ _) ?_
    exact kk _ _ _ hM (lv_sub hl [0, 1, 2, 3, 4] rfl)
  · replace h := of_f hc h
    refine lv_iconst (v := 0) hx hb d_LA_law_377 (by decide) ?_
    exact (nomatch h)
def T_7 (n r1 r2 r3 : Nat) (i4 : Int32) (L : Nat) (xs : Nat → Int32) (μ : Mem) : Option Mem :=
  if ok μ r1 5 = true then Option.bind (C_JL_tree n r1 μ) (fun q2 => if ok q2.2 r2 6 = true then Option.bind (C_MO_tree n r2 q2.2) (fun q4 => if q2.1 = q4.1 then some q4.2 else none) else none) else none
set_option maxHeartbeats 4000000 in
set_option maxRecDepth 100000 in
theorem K_7 {p : Program} {e : Env} {s : State} {m : MethodId} {below : List Frame} {meth : Method} {c : Code} {Q : State → Prop} (l : Launch) (hst : l.stackTraces = false) (D : va_G) (b : Nat) (cs : Nat → ClassId) {z L : Nat} {xs : Nat → Int32} (hx : p.tables.exec = Jvm.exec) (hb : c.code = code) (hml : c.maxLocals = 8) (hown : s.vm.findClass "JoinedLeavesLaw" = some m.cls) (hts : ∀ w ∈ jW, w.before #[Value.ref z] s = true) (hK : Kw cs D s) (hZ : Zx b s s.heap) (hX : va_X z L xs s s.heap) (hzl : z < s.heap.size) (hz : z ≤ b) (r1 r2 r3 : Nat) (i4 : Int32) (μ res : Mem) (n : Nat) (h : T_7 n r1 r2 r3 i4 L xs μ = some res) {H : Heap} {locs : List Loc} {cells slots : Nat} {ls : Array Slot} (hM : Wd (Ab b) b cs D s.heap μ H locs) (hl : lv_has ls 8 [(0, .ref z), (1, .ref (b + r1)), (2, .ref (b + r2)), (3, .ref (b + r3)), (4, .int i4)]) (hRc : cells + 1 ≤ room_1.cells) (hRs : slots + 6 ≤ room_1.slots)
    (kk : ∀ (H : Heap) (locs : List Loc) (ls : Array Slot), Wd (Ab b) b cs D s.heap res H locs → lv_has ls 8 [(0, .ref z), (1, .ref (b + r1)), (2, .ref (b + r2)), (3, .ref (b + r3)), (4, .int i4)] → W p l e room_1 s m #[Value.ref z] below meth c H locs (cells + 1) (slots + 6) Q (F0 m 653 ls [])) : W p l e room_1 s m #[Value.ref z] below meth c H locs cells slots Q (F0 m 379 ls []) := by
  unfold T_7 at h
  refine lv_aload_n hx hb d_LA_law_379 rfl (lv_at hl 1 rfl) ?_
  obtain ⟨g1, h⟩ := of_g h
  obtain ⟨q2, hq2, h⟩ := of_b h
  refine g_calli (va_runV (As := []) (rest := []) ⟨hx, hb, hml, hown, hts⟩ (S_JL_tree l D b cs r1 μ q2 n hq2) ⟨callB_of 0 hts (goodIn_g jm_3_38) rfl rfl rfl (hts _ jm_0_1) (hts _ jm_3_35) (by decide +kernel) ⟨Nat.le_of_ble_eq_true rfl, Nat.le_of_ble_eq_true rfl⟩, (hts _ jm_3_36), (hts _ jm_3_37)⟩ (Wd.preV hK hM g1 rfl (by decide)) rfl rfl hl.1 rfl (lv_room (Nat.le_of_ble_eq_true rfl)) d_LA_law_380 ⟨by first | exact hRc | exact Nat.le_trans (Nat.le_succ _) hRc, by first | exact hRs | exact Nat.le_trans (Nat.le_add_right _ 6) hRs⟩) hM (fun H locs hM => ?_)
  refine lv_aload_n hx hb d_LA_law_383 rfl (lv_at hl 2 rfl) ?_
  obtain ⟨g3, h⟩ := of_g h
  obtain ⟨q4, hq4, h⟩ := of_b h
  refine g_calli (va_runV (As := []) (rest := [.int q2.1]) ⟨hx, hb, hml, hown, hts⟩ (S_MO_tree l D b cs r2 q2.2 q4 n hq4) ⟨callB_of 0 hts (goodIn_g jm_10_6) rfl rfl rfl (hts _ jm_0_7) (hts _ jm_10_3) (by decide +kernel) ⟨Nat.le_of_ble_eq_true rfl, Nat.le_of_ble_eq_true rfl⟩, (hts _ jm_10_4), (hts _ jm_10_5)⟩ (Wd.preV hK hM g3 rfl (by decide)) rfl rfl hl.1 rfl (lv_room (Nat.le_of_ble_eq_true rfl)) d_LA_law_384 ⟨by first | exact hRc | exact Nat.le_trans (Nat.le_succ _) hRc, by first | exact hRs | exact Nat.le_trans (Nat.le_add_right _ 6) hRs⟩) hM (fun H locs hM => ?_)
  refine lv_icmp_eq (tgt := 653) hx hb d_LA_law_387 (by decide) (fun hc => ?_) (fun hc => ?_)
  · replace h := of_t hc h
    obtain rfl := Option.some.inj h
    refine W.widen (k := cells + 1) (n := slots + 6) (by first | exact Nat.le_refl _ | exact Nat.le_add_right _ _) (by first | exact Nat.le_refl _ | exact Nat.le_add_right _ _) ?_
    exact kk _ _ _ hM (lv_sub hl [0, 1, 2, 3, 4] rfl)
  · replace h := of_f hc h
    refine lv_iconst (v := 0) hx hb d_LA_law_390 (by decide) ?_
    exact (nomatch h)
def T_8 (n r1 r2 r3 : Nat) (i4 : Int32) (L : Nat) (xs : Nat → Int32) (μ : Mem) : Option Mem :=
  if ib (i4 + 1) L = true then if ok μ r1 5 = true then Option.bind (C_JL_parent n r1 (xs (Int32.toNatClampNeg (i4 + 1))) μ) (fun q3 => if ib (i4 + 1) L = true then if ok q3.2 r2 6 = true then Option.bind (C_MO_parent n r2 (xs (Int32.toNatClampNeg (i4 + 1))) q3.2) (fun q6 => if q3.1 = q6.1 then some q6.2 else none) else none else none) else none else none
set_option maxHeartbeats 4000000 in
set_option maxRecDepth 100000 in
theorem K_8 {p : Program} {e : Env} {s : State} {m : MethodId} {below : List Frame} {meth : Method} {c : Code} {Q : State → Prop} (l : Launch) (hst : l.stackTraces = false) (D : va_G) (b : Nat) (cs : Nat → ClassId) {z L : Nat} {xs : Nat → Int32} (hx : p.tables.exec = Jvm.exec) (hb : c.code = code) (hml : c.maxLocals = 8) (hown : s.vm.findClass "JoinedLeavesLaw" = some m.cls) (hts : ∀ w ∈ jW, w.before #[Value.ref z] s = true) (hK : Kw cs D s) (hZ : Zx b s s.heap) (hX : va_X z L xs s s.heap) (hzl : z < s.heap.size) (hz : z ≤ b) (r1 r2 r3 : Nat) (i4 : Int32) (μ res : Mem) (n : Nat) (h : T_8 n r1 r2 r3 i4 L xs μ = some res) {H : Heap} {locs : List Loc} {cells slots : Nat} {ls : Array Slot} (hM : Wd (Ab b) b cs D s.heap μ H locs) (hl : lv_has ls 8 [(0, .ref z), (1, .ref (b + r1)), (2, .ref (b + r2)), (3, .ref (b + r3)), (4, .int i4)]) (hRc : cells + 1 ≤ room_1.cells) (hRs : slots + 6 ≤ room_1.slots)
    (kk : ∀ (H : Heap) (locs : List Loc) (ls : Array Slot), Wd (Ab b) b cs D s.heap res H locs → lv_has ls 8 [(0, .ref z), (1, .ref (b + r1)), (2, .ref (b + r2)), (3, .ref (b + r3)), (4, .int i4)] → W p l e room_1 s m #[Value.ref z] below meth c H locs (cells + 1) (slots + 6) Q (F0 m 653 ls [])) : W p l e room_1 s m #[Value.ref z] below meth c H locs cells slots Q (F0 m 392 ls []) := by
  unfold T_8 at h
  refine lv_aload_n hx hb d_LA_law_392 rfl (lv_at hl 1 rfl) ?_
  refine lv_aload_n hx hb d_LA_law_393 rfl (lv_at hl 0 rfl) ?_
  refine lv_iload hx hb d_LA_law_394 (lv_at hl 4 rfl) ?_
  refine lv_iconst (v := 1) hx hb d_LA_law_396 (by decide) ?_
  refine lv_iadd hx hb d_LA_law_397 ?_
  obtain ⟨g1, h⟩ := of_g h
  refine g_sld hx hb hX hzl hz hM g1 d_LA_law_398 ?_
  obtain ⟨g2, h⟩ := of_g h
  obtain ⟨q3, hq3, h⟩ := of_b h
  refine g_calli (va_runV (As := [.int (xs (Int32.toNatClampNeg (i4 + 1)))]) (rest := []) ⟨hx, hb, hml, hown, hts⟩ (S_JL_parent l D b cs r1 (xs (Int32.toNatClampNeg (i4 + 1))) μ q3 n hq3) ⟨callB_of 1 hts (goodIn_g jm_3_44) rfl rfl rfl (hts _ jm_0_1) (hts _ jm_3_41) (by decide +kernel) ⟨Nat.le_of_ble_eq_true rfl, Nat.le_of_ble_eq_true rfl⟩, (hts _ jm_3_42), (hts _ jm_3_43)⟩ (Wd.preV hK hM g2 rfl (by decide)) rfl rfl hl.1 rfl (lv_room (Nat.le_of_ble_eq_true rfl)) d_LA_law_399 ⟨by first | exact hRc | exact Nat.le_trans (Nat.le_succ _) hRc, by first | exact hRs | exact Nat.le_trans (Nat.le_add_right _ 6) hRs⟩) hM (fun H locs hM => ?_)
  refine lv_aload_n hx hb d_LA_law_402 rfl (lv_at hl 2 rfl) ?_
  refine lv_aload_n hx hb d_LA_law_403 rfl (lv_at hl 0 rfl) ?_
  refine lv_iload hx hb d_LA_law_404 (lv_at hl 4 rfl) ?_
  refine lv_iconst (v := 1) hx hb d_LA_law_406 (by decide) ?_
  refine lv_iadd hx hb d_LA_law_407 ?_
  obtain ⟨g4, h⟩ := of_g h
  refine g_sld hx hb hX hzl hz hM g4 d_LA_law_408 ?_
  obtain ⟨g5, h⟩ := of_g h
  obtain ⟨q6, hq6, h⟩ := of_b h
  refine g_calli (va_runV (As := [.int (xs (Int32.toNatClampNeg (i4 + 1)))]) (rest := [.int q3.1]) ⟨hx, hb, hml, hown, hts⟩ (S_MO_parent l D b cs r2 (xs (Int32.toNatClampNeg (i4 + 1))) q3.2 q6 n hq6) ⟨callB_of 1 hts (goodIn_g jm_10_25) rfl rfl rfl (hts _ jm_0_7) (hts _ jm_10_22) (by decide +kernel) ⟨Nat.le_of_ble_eq_true rfl, Nat.le_of_ble_eq_true rfl⟩, (hts _ jm_10_23), (hts _ jm_10_24)⟩ (Wd.preV hK hM g5 rfl (by decide)) rfl rfl hl.1 rfl (lv_room (Nat.le_of_ble_eq_true rfl)) d_LA_law_409 ⟨by first | exact hRc | exact Nat.le_trans (Nat.le_succ _) hRc, by first | exact hRs | exact Nat.le_trans (Nat.le_add_right _ 6) hRs⟩) hM (fun H locs hM => ?_)
  refine lv_icmp_eq (tgt := 653) hx hb d_LA_law_412 (by decide) (fun hc => ?_) (fun hc => ?_)
  · replace h := of_t hc h
    obtain rfl := Option.some.inj h
    refine W.widen (k := cells + 1) (n := slots + 6) (by first | exact Nat.le_refl _ | exact Nat.le_add_right _ _) (by first | exact Nat.le_refl _ | exact Nat.le_add_right _ _) ?_
    exact kk _ _ _ hM (lv_sub hl [0, 1, 2, 3, 4] rfl)
  · replace h := of_f hc h
    refine lv_iconst (v := 0) hx hb d_LA_law_415 (by decide) ?_
    exact (nomatch h)
def T_9 (n r1 r2 r3 : Nat) (i4 : Int32) (L : Nat) (xs : Nat → Int32) (μ : Mem) : Option Mem :=
  if ib (i4 + 1) L = true then if ok μ r1 5 = true then Option.bind (C_JL_turn n r1 (xs (Int32.toNatClampNeg (i4 + 1))) μ) (fun q3 => if ib (i4 + 1) L = true then if ok q3.2 r2 6 = true then Option.bind (C_MO_turn n r2 (xs (Int32.toNatClampNeg (i4 + 1))) q3.2) (fun q6 => if q3.1 = q6.1 then some q6.2 else none) else none else none) else none else none
set_option maxHeartbeats 4000000 in
set_option maxRecDepth 100000 in
theorem K_9 {p : Program} {e : Env} {s : State} {m : MethodId} {below : List Frame} {meth : Method} {c : Code} {Q : State → Prop} (l : Launch) (hst : l.stackTraces = false) (D : va_G) (b : Nat) (cs : Nat → ClassId) {z L : Nat} {xs : Nat → Int32} (hx : p.tables.exec = Jvm.exec) (hb : c.code = code) (hml : c.maxLocals = 8) (hown : s.vm.findClass "JoinedLeavesLaw" = some m.cls) (hts : ∀ w ∈ jW, w.before #[Value.ref z] s = true) (hK : Kw cs D s) (hZ : Zx b s s.heap) (hX : va_X z L xs s s.heap) (hzl : z < s.heap.size) (hz : z ≤ b) (r1 r2 r3 : Nat) (i4 : Int32) (μ res : Mem) (n : Nat) (h : T_9 n r1 r2 r3 i4 L xs μ = some res) {H : Heap} {locs : List Loc} {cells slots : Nat} {ls : Array Slot} (hM : Wd (Ab b) b cs D s.heap μ H locs) (hl : lv_has ls 8 [(0, .ref z), (1, .ref (b + r1)), (2, .ref (b + r2)), (3, .ref (b + r3)), (4, .int i4)]) (hRc : cells + 1 ≤ room_1.cells) (hRs : slots + 6 ≤ room_1.slots)
    (kk : ∀ (H : Heap) (locs : List Loc) (ls : Array Slot), Wd (Ab b) b cs D s.heap res H locs → lv_has ls 8 [(0, .ref z), (1, .ref (b + r1)), (2, .ref (b + r2)), (3, .ref (b + r3)), (4, .int i4)] → W p l e room_1 s m #[Value.ref z] below meth c H locs (cells + 1) (slots + 6) Q (F0 m 653 ls [])) : W p l e room_1 s m #[Value.ref z] below meth c H locs cells slots Q (F0 m 417 ls []) := by
  unfold T_9 at h
  refine lv_aload_n hx hb d_LA_law_417 rfl (lv_at hl 1 rfl) ?_
  refine lv_aload_n hx hb d_LA_law_418 rfl (lv_at hl 0 rfl) ?_
  refine lv_iload hx hb d_LA_law_419 (lv_at hl 4 rfl) ?_
  refine lv_iconst (v := 1) hx hb d_LA_law_421 (by decide) ?_
  refine lv_iadd hx hb d_LA_law_422 ?_
  obtain ⟨g1, h⟩ := of_g h
  refine g_sld hx hb hX hzl hz hM g1 d_LA_law_423 ?_
  obtain ⟨g2, h⟩ := of_g h
  obtain ⟨q3, hq3, h⟩ := of_b h
  refine g_calli (va_runV (As := [.int (xs (Int32.toNatClampNeg (i4 + 1)))]) (rest := []) ⟨hx, hb, hml, hown, hts⟩ (S_JL_turn l D b cs r1 (xs (Int32.toNatClampNeg (i4 + 1))) μ q3 n hq3) ⟨callB_of 1 hts (goodIn_g jm_4_0) rfl rfl rfl (hts _ jm_0_1) (hts _ jm_3_45) (by decide +kernel) ⟨Nat.le_of_ble_eq_true rfl, Nat.le_of_ble_eq_true rfl⟩, (hts _ jm_3_46), (hts _ jm_3_47)⟩ (Wd.preV hK hM g2 rfl (by decide)) rfl rfl hl.1 rfl (lv_room (Nat.le_of_ble_eq_true rfl)) d_LA_law_424 ⟨by first | exact hRc | exact Nat.le_trans (Nat.le_succ _) hRc, by first | exact hRs | exact Nat.le_trans (Nat.le_add_right _ 6) hRs⟩) hM (fun H locs hM => ?_)
  refine lv_aload_n hx hb d_LA_law_427 rfl (lv_at hl 2 rfl) ?_
  refine lv_aload_n hx hb d_LA_law_428 rfl (lv_at hl 0 rfl) ?_
  refine lv_iload hx hb d_LA_law_429 (lv_at hl 4 rfl) ?_
  refine lv_iconst (v := 1) hx hb d_LA_law_431 (by decide) ?_
  refine lv_iadd hx hb d_LA_law_432 ?_
  obtain ⟨g4, h⟩ := of_g h
  refine g_sld hx hb hX hzl hz hM g4 d_LA_law_433 ?_
  obtain ⟨g5, h⟩ := of_g h
  obtain ⟨q6, hq6, h⟩ := of_b h
  refine g_calli (va_runV (As := [.int (xs (Int32.toNatClampNeg (i4 + 1)))]) (rest := [.int q3.1]) ⟨hx, hb, hml, hown, hts⟩ (S_MO_turn l D b cs r2 (xs (Int32.toNatClampNeg (i4 + 1))) q3.2 q6 n hq6) ⟨callB_of 1 hts (goodIn_g jm_10_32) rfl rfl rfl (hts _ jm_0_7) (hts _ jm_10_29) (by decide +kernel) ⟨Nat.le_of_ble_eq_true rfl, Nat.le_of_ble_eq_true rfl⟩, (hts _ jm_10_30), (hts _ jm_10_31)⟩ (Wd.preV hK hM g5 rfl (by decide)) rfl rfl hl.1 rfl (lv_room (Nat.le_of_ble_eq_true rfl)) d_LA_law_434 ⟨by first | exact hRc | exact Nat.le_trans (Nat.le_succ _) hRc, by first | exact hRs | exact Nat.le_trans (Nat.le_add_right _ 6) hRs⟩) hM (fun H locs hM => ?_)
  refine lv_icmp_eq (tgt := 653) hx hb d_LA_law_437 (by decide) (fun hc => ?_) (fun hc => ?_)
  · replace h := of_t hc h
    obtain rfl := Option.some.inj h
    refine W.widen (k := cells + 1) (n := slots + 6) (by first | exact Nat.le_refl _ | exact Nat.le_add_right _ _) (by first | exact Nat.le_refl _ | exact Nat.le_add_right _ _) ?_
    exact kk _ _ _ hM (lv_sub hl [0, 1, 2, 3, 4] rfl)
  · replace h := of_f hc h
    refine lv_iconst (v := 0) hx hb d_LA_law_440 (by decide) ?_
    exact (nomatch h)
def T_10 (n r1 r2 r3 : Nat) (i4 : Int32) (L : Nat) (xs : Nat → Int32) (μ : Mem) : Option Mem :=
  Option.bind (D_LA_ways n r1 r3 μ) (fun q1 => if ok q1.2 r2 6 = true then Option.bind (C_MO_ways n r2 q1.2) (fun q3 => if ok q3.2 r2 6 = true then Option.bind (C_MO_thrown n r2 q3.2) (fun q5 => if q5.1 = q1.1 then if q1.1 = 0 then if ok q5.2 r3 101 = true then if ib 0 (mZ q5.2 r3) = true then if (lg_cmp (mL q5.2 r3 (Int32.toNatClampNeg 0)) q3.1) = 0 then some q5.2 else none else none else none else some q5.2 else none) else none) else none)
set_option maxHeartbeats 4000000 in
set_option maxRecDepth 100000 in
theorem K_10 {p : Program} {e : Env} {s : State} {m : MethodId} {below : List Frame} {meth : Method} {c : Code} {Q : State → Prop} (l : Launch) (hst : l.stackTraces = false) (D : va_G) (b : Nat) (cs : Nat → ClassId) {z L : Nat} {xs : Nat → Int32} (hx : p.tables.exec = Jvm.exec) (hb : c.code = code) (hml : c.maxLocals = 8) (hown : s.vm.findClass "JoinedLeavesLaw" = some m.cls) (hts : ∀ w ∈ jW, w.before #[Value.ref z] s = true) (hK : Kw cs D s) (hZ : Zx b s s.heap) (hX : va_X z L xs s s.heap) (hzl : z < s.heap.size) (hz : z ≤ b) (r1 r2 r3 : Nat) (i4 : Int32) (μ res : Mem) (n : Nat) (h : T_10 n r1 r2 r3 i4 L xs μ = some res) {H : Heap} {locs : List Loc} {cells slots : Nat} {ls : Array Slot} (hM : Wd (Ab b) b cs D s.heap μ H locs) (hl : lv_has ls 8 [(0, .ref z), (1, .ref (b + r1)), (2, .ref (b + r2)), (3, .ref (b + r3)), (4, .int i4)]) (hRc : cells + 1 ≤ room_1.cells) (hRs : slots + 6 ≤ room_1.slots)
    (kk : ∀ (H : Heap) (locs : List Loc) (ls : Array Slot), Wd (Ab b) b cs D s.heap res H locs → lv_has ls 8 [(0, .ref z), (1, .ref (b + r1)), (2, .ref (b + r2)), (3, .ref (b + r3)), (4, .int i4)] → W p l e room_1 s m #[Value.ref z] below meth c H locs (cells + 1) (slots + 6) Q (F0 m 653 ls [])) : W p l e room_1 s m #[Value.ref z] below meth c H locs cells slots Q (F0 m 442 ls []) := by
  unfold T_10 at h
  refine lv_aload_n hx hb d_LA_law_442 rfl (lv_at hl 1 rfl) ?_
  refine lv_aload_n hx hb d_LA_law_443 rfl (lv_at hl 3 rfl) ?_
  obtain ⟨q1, hq1, h⟩ := of_b h
  refine g_callA (n := 2) (As := [.ref (b + r1), .ref (b + r3)]) (rest := []) hx hb hml hown hts hK hZ hM (fun x h1 h2 => by have h2 : b < x := h2; omega) (Z_LA_ways l hst D b cs r1 r3 μ q1 n hq1) jm_4_3 jm_0_0 jm_4_1 jm_4_2 (by decide +kernel) (Nat.le_of_ble_eq_true rfl) (Nat.le_of_ble_eq_true rfl) rfl hl.1 (Nat.le_of_ble_eq_true rfl) d_LA_law_444 hRc hRs (fun H locs hM => ?_)
  refine lv_istore hx hb d_LA_law_447 hl (by decide) rfl (fun ls hl => ?_)
  have hl : lv_has ls 8 [(5, .int q1.1), (0, .ref z), (1, .ref (b + r1)), (2, .ref (b + r2)), (3, .ref (b + r3)), (4, .int i4)] := hl
  refine lv_aload_n hx hb d_LA_law_449 rfl (lv_at hl 3 rfl) ?_
  obtain ⟨g2, h⟩ := of_g h
  obtain ⟨q3, hq3, h⟩ := of_b h
  refine g_calll (va_runV (As := []) (rest := []) ⟨hx, hb, hml, hown, hts⟩ (S_MO_ways l D b cs r2 q1.2 q3 n hq3) ⟨callB_of 0 hts (goodIn_g jm_10_36) rfl rfl rfl (hts _ jm_0_7) (hts _ jm_10_33) (by decide +kernel) ⟨Nat.le_of_ble_eq_true rfl, Nat.le_of_ble_eq_true rfl⟩, (hts _ jm_10_34), (hts _ jm_10_35)⟩ (Wd.preV hK hM g2 rfl (by decide)) rfl rfl hl.1 rfl (lv_room (Nat.le_of_ble_eq_true rfl)) d_LA_law_450 ⟨by first | exact hRc | exact Nat.le_trans (Nat.le_succ _) hRc, by first | exact hRs | exact Nat.le_trans (Nat.le_add_right _ 6) hRs⟩) hM (fun H locs hM => ?_)
  refine lv_lstore hx hb d_LA_law_453 hl (by decide) rfl (fun ls hl => ?_)
  have hl : lv_has ls 8 [(6, .long q3.1), (5, .int q1.1), (0, .ref z), (1, .ref (b + r1)), (2, .ref (b + r2)), (3, .ref (b + r3)), (4, .int i4)] := hl
  refine lv_aload_n hx hb d_LA_law_455 rfl (lv_at hl 4 rfl) ?_
  obtain ⟨g4, h⟩ := of_g h
  obtain ⟨q5, hq5, h⟩ := of_b h
  refine g_calli (va_runV (As := []) (rest := []) ⟨hx, hb, hml, hown, hts⟩ (S_MO_thrown l D b cs r2 q3.2 q5 n hq5) ⟨callB_of 0 hts (goodIn_g jm_9_13) rfl rfl rfl (hts _ jm_0_7) (hts _ jm_9_10) (by decide +kernel) ⟨Nat.le_of_ble_eq_true rfl, Nat.le_of_ble_eq_true rfl⟩, (hts _ jm_9_11), (hts _ jm_9_12)⟩ (Wd.preV hK hM g4 rfl (by decide)) rfl rfl hl.1 rfl (lv_room (Nat.le_of_ble_eq_true rfl)) d_LA_law_456 ⟨by first | exact hRc | exact Nat.le_trans (Nat.le_succ _) hRc, by first | exact hRs | exact Nat.le_trans (Nat.le_add_right _ 6) hRs⟩) hM (fun H locs hM => ?_)
  refine lv_iload hx hb d_LA_law_459 (lv_at hl 1 rfl) ?_
  refine lv_icmp_eq (tgt := 466) hx hb d_LA_law_461 (by decide) (fun hc => ?_) (fun hc => ?_)
  · replace h := of_t hc h
    refine lv_iload hx hb d_LA_law_466 (lv_at hl 1 rfl) ?_
    refine lv_if_ne (tgt := 482) hx hb d_LA_law_468 (by decide) (fun hc => ?_) (fun hc => ?_)
    · replace h := of_f hc h
      refine lv_goto (tgt := 653) hx hb d_LA_law_482 (by decide) ?_
      obtain rfl := Option.some.inj h
      refine W.widen (k := cells + 1) (n := slots + 6) (by first | exact Nat.le_refl _ | exact Nat.le_add_right _ _) (by first | exact Nat.le_refl _ | exact Nat.le_add_right _ _) ?_
      exact kk _ _ _ hM (lv_sub hl [2, 3, 4, 5, 6] rfl)
    · replace h := of_t hc h
      refine lv_aload_n hx hb d_LA_law_471 rfl (lv_at hl 5 rfl) ?_
      refine lv_iconst (v := 0) hx hb d_LA_law_472 (by decide) ?_
      obtain ⟨g6, h⟩ := of_g h
      obtain ⟨g7, h⟩ := of_g h
      refine g_lald hx hb hK hM g6 g7 d_LA_law_473 ?_
      refine lv_lload hx hb d_LA_law_474 (lv_at hl 0 rfl) ?_
      refine W.lcmp hx hb d_LA_law_476 ?_
      refine lv_if_eq (tgt := 482) hx hb d_LA_law_477 (by decide) (fun hc => ?_) (fun hc => ?_)
      · replace h := of_t hc h
        refine lv_goto (tgt := 653) hx hb d_LA_law_482 (by decide) ?_
        obtain rfl := Option.some.inj h
        refine W.widen (k := cells + 1) (n := slots + 6) (by first | exact Nat.le_refl _ | exact Nat.le_add_right _ _) (by first | exact Nat.le_refl _ | exact Nat.le_add_right _ _) ?_
        exact kk _ _ _ hM (lv_sub hl [2, 3, 4, 5, 6] rfl)
      · replace h := of_f hc h
        refine lv_iconst (v := 0) hx hb d_LA_law_480 (by decide) ?_
        exact (nomatch h)
  · replace h := of_f hc h
    refine lv_iconst (v := 0) hx hb d_LA_law_464 (by decide) ?_
    exact (nomatch h)
def T_11 (n r1 r2 r3 : Nat) (i4 : Int32) (L : Nat) (xs : Nat → Int32) (μ : Mem) : Option Mem :=
  if ib (i4 + 1) L = true then Option.bind (D_LA_live n r1 (xs (Int32.toNatClampNeg (i4 + 1))) r3 μ) (fun q2 => if ib (i4 + 1) L = true then if ok q2.2 r2 6 = true then Option.bind (C_MO_live n r2 (xs (Int32.toNatClampNeg (i4 + 1))) q2.2) (fun q5 => if ok q5.2 r2 6 = true then Option.bind (C_MO_thrown n r2 q5.2) (fun q7 => if q7.1 = q2.1 then if q2.1 = 0 then if ok q7.2 r3 101 = true then if ib 0 (mZ q7.2 r3) = true then if (lg_cmp (mL q7.2 r3 (Int32.toNatClampNeg 0)) (Int32.toInt64 q5.1)) = 0 then some q7.2 else none else none else none else some q7.2 else none) else none) else none else none) else none
set_option maxHeartbeats 4000000 in
set_option maxRecDepth 100000 in
theorem K_11 {p : Program} {e : Env} {s : State} {m : MethodId} {below : List Frame} {meth : Method} {c : Code} {Q : State → Prop} (l : Launch) (hst : l.stackTraces = false) (D : va_G) (b : Nat) (cs : Nat → ClassId) {z L : Nat} {xs : Nat → Int32} (hx : p.tables.exec = Jvm.exec) (hb : c.code = code) (hml : c.maxLocals = 8) (hown : s.vm.findClass "JoinedLeavesLaw" = some m.cls) (hts : ∀ w ∈ jW, w.before #[Value.ref z] s = true) (hK : Kw cs D s) (hZ : Zx b s s.heap) (hX : va_X z L xs s s.heap) (hzl : z < s.heap.size) (hz : z ≤ b) (r1 r2 r3 : Nat) (i4 : Int32) (μ res : Mem) (n : Nat) (h : T_11 n r1 r2 r3 i4 L xs μ = some res) {H : Heap} {locs : List Loc} {cells slots : Nat} {ls : Array Slot} (hM : Wd (Ab b) b cs D s.heap μ H locs) (hl : lv_has ls 8 [(0, .ref z), (1, .ref (b + r1)), (2, .ref (b + r2)), (3, .ref (b + r3)), (4, .int i4)]) (hRc : cells + 1 ≤ room_1.cells) (hRs : slots + 6 ≤ room_1.slots)
    (kk : ∀ (H : Heap) (locs : List Loc) (ls : Array Slot), Wd (Ab b) b cs D s.heap res H locs → lv_has ls 8 [(0, .ref z), (1, .ref (b + r1)), (2, .ref (b + r2)), (3, .ref (b + r3)), (4, .int i4)] → W p l e room_1 s m #[Value.ref z] below meth c H locs (cells + 1) (slots + 6) Q (F0 m 653 ls [])) : W p l e room_1 s m #[Value.ref z] below meth c H locs cells slots Q (F0 m 485 ls []) := by
  unfold T_11 at h
  refine lv_aload_n hx hb d_LA_law_485 rfl (lv_at hl 1 rfl) ?_
  refine lv_aload_n hx hb d_LA_law_486 rfl (lv_at hl 0 rfl) ?_
  refine lv_iload hx hb d_LA_law_487 (lv_at hl 4 rfl) ?_
  refine lv_iconst (v := 1) hx hb d_LA_law_489 (by decide) ?_
  refine lv_iadd hx hb d_LA_law_490 ?_
  obtain ⟨g1, h⟩ := of_g h
  refine g_sld hx hb hX hzl hz hM g1 d_LA_law_491 ?_
  refine lv_aload_n hx hb d_LA_law_492 rfl (lv_at hl 3 rfl) ?_
  obtain ⟨q2, hq2, h⟩ := of_b h
  refine g_callA (n := 3) (As := [.ref (b + r1), .int (xs (Int32.toNatClampNeg (i4 + 1))), .ref (b + r3)]) (rest := []) hx hb hml hown hts hK hZ hM (fun x h1 h2 => by have h2 : b < x := h2; omega) (Z_LA_live l hst D b cs r1 (xs (Int32.toNatClampNeg (i4 + 1))) r3 μ q2 n hq2) jm_5_44 jm_0_0 jm_5_42 jm_5_43 (by decide +kernel) (Nat.le_of_ble_eq_true rfl) (Nat.le_of_ble_eq_true rfl) rfl hl.1 (Nat.le_of_ble_eq_true rfl) d_LA_law_493 hRc hRs (fun H locs hM => ?_)
  refine lv_istore hx hb d_LA_law_496 hl (by decide) rfl (fun ls hl => ?_)
  have hl : lv_has ls 8 [(5, .int q2.1), (0, .ref z), (1, .ref (b + r1)), (2, .ref (b + r2)), (3, .ref (b + r3)), (4, .int i4)] := hl
  refine lv_aload_n hx hb d_LA_law_498 rfl (lv_at hl 3 rfl) ?_
  refine lv_aload_n hx hb d_LA_law_499 rfl (lv_at hl 1 rfl) ?_
  refine lv_iload hx hb d_LA_law_500 (lv_at hl 5 rfl) ?_
  refine lv_iconst (v := 1) hx hb d_LA_law_502 (by decide) ?_
  refine lv_iadd hx hb d_LA_law_503 ?_
  obtain ⟨g3, h⟩ := of_g h
  refine g_sld hx hb hX hzl hz hM g3 d_LA_law_504 ?_
  obtain ⟨g4, h⟩ := of_g h
  obtain ⟨q5, hq5, h⟩ := of_b h
  refine g_calli (va_runV (As := [.int (xs (Int32.toNatClampNeg (i4 + 1)))]) (rest := []) ⟨hx, hb, hml, hown, hts⟩ (S_MO_live l D b cs r2 (xs (Int32.toNatClampNeg (i4 + 1))) q2.2 q5 n hq5) ⟨callB_of 1 hts (goodIn_g jm_11_5) rfl rfl rfl (hts _ jm_0_7) (hts _ jm_11_2) (by decide +kernel) ⟨Nat.le_of_ble_eq_true rfl, Nat.le_of_ble_eq_true rfl⟩, (hts _ jm_11_3), (hts _ jm_11_4)⟩ (Wd.preV hK hM g4 rfl (by decide)) rfl rfl hl.1 rfl (lv_room (Nat.le_of_ble_eq_true rfl)) d_LA_law_505 ⟨by first | exact hRc | exact Nat.le_trans (Nat.le_succ _) hRc, by first | exact hRs | exact Nat.le_trans (Nat.le_add_right _ 6) hRs⟩) hM (fun H locs hM => ?_)
  refine lv_istore hx hb d_LA_law_508 hl (by decide) rfl (fun ls hl => ?_)
  have hl : lv_has ls 8 [(6, .int q5.1), (5, .int q2.1), (0, .ref z), (1, .ref (b + r1)), (2, .ref (b + r2)), (3, .ref (b + r3)), (4, .int i4)] := hl
  refine lv_aload_n hx hb d_LA_law_510 rfl (lv_at hl 4 rfl) ?_
  obtain ⟨g6, h⟩ := of_g h
  obtain ⟨q7, hq7, h⟩ := of_b h
  refine g_calli (va_runV (As := []) (rest := []) ⟨hx, hb, hml, hown, hts⟩ (S_MO_thrown l D b cs r2 q5.2 q7 n hq7) ⟨callB_of 0 hts (goodIn_g jm_9_13) rfl rfl rfl (hts _ jm_0_7) (hts _ jm_9_10) (by decide +kernel) ⟨Nat.le_of_ble_eq_true rfl, Nat.le_of_ble_eq_true rfl⟩, (hts _ jm_9_11), (hts _ jm_9_12)⟩ (Wd.preV hK hM g6 rfl (by decide)) rfl rfl hl.1 rfl (lv_room (Nat.le_of_ble_eq_true rfl)) d_LA_law_511 ⟨by first | exact hRc | exact Nat.le_trans (Nat.le_succ _) hRc, by first | exact hRs | exact Nat.le_trans (Nat.le_add_right _ 6) hRs⟩) hM (fun H locs hM => ?_)
  refine lv_iload hx hb d_LA_law_514 (lv_at hl 1 rfl) ?_
  refine lv_icmp_eq (tgt := 521) hx hb d_LA_law_516 (by decide) (fun hc => ?_) (fun hc => ?_)
  · replace h := of_t hc h
    refine lv_iload hx hb d_LA_law_521 (lv_at hl 1 rfl) ?_
    refine lv_if_ne (tgt := 538) hx hb d_LA_law_523 (by decide) (fun hc => ?_) (fun hc => ?_)
    · replace h := of_f hc h
      refine lv_goto (tgt := 653) hx hb d_LA_law_538 (by decide) ?_
      obtain rfl := Option.some.inj h
      refine W.widen (k := cells + 1) (n := slots + 6) (by first | exact Nat.le_refl _ | exact Nat.le_add_right _ _) (by first | exact Nat.le_refl _ | exact Nat.le_add_right _ _) ?_
      exact kk _ _ _ hM (lv_sub hl [2, 3, 4, 5, 6] rfl)
    · replace h := of_t hc h
      refine lv_aload_n hx hb d_LA_law_526 rfl (lv_at hl 5 rfl) ?_
      refine lv_iconst (v := 0) hx hb d_LA_law_527 (by decide) ?_
      obtain ⟨g8, h⟩ := of_g h
      obtain ⟨g9, h⟩ := of_g h
      refine g_lald hx hb hK hM g8 g9 d_LA_law_528 ?_
      refine lv_iload hx hb d_LA_law_529 (lv_at hl 0 rfl) ?_
      refine lv_i2l hx hb d_LA_law_531 rfl ?_
      refine W.lcmp hx hb d_LA_law_532 ?_
      refine lv_if_eq (tgt := 538) hx hb d_LA_law_533 (by decide) (fun hc => ?_) (fun hc => ?_)
      · replace h := of_t hc h
        refine lv_goto (tgt := 653) hx hb d_LA_law_538 (by decide) ?_
        obtain rfl := Option.some.inj h
        refine W.widen (k := cells + 1) (n := slots + 6) (by first | exact Nat.le_refl _ | exact Nat.le_add_right _ _) (by first | exact Nat.le_refl _ | exact Nat.le_add_right _ _) ?_
        exact kk _ _ _ hM (lv_sub hl [2, 3, 4, 5, 6] rfl)
      · replace h := of_f hc h
        refine lv_iconst (v := 0) hx hb d_LA_law_536 (by decide) ?_
        exact (nomatch h)
  · replace h := of_f hc h
    refine lv_iconst (v := 0) hx hb d_LA_law_519 (by decide) ?_
    exact (nomatch h)
def T_12 (n r1 r2 r3 : Nat) (i4 : Int32) (L : Nat) (xs : Nat → Int32) (μ : Mem) : Option Mem :=
  Option.bind (D_LA_answers n r1 r3 μ) (fun q1 => if ok q1.2 r2 6 = true then Option.bind (C_MO_answers n r2 q1.2) (fun q3 => if ok q3.2 r2 6 = true then Option.bind (C_MO_thrown n r2 q3.2) (fun q5 => if q5.1 = q1.1 then if q1.1 = 0 then if ok q5.2 r3 101 = true then if ib 0 (mZ q5.2 r3) = true then if (lg_cmp (mL q5.2 r3 (Int32.toNatClampNeg 0)) (Int32.toInt64 q3.1)) = 0 then some q5.2 else none else none else none else some q5.2 else none) else none) else none)
set_option maxHeartbeats 4000000 in
set_option maxRecDepth 100000 in
theorem K_12 {p : Program} {e : Env} {s : State} {m : MethodId} {below : List Frame} {meth : Method} {c : Code} {Q : State → Prop} (l : Launch) (hst : l.stackTraces = false) (D : va_G) (b : Nat) (cs : Nat → ClassId) {z L : Nat} {xs : Nat → Int32} (hx : p.tables.exec = Jvm.exec) (hb : c.code = code) (hml : c.maxLocals = 8) (hown : s.vm.findClass "JoinedLeavesLaw" = some m.cls) (hts : ∀ w ∈ jW, w.before #[Value.ref z] s = true) (hK : Kw cs D s) (hZ : Zx b s s.heap) (hX : va_X z L xs s s.heap) (hzl : z < s.heap.size) (hz : z ≤ b) (r1 r2 r3 : Nat) (i4 : Int32) (μ res : Mem) (n : Nat) (h : T_12 n r1 r2 r3 i4 L xs μ = some res) {H : Heap} {locs : List Loc} {cells slots : Nat} {ls : Array Slot} (hM : Wd (Ab b) b cs D s.heap μ H locs) (hl : lv_has ls 8 [(0, .ref z), (1, .ref (b + r1)), (2, .ref (b + r2)), (3, .ref (b + r3)), (4, .int i4)]) (hRc : cells + 1 ≤ room_1.cells) (hRs : slots + 6 ≤ room_1.slots)
    (kk : ∀ (H : Heap) (locs : List Loc) (ls : Array Slot), Wd (Ab b) b cs D s.heap res H locs → lv_has ls 8 [(0, .ref z), (1, .ref (b + r1)), (2, .ref (b + r2)), (3, .ref (b + r3)), (4, .int i4)] → W p l e room_1 s m #[Value.ref z] below meth c H locs (cells + 1) (slots + 6) Q (F0 m 653 ls [])) : W p l e room_1 s m #[Value.ref z] below meth c H locs cells slots Q (F0 m 541 ls []) := by
  unfold T_12 at h
  refine lv_aload_n hx hb d_LA_law_541 rfl (lv_at hl 1 rfl) ?_
  refine lv_aload_n hx hb d_LA_law_542 rfl (lv_at hl 3 rfl) ?_
  obtain ⟨q1, hq1, h⟩ := of_b h
  refine g_callA (n := 2) (As := [.ref (b + r1), .ref (b + r3)]) (rest := []) hx hb hml hown hts hK hZ hM (fun x h1 h2 => by have h2 : b < x := h2; omega) (Z_LA_answers l hst D b cs r1 r3 μ q1 n hq1) jm_6_35 jm_0_0 jm_6_33 jm_6_34 (by decide +kernel) (Nat.le_of_ble_eq_true rfl) (Nat.le_of_ble_eq_true rfl) rfl hl.1 (Nat.le_of_ble_eq_true rfl) d_LA_law_543 hRc hRs (fun H locs hM => ?_)
  refine lv_istore hx hb d_LA_law_546 hl (by decide) rfl (fun ls hl => ?_)
  have hl : lv_has ls 8 [(5, .int q1.1), (0, .ref z), (1, .ref (b + r1)), (2, .ref (b + r2)), (3, .ref (b + r3)), (4, .int i4)] := hl
  refine lv_aload_n hx hb d_LA_law_548 rfl (lv_at hl 3 rfl) ?_
  obtain ⟨g2, h⟩ := of_g h
  obtain ⟨q3, hq3, h⟩ := of_b h
  refine g_calli (va_runV (As := []) (rest := []) ⟨hx, hb, hml, hown, hts⟩ (S_MO_answers l D b cs r2 q1.2 q3 n hq3) ⟨callB_of 0 hts (goodIn_g jm_11_9) rfl rfl rfl (hts _ jm_0_7) (hts _ jm_11_6) (by decide +kernel) ⟨Nat.le_of_ble_eq_true rfl, Nat.le_of_ble_eq_true rfl⟩, (hts _ jm_11_7), (hts _ jm_11_8)⟩ (Wd.preV hK hM g2 rfl (by decide)) rfl rfl hl.1 rfl (lv_room (Nat.le_of_ble_eq_true rfl)) d_LA_law_549 ⟨by first | exact hRc | exact Nat.le_trans (Nat.le_succ _) hRc, by first | exact hRs | exact Nat.le_trans (Nat.le_add_right _ 6) hRs⟩) hM (fun H locs hM => ?_)
  refine lv_istore hx hb d_LA_law_552 hl (by decide) rfl (fun ls hl => ?_)
  have hl : lv_has ls 8 [(6, .int q3.1), (5, .int q1.1), (0, .ref z), (1, .ref (b + r1)), (2, .ref (b + r2)), (3, .ref (b + r3)), (4, .int i4)] := hl
  refine lv_aload_n hx hb d_LA_law_554 rfl (lv_at hl 4 rfl) ?_
  obtain ⟨g4, h⟩ := of_g h
  obtain ⟨q5, hq5, h⟩ := of_b h
  refine g_calli (va_runV (As := []) (rest := []) ⟨hx, hb, hml, hown, hts⟩ (S_MO_thrown l D b cs r2 q3.2 q5 n hq5) ⟨callB_of 0 hts (goodIn_g jm_9_13) rfl rfl rfl (hts _ jm_0_7) (hts _ jm_9_10) (by decide +kernel) ⟨Nat.le_of_ble_eq_true rfl, Nat.le_of_ble_eq_true rfl⟩, (hts _ jm_9_11), (hts _ jm_9_12)⟩ (Wd.preV hK hM g4 rfl (by decide)) rfl rfl hl.1 rfl (lv_room (Nat.le_of_ble_eq_true rfl)) d_LA_law_555 ⟨by first | exact hRc | exact Nat.le_trans (Nat.le_succ _) hRc, by first | exact hRs | exact Nat.le_trans (Nat.le_add_right _ 6) hRs⟩) hM (fun H locs hM => ?_)
  refine lv_iload hx hb d_LA_law_558 (lv_at hl 1 rfl) ?_
  refine lv_icmp_eq (tgt := 565) hx hb d_LA_law_560 (by decide) (fun hc => ?_) (fun hc => ?_)
  · replace h := of_t hc h
    refine lv_iload hx hb d_LA_law_565 (lv_at hl 1 rfl) ?_
    refine lv_if_ne (tgt := 582) hx hb d_LA_law_567 (by decide) (fun hc => ?_) (fun hc => ?_)
    · replace h := of_f hc h
      refine lv_goto (tgt := 653) hx hb d_LA_law_582 (by decide) ?_
      obtain rfl := Option.some.inj h
      refine W.widen (k := cells + 1) (n := slots + 6) (by first | exact Nat.le_refl _ | exact Nat.le_add_right _ _) (by first | exact Nat.le_refl _ | exact Nat.le_add_right _ _) ?_
      exact kk _ _ _ hM (lv_sub hl [2, 3, 4, 5, 6] rfl)
    · replace h := of_t hc h
      refine lv_aload_n hx hb d_LA_law_570 rfl (lv_at hl 5 rfl) ?_
      refine lv_iconst (v := 0) hx hb d_LA_law_571 (by decide) ?_
      obtain ⟨g6, h⟩ := of_g h
      obtain ⟨g7, h⟩ := of_g h
      refine g_lald hx hb hK hM g6 g7 d_LA_law_572 ?_
      refine lv_iload hx hb d_LA_law_573 (lv_at hl 0 rfl) ?_
      refine lv_i2l hx hb d_LA_law_575 rfl ?_
      refine W.lcmp hx hb d_LA_law_576 ?_
      refine lv_if_eq (tgt := 582) hx hb d_LA_law_577 (by decide) (fun hc => ?_) (fun hc => ?_)
      · replace h := of_t hc h
        refine lv_goto (tgt := 653) hx hb d_LA_law_582 (by decide) ?_
        obtain rfl := Option.some.inj h
        refine W.widen (k := cells + 1) (n := slots + 6) (by first | exact Nat.le_refl _ | exact Nat.le_add_right _ _) (by first | exact Nat.le_refl _ | exact Nat.le_add_right _ _) ?_
        exact kk _ _ _ hM (lv_sub hl [2, 3, 4, 5, 6] rfl)
      · replace h := of_f hc h
        refine lv_iconst (v := 0) hx hb d_LA_law_580 (by decide) ?_
        exact (nomatch h)
  · replace h := of_f hc h
    refine lv_iconst (v := 0) hx hb d_LA_law_563 (by decide) ?_
    exact (nomatch h)
def T_13 (n r1 r2 r3 : Nat) (i4 : Int32) (L : Nat) (xs : Nat → Int32) (μ : Mem) : Option Mem :=
  if ib (i4 + 1) L = true then if ib (i4 + 2) L = true then Option.bind (D_LA_answer n r1 (xs (Int32.toNatClampNeg (i4 + 1))) (xs (Int32.toNatClampNeg (i4 + 2))) r3 μ) (fun q3 => if ib (i4 + 1) L = true then if ib (i4 + 2) L = true then if ok q3.2 r2 6 = true then Option.bind (C_MO_answer n r2 (xs (Int32.toNatClampNeg (i4 + 1))) (xs (Int32.toNatClampNeg (i4 + 2))) q3.2) (fun q7 => if ok q7.2 r2 6 = true then Option.bind (C_MO_thrown n r2 q7.2) (fun q9 => if q9.1 = q3.1 then if q3.1 = 0 then if ok q9.2 r3 101 = true then if ib 0 (mZ q9.2 r3) = true then if (lg_cmp (mL q9.2 r3 (Int32.toNatClampNeg 0)) (Int32.toInt64 q7.1)) = 0 then some q9.2 else none else none else none else some q9.2 else none) else none) else none else none else none) else none else none
set_option maxHeartbeats 4000000 in
set_option maxRecDepth 100000 in
theorem K_13 {p : Program} {e : Env} {s : State} {m : MethodId} {below : List Frame} {meth : Method} {c : Code} {Q : State → Prop} (l : Launch) (hst : l.stackTraces = false) (D : va_G) (b : Nat) (cs : Nat → ClassId) {z L : Nat} {xs : Nat → Int32} (hx : p.tables.exec = Jvm.exec) (hb : c.code = code) (hml : c.maxLocals = 8) (hown : s.vm.findClass "JoinedLeavesLaw" = some m.cls) (hts : ∀ w ∈ jW, w.before #[Value.ref z] s = true) (hK : Kw cs D s) (hZ : Zx b s s.heap) (hX : va_X z L xs s s.heap) (hzl : z < s.heap.size) (hz : z ≤ b) (r1 r2 r3 : Nat) (i4 : Int32) (μ res : Mem) (n : Nat) (h : T_13 n r1 r2 r3 i4 L xs μ = some res) {H : Heap} {locs : List Loc} {cells slots : Nat} {ls : Array Slot} (hM : Wd (Ab b) b cs D s.heap μ H locs) (hl : lv_has ls 8 [(0, .ref z), (1, .ref (b + r1)), (2, .ref (b + r2)), (3, .ref (b + r3)), (4, .int i4)]) (hRc : cells + 1 ≤ room_1.cells) (hRs : slots + 6 ≤ room_1.slots)
    (kk : ∀ (H : Heap) (locs : List Loc) (ls : Array Slot), Wd (Ab b) b cs D s.heap res H locs → lv_has ls 8 [(0, .ref z), (1, .ref (b + r1)), (2, .ref (b + r2)), (3, .ref (b + r3)), (4, .int i4)] → W p l e room_1 s m #[Value.ref z] below meth c H locs (cells + 1) (slots + 6) Q (F0 m 653 ls [])) : W p l e room_1 s m #[Value.ref z] below meth c H locs cells slots Q (F0 m 585 ls []) := by
  unfold T_13 at h
  refine lv_aload_n hx hb d_LA_law_585 rfl (lv_at hl 1 rfl) ?_
  refine lv_aload_n hx hb d_LA_law_586 rfl (lv_at hl 0 rfl) ?_
  refine lv_iload hx hb d_LA_law_587 (lv_at hl 4 rfl) ?_
  refine lv_iconst (v := 1) hx hb d_LA_law_589 (by decide) ?_
  refine lv_iadd hx hb d_LA_law_590 ?_
  obtain ⟨g1, h⟩ := of_g h
  refine g_sld hx hb hX hzl hz hM g1 d_LA_law_591 ?_
  refine lv_aload_n hx hb d_LA_law_592 rfl (lv_at hl 0 rfl) ?_
  refine lv_iload hx hb d_LA_law_593 (lv_at hl 4 rfl) ?_
  refine lv_iconst (v := 2) hx hb d_LA_law_595 (by decide) ?_
  refine lv_iadd hx hb d_LA_law_596 ?_
  obtain ⟨g2, h⟩ := of_g h
  refine g_sld hx hb hX hzl hz hM g2 d_LA_law_597 ?_
  refine lv_aload_n hx hb d_LA_law_598 rfl (lv_at hl 3 rfl) ?_
  obtain ⟨q3, hq3, h⟩ := of_b h
  refine g_callA (n := 4) (As := [.ref (b + r1), .int (xs (Int32.toNatClampNeg (i4 + 1))), .int (xs (Int32.toNatClampNeg (i4 + 2))), .ref (b + r3)]) (rest := []) hx hb hml hown hts hK hZ hM (fun x h1 h2 => by have h2 : b < x := h2; omega) (Z_LA_answer l hst D b cs r1 (xs (Int32.toNatClampNeg (i4 + 1))) (xs (Int32.toNatClampNeg (i4 + 2))) r3 μ q3 n hq3) jm_8_2 jm_0_0 jm_8_0 jm_8_1 (by decide +kernel) (Nat.le_of_ble_eq_true rfl) (Nat.le_of_ble_eq_true rfl) rfl hl.1 (Nat.le_of_ble_eq_true rfl) d_LA_law_599 hRc hRs (fun H locs hM => ?_)
  refine lv_istore hx hb d_LA_law_602 hl (by decide) rfl (fun ls hl => ?_)
  have hl : lv_has ls 8 [(5, .int q3.1), (0, .ref z), (1, .ref (b + r1)), (2, .ref (b + r2)), (3, .ref (b + r3)), (4, .int i4)] := hl
  refine lv_aload_n hx hb d_LA_law_604 rfl (lv_at hl 3 rfl) ?_
  refine lv_aload_n hx hb d_LA_law_605 rfl (lv_at hl 1 rfl) ?_
  refine lv_iload hx hb d_LA_law_606 (lv_at hl 5 rfl) ?_
  refine lv_iconst (v := 1) hx hb d_LA_law_608 (by decide) ?_
  refine lv_iadd hx hb d_LA_law_609 ?_
  obtain ⟨g4, h⟩ := of_g h
  refine g_sld hx hb hX hzl hz hM g4 d_LA_law_610 ?_
  refine lv_aload_n hx hb d_LA_law_611 rfl (lv_at hl 1 rfl) ?_
  refine lv_iload hx hb d_LA_law_612 (lv_at hl 5 rfl) ?_
  refine lv_iconst (v := 2) hx hb d_LA_law_614 (by decide) ?_
  refine lv_iadd hx hb d_LA_law_615 ?_
  obtain ⟨g5, h⟩ := of_g h
  refine g_sld hx hb hX hzl hz hM g5 d_LA_law_616 ?_
  obtain ⟨g6, h⟩ := of_g h
  obtain ⟨q7, hq7, h⟩ := of_b h
  refine g_calli (va_runV (As := [.int (xs (Int32.toNatClampNeg (i4 + 1))), .int (xs (Int32.toNatClampNeg (i4 + 2)))]) (rest := []) ⟨hx, hb, hml, hown, hts⟩ (S_MO_answer l D b cs r2 (xs (Int32.toNatClampNeg (i4 + 1))) (xs (Int32.toNatClampNeg (i4 + 2))) q3.2 q7 n hq7) ⟨callB_of 2 hts (goodIn_g jm_11_19) rfl rfl rfl (hts _ jm_0_7) (hts _ jm_11_16) (by decide +kernel) ⟨Nat.le_of_ble_eq_true rfl, Nat.le_of_ble_eq_true rfl⟩, (hts _ jm_11_17), (hts _ jm_11_18)⟩ (Wd.preV hK hM g6 rfl (by decide)) rfl rfl hl.1 rfl (lv_room (Nat.le_of_ble_eq_true rfl)) d_LA_law_617 ⟨by first | exact hRc | exact Nat.le_trans (Nat.le_succ _) hRc, by first | exact hRs | exact Nat.le_trans (Nat.le_add_right _ 6) hRs⟩) hM (fun H locs hM => ?_)
  refine lv_istore hx hb d_LA_law_620 hl (by decide) rfl (fun ls hl => ?_)
  have hl : lv_has ls 8 [(6, .int q7.1), (5, .int q3.1), (0, .ref z), (1, .ref (b + r1)), (2, .ref (b + r2)), (3, .ref (b + r3)), (4, .int i4)] := hl
  refine lv_aload_n hx hb d_LA_law_622 rfl (lv_at hl 4 rfl) ?_
  obtain ⟨g8, h⟩ := of_g h
  obtain ⟨q9, hq9, h⟩ := of_b h
  refine g_calli (va_runV (As := []) (rest := []) ⟨hx, hb, hml, hown, hts⟩ (S_MO_thrown l D b cs r2 q7.2 q9 n hq9) ⟨callB_of 0 hts (goodIn_g jm_9_13) rfl rfl rfl (hts _ jm_0_7) (hts _ jm_9_10) (by decide +kernel) ⟨Nat.le_of_ble_eq_true rfl, Nat.le_of_ble_eq_true rfl⟩, (hts _ jm_9_11), (hts _ jm_9_12)⟩ (Wd.preV hK hM g8 rfl (by decide)) rfl rfl hl.1 rfl (lv_room (Nat.le_of_ble_eq_true rfl)) d_LA_law_623 ⟨by first | exact hRc | exact Nat.le_trans (Nat.le_succ _) hRc, by first | exact hRs | exact Nat.le_trans (Nat.le_add_right _ 6) hRs⟩) hM (fun H locs hM => ?_)
  refine lv_iload hx hb d_LA_law_626 (lv_at hl 1 rfl) ?_
  refine lv_icmp_eq (tgt := 633) hx hb d_LA_law_628 (by decide) (fun hc => ?_) (fun hc => ?_)
  · replace h := of_t hc h
    refine lv_iload hx hb d_LA_law_633 (lv_at hl 1 rfl) ?_
    refine lv_if_ne (tgt := 650) hx hb d_LA_law_635 (by decide) (fun hc => ?_) (fun hc => ?_)
    · replace h := of_f hc h
      refine lv_goto (tgt := 653) hx hb d_LA_law_650 (by decide) ?_
      obtain rfl := Option.some.inj h
      refine W.widen (k := cells + 1) (n := slots + 6) (by first | exact Nat.le_refl _ | exact Nat.le_add_right _ _) (by first | exact Nat.le_refl _ | exact Nat.le_add_right _ _) ?_
      exact kk _ _ _ hM (lv_sub hl [2, 3, 4, 5, 6] rfl)
    · replace h := of_t hc h
      refine lv_aload_n hx hb d_LA_law_638 rfl (lv_at hl 5 rfl) ?_
      refine lv_iconst (v := 0) hx hb d_LA_law_639 (by decide) ?_
      obtain ⟨g10, h⟩ := of_g h
      obtain ⟨g11, h⟩ := of_g h
      refine g_lald hx hb hK hM g10 g11 d_LA_law_640 ?_
      refine lv_iload hx hb d_LA_law_641 (lv_at hl 0 rfl) ?_
      refine lv_i2l hx hb d_LA_law_643 rfl ?_
      refine W.lcmp hx hb d_LA_law_644 ?_
      refine lv_if_eq (tgt := 650) hx hb d_LA_law_645 (by decide) (fun hc => ?_) (fun hc => ?_)
      · replace h := of_t hc h
        refine lv_goto (tgt := 653) hx hb d_LA_law_650 (by decide) ?_
        obtain rfl := Option.some.inj h
        refine W.widen (k := cells + 1) (n := slots + 6) (by first | exact Nat.le_refl _ | exact Nat.le_add_right _ _) (by first | exact Nat.le_refl _ | exact Nat.le_add_right _ _) ?_
        exact kk _ _ _ hM (lv_sub hl [2, 3, 4, 5, 6] rfl)
      · replace h := of_f hc h
        refine lv_iconst (v := 0) hx hb d_LA_law_648 (by decide) ?_
        exact (nomatch h)
  · replace h := of_f hc h
    refine lv_iconst (v := 0) hx hb d_LA_law_631 (by decide) ?_
    exact (nomatch h)
