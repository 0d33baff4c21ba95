/-! What the law's start knows: the classes, the array classes, the words on throwing -/
theorem kn_arr {s : State} {cA comp : ClassId} {kA : Class} {ty : FieldType} (h2 : s.vm.classes[cA]? = some kA) (h3 : kA.kind = .array comp ty) : ArrOfT s cA ty := fun n z => ⟨(fun k h => by cases h), kA, h2, comp, h3⟩
set_option maxHeartbeats 4000000 in
set_option maxRecDepth 100000 in
theorem kn_K {s : State} {args : Array Value} (hall : ∀ w ∈ lw_tbl, w.before args s = true) : ∃ (cs : Nat → ClassId) (D : va_G), Kw cs D s := by
  have hts : ∀ w ∈ jW, w.before args s = true := fun w hw => hall w (jW_in w hw)
  obtain ⟨c0, i0, k0⟩ := u_known hts jF_RE (hts _ jm_0_25)
  obtain ⟨c1, i1, k1⟩ := u_known hts jF_AT (hts _ jm_0_43)
  obtain ⟨c2, i2, k2⟩ := u_known hts jF_QU (hts _ jm_0_38)
  obtain ⟨c3, i3, k3⟩ := u_known hts jF_HA (hts _ jm_1_18)
  obtain ⟨c4, i4, k4⟩ := u_known hts jF_JO (hts _ jm_1_36)
  obtain ⟨c5, i5, k5⟩ := u_known hts jF_JL (hts _ jm_0_17)
  obtain ⟨c6, i6, k6⟩ := u_known hts jF_MO (hts _ jm_8_10)
  obtain ⟨a0, ka0, p0, f0, g0, h0⟩ := Cond.arrayClass_spec (hts _ jm_0_36)
  obtain ⟨a1, ka1, p1, f1, g1, h1⟩ := Cond.arrayClass_spec (hts _ jm_2_9)
  obtain ⟨p2, a2, ka2, e2, -, g2, h2, f2⟩ := Cond.arrayOver_spec (hall _ jo_0)
  obtain ⟨p3, a3, ka3, e3, -, g3, h3, f3⟩ := Cond.arrayOver_spec (hall _ jo_1)
  obtain ⟨p4, a4, ka4, e4, -, g4, h4, f4⟩ := arrayOverA_spec (hall _ jo_2)
  obtain ⟨p5, a5, ka5, e5, -, g5, h5, f5⟩ := arrayOverA_spec (hall _ jo_3)
  refine ⟨fun k => [a0, a1, a2, a3, a4, a5].getD k 0, (fun k => [c0, c1, c2, c3, c4, c5, c6].getD k 0, fun k => [i0, i1, i2, i3, i4, i5, i6].getD k (fun _ => 0)), ⟨fun k q hq => ?_, fun k q hq => ?_⟩, fun w hw => va_Nw.of (isNest_on (jNest_ok w hw)) (hall w (jNest_in w hw)), va_AO.of (hall _ jo_0), va_AO.of (hall _ jo_1), over_moved (Vm.Alike.refl _) (hall _ jo_2), over_moved (Vm.Alike.refl _) (hall _ jo_3)⟩
  · match k, hq with
    | 0, hq => cases hq; exact k0
    | 1, hq => cases hq; exact k1
    | 2, hq => cases hq; exact k2
    | 3, hq => cases hq; exact k3
    | 4, hq => cases hq; exact k4
    | 5, hq => cases hq; exact k5
    | 6, hq => cases hq; exact k6
    | k + 7, hq => simp [vwCl] at hq
  · match k, hq with
    | 0, hq => cases hq; exact ⟨kn_arr g0 h0, f0⟩
    | 1, hq => cases hq; exact ⟨kn_arr g1 h1, f1⟩
    | 2, hq => cases hq; exact ⟨kn_arr g2 h2, ka2, p2, g2, h2, e2, f2⟩
    | 3, hq => cases hq; exact ⟨kn_arr g3 h3, ka3, p3, g3, h3, e3, f3⟩
    | 4, hq => cases hq; exact ⟨kn_arr g4 h4, f4⟩
    | 5, hq => cases hq; exact ⟨kn_arr g5 h5, f5⟩
    | k + 6, hq => simp at hq
set_option maxHeartbeats 4000000 in
set_option maxRecDepth 100000 in
theorem kn_Z {s : State} {args : Array Value} {b : Nat} (hall : ∀ w ∈ lw_tbl, w.before args s = true) (hgv : (Jvm.Cond.and given_1 narrow_1).before args s = true) (hb : s.heap.size ≤ b + 1) : Zx b s s.heap := by
  have hf := flat_of_before _ hgv
  have hal := Vm.Alike.refl s.vm
  have hh : ∀ q : Nat, q < s.heap.size → s.heap[q]? = s.heap[q]? := fun _ _ => rfl
  have l0 : (Cond.laysStatic Bundle.tN "UNASSIGNED_STACK" Bundle.steD).before args s = true := hall _ jl_0
  have l1 : (Cond.laysStatic Bundle.tN "SUPPRESSED_SENTINEL" Bundle.listD).before args s = true := hall _ jl_1
  have r0 : (Cond.isRef (.static Bundle.tN "UNASSIGNED_STACK" Bundle.steD)).before args s = true := hf _ (by decide +kernel)
  have r1 : (Cond.isRef (.static Bundle.tN "SUPPRESSED_SENTINEL" Bundle.listD)).before args s = true := hf _ (by decide +kernel)
  obtain ⟨-, -, -, -, -, -, -, -, -, -, -, -, w0⟩ := x_lays (args := #[]) l0 hal hh
  obtain ⟨-, -, -, -, -, -, -, -, -, -, -, -, w1⟩ := x_lays (args := #[]) l1 hal hh
  obtain ⟨cJ, kJ, hcJ, -⟩ := Cond.instantiable_spec (hall _ (jW_in _ jm_0_17))
  refine ⟨⟨s, fun w hw => ?_, hal, hb, hh⟩, fun q hq => ?_, fun q hq => ?_⟩
  · simp only [xS, List.mem_cons, List.not_mem_nil, or_false] at hw
    rcases hw with rfl | rfl | rfl | rfl
    · exact x_ref l0 r0 hal hh
    · exact x_ref l1 r1 hal hh
    · exact w0
    · exact w1
  · have key : ∀ (k : Nat) (tx : String), (Cond.stringRef "JoinedLeaves" k tx).before args s = true → ∃ sa, vk_R "JoinedLeaves" k tx sa s := fun k tx h => by
      obtain ⟨-, -, -, sa, -, -, -, -, -, hev⟩ := Cond.stringRef_spec hcJ h
      exact ⟨sa, vk_R.of h hev⟩
    simp only [jS, List.mem_cons, List.not_mem_nil, or_false] at hq
    rcases hq with rfl | rfl | rfl | rfl | rfl
    · exact key _ _ (hall _ js_0)
    · exact key _ _ (hall _ js_1)
    · exact key _ _ (hall _ js_2)
    · exact key _ _ (hall _ js_3)
    · exact key _ _ (hall _ js_4)
  · simp only [jC, List.mem_cons, List.not_mem_nil, or_false] at hq
    rcases hq with rfl | rfl | rfl | rfl | rfl | rfl
    · exact va_Nc.of (args := args) (hf _ (by decide +kernel))
    · exact va_Nc.of (args := args) (hf _ (by decide +kernel))
    · exact va_Nc.of (args := args) (hf _ (by decide +kernel))
    · exact va_Nc.of (args := args) (hf _ (by decide +kernel))
    · exact va_Nc.of (args := args) (hf _ (by decide +kernel))
    · exact va_Nc.of (args := args) (hf _ (by decide +kernel))
