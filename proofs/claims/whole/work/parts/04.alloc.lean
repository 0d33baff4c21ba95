/-! New cells: in constructors alone, and there all above b may be written. The heap's size is known there: the cells counted so far are all that is new. -/
/-- all above b -/
abbrev Ab (b : Nat) : Nat → Prop := fun q => b < q
abbrev MetC (l : Launch) (y : MethodName) (ws : List Cond) (fr mc ms lo b : Nat) (cs : Nat → ClassId) (D : va_G) (μ : Mem) (av : List Value) (res : Mem) : Prop := Met l y ws { frames := fr, cells := mc, slots := ms, locals := lo } (va_Pc av (fun U => U.heap.size = b + mN μ + 1 ∧ Bw b cs D μ U ∧ Kw cs D U)) (va_Qv (fun μ' => μ' = res) (Bw b cs D) (Ab b)) mc ms (Ab b)
theorem en_al {b : Nat} {cs : Nat → ClassId} {μ : Mem} {c z : Nat} : en b cs (al μ c z) = en b cs μ ++ [(b + (mN μ + 1), ce b cs (al μ c z) (mN μ + 1))] := by
  have hN : mN (al μ c z) = mN μ + 1 := rfl
  unfold en
  rw [hN, List.range_succ, List.map_append]
  congr 1
  apply List.map_congr_left
  intro i hi
  have hi : i < mN μ := List.mem_range.mp hi
  have hne : i + 1 ≠ mN μ + 1 := by omega
  exact congrArg (fun x => (b + (i + 1), x)) (ce_congr (va_up_ne _ _ hne) (va_up_ne _ _ hne) (va_up_ne _ _ hne) (va_up_ne _ _ hne))
theorem Wd_al {b : Nat} {cs : Nat → ClassId} {D : va_G} {H0 H H1 : Heap} {μ : Mem} {locs : List Loc} {c z : Nat} (hM : Wd (Ab b) b cs D H0 μ H locs) (hz : H.size = b + (mN μ + 1)) (z1 : H1.size = b + (mN μ + 1) + 1) (o1 : ∀ q, q < b + (mN μ + 1) → H1[q]? = H[q]?) (hat : va_at D vwCl (b + (mN μ + 1), ce b cs (al μ c z) (mN μ + 1)) H1) : Wd (Ab b) b cs D H0 (al μ c z) H1 locs := by
  refine ⟨by rw [z1]; exact Nat.lt_succ_self _, ?_, ?_, fun k h1 _ => by show b < b + k; omega⟩
  · rw [en_al]
    refine (hM.2.1.kept (fun k x hx => o1 x.1 (by rw [← hz]; exact (hM.2.1 k x hx).lt))).app (fun k x hx => ?_)
    have hk : k < 1 := (List.getElem?_eq_some_iff.mp hx).1
    rw [show k = 0 by omega] at hx
    cases hx
    exact hat
  · have hS := hM.2.2.1
    exact ⟨Nat.le_trans hS.1 (by omega), fun x h1 h2 => (o1 x (by have := hS.1; omega)).trans (hS.2.1 x h1 h2), hS.2.2⟩
def okT : FieldType → Bool
  | .int => true
  | .boolean => true
  | .long => true
  | .object _ => true
  | .array _ => true
  | _ => false
theorem fv_new {b : Nat} {μ : Mem} {c z j : Nat} {ty : FieldType} (h : okT ty = true) : fv b (al μ c z) (mN μ + 1) j ty = defaultValue ty := by
  have h1 : mI (al μ c z) (mN μ + 1) = fun _ => 0 := va_up_self _ _ _
  have h2 : mL (al μ c z) (mN μ + 1) = fun _ => 0 := va_up_self _ _ _
  have h3 : mR (al μ c z) (mN μ + 1) = fun _ => 0 := va_up_self _ _ _
  cases ty <;> first | (cases h; done) | (unfold fv; rw [h1]; rfl) | (unfold fv; rw [h2]; rfl) | (unfold fv; rw [h3]; rfl)
theorem mK_al {μ : Mem} {c z : Nat} : mK (al μ c z) (mN μ + 1) = c := by
  show (va_up μ.2.1 (μ.1 + 1) (c, z) (μ.1 + 1)).1 = c
  rw [va_up_self]
theorem mZ_al {μ : Mem} {c z : Nat} : mZ (al μ c z) (mN μ + 1) = z := by
  show (va_up μ.2.1 (μ.1 + 1) (c, z) (μ.1 + 1)).2 = z
  rw [va_up_self]
section JA
variable {p : Program} {l : Launch} {e : Env} {R : Room} {s : State} {m : MethodId} {args : Array Value} {below : List Frame} {meth : Method} {c : Code} {H H0 : Heap} {locs : List Loc} {cells slots : Nat} {Q : State → Prop} {cc : ByteArray} {pc : Nat} {ls : Array Slot} {rest : List Value} {b : Nat} {cs : Nat → ClassId} {D : va_G} {μ : Mem}
theorem W.sized {g : JFrame} (k : H.size ≤ s.heap.size + cells → W p l e R s m args below meth c H locs cells slots Q g) : W p l e R s m args below meth c H locs cells slots Q g := fun T hT X => k (by rw [← hT]; exact X.heapSize) T hT X
theorem g_new (hx : p.tables.exec = Jvm.exec) (hb : c.code = cc) {own C : String} {T : u_T} {N ci index : Nat} {Ts : List Cond} (hts : ∀ w ∈ Ts, w.before args s = true) (hin : ∀ w ∈ u_ws C T N, w ∈ Ts) (ty : Nat → FieldType) (hty : ∀ k, k < N → parseFieldDescriptor (T k).2.2.1 = some (ty k)) (hown : s.vm.findClass own = some m.cls) (hcl : (Cond.classLink own index C).before args s = true) (hinst : (Cond.instantiable C N).before args s = true) (hini : (Cond.initialized C).before args s = true) (hK : Kw cs D s) (hM : Wd (Ab b) b cs D H0 μ H locs) (hcs : s.heap.size + cells = b + mN μ + 1) (hci : ci < 100) (hc : vwCl[ci]? = some (C, T, N)) (hjt : ∀ j, j < N → j < jN ci ∧ jT ci j = ty j ∧ okT (ty j) = true) (hcells : cells + 1 ≤ R.cells) (hslots : slots + N ≤ R.slots) (hdg : decode cc pc = .ok (.new index, 3))
    (kk : ∀ H : Heap, Wd (Ab b) b cs D H0 (al μ ci 0) H locs → W p l e R s m args below meth c H locs (cells + 1) (slots + N) Q (F0 m (pc + 3) ls (.ref (b + (mN μ + 1)) :: rest))) : W p l e R s m args below meth c H locs cells slots Q (F0 m pc ls rest) := by
  refine W.sized fun hle => ?_
  have hz : H.size = b + (mN μ + 1) := by have := hM.1; omega
  have hKn := hK.1.1 ci _ hc
  refine W.newcK hx hb hown hcl hinst hini rfl hdg hcells hslots hKn.2.1 hz fun H1 kC hkC e1 z1 o1 => ?_
  refine kk H1 (Wd_al hM hz z1 o1 ?_)
  rw [ce_obj mK_al hci]
  refine ⟨_, hc, (u_born ty hts hin hKn hkC e1 hty).to (fun j hj => ?_)⟩
  obtain ⟨h1, h2, h3⟩ := hjt j hj
  have h4 : (fl b (al μ ci 0) (mN μ + 1) ci)[j]? = some (defaultValue (ty j)) := fl_get h1 (by rw [h2]; exact fv_new h3)
  unfold vp_V
  rw [List.getD_eq_getElem?_getD, h4]
  rfl
theorem g_newi (hx : p.tables.exec = Jvm.exec) (hb : c.code = cc) {atype : ArrayType} (hat : newarray.typeOf atype = .int) (harr : (Cond.arrayClass (newarray.typeOf atype)).before args s = true) (hK : Kw cs D s) (hM : Wd (Ab b) b cs D H0 μ H locs) (hcs : s.heap.size + cells = b + mN μ + 1) (ht : (tl cs)[0]? = some (cs 0, .int)) {n : Int32} {N : Nat} (hn : ¬ n < 0) (hN : n.toNatClampNeg = N) (hbytes : N * 4 ≤ 536870912) (hcells : cells + 1 ≤ R.cells) (hslots : slots + N ≤ R.slots) (hdg : decode cc pc = .ok (.newarray atype, 2))
    (kk : ∀ H : Heap, Wd (Ab b) b cs D H0 (al μ 100 N) H locs → W p l e R s m args below meth c H locs (cells + 1) (slots + N) Q (F0 m (pc + 2) ls (.ref (b + (mN μ + 1)) :: rest))) : W p l e R s m args below meth c H locs cells slots Q (F0 m pc ls (.int n :: rest)) := by
  refine W.sized fun hle => ?_
  have hz : H.size = b + (mN μ + 1) := by have := hM.1; omega
  refine va_newaK hx hb harr rfl hdg rfl hn hN (by rw [hat]; exact hbytes) hcells hslots hz fun H1 cA e1 z1 o1 hAr hNm => ?_
  rw [hat] at e1 hNm
  have hcA : cA = cs 0 := Option.some.inj (hNm.symm.trans (hK.1.2 0 _ ht).2)
  subst hcA
  refine kk H1 (Wd_al hM hz z1 o1 ?_)
  rw [ce_int mK_al, mZ_al, show mI (al μ 100 N) (mN μ + 1) = fun _ => 0 from va_up_self _ _ _]
  show H1[b + (mN μ + 1)]? = some (vp_cell _ _)
  rw [vp_cell_i]
  exact e1
theorem g_newl (hx : p.tables.exec = Jvm.exec) (hb : c.code = cc) {atype : ArrayType} (hat : newarray.typeOf atype = .long) (harr : (Cond.arrayClass (newarray.typeOf atype)).before args s = true) (hK : Kw cs D s) (hM : Wd (Ab b) b cs D H0 μ H locs) (hcs : s.heap.size + cells = b + mN μ + 1) (ht : (tl cs)[1]? = some (cs 1, .long)) {n : Int32} {N : Nat} (hn : ¬ n < 0) (hN : n.toNatClampNeg = N) (hbytes : N * 8 ≤ 536870912) (hcells : cells + 1 ≤ R.cells) (hslots : slots + N ≤ R.slots) (hdg : decode cc pc = .ok (.newarray atype, 2))
    (kk : ∀ H : Heap, Wd (Ab b) b cs D H0 (al μ 101 N) H locs → W p l e R s m args below meth c H locs (cells + 1) (slots + N) Q (F0 m (pc + 2) ls (.ref (b + (mN μ + 1)) :: rest))) : W p l e R s m args below meth c H locs cells slots Q (F0 m pc ls (.int n :: rest)) := by
  refine W.sized fun hle => ?_
  have hz : H.size = b + (mN μ + 1) := by have := hM.1; omega
  refine va_newaK hx hb harr rfl hdg rfl hn hN (by rw [hat]; exact hbytes) hcells hslots hz fun H1 cA e1 z1 o1 hAr hNm => ?_
  rw [hat] at e1 hNm
  have hcA : cA = cs 1 := Option.some.inj (hNm.symm.trans (hK.1.2 1 _ ht).2)
  subst hcA
  refine kk H1 (Wd_al hM hz z1 o1 ?_)
  rw [ce_long mK_al, mZ_al, show mL (al μ 101 N) (mN μ + 1) = fun _ => 0 from va_up_self _ _ _]
  show H1[b + (mN μ + 1)]? = some (vp_cell _ _)
  rw [vp_cell_l]
  exact e1
theorem g_newr (hx : p.tables.exec = Jvm.exec) (hb : c.code = cc) {own C : String} {index : Nat} (hown : s.vm.findClass own = some m.cls) (hclink : (Cond.classLink own index C).before args s = true) (hover : (Cond.arrayOver (.object C)).before args s = true) (hK : Kw cs D s) (hM : Wd (Ab b) b cs D H0 μ H locs) (hcs : s.heap.size + cells = b + mN μ + 1) (t : Nat) (ht : (tl cs)[2 + t]? = some (cs (2 + t), .object C)) {n : Int32} {N : Nat} (hn : ¬ n < 0) (hN : n.toNatClampNeg = N) (hbytes : N * 4 ≤ 536870912) (hcells : cells + 1 ≤ R.cells) (hslots : slots + N ≤ R.slots) (hdg : decode cc pc = .ok (.anewarray index, 3))
    (kk : ∀ H : Heap, Wd (Ab b) b cs D H0 (al μ (102 + t) N) H locs → W p l e R s m args below meth c H locs (cells + 1) (slots + N) Q (F0 m (pc + 3) ls (.ref (b + (mN μ + 1)) :: rest))) : W p l e R s m args below meth c H locs cells slots Q (F0 m pc ls (.int n :: rest)) := by
  refine W.sized fun hle => ?_
  have hz : H.size = b + (mN μ + 1) := by have := hM.1; omega
  subst hN
  refine W.anew hx hb hown hclink hover rfl hdg rfl hn hbytes hcells hslots fun cA kA comp f1 f2 f3 f4 => ?_
  obtain ⟨kA', comp', k1, k2, k3, k4⟩ := (hK.1.2 (2 + t) _ ht).2
  have hcA : cA = cs (2 + t) := Option.some.inj (f1.symm.trans k4)
  subst hcA
  generalize hH1 : H.push ({ cls := cs (2 + t), slots := Array.replicate n.toNatClampNeg .null, vm := .none } : Cell) = H1
  have z1 : H1.size = b + (mN μ + 1) + 1 := by rw [← hH1, Array.size_push, hz]
  have e1 : H1[b + (mN μ + 1)]? = some (arrV (cs (2 + t)) n.toNatClampNeg (fun _ => .null)) := by rw [← hH1, ← hz, Array.getElem?_push_size, ← arrV_new]
  have o1 : ∀ q : Nat, q < b + (mN μ + 1) → H1[q]? = H[q]? := fun q hq => by rw [← hH1, Array.getElem?_push, if_neg (Nat.ne_of_lt (by rw [hz]; exact hq))]
  show W p l e R s m args below meth c H1 locs (cells + 1) (slots + n.toNatClampNeg) Q (F0 m (pc + 3) ls (.ref H.size :: rest))
  rw [hz]
  refine kk H1 (Wd_al hM hz z1 o1 ?_)
  rw [ce_refs mK_al, mZ_al, show mR (al μ (102 + t) n.toNatClampNeg) (mN μ + 1) = fun _ => 0 from va_up_self _ _ _]
  show H1[b + (mN μ + 1)]? = some (vp_cell _ _)
  rw [vp_cell_q]
  exact e1
theorem g_putrF (hx : p.tables.exec = Jvm.exec) (hb : c.code = cc) {own ref C : String} {T : u_T} {N ci index : Nat} {Ts : List Cond} (hts : ∀ w ∈ Ts, w.before args s = true) (hin : ∀ w ∈ u_ws C T N, w ∈ Ts) (ty0 : Nat → FieldType) (hty : ∀ k, k < N → parseFieldDescriptor (T k).2.2.1 = some (ty0 k)) (hnm : ∀ a, a < N → ∀ b, b < N → a ≠ b → (T a).2.1 ≠ (T b).2.1) (hown : s.vm.findClass own = some m.cls) (hK : Kw cs D s) (hM : Wd (Ab b) b cs D H0 μ H locs) {k : Nat} (ho : ok μ k ci = true) (hci : ci < 100) (hc : vwCl[ci]? = some (C, T, N)) (j : Nat) (hj : j < N) (hlink : (Cond.fieldLink own index ref (T j).2.1 (T j).2.2.1).before args s = true) (hsame : ∀ x, s.fieldFound? (T j).1 (T j).2.1 (T j).2.2.1 = some x → s.fieldFound? ref (T j).2.1 (T j).2.2.1 = some x) (hfin : (T j).2.2.2 = true) (hin2 : meth.name = "<init>") (hdecl : (T j).1 = own) {ty : FieldType} {v : Nat} (hd : parseFieldDescriptor (T j).2.2.1 = some ty) (hn : narrow ty (.ref (b + v)) = .ref (b + v)) (hfit : fits ty (.ref (b + v)) = true) (hjn : j < jN ci) (hjt : ∀ x, fv b x k j (jT ci j) = rv b (mR x k j)) (hv : 0 < v) (hdg : decode cc pc = .ok (.putfield index, 3))
    (kk : ∀ (H : Heap) (locs : List Loc), Wd (Ab b) b cs D H0 (sR μ k j v) H locs → W p l e R s m args below meth c H locs cells slots Q (F0 m (pc + 3) ls rest)) : W p l e R s m args below meth c H locs cells slots Q (F0 m pc ls (.ref (b + v) :: .ref (b + k) :: rest)) :=
  va_putF hx hb hts hin ty0 hty hnm hown hK.1 hM.2.1 (en_D hM.2.2.2) hM.2.2.1 (k - 1) (en_obj ho hci) hc j hj hlink hsame hfin hin2 hdecl hd hn hfit (by rw [fl_len]; exact hjn) hdg (fun H1 locs1 hP _ hS => kk H1 locs1 (Wd.putr ho hci hjt hv hP hS hM.2.2.2))
theorem g_aast (hx : p.tables.exec = Jvm.exec) (hb : c.code = cc) (hK : Kw cs D s) (hM : Wd (Ab b) b cs D H0 μ H locs) {k v : Nat} (t ci : Nat) {r : vw_C} (ht : (tl cs)[2 + t]? = some (cs (2 + t), .object r.1)) (hc : vwCl[ci]? = some r) (hci : ci < 100) (ho : ok μ k (102 + t) = true) (hv : ok μ v ci = true) {i : Int32} (hi : ib i (mZ μ k) = true) (hdg : decode cc pc = .ok (.aastore, 1))
    (kk : ∀ (H : Heap) (locs : List Loc), Wd (Ab b) b cs D H0 (sR μ k i.toNatClampNeg v) H locs → W p l e R s m args below meth c H locs cells slots Q (F0 m (pc + 1) ls rest)) : W p l e R s m args below meth c H locs cells slots Q (F0 m pc ls (.ref (b + v) :: .int i :: .ref (b + k) :: rest)) :=
  va_astq hx hb hK.1 hM.2.1 (en_D hM.2.2.2) hM.2.2.1 (k - 1) (2 + t) (v - 1) ci (en_refs t ho) ht (en_obj hv hci) hc (ib_in hi) hdg (fun H1 locs1 hP _ hS => kk H1 locs1 (Wd.astr t ho (ok_0 hv) hP hS hM.2.2.2))
theorem Wd.startC {av : List Value} (h : va_Pc av (fun U => U.heap.size = b + mN μ + 1 ∧ Bw b cs D μ U ∧ Kw cs D U) args s) : args = av.toArray ∧ s.heap.size = b + mN μ + 1 ∧ Kw cs D s ∧ Wd (Ab b) b cs D s.heap μ s.heap [] := ⟨h.1, h.2.1, h.2.2.2, h.2.2.1.1, h.2.2.1.2, va_S.rf, fun k h1 _ => by show b < b + k; omega⟩
theorem Wd.preC {As : List Value} (hK : Kw cs D s) (hM : Wd (Ab b) b cs D H0 μ H locs) (hz : H.size = b + mN μ + 1) : PreS s H (va_Pc As (fun U => U.heap.size = b + mN μ + 1 ∧ Bw b cs D μ U ∧ Kw cs D U)) As := ⟨fun a U g mk q => by
  obtain ⟨q0, q1, q2, qK⟩ := q
  exact ⟨q0, q1, q2, Kw.same (u := U) (U := U.calling g mk a) rfl qK⟩, fun U hU hW => ⟨rfl, by rw [hU]; exact hz, ⟨by rw [hU]; exact hM.1, by rw [hU]; exact hM.2.1⟩, Kw.warm hW hK⟩⟩
theorem cs_of {S0 b N N0 k : Nat} (h : S0 = b + N0 + 1) (hN : N = N0 + k) : S0 + k = b + N + 1 := by omega
theorem N_of {Nq N N0 k mc k' : Nat} (g : Nq = N + mc) (h : N = N0 + k) (e : k + mc = k') : Nq = N0 + k' := by omega
theorem hz_of {S0 n0 : Nat} (hM : Wd (Ab b) b cs D H0 μ H locs) (hle : H.size ≤ S0 + n0) (hcs : S0 + n0 = b + mN μ + 1) : H.size = b + mN μ + 1 := by have := hM.1; omega
theorem g_callc {a : Array Value} {st0 : List Value} {μ' : Mem} {mc ms : Nat} (hr : va_Run p l e R s m args below meth c H locs cells slots mc ms (F0 m pc ls st0) rest (va_Qv (fun μ0 => μ0 = μ') (Bw b cs D) (Ab b) a) (Ab b)) (hM : Wd (Ab b) b cs D H0 μ H locs)
    (kk : ∀ (H1 : Heap) (locs1 : List Loc), Wd (Ab b) b cs D H0 μ' H1 locs1 → W p l e R s m args below meth c H1 locs1 (cells + mc) (slots + ms) Q (F0 m (pc + 3) ls rest)) : W p l e R s m args below meth c H locs cells slots Q (F0 m pc ls st0) := by
  refine va_callv hr hM.2.2.1 (fun _ _ h => h) (fun _ h => h) (fun u t H1 locs1 ht hvm hp hB hz hk hS => ?_)
  cases hp
  subst ht
  exact kk _ locs1 ⟨hB.1, hB.2, hS, fun k h1 _ => by show b < b + k; omega⟩
theorem g_cret (hx : p.tables.exec = Jvm.exec) (hb : c.code = cc) (hr : meth.sig.returnType = none) (hlocks : meth.locks = false) (hM : Wd (Ab b) b cs D s.heap μ H locs) {res : Mem} (h : μ = res) (hdg : decode cc pc = .ok (.return_, 1)) : W p l e R s m args below meth c H locs cells slots (MQ below (va_Qv (fun μ' => μ' = res) (Bw b cs D) (Ab b)) args s cells slots (Ab b)) (F0 m pc ls []) :=
  W.vret hx hb hr (fun _ ht _ => ⟨⟨μ, rfl, h, hM.fin ht⟩, hM.2.2.1.F ht⟩) hM.2.2.1.2.2 hdg hlocks
end JA
