/-! Pure: sums over rows, and how many ways there are, ear by ear. -/
def sm : Nat → (Nat → Nat) → Nat
  | 0, _ => 0
  | n + 1, f => sm n f + f n
theorem sm_congr {f g : Nat → Nat} : ∀ {n : Nat}, (∀ k, k < n → f k = g k) → sm n f = sm n g
  | 0, _ => rfl
  | n + 1, h => by
    show sm n f + f n = sm n g + g n
    rw [sm_congr (fun k hk => h k (by omega)), h n (by omega)]
theorem sm_zero : ∀ (n : Nat), sm n (fun _ => 0) = 0
  | 0 => rfl
  | n + 1 => by
    show sm n (fun _ => 0) + 0 = 0
    rw [sm_zero n]
theorem sm_add {f g : Nat → Nat} : ∀ (n : Nat), sm n (fun k => f k + g k) = sm n f + sm n g
  | 0 => rfl
  | n + 1 => by
    show sm n (fun k => f k + g k) + (f n + g n) = (sm n f + f n) + (sm n g + g n)
    rw [sm_add n]
    omega
theorem sm_mul {f : Nat → Nat} {c : Nat} : ∀ (n : Nat), sm n (fun k => c * f k) = c * sm n f
  | 0 => rfl
  | n + 1 => by
    show sm n (fun k => c * f k) + c * f n = c * (sm n f + f n)
    rw [sm_mul n, Nat.mul_add]
theorem sm_swap {f : Nat → Nat → Nat} (m : Nat) : ∀ (n : Nat), sm n (fun i => sm m (fun j => f i j)) = sm m (fun j => sm n (fun i => f i j))
  | 0 => (sm_zero m).symm
  | n + 1 => by
    show sm n (fun i => sm m (fun j => f i j)) + sm m (fun j => f n j) = sm m (fun j => sm n (fun i => f i j) + f n j)
    rw [sm_swap m n, sm_add]
/-- a sum over all rows of some atoms -/
def ns (B : Nat) : List Nat → ((Nat → Nat) → Nat) → (Nat → Nat) → Nat
  | [], f, w => f w
  | e :: es, f, w => sm B (fun k => ns B es f (va_up w e k))
theorem up_comm {w : Nat → Nat} {a b x y : Nat} (h : a ≠ b) : va_up (va_up w a x) b y = va_up (va_up w b y) a x := by
  funext j
  by_cases ha : j = a
  · subst ha
    rw [va_up_ne _ _ h, va_up_self, va_up_self]
  · by_cases hb : j = b
    · subst hb
      rw [va_up_self, va_up_ne _ _ ha, va_up_self]
    · rw [va_up_ne _ _ hb, va_up_ne _ _ ha, va_up_ne _ _ ha, va_up_ne _ _ hb]
theorem ns_congr {B : Nat} : ∀ {es : List Nat} {f g : (Nat → Nat) → Nat} {w : Nat → Nat}, (∀ w, f w = g w) → ns B es f w = ns B es g w
  | [], f, g, w, h => h w
  | e :: es, f, g, w, h => sm_congr (fun k _ => ns_congr h)
theorem ns_shift {B e k : Nat} : ∀ {es : List Nat} {f : (Nat → Nat) → Nat} {w : Nat → Nat}, e ∉ es → ns B es f (va_up w e k) = ns B es (fun w' => f (va_up w' e k)) w
  | [], _, _, _ => rfl
  | a :: es, f, w, h => by
    have hae : e ≠ a := fun z => h (by rw [z]; exact List.mem_cons_self)
    refine sm_congr (fun x _ => ?_)
    rw [up_comm hae]
    exact ns_shift (fun z => h (List.mem_cons_of_mem _ z))
theorem ns_sm {B m : Nat} : ∀ {es : List Nat} {g : Nat → (Nat → Nat) → Nat} {w : Nat → Nat}, sm m (fun k => ns B es (g k) w) = ns B es (fun w' => sm m (fun k => g k w')) w
  | [], _, _ => rfl
  | a :: es, g, w => by
    show sm m (fun k => sm B (fun x => ns B es (g k) (va_up w a x))) = sm B (fun x => ns B es (fun w' => sm m (fun k => g k w')) (va_up w a x))
    rw [sm_swap]
    exact sm_congr (fun x _ => ns_sm)
theorem ns_pull {B e : Nat} : ∀ {es : List Nat} {f : (Nat → Nat) → Nat} {w : Nat → Nat}, e ∈ es → ns B es f w = sm B (fun k => ns B (es.erase e) f (va_up w e k))
  | [], _, _, h => absurd h List.not_mem_nil
  | a :: es, f, w, h => by
    by_cases hae : a = e
    · subst hae
      rw [List.erase_cons_head]
      rfl
    · have hm : e ∈ es := by
        rcases List.mem_cons.mp h with z | z
        · exact absurd z.symm hae
        · exact z
      rw [List.erase_cons_tail (by simpa using hae)]
      show sm B (fun x => ns B es f (va_up w a x)) = sm B (fun k => sm B (fun x => ns B (es.erase e) f (va_up (va_up w e k) a x)))
      rw [sm_swap]
      refine sm_congr (fun x _ => ?_)
      rw [ns_pull hm]
      refine sm_congr (fun k _ => ?_)
      rw [up_comm hae]
noncomputable def ind (c : Prop) : Nat := @ite Nat c (Classical.propDecidable c) 1 0
theorem ind_t {c : Prop} (h : c) : ind c = 1 := by
  unfold ind
  rw [if_pos h]
theorem ind_f {c : Prop} (h : ¬ c) : ind c = 0 := by
  unfold ind
  rw [if_neg h]
theorem ind_iff {c d : Prop} (h : c ↔ d) : ind c = ind d := by rw [propext h]
theorem ind_and {c d : Prop} : ind (c ∧ d) = ind c * ind d := by
  by_cases hc : c
  · by_cases hd : d
    · rw [ind_t ⟨hc, hd⟩, ind_t hc, ind_t hd]
    · rw [ind_f (fun z => hd z.2), ind_f hd, Nat.mul_zero]
  · rw [ind_f (fun z => hc z.1), ind_f hc, Nat.zero_mul]
def pr : List Nat → (Nat → Nat) → Nat
  | [], _ => 1
  | e :: es, f => f e * pr es f
theorem pr_congr : ∀ {es : List Nat} {f g : Nat → Nat}, (∀ q, q ∈ es → f q = g q) → pr es f = pr es g
  | [], _, _, _ => rfl
  | e :: es, f, g, h => by
    show f e * pr es f = g e * pr es g
    rw [h e List.mem_cons_self, pr_congr (fun q hq => h q (List.mem_cons_of_mem _ hq))]
theorem pr_pull {e : Nat} : ∀ {es : List Nat} {f : Nat → Nat}, e ∈ es → pr es f = f e * pr (es.erase e) f
  | [], _, h => absurd h List.not_mem_nil
  | a :: es, f, h => by
    by_cases hae : a = e
    · subst hae
      rw [List.erase_cons_head]
      rfl
    · have hm : e ∈ es := by
        rcases List.mem_cons.mp h with z | z
        · exact absurd z.symm hae
        · exact z
      rw [List.erase_cons_tail (by simpa using hae)]
      show f a * pr es f = f e * (f a * pr (es.erase e) f)
      rw [pr_pull hm, Nat.mul_left_comm]
/-- the weights when e has been hung on p -/
noncomputable def wtUp (B : Nat) (V : Nat → Nat → Nat → Nat) (X : Nat → Nat → Nat) (wt : Nat → Nat → Nat) (e p : Nat) : Nat → Nat → Nat := fun q k => if q = p then wt p k * sm B (fun k' => ind (Ag V X p k e k') * wt e k') else wt q k
noncomputable def Zs (B : Nat) (V : Nat → Nat → Nat → Nat) (X : Nat → Nat → Nat) (Ls : List Nat) (wt : Nat → Nat → Nat) (w : Nat → Nat) : Nat := ns B Ls (fun w => ind (Con V X (fun q => q ∈ Ls) w) * pr Ls (fun q => wt q (w q))) w
theorem Con.iff {V : Nat → Nat → Nat → Nat} {X : Nat → Nat → Nat} {P P' : Nat → Prop} (h : ∀ q, P' q ↔ P q) (w : Nat → Nat) : Con V X P' w ↔ Con V X P w :=
  ⟨fun hc a b ha hb => hc a b ((h a).mpr ha) ((h b).mpr hb), fun hc a b ha hb => hc a b ((h a).mp ha) ((h b).mp hb)⟩
theorem Zs_step {B : Nat} {V : Nat → Nat → Nat → Nat} {X : Nat → Nat → Nat} {Ls : List Nat} {wt : Nat → Nat → Nat} {e p : Nat} (hn : Ls.Nodup) (h : Ear X (fun q => q ∈ Ls) e p) (hS : ∀ k, wt e k ≠ 0 → Ag V X e k e k) (w : Nat → Nat) : Zs B V X Ls wt w = Zs B V X (Ls.erase e) (wtUp B V X wt e p) w := by
  have he : e ∈ Ls := h.1
  have hpe : p ≠ e := h.2.2.1
  have hp : p ∈ Ls.erase e := (List.Nodup.mem_erase_iff hn).mpr ⟨hpe, h.2.1⟩
  have hne : e ∉ Ls.erase e := fun z => ((List.Nodup.mem_erase_iff hn).mp z).1 rfl
  have hoff : ∀ q, q ∈ Ls.erase e ↔ Off (fun q => q ∈ Ls) e q := fun q => (List.Nodup.mem_erase_iff hn).trans And.comm
  unfold Zs
  rw [ns_pull he]
  have h1 : ∀ k, ns B (Ls.erase e) (fun w => ind (Con V X (fun q => q ∈ Ls) w) * pr Ls (fun q => wt q (w q))) (va_up w e k) = ns B (Ls.erase e) (fun w => ind (Con V X (fun q => q ∈ Ls) (va_up w e k)) * pr Ls (fun q => wt q (va_up w e k q))) w := fun k => ns_shift hne
  rw [sm_congr (fun k _ => h1 k), ns_sm]
  refine ns_congr (fun w => ?_)
  have hq : ∀ k q, q ∈ Ls.erase e → va_up w e k q = w q := fun k q hq => va_up_ne _ _ (fun z => hne (by have h9 := hq; rw [z] at h9; exact h9))
  have h2 : ∀ k, ind (Con V X (fun q => q ∈ Ls) (va_up w e k)) * pr Ls (fun q => wt q (va_up w e k q)) = (ind (Con V X (fun q => q ∈ Ls.erase e) w) * pr (Ls.erase e) (fun q => wt q (w q))) * (ind (Ag V X p (w p) e k) * wt e k) := by
    intro k
    rw [pr_pull he, va_up_self, pr_congr (fun q hq' => by rw [hq k q hq'] : ∀ q, q ∈ Ls.erase e → wt q (va_up w e k q) = wt q (w q))]
    by_cases h0 : wt e k = 0
    · rw [h0, Nat.zero_mul, Nat.mul_zero, Nat.mul_zero, Nat.mul_zero]
    · have h3 : Con V X (fun q => q ∈ Ls) (va_up w e k) ↔ Con V X (fun q => q ∈ Ls.erase e) w ∧ Ag V X p (w p) e k := by
        rw [con_ear h, va_up_self, va_up_ne _ _ hpe]
        have h4 : Con V X (Off (fun q => q ∈ Ls) e) (va_up w e k) ↔ Con V X (fun q => q ∈ Ls.erase e) w :=
          (Con.congr (fun q hq' => va_up_ne _ _ hq'.2)).trans (Con.iff (fun q => (hoff q).symm) w)
        exact ⟨fun z => ⟨h4.mp z.1, z.2.1.sym⟩, fun z => ⟨h4.mpr z.1, z.2.sym, hS k h0⟩⟩
      rw [ind_iff h3, ind_and]
      rw [Nat.mul_comm (wt e k), ← Nat.mul_assoc, Nat.mul_assoc (ind _) (ind _), Nat.mul_comm (ind (Ag V X p (w p) e k)), ← Nat.mul_assoc, Nat.mul_assoc]
  rw [sm_congr (fun k _ => h2 k), sm_mul]
  rw [Nat.mul_assoc]
  congr 1
  rw [pr_pull hp, pr_pull (f := fun q => wtUp B V X wt e p q (w q)) hp]
  have h5 : pr ((Ls.erase e).erase p) (fun q => wtUp B V X wt e p q (w q)) = pr ((Ls.erase e).erase p) (fun q => wt q (w q)) := by
    refine pr_congr (fun q hq' => ?_)
    have hqp : q ≠ p := ((List.Nodup.mem_erase_iff (hn.erase e)).mp hq').1
    unfold wtUp
    rw [if_neg hqp]
  rw [h5]
  have h6 : wtUp B V X wt e p p (w p) = wt p (w p) * sm B (fun k' => ind (Ag V X p (w p) e k') * wt e k') := by
    unfold wtUp
    rw [if_pos rfl]
  show wt p (w p) * _ * _ = wtUp B V X wt e p p (w p) * _
  rw [h6, Nat.mul_assoc, Nat.mul_comm (pr _ _), ← Nat.mul_assoc]
