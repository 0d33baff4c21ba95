/-! Pure: atoms with three columns each (X: the variable, V: the value of a row), hung by ears. No machine here. -/
/-- rows k of e and k' of e' give no shared variable two values -/
def Ag (V : Nat → Nat → Nat → Nat) (X : Nat → Nat → Nat) (e k e' k' : Nat) : Prop := ∀ c, c < 3 → ∀ c', c' < 3 → X e c = X e' c' → V e k c = V e' k' c'
def Con (V : Nat → Nat → Nat → Nat) (X : Nat → Nat → Nat) (P : Nat → Prop) (w : Nat → Nat) : Prop := ∀ e e', P e → P e' → Ag V X e (w e) e' (w e')
/-- e is an ear on p among P -/
def Ear (X : Nat → Nat → Nat) (P : Nat → Prop) (e p : Nat) : Prop := P e ∧ P p ∧ p ≠ e ∧ ∀ c, c < 3 → ∀ e', P e' → e' ≠ e → ∀ c', c' < 3 → X e c = X e' c' → ∃ d, d < 3 ∧ X p d = X e c
def Off (P : Nat → Prop) (e : Nat) : Nat → Prop := fun q => P q ∧ q ≠ e
theorem Ag.sym {V : Nat → Nat → Nat → Nat} {X : Nat → Nat → Nat} {e k e' k' : Nat} (h : Ag V X e k e' k') : Ag V X e' k' e k := fun c hc c' hc' hx => (h c' hc' c hc hx.symm).symm
theorem con_ear {V : Nat → Nat → Nat → Nat} {X : Nat → Nat → Nat} {P : Nat → Prop} {e p : Nat} (h : Ear X P e p) (w : Nat → Nat) : Con V X P w ↔ Con V X (Off P e) w ∧ Ag V X e (w e) p (w p) ∧ Ag V X e (w e) e (w e) := by
  obtain ⟨he, hp, hne, hear⟩ := h
  constructor
  · intro hc
    exact ⟨fun a b ha hb => hc a b ha.1 hb.1, hc e p he hp, hc e e he he⟩
  · intro hc
    obtain ⟨h1, h2, h3⟩ := hc
    have key : ∀ a, P a → a ≠ e → Ag V X e (w e) a (w a) := by
      intro a ha hae c hc c' hc' hx
      obtain ⟨d, hd, hdx⟩ := hear c hc a ha hae c' hc' hx
      rw [h2 c hc d hd hdx.symm]
      exact h1 p a ⟨hp, hne⟩ ⟨ha, hae⟩ d hd c' hc' (hdx.trans hx)
    intro a b ha hb
    by_cases hae : a = e
    · subst hae
      by_cases hbe : b = a
      · subst hbe
        exact h3
      · exact key b hb hbe
    · by_cases hbe : b = e
      · subst hbe
        exact (key a ha hae).sym
      · exact h1 a b ⟨ha, hae⟩ ⟨hb, hbe⟩
/-- a way among P with rows in S -/
def Way (V : Nat → Nat → Nat → Nat) (X : Nat → Nat → Nat) (P : Nat → Prop) (S : Nat → Nat → Prop) (w : Nat → Nat) : Prop := (∀ q, P q → S q (w q)) ∧ Con V X P w
/-- rows of p that have a row of e to agree with -/
def Up (V : Nat → Nat → Nat → Nat) (X : Nat → Nat → Nat) (S : Nat → Nat → Prop) (e p : Nat) : Nat → Nat → Prop := fun q k => S q k ∧ (q = p → ∃ k', S e k' ∧ Ag V X p k e k')
theorem Con.congr {V : Nat → Nat → Nat → Nat} {X : Nat → Nat → Nat} {P : Nat → Prop} {w w' : Nat → Nat} (h : ∀ q, P q → w' q = w q) : Con V X P w' ↔ Con V X P w :=
  ⟨fun hc a b ha hb => by rw [← h a ha, ← h b hb]; exact hc a b ha hb, fun hc a b ha hb => by rw [h a ha, h b hb]; exact hc a b ha hb⟩
theorem way_split {V : Nat → Nat → Nat → Nat} {X : Nat → Nat → Nat} {P : Nat → Prop} {S : Nat → Nat → Prop} {e p : Nat} (h : Ear X P e p) (hS : ∀ k, S e k → Ag V X e k e k) (w : Nat → Nat) : Way V X P S w ↔ Way V X (Off P e) S w ∧ S e (w e) ∧ Ag V X p (w p) e (w e) := by
  constructor
  · intro hw
    obtain ⟨h1, h2⟩ := hw
    obtain ⟨g1, g2, g3⟩ := (con_ear h w).mp h2
    exact ⟨⟨fun q hq => h1 q hq.1, g1⟩, h1 e h.1, g2.sym⟩
  · intro hw
    obtain ⟨⟨h1, h2⟩, h3, h4⟩ := hw
    refine ⟨fun q hq => ?_, (con_ear h w).mpr ⟨h2, h4.sym, hS _ h3⟩⟩
    by_cases hqe : q = e
    · subst hqe
      exact h3
    · exact h1 q ⟨hq, hqe⟩
theorem way_up {V : Nat → Nat → Nat → Nat} {X : Nat → Nat → Nat} {P : Nat → Prop} {S : Nat → Nat → Prop} {e p : Nat} (h : Ear X P e p) (hS : ∀ k, S e k → Ag V X e k e k) (w : Nat → Nat) : Way V X (Off P e) (Up V X S e p) w ↔ ∃ k, Way V X P S (va_up w e k) := by
  have hpe : p ≠ e := h.2.2.1
  have hq : ∀ k q, Off P e q → va_up w e k q = w q := fun k q hq => va_up_ne _ _ hq.2
  constructor
  · intro hw
    obtain ⟨h1, h2⟩ := hw
    obtain ⟨h3, h4⟩ := h1 p ⟨h.2.1, hpe⟩
    obtain ⟨k, h5, h6⟩ := h4 rfl
    refine ⟨k, (way_split h hS _).mpr ⟨⟨fun q hP => ?_, (Con.congr (hq k)).mpr h2⟩, ?_, ?_⟩⟩
    · rw [hq k q hP]
      exact (h1 q hP).1
    · rw [va_up_self]
      exact h5
    · rw [va_up_self, va_up_ne _ _ hpe]
      exact h6
  · intro hw
    obtain ⟨k, hw⟩ := hw
    obtain ⟨⟨h1, h2⟩, h3, h4⟩ := (way_split h hS _).mp hw
    rw [va_up_self] at h3 h4
    rw [va_up_ne _ _ hpe] at h4
    refine ⟨fun q hP => ⟨?_, fun hqp => ?_⟩, (Con.congr (hq k)).mp h2⟩
    · have := h1 q hP
      rw [hq k q hP] at this
      exact this
    · subst hqp
      exact ⟨k, h3, h4⟩
/-- an order of hanging: ears with their parents; what is left; the rows left by the pass up, and by the pass down -/
def Hung (X : Nat → Nat → Nat) : List (Nat × Nat) → (Nat → Prop) → Prop
  | [], P => ∀ a b, P a → P b → a = b
  | x :: xs, P => Ear X P x.1 x.2 ∧ Hung X xs (Off P x.1)
def upAll (V : Nat → Nat → Nat → Nat) (X : Nat → Nat → Nat) : List (Nat × Nat) → (Nat → Nat → Prop) → Nat → Nat → Prop
  | [], S => S
  | x :: xs, S => upAll V X xs (Up V X S x.1 x.2)
def Dn (V : Nat → Nat → Nat → Nat) (X : Nat → Nat → Nat) (S : Nat → Nat → Prop) (e p : Nat) : Nat → Nat → Prop := fun q k => S q k ∧ (q = e → ∃ k', S p k' ∧ Ag V X p k' e k)
def dnAll (V : Nat → Nat → Nat → Nat) (X : Nat → Nat → Nat) : List (Nat × Nat) → (Nat → Nat → Prop) → Nat → Nat → Prop
  | [], S => S
  | x :: xs, S => Dn V X (dnAll V X xs S) x.1 x.2
theorem hung_off {X : Nat → Nat → Nat} : ∀ (xs : List (Nat × Nat)) (P : Nat → Prop), Hung X xs P → ∀ x ∈ xs, P x.1 ∧ P x.2
  | [], _, _, _, hx => absurd hx List.not_mem_nil
  | y :: ys, P, h, x, hx => by
    rcases List.mem_cons.mp hx with rfl | hx
    · exact ⟨h.1.1, h.1.2.1⟩
    · have := hung_off ys _ h.2 x hx
      exact ⟨this.1.1, this.2.1⟩
theorem upAll_out {V : Nat → Nat → Nat → Nat} {X : Nat → Nat → Nat} : ∀ (xs : List (Nat × Nat)) (P : Nat → Prop) (S : Nat → Nat → Prop) (q : Nat), Hung X xs P → ¬ P q → ∀ k, upAll V X xs S q k ↔ S q k
  | [], _, _, _, _, _, _ => Iff.rfl
  | y :: ys, P, S, q, h, hq, k => by
    have h1 := upAll_out (V := V) ys (Off P y.1) (Up V X S y.1 y.2) q h.2 (fun z => hq z.1) k
    have h2 : q ≠ y.2 := fun z => hq (by rw [z]; exact h.1.2.1)
    exact h1.trans ⟨fun z => z.1, fun z => ⟨z, fun z2 => absurd z2 h2⟩⟩
theorem dnAll_out {V : Nat → Nat → Nat → Nat} {X : Nat → Nat → Nat} : ∀ (xs : List (Nat × Nat)) (P : Nat → Prop) (S : Nat → Nat → Prop) (q : Nat), Hung X xs P → ¬ P q → ∀ k, dnAll V X xs S q k ↔ S q k
  | [], _, _, _, _, _, _ => Iff.rfl
  | y :: ys, P, S, q, h, hq, k => by
    have h1 := dnAll_out (V := V) ys (Off P y.1) S q h.2 (fun z => hq z.1) k
    have h2 : q ≠ y.1 := fun z => hq (by rw [z]; exact h.1.1)
    exact Iff.trans ⟨fun z => z.1, fun z => ⟨z, fun z2 => absurd z2 h2⟩⟩ h1
/-- the rows that are left are those that some way uses -/
theorem live_rows {V : Nat → Nat → Nat → Nat} {X : Nat → Nat → Nat} : ∀ (xs : List (Nat × Nat)) (P : Nat → Prop) (S : Nat → Nat → Prop), Hung X xs P → (∀ q k, S q k → Ag V X q k q k) → ∀ q, P q → ∀ k, dnAll V X xs (upAll V X xs S) q k ↔ ∃ w, Way V X P S w ∧ w q = k
  | [], P, S, h, hS, q, hq, k => by
    constructor
    · intro hk
      refine ⟨fun _ => k, ⟨fun a ha => ?_, fun a b ha hb => ?_⟩, rfl⟩
      · rw [h a q ha hq]
        exact hk
      · rw [h a q ha hq, h b q hb hq]
        exact hS q k hk
    · intro hw
      obtain ⟨w, hw, rfl⟩ := hw
      exact hw.1 q hq
  | x :: xs, P, S, h, hS, q, hq, k => by
    have hE := h.1
    have hpe : x.2 ≠ x.1 := hE.2.2.1
    have hS1 : ∀ q k, Up V X S x.1 x.2 q k → Ag V X q k q k := fun q k z => hS q k z.1
    have ih := live_rows xs (Off P x.1) (Up V X S x.1 x.2) h.2 hS1
    have hup := way_up (V := V) (S := S) hE (fun k z => hS _ k z)
    by_cases hqe : q = x.1
    · subst hqe
      have hU : ∀ k, upAll V X xs (Up V X S x.1 x.2) x.1 k ↔ S x.1 k := fun k => (upAll_out (V := V) xs _ _ _ h.2 (fun z => z.2 rfl) k).trans ⟨fun z => z.1, fun z => ⟨z, fun z2 => absurd z2.symm hpe⟩⟩
      have hD := fun k => (dnAll_out (V := V) xs _ (upAll V X xs (Up V X S x.1 x.2)) x.1 h.2 (fun z => z.2 rfl) k).trans (hU k)
      constructor
      · intro hk
        obtain ⟨h1, h2⟩ := hk
        obtain ⟨k', h3, h4⟩ := h2 rfl
        obtain ⟨w, hw, hwp⟩ := (ih x.2 ⟨hE.2.1, hpe⟩ k').mp h3
        refine ⟨va_up w x.1 k, (way_split hE (fun k z => hS _ k z) _).mpr ⟨⟨fun a ha => ?_, (Con.congr (fun a ha => va_up_ne _ _ ha.2)).mpr hw.2⟩, ?_, ?_⟩, va_up_self _ _ _⟩
        · rw [va_up_ne _ _ ha.2]
          exact (hw.1 a ha).1
        · rw [va_up_self]
          exact (hD k).mp h1
        · rw [va_up_self, va_up_ne _ _ hpe, hwp]
          exact h4
      · intro hw
        obtain ⟨w, hw, rfl⟩ := hw
        obtain ⟨g1, g2, g3⟩ := (way_split hE (fun k z => hS _ k z) _).mp hw
        refine ⟨(hD _).mpr g2, fun _ => ⟨w x.2, (ih x.2 ⟨hE.2.1, hpe⟩ _).mpr ⟨w, ⟨fun a ha => ⟨g1.1 a ha, fun hap => ?_⟩, g1.2⟩, rfl⟩, g3⟩⟩
        subst hap
        exact ⟨w x.1, g2, g3⟩
    · have h1 : dnAll V X (x :: xs) (upAll V X (x :: xs) S) q k ↔ dnAll V X xs (upAll V X xs (Up V X S x.1 x.2)) q k := ⟨fun z => z.1, fun z => ⟨z, fun z2 => absurd z2 hqe⟩⟩
      rw [h1, ih q ⟨hq, hqe⟩ k]
      constructor
      · intro hw
        obtain ⟨w, hw, hwq⟩ := hw
        obtain ⟨k', hk'⟩ := (hup w).mp hw
        exact ⟨_, hk', by rw [va_up_ne _ _ hqe]; exact hwq⟩
      · intro hw
        obtain ⟨w, hw, hwq⟩ := hw
        refine ⟨w, (hup w).mpr ⟨w x.1, ?_⟩, hwq⟩
        rw [show va_up w x.1 (w x.1) = w from funext fun j => by
          by_cases hj : j = x.1
          · subst hj; exact va_up_self _ _ _
          · exact va_up_ne _ _ hj]
        exact hw
