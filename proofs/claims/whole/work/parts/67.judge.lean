-- ===== the judgement J: a function's value, if it has one, is what the code comes to =====
def J {α : Type} (o : Option α) (K : α → Prop) (G : Prop) : Prop := ∀ a, o = some a → K a → G
theorem J.mono {α : Type} {o : Option α} {K : α → Prop} {G G' : Prop} (f : G' → G) (h : J o K G') : J o K G := fun a e k => f (h a e k)
theorem J_none {α : Type} {K : α → Prop} {G : Prop} : J (none : Option α) K G := fun _ e _ => by cases e
theorem J_some {α : Type} {a : α} {K : α → Prop} {G : Prop} (h : K a → G) : J (some a) K G := fun b e k => by cases e; exact h k
theorem J_ite {α : Type} {c : Prop} [Decidable c] {A B : Option α} {K : α → Prop} {G : Prop} (h1 : c → J A K G) (h2 : ¬ c → J B K G) : J (if c then A else B) K G := by
  by_cases h : c
  · rw [if_pos h]; exact h1 h
  · rw [if_neg h]; exact h2 h
theorem J_iteT {α : Type} {c : Prop} [Decidable c] {A B : α} {K : α → Prop} {G : Prop} (h1 : c → J (some A) K G) (h2 : ¬ c → J (some B) K G) : J (some (if c then A else B)) K G := by
  by_cases h : c
  · rw [if_pos h]; exact h1 h
  · rw [if_neg h]; exact h2 h
theorem J_chk {α : Type} {c : Prop} [Decidable c] {A : Option α} {K : α → Prop} {G : Prop} (h1 : c → J A K G) : J (if c then A else none) K G := J_ite h1 (fun _ => J_none)
theorem J_chn {α : Type} {c : Prop} [Decidable c] {A : Option α} {K : α → Prop} {G : Prop} (h1 : ¬ c → J A K G) : J (if c then none else A) K G := J_ite (fun _ => J_none) h1
theorem J_c {α β : Type} {o : Option β} {f : β → Option α} {K : α → Prop} {G : Prop} (h : ∀ b, o = some b → J (f b) K G) : J (o.bind f) K G := by
  cases o with
  | none => exact J_none
  | some b => exact h b rfl
theorem J_b {α β : Type} {v : β} {f : β → Option α} {K : α → Prop} {G : Prop} (h : J (f v) K G) : J ((some v).bind f) K G := h
theorem J_hyp {α : Type} {o : Option α} {K : α → Prop} {G G' P Q : Prop} (f : (P → Q → G') → G) (h : P → Q → J o K G') : J o K G := fun a e k => f (fun p q => h p q a e k)
theorem J_loop {α ε : Type} {o : Option ε} {f : ε → Option α} {X : ε → Prop} {K : α → Prop} {G : Prop} (hl : J o X G) (h : ∀ e, J (f e) K (X e)) : J (o.bind f) K G := by
  intro b e k
  cases ho : o with
  | none => rw [ho] at e; cases e
  | some a => rw [ho] at e; exact hl a ho (h a b e k)
theorem J_iter {σ ε : Type} {body : σ → Option (σ ⊕ ε)} {HD : σ → Prop} {X : ε → Prop} (hb : ∀ s, J (body s) (Sum.elim HD X) (HD s)) : ∀ (n : Nat) (s : σ), J (iter body n s) X (HD s) := by
  intro n
  induction n with
  | zero => intro s a e _; cases e
  | succ n ih =>
    intro s a e k
    unfold iter at e
    cases ho : body s with
    | none => rw [ho] at e; cases e
    | some o =>
      rw [ho] at e
      refine hb s o ho ?_
      cases o with
      | inl s' => exact ih s' a e k
      | inr x =>
        have e : some x = some a := e
        cases e
        exact k
theorem J_elim {α ε ρ : Type} {e : ρ ⊕ ε} {f : ρ → Option α} {g : ε → Option α} {K : α → Prop} {A : ρ → Prop} {B : ε → Prop} (h1 : ∀ r, J (f r) K (A r)) (h2 : ∀ x, J (g x) K (B x)) : J (Sum.elim f g e) K (Sum.elim A B e) := by
  cases e with
  | inl r => exact h1 r
  | inr x => exact h2 x
-- ===== the world after the constructors, steps with numbers that a program writes =====
theorem inR_c {n : Int} (h : decide (-2147483648 ≤ n ∧ n < 2147483648) = true) : InR n := of_decide_eq_true (p := -2147483648 ≤ n ∧ n < 2147483648) h
theorem bip_c {n : Int} (h : decide (-128 ≤ n ∧ n < 128) = true) : -128 ≤ n ∧ n < 128 := of_decide_eq_true h
theorem sip_c {n : Int} (h : decide (-32768 ≤ n ∧ n < 32768) = true) : -32768 ≤ n ∧ n < 32768 := of_decide_eq_true h
/-- fewer locals known -/
def wk : List PV → List PV → Prop
  | [], [] => True
  | a :: as, b :: bs => (b = vN ∨ a = b) ∧ wk as bs
  | _, _ => False
theorem wk_get : ∀ {L L' : List PV}, wk L L' → ∀ (i : Nat) (v : PV), L'[i]? = some v → v = vN ∨ L[i]? = some v := by
  intro L
  induction L with
  | nil =>
    intro L' h i v hv
    cases L' with
    | nil => cases hv
    | cons b bs => exact h.elim
  | cons a as ih =>
    intro L' h i v hv
    cases L' with
    | nil => cases hv
    | cons b bs =>
      cases i with
      | zero =>
        have e : b = v := by simpa using hv
        subst e
        rcases h.1 with h | h
        · exact Or.inl h
        · exact Or.inr (by simp [h])
      | succ i => simpa using ih h.2 i v (by simpa using hv)
theorem w_forget {Δ : DT} {Γ : FT} {fl : Bool} {md : MD} {d pc : Nat} {L L' st : List PV} {w : WD} {cells slots : Nat} (h : wk L L') (k : WAt Δ Γ fl md d pc L' st w cells slots) : WAt Δ Γ fl md d pc L st w cells slots := by
  intro F hL hst hM ls H locs hl hP hS hz
  refine k F (fun v hv => ?_) hst hM ls H locs ⟨hl.1, hl.2.1, fun q hq => ?_⟩ hP hS hz
  · obtain ⟨i, hi⟩ := List.getElem?_of_mem hv
    rcases wk_get h i v hi with rfl | h1
    · exact trivial
    · exact hL v (List.mem_of_getElem? h1)
  · rcases List.mem_append.mp hq with hq | hq
    · exact hl.2.2 q (List.mem_append_left _ hq)
    obtain ⟨j, v, h1, h2, rfl⟩ := (lvlA_mem _ L' 0 _).mp hq
    rcases wk_get h j v h1 with rfl | h3
    · rcases h2 with ⟨n, h⟩ | ⟨a, h⟩ <;> cases h
    · exact hl.get h3 h2 |> fun q => by rw [Nat.zero_add]; exact q
theorem wk_0 : wk [] [] := trivial
theorem wk_d {a : PV} {as bs : List PV} (h : wk as bs) : wk (a :: as) (vN :: bs) := ⟨Or.inl rfl, h⟩
theorem wk_k {a : PV} {as bs : List PV} (h : wk as bs) : wk (a :: as) (a :: bs) := ⟨Or.inr rfl, h⟩

