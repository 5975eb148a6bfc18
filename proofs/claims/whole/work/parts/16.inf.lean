-- ===== total correctness of the functions, regions of the memory =====
/-- the function has a value, and it is so -/
def Tc {α : Type} (o : Option α) (P : α → Prop) : Prop := ∃ a, o = some a ∧ P a
theorem Tc_some {α : Type} {a : α} {P : α → Prop} (h : P a) : Tc (some a) P := ⟨a, rfl, h⟩
theorem Tc_u {α β : Type} {v : β} {f : β → Option α} {P : α → Prop} (h : Tc (f v) P) : Tc ((some v).bind f) P := h
theorem Tc_b {α β : Type} {o : Option β} {f : β → Option α} {P : α → Prop} (h : Tc o (fun b => Tc (f b) P)) : Tc (o.bind f) P := by
  obtain ⟨b, rfl, h⟩ := h
  exact h
theorem Tc_c {α β : Type} {o : Option β} {f : β → Option α} {Q : β → Prop} {P : α → Prop} (h : Tc o Q) (k : ∀ b, Q b → Tc (f b) P) : Tc (o.bind f) P := by
  obtain ⟨b, rfl, h⟩ := h
  exact k b h
theorem Tc_e {α β : Type} {o : Option β} {b : β} {f : β → Option α} {P : α → Prop} (h : o = some b) (k : Tc (f b) P) : Tc (o.bind f) P := by
  subst h
  exact k
theorem Tc_m {α : Type} {o : Option α} {P Q : α → Prop} (h : Tc o P) (k : ∀ a, P a → Q a) : Tc o Q := by
  obtain ⟨a, e, h⟩ := h
  exact ⟨a, e, k a h⟩
theorem Tc_i {α : Type} {c : Prop} [Decidable c] {A B : Option α} {P : α → Prop} (h1 : c → Tc A P) (h2 : ¬ c → Tc B P) : Tc (if c then A else B) P := by
  by_cases h : c
  · rw [if_pos h]; exact h1 h
  · rw [if_neg h]; exact h2 h
theorem Tc_t {α : Type} {c : Prop} [Decidable c] {A B : Option α} {P : α → Prop} (hc : c) (h : Tc A P) : Tc (if c then A else B) P := by
  rw [if_pos hc]; exact h
theorem Tc_f {α : Type} {c : Prop} [Decidable c] {A B : Option α} {P : α → Prop} (hc : ¬ c) (h : Tc B P) : Tc (if c then A else B) P := by
  rw [if_neg hc]; exact h
theorem Tc_l {σ ε : Type} {body : σ → Option (σ ⊕ ε)} {s : σ} (I : Nat → σ → Prop) (E : ε → Prop) (N : Nat) (h0 : I 0 s) (hN : N < 1000000) (hs : ∀ i s, i < N → I i s → Tc (body s) (fun r => (∃ s', r = .inl s' ∧ I (i + 1) s') ∨ ∃ e, r = .inr e ∧ E e)) (he : ∀ s, I N s → Tc (body s) (fun r => ∃ e, r = .inr e ∧ E e)) : Tc (iter body FU s) E := by
  refine loop_inv I E N h0 hN (fun i s hi h => ?_) (fun s h => ?_)
  · obtain ⟨r, e, h⟩ := hs i s hi h
    rcases h with ⟨s', rfl, h⟩ | ⟨x, rfl, h⟩
    · exact Or.inl ⟨s', e, h⟩
    · exact Or.inr ⟨x, e, h⟩
  · obtain ⟨r, e, x, rfl, h⟩ := he s h
    exact ⟨x, e, h⟩
/-- a loop that runs to its count -/
theorem Tc_n {σ ε : Type} {body : σ → Option (σ ⊕ ε)} {s : σ} {E : ε → Prop} (I : Nat → σ → Prop) (N : Nat) (h0 : I 0 s) (hN : N < 1000000) (hs : ∀ i s, i < N → I i s → Tc (body s) (fun r => ∃ s', r = .inl s' ∧ I (i + 1) s')) (he : ∀ s, I N s → Tc (body s) (fun r => ∃ e, r = .inr e ∧ E e)) : Tc (iter body FU s) E :=
  Tc_l I E N h0 hN (fun i s hi h => Tc_m (hs i s hi h) (fun _ q => Or.inl q)) he
theorem Tc_inl {σ ε : Type} {s : σ} {P : σ → Prop} (h : P s) : Tc (some (.inl s : σ ⊕ ε)) (fun r => ∃ s', r = .inl s' ∧ P s') := ⟨_, rfl, s, rfl, h⟩
theorem Tc_inr {σ ε : Type} {s : ε} {P : ε → Prop} (h : P s) : Tc (some (.inr s : σ ⊕ ε)) (fun r => ∃ s', r = .inr s' ∧ P s') := ⟨_, rfl, s, rfl, h⟩
theorem Tc_inlL {σ ε : Type} {s : σ} {P : σ → Prop} {E : ε → Prop} (h : P s) : Tc (some (.inl s : σ ⊕ ε)) (fun r => (∃ s', r = .inl s' ∧ P s') ∨ ∃ e, r = .inr e ∧ E e) := ⟨_, rfl, Or.inl ⟨s, rfl, h⟩⟩
theorem Tc_inrR {σ ε : Type} {s : ε} {P : σ → Prop} {E : ε → Prop} (h : E s) : Tc (some (.inr s : σ ⊕ ε)) (fun r => (∃ s', r = .inl s' ∧ P s') ∨ ∃ e, r = .inr e ∧ E e) := ⟨_, rfl, Or.inr ⟨s, rfl, h⟩⟩
theorem Tc_and {α : Type} {o : Option α} {P Q : α → Prop} (h : Tc o P) (g : Tc o Q) : Tc o (fun a => P a ∧ Q a) := by
  obtain ⟨a, e, h⟩ := h
  obtain ⟨b, e2, g⟩ := g
  have : a = b := Option.some.inj (e.symm.trans e2)
  subst this
  exact ⟨a, e, h, g⟩
-- ===== regions: 0 scratch, 1 text, 2 flies, 3 rule, 4 donkeys, 5 carrots, 6 contracts, 7 rumours, 8 what can be undone, 9 kept, 10 row, 11 at rest, 12 how many donkeys and places =====
def rg (a k : Nat) : Nat :=
  if a < 246 then
    if a < 45 then
      if a < 19 then
        if a < 10 then
          if a = 0 then (if k = 14 then 10 else 0) else if a = 1 then (if k = 1 then 1 else 0) else if a = 2 then 1 else if a = 3 then (if k = 2 then 12 else if k = 3 then 4 else 0) else if a = 4 then 0 else if a = 5 then (if k = 4 then 5 else 0) else 5
        else if (a = 10 ∨ a = 13 ∨ a = 16) ∧ k = 2 then 12 else 4
      else if a ≤ 20 then 2 else if a = 21 then (if k = 3 then 3 else 0) else if a = 22 then 3 else if a < 34 then 0 else if a = 34 then (if k = 6 then 6 else 0) else if a < 40 then 6 else if a = 40 then 0 else 7
    else if a ≤ 222 then 8 else if a = 224 ∨ a = 234 then (if k = 6 then 11 else 0) else if a = 225 ∨ a = 235 then (if k = 4 then 11 else 0) else if a = 245 then 10 else 0
  else if a ≤ 277 then 9
  else if a = 278 then (if k = 1 then 12 else if k = 4 then 2 else if k = 5 then 11 else if k = 7 then 5 else if k = 8 then 11 else if k = 10 then 1 else if k = 12 then 10 else if k = 21 then 3 else if k = 29 then 11 else if k = 31 then 8 else if k = 41 then 6 else if k = 49 then 7 else if k = 51 then 12 else 0)
  else if a = 279 then 4 else if a = 280 then 12 else if a = 281 then 2 else if a = 282 then (if k < 40 then 5 else 0) else if a = 283 then 1 else if a = 284 then 10 else if a = 286 then 3 else if a = 288 then 8 else if a = 295 then 6 else if a = 302 then 7 else if a = 304 then 9 else if a = 305 then 9 else if a = 306 then 9 else 0
/-- only these regions have changed -/
def chg (L : List Nat) (M M1 : MEM) : Prop := ∀ a k, rg a k ∉ L → M1 a k = M a k
theorem chg.rf {L : List Nat} {M : MEM} : chg L M M := fun _ _ _ => rfl
theorem chg.up {L : List Nat} {M M1 : MEM} {a k : Nat} {x : Int} (h : rg a k ∈ L) (g : chg L M M1) : chg L M (up2 M1 a k x) := fun a' k' n => by
  rw [up2_at]
  by_cases e : a' = a ∧ k' = k
  · obtain ⟨rfl, rfl⟩ := e
    exact absurd h n
  · rw [if_neg e]
    exact g a' k' n
theorem chg.cpy {L : List Nat} {M M1 : MEM} {a b n : Nat} (h : ∀ k, k < n → rg b k ∈ L) (g : chg L M M1) : chg L M (cpy M1 a b n) := fun a' k' m => by
  rw [cpy_at]
  by_cases e : a' = b ∧ k' < n
  · obtain ⟨rfl, e⟩ := e
    exact absurd (h k' e) m
  · rw [if_neg e]
    exact g a' k' m
theorem chg.tr {L : List Nat} {M M1 M2 : MEM} (h : chg L M M1) (g : chg L M1 M2) : chg L M M2 := fun a k n => (g a k n).trans (h a k n)
theorem chg.sub {L L' : List Nat} {M M1 : MEM} (h : chg L M M1) (s : ∀ r ∈ L, r ∈ L') : chg L' M M1 := fun a k n => h a k (fun q => n (s _ q))
theorem chg.row {L : List Nat} {M M1 : MEM} (h : chg L M M1) {a : Nat} (s : ∀ k, rg a k ∉ L) : M1 a = M a := funext fun k => h a k (s k)
theorem rg_D {a k : Nat} (h1 : 10 ≤ a) (h2 : a ≤ 18) (h : k ≠ 2 ∨ (a ≠ 10 ∧ a ≠ 13 ∧ a ≠ 16)) : rg a k = 4 := by
  unfold rg
  rw [if_pos (by omega), if_pos (by omega), if_pos (by omega), if_neg (by omega), if_neg (by omega)]
theorem rg_P {a : Nat} (h : a = 10 ∨ a = 13 ∨ a = 16) : rg a 2 = 12 := by rcases h with rfl | rfl | rfl <;> rfl
theorem rg_U {a k : Nat} (h1 : 45 ≤ a) (h2 : a ≤ 222) : rg a k = 8 := by
  unfold rg
  rw [if_pos (by omega), if_neg (by omega), if_pos (by omega)]
theorem rg_K {a k : Nat} (h1 : 246 ≤ a) (h2 : a ≤ 277) : rg a k = 9 := by
  unfold rg
  rw [if_neg (by omega), if_pos (by omega)]
theorem rg_car {k : Nat} (h : k < 40) : rg 282 k = 5 := by
  unfold rg
  rw [if_neg (by omega), if_neg (by omega), if_neg (by omega), if_neg (by omega), if_neg (by omega), if_neg (by omega), if_pos rfl, if_pos h]
