-- ===== THE RULE: the reference's way through it =====
noncomputable def stL (g : Nat → Int) : List Int → List Int → List Int
  | [], l => l
  | c :: cs, l => stL g cs (stepL g c l)
theorem stL_app (g : Nat → Int) : ∀ (a b l : List Int), stL g (a ++ b) l = stL g b (stL g a l) := by
  intro a
  induction a with
  | nil => intro b l; rfl
  | cons c cs ih => intro b l; exact ih b (stepL g c l)
/-- the code c gives v -/
def goodV (g : Nat → Int) (c : List Int) (v : Int) : Prop := c ≠ [] ∧ ∀ l : List Int, l.length + c.length ≤ 40 → stL g c l = v :: l
theorem pushL_ok {x : Int} {l : List Int} (h : l.length < 40) : pushL x l = x :: l := by unfold pushL; rw [if_neg (by omega)]
theorem goodV_num {g : Nat → Int} {v : Int} (h : v < 1000) : goodV g [v] v := ⟨by simp, fun l hl => by
  show stepL g v l = _
  unfold stepL
  rw [if_pos h]
  exact pushL_ok (by simp at hl; omega)⟩
theorem goodV_let {g : Nat → Int} {i : Int} (h0 : 0 ≤ i) (h1 : i < 8) : goodV g [1000 + i] (g i.toNat) := ⟨by simp, fun l hl => by
  show stepL g (1000 + i) l = _
  unfold stepL
  rw [if_neg (by omega), if_pos (by omega), show 1000 + i - 1000 = i by omega]
  exact pushL_ok (by simp at hl; omega)⟩
theorem goodV_neg {g : Nat → Int} {c : List Int} {v : Int} (h : goodV g c v) : goodV g (c ++ [2256]) (wr (-v)) := ⟨by simp, fun l hl => by
  have hl' : l.length + c.length + 1 ≤ 40 := by simp at hl; omega
  rw [stL_app, h.2 l (by omega)]
  show stepL g 2256 (v :: l) = _
  unfold stepL
  rw [if_neg (by decide), if_neg (by decide), if_pos rfl]
  exact pushL_ok (by show l.length < 40; omega)⟩
theorem goodV_op {g : Nat → Int} {c1 c2 : List Int} {v1 v2 o : Int} (h1 : goodV g c1 v1) (h2 : goodV g c2 v2) (ho : 8 ≤ o) (ho2 : o ≠ 256) : goodV g (c1 ++ c2 ++ [2000 + o]) (combP o v1 v2) := ⟨by simp, fun l hl => by
  have k1 : 0 < c1.length := List.length_pos_iff.2 h1.1
  have hl' : l.length + c1.length + c2.length + 1 ≤ 40 := by simp at hl; omega
  rw [stL_app, stL_app, h1.2 l (by omega), h2.2 (v1 :: l) (by simp only [List.length_cons]; omega)]
  show stepL g (2000 + o) (v2 :: v1 :: l) = _
  unfold stepL
  rw [if_neg (by omega), if_neg (by omega), if_neg (by omega), show 2000 + o - 2000 = o by omega]
  exact pushL_ok (by show l.length < 40; omega)⟩
theorem brk_unw {l : Int} (hl : 1 ≤ l) : ∀ S C : List Int, brk (unw l S C).2 = brk S := by
  intro S
  induction S with
  | nil => intro C; rfl
  | cons o S ih =>
    intro C
    show brk (if l ≤ ru_binding o then unw l S (C ++ [2000 + o]) else (C, o :: S)).2 = _
    by_cases h : l ≤ ru_binding o
    · rw [if_pos h, ih]
      have : o ≠ 40 := fun e => by
        subst e
        rw [show ru_binding 40 = 0 by unfold ru_binding; decide] at h
        omega
      show brk S = (if o = 40 then 1 else 0) + brk S
      rw [if_neg this]; omega
    · rw [if_neg h]
theorem unw_y {l o : Int} {S C : List Int} (h : l ≤ ru_binding o) : unw l (o :: S) C = unw l S (C ++ [2000 + o]) := if_pos h
theorem unw_n {l o : Int} {S C : List Int} (h : ¬ l ≤ ru_binding o) : unw l (o :: S) C = (C, o :: S) := if_neg h
theorem unw_top {l : Int} (hl : 1 ≤ l) {S C : List Int} (h : topB S < l) : unw l S C = (C, S) := by
  cases S with
  | nil => rfl
  | cons o S => exact unw_n (by show ¬ l ≤ ru_binding o; have : ru_binding o < l := h; omega)
theorem bnd_cases (x : Int) : (x = 42 ∧ ru_binding x = 3) ∨ (x = 47 ∧ ru_binding x = 3) ∨ (x = 43 ∧ ru_binding x = 2) ∨ (x = 45 ∧ ru_binding x = 2) ∨ (cmO x ∧ ru_binding x = 1) ∨ (x = 256 ∧ ru_binding x = 4) ∨ (¬ arO x ∧ ¬ cmO x ∧ x ≠ 256 ∧ ru_binding x = 0) := by
  unfold ru_binding
  by_cases a1 : x = 42
  · rw [if_pos a1]; exact Or.inl ⟨a1, rfl⟩
  rw [if_neg a1]
  by_cases a2 : x = 43
  · rw [if_pos a2]; exact Or.inr (Or.inr (Or.inl ⟨a2, rfl⟩))
  rw [if_neg a2]
  by_cases a3 : x = 45
  · rw [if_pos a3]; exact Or.inr (Or.inr (Or.inr (Or.inl ⟨a3, rfl⟩)))
  rw [if_neg a3]
  by_cases a4 : x = 47
  · rw [if_pos a4]; exact Or.inr (Or.inl ⟨a4, rfl⟩)
  rw [if_neg a4]
  by_cases a5 : x = 60
  · rw [if_pos a5]; exact Or.inr (Or.inr (Or.inr (Or.inr (Or.inl ⟨Or.inl a5, rfl⟩))))
  rw [if_neg a5]
  by_cases a6 : x = 61
  · rw [if_pos a6]; exact Or.inr (Or.inr (Or.inr (Or.inr (Or.inl ⟨Or.inr (Or.inl a6), rfl⟩))))
  rw [if_neg a6]
  by_cases a7 : x = 62
  · rw [if_pos a7]; exact Or.inr (Or.inr (Or.inr (Or.inr (Or.inl ⟨Or.inr (Or.inr a7), rfl⟩))))
  rw [if_neg a7]
  by_cases a8 : x = 256
  · rw [if_pos a8]; exact Or.inr (Or.inr (Or.inr (Or.inr (Or.inr (Or.inl ⟨a8, rfl⟩)))))
  rw [if_neg a8]
  exact Or.inr (Or.inr (Or.inr (Or.inr (Or.inr (Or.inr ⟨by omega, by omega, a8, rfl⟩)))))
theorem num_40 {z : Nat → Int} {m : Nat} (hz : ∀ i, m ≤ i → z i = -1) : ∀ (k p : Nat) (a : Int), p ≤ m → (num z k p a).1 ≤ m := by
  intro k
  induction k with
  | zero => intro p a h; exact h
  | succ k ih =>
    intro p a h
    rw [num_S]
    by_cases q : dg (z p)
    · rw [if_pos q]
      have : p < m := by
        rcases Nat.lt_or_ge p m with y | y
        · exact y
        · have := hz p y; omega
      exact ih (p + 1) _ (by omega)
    · rw [if_neg q]; exact h
/-- what waits when a part of this kind is read: held 0, sum 1, product 2, thing 3 -/
def preT (tag : Nat) (S : List Int) : Prop := tag < 3 → topB S ≤ (tag : Int)
def limT (tag : Nat) : Int := if tag = 0 then 1 else if tag = 1 then 2 else 3
def nxT (z : Nat → Int) (tag p : Nat) : Prop := (tag < 3 → z p ≠ 42 ∧ z p ≠ 47) ∧ (tag < 2 → z p ≠ 43 ∧ z p ≠ 45)
def accT (z : Nat → Int) (L : Nat) (tag d p0 : Nat) (lim : Int) (p : Nat) (c : List Int) : Prop := ∀ C S : List Int, preT tag S → brk S = d → ∃ C' S', (∀ l, 1 ≤ l → l ≤ lim → unw l S' C' = unw l S (C ++ c)) ∧ (tag = 0 → cmO (z p) → topB (unw 2 S' C').2 = 1) ∧ ∀ o, Out z L false p C' S' o → Out z L true p0 C S o
def recR (t : Nat) (z : Nat → Int) (L : Nat) (g : Nat → Int) (tag d p0 : Nat) (M0 : MEM) (r : Int × MEM) : Prop := ofM M0 r.2 ∧
  ((∃ f, f ≤ 40 ∧ fltM f r.2 ∧ ∀ C S : List Int, preT tag S → brk S = d → Out z L true p0 C S (.inl f)) ∨
   ∃ p c, p0 < p ∧ p ≤ 40 ∧ rdT t z L p r.2 ∧ goodV g c r.1 ∧ nxT z tag p ∧ accT z L tag d p0 (limT tag) p c)
/-- a row of operators that bind alike, from the left -/
theorem opLoop {t : Nat} {z : Nat → Int} {L : Nat} {g : Nat → Int} {M0 : MEM} {d p0 tag sub : Nat} {b : Int} {ops : Int → Prop} {body : Int × MEM → Option ((Int × MEM) ⊕ (Int × MEM))} {rec : MEM → Option (Int × MEM)}
    (hz : ∀ i, 40 ≤ i → z i = -1) (hzL : z L = -1) (tg1 : 1 ≤ tag) (tg2 : tag ≤ 2) (hsub : sub = tag + 1) (hb : b = (tag : Int) + 1) (hlim : limT tag = b) (hops : ∀ x, ops x → arO x ∧ ru_binding x = b) (hno : ∀ x, ¬ ops x → (tag = 2 → x ≠ 42 ∧ x ≠ 47) ∧ (tag = 1 → x ≠ 43 ∧ x ≠ 45))
    (B1 : ∀ v M f, fltM f M → body (v, M) = some (.inr (v, M)))
    (B2 : ∀ v M p, rdT t z L p M → ¬ ops (z p) → body (v, M) = some (.inr (v, M)))
    (B3 : ∀ v M p, rdT t z L p M → ops (z p) → body (v, M) = (rec (up2 M 278 17 ((p + 1 : Nat) : Int))).bind fun q => some (.inl (combP (z p) v q.1, q.2)))
    (R : ∀ M p, ofM M0 M → p ≤ 40 → p0 < p → rdT t z L p M → Tc (rec M) (recR t z L g sub d p M0)) :
    ∀ (k p n : Nat) (v : Int) (M : MEM) (c : List Int), 40 - p ≤ k → k + 2 ≤ n → p0 < p → p ≤ 40 → ofM M0 M → rdT t z L p M → goodV g c v → nxT z sub p → accT z L tag d p0 b p c → Tc (iter body n (v, M)) (recR t z L g tag d p0 M0) := by
  intro k
  induction k with
  | zero =>
    intro p n v M c hk hn hp hp4 hM hr hg hnx ha
    obtain ⟨n, rfl⟩ : ∃ m, n = m + 1 := ⟨n - 1, by omega⟩
    have no : ¬ ops (z p) := fun y => by have := (hops _ y).1; have := hz p (by omega); omega
    refine ⟨(v, M), ?_, hM, Or.inr ⟨p, c, hp, hp4, hr, hg, ?_, ?_⟩⟩
    · show (body (v, M)).bind _ = _
      rw [B2 v M p hr no]
      rfl
    · have := hz p (by omega)
      unfold nxT
      omega
    · rw [hlim]; exact ha
  | succ k ih =>
    intro p n v M c hk hn hp hp4 hM hr hg hnx ha
    obtain ⟨n, rfl⟩ : ∃ m, n = m + 1 := ⟨n - 1, by omega⟩
    by_cases q : ops (z p)
    · obtain ⟨q1, q2⟩ := hops _ q
      have zp : z p ≠ -1 := by rcases q1 with h | h | h | h <;> rw [h] <;> decide
      have ncm : ¬ cmO (z p) := by rcases q1 with h | h | h | h <;> rw [h] <;> decide
      have hp' : p < 40 := by
        rcases Nat.lt_or_ge p 40 with y | y
        · exact y
        · have := hz p y; omega
      have hr' := hr.mv (by omega)
      obtain ⟨⟨v2, M2⟩, e2, o2, out⟩ := R _ (p + 1) (hM.tr ofM.up17) (by omega) (by omega) hr'
      dsimp only at o2 out
      -- the operator is taken
      have take : ∀ C S : List Int, preT tag S → brk S = d → ∀ o, Out z L true (p + 1) (C ++ c) (z p :: S) o → Out z L true p0 C S o := fun C S hS hd o ho => by
        obtain ⟨C', S', a1, a2, a3⟩ := ha C S hS hd
        have tS : topB S < b := by have := hS (by clear ha; omega); clear ha a1 a3; omega
        have eu := a1 b (by clear ha a1 a3 hS tS; omega) (Int.le_refl _)
        rw [unw_top (by clear ha a1 a3 hS tS eu; omega) tS] at eu
        have pL : p ≠ L := fun e => zp (by rw [e]; exact hzL)
        refine a3 o (Out.op pL (Or.inl q1) (fun y => ncm y.1) ?_)
        rw [q2, show max 2 b = b by clear eu a1 a3 ha hS tS ho; omega, eu]
        exact ho
      have brS : ∀ S, brk (z p :: S) = brk S := fun S => by
        show (if z p = 40 then 1 else 0) + brk S = _
        rw [if_neg (by omega)]; omega
      have preS : ∀ S, preT sub (z p :: S) := fun S => by
        unfold preT
        show sub < 3 → ru_binding (z p) ≤ (sub : Int)
        omega
      rcases out with ⟨f, f40, ff, fo⟩ | ⟨p2, c2, g1, g2, g3, g4, g5, g6⟩
      · obtain ⟨n, rfl⟩ : ∃ m, n = m + 1 := ⟨n - 1, by omega⟩
        refine ⟨(combP (z p) v v2, M2), ?_, o2, Or.inl ⟨f, f40, ff, fun C S hS hd => take C S hS hd _ (fo _ _ (preS S) (by rw [brS]; exact hd))⟩⟩
        show (body (v, M)).bind _ = _
        rw [B3 v M p hr q, e2]
        show (body (combP (z p) v v2, M2)).bind _ = _
        rw [B1 _ _ f ff]
        rfl
      · have ha' : accT z L tag d p0 b p2 (c ++ c2 ++ [2000 + z p]) := fun C S hS hd => by
          obtain ⟨C2, S2, a1, a2, a3⟩ := g6 (C ++ c) (z p :: S) (preS S) (by rw [brS]; exact hd)
          refine ⟨C2, S2, fun l l1 l2 => ?_, fun y => by omega, fun o ho => take C S hS hd o (a3 o ho)⟩
          rw [a1 l l1 (by unfold limT; rw [if_neg (by omega), if_neg (by omega)]; omega), unw_y (by omega)]
          simp only [List.append_assoc]
        obtain ⟨r, er, hrr⟩ := ih p2 n (combP (z p) v v2) M2 _ (by omega) (by omega) (by omega) g2 o2 g3 (goodV_op hg g4 (by omega) (by omega)) g5 ha'
        refine ⟨r, ?_, hrr⟩
        rw [← er]
        show (body (v, M)).bind _ = _
        rw [B3 v M p hr q, e2]
        rfl
    · refine ⟨(v, M), ?_, hM, Or.inr ⟨p, c, hp, hp4, hr, hg, ?_, ?_⟩⟩
      · show (body (v, M)).bind _ = _
        rw [B2 v M p hr q]
        rfl
      · have := hno _ q
        unfold nxT at *
        omega
      · rw [hlim]; exact ha
