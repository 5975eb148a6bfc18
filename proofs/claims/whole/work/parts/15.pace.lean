-- ===== the class's PACE out of its code =====
def pushL (x : Int) (l : List Int) : List Int := if 40 ≤ l.length then l else x :: l
def popL (l : List Int) : Int × List Int := match l with
  | [] => (0, [])
  | x :: r => (x, r)
noncomputable def combP (o x y : Int) : Int := if o = 42 then wr (x * y) else if o = 43 then wr (x + y) else if o = 45 then wr (x - y) else if o = 47 then (if y = 0 then 0 else wr (Int.tdiv x y)) else if o = 60 then (if y ≤ x then 0 else 1) else if o = 62 then (if x ≤ y then 0 else 1) else if x = y then 1 else 0
theorem ru_combine_eq (o x y : Int) : ru_combine o x y = some (combP o x y) := by
  unfold ru_combine combP
  by_cases h1 : o = 42
  · rw [if_pos h1, if_pos h1]
  rw [if_neg h1, if_neg h1]
  by_cases h2 : o = 43
  · rw [if_pos h2, if_pos h2]
  rw [if_neg h2, if_neg h2]
  by_cases h3 : o = 45
  · rw [if_pos h3, if_pos h3]
  rw [if_neg h3, if_neg h3]
  by_cases h4 : o = 47
  · rw [if_pos h4, if_pos h4]
    by_cases h : y = 0
    · rw [if_pos h, if_pos h]
    · rw [if_neg h, if_neg h, if_neg h]
  rw [if_neg h4, if_neg h4]
  by_cases h5 : o = 60
  · rw [if_pos h5, if_pos h5]
    by_cases h : y ≤ x
    · rw [if_pos h, if_pos h]
    · rw [if_neg h, if_neg h]
  rw [if_neg h5, if_neg h5]
  by_cases h6 : o = 62
  · rw [if_pos h6, if_pos h6]
    by_cases h : x ≤ y
    · rw [if_pos h, if_pos h]
    · rw [if_neg h, if_neg h]
  rw [if_neg h6, if_neg h6]
  by_cases h : x = y
  · rw [if_pos h, if_pos h]
  · rw [if_neg h, if_neg h]
noncomputable def stepL (g : Nat → Int) (c : Int) (l : List Int) : List Int :=
  if c < 1000 then pushL c l
  else if c < 1008 then pushL (g (c - 1000).toNat) l
  else if c = 2256 then pushL (wr (-(popL l).1)) (popL l).2
  else pushL (combP (c - 2000) (popL (popL l).2).1 (popL l).1) (popL (popL l).2).2
/-- the code's places i, i + 1 .. so many of them -/
noncomputable def runL (g code : Nat → Int) : Nat → Nat → List Int → List Int
  | 0, _, l => l
  | n + 1, i, l => runL g code n (i + 1) (stepL g (code i) l)
noncomputable def codeV (size : Int) (code g : Nat → Int) : Int := if size = 0 then 1 else max 0 (min 4 (popL (runL g code size.toNat 0 [])).1)
/-- cell 23 up to slot 4 of cell 21 holds the list, its head on top -/
def stkIs (M : MEM) (l : List Int) : Prop := M 21 4 = (l.length : Int) ∧ l.length ≤ 40 ∧ ∀ (i : Nat) (x : Int), l.reverse[i]? = some x → M 23 i = x
def offR (M M1 : MEM) : Prop := (∀ c, c ≠ 21 → c ≠ 23 → M1 c = M c) ∧ ∀ k, k ≠ 4 → M1 21 k = M 21 k
theorem offR.rf {M : MEM} : offR M M := ⟨fun _ _ _ => rfl, fun _ _ => rfl⟩
theorem offR.tr {M M1 M2 : MEM} (h : offR M M1) (g : offR M1 M2) : offR M M2 := ⟨fun c x y => (g.1 c x y).trans (h.1 c x y), fun k x => (g.2 k x).trans (h.2 k x)⟩
theorem push_eq {M : MEM} {l : List Int} (x : Int) (h : stkIs M l) : ∃ M1, ru_push 21 x M = some M1 ∧ stkIs M1 (pushL x l) ∧ offR M M1 := by
  obtain ⟨h1, h2, h3⟩ := h
  unfold ru_push pushL
  rw [if_neg (by omega)]
  by_cases hl : 40 ≤ l.length
  · rw [if_pos (by omega), if_pos hl]
    exact ⟨M, rfl, ⟨h1, h2, h3⟩, offR.rf⟩
  · rw [if_neg (by omega), if_pos (by omega), if_neg hl, h1, Option.bind_some, toNat_c]
    have r1 : up2 M (21 + 2) l.length x 21 4 = (l.length : Int) := by rw [rd_a (by omega), h1]
    rw [r1, wr_i (by omega) (by omega), Option.bind_some]
    refine ⟨_, rfl, ⟨?_, ?_, fun i y hy => ?_⟩, ⟨fun c hc1 hc2 => ?_, fun k hk => ?_⟩⟩
    · rw [rd_same, List.length_cons]; omega
    · rw [List.length_cons]; omega
    · rw [rd_a (by omega)]
      rw [List.reverse_cons] at hy
      by_cases hi : i < l.reverse.length
      · rw [List.getElem?_append_left hi] at hy
        rw [List.length_reverse] at hi
        rw [rd_k (by omega)]
        exact h3 i y hy
      · rw [List.getElem?_append_right (by omega)] at hy
        have hz : i - l.reverse.length < 1 := (List.getElem?_eq_some_iff.mp hy).1
        rw [List.length_reverse] at hi hz hy
        have : i = l.length := by omega
        subst this
        rw [Nat.sub_self] at hy
        have hy : some x = some y := hy
        cases hy
        exact rd_same
    · funext k; rw [rd_a hc1, rd_a hc2]
    · rw [rd_k hk, rd_a (by omega)]
theorem pop_eq {M : MEM} {l : List Int} (h : stkIs M l) : ∃ M1, ru_pop 21 M = some ((popL l).1, M1) ∧ stkIs M1 (popL l).2 ∧ offR M M1 := by
  obtain ⟨h1, h2, h3⟩ := h
  unfold ru_pop
  cases l with
  | nil =>
    rw [if_pos (by rw [h1]; decide)]
    exact ⟨M, rfl, ⟨h1, h2, h3⟩, offR.rf⟩
  | cons x r =>
    rw [List.length_cons] at h1 h2
    rw [if_neg (by omega), if_pos (by omega), h1, wr_i (by omega) (by omega), Option.bind_some, rd_same, if_pos (by omega), show (((r.length + 1 : Nat) : Int) - 1).toNat = r.length by omega]
    have hx : M 23 r.length = x := h3 r.length x (by rw [List.reverse_cons, List.getElem?_append_right (by simp)]; simp)
    have e : up2 M 21 4 (((r.length + 1 : Nat) : Int) - 1) (21 + 2) r.length = x := by rw [rd_a (by omega)]; exact hx
    rw [e]
    refine ⟨_, rfl, ⟨?_, ?_, fun i y hy => ?_⟩, ⟨fun c hc1 hc2 => ?_, fun k hk => ?_⟩⟩
    · rw [rd_same]; show _ = (r.length : Int); omega
    · show r.length ≤ 40; omega
    · rw [rd_a (by omega)]
      refine h3 i y ?_
      have hy : r.reverse[i]? = some y := hy
      rw [List.reverse_cons, List.getElem?_append_left (List.getElem?_eq_some_iff.mp hy).1]
      exact hy
    · funext k; rw [rd_a hc1]
    · rw [rd_k hk]
