-- ===== one DONKEY's minute =====
/-- place, hunger, strokes, thistles -/
abbrev DS := Int × Int × Int × (Nat → Int)
def oneD (n : Int) (s : DS) : DS × Bool :=
  let p := if s.1 + 1 < n then s.1 + 1 else 0
  let h := if p = 0 then min 9 (s.2.1 + 1) else s.2.1
  let k := if p = 0 then s.2.2.1 + 1 else s.2.2.1
  if 0 < s.2.2.2 p.toNat then ((p, max 0 (h - 2), k, up1 s.2.2.2 p.toNat (s.2.2.2 p.toNat - 1)), true) else ((p, h, k, s.2.2.2), false)
/-- so many steps, till a thistle is eaten -/
def walkD (n : Int) : Nat → DS → DS × Bool
  | 0, s => (s, false)
  | j + 1, s => if (oneD n s).2 = true then oneD n s else walkD n j (oneD n s).1
def okD (n : Int) (s : DS) : Prop := 4 ≤ n ∧ n ≤ 12 ∧ 0 ≤ s.1 ∧ s.1 < n ∧ 0 ≤ s.2.1 ∧ s.2.1 ≤ 9 ∧ 0 ≤ s.2.2.1 ∧ s.2.2.1 < 1073741824 ∧ ∀ p : Nat, (p : Int) < n → 0 ≤ s.2.2.2 p ∧ s.2.2.2 p ≤ 9
/-- the same but for places that are not there -/
def eqD (n : Int) (s t : DS) : Prop := s.1 = t.1 ∧ s.2.1 = t.2.1 ∧ s.2.2.1 = t.2.2.1 ∧ ∀ p : Nat, (p : Int) < n → s.2.2.2 p = t.2.2.2 p
def nxt (n p : Int) : Int := if p + 1 < n then p + 1 else 0
theorem oneD_def (n : Int) (s : DS) : oneD n s = if 0 < s.2.2.2 (nxt n s.1).toNat then
    ((nxt n s.1, max 0 ((if nxt n s.1 = 0 then min 9 (s.2.1 + 1) else s.2.1) - 2), (if nxt n s.1 = 0 then s.2.2.1 + 1 else s.2.2.1), up1 s.2.2.2 (nxt n s.1).toNat (s.2.2.2 (nxt n s.1).toNat - 1)), true)
    else ((nxt n s.1, (if nxt n s.1 = 0 then min 9 (s.2.1 + 1) else s.2.1), (if nxt n s.1 = 0 then s.2.2.1 + 1 else s.2.2.1), s.2.2.2), false) := rfl
theorem nxt_in {n p : Int} (hn : 0 < n) (h0 : 0 ≤ p) : 0 ≤ nxt n p ∧ nxt n p < n := by unfold nxt; split <;> omega
theorem oneD_place (n : Int) (s : DS) : (oneD n s).1.1 = nxt n s.1 := by
  rw [oneD_def]
  by_cases h : 0 < s.2.2.2 (nxt n s.1).toNat
  · rw [if_pos h]
  · rw [if_neg h]
theorem oneD_hunger (n : Int) (s : DS) : (oneD n s).1.2.1 = if 0 < s.2.2.2 (nxt n s.1).toNat then max 0 ((if nxt n s.1 = 0 then min 9 (s.2.1 + 1) else s.2.1) - 2) else (if nxt n s.1 = 0 then min 9 (s.2.1 + 1) else s.2.1) := by
  rw [oneD_def]
  by_cases h : 0 < s.2.2.2 (nxt n s.1).toNat
  · rw [if_pos h, if_pos h]
  · rw [if_neg h, if_neg h]
theorem oneD_strokes (n : Int) (s : DS) : (oneD n s).1.2.2.1 = if nxt n s.1 = 0 then s.2.2.1 + 1 else s.2.2.1 := by
  rw [oneD_def]
  by_cases h : 0 < s.2.2.2 (nxt n s.1).toNat
  · rw [if_pos h]
  · rw [if_neg h]
theorem oneD_th (n : Int) (s : DS) : (oneD n s).1.2.2.2 = if 0 < s.2.2.2 (nxt n s.1).toNat then up1 s.2.2.2 (nxt n s.1).toNat (s.2.2.2 (nxt n s.1).toNat - 1) else s.2.2.2 := by
  rw [oneD_def]
  by_cases h : 0 < s.2.2.2 (nxt n s.1).toNat
  · rw [if_pos h, if_pos h]
  · rw [if_neg h, if_neg h]
theorem oneD_ate (n : Int) (s : DS) : (oneD n s).2 = decide (0 < s.2.2.2 (nxt n s.1).toNat) := by
  rw [oneD_def]
  by_cases h : 0 < s.2.2.2 (nxt n s.1).toNat
  · rw [if_pos h]; simp [h]
  · rw [if_neg h]; simp [h]
theorem up1_at (f : Nat → Int) (k : Nat) (x : Int) (j : Nat) : up1 f k x j = if j = k then x else f j := rfl
theorem oneD_ok {n : Int} {s : DS} (h : okD n s) (hk : s.2.2.1 + 1 < 1073741824) : okD n (oneD n s).1 := by
  obtain ⟨h1, h2, h3, h4, h5, h6, h7, h8, h9⟩ := h
  have hq := nxt_in (n := n) (p := s.1) (by omega) h3
  refine ⟨h1, h2, ?_, ?_, ?_, ?_, ?_, ?_, fun p hp => ?_⟩
  · rw [oneD_place]; exact hq.1
  · rw [oneD_place]; exact hq.2
  · rw [oneD_hunger]
    have : 0 ≤ (if nxt n s.1 = 0 then min 9 (s.2.1 + 1) else s.2.1) := by split <;> omega
    split <;> omega
  · rw [oneD_hunger]
    have : (if nxt n s.1 = 0 then min 9 (s.2.1 + 1) else s.2.1) ≤ 9 := by split <;> omega
    split <;> omega
  · rw [oneD_strokes]; split <;> omega
  · rw [oneD_strokes]; split <;> omega
  · rw [oneD_th]
    have h0 := h9 p hp
    by_cases hc : 0 < s.2.2.2 (nxt n s.1).toNat
    · rw [if_pos hc, up1_at]
      by_cases e : p = (nxt n s.1).toNat
      · subst e
        rw [if_pos rfl]
        omega
      · rw [if_neg e]; exact h0
    · rw [if_neg hc]; exact h0
theorem oneD_congr {n : Int} {s t : DS} (hn : 0 < n) (hs : 0 ≤ s.1) (h : eqD n s t) : eqD n (oneD n s).1 (oneD n t).1 ∧ (oneD n s).2 = (oneD n t).2 := by
  obtain ⟨h1, h2, h3, h4⟩ := h
  have hq := nxt_in (n := n) (p := s.1) hn hs
  have e : s.2.2.2 (nxt n s.1).toNat = t.2.2.2 (nxt n s.1).toNat := h4 _ (by omega)
  refine ⟨⟨?_, ?_, ?_, fun p hp => ?_⟩, ?_⟩
  · rw [oneD_place, oneD_place, h1]
  · rw [oneD_hunger, oneD_hunger, ← h1, ← h2, e]
  · rw [oneD_strokes, oneD_strokes, ← h1, ← h3]
  · rw [oneD_th, oneD_th, ← h1, e]
    split
    · rw [up1_at, up1_at]
      split
      · rfl
      · exact h4 p hp
    · exact h4 p hp
  · rw [oneD_ate, oneD_ate, ← h1, e]
theorem walkD_S (n : Int) (j : Nat) (s : DS) : walkD n (j + 1) s = if (oneD n s).2 = true then oneD n s else walkD n j (oneD n s).1 := rfl
theorem walkD_congr {n : Int} (hn : 0 < n) : ∀ (j : Nat) {s t : DS}, 0 ≤ s.1 → eqD n s t → eqD n (walkD n j s).1 (walkD n j t).1 ∧ (walkD n j s).2 = (walkD n j t).2 := by
  intro j
  induction j with
  | zero => intro s t _ h; exact ⟨h, rfl⟩
  | succ j ih =>
    intro s t hs h
    have h1 := oneD_congr hn hs h
    rw [walkD_S, walkD_S, ← h1.2]
    split
    · exact h1
    · exact ih (by rw [oneD_place]; exact (nxt_in hn hs).1) h1.1
/-- in n steps at most, one STROKE at most; none, if PLACE 0 isn't reached -/
theorem walkD_strokes {n : Int} (hn : 0 < n) : ∀ (j : Nat) (s : DS), 0 ≤ s.1 → s.1 < n → (j : Int) ≤ n → ((walkD n j s).1.2.2.1 = s.2.2.1 ∨ ((walkD n j s).1.2.2.1 = s.2.2.1 + 1 ∧ n ≤ s.1 + j)) := by
  intro j
  induction j with
  | zero => intro s _ _ _; exact Or.inl rfl
  | succ j ih =>
    intro s h0 h1 hj
    have hp := oneD_place n s
    have hs := oneD_strokes n s
    have hq := nxt_in (n := n) (p := s.1) hn h0
    have hnx : (nxt n s.1 = 0 ∧ n ≤ s.1 + 1) ∨ (nxt n s.1 = s.1 + 1 ∧ s.1 + 1 < n) := by
      unfold nxt
      by_cases h : s.1 + 1 < n
      · rw [if_pos h]; exact Or.inr ⟨rfl, h⟩
      · rw [if_neg h]; exact Or.inl ⟨rfl, by omega⟩
    rw [walkD_S]
    split
    · rcases hnx with ⟨e, h⟩ | ⟨e, h⟩
      · rw [hs, if_pos e]; right; omega
      · rw [hs, if_neg (by omega)]; left; rfl
    · have h2 := ih (oneD n s).1 (by rw [hp]; exact hq.1) (by rw [hp]; exact hq.2) (by omega)
      rw [hp, hs] at h2
      rcases hnx with ⟨e, h⟩ | ⟨e, h⟩
      · rw [if_pos e, e] at h2
        rcases h2 with h2 | ⟨h2, h3⟩
        · right; omega
        · omega
      · rw [if_neg (by omega)] at h2
        rcases h2 with h2 | ⟨h2, h3⟩
        · left; exact h2
        · right; omega
theorem walkD_ok {n : Int} : ∀ (j : Nat) (s : DS), okD n s → s.2.2.1 + j < 1073741824 → okD n (walkD n j s).1 := by
  intro j
  induction j with
  | zero => intro s h _; exact h
  | succ j ih =>
    intro s h hk
    have h1 := oneD_ok h (by omega)
    rw [walkD_S]
    split
    · exact h1
    · refine ih _ h1 ?_
      have := oneD_strokes n s
      rw [this]
      split <;> omega
