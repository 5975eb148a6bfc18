-- ===== one DONKEY's minute =====
/-- place, hunger, strokes, thistles -/
abbrev DS := Int × Int × Int × (Nat → Int)
def oneD (n : Int) (s : DS) : DS × Bool :=
  let p := if s.1 + 1 < n then s.1 + 1 else 0
  let h := if p = 0 then min 9 (s.2.1 + 1) else s.2.1
  let k := if p = 0 then s.2.2.1 + 1 else s.2.2.1
  if 0 < s.2.2.2 p.toNat then ((p, max 0 (h - 2), k, up1 s.2.2.2 p.toNat (s.2.2.2 p.toNat - 1)), true) else ((p, h, k, s.2.2.2), false)
/-- so many steps, till a thistle is eaten -/
def walkD (n : Int) : Nat → DS → DS × Bool
  | 0, s => (s, false)
  | j + 1, s => if (oneD n s).2 = true then oneD n s else walkD n j (oneD n s).1
def okD (n : Int) (s : DS) : Prop := 4 ≤ n ∧ n ≤ 12 ∧ 0 ≤ s.1 ∧ s.1 < n ∧ 0 ≤ s.2.1 ∧ s.2.1 ≤ 9 ∧ 0 ≤ s.2.2.1 ∧ s.2.2.1 < 1073741824 ∧ ∀ p : Nat, (p : Int) < n → 0 ≤ s.2.2.2 p ∧ s.2.2.2 p ≤ 9
/-- the same but for places that are not there -/
def eqD (n : Int) (s t : DS) : Prop := s.1 = t.1 ∧ s.2.1 = t.2.1 ∧ s.2.2.1 = t.2.2.1 ∧ ∀ p : Nat, (p : Int) < n → s.2.2.2 p = t.2.2.2 p
theorem oneD_place (n : Int) (s : DS) : (oneD n s).1.1 = if s.1 + 1 < n then s.1 + 1 else 0 := by
  unfold oneD
  simp only
  split <;> split <;> rfl
theorem oneD_strokes (n : Int) (s : DS) : (oneD n s).1.2.2.1 = if s.1 + 1 < n ∧ s.1 + 1 ≠ 0 then s.2.2.1 else s.2.2.1 + 1 := by
  unfold oneD
  simp only
  by_cases h : s.1 + 1 < n
  · rw [if_pos h]
    by_cases h0 : s.1 + 1 = 0
    · rw [if_pos h0]
      split <;> simp [h0]
    · rw [if_neg h0]
      split <;> simp [h, h0]
  · rw [if_neg h]
    split <;> simp [h]
theorem oneD_ok {n : Int} {s : DS} (h : okD n s) : okD n (oneD n s).1 ∨ (oneD n s).1.2.2.1 = 1073741824 := by
  obtain ⟨h1, h2, h3, h4, h5, h6, h7, h8, h9⟩ := h
  have hp := oneD_place n s
  have hk := oneD_strokes n s
  have hth : ∀ p : Nat, (p : Int) < n → 0 ≤ (oneD n s).1.2.2.2 p ∧ (oneD n s).1.2.2.2 p ≤ 9 := by
    intro p hpn
    unfold oneD
    simp only
    have := h9 p hpn
    split
    · simp only [up1]
      split
      next e =>
        subst e
        omega
      next => exact this
    · exact this
  have hh : 0 ≤ (oneD n s).1.2.1 ∧ (oneD n s).1.2.1 ≤ 9 := by
    unfold oneD
    simp only
    generalize (if s.1 + 1 < n then s.1 + 1 else 0) = q
    have : 0 ≤ (if q = 0 then min 9 (s.2.1 + 1) else s.2.1) ∧ (if q = 0 then min 9 (s.2.1 + 1) else s.2.1) ≤ 9 := by
      split <;> omega
    split
    · simp only
      omega
    · exact this
  by_cases hq : (oneD n s).1.2.2.1 = 1073741824
  · exact Or.inr hq
  · refine Or.inl ⟨h1, h2, ?_, ?_, hh.1, hh.2, ?_, ?_, hth⟩
    · rw [hp]; split <;> omega
    · rw [hp]; split <;> omega
    · rw [hk]; split <;> omega
    · have : (oneD n s).1.2.2.1 ≤ 1073741824 := by rw [hk]; split <;> omega
      omega
theorem oneD_congr {n : Int} {s t : DS} (hs : 0 ≤ s.1) (hn : 0 < n) (h : eqD n s t) : eqD n (oneD n s).1 (oneD n t).1 ∧ (oneD n s).2 = (oneD n t).2 := by
  obtain ⟨p, hg, k, th⟩ := s
  obtain ⟨p', hg', k', th'⟩ := t
  obtain ⟨h1, h2, h3, h4⟩ := h
  simp only at h1 h2 h3 h4 hs
  subst h1; subst h2; subst h3
  unfold oneD
  simp only
  have hq : (if p + 1 < n then p + 1 else 0) < n ∧ 0 ≤ (if p + 1 < n then p + 1 else 0) := by split <;> omega
  generalize (if p + 1 < n then p + 1 else 0) = q at hq
  have e : th q.toNat = th' q.toNat := h4 q.toNat (by omega)
  rw [← e]
  split
  · refine ⟨⟨rfl, rfl, rfl, fun j hj => ?_⟩, rfl⟩
    simp only [up1]
    split
    · rfl
    · exact h4 j hj
  · exact ⟨⟨rfl, rfl, rfl, h4⟩, rfl⟩
