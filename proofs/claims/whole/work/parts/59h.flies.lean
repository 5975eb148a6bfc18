-- ===== flies =====
def dgt (M : MEM) (i : Nat) : Prop := 48 ≤ M 2 i ∧ M 2 i ≤ 57
theorem first_not (P : Nat → Prop) : ∀ m : Nat, ∃ p, p ≤ m ∧ (∀ i, i < p → P i) ∧ (p = m ∨ ¬ P p) := by
  intro m
  induction m with
  | zero => exact ⟨0, Nat.le_refl _, fun i hi => by omega, Or.inl rfl⟩
  | succ m ih =>
    obtain ⟨p, h1, h2, h3⟩ := ih
    by_cases e : p = m
    · by_cases q : P m
      · exact ⟨m + 1, Nat.le_refl _, fun i hi => by
          by_cases z : i = m
          · subst z; exact q
          · exact h2 i (by omega), Or.inl rfl⟩
      · exact ⟨p, by omega, h2, Or.inr (by rw [e]; exact q)⟩
    · rcases h3 with h3 | h3
      · exact absurd h3 e
      · exact ⟨p, by omega, h2, Or.inr h3⟩
theorem next_eq {M : MEM} {i : Nat} (h : M 1 2 = (i : Int)) (h3 : M 1 3 ≤ 80) : tx_next M = some (if (i : Int) < M 1 3 then M 2 i else -1) := by
  unfold tx_next
  rw [h, if_neg (by omega)]
  by_cases q : M 1 3 ≤ (i : Int)
  · rw [if_pos q, if_neg (by omega)]
  · rw [if_neg q, if_neg (by omega), if_pos (by omega), if_pos (by omega), toNat_c]
theorem digit_y {M : MEM} {i : Nat} (h : M 1 2 = (i : Int)) (h3 : M 1 3 ≤ 80) (q : (i : Int) < M 1 3 ∧ dgt M i) : tx_digit M = some (M 2 i - 48, up2 M 1 2 ((i : Int) + 1)) := by
  obtain ⟨q1, q2, q3⟩ := q
  unfold tx_digit
  rw [next_eq h h3, if_pos q1, Option.bind_some, if_neg (by omega), if_pos q3, h, wr_i (by omega) (by omega), wr_i (by omega) (by omega)]
  rfl
theorem digit_n {M : MEM} {i : Nat} (h : M 1 2 = (i : Int)) (h3 : M 1 3 ≤ 80) (q : ¬ ((i : Int) < M 1 3 ∧ dgt M i)) : tx_digit M = some (-1, M) := by
  unfold tx_digit
  rw [next_eq h h3, Option.bind_some]
  by_cases q1 : (i : Int) < M 1 3
  · rw [if_pos q1]
    by_cases q2 : M 2 i < 48
    · rw [if_pos q2]
    · rw [if_neg q2, if_neg (fun y => q ⟨q1, by omega, y⟩)]
  · rw [if_neg q1, if_pos (by decide)]
theorem begin_eq {M : MEM} {k : Int} : tx_begin k M = some (up2 (up2 M 1 2 0) 1 3 (min (M 1 1) k)) := by
  unfold tx_begin
  rw [Option.bind_some, rd_k (by decide)]
  rfl
theorem fliesC1 {M : MEM} {p m : Nat} (h2 : M 1 2 = 0) (h3 : M 1 3 = (m : Int)) (hm : m ≤ 40) (hp : p ≤ m) (hd : ∀ i, i < p → dgt M i) (he : p = m ∨ ¬ dgt M p) : ∃ r, iter (fun s => fl_read_b2 s.1 s.2) FU (0, M) = some r ∧ r.2 1 2 = (p : Int) ∧ (∀ c, c ≠ 1 → r.2 c = M c) ∧ ∀ k, k ≠ 2 → r.2 1 k = M 1 k := by
  refine (?_ : Tc (iter (fun s => fl_read_b2 s.1 s.2) FU (0, M)) (fun r => r.2 1 2 = (p : Int) ∧ (∀ c, c ≠ 1 → r.2 c = M c) ∧ ∀ k, k ≠ 2 → r.2 1 k = M 1 k))
  refine Tc_n (fun i s => s.1 = (i : Int) ∧ s.2 1 2 = (i : Int) ∧ (∀ c, c ≠ 1 → s.2 c = M c) ∧ ∀ k, k ≠ 2 → s.2 1 k = M 1 k) p ⟨rfl, h2, fun _ _ => rfl, fun _ _ => rfl⟩ (by omega) (fun i s hi hI => ?_) (fun s hI => ?_)
  · obtain ⟨z, M1⟩ := s
    obtain ⟨rfl, q1, q2, q3⟩ := hI
    dsimp only at q1 q2 q3 ⊢
    have e3 : M1 1 3 = (m : Int) := by rw [q3 3 (by decide)]; exact h3
    have d := hd i hi
    unfold fl_read_b2
    refine Tc_f (by omega) (Tc_e (digit_y q1 (by omega) ⟨by omega, by unfold dgt; rw [q2 2 (by decide)]; exact d⟩) (Tc_f ?_ (Tc_inl ⟨(wr_i (by omega) (by omega)).trans (by omega), ?_, fun c hc => ?_, fun k hk => ?_⟩)))
    · dsimp only; rw [q2 2 (by decide)]; have := d.1; omega
    · dsimp only; rw [rd_same]; omega
    · dsimp only; rw [up2_ne hc]; exact q2 c hc
    · dsimp only; rw [rd_k hk]; exact q3 k hk
  · obtain ⟨z, M1⟩ := s
    obtain ⟨rfl, q1, q2, q3⟩ := hI
    dsimp only at q1 q2 q3 ⊢
    have e3 : M1 1 3 = (m : Int) := by rw [q3 3 (by decide)]; exact h3
    unfold fl_read_b2
    refine Tc_i (fun _ => Tc_inr ⟨q1, q2, q3⟩) (fun _ => Tc_e (digit_n q1 (by omega) ?_) (Tc_t (by show (-1 : Int) < 0; decide) (Tc_inr ⟨q1, q2, q3⟩)))
    rintro ⟨a, b⟩
    rcases he with e | e
    · omega
    · exact e (by unfold dgt at b ⊢; rw [← q2 2 (by decide)]; exact b)
theorem fliesC2 {M : MEM} {m : Nat} (h2 : M 1 2 = 0) (h3 : M 1 3 = (m : Int)) (h19 : M 19 1 = (m : Int)) (hm : m ≤ 40) (hd : ∀ i, i < m → dgt M i) : ∃ r, iter (fun s => fl_read_b49 s.1 s.2) FU (0, M) = some r ∧ (∀ c, c ≠ 1 → c ≠ 20 → r.2 c = M c) ∧ (∀ k, k ≠ 2 → r.2 1 k = M 1 k) ∧ ∀ i, i < m → r.2 20 i = M 2 i - 48 := by
  refine (?_ : Tc (iter (fun s => fl_read_b49 s.1 s.2) FU (0, M)) (fun r => (∀ c, c ≠ 1 → c ≠ 20 → r.2 c = M c) ∧ (∀ k, k ≠ 2 → r.2 1 k = M 1 k) ∧ ∀ i, i < m → r.2 20 i = M 2 i - 48))
  refine Tc_n (fun i s => s.1 = (i : Int) ∧ s.2 1 2 = (i : Int) ∧ (∀ c, c ≠ 1 → c ≠ 20 → s.2 c = M c) ∧ (∀ k, k ≠ 2 → s.2 1 k = M 1 k) ∧ ∀ j, j < i → s.2 20 j = M 2 j - 48) m ⟨rfl, h2, fun _ _ _ => rfl, fun _ _ => rfl, fun j hj => by omega⟩ (by omega) (fun i s hi hI => ?_) (fun s hI => ?_)
  · obtain ⟨z, M1⟩ := s
    obtain ⟨rfl, q1, q2, q3, q4⟩ := hI
    dsimp only at q1 q2 q3 q4 ⊢
    have e3 : M1 1 3 = (m : Int) := by rw [q3 3 (by decide)]; exact h3
    have e19 : M1 19 1 = (m : Int) := by rw [q2 19 (by decide) (by decide)]; exact h19
    have d := hd i hi
    have e2 : M1 2 = M 2 := q2 2 (by decide) (by decide)
    unfold fl_read_b49
    refine Tc_f (by omega) (Tc_f (by omega) (Tc_e (digit_y q1 (by omega) ⟨by omega, by unfold dgt; rw [e2]; exact d⟩) (Tc_t (by omega) (Tc_u (Tc_inl ⟨(wr_i (by omega) (by omega)).trans (by omega), ?_, fun c c1 c2 => ?_, fun k hk => ?_, fun j hj => ?_⟩)))))
    · dsimp only; rw [rd_a (by decide), rd_same]; omega
    · dsimp only; rw [up2_ne c2, up2_ne c1]; exact q2 c c1 c2
    · dsimp only; rw [rd_a (by decide), rd_k hk]; exact q3 k hk
    · dsimp only
      rw [toNat_c, e2]
      by_cases e : j = i
      · subst e; exact rd_same
      · rw [rd_k e, rd_a (by decide)]; exact q4 j (by omega)
  · obtain ⟨z, M1⟩ := s
    obtain ⟨rfl, q1, q2, q3, q4⟩ := hI
    dsimp only at q1 q2 q3 q4 ⊢
    unfold fl_read_b49
    exact Tc_t (by rw [q2 19 (by decide) (by decide), h19]; exact Int.le_refl _) (Tc_inr ⟨q2, q3, q4⟩)
theorem fliesM1 {M : MEM} {L p : Nat} (hL : L ≤ 80) (hp : p ≤ L) (hp40 : p ≤ 40) (hd : ∀ i, i < p → 48 ≤ M 283 i ∧ M 283 i ≤ 57) (he : p = L ∨ (p < L ∧ (p = 40 ∨ ¬ (48 ≤ M 283 p ∧ M 283 p ≤ 57)))) :
    iter (fun s => mo_flies_b17 (L : Int) s M) FU 0 = some (if p = L then .inr (L : Int) else .inl (-1 - (p : Int), M)) := by
  have hl : Tc (iter (fun s => mo_flies_b17 (L : Int) s M) FU 0) (fun r => r = if p = L then .inr (L : Int) else .inl (-1 - (p : Int), M)) := by
    refine Tc_n (fun i s => s = (i : Int)) p rfl (by omega) (fun i s hi hI => ?_) (fun s hI => ?_)
    · subst hI
      unfold mo_flies_b17
      rw [toNat_c]
      exact Tc_f (by omega) (Tc_f (by omega) (Tc_t (by omega) (Tc_f (by rw [moIn_y (hd i hi)]; decide) (Tc_inl ((wr_i (by omega) (by omega)).trans (by omega))))))
    · subst hI
      unfold mo_flies_b17
      rw [toNat_c]
      by_cases e : p = L
      · rw [if_pos e]
        exact Tc_t (by omega) (Tc_inr (by rw [e]))
      · rw [if_neg e]
        have w : wr (-1 - (p : Int)) = -1 - (p : Int) := wr_i (by omega) (by omega)
        rw [w]
        by_cases e40 : p = 40
        · exact Tc_f (by omega) (Tc_t (by omega) (Tc_inr rfl))
        · refine Tc_f (by omega) (Tc_f (by omega) (Tc_t (by omega) (Tc_t (moIn_n ?_) (Tc_inr rfl))))
          rcases he with y | ⟨-, y | y⟩
          · exact absurd y e
          · exact absurd y e40
          · exact y
  obtain ⟨r, e, h⟩ := hl
  rw [e, h]
theorem fliesM2 {M : MEM} {L : Nat} (hL : L ≤ 40) (hd : ∀ i, i < L → 48 ≤ M 283 i ∧ M 283 i ≤ 57) : ∃ r, iter (fun s => mo_flies_b56 (L : Int) s.1 s.2) FU (0, M) = some r ∧ (∀ c, c ≠ 281 → r.2 c = M c) ∧ ∀ i, i < L → r.2 281 i = M 283 i - 48 := by
  refine (?_ : Tc (iter (fun s => mo_flies_b56 (L : Int) s.1 s.2) FU (0, M)) (fun r => (∀ c, c ≠ 281 → r.2 c = M c) ∧ ∀ i, i < L → r.2 281 i = M 283 i - 48))
  refine Tc_n (fun i s => s.1 = (i : Int) ∧ (∀ c, c ≠ 281 → s.2 c = M c) ∧ ∀ j, j < i → s.2 281 j = M 283 j - 48) L ⟨rfl, fun _ _ => rfl, fun j hj => by omega⟩ (by omega) (fun i s hi hI => ?_) (fun s hI => ?_)
  · obtain ⟨z, M1⟩ := s
    obtain ⟨rfl, q1, q2⟩ := hI
    dsimp only at q1 q2 ⊢
    have d := hd i hi
    unfold mo_flies_b56
    rw [toNat_c, q1 283 (by decide), wr_i (x := M 283 i - 48) (by omega) (by omega)]
    refine Tc_f (by omega) (Tc_t (by omega) (Tc_t (by omega) (Tc_u (Tc_inl ⟨(wr_i (by omega) (by omega)).trans (by omega), fun c hc => ?_, fun j hj => ?_⟩))))
    · dsimp only; rw [up2_ne hc]; exact q1 c hc
    · dsimp only
      by_cases e : j = i
      · subst e; exact rd_same
      · rw [rd_k e]; exact q2 j (by omega)
  · obtain ⟨z, M1⟩ := s
    obtain ⟨rfl, q1, q2⟩ := hI
    unfold mo_flies_b56
    exact Tc_t (Int.le_refl _) (Tc_inr ⟨q1, q2⟩)
