-- ===== flies =====
def dgt (M : MEM) (i : Nat) : Prop := 48 ≤ M 2 i ∧ M 2 i ≤ 57
theorem first_not (P : Nat → Prop) : ∀ m : Nat, ∃ p, p ≤ m ∧ (∀ i, i < p → P i) ∧ (p = m ∨ ¬ P p) := by
  intro m
  induction m with
  | zero => exact ⟨0, Nat.le_refl _, fun i hi => by omega, Or.inl rfl⟩
  | succ m ih =>
    obtain ⟨p, h1, h2, h3⟩ := ih
    by_cases e : p = m
    · by_cases q : P m
      · exact ⟨m + 1, Nat.le_refl _, fun i hi => by
          by_cases z : i = m
          · subst z; exact q
          · exact h2 i (by omega), Or.inl rfl⟩
      · exact ⟨p, by omega, h2, Or.inr (by rw [e]; exact q)⟩
    · rcases h3 with h3 | h3
      · exact absurd h3 e
      · exact ⟨p, by omega, h2, Or.inr h3⟩
theorem digit_y {M : MEM} {i : Nat} (h : M 1 2 = (i : Int)) (h3 : M 1 3 ≤ 80) (q : (i : Int) < M 1 3 ∧ dgt M i) : tx_digit M = some (M 2 i - 48, up2 M 1 2 ((i : Int) + 1)) := by
  obtain ⟨q1, q2, q3⟩ := q
  unfold tx_digit
  rw [next_eq h h3, if_pos q1, Option.bind_some, if_neg (by omega), if_pos q3, h, wr_i (by omega) (by omega), wr_i (by omega) (by omega)]
  rfl
theorem digit_n {M : MEM} {i : Nat} (h : M 1 2 = (i : Int)) (h3 : M 1 3 ≤ 80) (q : ¬ ((i : Int) < M 1 3 ∧ dgt M i)) : tx_digit M = some (-1, M) := by
  unfold tx_digit
  rw [next_eq h h3, Option.bind_some]
  by_cases q1 : (i : Int) < M 1 3
  · rw [if_pos q1]
    by_cases q2 : M 2 i < 48
    · rw [if_pos q2]
    · rw [if_neg q2, if_neg (fun y => q ⟨q1, by omega, y⟩)]
  · rw [if_neg q1, if_pos (by decide)]
theorem begin_eq {M : MEM} {k : Int} : tx_begin k M = some (up2 (up2 M 1 2 0) 1 3 (min (M 1 1) k)) := by
  unfold tx_begin
  rw [Option.bind_some, rd_k (by decide)]
  rfl
theorem fliesC1 {M : MEM} {p m : Nat} (h2 : M 1 2 = 0) (h3 : M 1 3 = (m : Int)) (hm : m ≤ 40) (hp : p ≤ m) (hd : ∀ i, i < p → dgt M i) (he : p = m ∨ ¬ dgt M p) : ∃ r, iter (fun s => fl_read_b2 s.1 s.2) FU (0, M) = some r ∧ r.2 1 2 = (p : Int) ∧ (∀ c, c ≠ 1 → r.2 c = M c) ∧ ∀ k, k ≠ 2 → r.2 1 k = M 1 k := by
  refine (?_ : Tc (iter (fun s => fl_read_b2 s.1 s.2) FU (0, M)) (fun r => r.2 1 2 = (p : Int) ∧ (∀ c, c ≠ 1 → r.2 c = M c) ∧ ∀ k, k ≠ 2 → r.2 1 k = M 1 k))
  refine Tc_n (fun i s => s.1 = (i : Int) ∧ s.2 1 2 = (i : Int) ∧ (∀ c, c ≠ 1 → s.2 c = M c) ∧ ∀ k, k ≠ 2 → s.2 1 k = M 1 k) p ⟨rfl, h2, fun _ _ => rfl, fun _ _ => rfl⟩ (by omega) (fun i s hi hI => ?_) (fun s hI => ?_)
  · obtain ⟨z, M1⟩ := s
    obtain ⟨rfl, q1, q2, q3⟩ := hI
    dsimp only at q1 q2 q3 ⊢
    have e3 : M1 1 3 = (m : Int) := by rw [q3 3 (by decide)]; exact h3
    have d := hd i hi
    unfold fl_read_b2
    refine Tc_f (by omega) (Tc_e (digit_y q1 (by omega) ⟨by omega, by unfold dgt; rw [q2 2 (by decide)]; exact d⟩) (Tc_f ?_ (Tc_inl ⟨(wr_i (by omega) (by omega)).trans (by omega), ?_, fun c hc => ?_, fun k hk => ?_⟩)))
    · dsimp only; rw [q2 2 (by decide)]; have := d.1; omega
    · dsimp only; rw [rd_same]; omega
    · dsimp only; rw [up2_ne hc]; exact q2 c hc
    · dsimp only; rw [rd_k hk]; exact q3 k hk
  · obtain ⟨z, M1⟩ := s
    obtain ⟨rfl, q1, q2, q3⟩ := hI
    dsimp only at q1 q2 q3 ⊢
    have e3 : M1 1 3 = (m : Int) := by rw [q3 3 (by decide)]; exact h3
    unfold fl_read_b2
    refine Tc_i (fun _ => Tc_inr ⟨q1, q2, q3⟩) (fun _ => Tc_e (digit_n q1 (by omega) ?_) (Tc_t (by show (-1 : Int) < 0; decide) (Tc_inr ⟨q1, q2, q3⟩)))
    rintro ⟨a, b⟩
    rcases he with e | e
    · omega
    · exact e (by unfold dgt at b ⊢; rw [← q2 2 (by decide)]; exact b)
theorem fliesC2 {M : MEM} {m : Nat} (h2 : M 1 2 = 0) (h3 : M 1 3 = (m : Int)) (h19 : M 19 1 = (m : Int)) (hm : m ≤ 40) (hd : ∀ i, i < m → dgt M i) : ∃ r, iter (fun s => fl_read_b49 s.1 s.2) FU (0, M) = some r ∧ (∀ c, c ≠ 1 → c ≠ 20 → r.2 c = M c) ∧ (∀ k, k ≠ 2 → r.2 1 k = M 1 k) ∧ ∀ i, i < m → r.2 20 i = M 2 i - 48 := by
  refine (?_ : Tc (iter (fun s => fl_read_b49 s.1 s.2) FU (0, M)) (fun r => (∀ c, c ≠ 1 → c ≠ 20 → r.2 c = M c) ∧ (∀ k, k ≠ 2 → r.2 1 k = M 1 k) ∧ ∀ i, i < m → r.2 20 i = M 2 i - 48))
  refine Tc_n (fun i s => s.1 = (i : Int) ∧ s.2 1 2 = (i : Int) ∧ (∀ c, c ≠ 1 → c ≠ 20 → s.2 c = M c) ∧ (∀ k, k ≠ 2 → s.2 1 k = M 1 k) ∧ ∀ j, j < i → s.2 20 j = M 2 j - 48) m ⟨rfl, h2, fun _ _ _ => rfl, fun _ _ => rfl, fun j hj => by omega⟩ (by omega) (fun i s hi hI => ?_) (fun s hI => ?_)
  · obtain ⟨z, M1⟩ := s
    obtain ⟨rfl, q1, q2, q3, q4⟩ := hI
    dsimp only at q1 q2 q3 q4 ⊢
    have e3 : M1 1 3 = (m : Int) := by rw [q3 3 (by decide)]; exact h3
    have e19 : M1 19 1 = (m : Int) := by rw [q2 19 (by decide) (by decide)]; exact h19
    have d := hd i hi
    have e2 : M1 2 = M 2 := q2 2 (by decide) (by decide)
    unfold fl_read_b49
    refine Tc_f (by omega) (Tc_f (by omega) (Tc_e (digit_y q1 (by omega) ⟨by omega, by unfold dgt; rw [e2]; exact d⟩) (Tc_t (by omega) (Tc_u (Tc_inl ⟨(wr_i (by omega) (by omega)).trans (by omega), ?_, fun c c1 c2 => ?_, fun k hk => ?_, fun j hj => ?_⟩)))))
    · dsimp only; rw [rd_a (by decide), rd_same]; omega
    · dsimp only; rw [up2_ne c2, up2_ne c1]; exact q2 c c1 c2
    · dsimp only; rw [rd_a (by decide), rd_k hk]; exact q3 k hk
    · dsimp only
      rw [toNat_c, e2]
      by_cases e : j = i
      · subst e; exact rd_same
      · rw [rd_k e, rd_a (by decide)]; exact q4 j (by omega)
  · obtain ⟨z, M1⟩ := s
    obtain ⟨rfl, q1, q2, q3, q4⟩ := hI
    dsimp only at q1 q2 q3 q4 ⊢
    unfold fl_read_b49
    exact Tc_t (by rw [q2 19 (by decide) (by decide), h19]; exact Int.le_refl _) (Tc_inr ⟨q2, q3, q4⟩)
theorem fliesM1 {M : MEM} {L p : Nat} (hL : L ≤ 80) (hp : p ≤ L) (hp40 : p ≤ 40) (hd : ∀ i, i < p → 48 ≤ M 283 i ∧ M 283 i ≤ 57) (he : p = L ∨ (p < L ∧ (p = 40 ∨ ¬ (48 ≤ M 283 p ∧ M 283 p ≤ 57)))) :
    iter (fun s => mo_flies_b17 (L : Int) s M) FU 0 = some (if p = L then .inr (L : Int) else .inl (-1 - (p : Int), M)) := by
  have hl : Tc (iter (fun s => mo_flies_b17 (L : Int) s M) FU 0) (fun r => r = if p = L then .inr (L : Int) else .inl (-1 - (p : Int), M)) := by
    refine Tc_n (fun i s => s = (i : Int)) p rfl (by omega) (fun i s hi hI => ?_) (fun s hI => ?_)
    · subst hI
      unfold mo_flies_b17
      rw [toNat_c]
      exact Tc_f (by omega) (Tc_f (by omega) (Tc_t (by omega) (Tc_f (by rw [moIn_y (hd i hi)]; decide) (Tc_inl ((wr_i (by omega) (by omega)).trans (by omega))))))
    · subst hI
      unfold mo_flies_b17
      rw [toNat_c]
      by_cases e : p = L
      · rw [if_pos e]
        exact Tc_t (by omega) (Tc_inr (by rw [e]))
      · rw [if_neg e]
        have w : wr (-1 - (p : Int)) = -1 - (p : Int) := wr_i (by omega) (by omega)
        rw [w]
        by_cases e40 : p = 40
        · exact Tc_f (by omega) (Tc_t (by omega) (Tc_inr rfl))
        · refine Tc_f (by omega) (Tc_f (by omega) (Tc_t (by omega) (Tc_t (moIn_n ?_) (Tc_inr rfl))))
          rcases he with y | ⟨-, y | y⟩
          · exact absurd y e
          · exact absurd y e40
          · exact y
  obtain ⟨r, e, h⟩ := hl
  rw [e, h]
theorem fliesM2 {M : MEM} {L : Nat} (hL : L ≤ 40) (hd : ∀ i, i < L → 48 ≤ M 283 i ∧ M 283 i ≤ 57) : ∃ r, iter (fun s => mo_flies_b56 (L : Int) s.1 s.2) FU (0, M) = some r ∧ (∀ c, c ≠ 281 → r.2 c = M c) ∧ ∀ i, i < L → r.2 281 i = M 283 i - 48 := by
  refine (?_ : Tc (iter (fun s => mo_flies_b56 (L : Int) s.1 s.2) FU (0, M)) (fun r => (∀ c, c ≠ 281 → r.2 c = M c) ∧ ∀ i, i < L → r.2 281 i = M 283 i - 48))
  refine Tc_n (fun i s => s.1 = (i : Int) ∧ (∀ c, c ≠ 281 → s.2 c = M c) ∧ ∀ j, j < i → s.2 281 j = M 283 j - 48) L ⟨rfl, fun _ _ => rfl, fun j hj => by omega⟩ (by omega) (fun i s hi hI => ?_) (fun s hI => ?_)
  · obtain ⟨z, M1⟩ := s
    obtain ⟨rfl, q1, q2⟩ := hI
    dsimp only at q1 q2 ⊢
    have d := hd i hi
    unfold mo_flies_b56
    rw [toNat_c, q1 283 (by decide), wr_i (x := M 283 i - 48) (by omega) (by omega)]
    refine Tc_f (by omega) (Tc_t (by omega) (Tc_t (by omega) (Tc_u (Tc_inl ⟨(wr_i (by omega) (by omega)).trans (by omega), fun c hc => ?_, fun j hj => ?_⟩))))
    · dsimp only; rw [up2_ne hc]; exact q1 c hc
    · dsimp only
      by_cases e : j = i
      · subst e; exact rd_same
      · rw [rd_k e]; exact q2 j (by omega)
  · obtain ⟨z, M1⟩ := s
    obtain ⟨rfl, q1, q2⟩ := hI
    unfold mo_flies_b56
    exact Tc_t (Int.le_refl _) (Tc_inr ⟨q1, q2⟩)
theorem c_flies {B : Int} {M : MEM} (h : Rel B M) : Lk B (dh_flies M) mo_flies := by
  obtain ⟨t1, t2, t3, t4⟩ := h.T
  obtain ⟨L, hL⟩ : ∃ L : Nat, M 1 1 = (L : Int) := ⟨(M 1 1).toNat, by omega⟩
  obtain ⟨m, hm⟩ : ∃ m : Nat, m = min L 40 := ⟨_, rfl⟩
  obtain ⟨p, hp1, hp2, hp3⟩ := first_not (dgt M) m
  have key : ∀ i, i < L → (dgt M i ↔ (48 ≤ M 283 i ∧ M 283 i ≤ 57)) ∧ (dgt M i → M 283 i = M 2 i) := fun i hi => by
    obtain ⟨a, b, c⟩ := t4 i (by omega)
    unfold dgt
    rw [c]
    unfold sx8
    refine ⟨⟨fun q => ?_, fun q => ?_⟩, fun q => ?_⟩ <;> omega
  generalize hM2 : up2 (up2 M 1 2 0) 1 3 (min (M 1 1) 40) = M2
  have b2 : tx_begin 40 M = some M2 := by rw [← hM2]; exact begin_eq
  have g1 : ∀ c, c ≠ 1 → M2 c = M c := fun c hc => by rw [← hM2, up2_ne hc, up2_ne hc]
  have g2 : M2 1 2 = 0 := by rw [← hM2, rd_k (by decide), rd_same]
  have g3 : M2 1 3 = (m : Int) := by rw [← hM2, rd_same, hL]; omega
  have g4 : M2 1 1 = (L : Int) := by rw [← hM2, rd_k (by decide), rd_k (by decide)]; exact hL
  have dg : ∀ i, dgt M2 i ↔ dgt M i := fun i => by unfold dgt; rw [g1 2 (by decide)]
  obtain ⟨⟨z, Mr⟩, er, r1, r2, r3⟩ := fliesC1 (M := M2) g2 g3 (by omega) hp1 (fun i hi => (dg i).2 (hp2 i hi)) (hp3.imp id (fun q y => q ((dg p).1 y)))
  dsimp only at r1 r2 r3
  have rL : Mr 1 1 = (L : Int) := by rw [r3 1 (by decide)]; exact g4
  have he : p = L ∨ (p < L ∧ (p = 40 ∨ ¬ (48 ≤ M 283 p ∧ M 283 p ≤ 57))) := by
    by_cases e : p = L
    · exact Or.inl e
    · have : p < L := by omega
      refine Or.inr ⟨this, ?_⟩
      rcases hp3 with q | q
      · left; omega
      · exact Or.inr (fun y => q ((key p this).1.2 y))
  -- the reference, behind any memory the class left
  have mo1 : ∀ Me : MEM, (∀ c, c ≠ 1 → c ≠ 19 → c ≠ 20 → Me c = M c) → iter (fun s => mo_flies_b17 (L : Int) s (up2 (up2 Me 278 13 0) 278 10 0)) FU 0 = some (if p = L then .inr (L : Int) else .inl (-1 - (p : Int), up2 (up2 Me 278 13 0) 278 10 0)) := fun Me he2 => by
    have e283 : up2 (up2 Me 278 13 0) 278 10 0 283 = M 283 := by rw [up2_ne (by decide), up2_ne (by decide), he2 283 (by decide) (by decide) (by decide)]
    exact fliesM1 (by omega) (by omega) (by omega) (fun i hi => by rw [e283]; exact (key i (by omega)).1.1 (hp2 i hi)) (by rw [e283]; exact he)
  unfold Lk dh_flies fl_read fl_read_j21
  refine Tc_e b2 ?_
  rw [er, Option.bind_some]
  dsimp only
  by_cases e : p = L
  · have ov : tx_isOver Mr = 1 := by unfold tx_isOver; rw [if_pos (by rw [r1, rL, e])]
    rw [ov, show (if (1 : Int) = 0 then _ else _) = _ from if_neg (by decide), begin_eq, Option.bind_some, Option.bind_some]
    generalize hMc : up2 (up2 (up2 Mr 1 2 0) 1 3 (min (Mr 1 1) 40)) 19 1 (up2 (up2 Mr 1 2 0) 1 3 (min (Mr 1 1) 40) 1 1) = Mc
    have c1 : ∀ c, c ≠ 1 → c ≠ 19 → Mc c = M c := fun c a b => by rw [← hMc, up2_ne b, up2_ne a, up2_ne a, r2 c a, g1 c a]
    have c2 : Mc 1 2 = 0 := by rw [← hMc, rd_a (by decide), rd_k (by decide), rd_same]
    have c3 : Mc 1 3 = (L : Int) := by rw [← hMc, rd_a (by decide), rd_same, rL]; omega
    have c4 : Mc 19 1 = (L : Int) := by rw [← hMc, rd_same, rd_k (by decide), rd_k (by decide)]; exact rL
    obtain ⟨⟨z2, Md⟩, ed, d1, d2, d3⟩ := fliesC2 (M := Mc) c2 c3 c4 (by omega) (fun i hi => by unfold dgt; rw [c1 2 (by decide) (by decide)]; exact hp2 i (by omega))
    dsimp only at d1 d2 d3
    rw [ed, Option.bind_some]
    refine Tc_u (Tc_u (Tc_some ?_))
    dsimp only
    have d19 : Md 19 1 = (L : Int) := by rw [d1 19 (by decide) (by decide)]; exact c4
    have e1 : ∀ c, c ≠ 1 → c ≠ 19 → c ≠ 20 → up2 Md 1 1 0 c = M c := fun c a b d => by rw [up2_ne a, d1 c a d, c1 c a b]
    have e1' : up2 Md 1 1 0 1 1 = 0 := rd_same
    have e19 : up2 Md 1 1 0 19 1 = (L : Int) := by rw [rd_a (by decide)]; exact d19
    have e19' : ∀ k, k ≠ 1 → up2 Md 1 1 0 19 k = M 19 k := fun k hk => by rw [rd_a (by decide), d1 19 (by decide) (by decide), ← hMc, rd_k hk, rd_a (by decide), rd_a (by decide), r2 19 (by decide), g1 19 (by decide)]
    have e20 : ∀ i, i < L → up2 Md 1 1 0 20 i = M 2 i - 48 := fun i hi => by rw [rd_a (by decide), d3 i hi, c1 2 (by decide) (by decide)]
    rw [d19]
    generalize up2 Md 1 1 0 = Me at *
    have k10 : up2 Me 278 13 0 278 10 = (L : Int) := by rw [rd_k (by decide), e1 278 (by decide) (by decide) (by decide), t1]; exact hL
    unfold mo_flies
    refine Tc_u (Tc_u ?_)
    rw [k10, mo1 Me e1, if_pos e, Option.bind_some]
    have e283 : up2 (up2 Me 278 13 0) 278 10 0 283 = M 283 := by rw [up2_ne (by decide), up2_ne (by decide), e1 283 (by decide) (by decide) (by decide)]
    obtain ⟨⟨z3, Mn⟩, en, n1, n2⟩ := fliesM2 (M := up2 (up2 Me 278 13 0) 278 10 0) (L := L) (by omega) (fun i hi => by rw [e283]; exact (key i hi).1.1 (hp2 i (by omega)))
    dsimp only at n1 n2
    refine Tc_e en (Tc_u (Tc_some ⟨rfl, ?_⟩))
    dsimp only
    have f1 : ∀ c, c ≠ 278 → c ≠ 281 → up2 Mn 278 4 (L : Int) c = Me c := fun c a b => by rw [up2_ne a, n1 c b, up2_ne a, up2_ne a]
    have f4 : up2 Mn 278 4 (L : Int) 278 4 = (L : Int) := rd_same
    have f10 : up2 Mn 278 4 (L : Int) 278 10 = 0 := by rw [rd_k (by decide), n1 278 (by decide), rd_same]
    have fk : ∀ k, k ≠ 4 → k ≠ 10 → k ≠ 13 → up2 Mn 278 4 (L : Int) 278 k = M 278 k := fun k a b d => by rw [rd_k a, n1 278 (by decide), rd_k b, rd_k d, e1 278 (by decide) (by decide) (by decide)]
    have f281 : ∀ i, i < L → up2 Mn 278 4 (L : Int) 281 i = M 2 i - 48 := fun i hi => by rw [rd_a (by decide), n2 i hi, e283, (key i hi).2 (hp2 i (by omega))]
    generalize up2 Mn 278 4 (L : Int) = Mf at *
    have cc : chg [0, 1, 2] M Mf := fun a k nn => by
      by_cases a1 : a = 1
      · subst a1
        refine absurd ?_ nn
        by_cases z : k = 1
        · subst z; decide
        · rw [show rg 1 k = (if k = 1 then 1 else 0) from rfl, if_neg z]; decide
      · by_cases a19 : a = 19
        · subst a19; exact absurd (by rw [show rg 19 k = 2 from rfl]; decide) nn
        · by_cases a20 : a = 20
          · subst a20; exact absurd (by rw [show rg 20 k = 2 from rfl]; decide) nn
          · by_cases a281 : a = 281
            · subst a281; exact absurd (by rw [show rg 281 k = 2 from rfl]; decide) nn
            · by_cases a278 : a = 278
              · subst a278
                refine fk k (fun y => nn ?_) (fun y => nn ?_) (fun y => nn ?_) <;> subst y <;> decide
              · rw [f1 a a278 a281, e1 a a1 a19 a20]
    refine h.go (Int.le_refl _) cc (by decide) (fun _ => ?_) (fun _ => ?_) (fun q => absurd q (by decide)) (fun q => absurd q (by decide)) (fun q => absurd q (by decide)) (fun q => absurd q (by decide)) (fun q => absurd q (by decide)) (fun q => absurd q (by decide)) (fun q => absurd q (by decide)) (fun q => absurd q (by decide)) (fun q => absurd q (by decide))
    · unfold C_T
      rw [f10, f1 1 (by decide) (by decide), e1']
      exact ⟨rfl, by decide, by decide, fun i hi => by omega⟩
    · unfold C_F
      rw [f4, f1 19 (by decide) (by decide), e19, f1 20 (by decide) (by decide)]
      exact ⟨rfl, by omega, by omega, fun i hi => by rw [f281 i (by omega), e20 i (by omega)]⟩
  · have ov : tx_isOver Mr = 0 := by unfold tx_isOver; rw [if_neg (by rw [r1, rL]; omega)]
    have wr1 : tx_wrong Mr = -1 - (p : Int) := by unfold tx_wrong; rw [r1]; exact wr_i (by omega) (by omega)
    rw [ov, show (if (0 : Int) = 0 then _ else _) = _ from if_pos rfl, wr1]
    refine Tc_u (Tc_u (Tc_some ?_))
    dsimp only
    have e1 : ∀ c, c ≠ 1 → up2 Mr 1 1 0 c = M c := fun c a => by rw [up2_ne a, r2 c a, g1 c a]
    have e1' : up2 Mr 1 1 0 1 1 = 0 := rd_same
    generalize up2 Mr 1 1 0 = Me at *
    have k10 : up2 Me 278 13 0 278 10 = (L : Int) := by rw [rd_k (by decide), e1 278 (by decide), t1]; exact hL
    unfold mo_flies
    refine Tc_u (Tc_u ?_)
    rw [k10, mo1 Me (fun c a _ _ => e1 c a), if_neg e, Option.bind_some]
    refine Tc_some ⟨rfl, ?_⟩
    dsimp only
    have cc : chg [0, 1] M (up2 (up2 Me 278 13 0) 278 10 0) := chg.up (by decide) (chg.up (by decide) (fun a k nn => by
      by_cases a1 : a = 1
      · subst a1
        refine absurd ?_ nn
        by_cases z : k = 1
        · subst z; decide
        · rw [show rg 1 k = (if k = 1 then 1 else 0) from rfl, if_neg z]; decide
      · rw [e1 a a1]))
    refine h.go (Int.le_refl _) cc (by decide) (fun _ => ?_) (fun q => absurd q (by decide)) (fun q => absurd q (by decide)) (fun q => absurd q (by decide)) (fun q => absurd q (by decide)) (fun q => absurd q (by decide)) (fun q => absurd q (by decide)) (fun q => absurd q (by decide)) (fun q => absurd q (by decide)) (fun q => absurd q (by decide)) (fun q => absurd q (by decide))
    unfold C_T
    rw [rd_same, rd_a (by decide), rd_a (by decide), e1']
    exact ⟨rfl, by decide, by decide, fun i hi => by omega⟩
