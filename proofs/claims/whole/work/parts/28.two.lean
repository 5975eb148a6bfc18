-- ===== two clocks =====
def LkT (B : Int) (o : Option (MEM ⊕ (Int × MEM))) (f : MEM → Option (Int × MEM)) : Prop :=
  Tc o (Sum.elim (fun M1 => Tc (f M1) (fun q => q.2 278 13 = 1 ∧ Rel B q.2)) (fun p => Tc (f p.2) (fun q => q.2 278 13 = 0 ∧ q.1 = p.1 ∧ Rel B q.2)))
def two (M : MEM) (x y : Int) : Prop := (0 ≤ x ∧ x < M 3 2) ∧ (0 ≤ y ∧ y < M 3 2) ∧ x ≠ y
theorem areTwo_y {M : MEM} (h : C_S M) {x y : Int} (q : two M x y) : dh_areTwo x y M = 1 := by
  unfold dh_areTwo
  rw [isDonkey_y h.2.2.1 q.1.1 q.1.2, isDonkey_y h.2.2.1 q.2.1.1 q.2.1.2, if_neg (by decide), if_neg (by decide), if_neg q.2.2]
theorem areTwo_n {M : MEM} (h : C_S M) {x y : Int} (q : ¬ two M x y) : dh_areTwo x y M = 0 := by
  unfold dh_areTwo
  by_cases q1 : 0 ≤ x ∧ x < M 3 2
  · rw [isDonkey_y h.2.2.1 q1.1 q1.2, if_neg (by decide)]
    by_cases q2 : 0 ≤ y ∧ y < M 3 2
    · rw [isDonkey_y h.2.2.1 q2.1 q2.2, if_neg (by decide), if_pos]
      by_cases q3 : x = y
      · exact q3
      · exact absurd ⟨q1, q2, q3⟩ q
    · rw [isDonkey_n h.2.2.1 q2, if_pos rfl]
  · rw [isDonkey_n h.2.2.1 q1, if_pos rfl]
theorem moTwo_y {M M1 : MEM} (h : C_S M) (h1 : M1 278 1 = M 278 1) {x y : Int} (q : two M x y) : mo_areTwo x y M1 = 1 := by
  unfold mo_areTwo
  rw [moDonkey_y h h1 q.1, moDonkey_y h h1 q.2.1, if_neg (by decide), if_neg (by decide), if_neg q.2.2]
theorem moTwo_n {M M1 : MEM} (h : C_S M) (h1 : M1 278 1 = M 278 1) {x y : Int} (q : ¬ two M x y) : mo_areTwo x y M1 = 0 := by
  unfold mo_areTwo
  by_cases q1 : 0 ≤ x ∧ x < M 3 2
  · rw [moDonkey_y h h1 q1, if_neg (by decide)]
    by_cases q2 : 0 ≤ y ∧ y < M 3 2
    · rw [moDonkey_y h h1 q2, if_neg (by decide), if_pos]
      by_cases q3 : x = y
      · exact q3
      · exact absurd ⟨q1, q2, q3⟩ q
    · rw [moDonkey_n h h1 q2, if_pos rfl]
  · rw [moDonkey_n h h1 q1, if_pos rfl]
/-- what a future rests on -/
theorem futAt.cells {f : Nat} {e : EN} {n d m0 : Int} {T : Nat → DS} {j : Nat} {M M' : MEM} (hc : ∀ c, (c = f ∨ c = f + 6 ∨ c = f + 7 ∨ c = f + 9 ∨ (f + 1 ≤ c ∧ c ≤ f + 5) ∨ (5 ≤ c ∧ c ≤ 20) ∨ c = 22) → M' c = M c) (e21 : M' 21 3 = M 21 3) (h : futAt f e n d m0 T j M) : futAt f e n d m0 T j M' := by
  obtain ⟨h1, h2, h3, h4, h5, h6, h7, h8, h9⟩ := h
  refine ⟨?_, ?_, ?_, ?_, ?_, ?_, ?_, ?_, fun i hi => ?_⟩
  · rw [← h1]
    unfold envC flC
    rw [plC_cg (c := 5) (fun q hq => hc _ (by omega)), plC_cg (c := f + 1) (fun q hq => hc _ (by omega)), hc f (by omega), e21, hc 19 (by omega), hc 20 (by omega), hc 22 (by omega)]
  · obtain ⟨g1, ⟨g2, g3, g4⟩, ⟨g5, g6, g7⟩, g8⟩ := h2
    refine ⟨?_, ⟨?_, ?_, howOk_cg (fun q hq => hc _ (by omega)) g4⟩, ⟨?_, ?_, howOk_cg (fun q hq => hc _ (by omega)) g7⟩, ?_⟩
    · rw [hc 19 (by omega)]; exact g1
    · rw [hc 5 (by omega)]; exact g2
    · rw [hc 5 (by omega)]; exact g3
    · rw [hc (f + 1) (by omega)]; exact g5
    · rw [hc (f + 1) (by omega)]; exact g6
    · rw [e21, hc 22 (by omega)]; exact g8
  · rw [hc (f + 6) (by omega)]; exact h3
  · have : dsC (f + 6) M' = dsC (f + 6) M := by
      unfold dsC
      rw [hc (f + 6) (by omega), show f + 6 + 1 = f + 7 by omega, hc (f + 7) (by omega)]
    rw [this]; exact h4
  · rw [hc f (by omega)]; exact h5
  · rw [hc f (by omega)]; exact h6
  · rw [hc f (by omega)]; exact h7
  · rw [hc f (by omega)]; exact h8
  · rw [hc (f + 9) (by omega)]; exact h9 i hi
/-- one future's MINUTES leave the other one alone -/
theorem futAt.other {f g : Nat} {e : EN} {n d m0 : Int} {T : Nat → DS} {j : Nat} {M M' : MEM} (hfg : (f = 224 ∧ g = 234) ∨ (f = 234 ∧ g = 224)) (o : offL g M M') (h : futAt f e n d m0 T j M) : futAt f e n d m0 T j M' :=
  h.cells (fun c hc => o.1 c (by omega) (by omega) (by omega) (by omega) (by omega) (by omega) (by omega)) (o.2.2 3 (by decide))
/-- two futures are begun -/
theorem q_both {B : Int} {M : MEM} (h : Rel B M) (hB : B ≤ 100000000) {a b : Nat} (ha : (a : Int) < M 3 2) (hb : (b : Int) < M 3 2) : ∃ M', dh_lookBoth a b M = some M' ∧ chg [0] M M' ∧ futAt 224 (envM M) (M 280 a) a (M 3 3) (qT M a) 0 M' ∧ futAt 234 (envM M) (M 280 b) b (M 3 3) (qT M b) 0 M' := by
  obtain ⟨M1, e1, o1, f1⟩ := q_look0 h (Or.inl rfl) ha hB
  have c1 := o1.chg (Or.inl rfl)
  have hc : ∀ c, (c ≤ 20 ∨ c = 22 ∨ (234 ≤ c ∧ c ≤ 243)) → M1 c = M c := fun c hc => o1.1 c (by omega) (by omega) (by omega) (by omega) (by omega) (by omega) (by omega)
  have e21 : M1 21 3 = M 21 3 := o1.2.2 3 (by decide)
  have he : envC 234 M1 = envC 234 M := by
    unfold envC flC
    rw [plC_cg (c := 5) (fun q hq => hc _ (by omega)), plC_cg (c := 234 + 1) (fun q hq => hc _ (by omega)), hc 234 (by omega), e21, hc 19 (by omega), hc 20 (by omega), hc 22 (by omega)]
  have heO : eOk 234 M1 := by
    obtain ⟨g1, ⟨g2, g3, g4⟩, ⟨g5, g6, g7⟩, g8⟩ := (env_0 h (f := 234) (Or.inr rfl)).2
    refine ⟨?_, ⟨?_, ?_, howOk_cg (fun q hq => hc _ (by omega)) g4⟩, ⟨?_, ?_, howOk_cg (fun q hq => hc _ (by omega)) g7⟩, ?_⟩
    · rw [hc 19 (by omega)]; exact g1
    · rw [hc 5 (by omega)]; exact g2
    · rw [hc 5 (by omega)]; exact g3
    · rw [hc (234 + 1) (by omega)]; exact g5
    · rw [hc (234 + 1) (by omega)]; exact g6
    · rw [e21, hc 22 (by omega)]; exact g8
  obtain ⟨M2, e2, o2, f2⟩ := q_look h (Or.inr rfl) hb hB c1 he heO
  refine ⟨M2, ?_, c1.tr (o2.chg (Or.inr rfl)), f1.other (Or.inl ⟨rfl, rfl⟩) o2, f2⟩
  unfold dh_lookBoth
  rw [e1, Option.bind_some, e2, Option.bind_some]
theorem thrown1 {B : Int} {M M1 : MEM} (h : Rel B M) (c : chg [0] M M1) : Tc (mo_lost M1) (fun q => q.2 278 13 = 1 ∧ Rel B q.2) := by
  unfold mo_lost
  exact Tc_u (Tc_some ⟨(rd_same : up2 M1 278 13 1 278 13 = 1), h.go0 (c.up (by decide))⟩)
theorem c_apart {B : Int} {M : MEM} (h : Rel B M) (hB : B ≤ 100000000) (x y n : Int) : LkT B (dh_apart x y n M) (mo_apart x y n) := by
  have nw := now_in h
  have c3 : chg [0] M (up2 M 278 13 0) := chg.rf.up (by decide)
  unfold LkT dh_apart
  by_cases ht : two M x y
  · refine Tc_f (by rw [areTwo_y h.S ht]; decide) ?_
    by_cases hn : 0 ≤ n ∧ n ≤ 600
    · refine Tc_f (by omega) (Tc_t hn.2 ?_)
      obtain ⟨a, rfl⟩ : ∃ a : Nat, x = (a : Int) := ⟨x.toNat, by have := ht.1; omega⟩
      obtain ⟨b, rfl⟩ : ∃ b : Nat, y = (b : Int) := ⟨y.toNat, by have := ht.2.1; omega⟩
      have hN := h.S.2.2.1
      have ha := ht.1
      have hb := ht.2.1
      obtain ⟨M1, e1, c1, f1, f2⟩ := q_both h hB ha.2 hb.2
      obtain ⟨a1, a2, -, -⟩ := dnk h hB ha.2
      obtain ⟨b1, b2, -, -⟩ := dnk h hB hb.2
      obtain ⟨M2, e2, g2, o2⟩ := fut_run600 (till := n) (Or.inl rfl) a1 a2 nw.1 (by omega) hn.2 (by omega) f1
      obtain ⟨M3, e3, g3, o3⟩ := fut_run600 (till := n) (Or.inr rfl) b1 b2 nw.1 (by omega) hn.2 (by omega) (f2.other (Or.inr ⟨rfl, rfl⟩) o2.L)
      have g2' := g2.other (Or.inl ⟨rfl, rfl⟩) o3.L
      refine Tc_e e1 (Tc_e e2 (Tc_e e3 (Tc_some ?_)))
      rw [show max 0 n.toNat = n.toNat by omega] at g2' g3
      have k1 : M3 230 5 = (qT M a n.toNat).2.2.1 := g2'.2.2.2.1.2.2.1.symm
      have k2 : M3 240 5 = (qT M b n.toNat).2.2.1 := g3.2.2.2.1.2.2.1.symm
      have c4 : chg [0] M M3 := (c1.tr (o2.L.chg (Or.inl rfl))).tr (o3.L.chg (Or.inr rfl))
      show Tc (mo_apart a b n M3) (fun q => q.2 278 13 = 0 ∧ q.1 = wr (M3 230 5 - M3 240 5) ∧ Rel B q.2)
      rw [k1, k2]
      unfold mo_apart
      have c5 : chg [0] M (up2 M3 278 13 0) := c4.up (by decide)
      refine Tc_u (Tc_f (by rw [moTwo_y h.S (c5 278 1 (by decide)) ht]; decide) (Tc_f (by rw [moIn_y hn]; decide) ?_))
      obtain ⟨M6, z1, z2, -, -, z5, z6⟩ := q_then h hB (c5.sub (by decide))
      refine Tc_e z1 ?_
      obtain ⟨M7, i1, i2, i3⟩ := then_loop (body := fun s => mo_apart_b37 a b n s.1 s.2) (n := n) (fun _ _ => rfl) z5 hn.1 hn.2 z6
      refine Tc_e i1 ?_
      have w1 : wr (((55 * a : Nat) : Int) + 2) = ((55 * a + 2 : Nat) : Int) := (wr_i (by omega) (by omega)).trans (by omega)
      have w2 : wr (((55 * b : Nat) : Int) + 2) = ((55 * b + 2 : Nat) : Int) := (wr_i (by omega) (by omega)).trans (by omega)
      rw [w55 (by omega), w55 (by omega), w1, w2]
      simp only [toNat_c]
      refine Tc_t (by omega) (Tc_t (by omega) (Tc_some ⟨?_, ?_, h.go0 ((c5.tr z2.chg).tr i3.chg)⟩))
      · dsimp only
        rw [i3.2 13 (by omega) (by omega), z2.2 13 (by omega) (by omega), rd_same]
      · have q1 := i2.2.2.2.2.2.2 a (by omega)
        have q2 := i2.2.2.2.2.2.2 b (by omega)
        have q1 : (qT M a n.toNat).2.2.1 = M7 292 (55 * a + 2) := q1.2.2.1
        have q2 : (qT M b n.toNat).2.2.1 = M7 292 (55 * b + 2) := q2.2.2.1
        rw [q1, q2]
    · have mo : Tc (mo_apart x y n M) (fun q => q.2 278 13 = 1 ∧ Rel B q.2) := by
        unfold mo_apart
        refine Tc_u (Tc_f (by rw [moTwo_y h.S (c3 278 1 (by decide)) ht]; decide) (Tc_t (moIn_n hn) ?_))
        unfold mo_apart_j25
        exact Tc_c (thrown1 h c3) (fun q hq => Tc_some hq)
      refine Tc_i (fun _ => Tc_some mo) (fun q => Tc_f (by omega) (Tc_some mo))
  · refine Tc_t (areTwo_n h.S ht) (Tc_some ?_)
    show Tc (mo_apart x y n M) _
    unfold mo_apart
    refine Tc_u (Tc_t (moTwo_n h.S (c3 278 1 (by decide)) ht) ?_)
    unfold mo_apart_j25
    exact Tc_c (thrown1 h c3) (fun q hq => Tc_some hq)
/-- the first MINUTE of 600 in which it is so, counted from 1; -2: none -/
def fstP (P : Nat → Prop) (r : Int) : Prop := (∃ j : Nat, j < 600 ∧ P j ∧ (∀ i, i < j → ¬ P i) ∧ r = (j : Int) + 1) ∨ ((∀ i : Nat, i < 600 → ¬ P i) ∧ r = -2)
theorem fstP_uniq {P : Nat → Prop} {r r' : Int} (h : fstP P r) (g : fstP P r') : r = r' := by
  rcases h with ⟨j, h1, h2, h3, h4⟩ | ⟨h1, h2⟩ <;> rcases g with ⟨i, g1, g2, g3, g4⟩ | ⟨g1, g2⟩
  · have : i = j := by
      rcases Nat.lt_trichotomy i j with q | q | q
      · exact absurd g2 (h3 i q)
      · exact q
      · exact absurd h2 (g3 j q)
    subst this
    omega
  · exact absurd h2 (g1 j h1)
  · exact absurd g2 (h1 i g1)
  · omega
theorem ish_both {a b : Int} (ha : a = 0 ∨ a = 1 ∨ a = 2 ∨ a = 3 ∨ a = 4) (hb : b = 0 ∨ b = 1 ∨ b = 2 ∨ b = 3 ∨ b = 4) : ish i_and (ish i_and a b) 1 = 0 ↔ (ish i_and a 1 = 0 ∨ ish i_and b 1 = 0) := by
  simp only [ish_def]
  rcases ha with rfl | rfl | rfl | rfl | rfl <;> rcases hb with rfl | rfl | rfl | rfl | rfl <;> decide
theorem c_together {B : Int} {M : MEM} (h : Rel B M) (hB : B ≤ 100000000) (x y : Int) : Lk B (dh_together x y M) (mo_together x y) := by
  have nw := now_in h
  have c3 : chg [0] M (up2 M 278 13 0) := chg.rf.up (by decide)
  unfold Lk dh_together
  by_cases ht : two M x y
  · refine Tc_f (by rw [areTwo_y h.S ht]; decide) ?_
    obtain ⟨a, rfl⟩ : ∃ a : Nat, x = (a : Int) := ⟨x.toNat, by have := ht.1; omega⟩
    obtain ⟨b, rfl⟩ : ∃ b : Nat, y = (b : Int) := ⟨y.toNat, by have := ht.2.1; omega⟩
    have hN := h.S.2.2.1
    have ha := ht.1
    have hb := ht.2.1
    obtain ⟨M1, e1, c1, f1, f2⟩ := q_both h hB ha.2 hb.2
    obtain ⟨a1, a2, -, -⟩ := dnk h hB ha.2
    obtain ⟨b1, b2, -, -⟩ := dnk h hB hb.2
    have sa := q_stk h ha.2 hB
    have sb := q_stk h hb.2 hB
    obtain ⟨P, hP⟩ : ∃ P : Nat → Prop, P = fun j => cnt (qT M a) (j + 1) ≠ cnt (qT M a) j ∧ cnt (qT M b) (j + 1) ≠ cnt (qT M b) j := ⟨_, rfl⟩
    refine Tc_e e1 ?_
    have hl : Tc (iter (fun s => dh_together_b19 s.1 s.2) FU (0, M1)) (fun e => ∃ r M2, fstP P r ∧ chg [0] M M2 ∧ (e = .inl (r, M2) ∨ (r = -2 ∧ ∃ w, e = .inr (w, M2)))) := by
      refine Tc_l (fun i s => s.1 = (i : Int) ∧ futAt 224 (envM M) (M 280 a) a (M 3 3) (qT M a) i s.2 ∧ futAt 234 (envM M) (M 280 b) b (M 3 3) (qT M b) i s.2 ∧ chg [0] M s.2 ∧ ∀ i', i' < i → ¬ P i') _ 600 ⟨rfl, f1, f2, c1, fun i' q => by omega⟩ (by omega) (fun i s hi hI => ?_) (fun s hI => ?_)
      · obtain ⟨z, M2⟩ := s
        obtain ⟨rfl, q1, q2, q3, q4⟩ := hI
        dsimp only at q1 q2 q3 ⊢
        obtain ⟨d1, M3, s1, s2, s3, s4, -, s6⟩ := fut_step (Or.inl rfl) a1 a2 nw.1 (by omega) hi q1
        obtain ⟨d2, M4, t1, t2, t3, t4, -, t6⟩ := fut_step (Or.inr rfl) b1 b2 nw.1 (by omega) hi (q2.other (Or.inr ⟨rfl, rfl⟩) s3.L)
        have c4 : chg [0] M M4 := (q3.tr (s3.L.chg (Or.inl rfl))).tr (t3.L.chg (Or.inr rfl))
        have wi : wr ((i : Int) + 1) = ((i + 1 : Nat) : Int) := (wr_i (by omega) (by omega)).trans (by omega)
        unfold dh_together_b19
        refine Tc_f (by omega) (Tc_e s1 (Tc_e t1 ?_))
        dsimp only
        have hPi : ish i_and (ish i_and d1 d2) 1 = 0 ↔ ¬ P i := by
          rw [ish_both s6 t6, s4, t4, hP]
          show _ ↔ ¬ (cnt (qT M a) (i + 1) ≠ cnt (qT M a) i ∧ cnt (qT M b) (i + 1) ≠ cnt (qT M b) i)
          unfold qT
          omega
        refine Tc_i (fun q => ?_) (fun q => ?_)
        · refine Tc_inlL ⟨wi, s2.other (Or.inl ⟨rfl, rfl⟩) t3.L, t2, c4, fun i' hi' => ?_⟩
          by_cases e : i' = i
          · subst e; exact hPi.mp q
          · exact q4 i' (by omega)
        · refine Tc_inrR ⟨_, M4, Or.inl ⟨i, hi, ?_, q4, ?_⟩, c4, Or.inl rfl⟩
          · by_cases z : P i
            · exact z
            · exact absurd (hPi.mpr z) q
          · rw [wi]; omega
      · obtain ⟨z, M2⟩ := s
        obtain ⟨rfl, q1, q2, q3, q4⟩ := hI
        unfold dh_together_b19
        exact Tc_t (by show (600 : Int) ≤ ((600 : Nat) : Int); omega) (Tc_inr ⟨-2, M2, Or.inr ⟨q4, rfl⟩, q3, Or.inr ⟨rfl, _, rfl⟩⟩)
    refine Tc_c hl (fun e he => ?_)
    obtain ⟨r, M2, hr, c2, he⟩ := he
    have mo : Tc (mo_together a b M2) (fun q => q.1 = r ∧ Rel B q.2) := by
      unfold mo_together
      have c5 : chg [0] M (up2 M2 278 13 0) := c2.up (by decide)
      refine Tc_u (Tc_f (by rw [moTwo_y h.S (c5 278 1 (by decide)) ht]; decide) ?_)
      obtain ⟨M6, z1, z2, -, -, z5, z6⟩ := q_then h hB (c5.sub (by decide))
      refine Tc_e z1 ?_
      have hl2 : Tc (iter (fun s => mo_together_b22 a b s.1 s.2) FU (1, M6)) (fun e => ∃ r M7, fstP P r ∧ offQ M6 M7 ∧ (e = .inl (r, M7) ∨ (r = -2 ∧ ∃ w, e = .inr (w, M7)))) := by
        refine Tc_l (fun i s => s.1 = (i : Int) + 1 ∧ thenAt (M 3 2).toNat (fun d => M 280 d) (envM M) (M 3 3) (fun d => dsC (10 + 3 * d) M) i s.2 ∧ offQ M6 s.2 ∧ ∀ i', i' < i → ¬ P i') _ 600 ⟨rfl, z6, offQ.rf, fun i' q => by omega⟩ (by omega) (fun i s hi hI => ?_) (fun s hI => ?_)
        · obtain ⟨z, M7⟩ := s
          obtain ⟨rfl, q1, q2, q4⟩ := hI
          dsimp only at q1 q2 ⊢
          obtain ⟨M8, k1, k2, k3, k4, -⟩ := then_step z5 (by omega) q1
          have ka : M8 287 a = cnt (qT M a) (i + 1) - cnt (qT M a) i := k4 a (by omega)
          have kb : M8 287 b = cnt (qT M b) (i + 1) - cnt (qT M b) i := k4 b (by omega)
          have xa := sa i (by omega)
          have xb := sb i (by omega)
          have wi : wr ((i : Int) + 1 + 1) = ((i + 1 : Nat) : Int) + 1 := (wr_i (by omega) (by omega)).trans (by omega)
          unfold mo_together_b22 mo_together_j57_22
          refine Tc_f (by omega) (Tc_e k1 (Tc_t (by omega) ?_))
          rw [wi]
          simp only [toNat_c]
          refine Tc_i (fun q => ?_) (fun q => Tc_t (by omega) (Tc_i (fun q' => ?_) (fun q' => ?_)))
          · refine Tc_inlL ⟨rfl, k2, q2.tr k3.Q, fun i' hi' => ?_⟩
            by_cases e : i' = i
            · subst e; rw [hP]; rintro ⟨y1, y2⟩; omega
            · exact q4 i' (by omega)
          · refine Tc_inlL ⟨rfl, k2, q2.tr k3.Q, fun i' hi' => ?_⟩
            by_cases e : i' = i
            · subst e; rw [hP]; rintro ⟨y1, y2⟩; omega
            · exact q4 i' (by omega)
          · exact Tc_inrR ⟨_, M8, Or.inl ⟨i, hi, by rw [hP]; constructor <;> omega, q4, rfl⟩, q2.tr k3.Q, Or.inl rfl⟩
        · obtain ⟨z, M7⟩ := s
          obtain ⟨rfl, q1, q2, q4⟩ := hI
          unfold mo_together_b22
          exact Tc_t (by show (600 : Int) < ((600 : Nat) : Int) + 1; omega) (Tc_inr ⟨-2, M7, Or.inr ⟨q4, rfl⟩, q2, Or.inr ⟨rfl, _, rfl⟩⟩)
      refine Tc_c hl2 (fun e he => ?_)
      obtain ⟨r', M7, hr', c7, he⟩ := he
      have := fstP_uniq hr hr'
      subst this
      rcases he with rfl | ⟨rfl, w, rfl⟩
      · exact Tc_some ⟨rfl, h.go0 ((c5.tr z2.chg).tr c7.chg)⟩
      · exact Tc_some ⟨rfl, h.go0 ((c5.tr z2.chg).tr c7.chg)⟩
    rcases he with rfl | ⟨rfl, w, rfl⟩
    · exact Tc_some mo
    · exact Tc_some mo
  · refine Tc_t (areTwo_n h.S ht) (Tc_some ?_)
    unfold mo_together
    exact Tc_u (Tc_t (moTwo_n h.S (c3 278 1 (by decide)) ht) (Tc_some ⟨rfl, h.go0 c3⟩))
