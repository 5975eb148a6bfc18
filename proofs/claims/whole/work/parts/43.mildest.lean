-- ===== mildest =====
def mxN (F : Nat → Int) : Nat → Int
  | 0 => -1000000
  | i + 1 => max (mxN F i) (F i)
def mlN (W : Nat → Int) : Nat → Int × Int
  | 0 => (0, 1000000)
  | i + 1 => if W i < (mlN W i).2 then ((i : Int), W i) else mlN W i
theorem mxN_bd {F : Nat → Int} (h : ∀ i, -594000 ≤ F i ∧ F i ≤ 594000) : ∀ i, mxN F i ≤ 594000 := by
  intro i
  induction i with
  | zero => show (-1000000 : Int) ≤ _; decide
  | succ i ih => show max (mxN F i) (F i) ≤ _; have := h i; omega
theorem mlN_S (W : Nat → Int) (i : Nat) : mlN W (i + 1) = if W i < (mlN W i).2 then ((i : Int), W i) else mlN W i := rfl
theorem mxN_S (F : Nat → Int) (i : Nat) : mxN F (i + 1) = max (mxN F i) (F i) := rfl
theorem c_mildest {B : Int} {M : MEM} (h : Rel B M) (hB : B ≤ 100000000) (n : Int) : Lk B (dh_mildest n M) (mo_mildest n) := by
  have c3 : chg [0] M (up2 M 278 13 0) := chg.rf.up (by decide)
  unfold Lk dh_mildest
  by_cases hn : 1 ≤ n ∧ n ≤ 600
  · refine Tc_f (by rw [far_y hn]; decide) ?_
    obtain ⟨F, hFe⟩ : ∃ F : Nat → Nat → Int, F = fun law p : Nat => netN M n p law := ⟨_, rfl⟩
    have hF : ∀ law p : Nat, netN M n p law = F law p := fun law p => by rw [hFe]
    have hFb : ∀ law p, -594000 ≤ F law p ∧ F law p ≤ 594000 := fun law p => by rw [← hF]; exact netN_bd h hn.2
    obtain ⟨W, hWe⟩ : ∃ W : Nat → Int, W = fun law => mxN (F law) 6 := ⟨_, rfl⟩
    have hW : ∀ law, mxN (F law) 6 = W law := fun law => by rw [hWe]
    have hWb : ∀ law, W law ≤ 594000 := fun law => by rw [← hW]; exact mxN_bd (hFb law) 6
    obtain ⟨M1, e1, c1, k1⟩ := count_due h hB hn
    have cc1 : chg [0, 10] M M1 := c1.sub (by decide)
    have most : ∀ law : Nat, co_most law M1 = some (W law) := fun law => by
      have s0 : co_less 0 law M1 = some (F law 0) := by rw [← hF law 0]; exact less_eq h hn.2 cc1 k1
      have hl : iter (fun s => co_most_b9 law s.1 s.2 M1) FU (F law 0, 1) = some (W law, 6) := by
        have := loop_traj (body := fun s => co_most_b9 law s.1 s.2 M1) (e := (W law, 6)) (fun i => (mxN (F law) (i + 1), (i : Int) + 1)) 5 (by omega) (fun i hi => by
          dsimp only
          have s1 : co_less ((i : Int) + 1) law M1 = some (F law (i + 1)) := by
            rw [← hF law (i + 1), show (((i + 1 : Nat) : Int)) = (i : Int) + 1 by omega]; exact less_eq h hn.2 cc1 k1
          unfold co_most_b9
          rw [if_neg (by omega), s1, Option.bind_some, wr_i (by omega) (by omega)]
          rfl) (by
          dsimp only
          unfold co_most_b9
          rw [if_pos (by omega), ← hW]
          rfl)
        have e0 : mxN (F law) (0 + 1) = F law 0 := by
          show max (-1000000) (F law 0) = F law 0
          have := hFb law 0
          omega
        rw [e0] at this
        exact this
      unfold co_most
      rw [s0, Option.bind_some, hl, Option.bind_some]
    refine Tc_e e1 (Tc_e (most 0) ?_)
    have hl : iter (fun s => dh_mildest_b28 s.1 s.2.1 s.2.2 M1) FU (0, W 0, 1) = some ((mlN W 4).1, (mlN W 4).2, 4) := by
      have := loop_traj (body := fun s => dh_mildest_b28 s.1 s.2.1 s.2.2 M1) (e := ((mlN W 4).1, (mlN W 4).2, 4)) (fun i => ((mlN W (i + 1)).1, (mlN W (i + 1)).2, (i : Int) + 1)) 3 (by omega) (fun i hi => by
        dsimp only
        have m1 : co_most ((i : Int) + 1) M1 = some (W (i + 1)) := by rw [show (i : Int) + 1 = ((i + 1 : Nat) : Int) by omega]; exact most (i + 1)
        unfold dh_mildest_b28 dh_mildest_j57_28
        rw [if_neg (by omega), m1, Option.bind_some, wr_i (by omega) (by omega), mlN_S W (i + 1)]
        by_cases z : W (i + 1) < (mlN W (i + 1)).2
        · rw [if_neg (by omega), if_pos z]
          rfl
        · rw [if_pos (by omega), if_neg z]
          rfl) (by
        dsimp only
        unfold dh_mildest_b28
        rw [if_pos (by omega)]
        rfl)
      have e0 : mlN W (0 + 1) = (0, W 0) := by
        rw [mlN_S, if_pos (by have := hWb 0; show W 0 < 1000000; omega)]
        rfl
      rw [e0] at this
      exact this
    refine Tc_e hl ?_
    dsimp only
    obtain ⟨M2, n1, n2, n3⟩ := newRow_eq M1
    obtain ⟨M3, t1, t2, t3⟩ := tell_eq (mlN W 4).2 n2 (by simp)
    refine Tc_e n1 (Tc_e t1 (Tc_some ?_))
    dsimp only
    have c4 : chg [0, 10] M M3 := cc1.tr (n3.tr t3).chg
    unfold mo_mildest
    have c5 : chg [0, 10] M (up2 M3 278 13 0) := c4.up (by decide)
    refine Tc_u (Tc_f (by rw [show mo_isMore n = 1 from moIn_y hn]; decide) ?_)
    obtain ⟨M5, g1, g2, g3, g4⟩ := find_hours h hB c5 hn
    have c6 : chg [0, 10] M M5 := c5.tr (g2.sub (by decide))
    have q1 : ∀ i : Nat, (i : Int) < M 34 6 → M5 296 i = coO M n i := fun i hi => (g4 i hi).1
    refine Tc_e g1 ?_
    rw [show (1000000 : Int) - 0 = 1000000 from rfl]
    have inner : ∀ (law : Nat) (a b : Int), iter (fun s => mo_mildest_b42 a b law s.1 s.2 M5) FU (-1000000, 0) = some (W law, 6) := fun law a b => by
      have := loop_traj (body := fun s => mo_mildest_b42 a b law s.1 s.2 M5) (e := (W law, 6)) (fun i => (mxN (F law) i, (i : Int))) 6 (by omega) (fun i hi => by
        dsimp only
        have s1 : mo_netOf (i : Int) law M5 = some (F law i) := by rw [← hF law i]; exact netOf_eq h hn.2 c6 q1
        unfold mo_mildest_b42
        rw [if_neg (by omega), s1, Option.bind_some, wr_i (by omega) (by omega)]
        rfl) (by
        dsimp only
        unfold mo_mildest_b42
        rw [if_pos (by omega), ← hW]
        rfl)
      exact this
    have hl2 : iter (fun s => mo_mildest_b28 s.1 s.2.1 s.2.2 M5) FU (0, 1000000, 0) = some ((mlN W 4).1, (mlN W 4).2, 4) := by
      have := loop_traj (body := fun s => mo_mildest_b28 s.1 s.2.1 s.2.2 M5) (e := ((mlN W 4).1, (mlN W 4).2, 4)) (fun i => ((mlN W i).1, (mlN W i).2, (i : Int))) 4 (by omega) (fun i hi => by
        dsimp only
        unfold mo_mildest_b28 mo_mildest_j85_28
        rw [if_neg (by omega), show (0 : Int) - 1000000 = -1000000 from rfl, inner i, Option.bind_some, wr_i (by omega) (by omega), mlN_S W i]
        dsimp only
        by_cases z : W i < (mlN W i).2
        · rw [if_pos z, if_pos z]
          rfl
        · rw [if_neg z, if_neg z]
          rfl) (by
        dsimp only
        unfold mo_mildest_b28
        rw [if_pos (by omega)]
        rfl)
      exact this
    refine Tc_e hl2 (Tc_u ?_)
    dsimp only
    obtain ⟨x1, x2⟩ := moRow0 M5
    obtain ⟨M6, u1, u2, u3⟩ := moTell_eq (mlN W 4).2 x1 (by simp)
    exact Tc_e u1 (Tc_some ⟨rfl, h.go10 (c6.tr (x2.tr u3).chg) (t2.fin (((moF.up (by decide)).tr g3).tr (x2.tr u3).mo) u2 (by simp))⟩)
  · refine Tc_t (far_n hn) (Tc_some ?_)
    unfold mo_mildest
    exact Tc_u (Tc_t (moIn_n hn) (Tc_some ⟨rfl, h.go0 c3⟩))
