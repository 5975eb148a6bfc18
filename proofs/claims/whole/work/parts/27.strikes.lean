-- ===== strikes, stops =====
theorem after_times {T : Nat → DS} {k r : Int} {M : MEM} (hst : stk T 1000000) (hk : 1 ≤ k) (hr : (k ≤ cnt T 600 ∧ ∃ v, isT T v (k - 1).toNat ∧ 0 ≤ v ∧ v < 600 ∧ r = v + 1) ∨ (cnt T 600 < k ∧ r = -1)) (g3 : M 278 38 = cnt T 600) (g4 : ∀ i : Nat, (i : Int) < cnt T 600 → isT T (M 293 i) i ∧ M 293 i < 600) :
    (k ≤ M 278 38 ∧ r = M 293 (k - 1).toNat + 1 ∧ 0 ≤ M 293 (k - 1).toNat ∧ M 293 (k - 1).toNat < 600) ∨ (M 278 38 < k ∧ r = -1) := by
  rw [g3]
  rcases hr with ⟨h1, v, h2, h3, h4, rfl⟩ | h
  · obtain ⟨z1, z2⟩ := g4 (k - 1).toNat (by omega)
    have := isT_uniq hst h2 z1 (by omega) (by omega)
    exact Or.inl ⟨h1, by rw [this], by omega, by omega⟩
  · exact Or.inr h
theorem times_in {T : Nat → DS} {M : MEM} (g4 : ∀ i : Nat, (i : Int) < cnt T 600 → isT T (M 293 i) i ∧ M 293 i < 600) {i : Nat} (h : (i : Int) < cnt T 600) : 0 ≤ M 293 i ∧ M 293 i < 600 := by
  obtain ⟨⟨u, hu, -⟩, z2⟩ := g4 i h
  omega
theorem mo_strokes_eq {M : MEM} {d : Nat} (h : d < 3) : mo_strokes d M = some (M 279 (55 * d + 2)) := by
  unfold mo_strokes
  rw [w55 h, (wr_i (by omega) (by omega) : wr (((55 * d : Nat) : Int) + 2) = ((55 * d : Nat) : Int) + 2), if_pos (by omega), show (((55 * d : Nat) : Int) + 2).toNat = 55 * d + 2 by omega]
theorem c_strikes {B : Int} {M : MEM} (h : Rel B M) (hB : B ≤ 100000000) (x hour : Int) : Lk B (dh_strikes x hour M) (mo_strikes x hour) := by
  have nw := now_in h
  unfold Lk dh_strikes
  by_cases hd : 0 ≤ x ∧ x < M 3 2
  · refine Tc_f (by rw [isDonkey_y h.S.2.2.1 hd.1 hd.2]; decide) ?_
    by_cases hh : 0 ≤ hour ∧ hour ≤ 11
    · refine Tc_f (by omega) (Tc_t (by omega) ?_)
      obtain ⟨d, rfl⟩ : ∃ d : Nat, x = (d : Int) := ⟨x.toNat, by omega⟩
      have hd3 : d < 3 := by have := h.S.2.2.1; omega
      obtain ⟨M1, e1, o1, f1⟩ := q_look0 h (Or.inl rfl) hd.2 hB
      obtain ⟨d1, d2, d3, d4⟩ := dnk h hB hd.2
      have hst := q_stk h hd.2 hB
      have h5 : M1 230 5 = (dsC (10 + 3 * d) M).2.2.1 := f1.2.2.2.1.2.2.1.symm
      have hk0 : 0 ≤ (dsC (10 + 3 * d) M).2.2.1 := d1.2.2.2.2.2.2.1
      generalize hS : (dsC (10 + 3 * d) M).2.2.1 = S at *
      obtain ⟨k0, hkk⟩ : ∃ k0, (hour - S - 1) % 12 = k0 := ⟨_, rfl⟩
      have hm1 := Int.emod_nonneg (hour - S - 1) (show (12 : Int) ≠ 0 by decide)
      have hm2 := Int.emod_lt_of_pos (hour - S - 1) (show (0 : Int) < 12 by decide)
      refine Tc_e e1 ?_
      rw [h5, wr_i (x := hour - S) (by omega) (by omega), wr_i (x := hour - S - 1) (by omega) (by omega)]
      refine Tc_e (floorMod_eq (by unfold InR; omega) (by decide) (by decide)) ?_
      rw [hkk, wr_i (x := k0 + 1) (by omega) (by omega)]
      obtain ⟨r, M2, j', e2, o2, -, -, -, hr⟩ := after_eq (k := k0 + 1) (Or.inl rfl) d1 (by rw [hS]; exact d2) nw.1 (by omega) (by omega) (by omega) (by omega) f1
      refine Tc_e e2 ?_
      have c2 : chg [0] M M2 := (o1.tr o2.L).chg (Or.inl rfl)
      -- the reference
      have mo : ∀ M3 : MEM, chg [0, 10] M M3 → Tc (mo_strikes d hour M3) (fun q => (r = -1 ∧ q.1 = -2 ∧ chg [0] M3 q.2) ∨ (0 ≤ r ∧ q.1 = r ∧ rowM [k0 + 1] q.2 ∧ moF M3 q.2 ∧ chg [0, 10] M q.2)) := fun M3 c3 => by
        unfold mo_strikes
        have c4 : chg [0, 10] M (up2 M3 278 13 0) := c3.up (by decide)
        have c4' : chg [0] M3 (up2 M3 278 13 0) := chg.rf.up (by decide)
        refine Tc_u (Tc_f (by rw [moDonkey_y h.S (c4 278 1 (by decide)) hd]; decide) (Tc_f (by rw [moIn_y hh]; decide) ?_))
        obtain ⟨M4, g1, g2, g3, g4⟩ := q_times h hB c4 hd.2
        refine Tc_e g1 ?_
        have ht := after_times hst (by omega) hr g3 g4
        have hcb := cnt_le hst (show 600 ≤ 1000000 by omega)
        have hs4 : mo_strokes d M4 = some S := by
          rw [mo_strokes_eq hd3, g2.1 279 (by decide) (by decide) (by decide) (by decide), c4 279 _ (by rw [rg_279]; decide)]
          have : S = M 279 (55 * d + 2) := by rw [← hS]; exact d3.2.2.1
          rw [← this]
        have hl : Tc (iter (fun s => mo_strikes_b32 d hour s M4) FU 1) (fun e => (M4 278 38 < k0 + 1 ∧ ∃ w, e = .inr w) ∨ (k0 + 1 ≤ M4 278 38 ∧ ∃ M5, e = .inl (M4 293 k0.toNat + 1, M5) ∧ rowM [k0 + 1] M5 ∧ offX M4 M5)) := by
          refine Tc_l (fun i s => s = (i : Int) + 1) _ (min (M4 278 38).toNat k0.toNat) rfl (by omega) (fun i s hi hI => ?_) (fun s hI => ?_)
          · subst hI
            unfold mo_strikes_b32
            refine Tc_f (by omega) (Tc_e hs4 (Tc_f ?_ ?_))
            · rw [wr_i (by omega) (by omega), tmod_nn (by omega)]; omega
            · exact Tc_inlL ((wr_i (by omega) (by omega)).trans (by omega))
          · subst hI
            unfold mo_strikes_b32
            by_cases q : M4 278 38 < k0 + 1
            · exact Tc_t (by omega) (Tc_inr (Or.inl ⟨q, _, rfl⟩))
            · have : ((min (M4 278 38).toNat k0.toNat : Nat) : Int) = k0 := by omega
              rw [this]
              refine Tc_f (by omega) (Tc_e hs4 (Tc_t ?_ (Tc_u ?_)))
              · rw [wr_i (by omega) (by omega), tmod_nn (by omega)]; omega
              · obtain ⟨x1, x2⟩ := moRow0 M4
                obtain ⟨M5, y1, y2, y3⟩ := moTell_eq (k0 + 1) x1 (by simp)
                have w : wr (k0 + 1 - 1) = k0 := (wr_i (by omega) (by omega)).trans (by omega)
                rw [w]
                refine Tc_e y1 (Tc_t (by omega) (Tc_inr (Or.inr ⟨by omega, M5, ?_, y2, x2.tr y3⟩)))
                have e293 : M5 293 = M4 293 := (x2.tr y3).cell (by decide) (by decide)
                rw [e293, wr_i]
                · have := times_in g4 (i := k0.toNat) (by omega); omega
                · have := times_in g4 (i := k0.toNat) (by omega); omega
        refine Tc_c hl (fun e he => ?_)
        rcases he with ⟨q1, w, rfl⟩ | ⟨q1, M5, rfl, q2, q3⟩
        · refine Tc_some (Or.inl ⟨by omega, rfl, c4'.tr g2.chg⟩)
        · have z : k0 + 1 - 1 = k0 := by omega
          rw [z] at ht
          refine Tc_some (Or.inr ⟨by omega, ?_, q2, (moF.up (by decide)).tr (g2.mo.tr q3.mo), (c4.tr (g2.chg.sub (by decide))).tr q3.chg⟩)
          dsimp only
          omega
      refine Tc_i (fun q => ?_) (fun q => ?_)
      · have q : 0 ≤ r := q
        obtain ⟨M3, n1, n2, n3⟩ := newRow_eq M2
        obtain ⟨M4, t1, t2, t3⟩ := tell_eq (k0 + 1) n2 (by simp)
        refine Tc_e n1 (Tc_e t1 (Tc_some (Tc_m (mo M4 ((c2.sub (by decide)).tr (n3.tr t3).chg)) fun q' hq => ?_)))
        rcases hq with hq | ⟨z1, z2, z3, z4, z5⟩
        · omega
        · exact ⟨z2, h.go10 z5 (t2.fin z4 z3 (by simp))⟩
      · have q : ¬ 0 ≤ r := q
        refine Tc_some (Tc_m (mo M2 (c2.sub (by decide))) fun q' hq => ?_)
        rcases hq with ⟨z1, z2, z3⟩ | hq
        · exact ⟨z2, h.go0 (c2.tr z3)⟩
        · omega
    · have mo : Tc (mo_strikes x hour M) (fun q => q.1 = -1 ∧ Rel B q.2) := by
        unfold mo_strikes
        have c3 : chg [0] M (up2 M 278 13 0) := chg.rf.up (by decide)
        exact Tc_u (Tc_f (by rw [moDonkey_y h.S (c3 278 1 (by decide)) hd]; decide) (Tc_t (moIn_n hh) (Tc_some ⟨rfl, h.go0 c3⟩)))
      refine Tc_i (fun _ => Tc_some mo) (fun q => Tc_f (by omega) (Tc_some mo))
  · refine Tc_t (isDonkey_n h.S.2.2.1 hd) (Tc_some ?_)
    unfold mo_strikes
    have c3 : chg [0] M (up2 M 278 13 0) := chg.rf.up (by decide)
    exact Tc_u (Tc_t (moDonkey_n h.S (c3 278 1 (by decide)) hd) (Tc_some ⟨rfl, h.go0 c3⟩))
/-- behind the last MINUTE of j in which it isn't so -/
def stillN (P : Nat → Bool) : Nat → Int
  | 0 => 0
  | j + 1 => if P j = true then stillN P j else (j : Int) + 1
theorem stillN_S (P : Nat → Bool) (j : Nat) : stillN P (j + 1) = if P j = true then stillN P j else (j : Int) + 1 := rfl
theorem stillN_bd (P : Nat → Bool) : ∀ j, 0 ≤ stillN P j ∧ stillN P j ≤ j := by
  intro j
  induction j with
  | zero => exact ⟨Int.le_refl _, Int.le_refl _⟩
  | succ j ih =>
    unfold stillN
    split <;> omega
theorem c_stops {B : Int} {M : MEM} (h : Rel B M) (hB : B ≤ 100000000) (x : Int) : Lk B (dh_stops x M) (mo_stops x) := by
  have nw := now_in h
  unfold Lk dh_stops
  by_cases hd : 0 ≤ x ∧ x < M 3 2
  · refine Tc_f (by rw [isDonkey_y h.S.2.2.1 hd.1 hd.2]; decide) ?_
    obtain ⟨d, rfl⟩ : ∃ d : Nat, x = (d : Int) := ⟨x.toNat, by omega⟩
    have hd3 : d < 3 := by have := h.S.2.2.1; omega
    obtain ⟨M1, e1, o1, f1⟩ := q_look0 h (Or.inl rfl) hd.2 hB
    obtain ⟨d1, d2, d3, d4⟩ := dnk h hB hd.2
    refine Tc_e e1 ?_
    have hl : Tc (iter (fun s => dh_stops_b23 s.1 s.2.1 s.2.2) FU (0, 0, M1)) (fun r => r.1 = stillN (fun j => decide (paceD (envM M) d (M 3 3 + j) (qT M d j) = 0)) 600 ∧ offL 224 M1 r.2.2) := by
      refine Tc_n (fun i s => s.1 = stillN (fun j => decide (paceD (envM M) d (M 3 3 + j) (qT M d j) = 0)) i ∧ s.2.1 = (i : Int) ∧ futAt 224 (envM M) (M 280 d) d (M 3 3) (qT M d) i s.2.2 ∧ offL 224 M1 s.2.2) 600 ⟨rfl, rfl, f1, offL.rf⟩ (by omega) (fun i s hi hI => ?_) (fun s hI => ?_)
      · obtain ⟨y, z, M2⟩ := s
        obtain ⟨rfl, rfl, h3, h4⟩ := hI
        dsimp only at h3 h4 ⊢
        obtain ⟨did, M3, g1, g2, g3, g4, g5, -⟩ := fut_step (Or.inl rfl) d1 d2 nw.1 (by omega) hi h3
        unfold dh_stops_b23 dh_stops_j46_23
        have wi : wr ((i : Int) + 1) = ((i + 1 : Nat) : Int) := (wr_i (by omega) (by omega)).trans (by omega)
        refine Tc_f (by omega) (Tc_e g1 ?_)
        dsimp only
        by_cases q : ish i_and did 4 = 0
        · refine Tc_t q (Tc_inl ⟨?_, wi, g2, h4.tr g3.L⟩)
          dsimp only
          have this : paceD (envM M) d (M 3 3 + i) (qT M d i) ≠ 0 := g5.mp q
          rw [stillN_S, if_neg (by simpa using this), wi]
          omega
        · refine Tc_f q (Tc_inl ⟨?_, wi, g2, h4.tr g3.L⟩)
          dsimp only
          have q2 : ¬ paceD (envM M) d (M 3 3 + i) (qT M d i) ≠ 0 := fun z => q (g5.mpr z)
          rw [stillN_S, if_pos (by simpa using q2)]
      · obtain ⟨y, z, M2⟩ := s
        obtain ⟨rfl, rfl, h3, h4⟩ := hI
        unfold dh_stops_b23
        exact Tc_t (by show (600 : Int) ≤ ((600 : Nat) : Int); omega) (Tc_inr ⟨rfl, h4⟩)
    refine Tc_c hl (fun w hw => ?_)
    obtain ⟨y, z, M2⟩ := w
    obtain ⟨rfl, o2⟩ := hw
    dsimp only at o2 ⊢
    have c2 : chg [0] M M2 := (o1.tr o2).chg (Or.inl rfl)
    generalize hP : (fun j : Nat => decide (paceD (envM M) d (M 3 3 + j) (qT M d j) = 0)) = P
    have hb := stillN_bd P 600
    have mo : Tc (mo_stops d M2) (fun q => q.1 = (if stillN P 600 = 600 then -2 else stillN P 600) ∧ Rel B q.2) := by
      unfold mo_stops
      have c3 : chg [0] M (up2 M2 278 13 0) := c2.up (by decide)
      refine Tc_u (Tc_f (by rw [moDonkey_y h.S (c3 278 1 (by decide)) hd]; decide) ?_)
      obtain ⟨M4, g1, g2, -, -, g5, g6⟩ := q_then h hB (c3.sub (by decide))
      refine Tc_e g1 ?_
      have hl2 : Tc (iter (fun s => mo_stops_b23 d s.1 s.2.1 s.2.2) FU (0, 1, M4)) (fun r => r.1 = stillN P 600 ∧ offQ M4 r.2.2) := by
        refine Tc_n (fun i s => s.1 = stillN P i ∧ s.2.1 = (i : Int) + 1 ∧ thenAt (M 3 2).toNat (fun d => M 280 d) (envM M) (M 3 3) (fun d => dsC (10 + 3 * d) M) i s.2.2 ∧ offQ M4 s.2.2) 600 ⟨rfl, rfl, g6, offQ.rf⟩ (by omega) (fun i s hi hI => ?_) (fun s hI => ?_)
        · obtain ⟨y, z, M5⟩ := s
          obtain ⟨rfl, rfl, h3, h4⟩ := hI
          dsimp only at h3 h4 ⊢
          obtain ⟨M6, k1, k2, k3, -, -, k6, -⟩ := then_step g5 (by omega) h3
          unfold mo_stops_b23 mo_stops_j51_23
          have wi : wr ((i : Int) + 1 + 1) = ((i + 1 : Nat) : Int) + 1 := (wr_i (by omega) (by omega)).trans (by omega)
          have hN3 := h.S.2.2.1
          rw [show (bitsI (fun d => decide (paceD (envM M) d (M 3 3 + i) (trajD (envM M) (M 280 d) d (M 3 3) (dsC (10 + 3 * d) M) i) = 0)) (M 3 2).toNat) = bitsI (fun d => decide (paceD (envM M) d (M 3 3 + i) (qT M d i) = 0)) (M 3 2).toNat from rfl] at k6
          refine Tc_f (by omega) (Tc_e k1 ?_)
          rw [k6, has_bit (by omega) (by omega), wi]
          have ePi : P i = decide (paceD (envM M) d (M 3 3 + i) (qT M d i) = 0) := by rw [← hP]
          rw [← ePi]
          cases hPi : P i with
          | true =>
            refine Tc_f (by simp) (Tc_inl ⟨?_, rfl, k2, h4.tr k3.Q⟩)
            dsimp only
            rw [show stillN P (i + 1) = if P i = true then stillN P i else (i : Int) + 1 from rfl, hPi, if_pos rfl]
          | false =>
            refine Tc_t (by simp) (Tc_inl ⟨?_, rfl, k2, h4.tr k3.Q⟩)
            dsimp only
            rw [show stillN P (i + 1) = if P i = true then stillN P i else (i : Int) + 1 from rfl, hPi, if_neg (by decide)]
        · obtain ⟨y, z, M5⟩ := s
          obtain ⟨rfl, rfl, h3, h4⟩ := hI
          unfold mo_stops_b23
          exact Tc_t (by show (600 : Int) < ((600 : Nat) : Int) + 1; omega) (Tc_inr ⟨rfl, h4⟩)
      refine Tc_c hl2 (fun w hw => ?_)
      obtain ⟨y, z, M5⟩ := w
      obtain ⟨rfl, o5⟩ := hw
      have c5 := (c3.tr g2.chg).tr o5.chg
      refine Tc_i (fun q => Tc_some ⟨?_, h.go0 c5⟩) (fun q => Tc_some ⟨?_, h.go0 c5⟩)
      · have q : stillN P 600 = 600 := q
        rw [if_pos q]
      · have q : ¬ stillN P 600 = 600 := q
        rw [if_neg q]
    refine Tc_i (fun q => Tc_some (Tc_m mo fun q' hq => ⟨?_, hq.2⟩)) (fun q => Tc_some (Tc_m mo fun q' hq => ⟨?_, hq.2⟩))
    · rw [hq.1, if_pos (by omega)]
    · rw [hq.1, if_neg (by omega)]
  · refine Tc_t (isDonkey_n h.S.2.2.1 hd) (Tc_some ?_)
    unfold mo_stops
    have c3 : chg [0] M (up2 M 278 13 0) := chg.rf.up (by decide)
    exact Tc_u (Tc_t (moDonkey_n h.S (c3 278 1 (by decide)) hd) (Tc_some ⟨rfl, h.go0 c3⟩))
