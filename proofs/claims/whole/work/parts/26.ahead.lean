-- ===== ahead, when, strikes, stops =====
theorem asked_y {k : Int} (h : 1 ≤ k ∧ k ≤ 60) : dh_isAskedStroke k = 1 := by unfold dh_isAskedStroke; rw [if_neg (by omega), if_neg (by omega)]
theorem asked_n {k : Int} (h : ¬ (1 ≤ k ∧ k ≤ 60)) : dh_isAskedStroke k = 0 := by
  unfold dh_isAskedStroke
  by_cases q : k < 1
  · rw [if_pos q]
  · rw [if_neg q, if_pos (by omega)]
theorem far_y {k : Int} (h : 1 ≤ k ∧ k ≤ 600) : dh_isFar k = 1 := by unfold dh_isFar; rw [if_neg (by omega), if_neg (by omega)]
theorem far_n {k : Int} (h : ¬ (1 ≤ k ∧ k ≤ 600)) : dh_isFar k = 0 := by
  unfold dh_isFar
  by_cases q : k < 1
  · rw [if_pos q]
  · rw [if_neg q, if_pos (by omega)]
theorem road_y {k : Int} (h : 0 ≤ k ∧ k ≤ 99) : dh_isRoad k = 1 := by unfold dh_isRoad; rw [if_neg (by omega), if_neg (by omega)]
theorem road_n {k : Int} (h : ¬ (0 ≤ k ∧ k ≤ 99)) : dh_isRoad k = 0 := by
  unfold dh_isRoad
  by_cases q : k < 0
  · rw [if_pos q]
  · rw [if_neg q, if_pos (by omega)]
/-- the MINUTE of a STROKE that was come to -/
theorem stroke_eq {f : Nat} {e : EN} {n d m0 : Int} {T : Nat → DS} {j : Nat} {k : Int} {M : MEM} (h : futAt f e n d m0 T j M) (h1 : 1 ≤ k) (h2 : k ≤ cnt T j) (h3 : k ≤ 600) : fu_strokeMinute f k M = some (M (f + 9) (k - 1).toNat) ∧ isT T (M (f + 9) (k - 1).toNat) (k - 1).toNat ∧ M (f + 9) (k - 1).toNat < j ∧ 0 ≤ M (f + 9) (k - 1).toNat := by
  obtain ⟨-, -, -, -, -, -, -, h8, h9⟩ := h
  have q := h9 (k - 1).toNat (by omega)
  refine ⟨?_, q.1, q.2, ?_⟩
  · unfold fu_strokeMinute
    rw [if_neg (by omega), if_neg (by omega), if_neg (by omega), wr_i (by omega) (by omega), if_pos (by omega)]
  · obtain ⟨u, hu, -⟩ := q.1
    omega
theorem after_eq {f : Nat} {e : EN} {n d m0 k : Int} {s : DS} {j : Nat} {M : MEM} (hf : f = 224 ∨ f = 234) (hs : okD n s) (hks : s.2.2.1 ≤ 100000000) (hm0 : 0 ≤ m0) (hm1 : m0 ≤ 100000000) (hj : j ≤ 600) (hk : 1 ≤ k) (hk2 : k ≤ 600) (h : futAt f e n d m0 (trajD e n d m0 s) j M) :
    ∃ r M' j', fu_afterStroke f k M = some (r, M') ∧ offF f M M' ∧ futAt f e n d m0 (trajD e n d m0 s) j' M' ∧ j ≤ j' ∧ j' ≤ 600 ∧ ((k ≤ cnt (trajD e n d m0 s) 600 ∧ ∃ v, isT (trajD e n d m0 s) v (k - 1).toNat ∧ 0 ≤ v ∧ v < 600 ∧ r = v + 1) ∨ (cnt (trajD e n d m0 s) 600 < k ∧ r = -1)) := by
  have hcl : clE e := by rw [← h.1]; exact envC_cl f M
  have hst := traj_stk (d := d) (m0 := m0) hcl hs (by omega)
  obtain ⟨j', M', e1, h1, h2, h3, h4, h5, -⟩ := fut_run (most := k) hf hs hks hm0 hm1 (Int.le_refl 600) hj h
  have h10 : M' f 10 = cnt (trajD e n d m0 s) j' := h1.2.2.2.2.2.2.2.1
  have hj' : j' ≤ 600 := by omega
  unfold fu_afterStroke
  rw [e1, Option.bind_some, h10]
  by_cases q : cnt (trajD e n d m0 s) j' < k
  · rw [if_pos q]
    have : j' = 600 := by omega
    subst this
    exact ⟨-1, M', 600, rfl, h2, h1, h3, hj', Or.inr ⟨q, rfl⟩⟩
  · rw [if_neg q]
    obtain ⟨z1, z2, z3, z4⟩ := stroke_eq h1 hk (by omega) hk2
    have hmo := (cnt_mono hst hj' (by omega)).1
    refine ⟨M' (f + 9) (k - 1).toNat + 1, M', j', ?_, h2, h1, h3, hj', Or.inl ⟨by omega, _, z2, z4, by omega, rfl⟩⟩
    rw [z1, Option.bind_some, wr_i (by omega) (by omega)]
theorem c_when {B : Int} {M : MEM} (h : Rel B M) (hB : B ≤ 100000000) (x k : Int) : Lk B (dh_when x k M) (mo_when x k) := by
  have nw := now_in h
  unfold Lk dh_when
  by_cases hd : 0 ≤ x ∧ x < M 3 2
  · refine Tc_f (by rw [isDonkey_y h.S.2.2.1 hd.1 hd.2]; decide) ?_
    by_cases hk : 1 ≤ k ∧ k ≤ 60
    · refine Tc_f (by rw [asked_y hk]; decide) ?_
      obtain ⟨d, rfl⟩ : ∃ d : Nat, x = (d : Int) := ⟨x.toNat, by omega⟩
      obtain ⟨M1, e1, o1, f1⟩ := q_look0 h (Or.inl rfl) hd.2 hB
      obtain ⟨d1, d2, -, -⟩ := dnk h hB hd.2
      have hst := q_stk h hd.2 hB
      obtain ⟨r, M2, j', e2, o2, -, -, -, hr⟩ := after_eq (Or.inl rfl) d1 d2 nw.1 (by omega) (by omega) hk.1 (by omega) f1
      refine Tc_e e1 (Tc_e e2 ?_)
      have c2 : chg [0] M M2 := (o1.tr o2.L).chg (Or.inl rfl)
      have mo : Tc (mo_when d k M2) (fun q => q.1 = (if 0 ≤ r then r else -2) ∧ Rel B q.2) := by
        unfold mo_when
        have c3 : chg [0] M (up2 M2 278 13 0) := c2.up (by decide)
        refine Tc_u (Tc_f (by rw [moDonkey_y h.S (c3 278 1 (by decide)) hd]; decide) (Tc_f (by rw [moIn_y hk]; decide) ?_))
        obtain ⟨M4, g1, g2, g3, g4⟩ := q_times h hB (c3.sub (by decide)) hd.2
        refine Tc_e g1 ?_
        have c4 := c3.tr g2.chg
        rw [g3]
        rcases hr with ⟨h1, v, h2, h3, h4, rfl⟩ | ⟨h1, rfl⟩
        · obtain ⟨z1, z2⟩ := g4 (k - 1).toNat (by unfold qT; omega)
          have := isT_uniq hst h2 z1 (by omega) (by omega)
          refine Tc_t h1 ?_
          rw [wr_i (x := k - 1) (by omega) (by omega)]
          refine Tc_t (by omega) (Tc_some ⟨?_, h.go0 c4⟩)
          rw [if_pos (by omega), ← this, wr_i (by omega) (by omega)]
        · refine Tc_f (by unfold qT; omega) (Tc_some ⟨?_, h.go0 c4⟩)
          rw [if_neg (by omega)]
      refine Tc_i (fun q => Tc_some (Tc_m mo fun q' hq => ⟨?_, hq.2⟩)) (fun q => Tc_some (Tc_m mo fun q' hq => ⟨?_, hq.2⟩))
      · have q : 0 ≤ r := q
        rw [hq.1, if_pos q]
      · have q : ¬ 0 ≤ r := q
        rw [hq.1, if_neg q]
    · refine Tc_t (asked_n hk) (Tc_some ?_)
      unfold mo_when
      have c3 : chg [0] M (up2 M 278 13 0) := chg.rf.up (by decide)
      exact Tc_u (Tc_f (by rw [moDonkey_y h.S (c3 278 1 (by decide)) hd]; decide) (Tc_t (moIn_n hk) (Tc_some ⟨rfl, h.go0 c3⟩)))
  · refine Tc_t (isDonkey_n h.S.2.2.1 hd) (Tc_some ?_)
    unfold mo_when
    have c3 : chg [0] M (up2 M 278 13 0) := chg.rf.up (by decide)
    exact Tc_u (Tc_t (moDonkey_n h.S (c3 278 1 (by decide)) hd) (Tc_some ⟨rfl, h.go0 c3⟩))
/-- so many MINUTES of the reference, one behind another -/
theorem then_loop {N : Nat} {ns : Nat → Int} {e : EN} {m0 : Int} {ss : Nat → DS} {M : MEM} {n : Int} {body : Int × MEM → Option ((Int × MEM) ⊕ (Int × MEM))} (hb : ∀ k M, body (k, M) = if n ≤ k then some (.inr (k, M)) else (mo_goMinute 292 M).bind fun M1 => some (.inl (wr (k + 1), M1))) (hok : thOk N ns m0 ss) (h0 : 0 ≤ n) (h1 : n ≤ 600) (h : thenAt N ns e m0 ss 0 M) :
    ∃ M', iter body FU (0, M) = some (n, M') ∧ thenAt N ns e m0 ss n.toNat M' ∧ offQ M M' := by
  have hl : Tc (iter body FU (0, M)) (fun r => r.1 = n ∧ thenAt N ns e m0 ss n.toNat r.2 ∧ offQ M r.2) := by
    refine Tc_n (fun i s => s.1 = (i : Int) ∧ thenAt N ns e m0 ss i s.2 ∧ offQ M s.2) n.toNat ⟨rfl, h, offQ.rf⟩ (by omega) (fun i s hi hI => ?_) (fun s hI => ?_)
    · obtain ⟨x, M1⟩ := s
      obtain ⟨rfl, h2, h3⟩ := hI
      rw [hb]
      obtain ⟨M2, e1, g1, g2, -⟩ := then_step hok (by omega) h2
      exact Tc_f (by omega) (Tc_e e1 (Tc_inl ⟨(wr_i (by omega) (by omega)).trans (by omega), g1, h3.tr g2.Q⟩))
    · obtain ⟨x, M1⟩ := s
      obtain ⟨rfl, h2, h3⟩ := hI
      rw [hb]
      exact Tc_t (by omega) (Tc_inr ⟨show ((n.toNat : Nat) : Int) = n by omega, h2, h3⟩)
  obtain ⟨r, e1, h2, h3, h4⟩ := hl
  refine ⟨r.2, ?_, h3, h4⟩
  rw [e1, ← h2]
theorem w55 {d : Nat} (h : d < 3) : wr (55 * (d : Int)) = ((55 * d : Nat) : Int) := (wr_i (by omega) (by omega)).trans (by omega)
theorem w55k {o k : Nat} (h : o ≤ 1000) (hk : k ≤ 1000) : wr (((o : Nat) : Int) + (k : Int)) = ((o + k : Nat) : Int) := (wr_i (by omega) (by omega)).trans (by omega)
theorem offX.cell {M M' : MEM} (h : offX M M') {a : Nat} (h1 : a ≠ 278) (h2 : a ≠ 284) : M' a = M a := funext fun k => h a k (Or.inl h1) h2
theorem offC.cell {M M' : MEM} (h : offC M M') {a : Nat} (h1 : a ≠ 0) (h2 : a ≠ 245) : M' a = M a := funext fun k => h a k (Or.inl h1) h2
/-- the class's cells are left alone -/
def moF (M M' : MEM) : Prop := ∀ c, c < 278 → M' c = M c
theorem moF.rf {M : MEM} : moF M M := fun _ _ => rfl
theorem moF.tr {M M1 M2 : MEM} (h : moF M M1) (g : moF M1 M2) : moF M M2 := fun c x => (g c x).trans (h c x)
theorem moF.up {M : MEM} {a k : Nat} {x : Int} (h : 278 ≤ a) : moF M (up2 M a k x) := fun c hc => up2_ne (by omega)
theorem offQ.mo {M M' : MEM} (h : offQ M M') : moF M M' := fun c hc => h.1 c (by omega) (by omega) (by omega) (by omega)
theorem offX.mo {M M' : MEM} (h : offX M M') : moF M M' := fun c hc => h.cell (by omega) (by omega)
theorem rowC.fin {l : List Int} {M M' : MEM} (h : rowC l M) (f : moF M M') (g : rowM l M') (hl : l.length ≤ 4) : C_W M' :=
  W_of (h.off (by rw [f 0 (by decide)]) (f 245 (by decide))) g hl
theorem c_ahead {B : Int} {M : MEM} (h : Rel B M) (hB : B ≤ 100000000) (x k : Int) : Lk B (dh_ahead x k M) (mo_ahead x k) := by
  have nw := now_in h
  unfold Lk dh_ahead
  by_cases hd : 0 ≤ x ∧ x < M 3 2
  · refine Tc_f (by rw [isDonkey_y h.S.2.2.1 hd.1 hd.2]; decide) ?_
    have c3 : chg [0] M (up2 M 278 13 0) := chg.rf.up (by decide)
    by_cases hk : 0 ≤ k ∧ k ≤ 600
    · refine Tc_f (by omega) (Tc_t hk.2 ?_)
      obtain ⟨d, rfl⟩ : ∃ d : Nat, x = (d : Int) := ⟨x.toNat, by omega⟩
      have hd3 : d < 3 := by have := h.S.2.2.1; omega
      obtain ⟨M1, e1, o1, f1⟩ := q_look0 h (Or.inl rfl) hd.2 hB
      obtain ⟨d1, d2, d3, d4⟩ := dnk h hB hd.2
      have hst := q_stk h hd.2 hB
      obtain ⟨M2, e2, f2, o2⟩ := fut_run600 (till := k) (Or.inl rfl) d1 d2 nw.1 (by omega) hk.2 (by omega) f1
      rw [show max 0 k.toNat = k.toNat by omega] at f2
      have hcb := cnt_le hst (show k.toNat ≤ 1000000 by omega)
      refine Tc_e e1 (Tc_e e2 ?_)
      have c2 : chg [0] M M2 := (o1.tr o2.L).chg (Or.inl rfl)
      obtain ⟨M3, n1, n2, n3⟩ := newRow_eq M2
      refine Tc_e n1 ?_
      obtain ⟨M4, t1, t2, t3⟩ := tell_eq (M3 230 3) n2 (by decide)
      refine Tc_e t1 ?_
      obtain ⟨M5, u1, u2, u3⟩ := tell_eq (M4 230 4) t2 (by simp)
      refine Tc_e u1 (Tc_some ?_)
      have oC : offC M2 M5 := (n3.tr t3).tr u3
      have c5 : chg [0, 10] M M5 := (c2.sub (by decide)).tr oC.chg
      have r1 : M3 230 3 = (qT M d k.toNat).1 := by
        rw [n3.cell (by decide) (by decide)]
        exact f2.2.2.2.1.1.symm
      have r2 : M4 230 4 = (qT M d k.toNat).2.1 := by
        rw [t3.cell (by decide) (by decide), n3.cell (by decide) (by decide)]
        exact f2.2.2.2.1.2.1.symm
      rw [r1, r2] at u2
      have r3 : M5 224 10 = cnt (qT M d) k.toNat := by
        rw [oC.cell (by decide) (by decide)]
        exact f2.2.2.2.2.2.2.2.1
      dsimp only
      rw [r3]
      unfold mo_ahead
      have c6 : chg [0, 10] M (up2 M5 278 13 0) := c5.up (by decide)
      refine Tc_u (Tc_f (by rw [moDonkey_y h.S (c6 278 1 (by decide)) hd]; decide) (Tc_f (by rw [moIn_y hk]; decide) ?_))
      obtain ⟨M6, g1, g2, -, -, g5, g6⟩ := q_then h hB c6
      refine Tc_e g1 ?_
      obtain ⟨M7, i1, i2, i3⟩ := then_loop (body := fun s => mo_ahead_b32 d k s.1 s.2) (n := k) (fun _ _ => rfl) g5 hk.1 hk.2 g6
      refine Tc_e i1 (Tc_u ?_)
      dsimp only
      obtain ⟨x1, x2⟩ := moRow0 M7
      have i7 := i2.2.2.2.2.2.2 d (by omega)
      have w1 : wr (((55 * d : Nat) : Int) + 1) = ((55 * d + 1 : Nat) : Int) := (wr_i (by omega) (by omega)).trans (by omega)
      have w2 : wr (((55 * d : Nat) : Int) + 2) = ((55 * d + 2 : Nat) : Int) := (wr_i (by omega) (by omega)).trans (by omega)
      rw [w55 hd3, w1, w2]
      simp only [toNat_c]
      refine Tc_t (by omega) ?_
      obtain ⟨M8, y1, y2, y3⟩ := moTell_eq (up2 M7 278 12 0 292 (55 * d + 1)) x1 (by decide)
      refine Tc_e y1 (Tc_t (by omega) ?_)
      obtain ⟨M9, z1, z2, z3⟩ := moTell_eq (M8 292 (55 * d)) y2 (by simp)
      refine Tc_e z1 (Tc_t (by omega) ?_)
      have s1 : up2 M7 278 12 0 292 (55 * d + 1) = (qT M d k.toNat).1 := by
        rw [rd_a (by decide)]
        exact i7.1.symm
      have s2 : M8 292 (55 * d) = (qT M d k.toNat).2.1 := by
        rw [y3.cell (by decide) (by decide), rd_a (by decide)]
        exact i7.2.1.symm
      rw [s1, s2] at z2
      have oX : offX M7 M9 := (x2.tr y3).tr z3
      have c9 : chg [0, 10] M M9 := ((c6.tr (g2.chg.sub (by decide))).tr (i3.chg.sub (by decide))).tr oX.chg
      have s3 : M9 292 (55 * d + 2) = (qT M d k.toNat).2.2.1 := by
        rw [oX.cell (by decide) (by decide)]
        exact i7.2.2.1.symm
      have s4 : M9 279 (55 * d + 2) = (qT M d 0).2.2.1 := by
        rw [c9 279 _ (by rw [rg_279]; decide)]
        exact d3.2.2.1.symm
      have hst4 : mo_strokes d M9 = some (M9 279 (55 * d + 2)) := by
        unfold mo_strokes
        rw [w55 hd3, w2, if_pos (by omega), toNat_c]
      refine Tc_e hst4 (Tc_some ⟨?_, h.go10 c9 (u2.fin ((((moF.up (by decide)).tr g2.mo).tr i3.mo).tr oX.mo) z2 (by simp))⟩)
      dsimp only
      rw [s3, s4]
      exact wr_i (by unfold cnt at hcb; omega) (by unfold cnt at hcb; omega)
    · have mo : Tc (mo_ahead x k M) (fun q => q.1 = -1 ∧ Rel B q.2) := by
        unfold mo_ahead
        exact Tc_u (Tc_f (by rw [moDonkey_y h.S (c3 278 1 (by decide)) hd]; decide) (Tc_t (moIn_n hk) (Tc_some ⟨rfl, h.go0 c3⟩)))
      refine Tc_i (fun _ => Tc_some mo) (fun q => Tc_f (by omega) (Tc_some mo))
  · refine Tc_t (isDonkey_n h.S.2.2.1 hd) (Tc_some ?_)
    unfold mo_ahead
    have c3 : chg [0] M (up2 M 278 13 0) := chg.rf.up (by decide)
    exact Tc_u (Tc_t (moDonkey_n h.S (c3 278 1 (by decide)) hd) (Tc_some ⟨rfl, h.go0 c3⟩))
