-- ===== due, owes, reading, mildest =====
theorem person_y {k : Int} (h : 0 ≤ k ∧ k ≤ 5) : dh_isPerson k = 1 := by unfold dh_isPerson; rw [if_neg (by omega), if_neg (by omega)]
theorem person_n {k : Int} (h : ¬ (0 ≤ k ∧ k ≤ 5)) : dh_isPerson k = 0 := by
  unfold dh_isPerson
  by_cases q : k < 0
  · rw [if_pos q]
  · rw [if_neg q, if_pos (by omega)]
theorem law_y {k : Int} (h : 0 ≤ k ∧ k ≤ 3) : dh_isLaw k = 1 := by unfold dh_isLaw; rw [if_neg (by omega), if_neg (by omega)]
theorem law_n {k : Int} (h : ¬ (0 ≤ k ∧ k ≤ 3)) : dh_isLaw k = 0 := by
  unfold dh_isLaw
  by_cases q : k < 0
  · rw [if_pos q]
  · rw [if_neg q, if_pos (by omega)]
theorem has_y {M : MEM} {i : Int} (h3 : M 34 6 ≤ 10) (h : 0 ≤ i ∧ i < M 34 6) : co_has i M = 1 := by unfold co_has; rw [if_neg (by omega), if_neg (by omega), if_neg (by omega)]
theorem has_n {M : MEM} {i : Int} (h : ¬ (0 ≤ i ∧ i < M 34 6)) : co_has i M = 0 := by
  unfold co_has
  by_cases q : i < 0
  · rw [if_pos q]
  · rw [if_neg q, if_pos (by omega)]
/-- the clock of a CONTRACT in its future -/
theorem co_look {B : Int} {M M1 : MEM} {n : Int} {i : Nat} (h : Rel B M) (hB : B ≤ 100000000) (c : cE M M1) (hi : (i : Int) < M 34 6) (hn : 1 ≤ n ∧ n ≤ 600) : ∃ M2 M3, dh_look 224 (M1 38 i) M1 = some M2 ∧ fu_run 224 n 600 M2 = some M3 ∧ offL 224 M1 M3 ∧ fu_timesStruck 224 (M3 39 i) M3 = some (coO M n i) ∧ (0 < coO M n i → fu_firstStruck 224 (M3 39 i) M3 = some (fiN (coT M i) (M 39 i) n.toNat) ∧ fu_lastStruck 224 (M3 39 i) M3 = some (laN (coT M i) (M 39 i) n.toNat)) := by
  have nw := now_in h
  obtain ⟨o1, o2, o3, o4⟩ := h.O
  obtain ⟨z1, z2, z3, z4, z5, z6, z7, z8⟩ := o4 i hi
  obtain ⟨d, hd⟩ : ∃ d : Nat, M 38 i = (d : Int) := ⟨(M 38 i).toNat, by omega⟩
  have hdl : (d : Int) < M 3 2 := by omega
  obtain ⟨d1, d2, -, -⟩ := dnk h hB hdl
  have hst := q_stk h hdl hB
  have eT : coT M i = qT M d := by unfold coT; rw [hd, toNat_c]
  have e38 : M1 38 i = (d : Int) := (c.1 38 i (by decide : 6 ∉ [0, 10])).trans hd
  obtain ⟨M2, e2, o5, f2⟩ := q_lookE (e := envM M) h (Or.inl rfl) hdl hB (c.1.sub (by decide)) (c.2.1.trans (env_0 h (Or.inl rfl)).1) c.2.2
  obtain ⟨M3, e3, f3, o6⟩ := fut_run600 (till := n) (Or.inl rfl) d1 d2 nw.1 (by omega) hn.2 (by omega) f2
  rw [show max 0 n.toNat = n.toNat by omega] at f3
  have oL := o5.tr o6.L
  have e39 : M3 39 i = M 39 i := by rw [oL.1 39 (by decide) (by decide) (by decide) (by decide) (by decide) (by decide) (by decide)]; exact c.1 39 i (by decide : 6 ∉ [0, 10])
  have k0 : 0 ≤ (qT M d 0).2.2.1 ∧ (qT M d 0).2.2.1 ≤ 100000000 := ⟨d1.2.2.2.2.2.2.1, d2⟩
  refine ⟨M2, M3, by rw [e38]; exact e2, e3, oL, ?_, fun ho => ⟨?_, ?_⟩⟩
  · rw [e39]; unfold coO; rw [eT]
    exact timesStruck_eq (T := qT M d) f3 k0.1 k0.2 hst (by omega)
  · rw [e39, eT]
    unfold coO at ho; rw [eT] at ho
    exact firstStruck_eq (T := qT M d) f3 k0.1 k0.2 hst (by omega) ho
  · rw [e39, eT]
    unfold coO at ho; rw [eT] at ho
    exact lastStruck_eq (T := qT M d) f3 k0.1 k0.2 hst (by omega) ho
def tdN (law o : Int) : Int := if law = 2 then o else if law = 3 then (if o = 1 then 1 else 0) else min 1 o
theorem td_eq (law o : Int) : dh_timesDue law o = tdN law o := rfl
theorem coO_bd (M : MEM) {n : Int} (hn : n ≤ 600) (i : Nat) : 0 ≤ coO M n i ∧ coO M n i ≤ 600 := by
  have := ofN_bd (coT M i) (M 39 i) n.toNat
  unfold coO
  omega
theorem isDue_eq {M1 : MEM} {i : Nat} {law o : Int} (hi : i < 10) (h : M1 296 i = o) (h0 : 0 ≤ o) : mo_isDue i law M1 = some (if tdN law o = 0 then 0 else 1) := by
  unfold mo_isDue tdN
  rw [toNat_c, h]
  by_cases l3 : law = 3
  · have l2 : ¬ law = 2 := by omega
    rw [if_pos l3, if_pos (by omega), if_neg l2, if_pos l3]
    by_cases z : o = 1
    · rw [if_pos z, if_pos z]; rfl
    · rw [if_neg z, if_neg z]; rfl
  · rw [if_neg l3, if_pos (by omega)]
    by_cases l2 : law = 2
    · rw [if_pos l2]
      by_cases z : o ≤ 0
      · rw [if_pos z, if_pos (by omega)]
      · rw [if_neg z, if_neg (by omega)]
    · rw [if_neg l2, if_neg l3]
      by_cases z : o ≤ 0
      · rw [if_pos z, if_pos (by omega)]
      · rw [if_neg z, if_neg (by omega)]
theorem c_due {B : Int} {M : MEM} (h : Rel B M) (hB : B ≤ 100000000) (x law n : Int) : Lk B (dh_due x law n M) (mo_due x law n) := by
  have nw := now_in h
  have c3 : chg [0] M (up2 M 278 13 0) := chg.rf.up (by decide)
  obtain ⟨o1, o2, o3, o4⟩ := h.O
  unfold Lk dh_due
  have w1 : ∀ M1 : MEM, M1 278 41 = M 278 41 → mo_in x 0 (wr (M1 278 41 - 1)) = if 0 ≤ x ∧ x < M 34 6 then 1 else 0 := fun M1 e => by
    rw [e, o1, wr_i (by omega) (by omega), mo_in_eq]
    by_cases q : 0 ≤ x ∧ x < M 34 6
    · rw [if_pos q, if_pos (by omega)]
    · rw [if_neg q, if_neg (by omega)]
  by_cases hx : 0 ≤ x ∧ x < M 34 6
  · refine Tc_f (by rw [has_y o3 hx]; decide) ?_
    by_cases hl : 0 ≤ law ∧ law ≤ 3
    · refine Tc_f (by rw [law_y hl]; decide) ?_
      by_cases hn : 1 ≤ n ∧ n ≤ 600
      · refine Tc_f (by rw [far_y hn]; decide) (Tc_t (by omega) ?_)
        obtain ⟨i, rfl⟩ : ∃ i : Nat, x = (i : Int) := ⟨x.toNat, by omega⟩
        rw [toNat_c]
        obtain ⟨M2, M3, e2, e3, oL, e4, e5⟩ := co_look (i := i) h hB (cE.rf h) hx.2 hn
        have hob := coO_bd M hn.2 i
        refine Tc_e e2 (Tc_e e3 (Tc_t (by omega) (Tc_e e4 ?_)))
        rw [td_eq]
        have c4 : chg [0] M (up2 M3 278 13 0) := (oL.chg (Or.inl rfl)).up (by decide)
        have mo : Tc (mo_due i law n M3) (fun q => q.1 = (if tdN law (coO M n i) = 0 then -2 else if law = 1 then laN (coT M i) (M 39 i) n.toNat else fiN (coT M i) (M 39 i) n.toNat) ∧ Rel B q.2) := by
          unfold mo_due
          refine Tc_u (Tc_f (by rw [w1 _ (c4 278 41 (by decide)), if_pos hx]; decide) (Tc_f (by rw [moIn_y hl]; decide) (Tc_f (by rw [show mo_isMore n = 1 from moIn_y hn]; decide) ?_)))
          obtain ⟨M5, g1, g2, g3, g4⟩ := find_hours h hB (c4.sub (by decide)) hn
          obtain ⟨g5, g6⟩ := g4 i hx.2
          refine Tc_e g1 (Tc_e (isDue_eq (by omega) g5 hob.1) ?_)
          have hR := h.go0 (c4.tr g2)
          by_cases z : tdN law (coO M n i) = 0
          · rw [if_pos z, if_pos z]
            exact Tc_t rfl (Tc_some ⟨rfl, hR⟩)
          · rw [if_neg z, if_neg z]
            have ho : 0 < coO M n i := by
              unfold tdN at z
              by_cases y : coO M n i = 0
              · exfalso; apply z; rw [y]; split
                · rfl
                · split
                  · rfl
                  · rfl
              · omega
            obtain ⟨g7, g8⟩ := g6 ho
            refine Tc_f (by decide) ?_
            by_cases l1 : law = 1
            · refine Tc_t l1 ?_
              rw [if_pos l1]
              refine Tc_t (by omega) (Tc_some ⟨?_, hR⟩)
              dsimp only
              rw [toNat_c]; exact g8
            · refine Tc_f l1 ?_
              rw [if_neg l1]
              refine Tc_t (by omega) (Tc_some ⟨?_, hR⟩)
              dsimp only
              rw [toNat_c]; exact g7
        by_cases z : tdN law (coO M n i) = 0
        · rw [if_pos z] at mo
          exact Tc_t z (Tc_some mo)
        · rw [if_neg z] at mo
          have ho : 0 < coO M n i := by
            unfold tdN at z
            by_cases y : coO M n i = 0
            · exfalso; apply z; rw [y]; split
              · rfl
              · split
                · rfl
                · rfl
            · omega
          obtain ⟨e6, e7⟩ := e5 ho
          refine Tc_f z ?_
          by_cases l1 : law = 1
          · rw [if_pos l1] at mo
            exact Tc_t l1 (Tc_e e7 (Tc_some mo))
          · rw [if_neg l1] at mo
            exact Tc_f l1 (Tc_e e6 (Tc_some mo))
      · refine Tc_t (far_n hn) (Tc_some ?_)
        unfold mo_due
        exact Tc_u (Tc_f (by rw [w1 _ (c3 278 41 (by decide)), if_pos hx]; decide) (Tc_f (by rw [moIn_y hl]; decide) (Tc_t (moIn_n hn) (Tc_some ⟨rfl, h.go0 c3⟩))))
    · refine Tc_t (law_n hl) (Tc_some ?_)
      unfold mo_due
      exact Tc_u (Tc_f (by rw [w1 _ (c3 278 41 (by decide)), if_pos hx]; decide) (Tc_t (moIn_n hl) (Tc_some ⟨rfl, h.go0 c3⟩)))
  · refine Tc_t (has_n hx) (Tc_some ?_)
    unfold mo_due
    exact Tc_u (Tc_t (by rw [w1 _ (c3 278 41 (by decide)), if_neg hx]) (Tc_some ⟨rfl, h.go0 c3⟩))
theorem cE.up40 {M M1 : MEM} {k : Nat} {x : Int} (h : cE M M1) : cE M (up2 M1 40 k x) :=
  ⟨h.1.up (show rg 40 k ∈ [0, 10] from List.mem_cons_self), (envC_cells (f := 224) (M := M1) (M' := up2 M1 40 k x) (fun c hc => up2_ne (by omega)) (rd_a (by decide)) (rd_a (by decide))).trans h.2.1, eOk_cells (f := 224) (M := M1) (M' := up2 M1 40 k x) (fun c hc => up2_ne (by omega)) (rd_a (by decide)) h.2.2⟩
theorem count_due {B : Int} {M : MEM} {n : Int} (h : Rel B M) (hB : B ≤ 100000000) (hn : 1 ≤ n ∧ n ≤ 600) : ∃ M2, dh_countDue n M = some M2 ∧ chg [0] M M2 ∧ ∀ i : Nat, (i : Int) < M 34 6 → M2 40 i = coO M n i := by
  obtain ⟨o1, o2, o3, o4⟩ := h.O
  obtain ⟨sz, hsz⟩ : ∃ sz : Nat, M 34 6 = (sz : Int) := ⟨(M 34 6).toNat, by omega⟩
  have l1 : Tc (iter (fun s => dh_countDue_b2 n s.1 s.2) FU (0, M)) (fun r => chg [0] M r.2 ∧ ∀ i : Nat, i < sz → r.2 40 i = coO M n i) := by
    refine Tc_n (fun i s => s.1 = (i : Int) ∧ cE M s.2 ∧ chg [0] M s.2 ∧ ∀ i' : Nat, i' < i → s.2 40 i' = coO M n i') sz ⟨rfl, cE.rf h, chg.rf, fun i' hi' => by omega⟩ (by omega) (fun i s hi hI => ?_) (fun s hI => ?_)
    · obtain ⟨z, M1⟩ := s
      obtain ⟨rfl, q1, q2, q3⟩ := hI
      dsimp only at q1 q2 q3 ⊢
      have e346 : M1 34 6 = (sz : Int) := (q2 34 6 (by decide)).trans hsz
      obtain ⟨M2, M3, e2, e3, oL, e4, -⟩ := co_look (i := i) h hB q1 (by omega) hn
      unfold dh_countDue_b2
      rw [has_y (by omega) (by omega)]
      simp only [toNat_c]
      refine Tc_f (by decide) (Tc_f (by omega) (Tc_t (by omega) (Tc_e e2 (Tc_e e3 (Tc_t (by omega) (Tc_e e4 (Tc_t (by omega) (Tc_u (Tc_inl ⟨(wr_i (by omega) (by omega)).trans (by omega), (q1.L oL).up40, ?_, fun i' hi' => ?_⟩)))))))))
      · exact (q2.tr (oL.chg (Or.inl rfl))).up (show rg 40 i ∈ [0] from List.mem_singleton.mpr rfl)
      · dsimp only
        by_cases e : i' = i
        · subst e; exact rd_same
        · rw [rd_k e, oL.1 40 (by decide) (by decide) (by decide) (by decide) (by decide) (by decide) (by decide)]; exact q3 i' (by omega)
    · obtain ⟨z, M1⟩ := s
      obtain ⟨rfl, q1, q2, q3⟩ := hI
      dsimp only at q1 q2 q3
      have e346 : M1 34 6 = (sz : Int) := (q2 34 6 (by decide)).trans hsz
      unfold dh_countDue_b2
      exact Tc_t (has_n (show ¬ (0 ≤ ((sz : Nat) : Int) ∧ ((sz : Nat) : Int) < M1 34 6) by omega)) (Tc_inr ⟨q2, q3⟩)
  obtain ⟨r, e1, g1, g2⟩ := l1
  refine ⟨r.2, ?_, g1, fun i hi => g2 i (by omega)⟩
  unfold dh_countDue
  rw [e1]
  rfl
/-- FROGS of one side -/
noncomputable def frF (M : MEM) (n p law : Int) (side : Nat) (i : Nat) : Int := if M side i = p then M 37 i * tdN law (coO M n i) else 0
noncomputable def frN (M : MEM) (n p law : Int) (side : Nat) (k : Nat) : Int := sumN (frF M n p law side) k
theorem td_bd {law o : Int} (h0 : 0 ≤ o) (h1 : o ≤ 600) : 0 ≤ tdN law o ∧ tdN law o ≤ 600 := by
  unfold tdN
  split
  · omega
  · split
    · split <;> omega
    · omega
theorem mul_bd {a b : Int} (h1 : 1 ≤ a) (h2 : a ≤ 99) (h3 : 0 ≤ b) (h4 : b ≤ 600) : 0 ≤ a * b ∧ a * b ≤ 59400 := by
  refine ⟨Int.mul_nonneg (by omega) h3, ?_⟩
  have := Int.mul_le_mul h2 h4 h3 (by decide : (0 : Int) ≤ 99)
  omega
theorem frN_bd {B : Int} {M : MEM} {n p law : Int} {side : Nat} (h : Rel B M) (hn : n ≤ 600) : ∀ k : Nat, (k : Int) ≤ M 34 6 → 0 ≤ frN M n p law side k ∧ frN M n p law side k ≤ 59400 * k := by
  obtain ⟨o1, o2, o3, o4⟩ := h.O
  intro k
  induction k with
  | zero => intro _; exact ⟨Int.le_refl _, by show (0 : Int) ≤ 59400 * ((0 : Nat) : Int); omega⟩
  | succ k ih =>
    intro hk
    have ih := ih (by omega)
    obtain ⟨-, -, -, -, -, z6, -, -⟩ := o4 k (by omega)
    have hc := coO_bd M hn k
    have ht := td_bd (law := law) hc.1 hc.2
    have hm := mul_bd z6.1 z6.2 ht.1 ht.2
    have e : frN M n p law side (k + 1) = frN M n p law side k + frF M n p law side k := rfl
    rw [e]
    unfold frF
    split <;> omega
theorem sumOf_eq {B : Int} {M M1 : MEM} {n p law : Int} {side : Nat} (h : Rel B M) (hs : side = 35 ∨ side = 36) (hn : n ≤ 600) (c : chg [0, 10] M M1) (h40 : ∀ i : Nat, (i : Int) < M 34 6 → M1 40 i = coO M n i) : co_sumOf side p law M1 = some (frN M n p law side (M 34 6).toNat) := by
  obtain ⟨o1, o2, o3, o4⟩ := h.O
  obtain ⟨sz, hsz⟩ : ∃ sz : Nat, M 34 6 = (sz : Int) := ⟨(M 34 6).toNat, by omega⟩
  have e346 : M1 34 6 = (sz : Int) := (c 34 6 (by decide)).trans hsz
  have es : M1 side = M side := c.row (fun k => by rcases hs with rfl | rfl <;> exact (by decide : 6 ∉ [0, 10]))
  have e37 : M1 37 = M 37 := c.row (fun k => (by decide : 6 ∉ [0, 10]))
  have hlen : ((lenA side : Nat) : Int) = 10 := by rcases hs with rfl | rfl <;> rfl
  have hl : iter (fun s => co_sumOf_b6 side p law s.1 s.2 M1) FU (0, 0) = some (frN M n p law side sz, (sz : Int)) := by
    refine loop_traj (fun i => (frN M n p law side i, (i : Int))) sz (by omega) (fun i hi => ?_) ?_
    · dsimp only
      obtain ⟨-, -, -, -, -, z6, -, -⟩ := o4 i (by omega)
      have hc := coO_bd M hn i
      have ht := td_bd (law := law) hc.1 hc.2
      have hm := mul_bd z6.1 z6.2 ht.1 ht.2
      have hb := frN_bd (p := p) (law := law) (side := side) h hn i (by omega)
      have eS : frN M n p law side (i + 1) = frN M n p law side i + frF M n p law side i := rfl
      unfold co_sumOf_b6 co_sumOf_j61_6
      rw [hlen]
      simp only [toNat_c]
      rw [if_neg (by omega), if_neg (by omega), if_neg (by omega), if_pos (by omega), es, e37, h40 i (by omega), td_eq, wr_i (x := (i : Int) + 1) (by omega) (by omega), eS]
      unfold frF
      by_cases z : M side i = p
      · rw [if_pos z, if_pos (by omega), if_pos (by omega), if_pos z, wr_i (x := M 37 i * tdN law (coO M n i)) (by omega) (by omega), wr_i (by omega) (by omega)]
        rfl
      · rw [if_neg z, if_neg z, Int.add_zero]
        rfl
    · dsimp only
      unfold co_sumOf_b6
      rw [if_pos (by omega)]
  unfold co_sumOf
  rw [hl, Option.bind_some, hsz, toNat_c]
theorem frogsOf_eq {B : Int} {M M1 : MEM} {n p law : Int} {s : Nat} (h : Rel B M) (hs : s = 0 ∨ s = 1) (hn : n ≤ 600) (c : chg [0, 10] M M1) (h296 : ∀ i : Nat, (i : Int) < M 34 6 → M1 296 i = coO M n i) : mo_frogsOf p law s M1 = some (frN M n p law (35 + s) (M 34 6).toNat) := by
  obtain ⟨o1, o2, o3, o4⟩ := h.O
  obtain ⟨sz, hsz⟩ : ∃ sz : Nat, M 34 6 = (sz : Int) := ⟨(M 34 6).toNat, by omega⟩
  have e41 : M1 278 41 = (sz : Int) := (c 278 41 (by decide)).trans (o1.trans hsz)
  have e295 : M1 295 = M 295 := c.row (fun k => (by decide : 6 ∉ [0, 10]))
  have hl : iter (fun q => mo_frogsOf_b6 p law s q.1 q.2 M1) FU (0, 0) = some (frN M n p law (35 + s) sz, (sz : Int)) := by
    refine loop_traj (fun i => (frN M n p law (35 + s) i, (i : Int))) sz (by omega) (fun i hi => ?_) ?_
    · dsimp only
      obtain ⟨z1, z2, z3, -, -, z6, -, -⟩ := o4 i (by omega)
      have hc := coO_bd M hn i
      have ht := td_bd (law := law) hc.1 hc.2
      have hm := mul_bd z6.1 z6.2 ht.1 ht.2
      have hb := frN_bd (p := p) (law := law) (side := 35 + s) h hn i (by omega)
      have eS : frN M n p law (35 + s) (i + 1) = frN M n p law (35 + s) i + frF M n p law (35 + s) i := rfl
      have w5 : wr (5 * (i : Int)) = ((5 * i : Nat) : Int) := (wr_i (by omega) (by omega)).trans (by omega)
      have w5s : wr (((5 * i : Nat) : Int) + (s : Int)) = ((5 * i + s : Nat) : Int) := (wr_i (by omega) (by omega)).trans (by omega)
      have w52 : wr (((5 * i : Nat) : Int) + 2) = ((5 * i + 2 : Nat) : Int) := (wr_i (by omega) (by omega)).trans (by omega)
      have zs : M 295 (5 * i + s) = M (35 + s) i := by rcases hs with rfl | rfl; exact z1; exact z2
      unfold mo_frogsOf_b6 mo_frogsOf_j69_6 mo_frogsOf_j73_6
      rw [w5, w5s, w52]
      simp only [toNat_c]
      rw [if_neg (by omega), if_pos (by omega), e295, zs, z3, h296 i (by omega), wr_i (x := (i : Int) + 1) (by omega) (by omega), eS]
      unfold frF
      by_cases z : M (35 + s) i = p
      · rw [if_pos z, isDue_eq (by omega) (h296 i (by omega)) hc.1, Option.bind_some, if_pos z]
        by_cases y : tdN law (coO M n i) = 0
        · rw [if_pos y, if_pos rfl, y, Int.mul_zero, Int.add_zero]
          rfl
        · rw [if_neg y, if_neg (by decide), if_pos (by omega)]
          by_cases l2 : law = 2
          · have e1 : tdN law (coO M n i) = coO M n i := by unfold tdN; rw [if_pos l2]
            rw [e1] at hm
            rw [if_pos l2, if_pos (by omega), e1, wr_i (x := M 37 i * coO M n i) (by omega) (by omega), wr_i (by omega) (by omega)]
            rfl
          · have e1 : tdN law (coO M n i) = 1 := by
              unfold tdN at y ⊢
              rw [if_neg l2] at y ⊢
              split at y
              · split at y
                · rw [if_pos (by assumption), if_pos (by assumption)]
                · exact absurd rfl y
              · rw [if_neg (by assumption)]
                omega
            rw [e1] at hm
            rw [if_neg l2, e1, wr_i (x := M 37 i * 1) (by omega) (by omega), wr_i (by omega) (by omega)]
            rfl
      · rw [if_neg z, if_neg z, Int.add_zero]
        rfl
    · dsimp only
      unfold mo_frogsOf_b6
      rw [if_pos (by omega)]
  unfold mo_frogsOf
  rw [hl, Option.bind_some, hsz, toNat_c]
noncomputable def netN (M : MEM) (n p law : Int) : Int := frN M n p law 35 (M 34 6).toNat - frN M n p law 36 (M 34 6).toNat
theorem netN_bd {B : Int} {M : MEM} {n p law : Int} (h : Rel B M) (hn : n ≤ 600) : -594000 ≤ netN M n p law ∧ netN M n p law ≤ 594000 := by
  obtain ⟨o1, o2, o3, o4⟩ := h.O
  have h1 := frN_bd (p := p) (law := law) (side := 35) h hn (M 34 6).toNat (by omega)
  have h2 := frN_bd (p := p) (law := law) (side := 36) h hn (M 34 6).toNat (by omega)
  unfold netN
  omega
theorem less_eq {B : Int} {M M1 : MEM} {n p law : Int} (h : Rel B M) (hn : n ≤ 600) (c : chg [0, 10] M M1) (h40 : ∀ i : Nat, (i : Int) < M 34 6 → M1 40 i = coO M n i) : co_less p law M1 = some (netN M n p law) := by
  have hb := netN_bd (p := p) (law := law) h hn
  unfold co_less co_owedBy co_owedTo
  rw [sumOf_eq h (Or.inl rfl) hn c h40, Option.bind_some, Option.bind_some, sumOf_eq h (Or.inr rfl) hn c h40, Option.bind_some, Option.bind_some]
  unfold netN at hb ⊢
  rw [wr_i (by omega) (by omega)]
theorem netOf_eq {B : Int} {M M1 : MEM} {n p law : Int} (h : Rel B M) (hn : n ≤ 600) (c : chg [0, 10] M M1) (h296 : ∀ i : Nat, (i : Int) < M 34 6 → M1 296 i = coO M n i) : mo_netOf p law M1 = some (netN M n p law) := by
  have hb := netN_bd (p := p) (law := law) h hn
  have e0 : mo_frogsOf p law 0 M1 = some (frN M n p law 35 (M 34 6).toNat) := frogsOf_eq (s := 0) h (Or.inl rfl) hn c h296
  have e1 : mo_frogsOf p law 1 M1 = some (frN M n p law 36 (M 34 6).toNat) := frogsOf_eq (s := 1) h (Or.inr rfl) hn c h296
  unfold mo_netOf
  rw [e0, Option.bind_some, e1, Option.bind_some]
  unfold netN at hb ⊢
  rw [wr_i (by omega) (by omega)]
theorem c_owes {B : Int} {M : MEM} (h : Rel B M) (hB : B ≤ 100000000) (p law n : Int) : Lk B (dh_owes p law n M) (mo_owes p law n) := by
  have c3 : chg [0] M (up2 M 278 13 0) := chg.rf.up (by decide)
  unfold Lk dh_owes
  by_cases hp : 0 ≤ p ∧ p ≤ 5
  · refine Tc_f (by rw [person_y hp]; decide) ?_
    by_cases hl : 0 ≤ law ∧ law ≤ 3
    · refine Tc_f (by rw [law_y hl]; decide) ?_
      by_cases hn : 1 ≤ n ∧ n ≤ 600
      · refine Tc_f (by rw [far_y hn]; decide) ?_
        obtain ⟨M1, e1, c1, k1⟩ := count_due h hB hn
        obtain ⟨M2, n1, n2, n3⟩ := newRow_eq M1
        have c2 : chg [0, 10] M M2 := (c1.sub (by decide)).tr n3.chg
        have k2 : ∀ i : Nat, (i : Int) < M 34 6 → M2 40 i = coO M n i := fun i hi => by rw [n3.cell (by decide) (by decide)]; exact k1 i hi
        have s1 : co_owedTo p law M2 = some (frN M n p law 36 (M 34 6).toNat) := by unfold co_owedTo; rw [sumOf_eq h (Or.inr rfl) hn.2 c2 k2]; rfl
        obtain ⟨M3, t1, t2, t3⟩ := tell_eq (frN M n p law 36 (M 34 6).toNat) n2 (by simp)
        have c4 : chg [0, 10] M M3 := c2.tr t3.chg
        have k3 : ∀ i : Nat, (i : Int) < M 34 6 → M3 40 i = coO M n i := fun i hi => by rw [t3.cell (by decide) (by decide)]; exact k2 i hi
        have s2 : co_owedBy p law M3 = some (frN M n p law 35 (M 34 6).toNat) := by unfold co_owedBy; rw [sumOf_eq h (Or.inl rfl) hn.2 c4 k3]; rfl
        refine Tc_e e1 (Tc_e n1 (Tc_e s1 (Tc_e t1 (Tc_e s2 (Tc_some ?_)))))
        dsimp only
        unfold mo_owes
        have c5 : chg [0, 10] M (up2 M3 278 13 0) := c4.up (by decide)
        refine Tc_u (Tc_f (by rw [moIn_y hp]; decide) (Tc_f (by rw [moIn_y hl]; decide) (Tc_f (by rw [show mo_isMore n = 1 from moIn_y hn]; decide) ?_)))
        obtain ⟨M5, g1, g2, g3, g4⟩ := find_hours h hB c5 hn
        obtain ⟨x1, x2⟩ := moRow0 M5
        have c6 : chg [0, 10] M (up2 M5 278 12 0) := (c5.tr (g2.sub (by decide))).tr x2.chg
        have q1 : ∀ i : Nat, (i : Int) < M 34 6 → up2 M5 278 12 0 296 i = coO M n i := fun i hi => by rw [rd_a (by decide)]; exact (g4 i hi).1
        have f1 : mo_frogsOf p law 1 (up2 M5 278 12 0) = some (frN M n p law 36 (M 34 6).toNat) := frogsOf_eq (s := 1) h (Or.inr rfl) hn.2 c6 q1
        obtain ⟨M6, u1, u2, u3⟩ := moTell_eq (frN M n p law 36 (M 34 6).toNat) x1 (by simp)
        have c7 : chg [0, 10] M M6 := c6.tr u3.chg
        have q2 : ∀ i : Nat, (i : Int) < M 34 6 → M6 296 i = coO M n i := fun i hi => by rw [u3.cell (by decide) (by decide)]; exact q1 i hi
        have f2 : mo_frogsOf p law 0 M6 = some (frN M n p law 35 (M 34 6).toNat) := frogsOf_eq (s := 0) h (Or.inl rfl) hn.2 c7 q2
        refine Tc_e g1 (Tc_u (Tc_e f1 (Tc_e u1 (Tc_e f2 (Tc_some ⟨rfl, h.go10 c7 (t2.fin (((moF.up (by decide)).tr g3).tr (x2.tr u3).mo) u2 (by simp))⟩)))))
      · refine Tc_t (far_n hn) (Tc_some ?_)
        unfold mo_owes
        exact Tc_u (Tc_f (by rw [moIn_y hp]; decide) (Tc_f (by rw [moIn_y hl]; decide) (Tc_t (moIn_n hn) (Tc_some ⟨rfl, h.go0 c3⟩))))
    · refine Tc_t (law_n hl) (Tc_some ?_)
      unfold mo_owes
      exact Tc_u (Tc_f (by rw [moIn_y hp]; decide) (Tc_t (moIn_n hl) (Tc_some ⟨rfl, h.go0 c3⟩)))
  · refine Tc_t (person_n hp) (Tc_some ?_)
    unfold mo_owes
    exact Tc_u (Tc_t (moIn_n hp) (Tc_some ⟨rfl, h.go0 c3⟩))
/-- the first of the least -/
def rdN (N : Nat → Int) : Nat → Nat
  | 0 => 0
  | i + 1 => if N i < N (rdN N i) then i else rdN N i
theorem rdN_S (N : Nat → Int) (i : Nat) : rdN N (i + 1) = if N i < N (rdN N i) then i else rdN N i := rfl
theorem rdN_le (N : Nat → Int) : ∀ i, rdN N i ≤ i := by
  intro i
  induction i with
  | zero => exact Nat.le_refl _
  | succ i ih => rw [rdN_S]; split <;> omega
def rdR (N : Nat → Int) : Nat → List Int
  | 0 => []
  | i + 1 => rdR N i ++ [N i]
theorem rdR_len (N : Nat → Int) : ∀ i, (rdR N i).length = i := by
  intro i
  induction i with
  | zero => rfl
  | succ i ih => show (rdR N i ++ [N i]).length = _; rw [List.length_append, ih]; rfl
theorem c_reading {B : Int} {M : MEM} (h : Rel B M) (hB : B ≤ 100000000) (p n : Int) : Lk B (dh_reading p n M) (mo_reading p n) := by
  have c3 : chg [0] M (up2 M 278 13 0) := chg.rf.up (by decide)
  unfold Lk dh_reading
  by_cases hp : 0 ≤ p ∧ p ≤ 5
  · refine Tc_f (by rw [person_y hp]; decide) ?_
    by_cases hn : 1 ≤ n ∧ n ≤ 600
    · refine Tc_f (by rw [far_y hn]; decide) ?_
      obtain ⟨N, hNe⟩ : ∃ N : Nat → Int, N = fun law : Nat => netN M n p law := ⟨_, rfl⟩
      have hN : ∀ law : Nat, netN M n p law = N law := fun law => by rw [hNe]
      obtain ⟨M1, e1, c1, k1⟩ := count_due h hB hn
      obtain ⟨M2, n1, n2, n3⟩ := newRow_eq M1
      have c2 : chg [0, 10] M M2 := (c1.sub (by decide)).tr n3.chg
      have k2 : ∀ i : Nat, (i : Int) < M 34 6 → M2 40 i = coO M n i := fun i hi => by rw [n3.cell (by decide) (by decide)]; exact k1 i hi
      have s0 : co_less p 0 M2 = some (N 0) := by rw [← hN 0]; exact less_eq h hn.2 c2 k2
      refine Tc_e e1 (Tc_e n1 (Tc_e s0 ?_))
      have l1 : Tc (iter (fun s => dh_reading_b41 p s.1 s.2.1 s.2.2.1 s.2.2.2) FU (0, N 0, 0, M2)) (fun r => r.1 = (rdN N 4 : Nat) ∧ chg [0, 10] M r.2.2.2 ∧ rowC (rdR N 4) r.2.2.2) := by
        refine Tc_n (fun i s => s.1 = (rdN N i : Nat) ∧ s.2.1 = N (rdN N i) ∧ s.2.2.1 = (i : Int) ∧ chg [0, 10] M s.2.2.2 ∧ rowC (rdR N i) s.2.2.2 ∧ ∀ i : Nat, (i : Int) < M 34 6 → s.2.2.2 40 i = coO M n i) 4 ⟨rfl, rfl, rfl, c2, n2, k2⟩ (by omega) (fun i s hi hI => ?_) (fun s hI => ?_)
        · obtain ⟨y, y', z, M3⟩ := s
          obtain ⟨rfl, rfl, rfl, q1, q2, q3⟩ := hI
          dsimp only at q1 q2 q3 ⊢
          have wi : wr ((i : Int) + 1) = ((i + 1 : Nat) : Int) := (wr_i (by omega) (by omega)).trans (by omega)
          have s1 : co_less p i M3 = some (N i) := by rw [← hN i]; exact less_eq h hn.2 q1 q3
          obtain ⟨M4, t1, t2, t3⟩ := tell_eq (N i) q2 (by rw [rdR_len]; omega)
          have q3' : ∀ i : Nat, (i : Int) < M 34 6 → M4 40 i = coO M n i := fun i hi => by rw [t3.cell (by decide) (by decide)]; exact q3 i hi
          unfold dh_reading_b41 dh_reading_j79_41
          rw [wi, rdN_S]
          refine Tc_f (by omega) (Tc_e s1 (Tc_e t1 ?_))
          by_cases z : N i < N (rdN N i)
          · rw [if_pos z]
            exact Tc_f (by omega) (Tc_inl ⟨rfl, rfl, rfl, q1.tr t3.chg, t2, q3'⟩)
          · rw [if_neg z]
            exact Tc_t (by omega) (Tc_inl ⟨rfl, rfl, rfl, q1.tr t3.chg, t2, q3'⟩)
        · obtain ⟨y, y', z, M3⟩ := s
          obtain ⟨rfl, rfl, rfl, q1, q2, q3⟩ := hI
          unfold dh_reading_b41
          exact Tc_t (by show (4 : Int) ≤ ((4 : Nat) : Int); omega) (Tc_inr ⟨rfl, q1, q2⟩)
      refine Tc_c l1 (fun r hr => ?_)
      obtain ⟨y, y', z, M3⟩ := r
      obtain ⟨rfl, q1, q2⟩ := hr
      dsimp only at q1 q2 ⊢
      refine Tc_some ?_
      dsimp only
      unfold mo_reading
      have c5 : chg [0, 10] M (up2 M3 278 13 0) := q1.up (by decide)
      refine Tc_u (Tc_f (by rw [moIn_y hp]; decide) (Tc_f (by rw [show mo_isMore n = 1 from moIn_y hn]; decide) ?_))
      obtain ⟨M5, g1, g2, g3, g4⟩ := find_hours h hB c5 hn
      obtain ⟨x1, x2⟩ := moRow0 M5
      have c6 : chg [0, 10] M (up2 M5 278 12 0) := (c5.tr (g2.sub (by decide))).tr x2.chg
      have p1 : ∀ i : Nat, (i : Int) < M 34 6 → up2 M5 278 12 0 296 i = coO M n i := fun i hi => by rw [rd_a (by decide)]; exact (g4 i hi).1
      have m6 : moF M3 (up2 M5 278 12 0) := ((moF.up (by decide)).tr g3).tr x2.mo
      refine Tc_e g1 (Tc_u ?_)
      have l2 : Tc (iter (fun s => mo_reading_b38 p s.1 s.2.1 s.2.2) FU (0, 0, up2 M5 278 12 0)) (fun r => r.1 = (rdN N 4 : Nat) ∧ chg [0, 10] M r.2.2 ∧ rowM (rdR N 4) r.2.2 ∧ moF M3 r.2.2) := by
        refine Tc_n (fun i s => s.1 = (rdN N i : Nat) ∧ s.2.1 = (i : Int) ∧ chg [0, 10] M s.2.2 ∧ rowM (rdR N i) s.2.2 ∧ moF M3 s.2.2 ∧ ∀ i : Nat, (i : Int) < M 34 6 → s.2.2 296 i = coO M n i) 4 ⟨rfl, rfl, c6, x1, m6, p1⟩ (by omega) (fun i s hi hI => ?_) (fun s hI => ?_)
        · obtain ⟨y, z, M6⟩ := s
          obtain ⟨rfl, rfl, v1, v2, v3, v4⟩ := hI
          dsimp only at v1 v2 v3 v4 ⊢
          have wi : wr ((i : Int) + 1) = ((i + 1 : Nat) : Int) := (wr_i (by omega) (by omega)).trans (by omega)
          have s1 : mo_netOf p i M6 = some (N i) := by rw [← hN i]; exact netOf_eq h hn.2 v1 v4
          obtain ⟨M7, t1, t2, t3⟩ := moTell_eq (N i) v2 (by rw [rdR_len]; omega)
          have v4' : ∀ i : Nat, (i : Int) < M 34 6 → M7 296 i = coO M n i := fun i hi => by rw [t3.cell (by decide) (by decide)]; exact v4 i hi
          have v1' := v1.tr t3.chg
          have s2 : mo_netOf p i M7 = some (N i) := by rw [← hN i]; exact netOf_eq h hn.2 v1' v4'
          have s3 : mo_netOf p (rdN N i : Nat) M7 = some (N (rdN N i)) := by rw [← hN]; exact netOf_eq h hn.2 v1' v4'
          unfold mo_reading_b38 mo_reading_j74_38
          rw [wi, rdN_S]
          refine Tc_f (by omega) (Tc_e s1 (Tc_e t1 (Tc_e s2 (Tc_e s3 ?_))))
          by_cases z : N i < N (rdN N i)
          · rw [if_pos z]
            exact Tc_f (by omega) (Tc_inl ⟨rfl, rfl, v1', t2, v3.tr t3.mo, v4'⟩)
          · rw [if_neg z]
            exact Tc_t (by omega) (Tc_inl ⟨rfl, rfl, v1', t2, v3.tr t3.mo, v4'⟩)
        · obtain ⟨y, z, M6⟩ := s
          obtain ⟨rfl, rfl, v1, v2, v3, v4⟩ := hI
          unfold mo_reading_b38
          exact Tc_t (by show (4 : Int) ≤ ((4 : Nat) : Int); omega) (Tc_inr ⟨rfl, v1, v2, v3⟩)
      refine Tc_c l2 (fun r hr => ?_)
      obtain ⟨y, z, M6⟩ := r
      obtain ⟨rfl, v1, v2, v3⟩ := hr
      exact Tc_some ⟨rfl, h.go10 v1 (q2.fin v3 v2 (by rw [rdR_len]; omega))⟩
    · refine Tc_t (far_n hn) (Tc_some ?_)
      unfold mo_reading
      exact Tc_u (Tc_f (by rw [moIn_y hp]; decide) (Tc_t (moIn_n hn) (Tc_some ⟨rfl, h.go0 c3⟩)))
  · refine Tc_t (person_n hp) (Tc_some ?_)
    unfold mo_reading
    exact Tc_u (Tc_t (moIn_n hp) (Tc_some ⟨rfl, h.go0 c3⟩))
