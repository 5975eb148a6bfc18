-- ===== a DONKEY that is otherwise =====
noncomputable def qS (M : MEM) (d : Nat) (s : DS) : Nat → DS := trajD (envM M) (M 280 d) d (M 3 3) s
theorem qS_stk {M : MEM} {d : Nat} {s : DS} (h : okD (M 280 d) s) (hk : s.2.2.1 ≤ 100000000) : stk (qS M d s) 1000000 := traj_stk (fun g => codeV_in _ _ _) h (by omega)
theorem futAt.mod {f : Nat} {e : EN} {n d m0 : Int} {s s' : DS} {M M' : MEM} (hf : f = 224 ∨ f = 234) (h : futAt f e n d m0 (trajD e n d m0 s) 0 M) (hc : ∀ c, c ≠ f + 6 → c ≠ f + 7 → M' c = M c) (h2 : M' (f + 6) 2 = M (f + 6) 2) (hq : eqD n s' (dsC (f + 6) M')) : futAt f e n d m0 (trajD e n d m0 s') 0 M' := by
  obtain ⟨h1, ⟨g1, ⟨g2, g3, g4⟩, ⟨g5, g6, g7⟩, g8⟩, h3, h4, h5, h6, h7, h8, h9⟩ := h
  rw [cnt_0] at h8
  refine fut0 ?_ ⟨?_, ⟨?_, ?_, howOk_cg (fun q hq => hc _ (by omega) (by omega)) g4⟩, ⟨?_, ?_, howOk_cg (fun q hq => hc _ (by omega) (by omega)) g7⟩, ?_⟩ (h2.trans h3) hq ?_ ?_ ?_ ?_
  · rw [← h1]
    unfold envC flC
    rw [plC_cg (c := 5) (fun q hq => hc _ (by omega) (by omega)), plC_cg (c := f + 1) (fun q hq => hc _ (by omega) (by omega)), hc f (by omega) (by omega), hc 19 (by omega) (by omega), hc 20 (by omega) (by omega), hc 21 (by omega) (by omega), hc 22 (by omega) (by omega)]
  · rw [hc 19 (by omega) (by omega)]; exact g1
  · rw [hc 5 (by omega) (by omega)]; exact g2
  · rw [hc 5 (by omega) (by omega)]; exact g3
  · rw [hc (f + 1) (by omega) (by omega)]; exact g5
  · rw [hc (f + 1) (by omega) (by omega)]; exact g6
  · rw [hc 21 (by omega) (by omega), hc 22 (by omega) (by omega)]; exact g8
  · rw [hc f (by omega) (by omega)]; exact h5
  · rw [hc f (by omega) (by omega)]; exact h6
  · rw [hc f (by omega) (by omega)]; exact h7
  · rw [hc f (by omega) (by omega)]; exact h8
def updS (ss : Nat → DS) (d : Nat) (s : DS) : Nat → DS := fun d' => if d' = d then s else ss d'
theorem updS_same (ss : Nat → DS) (d : Nat) (s : DS) : updS ss d s d = s := if_pos rfl
theorem thenAt.mod {N : Nat} {ns : Nat → Int} {e : EN} {m0 : Int} {ss : Nat → DS} {M M' : MEM} {d : Nat} {s' : DS} (hN : N ≤ 3) (hn : ∀ d, d < N → ns d ≤ 12) (h : thenAt N ns e m0 ss 0 M) (hc : ∀ c, c ≠ 292 → M' c = M c) (h2 : ∀ k, (k < 55 * d ∨ 55 * d + 55 ≤ k) → M' 292 k = M 292 k) (hd : d < N) (hq : eqD (ns d) s' (dsM 292 (55 * d) M')) : thenAt N ns e m0 (updS ss d s') 0 M' := by
  obtain ⟨p1, p2, p3, p4, p5, p6, p7⟩ := h
  have o : offQ M M' := ⟨fun c _ _ x _ => hc c x, fun k _ _ => by rw [hc 278 (by decide)]⟩
  refine ⟨?_, fun d hd => ?_, ?_, o.em p4, o.rl p5, ?_, fun d' hd' => ?_⟩
  · rw [hc 278 (by decide)]; exact p1
  · rw [hc 280 (by decide)]; exact p2 d hd
  · rw [o.env]; exact p3
  · rw [h2 165 (by omega)]; exact p6
  · show eqD (ns d') (updS ss d s' d') (dsM 292 (55 * d') M')
    by_cases e : d' = d
    · subst e
      rw [updS_same]
      exact hq
    · unfold updS
      rw [if_neg e]
      have q := p7 d' hd'
      have q : eqD (ns d') (ss d') (dsM 292 (55 * d') M) := q
      have := hn d' hd'
      refine q.tr ⟨?_, ?_, ?_, fun p hp => ?_⟩
      · exact (h2 _ (by omega)).symm
      · exact (h2 _ (by omega)).symm
      · exact (h2 _ (by omega)).symm
      · exact (h2 _ (by omega)).symm
theorem thOk.mod {N : Nat} {ns : Nat → Int} {m0 : Int} {ss : Nat → DS} {d : Nat} {s : DS} (h : thOk N ns m0 ss) (h1 : okD (ns d) s) (h2 : s.2.2.1 ≤ 100000000) : thOk N ns m0 (updS ss d s) := by
  obtain ⟨a, b, c, g⟩ := h
  refine ⟨a, b, c, fun d' hd' => ?_⟩
  unfold updS
  by_cases e : d' = d
  · subst e
    rw [if_pos rfl]
    exact ⟨h1, h2⟩
  · rw [if_neg e]
    exact g d' hd'
-- ===== ferries =====
theorem fu_latest_eq {f : Nat} {e : EN} {n d m0 ferry w : Int} {s : DS} {M : MEM} (hf : f = 224 ∨ f = 234) (hs : okD n s) (hk : s.2.2.1 ≤ 100000000) (hm0 : 0 ≤ m0) (hm1 : m0 ≤ 100000000) (h1 : 1 ≤ ferry ∧ ferry ≤ 600) (h2 : 0 ≤ w) (h3 : w ≤ ferry) (h : futAt f e n d m0 (trajD e n d m0 s) 0 M) :
    ∃ M', fu_latestFor f ferry w M = some (cnt (trajD e n d m0 s) (ferry - w).toNat, M') ∧ futAt f e n d m0 (trajD e n d m0 s) (ferry - w).toNat M' ∧ offF f M M' := by
  obtain ⟨M', e1, g1, g2⟩ := fut_run600 (till := ferry - w) hf hs hk hm0 hm1 (by omega) (by omega) h
  rw [show max 0 (ferry - w).toNat = (ferry - w).toNat by omega] at g1
  refine ⟨M', ?_, g1, g2⟩
  unfold fu_latestFor
  rw [wr_i (by omega) (by omega), e1, Option.bind_some, g1.2.2.2.2.2.2.2.1]
theorem mo_latest_eq {T : Nat → DS} {ferry w : Int} {M : MEM} (hst : stk T 1000000) (h1 : 1 ≤ ferry ∧ ferry ≤ 600) (h2 : 0 ≤ w ∧ w ≤ 99) (g3 : M 278 38 = cnt T 600) (g4 : ∀ i : Nat, (i : Int) < cnt T 600 → isT T (M 293 i) i ∧ M 293 i < 600) :
    mo_latest ferry w M = some (if w ≤ ferry then cnt T (ferry - w).toNat else -1) := by
  have hC := cnt_le hst (show 600 ≤ 1000000 by omega)
  have hc := cnt_le hst (show (ferry - w).toNat ≤ 1000000 by omega)
  have hcC := (cnt_mono hst (show (ferry - w).toNat ≤ 600 by omega) (by omega)).1
  obtain ⟨C, eC⟩ : ∃ C : Nat, cnt T 600 = (C : Int) := ⟨(cnt T 600).toNat, by omega⟩
  have hl : Tc (iter (fun s => mo_latest_b5 ferry w s.1 s.2 M) FU (-1, 0)) (fun r => r.1 = (if w ≤ ferry then cnt T (ferry - w).toNat else -1)) := by
    refine Tc_n (fun i s => s.1 = (if w ≤ ferry then min ((i : Int) - 1) (cnt T (ferry - w).toNat) else -1) ∧ s.2 = (i : Int)) (C + 1) ⟨?_, rfl⟩ (by omega) (fun k s hk hI => ?_) (fun s hI => ?_)
    · dsimp only
      by_cases q : w ≤ ferry
      · rw [if_pos q]; omega
      · rw [if_neg q]
    · obtain ⟨y, z⟩ := s
      obtain ⟨rfl, rfl⟩ := hI
      unfold mo_latest_b5 mo_latest_j28_5 mo_there
      have wk : wr ((k : Int) + 1) = ((k + 1 : Nat) : Int) := (wr_i (by omega) (by omega)).trans (by omega)
      refine Tc_f (by omega) ?_
      rw [wk]
      by_cases k0 : k = 0
      · subst k0
        rw [if_pos (by omega), Option.bind_some]
        by_cases q : w ≤ ferry
        · refine Tc_f (by omega) (Tc_inl ⟨?_, rfl⟩)
          dsimp only
          rw [if_pos q]; omega
        · refine Tc_t (by omega) (Tc_inl ⟨?_, rfl⟩)
          dsimp only
          rw [if_neg q, if_neg q]
      · rw [if_neg (by omega), wr_i (x := (k : Int) - 1) (by omega) (by omega), if_pos (by omega), Option.bind_some]
        obtain ⟨k', rfl⟩ : ∃ k', k = k' + 1 := ⟨k - 1, by omega⟩
        rw [show (((k' + 1 : Nat) : Int) - 1).toNat = k' by omega]
        have ht := g4 k' (by omega)
        have ht0 := times_in g4 (i := k') (by omega)
        rw [wr_i (x := M 293 k' + w) (by omega) (by omega), wr_i (x := M 293 k' + w + 1) (by omega) (by omega)]
        by_cases q : w ≤ ferry
        · have hlt := isT_lt hst (j := (ferry - w).toNat) ht.1 (by omega) (by omega)
          refine Tc_i (fun z => Tc_inl ⟨?_, rfl⟩) (fun z => Tc_inl ⟨?_, rfl⟩)
          · dsimp only
            rw [if_pos q, if_pos q]; omega
          · dsimp only
            rw [if_pos q]; omega
        · refine Tc_t (by omega) (Tc_inl ⟨?_, rfl⟩)
          dsimp only
          rw [if_neg q, if_neg q]
    · obtain ⟨y, z⟩ := s
      obtain ⟨rfl, rfl⟩ := hI
      unfold mo_latest_b5
      refine Tc_t (by omega) (Tc_inr ?_)
      dsimp only
      by_cases q : w ≤ ferry
      · rw [if_pos q, if_pos q]; omega
      · rw [if_neg q, if_neg q]
  obtain ⟨r, hl, hr⟩ := hl
  unfold mo_latest
  rw [hl, Option.bind_some, hr]
theorem c_leave {B : Int} {M : MEM} (h : Rel B M) (hB : B ≤ 100000000) (x ferry w : Int) : Lk B (dh_leave x ferry w M) (mo_leave x ferry w) := by
  have nw := now_in h
  have c3 : chg [0] M (up2 M 278 13 0) := chg.rf.up (by decide)
  unfold Lk dh_leave
  by_cases hd : 0 ≤ x ∧ x < M 3 2
  · refine Tc_f (by rw [isDonkey_y h.S.2.2.1 hd.1 hd.2]; decide) ?_
    by_cases h1 : 1 ≤ ferry ∧ ferry ≤ 600
    · refine Tc_f (by rw [far_y h1]; decide) ?_
      by_cases h2 : 0 ≤ w ∧ w ≤ 99
      · refine Tc_f (by rw [road_y h2]; decide) ?_
        obtain ⟨d, rfl⟩ : ∃ d : Nat, x = (d : Int) := ⟨x.toNat, by omega⟩
        obtain ⟨d1, d2, -, -⟩ := dnk h hB hd.2
        have hst := q_stk h hd.2 hB
        have mo0 : ∀ M3 : MEM, chg [0, 10] M M3 → ∃ M4, chg [0, 10] M M4 ∧ chg [0] M3 M4 ∧ moF M3 M4 ∧ (∀ i : Nat, (i : Int) < cnt (qT M d) 600 → isT (qT M d) (M4 293 i) i ∧ M4 293 i < 600) ∧ mo_leave d ferry w M3 = (if (if w ≤ ferry then cnt (qT M d) (ferry - w).toNat else -1) = -1 then some (-2, M4) else (some (up2 M4 278 12 0)).bind fun M21 => (mo_there (if w ≤ ferry then cnt (qT M d) (ferry - w).toNat else -1) w M21).bind fun r23 => (mo_tell (wr (ferry - r23)) M21).bind fun M27 => some ((if w ≤ ferry then cnt (qT M d) (ferry - w).toNat else -1), M27)) := fun M3 c3 => by
          have c4 : chg [0, 10] M (up2 M3 278 13 0) := c3.up (by decide)
          obtain ⟨M4, g1, g2, g3, g4⟩ := q_times h hB c4 hd.2
          refine ⟨M4, c4.tr (g2.chg.sub (by decide)), (chg.rf.up (by decide) : chg [0] M3 (up2 M3 278 13 0)).tr g2.chg, (moF.up (by decide)).tr g2.mo, g4, ?_⟩
          unfold mo_leave
          rw [Option.bind_some, moDonkey_y h.S (c4 278 1 (by decide)) hd, if_neg (by decide), show mo_isMore ferry = 1 from moIn_y h1, if_neg (by decide), moIn_y h2, if_neg (by decide), g1, Option.bind_some, mo_latest_eq hst h1 h2 g3 g4, Option.bind_some]
        by_cases hw : w ≤ ferry
        · refine Tc_t hw ?_
          obtain ⟨M1, e1, o1, f1⟩ := q_look0 h (Or.inl rfl) hd.2 hB
          obtain ⟨M2, e2, f2, o2⟩ := fu_latest_eq (Or.inl rfl) d1 d2 nw.1 (by omega) h1 h2.1 hw f1
          refine Tc_e e1 (Tc_e e2 ?_)
          dsimp only
          have c2 : chg [0] M M2 := (o1.tr o2.L).chg (Or.inl rfl)
          have hcb := cnt_le hst (show (ferry - w).toNat ≤ 1000000 by omega)
          have hcC := (cnt_mono hst (show (ferry - w).toNat ≤ 600 by omega) (by omega)).1
          rw [show trajD (envM M) (M 280 d) (↑d) (M 3 3) (dsC (10 + 3 * d) M) = qT M d from rfl] at f2 ⊢
          obtain ⟨M3, n1, n2, n3⟩ := newRow_eq M2
          refine Tc_e n1 ?_
          have f3 := f2.cells (M' := M3) (fun c hc => n3.cell (by omega) (by omega)) (n3 21 3 (by decide) (by decide))
          have hth : ∃ v, fu_there 224 (cnt (qT M d) (ferry - w).toNat) w M3 = some (v + w + 1) ∧ ∀ M4 : MEM, (∀ i : Nat, (i : Int) < cnt (qT M d) 600 → isT (qT M d) (M4 293 i) i ∧ M4 293 i < 600) → mo_there (cnt (qT M d) (ferry - w).toNat) w M4 = some (v + w + 1) := by
            by_cases z : cnt (qT M d) (ferry - w).toNat = 0
            · refine ⟨-1, ?_, fun M4 q4 => ?_⟩
              · unfold fu_there fu_strokeMinute
                rw [if_pos (by omega), Option.bind_some, wr_i (x := -1 + w) (by omega) (by omega), wr_i (by omega) (by omega)]
              · unfold mo_there
                rw [if_pos z]
                congr 1; omega
            · obtain ⟨z1, z2, z3, z4⟩ := stroke_eq (k := cnt (qT M d) (ferry - w).toNat) f3 (by omega) (Int.le_refl _) (by omega)
              refine ⟨M3 (224 + 9) (cnt (qT M d) (ferry - w).toNat - 1).toNat, ?_, fun M4 q4 => ?_⟩
              · unfold fu_there
                rw [z1, Option.bind_some, wr_i (x := M3 (224 + 9) (cnt (qT M d) (ferry - w).toNat - 1).toNat + w) (by omega) (by omega), wr_i (by omega) (by omega)]
              · unfold mo_there
                have y := q4 (cnt (qT M d) (ferry - w).toNat - 1).toNat (by omega)
                have y0 := times_in q4 (i := (cnt (qT M d) (ferry - w).toNat - 1).toNat) (by omega)
                have := isT_uniq hst z2 y.1 (by omega) (by omega)
                rw [if_neg z, wr_i (x := cnt (qT M d) (ferry - w).toNat - 1) (by omega) (by omega), if_pos (by omega), wr_i (x := M4 293 (cnt (qT M d) (ferry - w).toNat - 1).toNat + w) (by omega) (by omega), wr_i (by omega) (by omega), this]
          obtain ⟨v, v1, v2⟩ := hth
          refine Tc_e v1 ?_
          obtain ⟨M5, t1, t2, t3⟩ := tell_eq (wr (ferry - (v + w + 1))) n2 (by simp)
          refine Tc_e t1 (Tc_some ?_)
          dsimp only
          obtain ⟨M4, q1, q2, q3, q4, q5⟩ := mo0 M5 ((c2.sub (by decide)).tr (n3.tr t3).chg)
          rw [q5, if_pos hw]
          refine Tc_f (by omega) (Tc_u ?_)
          obtain ⟨r1, r2⟩ := moRow0 M4
          have e293 : up2 M4 278 12 0 293 = M4 293 := r2.cell (by decide) (by decide)
          refine Tc_e (v2 _ (by rw [e293]; exact q4)) ?_
          obtain ⟨M6, s1, s2, s3⟩ := moTell_eq (wr (ferry - (v + w + 1))) r1 (by simp)
          exact Tc_e s1 (Tc_some ⟨rfl, h.go10 (q1.tr (r2.tr s3).chg) (t2.fin (q3.tr (r2.tr s3).mo) s2 (by simp))⟩)
        · refine Tc_f hw (Tc_some ?_)
          obtain ⟨M4, q1, q2, q3, q4, q5⟩ := mo0 M (chg.rf)
          dsimp only
          rw [q5, if_neg hw, if_pos rfl]
          exact Tc_some ⟨rfl, h.go0 q2⟩
      · refine Tc_t (road_n h2) (Tc_some ?_)
        unfold mo_leave
        exact Tc_u (Tc_f (by rw [moDonkey_y h.S (c3 278 1 (by decide)) hd]; decide) (Tc_f (by rw [show mo_isMore ferry = 1 from moIn_y h1]; decide) (Tc_t (moIn_n h2) (Tc_some ⟨rfl, h.go0 c3⟩))))
    · refine Tc_t (far_n h1) (Tc_some ?_)
      unfold mo_leave
      exact Tc_u (Tc_f (by rw [moDonkey_y h.S (c3 278 1 (by decide)) hd]; decide) (Tc_t (moIn_n h1) (Tc_some ⟨rfl, h.go0 c3⟩)))
  · refine Tc_t (isDonkey_n h.S.2.2.1 hd) (Tc_some ?_)
    unfold mo_leave
    exact Tc_u (Tc_t (moDonkey_n h.S (c3 278 1 (by decide)) hd) (Tc_some ⟨rfl, h.go0 c3⟩))
