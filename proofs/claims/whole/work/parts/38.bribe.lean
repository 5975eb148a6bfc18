-- ===== bribe, bid =====
def hrN (T : Nat → DS) : Int := if 2 ≤ cnt T 600 then tmN T 2 600 - tmN T 1 600 else 601
theorem qL_ok {B : Int} {M : MEM} (h : Rel B M) (hB : B ≤ 100000000) {d : Nat} (hd : (d : Int) < M 3 2) (l : List CA) : stk (qL M d l) 1000000 := by
  obtain ⟨d1, d2, -, -⟩ := dnk h hB hd
  exact traj_stk (fun g => codeV_in _ _ _) d1 (by omega)
theorem run2 {B : Int} {M M1 : MEM} {l : List CA} {d : Nat} (hR : Rel B M) (hB : B ≤ 100000000) (hd : (d : Int) < M 3 2) (h : offTh M M1) (hl : okL l) (ht : thC l M1) :
    ∃ M2 M3, dh_look 224 d M1 = some M2 ∧ fu_run 224 600 2 M2 = some M3 ∧ offTh M M3 ∧ thC l M3 ∧ chg [0] M1 M3 ∧ ∀ M4 : MEM, M4 224 = M3 224 → M4 233 = M3 233 → fu_hour 224 M4 = some (hrN (qL M d l)) := by
  have nw := now_in hR
  obtain ⟨d1, d2, -, -⟩ := dnk hR hB hd
  have hst := qL_ok hR hB hd l
  obtain ⟨eE, eO⟩ := envC_th hR h hl ht
  obtain ⟨M2, e2, o2, f2⟩ := q_lookE hR (Or.inl rfl) hd hB h.cc eE eO
  obtain ⟨j', M3, e3, f3, o3, -, hj, hq, -⟩ := fut_run (till := 600) (most := 2) (Or.inl rfl) d1 d2 nw.1 (by omega) (Int.le_refl _) (by omega) f2
  have oL := o2.tr o3.L
  refine ⟨M2, M3, e2, e3, h.tr (oL.chg (Or.inl rfl)), ⟨?_, fun i c hc => ?_⟩, oL.chg (Or.inl rfl), fun M4 m1 m2 => ?_⟩
  · rw [oL.1 225 (by decide) (by decide) (by decide) (by decide) (by decide) (by decide) (by decide)]; exact ht.1
  · rw [oL.1 226 (by decide) (by decide) (by decide) (by decide) (by decide) (by decide) (by decide), oL.1 227 (by decide) (by decide) (by decide) (by decide) (by decide) (by decide) (by decide), oL.1 228 (by decide) (by decide) (by decide) (by decide) (by decide) (by decide) (by decide), oL.1 229 (by decide) (by decide) (by decide) (by decide) (by decide) (by decide) (by decide)]
    exact ht.2 i c hc
  · have f3 : futAt 224 (envL M l) (M 280 d) d (M 3 3) (qL M d l) j' M3 := f3
    have hq : (600 : Int) ≤ j' ∨ 2 ≤ cnt (qL M d l) j' := hq
    have h10 : M3 224 10 = cnt (qL M d l) j' := f3.2.2.2.2.2.2.2.1
    have hj6 : j' ≤ 600 := by omega
    have hmo := (cnt_mono hst hj6 (by omega)).1
    have hb : ∀ k, fu_strokeMinute 224 k M4 = fu_strokeMinute 224 k M3 := fun k => by unfold fu_strokeMinute; rw [m1, show 224 + 9 = 233 from rfl, m2]
    unfold fu_hour fu_boiled hrN
    rw [m1, h10]
    by_cases z : 2 ≤ cnt (qL M d l) j'
    · obtain ⟨a1, a2, a3, a4⟩ := stroke_eq (k := 2) f3 (by decide) z (by decide)
      obtain ⟨b1, b2, b3, b4⟩ := stroke_eq (k := 1) f3 (by decide) (by omega) (by decide)
      have t2 := tmN_eq (k := 2) hst (by decide) (Or.inl ⟨by omega, _, a2, a4, by omega, rfl⟩)
      have t1 := tmN_eq (k := 1) hst (by decide) (Or.inl ⟨by omega, _, b2, b4, by omega, rfl⟩)
      rw [if_pos z, if_pos (by omega), wr_i (x := (1 : Int) + 1) (by omega) (by omega), hb, hb, show (1 : Int) + 1 = 2 from rfl, a1, Option.bind_some, b1, Option.bind_some, Option.bind_some, ← t2, ← t1, wr_i (by omega) (by omega)]
      congr 1
      omega
    · have : j' = 600 := by omega
      subst this
      rw [if_neg z, if_neg z]
theorem hour_eq {B : Int} {M M1 : MEM} {l : List CA} {d : Nat} (hR : Rel B M) (hB : B ≤ 100000000) (hd : (d : Int) < M 3 2) (h : offTh M M1) (hl : okL l) (ht : thC l M1) :
    ∃ M2, dh_nextHour d M1 = some (hrN (qL M d l), M2) ∧ offTh M M2 ∧ thC l M2 := by
  obtain ⟨M2, M3, e2, e3, g1, g2, -, g3⟩ := run2 hR hB hd h hl ht
  refine ⟨M3, ?_, g1, g2⟩
  unfold dh_nextHour
  rw [e2, Option.bind_some, e3, Option.bind_some, g3 M3 rfl rfl, Option.bind_some]
theorem times_E {B : Int} {M M0 M1 : MEM} {l : List CA} {d : Nat} (hR : Rel B M) (hB : B ≤ 100000000) (hd : (d : Int) < M 3 2) (c0 : chg [0, 10] M M0) (h : offThM M0 M1) (hl : okL l) (ht : thM l M1) :
    ∃ M2, mo_timesNow d M1 = some M2 ∧ offThM M0 M2 ∧ thM l M2 ∧ moF M1 M2 ∧ M2 301 = M1 301 ∧ M2 278 38 = cnt (qL M d l) 600 ∧ ∀ i : Nat, (i : Int) < cnt (qL M d l) 600 → isT (qL M d l) (M2 293 i) i ∧ M2 293 i < 600 := by
  obtain ⟨eE, eO⟩ := envM_th hR c0 h hl ht
  have cc : chg [0, 10, 11] M M1 := (c0.sub (by decide)).tr (h.cc.sub (by decide))
  obtain ⟨M2, e2, o2, -, -, tO, tA⟩ := q_thenE hR hB cc eE eO
  obtain ⟨M3, e3, o3, f3, g3⟩ := find_times (d := d) tO (by omega) tA
  have oQ := o2.tr o3
  refine ⟨M3, ?_, h.tr oQ.chg, ⟨?_, fun i c hc => ?_⟩, oQ.mo, oQ.1 301 (by decide) (by decide) (by decide) (by decide), f3, g3⟩
  · unfold mo_timesNow
    rw [e2, Option.bind_some, e3, Option.bind_some]
  · rw [oQ.2 8 (by omega) (by omega)]; exact ht.1
  · rw [oQ.1 282 (by decide) (by decide) (by decide) (by decide)]
    exact ht.2 i c hc
theorem moHour_eq {B : Int} {M M0 M1 : MEM} {l : List CA} {d : Nat} (hR : Rel B M) (hB : B ≤ 100000000) (hd : (d : Int) < M 3 2) (c0 : chg [0, 10] M M0) (h : offThM M0 M1) (hl : okL l) (ht : thM l M1) :
    ∃ M2, mo_hour d M1 = some (hrN (qL M d l), M2) ∧ offThM M0 M2 ∧ thM l M2 ∧ moF M1 M2 ∧ M2 301 = M1 301 := by
  obtain ⟨M2, e2, g1, g2, g3, g4, g5, g6⟩ := times_E hR hB hd c0 h hl ht
  have hst := qL_ok hR hB hd l
  refine ⟨M2, ?_, g1, g2, g3, g4⟩
  unfold mo_hour hrN
  rw [e2, Option.bind_some, g5]
  by_cases z : 2 ≤ cnt (qL M d l) 600
  · have t2 := tmN_times (k := 2) hst (by decide) g5 g6
    have t1 := tmN_times (k := 1) hst (by decide) g5 g6
    rcases t2 with ⟨-, t2, t2', t2''⟩ | ⟨t2, -⟩
    · rcases t1 with ⟨-, t1, t1', t1''⟩ | ⟨t1, -⟩
      · rw [if_pos z, if_pos z, t2, t1]
        rw [show ((2 : Int) - 1).toNat = 1 from rfl] at *
        rw [show ((1 : Int) - 1).toNat = 0 from rfl] at *
        clear t1 t2
        rw [wr_i (by omega) (by omega)]
        congr 2
        omega
      · omega
    · omega
  · rw [if_neg z, if_neg z]
theorem isWay_y {how : Int} (h : how = 1 ∨ how = -1) : dh_isWay how = 1 := by
  unfold dh_isWay
  rcases h with rfl | rfl
  · rw [if_pos rfl]
  · rw [if_neg (by decide), if_pos rfl]
theorem isWay_n {how : Int} (h : ¬ (how = 1 ∨ how = -1)) : dh_isWay how = 0 := by
  unfold dh_isWay
  rw [if_neg (by omega), if_neg (by omega)]
theorem better_eq (how h t : Int) : dh_isBetter how h t = if (if how < 0 then t < h else h < t) then 1 else 0 := by
  unfold dh_isBetter
  by_cases q : how < 0
  · rw [if_neg (by omega)]
    simp only [q, if_true]
    by_cases z : t < h
    · rw [if_neg (by omega), if_pos z]
    · rw [if_pos (by omega), if_neg z]
  · rw [if_pos (by omega)]
    simp only [q, if_false]
    by_cases z : h < t
    · rw [if_neg (by omega), if_pos z]
    · rw [if_pos (by omega), if_neg z]
def brN (H : Nat → Int) (how : Int) : Nat → Int × Int
  | 0 => (0, 0)
  | i + 1 => if i = 0 ∨ (if how < 0 then (brN H how i).2 < H i else H i < (brN H how i).2) then ((i : Int), H i) else brN H how i
theorem brN_S (H : Nat → Int) (how : Int) (i : Nat) : brN H how (i + 1) = if i = 0 ∨ (if how < 0 then (brN H how i).2 < H i else H i < (brN H how i).2) then ((i : Int), H i) else brN H how i := rfl
theorem okL_1 {M : MEM} {d : Nat} {fr n how : Int} (h : how = 1 ∨ how = -1) : okL ([] ++ [mkC M d fr n how]) := ⟨by simp, fun c hc => by
  have : c = mkC M d fr n how := by simpa using hc
  subst this; exact h⟩
theorem okL_0 : okL [] := ⟨by simp, fun c hc => by cases hc⟩
theorem th_0 {B : Int} {M : MEM} (h : Rel B M) : offTh M M ∧ thC [] M := ⟨fun _ _ _ _ _ => rfl, by rw [h.N.2.2.1]; rfl, fun i c hc => by cases hc⟩
theorem thM_0 {M : MEM} (h : M 278 8 = 0) : offThM M M ∧ thM [] M := ⟨fun _ _ _ _ => rfl, by rw [h]; rfl, fun i c hc => by cases hc⟩
theorem th_clr {M M1 : MEM} (h : offTh M M1) : offTh M (up2 M1 225 4 0) ∧ thC [] (up2 M1 225 4 0) := ⟨fun a k x y z => by
  rcases z with z' | z'
  · rw [rd_a z']; exact h a k x y (Or.inl z')
  · rw [rd_k z']; exact h a k x y (Or.inr z'), rd_same, fun i c hc => by cases hc⟩
theorem thM_clr {M M1 : MEM} (h : offThM M M1) : offThM M (up2 M1 278 8 0) ∧ thM [] (up2 M1 278 8 0) := ⟨fun a k x z => by
  rcases z with z' | z'
  · rw [rd_a z']; exact h a k x (Or.inl z')
  · rw [rd_k z']; exact h a k x (Or.inr z'), rd_same, fun i c hc => by cases hc⟩
theorem c_bribe {B : Int} {M : MEM} (h : Rel B M) (hB : B ≤ 100000000) (x n how : Int) : Lk B (dh_bribe x n how M) (mo_bribe x n how) := by
  have nw := now_in h
  have c3 : chg [0] M (up2 M 278 13 0) := chg.rf.up (by decide)
  unfold Lk dh_bribe
  by_cases hd : 0 ≤ x ∧ x < M 3 2
  · have hN := h.S.2.2.1
    refine Tc_f (by rw [isDonkey_y h.S.2.2.1 hd.1 hd.2]; decide) ?_
    by_cases hn : 1 ≤ n ∧ n ≤ 20
    · refine Tc_f (by omega) (Tc_f (by omega) ?_)
      by_cases hw : how = 1 ∨ how = -1
      · refine Tc_f (by rw [isWay_y hw]; decide) ?_
        obtain ⟨d, rfl⟩ : ∃ d : Nat, x = (d : Int) := ⟨x.toNat, by omega⟩
        obtain ⟨H, hH⟩ : ∃ H : Nat → Int, H = fun fr : Nat => hrN (qL M d ([] ++ [mkC M d fr n how])) := ⟨_, rfl⟩
        obtain ⟨M1, e1, g1, g2⟩ := hour_eq h hB hd.2 (th_0 h).1 okL_0 (th_0 h).2
        refine Tc_e e1 ?_
        dsimp only
        have l1 : Tc (iter (fun s => dh_bribe_b44 d n how (hrN (qL M d [])) s.1 s.2.1 s.2.2.1 s.2.2.2) FU (0, 0, 0, M1)) (fun r => r.1 = (brN H how 61).1 ∧ r.2.1 = (brN H how 61).2 ∧ offTh M r.2.2.2 ∧ thC [] r.2.2.2) := by
          refine Tc_n (fun i s => s.1 = (brN H how i).1 ∧ s.2.1 = (brN H how i).2 ∧ s.2.2.1 = (i : Int) ∧ offTh M s.2.2.2 ∧ thC [] s.2.2.2) 61 ⟨rfl, rfl, rfl, g1, g2⟩ (by omega) (fun i s hi hI => ?_) (fun s hI => ?_)
          · obtain ⟨y, y', z, M2⟩ := s
            obtain ⟨rfl, rfl, rfl, q1, q2⟩ := hI
            dsimp only at q1 q2 ⊢
            have wi : wr ((i : Int) + 1) = ((i + 1 : Nat) : Int) := (wr_i (by omega) (by omega)).trans (by omega)
            obtain ⟨M3, e3, k1, k2, -⟩ := think_eq (d := d) (fr := (i : Int)) (n := n) (how := how) h hB q1 (by simp) q2 (by omega) (by omega)
            obtain ⟨M4, e4, k3, k4⟩ := hour_eq h hB hd.2 k1 (okL_1 hw) k2
            obtain ⟨k5, k6⟩ := th_clr k3
            have eH : hrN (qL M d ([] ++ [mkC M d i n how])) = H i := by rw [hH]
            rw [eH] at e4
            unfold dh_bribe_b44 dh_bribe_j94_44 dh_bribe_j102_44
            rw [wi, brN_S]
            refine Tc_f (by omega) (Tc_e e3 (Tc_e e4 (Tc_u ?_)))
            dsimp only
            have hbt := better_eq how (H i) (brN H how i).2
            by_cases z : i = 0
            · rw [if_pos (Or.inl z)]
              exact Tc_t (by omega) (Tc_inl ⟨rfl, rfl, rfl, k5, k6⟩)
            · refine Tc_f (by omega) ?_
              by_cases y : (if how < 0 then (brN H how i).2 < H i else H i < (brN H how i).2)
              · rw [if_pos y] at hbt
                rw [if_pos (Or.inr y)]
                exact Tc_f (by rw [hbt]; decide) (Tc_inl ⟨rfl, rfl, rfl, k5, k6⟩)
              · rw [if_neg y] at hbt
                have hc : ¬ (i = 0 ∨ (if how < 0 then (brN H how i).2 < H i else H i < (brN H how i).2)) := fun q => q.elim z y
                rw [if_neg hc]
                exact Tc_t hbt (Tc_inl ⟨rfl, rfl, rfl, k5, k6⟩)
          · obtain ⟨y, y', z, M2⟩ := s
            obtain ⟨rfl, rfl, rfl, q1, q2⟩ := hI
            unfold dh_bribe_b44
            exact Tc_t (by show (60 : Int) < ((61 : Nat) : Int); omega) (Tc_inr ⟨rfl, rfl, q1, q2⟩)
        refine Tc_c l1 (fun r hr => ?_)
        obtain ⟨b1, b2, v, M2⟩ := r
        obtain ⟨rfl, rfl, q1, q2⟩ := hr
        dsimp only at q1 q2 ⊢
        have c2 := q1.fin h q2
        obtain ⟨M3, n1, n2, n3⟩ := newRow_eq M2
        obtain ⟨M4, t1, t2, t3⟩ := tell_eq (brN H how 61).2 n2 (by simp)
        obtain ⟨M5, u1, u2, u3⟩ := tell_eq (hrN (qL M d [])) t2 (by simp)
        refine Tc_e n1 (Tc_e t1 (Tc_e u1 (Tc_some ?_)))
        dsimp only
        have c5 : chg [0, 10] M M5 := c2.tr ((n3.tr t3).tr u3).chg
        have c6 : chg [0, 10] M (up2 M5 278 13 0) := c5.up (by decide)
        have hbr : mo_bribe d n how M5 = mo_bribe_j35 d n how (up2 M5 278 13 0) := by
          unfold mo_bribe
          rw [Option.bind_some, moDonkey_y h.S (c6 278 1 (by decide)) hd, if_neg (by decide), moIn_y hn, if_neg (by decide)]
          by_cases q : how = 1
          · rw [if_pos q]
          · rw [if_neg q, if_pos (by omega)]
        rw [hbr]
        generalize hM6 : up2 M5 278 13 0 = M6 at *
        have h8 : M6 278 8 = 0 := (c6 278 8 (by decide)).trans h.N.2.2.2.2.2.1
        unfold mo_bribe_j35
        obtain ⟨M7, e7, m1, m2, m3, -⟩ := moHour_eq h hB hd.2 c6 (thM_0 h8).1 okL_0 (thM_0 h8).2
        refine Tc_e e7 ?_
        dsimp only
        have l2 : Tc (iter (fun s => mo_bribe_b51 d n how (hrN (qL M d [])) s.1 s.2.1 s.2.2.1 s.2.2.2) FU (0, 0, 0, M7)) (fun r => r.1 = (brN H how 61).1 ∧ r.2.1 = (brN H how 61).2 ∧ offThM M6 r.2.2.2 ∧ thM [] r.2.2.2 ∧ moF M6 r.2.2.2) := by
          refine Tc_n (fun i s => s.1 = (brN H how i).1 ∧ s.2.1 = (brN H how i).2 ∧ s.2.2.1 = (i : Int) ∧ offThM M6 s.2.2.2 ∧ thM [] s.2.2.2 ∧ moF M6 s.2.2.2) 61 ⟨rfl, rfl, rfl, m1, m2, m3⟩ (by omega) (fun i s hi hI => ?_) (fun s hI => ?_)
          · obtain ⟨y, y', z, M8⟩ := s
            obtain ⟨rfl, rfl, rfl, q1, q2, q3⟩ := hI
            dsimp only at q1 q2 q3 ⊢
            have wi : wr ((i : Int) + 1) = ((i + 1 : Nat) : Int) := (wr_i (by omega) (by omega)).trans (by omega)
            obtain ⟨M9, e9, k1, k1', k2, -⟩ := moThink_eq (l := []) (d := d) (fr := (i : Int)) (n := n) (how := how) h hB c6 q1 (by simp) q2 (by omega) (by omega)
            obtain ⟨M10, e10, k3, k4, k4', -⟩ := moHour_eq h hB hd.2 c6 k1 (okL_1 hw) k2
            obtain ⟨k5, k6⟩ := thM_clr k3
            have k7 : moF M6 (up2 M10 278 8 0) := ((q3.tr k1').tr k4').tr (moF.up (by decide))
            have eH : hrN (qL M d ([] ++ [mkC M d i n how])) = H i := by rw [hH]
            rw [eH] at e10
            have e9 : mo_think 0 d i n how M8 = some M9 := e9
            unfold mo_bribe_b51 mo_bribe_j110_51 mo_bribe_j118_51
            rw [wi, brN_S]
            refine Tc_f (by omega) (Tc_e e9 (Tc_e e10 (Tc_u ?_)))
            dsimp only
            by_cases z : i = 0
            · rw [if_pos (Or.inl z)]
              exact Tc_t (by omega) (Tc_inl ⟨rfl, rfl, rfl, k5, k6, k7⟩)
            · refine Tc_f (by omega) ?_
              rcases hw with rfl | rfl
              · refine Tc_t rfl ?_
                by_cases y : H i < (brN H 1 i).2
                · rw [if_pos (Or.inr (by rw [if_neg (by decide)]; exact y))]
                  exact Tc_t y (Tc_inl ⟨rfl, rfl, rfl, k5, k6, k7⟩)
                · have hc : ¬ (i = 0 ∨ (if (1 : Int) < 0 then (brN H 1 i).2 < H i else H i < (brN H 1 i).2)) := fun q => q.elim z (fun q => y (by rwa [if_neg (by decide)] at q))
                  rw [if_neg hc]
                  exact Tc_f y (Tc_inl ⟨rfl, rfl, rfl, k5, k6, k7⟩)
              · refine Tc_f (by decide) ?_
                by_cases y : (brN H (-1) i).2 < H i
                · rw [if_pos (Or.inr (by rw [if_pos (by decide)]; exact y))]
                  exact Tc_t y (Tc_inl ⟨rfl, rfl, rfl, k5, k6, k7⟩)
                · have hc : ¬ (i = 0 ∨ (if (-1 : Int) < 0 then (brN H (-1) i).2 < H i else H i < (brN H (-1) i).2)) := fun q => q.elim z (fun q => y (by rwa [if_pos (by decide)] at q))
                  rw [if_neg hc]
                  exact Tc_f y (Tc_inl ⟨rfl, rfl, rfl, k5, k6, k7⟩)
          · obtain ⟨y, y', z, M8⟩ := s
            obtain ⟨rfl, rfl, rfl, q1, q2, q3⟩ := hI
            unfold mo_bribe_b51
            exact Tc_t (by show (60 : Int) < ((61 : Nat) : Int); omega) (Tc_inr ⟨rfl, rfl, q1, q2, q3⟩)
        refine Tc_c l2 (fun r hr => ?_)
        obtain ⟨b1, b2, v, M8⟩ := r
        obtain ⟨rfl, rfl, q3, q4, q5⟩ := hr
        dsimp only at q3 q4 q5 ⊢
        have c8 := c6.tr ((q3.fin h8 q4).sub (by decide))
        obtain ⟨r1, r2⟩ := moRow0 M8
        obtain ⟨M9, s1, s2, s3⟩ := moTell_eq (brN H how 61).2 r1 (by simp)
        obtain ⟨M10, v1, v2, v3⟩ := moTell_eq (hrN (qL M d [])) s2 (by simp)
        have m56 : moF M5 M6 := by rw [← hM6]; exact moF.up (by decide)
        refine Tc_u (Tc_e s1 (Tc_e v1 (Tc_some ⟨rfl, h.go10 (c8.tr ((r2.tr s3).tr v3).chg) (u2.fin ((m56.tr q5).tr ((r2.tr s3).tr v3).mo) v2 (by simp))⟩)))
      · refine Tc_t (isWay_n hw) (Tc_some ?_)
        unfold mo_bribe
        exact Tc_u (Tc_f (by rw [moDonkey_y h.S (c3 278 1 (by decide)) hd]; decide) (Tc_f (by rw [moIn_y hn]; decide) (Tc_f (by omega) (Tc_f (by omega) (Tc_some ⟨rfl, h.go0 c3⟩)))))
    · have mo : Tc (mo_bribe x n how M) (fun q => q.1 = -1 ∧ Rel B q.2) := by
        unfold mo_bribe
        exact Tc_u (Tc_f (by rw [moDonkey_y h.S (c3 278 1 (by decide)) hd]; decide) (Tc_t (moIn_n hn) (Tc_some ⟨rfl, h.go0 c3⟩)))
      exact Tc_i (fun _ => Tc_some mo) (fun q => Tc_t (by omega) (Tc_some mo))
  · refine Tc_t (isDonkey_n h.S.2.2.1 hd) (Tc_some ?_)
    unfold mo_bribe
    exact Tc_u (Tc_t (moDonkey_n h.S (c3 278 1 (by decide)) hd) (Tc_some ⟨rfl, h.go0 c3⟩))
