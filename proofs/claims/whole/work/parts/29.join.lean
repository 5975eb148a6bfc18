-- ===== shows, join =====
theorem c_shows {B : Int} {M : MEM} (h : Rel B M) (hB : B ≤ 100000000) (x y k : Int) : Lk B (dh_shows x y k M) (mo_shows x y k) := by
  have nw := now_in h
  have c3 : chg [0] M (up2 M 278 13 0) := chg.rf.up (by decide)
  unfold Lk dh_shows
  by_cases ht : two M x y
  · refine Tc_f (by rw [areTwo_y h.S ht]; decide) ?_
    by_cases hk : 1 ≤ k ∧ k ≤ 60
    · refine Tc_f (by rw [asked_y hk]; decide) ?_
      obtain ⟨a, rfl⟩ : ∃ a : Nat, x = (a : Int) := ⟨x.toNat, by have := ht.1; omega⟩
      obtain ⟨b, rfl⟩ : ∃ b : Nat, y = (b : Int) := ⟨y.toNat, by have := ht.2.1; omega⟩
      have hN := h.S.2.2.1
      have ha := ht.1
      have hb := ht.2.1
      obtain ⟨M1, e1, c1, f1, f2⟩ := q_both h hB ha.2 hb.2
      obtain ⟨a1, a2, -, -⟩ := dnk h hB ha.2
      obtain ⟨b1, b2, -, -⟩ := dnk h hB hb.2
      have sa := q_stk h ha.2 hB
      have sb := q_stk h hb.2 hB
      refine Tc_e e1 ?_
      obtain ⟨r, M2, j', e2, o2, g2, -, -, hr⟩ := after_eq (k := k) (Or.inr rfl) b1 b2 nw.1 (by omega) (by omega) (by omega) (by omega) f2
      refine Tc_e e2 ?_
      have c2 : chg [0] M M2 := c1.tr (o2.L.chg (Or.inr rfl))
      have f1' := f1.other (Or.inl ⟨rfl, rfl⟩) o2.L
      -- the reference
      have mo : ∀ M3 : MEM, chg [0] M M3 → Tc (mo_shows a b k M3) (fun q => ((r = -1 ∧ q.1 = -2) ∨ (0 ≤ r ∧ q.1 = (qT M a r.toNat).2.2.1 % 12)) ∧ Rel B q.2) := fun M3 c3 => by
        unfold mo_shows
        have c4 : chg [0] M (up2 M3 278 13 0) := c3.up (by decide)
        refine Tc_u (Tc_f (by rw [moTwo_y h.S (c4 278 1 (by decide)) ht]; decide) (Tc_f (by rw [moIn_y hk]; decide) ?_))
        obtain ⟨M6, z1, z2, -, -, z5, z6⟩ := q_then h hB (c4.sub (by decide))
        refine Tc_e z1 ?_
        have hl2 : Tc (iter (fun s => mo_shows_b36 a b k s.1 s.2.1 s.2.2) FU (0, 0, M6)) (fun e => ∃ M7, offQ M6 M7 ∧ ((0 ≤ r ∧ e = .inl ((qT M a r.toNat).2.2.1 % 12, M7)) ∨ (r = -1 ∧ ∃ w w', e = .inr (w, w', M7)))) := by
          refine Tc_l (fun i s => s.1 = cnt (qT M b) i ∧ s.2.1 = (i : Int) ∧ thenAt (M 3 2).toNat (fun d => M 280 d) (envM M) (M 3 3) (fun d => dsC (10 + 3 * d) M) i s.2.2 ∧ offQ M6 s.2.2 ∧ cnt (qT M b) i < k) _ (if r = -1 then 600 else (r - 1).toNat) ⟨(cnt_0 _).symm, rfl, z6, offQ.rf, by rw [cnt_0]; omega⟩ (by split <;> omega) (fun i s hi hI => ?_) (fun s hI => ?_)
          · obtain ⟨z, z', M7⟩ := s
            obtain ⟨rfl, rfl, q1, q2, q4⟩ := hI
            dsimp only at q1 q2 q4 ⊢
            have hi6 : i < 600 := by
              by_cases e : r = -1
              · rw [if_pos e] at hi; exact hi
              · rw [if_neg e] at hi
                rcases hr with ⟨-, v, -, -, h4, h5⟩ | ⟨-, h5⟩ <;> omega
            obtain ⟨M8, k1, k2, k3, k4, -⟩ := then_step z5 (by omega) q1
            have kb : M8 287 b = cnt (qT M b) (i + 1) - cnt (qT M b) i := k4 b (by omega)
            have hcb := cnt_le sb (show i + 1 ≤ 1000000 by omega)
            have wi : wr ((i : Int) + 1) = ((i + 1 : Nat) : Int) := (wr_i (by omega) (by omega)).trans (by omega)
            have wc : wr (cnt (qT M b) i + M8 287 b) = cnt (qT M b) (i + 1) := (wr_i (by omega) (by omega)).trans (by omega)
            unfold mo_shows_b36
            refine Tc_f (by omega) (Tc_e k1 (Tc_t (by omega) ?_))
            rw [toNat_c, wc, wi]
            have hlt : cnt (qT M b) (i + 1) < k := by
              by_cases e : r = -1
              · rcases hr with ⟨-, v, -, h3, -, h5⟩ | ⟨h5, -⟩
                · omega
                · have := (cnt_mono sb (show i + 1 ≤ 600 by omega) (by omega)).1
                  unfold qT at this ⊢
                  omega
              · rw [if_neg e] at hi
                rcases hr with ⟨-, v, ⟨u, hu, u1, u2⟩, h3, h4, h5⟩ | ⟨-, h5⟩
                · have := (cnt_mono sb (show i + 1 ≤ u by omega) (by omega)).1
                  unfold qT at this ⊢
                  omega
                · omega
            exact Tc_t hlt (Tc_inlL ⟨rfl, rfl, k2, q2.tr k3.Q, hlt⟩)
          · obtain ⟨z, z', M7⟩ := s
            obtain ⟨rfl, rfl, q1, q2, q4⟩ := hI
            dsimp only at q1 q2 q4 ⊢
            unfold mo_shows_b36
            by_cases e : r = -1
            · rw [if_pos e]
              exact Tc_t (by omega) (Tc_inr ⟨M7, q2, Or.inr ⟨e, _, _, rfl⟩⟩)
            · rw [if_neg e] at q1 q4 ⊢
              rcases hr with ⟨-, v, ⟨u, hu, u1, u2⟩, h3, h4, h5⟩ | ⟨-, h5⟩
              · have er : (r - 1).toNat = u := by omega
                rw [er] at q1 q4 ⊢
                have er2 : r.toNat = u + 1 := by omega
                rw [er2]
                obtain ⟨M8, k1, k2, k3, k4, -⟩ := then_step z5 (by omega) q1
                have kb : M8 287 b = cnt (qT M b) (u + 1) - cnt (qT M b) u := k4 b (by omega)
                have wc : wr (cnt (qT M b) u + M8 287 b) = cnt (qT M b) (u + 1) := by unfold qT at kb ⊢; exact (wr_i (by omega) (by omega)).trans (by omega)
                have qa : (qT M a (u + 1)).2.2.1 = M8 292 (55 * a + 2) := (k2.2.2.2.2.2.2 a (by omega)).2.2.1
                have w1 : wr (((55 * a : Nat) : Int) + 2) = ((55 * a + 2 : Nat) : Int) := (wr_i (by omega) (by omega)).trans (by omega)
                refine Tc_f (by omega) (Tc_e k1 (Tc_t (by omega) ?_))
                rw [toNat_c, wc, w55 (by omega), w1, toNat_c, ← qa, tmod_nn]
                · refine Tc_f (by unfold qT; omega) (Tc_t (by omega) (Tc_inr ⟨M8, q2.tr k3.Q, Or.inl ⟨by omega, rfl⟩⟩))
                · have := traj_ok (e := envM M) (d := (a : Int)) (m0 := M 3 3) (fun g => codeV_in _ _ _) a1 (by omega) (u + 1) (by omega)
                  exact this.1.2.2.2.2.2.2.1
              · omega
        refine Tc_c hl2 (fun e he => ?_)
        obtain ⟨M7, c7, he⟩ := he
        rcases he with ⟨h0, rfl⟩ | ⟨h0, w, w', rfl⟩
        · exact Tc_some ⟨Or.inr ⟨h0, rfl⟩, h.go0 ((c4.tr z2.chg).tr c7.chg)⟩
        · exact Tc_some ⟨Or.inl ⟨h0, rfl⟩, h.go0 ((c4.tr z2.chg).tr c7.chg)⟩
      refine Tc_i (fun q => ?_) (fun q => ?_)
      · have q : 0 ≤ r := q
        have hr6 : r ≤ 600 := by rcases hr with ⟨-, v, -, -, h4, h5⟩ | ⟨-, h5⟩ <;> omega
        obtain ⟨M3, e3, g3, o3⟩ := fut_run600 (till := r) (Or.inl rfl) a1 a2 nw.1 (by omega) hr6 (by omega) f1'
        rw [show max 0 r.toNat = r.toNat by omega] at g3
        refine Tc_e e3 (Tc_some ?_)
        have k1 : M3 230 5 = (qT M a r.toNat).2.2.1 := g3.2.2.2.1.2.2.1.symm
        have hk0 : 0 ≤ M3 230 5 := by
          have := traj_ok (e := envM M) (d := (a : Int)) (m0 := M 3 3) (fun g => codeV_in _ _ _) a1 (by omega) r.toNat (by omega)
          rw [k1]
          exact this.1.2.2.2.2.2.2.1
        refine Tc_m (mo M3 (c2.tr (o3.L.chg (Or.inl rfl)))) (fun q' hq => ⟨?_, hq.2⟩)
        show q'.1 = Int.tmod (M3 230 5) 12
        rw [tmod_nn hk0, k1]
        rcases hq.1 with z | z
        · omega
        · exact z.2
      · have q : ¬ 0 ≤ r := q
        refine Tc_some (Tc_m (mo M2 c2) fun q' hq => ⟨?_, hq.2⟩)
        rcases hq.1 with z | z
        · exact z.2
        · omega
    · refine Tc_t (asked_n hk) (Tc_some ?_)
      unfold mo_shows
      exact Tc_u (Tc_f (by rw [moTwo_y h.S (c3 278 1 (by decide)) ht]; decide) (Tc_t (moIn_n hk) (Tc_some ⟨rfl, h.go0 c3⟩)))
  · refine Tc_t (areTwo_n h.S ht) (Tc_some ?_)
    unfold mo_shows
    exact Tc_u (Tc_t (moTwo_n h.S (c3 278 1 (by decide)) ht) (Tc_some ⟨rfl, h.go0 c3⟩))
/-- how often, in j MINUTES, the clocks are s apart -/
def tlN (T S : Nat → DS) (s : Nat) : Nat → Int
  | 0 => 0
  | j + 1 => tlN T S s j + (if ((T (j + 1)).2.2.1 - (S (j + 1)).2.2.1) % 12 = (s : Int) then 1 else 0)
theorem tlN_S (T S : Nat → DS) (s j : Nat) : tlN T S s (j + 1) = tlN T S s j + (if ((T (j + 1)).2.2.1 - (S (j + 1)).2.2.1) % 12 = (s : Int) then 1 else 0) := rfl
theorem tlN_bd (T S : Nat → DS) (s : Nat) : ∀ j, 0 ≤ tlN T S s j ∧ tlN T S s j ≤ j := by
  intro j
  induction j with
  | zero => exact ⟨Int.le_refl _, Int.le_refl _⟩
  | succ j ih => rw [tlN_S]; split <;> omega
/-- the first of the most -/
def bestN (f : Nat → Int) : Nat → Nat
  | 0 => 0
  | i + 1 => if f (i + 1) ≤ f (bestN f i) then bestN f i else i + 1
theorem bestN_S (f : Nat → Int) (i : Nat) : bestN f (i + 1) = if f (i + 1) ≤ f (bestN f i) then bestN f i else i + 1 := rfl
theorem bestN_le (f : Nat → Int) : ∀ i, bestN f i ≤ i := by
  intro i
  induction i with
  | zero => exact Nat.le_refl _
  | succ i ih => unfold bestN; split <;> omega
theorem c_join {B : Int} {M : MEM} (h : Rel B M) (hB : B ≤ 100000000) (x y n : Int) : Lk B (dh_join x y n M) (mo_join x y n) := by
  have nw := now_in h
  have c3 : chg [0] M (up2 M 278 13 0) := chg.rf.up (by decide)
  unfold Lk dh_join
  by_cases ht : two M x y
  · refine Tc_f (by rw [areTwo_y h.S ht]; decide) ?_
    by_cases hn : 1 ≤ n ∧ n ≤ 600
    · refine Tc_f (by rw [far_y hn]; decide) ?_
      obtain ⟨a, rfl⟩ : ∃ a : Nat, x = (a : Int) := ⟨x.toNat, by have := ht.1; omega⟩
      obtain ⟨b, rfl⟩ : ∃ b : Nat, y = (b : Int) := ⟨y.toNat, by have := ht.2.1; omega⟩
      have hN := h.S.2.2.1
      have ha := ht.1
      have hb := ht.2.1
      obtain ⟨M1, e1, c1, f1, f2⟩ := q_both h hB ha.2 hb.2
      obtain ⟨a1, a2, -, -⟩ := dnk h hB ha.2
      obtain ⟨b1, b2, -, -⟩ := dnk h hB hb.2
      have ta : ∀ j : Nat, j ≤ 600 → 0 ≤ (qT M a j).2.2.1 ∧ (qT M a j).2.2.1 ≤ 1000000000 := fun j hj => by
        have := traj_ok (e := envM M) (d := (a : Int)) (m0 := M 3 3) (fun g => codeV_in _ _ _) a1 (by omega) j (by omega)
        exact ⟨this.1.2.2.2.2.2.2.1, by have := this.2.2; unfold qT; omega⟩
      have tb : ∀ j : Nat, j ≤ 600 → 0 ≤ (qT M b j).2.2.1 ∧ (qT M b j).2.2.1 ≤ 1000000000 := fun j hj => by
        have := traj_ok (e := envM M) (d := (b : Int)) (m0 := M 3 3) (fun g => codeV_in _ _ _) b1 (by omega) j (by omega)
        exact ⟨this.1.2.2.2.2.2.2.1, by have := this.2.2; unfold qT; omega⟩
      refine Tc_e e1 ?_
      have l1 : Tc (iter (fun s => dh_join_b27 n s.1 s.2) FU (0, M1)) (fun r => (∀ c, c ≠ 244 → r.2 c = M1 c) ∧ ∀ s : Nat, s < 12 → r.2 244 s = 0) := by
        refine Tc_n (fun i s => s.1 = (i : Int) ∧ (∀ c, c ≠ 244 → s.2 c = M1 c) ∧ ∀ k : Nat, k < i → s.2 244 k = 0) 12 ⟨rfl, fun _ _ => rfl, fun k hk => by omega⟩ (by omega) (fun i s hi hI => ?_) (fun s hI => ?_)
        · obtain ⟨z, M2⟩ := s
          obtain ⟨rfl, q1, q2⟩ := hI
          dsimp only at q1 q2 ⊢
          unfold dh_join_b27
          refine Tc_f (by omega) (Tc_t (by omega) (Tc_u (Tc_inl ⟨(wr_i (by omega) (by omega)).trans (by omega), fun c hc => ?_, fun k hk => ?_⟩)))
          · dsimp only; rw [up2_ne hc]; exact q1 c hc
          · dsimp only
            rw [toNat_c]
            by_cases e : k = i
            · subst e; exact rd_same
            · rw [rd_k e]; exact q2 k (by omega)
        · obtain ⟨z, M2⟩ := s
          obtain ⟨rfl, q1, q2⟩ := hI
          unfold dh_join_b27
          exact Tc_t (by show (12 : Int) ≤ ((12 : Nat) : Int); omega) (Tc_inr ⟨q1, q2⟩)
      obtain ⟨w2, e2, y1, y2⟩ := l1
      obtain ⟨w, M2⟩ := w2
      dsimp only at y1 y2
      refine Tc_e e2 ?_
      have f1' := f1.cells (M' := M2) (fun c hc => y1 c (by omega)) (by rw [y1 21 (by decide)])
      have f2' := f2.cells (M' := M2) (fun c hc => y1 c (by omega)) (by rw [y1 21 (by decide)])
      have c2 : chg [0] M1 M2 := fun c k hn => by
        by_cases e : c = 244
        · subst e; exact absurd (show rg 244 k ∈ [0] from List.mem_singleton.mpr rfl) hn
        · rw [y1 c e]
      have l2 : Tc (iter (fun s => dh_join_b51 n s.1 s.2) FU (0, M2)) (fun r => chg [0] M2 r.2 ∧ ∀ s : Nat, s < 12 → r.2 244 s = tlN (qT M a) (qT M b) s n.toNat) := by
        refine Tc_n (fun i s => s.1 = (i : Int) ∧ futAt 224 (envM M) (M 280 a) a (M 3 3) (qT M a) i s.2 ∧ futAt 234 (envM M) (M 280 b) b (M 3 3) (qT M b) i s.2 ∧ chg [0] M2 s.2 ∧ ∀ q : Nat, q < 12 → s.2 244 q = tlN (qT M a) (qT M b) q i) n.toNat ⟨rfl, f1', f2', chg.rf, y2⟩ (by omega) (fun i s hi hI => ?_) (fun s hI => ?_)
        · obtain ⟨z, M3⟩ := s
          obtain ⟨rfl, q1, q2, q3, q4⟩ := hI
          dsimp only at q1 q2 q3 q4 ⊢
          obtain ⟨d1, M4, s1, s2, s3, -⟩ := fut_step (Or.inl rfl) a1 a2 nw.1 (by omega) (by omega) q1
          obtain ⟨d2, M5, t1, t2, t3, -⟩ := fut_step (Or.inr rfl) b1 b2 nw.1 (by omega) (by omega) (q2.other (Or.inr ⟨rfl, rfl⟩) s3.L)
          have s2' := s2.other (Or.inl ⟨rfl, rfl⟩) t3.L
          have wi : wr ((i : Int) + 1) = ((i + 1 : Nat) : Int) := (wr_i (by omega) (by omega)).trans (by omega)
          have k1 : M5 230 5 = (qT M a (i + 1)).2.2.1 := s2'.2.2.2.1.2.2.1.symm
          have k2 : M5 240 5 = (qT M b (i + 1)).2.2.1 := t2.2.2.2.1.2.2.1.symm
          have xa := ta (i + 1) (by omega)
          have xb := tb (i + 1) (by omega)
          have e244 : M5 244 = M3 244 := (t3.1 244 (by decide) (by decide) (by decide) (by decide) (by decide) (by decide) (by decide)).trans (s3.1 244 (by decide) (by decide) (by decide) (by decide) (by decide) (by decide) (by decide))
          unfold dh_join_b51
          refine Tc_f (by omega) (Tc_e s1 (Tc_e t1 ?_))
          dsimp only
          rw [k1, k2, wr_i (x := (qT M a (i + 1)).2.2.1 - (qT M b (i + 1)).2.2.1) (by omega) (by omega)]
          refine Tc_e (floorMod_eq (by unfold InR; omega) (by decide) (by decide)) ?_
          have hS : ∀ q, tlN (qT M a) (qT M b) q (i + 1) = tlN (qT M a) (qT M b) q i + (if ((qT M a (i + 1)).2.2.1 - (qT M b (i + 1)).2.2.1) % 12 = (q : Int) then 1 else 0) := fun q => rfl
          obtain ⟨u, hu⟩ : ∃ u : Nat, ((qT M a (i + 1)).2.2.1 - (qT M b (i + 1)).2.2.1) % 12 = (u : Int) := ⟨(((qT M a (i + 1)).2.2.1 - (qT M b (i + 1)).2.2.1) % 12).toNat, by omega⟩
          rw [hu] at hS ⊢
          have hu12 : u < 12 := by omega
          have hbd := tlN_bd (qT M a) (qT M b) u i
          refine Tc_t (by omega) (Tc_t (by omega) (Tc_u (Tc_inl ⟨wi, ?_, ?_, ?_, fun q hq => ?_⟩)))
          · refine s2'.cells (fun c hc => ?_) ?_
            · dsimp only; exact up2_ne (by omega)
            · dsimp only; exact rd_a (by omega)
          · refine t2.cells (fun c hc => ?_) ?_
            · dsimp only; exact up2_ne (by omega)
            · dsimp only; exact rd_a (by omega)
          · exact ((q3.tr (s3.L.chg (Or.inl rfl))).tr (t3.L.chg (Or.inr rfl))).up (List.mem_singleton.mpr rfl)
          · dsimp only
            rw [toNat_c, hS, e244, q4 u hu12, wr_i (x := tlN (qT M a) (qT M b) u i + 1) (by omega) (by omega)]
            by_cases e : q = u
            · subst e
              rw [rd_same, if_pos rfl]
            · rw [rd_k e, e244, q4 q hq, if_neg (by omega), Int.add_zero]
        · obtain ⟨z, M3⟩ := s
          obtain ⟨rfl, q1, q2, q3, q4⟩ := hI
          unfold dh_join_b51
          exact Tc_t (by show n ≤ ((n.toNat : Nat) : Int); omega) (Tc_inr ⟨q3, q4⟩)
      obtain ⟨w3, e3, q1, q2⟩ := l2
      obtain ⟨w', M3⟩ := w3
      dsimp only at q1 q2
      refine Tc_e e3 ?_
      dsimp only
      have best : ∀ (N : MEM) (c : Nat) (bd : Int → Int → MEM → Option ((Int × Int) ⊕ (Int × Int))), (∀ x4 x5, bd x4 x5 N = if 12 ≤ x5 then some (.inr (x4, x5)) else if 0 ≤ x5 ∧ x5 < 12 then (if 0 ≤ x4 ∧ x4 < 12 then (if N c x5.toNat ≤ N c x4.toNat then some (.inl (x4, wr (x5 + 1))) else some (.inl (x5, wr (x5 + 1)))) else none) else none) → (∀ s : Nat, s < 12 → N c s = tlN (qT M a) (qT M b) s n.toNat) →
          iter (fun s => bd s.1 s.2 N) FU (0, 1) = some ((((bestN (fun s => tlN (qT M a) (qT M b) s n.toNat) 11 : Nat) : Int), (12 : Int))) := fun N c bd hbd hN => by
        refine loop_traj (fun i => (((bestN (fun s => tlN (qT M a) (qT M b) s n.toNat) i : Nat) : Int), (i : Int) + 1)) 11 (by omega) (fun i hi => ?_) ?_
        · have hle := bestN_le (fun s => tlN (qT M a) (qT M b) s n.toNat) i
          dsimp only
          rw [hbd, if_neg (by omega), if_pos (by omega), if_pos (by omega), show ((i : Int) + 1).toNat = i + 1 by omega, toNat_c, hN _ (by omega), hN _ (by omega), wr_i (by omega) (by omega)]
          rw [bestN_S]
          by_cases z : tlN (qT M a) (qT M b) (i + 1) n.toNat ≤ tlN (qT M a) (qT M b) (bestN (fun s => tlN (qT M a) (qT M b) s n.toNat) i) n.toNat
          · rw [if_pos z, if_pos z]; congr 3
          · rw [if_neg z, if_neg z]; congr 3
        · dsimp only
          rw [hbd, if_pos (by omega)]
          rfl
      have hb11 := bestN_le (fun s => tlN (qT M a) (qT M b) s n.toNat) 11
      have eb := best M3 244 dh_join_b120 (fun x4 x5 => rfl) q2
      refine Tc_e eb ?_
      dsimp only
      generalize bestN (fun s => tlN (qT M a) (qT M b) s n.toNat) 11 = bst at *
      obtain ⟨M4, n1, n2, n3⟩ := newRow_eq M3
      obtain ⟨M5, t1, t2, t3⟩ := tell_eq (bst : Int) n2 (by simp)
      refine Tc_e n1 (Tc_e t1 (Tc_t (by omega) ?_))
      rw [toNat_c]
      obtain ⟨M6, u1, u2, u3⟩ := tell_eq (M5 244 bst) t2 (by simp)
      refine Tc_e u1 (Tc_some ?_)
      have oC : offC M3 M6 := (n3.tr t3).tr u3
      have e244 : M6 244 = M3 244 := oC.cell (by decide) (by decide)
      have e2445 : M5 244 = M3 244 := (n3.tr t3).cell (by decide) (by decide)
      rw [e2445, q2 bst (by omega)] at u2
      dsimp only
      rw [e244, q2 0 (by omega)]
      have c6 : chg [0, 10] M M6 := (((c1.tr c2).tr q1).sub (by decide)).tr oC.chg
      unfold mo_join
      have c7 : chg [0, 10] M (up2 M6 278 13 0) := c6.up (by decide)
      refine Tc_u (Tc_f (by rw [moTwo_y h.S (c7 278 1 (by decide)) ht]; decide) (Tc_f (by rw [show mo_isMore n = 1 from moIn_y hn]; decide) ?_))
      have m1 : Tc (iter (fun s => mo_join_b26 a b n s.1 s.2) FU (0, up2 M6 278 13 0)) (fun r => (∀ c, c ≠ 303 → r.2 c = up2 M6 278 13 0 c) ∧ ∀ s : Nat, s < 12 → r.2 303 s = 0) := by
        refine Tc_n (fun i s => s.1 = (i : Int) ∧ (∀ c, c ≠ 303 → s.2 c = up2 M6 278 13 0 c) ∧ ∀ k : Nat, k < i → s.2 303 k = 0) 12 ⟨rfl, fun _ _ => rfl, fun k hk => by omega⟩ (by omega) (fun i s hi hI => ?_) (fun s hI => ?_)
        · obtain ⟨z, M2⟩ := s
          obtain ⟨rfl, q1, q2⟩ := hI
          dsimp only at q1 q2 ⊢
          unfold mo_join_b26
          refine Tc_f (by omega) (Tc_t (by omega) (Tc_u (Tc_inl ⟨(wr_i (by omega) (by omega)).trans (by omega), fun c hc => ?_, fun k hk => ?_⟩)))
          · dsimp only; rw [up2_ne hc]; exact q1 c hc
          · dsimp only
            rw [toNat_c]
            by_cases e : k = i
            · subst e; exact rd_same
            · rw [rd_k e]; exact q2 k (by omega)
        · obtain ⟨z, M2⟩ := s
          obtain ⟨rfl, q1, q2⟩ := hI
          unfold mo_join_b26
          exact Tc_t (by show (12 : Int) ≤ ((12 : Nat) : Int); omega) (Tc_inr ⟨q1, q2⟩)
      obtain ⟨w8, e8, x1, x2⟩ := m1
      obtain ⟨w8, M8⟩ := w8
      dsimp only at x1 x2
      refine Tc_e e8 ?_
      dsimp only
      have c8 : chg [0, 10] M M8 := c7.tr (fun c k hn => by
        by_cases e : c = 303
        · subst e; exact absurd (show rg 303 k ∈ [0, 10] from List.mem_cons_self) hn
        · rw [x1 c e])
      obtain ⟨M9, z1, z2, z3, -, z5, z6⟩ := q_then h hB c8
      refine Tc_e z1 ?_
      have m2 : Tc (iter (fun s => mo_join_b54 a b n s.1 s.2) FU (0, M9)) (fun r => chg [0] M9 r.2 ∧ moF M9 r.2 ∧ ∀ s : Nat, s < 12 → r.2 303 s = tlN (qT M a) (qT M b) s n.toNat) := by
        refine Tc_n (fun i s => s.1 = (i : Int) ∧ thenAt (M 3 2).toNat (fun d => M 280 d) (envM M) (M 3 3) (fun d => dsC (10 + 3 * d) M) i s.2 ∧ chg [0] M9 s.2 ∧ moF M9 s.2 ∧ ∀ q : Nat, q < 12 → s.2 303 q = tlN (qT M a) (qT M b) q i) n.toNat ⟨rfl, z6, chg.rf, moF.rf, fun q hq => by dsimp only; rw [z3 303 (by decide)]; exact x2 q hq⟩ (by omega) (fun i s hi hI => ?_) (fun s hI => ?_)
        · obtain ⟨z, M10⟩ := s
          obtain ⟨rfl, q1, q3, q5, q4⟩ := hI
          dsimp only at q1 q3 q4 q5 ⊢
          obtain ⟨M11, k1, k2, k3, -⟩ := then_step z5 (by omega) q1
          have wi : wr ((i : Int) + 1) = ((i + 1 : Nat) : Int) := (wr_i (by omega) (by omega)).trans (by omega)
          have ka : (qT M a (i + 1)).2.2.1 = M11 292 (55 * a + 2) := (k2.2.2.2.2.2.2 a (by omega)).2.2.1
          have kb : (qT M b (i + 1)).2.2.1 = M11 292 (55 * b + 2) := (k2.2.2.2.2.2.2 b (by omega)).2.2.1
          have xa := ta (i + 1) (by omega)
          have xb := tb (i + 1) (by omega)
          have e303 : M11 303 = M10 303 := k3.1 303 (by decide) (by decide) (by decide)
          have w1 : wr (((55 * a : Nat) : Int) + 2) = ((55 * a + 2 : Nat) : Int) := (wr_i (by omega) (by omega)).trans (by omega)
          have w2 : wr (((55 * b : Nat) : Int) + 2) = ((55 * b + 2 : Nat) : Int) := (wr_i (by omega) (by omega)).trans (by omega)
          unfold mo_join_b54
          refine Tc_f (by omega) (Tc_e k1 ?_)
          rw [w55 (by omega), w55 (by omega), w1, w2]
          simp only [toNat_c]
          rw [← ka, ← kb, tmod_nn xa.1, tmod_nn xb.1, wr_i (x := (qT M a (i + 1)).2.2.1 % 12 + 12) (by omega) (by omega), wr_i (x := (qT M a (i + 1)).2.2.1 % 12 + 12 - (qT M b (i + 1)).2.2.1 % 12) (by omega) (by omega), tmod_nn (by omega)]
          have hS : ∀ q, tlN (qT M a) (qT M b) q (i + 1) = tlN (qT M a) (qT M b) q i + (if ((qT M a (i + 1)).2.2.1 - (qT M b (i + 1)).2.2.1) % 12 = (q : Int) then 1 else 0) := fun q => rfl
          have hmm : ((qT M a (i + 1)).2.2.1 % 12 + 12 - (qT M b (i + 1)).2.2.1 % 12) % 12 = ((qT M a (i + 1)).2.2.1 - (qT M b (i + 1)).2.2.1) % 12 := by omega
          rw [hmm]
          obtain ⟨u, hu⟩ : ∃ u : Nat, ((qT M a (i + 1)).2.2.1 - (qT M b (i + 1)).2.2.1) % 12 = (u : Int) := ⟨(((qT M a (i + 1)).2.2.1 - (qT M b (i + 1)).2.2.1) % 12).toNat, by omega⟩
          rw [hu] at hS ⊢
          have hu12 : u < 12 := by omega
          have hbd := tlN_bd (qT M a) (qT M b) u i
          refine Tc_t (by omega) (Tc_t (by omega) (Tc_t (by omega) (Tc_t (by omega) (Tc_u (Tc_inl ⟨wi, ?_, ?_, ?_, fun q hq => ?_⟩)))))
          · refine k2.cells ?_ ?_ ?_ ?_ <;> dsimp only
            · exact chg.rf.up (List.mem_singleton.mpr rfl)
            · exact up2_ne (by decide)
            · exact up2_ne (by decide)
            · exact up2_ne (by decide)
          · exact (q3.tr k3.Q.chg).up (List.mem_singleton.mpr rfl)
          · exact (q5.tr k3.Q.mo).tr (moF.up (by decide))
          · dsimp only
            rw [toNat_c, hS, e303, q4 u hu12, wr_i (x := tlN (qT M a) (qT M b) u i + 1) (by omega) (by omega)]
            by_cases e : q = u
            · subst e
              rw [rd_same, if_pos rfl]
            · rw [rd_k e, e303, q4 q hq, if_neg (by omega), Int.add_zero]
        · obtain ⟨z, M10⟩ := s
          obtain ⟨rfl, q1, q3, q5, q4⟩ := hI
          unfold mo_join_b54
          exact Tc_t (by show n ≤ ((n.toNat : Nat) : Int); omega) (Tc_inr ⟨q3, q5, q4⟩)
      obtain ⟨w10, e10, p1, p2, p3⟩ := m2
      obtain ⟨w10, M10⟩ := w10
      dsimp only at p1 p2 p3
      refine Tc_e e10 ?_
      dsimp only
      have eb2 := best M10 303 mo_join_b124 (fun x4 x5 => rfl) p3
      refine Tc_e eb2 (Tc_u ?_)
      dsimp only
      obtain ⟨r1, r2⟩ := moRow0 M10
      obtain ⟨M11, s1, s2, s3⟩ := moTell_eq (bst : Int) r1 (by simp)
      refine Tc_e s1 (Tc_t (by omega) ?_)
      rw [toNat_c]
      have e303 : M11 303 = M10 303 := (r2.tr s3).cell (by decide) (by decide)
      rw [e303, p3 bst (by omega)]
      obtain ⟨M12, v1, v2, v3⟩ := moTell_eq (tlN (qT M a) (qT M b) bst n.toNat) s2 (by simp)
      have oX : offX M10 M12 := (r2.tr s3).tr v3
      have e303' : M12 303 = M10 303 := oX.cell (by decide) (by decide)
      have f68 : moF M6 M8 := fun c hc => (x1 c (by omega)).trans (up2_ne (by omega))
      refine Tc_e v1 (Tc_some ⟨?_, h.go10 (((c8.tr (z2.chg.sub (by decide))).tr (p1.sub (by decide))).tr oX.chg) (u2.fin (((f68.tr z2.mo).tr p2).tr oX.mo) v2 (by simp))⟩)
      dsimp only
      rw [e303', p3 0 (by omega)]
    · refine Tc_t (far_n hn) (Tc_some ?_)
      unfold mo_join
      exact Tc_u (Tc_f (by rw [moTwo_y h.S (c3 278 1 (by decide)) ht]; decide) (Tc_t (moIn_n hn) (Tc_some ⟨rfl, h.go0 c3⟩)))
  · refine Tc_t (areTwo_n h.S ht) (Tc_some ?_)
    unfold mo_join
    exact Tc_u (Tc_t (moTwo_n h.S (c3 278 1 (by decide)) ht) (Tc_some ⟨rfl, h.go0 c3⟩))
