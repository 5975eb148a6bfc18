-- ===== donkey, apart, row: the reference behind the law's own cell =====
theorem chg.off {M M1 M2 : MEM} (c : chg [0] M M1) (h : ∀ a, a ≠ 307 → M2 a = M1 a) : chg [0] M M2 := fun a k n => by
  by_cases e : a = 307
  · subst e
    exact absurd (by show rg 307 k ∈ [0]; exact List.mem_singleton.mpr rfl) n
  · rw [h a e]
    exact c a k n
def LkT2 (B : Int) (o : Option (MEM ⊕ (Int × MEM))) (f : MEM → Option (Int × MEM)) : Prop :=
  Tc o (Sum.elim (fun M1 => Tc (f M1) (fun q => q.2 278 13 = 1 ∧ Rel B q.2)) (fun p => ∀ M9 : MEM, (∀ a, a ≠ 307 → M9 a = p.2 a) → Tc (f M9) (fun q => q.2 278 13 = 0 ∧ q.1 = p.1 ∧ q.2 307 0 = M9 307 0 ∧ Rel B q.2)))
theorem t_row {B : Int} {M : MEM} (h : Rel B M) (x : Int) : LkT2 B (dh_row x M) (mo_row x) := by
  have c3 : chg [0] M (up2 M 278 13 0) := chg.rf.up (by decide)
  obtain ⟨q1, q2, q3, q4⟩ := h.W
  have k12 : up2 M 278 13 0 278 12 = M 0 14 := by rw [rd_k (by decide)]; exact q1
  have w : wr (M 0 14 - 1) = M 0 14 - 1 := wr_i (by omega) (by omega)
  unfold LkT2 dh_row
  by_cases hc : 0 ≤ x ∧ x < M 0 14
  · obtain ⟨i, rfl⟩ : ∃ i : Nat, x = (i : Int) := ⟨x.toNat, by omega⟩
    refine Tc_f (by omega) (Tc_f (by omega) (Tc_t (by omega) (Tc_t (by omega) (Tc_some ?_))))
    show ∀ M9 : MEM, (∀ c, c ≠ 307 → M9 c = M c) → Tc (mo_row i M9) _
    intro M9 h9
    have c3 : chg [0] M (up2 M9 278 13 0) := (chg.rf.off h9).up (by decide)
    have k12 : up2 M9 278 13 0 278 12 = M 0 14 := by rw [rd_k (by decide), h9 278 (by decide)]; exact q1
    unfold mo_row
    refine Tc_u (Tc_f (by rw [k12, w, moIn_y (by omega)]; decide) (Tc_t (by omega) (Tc_some ⟨(by dsimp only; exact rd_same), ?_, (by dsimp only; rw [up2_ne (by decide)]), h.go0 c3⟩)))
    dsimp only
    rw [toNat_c, rd_a (by decide), h9 284 (by decide)]
    exact q4 i (by omega)
  · have mo : Tc (mo_row x M) (fun q => q.2 278 13 = 1 ∧ Rel B q.2) := by
      unfold mo_row
      exact Tc_u (Tc_t (by rw [k12, w, moIn_n (by omega)]) (Tc_e (lost_eq _) (Tc_some ⟨(by dsimp only; exact rd_same), h.go0 (c3.up (by decide))⟩)))
    refine Tc_i (fun _ => Tc_some mo) (fun _ => Tc_t (by omega) (Tc_some mo))
theorem t_donkey {B : Int} {M : MEM} (h : Rel B M) (hB : B ≤ 100000000) (x y : Int) : LkT2 B (dh_donkey x y M) (mo_donkey x y) := by
  have c3 : chg [0] M (up2 M 278 13 0) := chg.rf.up (by decide)
  have k1 : up2 M 278 13 0 278 1 = M 278 1 := rd_k (by decide)
  have hn := h.S.2.2.1
  have nw := now_in h
  unfold LkT2 dh_donkey
  by_cases hc : (0 ≤ x ∧ x < M 3 2) ∧ 0 ≤ y ∧ y ≤ 6
  · obtain ⟨hd, hy⟩ := hc
    obtain ⟨d, rfl⟩ : ∃ d : Nat, x = (d : Int) := ⟨x.toNat, by omega⟩
    obtain ⟨w1, w2, w3, w4⟩ := dnk h hB hd.2
    have w3' := w3
    obtain ⟨z1, z2, z3, z4, z5, z6, z7, z8, z9⟩ := w1
    obtain ⟨f1, f2, f3, f4⟩ := w3
    simp only [dsC, dsM] at f1 f2 f3 z7
    have x0 : wr (55 * (d : Int)) = ((55 * d : Nat) : Int) := (wr_i (by omega) (by omega)).trans (by omega)
    have x1 : wr (((55 * d : Nat) : Int) + 1) = ((55 * d + 1 : Nat) : Int) := (wr_i (by omega) (by omega)).trans (by omega)
    have x2 : wr (((55 * d : Nat) : Int) + 2) = ((55 * d + 2 : Nat) : Int) := (wr_i (by omega) (by omega)).trans (by omega)
    have hI : mo_in y 0 6 ≠ 0 := by rw [moIn_y hy]; decide
    refine Tc_f (by rw [isDonkey_y hn hd.1 hd.2]; decide) (Tc_f (by omega) (Tc_t hy.2 (Tc_t (by omega) ?_)))
    rw [toNat_c]
    have pre : ∀ M9 : MEM, (∀ c, c ≠ 307 → M9 c = M c) → mo_isDonkey (d : Int) (up2 M9 278 13 0) ≠ 0 ∧ (∀ (P : Int → Prop) v, P v → Tc (some (v, up2 M9 278 13 0)) (fun q => q.2 278 13 = 0 ∧ P q.1 ∧ q.2 307 0 = M9 307 0 ∧ Rel B q.2)) ∧ M9 279 = M 279 ∧ M9 280 = M 280 := fun M9 h9 => by
      have c9 : chg [0] M (up2 M9 278 13 0) := (chg.rf.off h9).up (by decide)
      exact ⟨by rw [moDonkey_y h.S (by rw [rd_k (by decide), h9 278 (by decide)]) hd]; decide, fun P v hp => Tc_some ⟨(by dsimp only; exact rd_same), hp, (by dsimp only; rw [up2_ne (by decide)]), h.go0 c9⟩, h9 279 (by decide), h9 280 (by decide)⟩
    by_cases y0 : y = 0
    · refine Tc_t y0 (Tc_some ?_)
      show ∀ M9 : MEM, (∀ c, c ≠ 307 → M9 c = M c) → Tc (mo_donkey d y M9) _
      intro M9 h9
      obtain ⟨hD, ok, e279, e280⟩ := pre M9 h9
      unfold mo_donkey
      rw [x0, toNat_c]
      exact Tc_u (Tc_f hD (Tc_f hI (Tc_t y0 (Tc_t (by omega) (ok (· = _) _ (by rw [rd_a (by decide), e279]; exact f2.symm))))))
    refine Tc_f y0 ?_
    by_cases y1 : y = 1
    · refine Tc_t y1 (Tc_some ?_)
      show ∀ M9 : MEM, (∀ c, c ≠ 307 → M9 c = M c) → Tc (mo_donkey d y M9) _
      intro M9 h9
      obtain ⟨hD, ok, e279, e280⟩ := pre M9 h9
      unfold mo_donkey
      rw [x0, x1, toNat_c, toNat_c]
      exact Tc_u (Tc_f hD (Tc_f hI (Tc_f y0 (Tc_t y1 (Tc_t (by omega) (ok (· = _) _ (by rw [rd_a (by decide), e279]; exact f1.symm)))))))
    refine Tc_f y1 ?_
    by_cases y2 : y = 2
    · refine Tc_t y2 (Tc_some ?_)
      show ∀ M9 : MEM, (∀ c, c ≠ 307 → M9 c = M c) → Tc (mo_donkey d y M9) _
      intro M9 h9
      obtain ⟨hD, ok, e279, e280⟩ := pre M9 h9
      unfold mo_donkey
      rw [x0, x2, toNat_c, toNat_c]
      exact Tc_u (Tc_f hD (Tc_f hI (Tc_f y0 (Tc_f y1 (Tc_t y2 (Tc_t (by omega) (ok (· = _) _ (by rw [rd_a (by decide), e279]; exact f3.symm))))))))
    refine Tc_f y2 ?_
    by_cases y3 : y = 3
    · refine Tc_t y3 (Tc_some ?_)
      show ∀ M9 : MEM, (∀ c, c ≠ 307 → M9 c = M c) → Tc (mo_donkey d y M9) _
      intro M9 h9
      obtain ⟨hD, ok, e279, e280⟩ := pre M9 h9
      unfold mo_donkey
      rw [x0, x2, toNat_c, toNat_c]
      exact Tc_u (Tc_f hD (Tc_f hI (Tc_f y0 (Tc_f y1 (Tc_f y2 (Tc_t y3 (Tc_t (by omega) (ok (· = _) _ (by rw [rd_a (by decide), e279, f3])))))))))
    refine Tc_f y3 ?_
    by_cases y4 : y = 4
    · refine Tc_t y4 (Tc_some ?_)
      show ∀ M9 : MEM, (∀ c, c ≠ 307 → M9 c = M c) → Tc (mo_donkey d y M9) _
      intro M9 h9
      obtain ⟨hD, ok, e279, e280⟩ := pre M9 h9
      unfold mo_donkey
      rw [x0, x2, toNat_c, toNat_c]
      exact Tc_u (Tc_f hD (Tc_f hI (Tc_f y0 (Tc_f y1 (Tc_f y2 (Tc_f y3 (Tc_t y4 (Tc_t (by omega) (ok (· = _) _ (by rw [rd_a (by decide), e280, w4, toNat_c]))))))))))
    refine Tc_f y4 ?_
    obtain ⟨e1, e2, -, -⟩ := left_both (M1 := up2 M 278 13 0) h hB hd.2 (up2_ne (by decide))
    by_cases y5 : y = 5
    · refine Tc_t y5 (Tc_e e1 (Tc_some ?_))
      show ∀ M9 : MEM, (∀ c, c ≠ 307 → M9 c = M c) → Tc (mo_donkey d y M9) _
      intro M9 h9
      obtain ⟨hD, ok, e279, e280⟩ := pre M9 h9
      obtain ⟨-, e2, -, -⟩ := left_both (M1 := up2 M9 278 13 0) h hB hd.2 ((up2_ne (by decide)).trans e279)
      unfold mo_donkey
      exact Tc_u (Tc_f hD (Tc_f hI (Tc_f y0 (Tc_f y1 (Tc_f y2 (Tc_f y3 (Tc_f y4 (Tc_t y5 (Tc_e e2 (ok (· = _) _ rfl))))))))))
    refine Tc_f y5 ?_
    have lk := lock_of h chg.rf chg.rf (fun _ _ _ _ => rfl)
    obtain ⟨M2, p2, o1, o2⟩ := paceNow_eq (b := 10 + 3 * d) (d := (d : Int)) (n := M 280 d) (M := M) lk.1 (by omega) (by omega) ⟨z1, z2, z3, z4, z5, z6, z7, z8, z9⟩ (by unfold InR; omega)
    refine Tc_e p2 (Tc_some ?_)
    show ∀ M9 : MEM, (∀ c, c ≠ 307 → M9 c = M2 c) → Tc (mo_donkey d y M9) _
    intro M9 h9
    have cM2 : chg [0] M M2 := fun a k n => by
      by_cases e21 : a = 21
      · subst e21
        refine o2 k (fun e => n ?_)
        subst e; decide
      · by_cases e23 : a = 23
        · subst e23; exact absurd (by decide : (0 : Nat) ∈ [0]) n
        · by_cases e24 : a = 24
          · subst e24; exact absurd (by decide : (0 : Nat) ∈ [0]) n
          · rw [o1 a e21 e23 e24]
    have cM9 := cM2.off h9
    have r2 := (h.go0 cM9).go0 (chg.rf.up (a := 278) (k := 13) (x := 0) (by decide))
    have eM : ∀ c, 277 < c → c ≠ 307 → M9 c = M c := fun c hc h7 => (h9 c h7).trans (o1 c (by omega) (by omega) (by omega))
    have q279 : up2 M9 278 13 0 279 = M 279 := by rw [up2_ne (by decide), eM 279 (by decide) (by decide)]
    have eds : dsM 279 (55 * d) (up2 M9 278 13 0) = dsM 279 (55 * d) M := by unfold dsM; rw [q279]
    have okM : okD (M 280 d) (dsM 279 (55 * d) M) := okD_congr ⟨f1, f2, f3, f4⟩ ⟨z1, z2, z3, z4, z5, z6, z7, z8, z9⟩
    have env2 : envM (up2 M9 278 13 0) = passE M := by
      rw [lk.2.2.2.1]
      exact chg_env (cM9.tr (chg.rf.up (by decide))) (by decide) (by decide) (by decide) (by decide) h.N.2.2.2.2.2.1 h.C.2.2.1
    obtain ⟨M3, p3, o3⟩ := mo_pace_eq (a := 279) (o := 55 * d) (d := (d : Int)) (n := M 280 d) (M := up2 M9 278 13 0) (Or.inl rfl) r2.R (em_of (f := 224) r2.F r2.C (th0 (Or.inl rfl) r2.N)) (by omega) (by omega) (by omega) (by rw [eds]; exact okM) (by rw [q279]; omega)
    rw [eds, q279, env2, nw.2.2] at p3
    have ep : paceD (passE M) d (M 3 3) (dsM 279 (55 * d) M) = paceD (passE M) d (M 3 3) (dsC (10 + 3 * d) M) := by
      unfold paceD; rw [gvD_congr (n := M 280 d) z3 z4 w3']
    rw [ep] at p3
    have hD2 : mo_isDonkey (d : Int) (up2 M9 278 13 0) ≠ 0 := by rw [moDonkey_y h.S (by rw [rd_k (by decide), eM 278 (by decide) (by decide)]) hd]; decide
    unfold mo_donkey
    refine Tc_u (Tc_f hD2 (Tc_f hI (Tc_f y0 (Tc_f y1 (Tc_f y2 (Tc_f y3 (Tc_f y4 (Tc_f y5 (Tc_e p3 (Tc_some ⟨?_, rfl, ?_, ?_⟩))))))))))
    · dsimp only
      rw [o3.2 13 (by omega) (by decide) (by decide)]; exact rd_same
    · dsimp only
      rw [o3.1 307 (by decide), up2_ne (by decide)]
    · refine r2.go0 (fun a k n => ?_)
      by_cases e : a = 278
      · subst e
        by_cases z : (k < 14 ∨ 18 < k) ∧ k ≠ 22 ∧ k ≠ 23
        · exact o3.2 k z.1 z.2.1 z.2.2
        · exact absurd (by rw [rg278 (by omega)]; decide) n
      · show M3 a k = _
        rw [o3.1 a e]
  · have mo : Tc (mo_donkey x y M) (fun q => q.2 278 13 = 1 ∧ Rel B q.2) := by
      have fin : Tc (mo_donkey_j23 (up2 M 278 13 0)) (fun q => q.2 278 13 = 1 ∧ Rel B q.2) := by
        unfold mo_donkey_j23
        exact Tc_e (lost_eq _) (Tc_some ⟨(by dsimp only; exact rd_same), h.go0 (c3.up (by decide))⟩)
      unfold mo_donkey
      refine Tc_u (Tc_i (fun _ => fin) (fun q => Tc_t ?_ fin))
      exact moIn_n (fun z => hc ⟨Classical.byContradiction fun w => q (moDonkey_n h.S k1 w), z⟩)
    refine Tc_i (fun _ => Tc_some mo) (fun q => Tc_i (fun _ => Tc_some mo) (fun q2 => Tc_f ?_ (Tc_some mo)))
    intro z
    exact hc ⟨Classical.byContradiction fun w => q (isDonkey_n hn w), by omega, z⟩
theorem t_apart {B : Int} {M : MEM} (h : Rel B M) (hB : B ≤ 100000000) (x y n : Int) : LkT2 B (dh_apart x y n M) (mo_apart x y n) := by
  have nw := now_in h
  have c3 : chg [0] M (up2 M 278 13 0) := chg.rf.up (by decide)
  unfold LkT2 dh_apart
  by_cases ht : two M x y
  · refine Tc_f (by rw [areTwo_y h.S ht]; decide) ?_
    by_cases hn : 0 ≤ n ∧ n ≤ 600
    · refine Tc_f (by omega) (Tc_t hn.2 ?_)
      obtain ⟨a, rfl⟩ : ∃ a : Nat, x = (a : Int) := ⟨x.toNat, by have := ht.1; omega⟩
      obtain ⟨b, rfl⟩ : ∃ b : Nat, y = (b : Int) := ⟨y.toNat, by have := ht.2.1; omega⟩
      have hN := h.S.2.2.1
      have ha := ht.1
      have hb := ht.2.1
      obtain ⟨M1, e1, c1, f1, f2⟩ := q_both h hB ha.2 hb.2
      obtain ⟨a1, a2, -, -⟩ := dnk h hB ha.2
      obtain ⟨b1, b2, -, -⟩ := dnk h hB hb.2
      obtain ⟨M2, e2, g2, o2⟩ := fut_run600 (till := n) (Or.inl rfl) a1 a2 nw.1 (by omega) hn.2 (by omega) f1
      obtain ⟨M3, e3, g3, o3⟩ := fut_run600 (till := n) (Or.inr rfl) b1 b2 nw.1 (by omega) hn.2 (by omega) (f2.other (Or.inr ⟨rfl, rfl⟩) o2.L)
      have g2' := g2.other (Or.inl ⟨rfl, rfl⟩) o3.L
      refine Tc_e e1 (Tc_e e2 (Tc_e e3 (Tc_some ?_)))
      rw [show max 0 n.toNat = n.toNat by omega] at g2' g3
      have k1 : M3 230 5 = (qT M a n.toNat).2.2.1 := g2'.2.2.2.1.2.2.1.symm
      have k2 : M3 240 5 = (qT M b n.toNat).2.2.1 := g3.2.2.2.1.2.2.1.symm
      have c4 : chg [0] M M3 := (c1.tr (o2.L.chg (Or.inl rfl))).tr (o3.L.chg (Or.inr rfl))
      show ∀ M9 : MEM, (∀ c, c ≠ 307 → M9 c = M3 c) → Tc (mo_apart a b n M9) (fun q => q.2 278 13 = 0 ∧ q.1 = wr (M3 230 5 - M3 240 5) ∧ q.2 307 0 = M9 307 0 ∧ Rel B q.2)
      intro M9 h9
      have c4 := c4.off h9
      rw [k1, k2]
      unfold mo_apart
      have c5 : chg [0] M (up2 M9 278 13 0) := c4.up (by decide)
      refine Tc_u (Tc_f (by rw [moTwo_y h.S (c5 278 1 (by decide)) ht]; decide) (Tc_f (by rw [moIn_y hn]; decide) ?_))
      obtain ⟨M6, z1, z2, -, -, z5, z6⟩ := q_then h hB (c5.sub (by decide))
      refine Tc_e z1 ?_
      obtain ⟨M7, i1, i2, i3⟩ := then_loop (body := fun s => mo_apart_b37 a b n s.1 s.2) (n := n) (fun _ _ => rfl) z5 hn.1 hn.2 z6
      refine Tc_e i1 ?_
      have w1 : wr (((55 * a : Nat) : Int) + 2) = ((55 * a + 2 : Nat) : Int) := (wr_i (by omega) (by omega)).trans (by omega)
      have w2 : wr (((55 * b : Nat) : Int) + 2) = ((55 * b + 2 : Nat) : Int) := (wr_i (by omega) (by omega)).trans (by omega)
      rw [w55 (by omega), w55 (by omega), w1, w2]
      simp only [toNat_c]
      refine Tc_t (by omega) (Tc_t (by omega) (Tc_some ⟨?_, ?_, (by dsimp only; rw [i3.1 307 (by decide) (by decide) (by decide) (by decide), z2.1 307 (by decide) (by decide) (by decide) (by decide), up2_ne (by decide)]), h.go0 ((c5.tr z2.chg).tr i3.chg)⟩))
      · dsimp only
        rw [i3.2 13 (by omega) (by omega), z2.2 13 (by omega) (by omega), rd_same]
      · have q1 := i2.2.2.2.2.2.2 a (by omega)
        have q2 := i2.2.2.2.2.2.2 b (by omega)
        have q1 : (qT M a n.toNat).2.2.1 = M7 292 (55 * a + 2) := q1.2.2.1
        have q2 : (qT M b n.toNat).2.2.1 = M7 292 (55 * b + 2) := q2.2.2.1
        rw [q1, q2]
    · have mo : Tc (mo_apart x y n M) (fun q => q.2 278 13 = 1 ∧ Rel B q.2) := by
        unfold mo_apart
        refine Tc_u (Tc_f (by rw [moTwo_y h.S (c3 278 1 (by decide)) ht]; decide) (Tc_t (moIn_n hn) ?_))
        unfold mo_apart_j25
        exact Tc_c (thrown1 h c3) (fun q hq => Tc_some hq)
      refine Tc_i (fun _ => Tc_some mo) (fun q => Tc_f (by omega) (Tc_some mo))
  · refine Tc_t (areTwo_n h.S ht) (Tc_some ?_)
    show Tc (mo_apart x y n M) _
    unfold mo_apart
    refine Tc_u (Tc_t (moTwo_n h.S (c3 278 1 (by decide)) ht) ?_)
    unfold mo_apart_j25
    exact Tc_c (thrown1 h c3) (fun q hq => Tc_some hq)
