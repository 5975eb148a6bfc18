-- ===== row, donkey, count =====
theorem lost_eq (M : MEM) : mo_lost M = some (0, up2 M 278 13 1) := rfl
theorem c_row {B : Int} {M : MEM} (h : Rel B M) (x : Int) : LkT B (dh_row x M) (mo_row x) := by
  have c3 : chg [0] M (up2 M 278 13 0) := chg.rf.up (by decide)
  obtain ⟨q1, q2, q3, q4⟩ := h.W
  have k12 : up2 M 278 13 0 278 12 = M 0 14 := by rw [rd_k (by decide)]; exact q1
  have w : wr (M 0 14 - 1) = M 0 14 - 1 := wr_i (by omega) (by omega)
  unfold LkT dh_row
  by_cases hc : 0 ≤ x ∧ x < M 0 14
  · obtain ⟨i, rfl⟩ : ∃ i : Nat, x = (i : Int) := ⟨x.toNat, by omega⟩
    refine Tc_f (by omega) (Tc_f (by omega) (Tc_t (by omega) (Tc_t (by omega) (Tc_some ?_))))
    show Tc (mo_row i M) _
    unfold mo_row
    refine Tc_u (Tc_f (by rw [k12, w, moIn_y (by omega)]; decide) (Tc_t (by omega) (Tc_some ⟨(by dsimp only; exact rd_same), ?_, h.go0 c3⟩)))
    dsimp only
    rw [toNat_c, rd_a (by decide)]
    exact q4 i (by omega)
  · have mo : Tc (mo_row x M) (fun q => q.2 278 13 = 1 ∧ Rel B q.2) := by
      unfold mo_row
      exact Tc_u (Tc_t (by rw [k12, w, moIn_n (by omega)]) (Tc_e (lost_eq _) (Tc_some ⟨(by dsimp only; exact rd_same), h.go0 (c3.up (by decide))⟩)))
    refine Tc_i (fun _ => Tc_some mo) (fun _ => Tc_t (by omega) (Tc_some mo))
theorem sumN_tail {f : Nat → Int} {n : Nat} : ∀ {m : Nat}, n ≤ m → (∀ p, n ≤ p → p < m → f p = 0) → sumN f m = sumN f n := by
  intro m
  induction m with
  | zero => intro h _; have : n = 0 := by omega
            subst this; rfl
  | succ m ih =>
    intro h z
    by_cases e : n = m + 1
    · subst e; rfl
    · rw [sumN_S, z m (by omega) (by omega), ih (by omega) (fun p a b => z p a (by omega))]; omega
theorem moThistles_eq {M : MEM} {d : Nat} {n : Int} (hd : d < 3) (h0 : 0 ≤ n) (hn : n ≤ 12) (hb : ∀ p : Nat, (p : Int) < n → 0 ≤ M 279 (55 * d + 3 + p) ∧ M 279 (55 * d + 3 + p) ≤ 9) (hz : ∀ p : Nat, n ≤ (p : Int) → p < 12 → M 279 (55 * d + 3 + p) = 0) :
    mo_allThistles 279 (d : Int) M = some (leftN (fun p => M 279 (55 * d + 3 + p)) n) := by
  have hb' : ∀ p : Nat, p < 12 → 0 ≤ M 279 (55 * d + 3 + p) ∧ M 279 (55 * d + 3 + p) ≤ 9 := fun p hp => by
    by_cases z : (p : Int) < n
    · exact hb p z
    · rw [hz p (by omega) hp]; omega
  have hl : Tc (iter (fun s => mo_allThistles_b4 279 (d : Int) s.1 s.2 M) FU (0, 0)) (fun r => r.1 = sumN (fun p => M 279 (55 * d + 3 + p)) 12) := by
    refine Tc_n (fun i s => s.1 = sumN (fun p => M 279 (55 * d + 3 + p)) i ∧ s.2 = (i : Int)) 12 ⟨rfl, rfl⟩ (by omega) (fun i s hi hI => ?_) (fun s hI => ?_)
    · obtain ⟨x, z⟩ := s
      obtain ⟨rfl, rfl⟩ := hI
      dsimp only
      have b0 := sumN_bd (F := fun p => M 279 (55 * d + 3 + p)) (a := 0) (b := 9) (n := i) (fun j hj => hb' j (by omega))
      have b1 := hb' i hi
      have wi : wr (wr (wr (55 * (d : Int)) + 3) + (i : Int)) = ((55 * d + 3 + i : Nat) : Int) := by rw [wr_i (x := 55 * (d : Int)) (by omega) (by omega), wr_i (x := 55 * (d : Int) + 3) (by omega) (by omega), wr_i (by omega) (by omega)]; omega
      have w : wr (sumN (fun p => M 279 (55 * d + 3 + p)) i + M 279 (55 * d + 3 + i)) = sumN (fun p => M 279 (55 * d + 3 + p)) (i + 1) := by rw [sumN_S]; exact wr_i (by omega) (by omega)
      unfold mo_allThistles_b4
      rw [wi, toNat_c, w]
      refine Tc_f (by omega) (Tc_t ⟨by omega, ?_⟩ (Tc_inl ⟨rfl, (wr_i (by omega) (by omega)).trans (by omega)⟩))
      show ((55 * d + 3 + i : Nat) : Int) < 166
      omega
    · obtain ⟨x, z⟩ := s
      obtain ⟨rfl, rfl⟩ := hI
      unfold mo_allThistles_b4
      exact Tc_t (by show (12 : Int) ≤ ((12 : Nat) : Int); decide) (Tc_inr rfl)
  obtain ⟨r, e, hr⟩ := hl
  unfold mo_allThistles
  rw [e, Option.bind_some, hr]
  unfold leftN
  rw [sumN_tail (n := n.toNat) (m := 12) (by omega) (fun p a b => hz p (by omega) b)]
theorem zero_of {B : Int} {M : MEM} (h : Rel B M) {d : Nat} (hd : (d : Int) < M 3 2) : ∀ p : Nat, M 280 d ≤ (p : Int) → p < 12 → M 279 (55 * d + 3 + p) = 0 := by
  obtain ⟨t1, t2, t3, t4⟩ := h.D
  obtain ⟨t5, g1, g2, g3, g4, g5⟩ := t4 d hd
  rw [Nat.zero_add] at g3
  exact g3
/-- the thistles of a DONKEY, told by both -/
theorem left_both {B : Int} {M M1 : MEM} (h : Rel B M) (hB : B ≤ 100000000) {d : Nat} (hd : (d : Int) < M 3 2) (e : M1 279 = M 279) :
    be_allThistles (10 + 3 * d) M = some (leftN (M (10 + 3 * d + 1)) (M 280 d)) ∧ mo_allThistles 279 (d : Int) M1 = some (leftN (M (10 + 3 * d + 1)) (M 280 d)) ∧ 0 ≤ leftN (M (10 + 3 * d + 1)) (M 280 d) ∧ leftN (M (10 + 3 * d + 1)) (M 280 d) ≤ 108 := by
  obtain ⟨w1, w2, w3, w4⟩ := dnk h hB hd
  have hn := h.S.2.2.1
  have th : ∀ p : Nat, (p : Int) < M 280 d → M (10 + 3 * d + 1) p = M 279 (55 * d + 3 + p) := fun p hp => w3.2.2.2 p hp
  have b9 : ∀ p : Nat, (p : Int) < M 280 d → 0 ≤ M (10 + 3 * d + 1) p ∧ M (10 + 3 * d + 1) p ≤ 9 := w1.2.2.2.2.2.2.2.2
  refine ⟨allTh_eq w4 (by have := w1.1; omega) w1.2.1 b9, ?_, leftN_bd (by have := w1.1; omega) w1.2.1 b9⟩
  rw [moThistles_eq (M := M1) (n := M 280 d) (by omega) (by have := w1.1; omega) w1.2.1 (fun p hp => by rw [e, ← th p hp]; exact b9 p hp) (fun p a b => by rw [e]; exact zero_of h hd p a b)]
  rw [e]
  congr 1
  unfold leftN
  exact sumN_congr (fun p hp => (th p (by omega)).symm)
theorem c_donkey {B : Int} {M : MEM} (h : Rel B M) (hB : B ≤ 100000000) (x y : Int) : LkT B (dh_donkey x y M) (mo_donkey x y) := by
  have c3 : chg [0] M (up2 M 278 13 0) := chg.rf.up (by decide)
  have k1 : up2 M 278 13 0 278 1 = M 278 1 := rd_k (by decide)
  have hn := h.S.2.2.1
  have nw := now_in h
  unfold LkT dh_donkey
  by_cases hc : (0 ≤ x ∧ x < M 3 2) ∧ 0 ≤ y ∧ y ≤ 6
  · obtain ⟨hd, hy⟩ := hc
    obtain ⟨d, rfl⟩ : ∃ d : Nat, x = (d : Int) := ⟨x.toNat, by omega⟩
    obtain ⟨w1, w2, w3, w4⟩ := dnk h hB hd.2
    have w3' := w3
    obtain ⟨z1, z2, z3, z4, z5, z6, z7, z8, z9⟩ := w1
    obtain ⟨f1, f2, f3, f4⟩ := w3
    simp only [dsC, dsM] at f1 f2 f3 z7
    have x0 : wr (55 * (d : Int)) = ((55 * d : Nat) : Int) := (wr_i (by omega) (by omega)).trans (by omega)
    have x1 : wr (((55 * d : Nat) : Int) + 1) = ((55 * d + 1 : Nat) : Int) := (wr_i (by omega) (by omega)).trans (by omega)
    have x2 : wr (((55 * d : Nat) : Int) + 2) = ((55 * d + 2 : Nat) : Int) := (wr_i (by omega) (by omega)).trans (by omega)
    have hD : mo_isDonkey (d : Int) (up2 M 278 13 0) ≠ 0 := by rw [moDonkey_y h.S k1 hd]; decide
    have hI : mo_in y 0 6 ≠ 0 := by rw [moIn_y hy]; decide
    refine Tc_f (by rw [isDonkey_y hn hd.1 hd.2]; decide) (Tc_f (by omega) (Tc_t hy.2 (Tc_t (by omega) ?_)))
    rw [toNat_c]
    have ok : ∀ (P : Int → Prop) v, P v → Tc (some (v, up2 M 278 13 0)) (fun q => q.2 278 13 = 0 ∧ P q.1 ∧ Rel B q.2) := fun P v hp => Tc_some ⟨(by dsimp only; exact rd_same), hp, h.go0 c3⟩
    by_cases y0 : y = 0
    · refine Tc_t y0 (Tc_some ?_)
      show Tc (mo_donkey d y M) _
      unfold mo_donkey
      rw [x0, toNat_c]
      exact Tc_u (Tc_f hD (Tc_f hI (Tc_t y0 (Tc_t (by omega) (ok (· = _) _ (by rw [rd_a (by decide)]; exact f2.symm))))))
    refine Tc_f y0 ?_
    by_cases y1 : y = 1
    · refine Tc_t y1 (Tc_some ?_)
      show Tc (mo_donkey d y M) _
      unfold mo_donkey
      rw [x0, x1, toNat_c, toNat_c]
      exact Tc_u (Tc_f hD (Tc_f hI (Tc_f y0 (Tc_t y1 (Tc_t (by omega) (ok (· = _) _ (by rw [rd_a (by decide)]; exact f1.symm)))))))
    refine Tc_f y1 ?_
    by_cases y2 : y = 2
    · refine Tc_t y2 (Tc_some ?_)
      show Tc (mo_donkey d y M) _
      unfold mo_donkey
      rw [x0, x2, toNat_c, toNat_c]
      exact Tc_u (Tc_f hD (Tc_f hI (Tc_f y0 (Tc_f y1 (Tc_t y2 (Tc_t (by omega) (ok (· = _) _ (by rw [rd_a (by decide)]; exact f3.symm))))))))
    refine Tc_f y2 ?_
    by_cases y3 : y = 3
    · refine Tc_t y3 (Tc_some ?_)
      show Tc (mo_donkey d y M) _
      unfold mo_donkey
      rw [x0, x2, toNat_c, toNat_c]
      exact Tc_u (Tc_f hD (Tc_f hI (Tc_f y0 (Tc_f y1 (Tc_f y2 (Tc_t y3 (Tc_t (by omega) (ok (· = _) _ (by rw [rd_a (by decide), f3])))))))))
    refine Tc_f y3 ?_
    by_cases y4 : y = 4
    · refine Tc_t y4 (Tc_some ?_)
      show Tc (mo_donkey d y M) _
      unfold mo_donkey
      rw [x0, x2, toNat_c, toNat_c]
      exact Tc_u (Tc_f hD (Tc_f hI (Tc_f y0 (Tc_f y1 (Tc_f y2 (Tc_f y3 (Tc_t y4 (Tc_t (by omega) (ok (· = _) _ (by rw [rd_a (by decide), w4, toNat_c]))))))))))
    refine Tc_f y4 ?_
    obtain ⟨e1, e2, -, -⟩ := left_both (M1 := up2 M 278 13 0) h hB hd.2 (up2_ne (by decide))
    by_cases y5 : y = 5
    · refine Tc_t y5 (Tc_e e1 (Tc_some ?_))
      show Tc (mo_donkey d y M) _
      unfold mo_donkey
      exact Tc_u (Tc_f hD (Tc_f hI (Tc_f y0 (Tc_f y1 (Tc_f y2 (Tc_f y3 (Tc_f y4 (Tc_t y5 (Tc_e e2 (ok (· = _) _ rfl))))))))))
    refine Tc_f y5 ?_
    have lk := lock_of h chg.rf chg.rf (fun _ _ _ _ => rfl)
    obtain ⟨M2, p2, o1, o2⟩ := paceNow_eq (b := 10 + 3 * d) (d := (d : Int)) (n := M 280 d) (M := M) lk.1 (by omega) (by omega) ⟨z1, z2, z3, z4, z5, z6, z7, z8, z9⟩ (by unfold InR; omega)
    refine Tc_e p2 (Tc_some ?_)
    show Tc (mo_donkey d y M2) _
    have cM2 : chg [0] M M2 := fun a k n => by
      by_cases e21 : a = 21
      · subst e21
        refine o2 k (fun e => n ?_)
        subst e; decide
      · by_cases e23 : a = 23
        · subst e23; exact absurd (by decide : (0 : Nat) ∈ [0]) n
        · by_cases e24 : a = 24
          · subst e24; exact absurd (by decide : (0 : Nat) ∈ [0]) n
          · rw [o1 a e21 e23 e24]
    have r2 := (h.go0 cM2).go0 (chg.rf.up (a := 278) (k := 13) (x := 0) (by decide))
    have eM : ∀ c, 277 < c → M2 c = M c := fun c hc => o1 c (by omega) (by omega) (by omega)
    have q279 : up2 M2 278 13 0 279 = M 279 := by rw [up2_ne (by decide), eM 279 (by decide)]
    have eds : dsM 279 (55 * d) (up2 M2 278 13 0) = dsM 279 (55 * d) M := by unfold dsM; rw [q279]
    have okM : okD (M 280 d) (dsM 279 (55 * d) M) := okD_congr ⟨f1, f2, f3, f4⟩ ⟨z1, z2, z3, z4, z5, z6, z7, z8, z9⟩
    have env2 : envM (up2 M2 278 13 0) = passE M := by
      rw [lk.2.2.2.1]
      exact chg_env (cM2.tr (chg.rf.up (by decide))) (by decide) (by decide) (by decide) (by decide) h.N.2.2.2.2.2.1 h.C.2.2.1
    obtain ⟨M3, p3, o3⟩ := mo_pace_eq (a := 279) (o := 55 * d) (d := (d : Int)) (n := M 280 d) (M := up2 M2 278 13 0) (Or.inl rfl) r2.R (em_of (f := 224) r2.F r2.C (th0 (Or.inl rfl) r2.N)) (by omega) (by omega) (by omega) (by rw [eds]; exact okM) (by rw [q279]; omega)
    rw [eds, q279, env2, nw.2.2] at p3
    have ep : paceD (passE M) d (M 3 3) (dsM 279 (55 * d) M) = paceD (passE M) d (M 3 3) (dsC (10 + 3 * d) M) := by
      unfold paceD; rw [gvD_congr (n := M 280 d) z3 z4 w3']
    rw [ep] at p3
    have hD2 : mo_isDonkey (d : Int) (up2 M2 278 13 0) ≠ 0 := by rw [moDonkey_y h.S (by rw [rd_k (by decide), eM 278 (by decide)]) hd]; decide
    unfold mo_donkey
    refine Tc_u (Tc_f hD2 (Tc_f hI (Tc_f y0 (Tc_f y1 (Tc_f y2 (Tc_f y3 (Tc_f y4 (Tc_f y5 (Tc_e p3 (Tc_some ⟨?_, rfl, ?_⟩))))))))))
    · dsimp only
      rw [o3.2 13 (by omega) (by decide) (by decide)]; exact rd_same
    · refine r2.go0 (fun a k n => ?_)
      by_cases e : a = 278
      · subst e
        by_cases z : (k < 14 ∨ 18 < k) ∧ k ≠ 22 ∧ k ≠ 23
        · exact o3.2 k z.1 z.2.1 z.2.2
        · exact absurd (by rw [rg278 (by omega)]; decide) n
      · show M3 a k = _
        rw [o3.1 a e]
  · have mo : Tc (mo_donkey x y M) (fun q => q.2 278 13 = 1 ∧ Rel B q.2) := by
      have fin : Tc (mo_donkey_j23 (up2 M 278 13 0)) (fun q => q.2 278 13 = 1 ∧ Rel B q.2) := by
        unfold mo_donkey_j23
        exact Tc_e (lost_eq _) (Tc_some ⟨(by dsimp only; exact rd_same), h.go0 (c3.up (by decide))⟩)
      unfold mo_donkey
      refine Tc_u (Tc_i (fun _ => fin) (fun q => Tc_t ?_ fin))
      exact moIn_n (fun z => hc ⟨Classical.byContradiction fun w => q (moDonkey_n h.S k1 w), z⟩)
    refine Tc_i (fun _ => Tc_some mo) (fun q => Tc_i (fun _ => Tc_some mo) (fun q2 => Tc_f ?_ (Tc_some mo)))
    intro z
    exact hc ⟨Classical.byContradiction fun w => q (isDonkey_n hn w), by omega, z⟩
