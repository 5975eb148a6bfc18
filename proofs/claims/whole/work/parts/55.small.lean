-- ===== thistles, sow, set =====
theorem place_eq {M : MEM} (h : C_S M) (x p : Int) : dh_isPlace x p M = some (if 0 ≤ x ∧ x < M 3 2 ∧ 0 ≤ p ∧ p < M (10 + 3 * x.toNat) 2 then 1 else 0) := by
  obtain ⟨s1, s2, s3, s3a, s3b, s4⟩ := h
  unfold dh_isPlace
  by_cases hd : 0 ≤ x ∧ x < M 3 2
  · rw [isDonkey_y s3 hd.1 hd.2, if_neg (by decide)]
    by_cases hp : p < 0
    · rw [if_pos hp, if_neg (by omega)]
    · rw [if_neg hp, if_pos (by omega)]
      by_cases hq : M (10 + 3 * x.toNat) 2 ≤ p
      · rw [if_pos hq, if_neg (by omega)]
      · rw [if_neg hq, if_pos (by omega)]
  · rw [isDonkey_n s3 hd, if_pos rfl, if_neg (by omega)]
theorem moPlace_eq {M M1 : MEM} (h : C_S M) (h1 : M1 278 1 = M 278 1) (h2 : M1 280 = M 280) (x p : Int) : mo_isPlace x p M1 = some (if 0 ≤ x ∧ x < M 3 2 ∧ 0 ≤ p ∧ p < M (10 + 3 * x.toNat) 2 then 1 else 0) := by
  have hS := h
  obtain ⟨s1, s2, s3, s3a, s3b, s4⟩ := h
  unfold mo_isPlace
  by_cases hd : 0 ≤ x ∧ x < M 3 2
  · obtain ⟨q1, q2, q3⟩ := s4 x.toNat (by omega)
    rw [moDonkey_y hS h1 hd, if_neg (by decide), if_pos (by omega), h2, q1, wr_i (by omega) (by omega)]
    by_cases hp : 0 ≤ p ∧ p < M (10 + 3 * x.toNat) 2
    · rw [moIn_y (by omega), if_neg (by decide), if_pos (by omega)]
    · rw [moIn_n (by omega), if_pos rfl, if_neg (by omega)]
  · rw [moDonkey_n hS h1 hd, if_pos rfl, if_neg (by omega)]
theorem D_one {B : Int} {M M' : MEM} {d : Nat} (hD : C_D B M) (hd : (d : Int) < M 3 2) (hN : M 3 2 ≤ 3) (c1 : ∀ c, 10 ≤ c → c ≤ 18 → (c < 10 + 3 * d ∨ 10 + 3 * d + 3 ≤ c) → M' c = M c) (c2 : M' (10 + 3 * d + 2) = M (10 + 3 * d + 2)) (c3 : M' (10 + 3 * d) 5 = M (10 + 3 * d) 5) (c4 : M' (10 + 3 * d) 2 = M (10 + 3 * d) 2)
    (m1 : ∀ k, (k < 55 * d ∨ 55 * d + 15 ≤ k) → M' 279 k = M 279 k) (e : M' 3 = M 3) (e280 : M' 280 = M 280) (q1 : eqD (M 280 d) (dsC (10 + 3 * d) M') (dsM 279 (55 * d) M')) (q2 : okD (M 280 d) (dsC (10 + 3 * d) M')) (q3 : ∀ p : Nat, M 280 d ≤ (p : Int) → p < 12 → M' 279 (55 * d + 3 + p) = M 279 (55 * d + 3 + p)) : C_D B M' := by
  obtain ⟨t1, t2, t3, t4⟩ := hD
  unfold C_D snS
  rw [e, e280]
  refine ⟨by rw [m1 _ (by omega)]; exact t1, t2, t3, fun d' hd' => ?_⟩
  obtain ⟨t5, t6⟩ := t4 d' hd'
  by_cases ed : d' = d
  · subst ed
    rw [show 3 + 7 + 3 * d' = 10 + 3 * d' by omega] at t5 t6 ⊢
    rw [Nat.zero_add] at t6 ⊢
    obtain ⟨g1, g2, g3, g4, g5⟩ := t6
    refine ⟨by rw [c4]; exact t5, q1, q2, fun p h1 h2 => by rw [q3 p h1 h2]; exact g3 p h1 h2, by rw [c3]; exact g4, fun j h1 h2 h3 => ?_⟩
    rw [c3] at h2 h3
    rw [c2, m1 _ (by omega)]
    exact g5 j h1 h2 h3
  · have o : ∀ c, 10 + 3 * d' ≤ c → c < 10 + 3 * d' + 3 → M' c = M c := fun c a b => c1 c (by omega) (by omega) (by omega)
    refine ⟨by rw [o _ (by omega) (by omega)]; exact t5, t6.cg (Int.le_refl _) (o _ (by omega) (by omega)) (o _ (by omega) (by omega)) (fun k _ => by rw [o _ (by omega) (by omega)]) (fun k a b => m1 k (by omega))⟩
theorem c_thistles {B : Int} {M : MEM} (h : Rel B M) (hB : B ≤ 100000000) (x p : Int) : Lk B ((dh_thistles x p M).bind fun r => some (r, M)) (mo_thistles x p) := by
  have c3 : chg [0] M (up2 M 278 13 0) := chg.rf.up (by decide)
  have k1 : up2 M 278 13 0 278 1 = M 278 1 := rd_k (by decide)
  unfold Lk dh_thistles
  rw [place_eq h.S]
  by_cases hc : 0 ≤ x ∧ x < M 3 2 ∧ 0 ≤ p ∧ p < M (10 + 3 * x.toNat) 2
  · obtain ⟨d, rfl⟩ : ∃ d : Nat, x = (d : Int) := ⟨x.toNat, by omega⟩
    obtain ⟨i, rfl⟩ : ∃ i : Nat, p = (i : Int) := ⟨p.toNat, by omega⟩
    rw [toNat_c] at hc
    obtain ⟨w1, w2, w3, w4⟩ := dnk h hB (d := d) (by omega)
    have hn := h.S.2.2.1
    have hth : M (10 + 3 * d + 1) i = M 279 (55 * d + 3 + i) := w3.2.2.2 i (by omega)
    have et : be_thistlesOn (10 + 3 * d) (i : Int) M = some (M (10 + 3 * d + 1) i) := by
      unfold be_thistlesOn
      rw [if_neg (by omega), if_neg (by have := w1.2.1; omega), if_pos (by have := w1.2.1; omega), toNat_c]
    rw [Option.bind_some, toNat_c, if_pos hc, if_neg (by decide), if_pos (by omega), et]
    refine Tc_u (Tc_u (Tc_some ?_))
    dsimp only
    unfold mo_thistles
    have wx : wr (wr (wr (55 * (d : Int)) + 3) + (i : Int)) = ((55 * d + 3 + i : Nat) : Int) := by rw [wr_i (x := 55 * (d : Int)) (by omega) (by omega), wr_i (x := 55 * (d : Int) + 3) (by omega) (by omega), wr_i (by omega) (by have := w1.2.1; omega)]; omega
    rw [wx, toNat_c]
    refine Tc_u (Tc_e (moPlace_eq h.S k1 (up2_ne (by decide)) _ _) ?_)
    rw [toNat_c, if_pos hc]
    refine Tc_f (by decide) (Tc_t (by have := w1.2.1; omega) (Tc_some ⟨?_, h.go0 c3⟩))
    dsimp only
    rw [rd_a (by decide)]; exact hth.symm
  · rw [Option.bind_some, if_neg hc, if_pos rfl]
    refine Tc_u (Tc_some ?_)
    unfold mo_thistles
    refine Tc_u (Tc_e (moPlace_eq h.S k1 (up2_ne (by decide)) _ _) ?_)
    rw [if_neg hc]
    exact Tc_t rfl (Tc_some ⟨rfl, h.go0 c3⟩)
theorem c_sow {B : Int} {M : MEM} (h : Rel B M) (hB : B ≤ 100000000) (x p v : Int) : Lk B (dh_sow x p v M) (mo_sow x p v) := by
  have c3 : chg [0] M (up2 M 278 13 0) := chg.rf.up (by decide)
  have k1 : up2 M 278 13 0 278 1 = M 278 1 := rd_k (by decide)
  have hn := h.S.2.2.1
  unfold Lk dh_sow
  rw [place_eq h.S]
  by_cases hc : 0 ≤ x ∧ x < M 3 2 ∧ 0 ≤ p ∧ p < M (10 + 3 * x.toNat) 2
  · obtain ⟨d, rfl⟩ : ∃ d : Nat, x = (d : Int) := ⟨x.toNat, by omega⟩
    obtain ⟨i, rfl⟩ : ∃ i : Nat, p = (i : Int) := ⟨p.toNat, by omega⟩
    rw [toNat_c] at hc
    obtain ⟨w1, w2, w3, w4⟩ := dnk h hB (d := d) (by omega)
    have hth : M (10 + 3 * d + 1) i = M 279 (55 * d + 3 + i) := w3.2.2.2 i (by omega)
    have hi : i < 12 := by have := w1.2.1; omega
    have et : be_thistlesOn (10 + 3 * d) (i : Int) M = some (M (10 + 3 * d + 1) i) := by
      unfold be_thistlesOn
      rw [if_neg (by omega), if_neg (by omega), if_pos (by omega), toNat_c]
    have ep : be_put (10 + 3 * d) (i : Int) v M = some (up2 M (10 + 3 * d + 1) i v) := by
      unfold be_put
      rw [if_neg (by omega), if_neg (by omega), if_pos (by omega), toNat_c]
      rfl
    rw [Option.bind_some, toNat_c, if_pos hc, if_neg (by decide)]
    have wx : wr (wr (wr (55 * (d : Int)) + 3) + (i : Int)) = ((55 * d + 3 + i : Nat) : Int) := by rw [wr_i (x := 55 * (d : Int)) (by omega) (by omega), wr_i (x := 55 * (d : Int) + 3) (by omega) (by omega), wr_i (by omega) (by omega)]; omega
    by_cases hv : 0 ≤ v ∧ v ≤ 9
    · refine Tc_f (by omega) (Tc_t (by omega) (Tc_t (by omega) (Tc_e et (Tc_e ep (Tc_some ?_)))))
      dsimp only
      unfold mo_sow
      rw [wx, toNat_c]
      refine Tc_u (Tc_e (moPlace_eq (M := M) h.S (by rw [rd_k (by decide), rd_a (by omega)]) (by rw [up2_ne (by decide), up2_ne (by omega)]) _ _) ?_)
      rw [toNat_c, if_pos hc]
      refine Tc_f (by decide) (Tc_f (by rw [moIn_y hv]; decide) (Tc_t (by omega) (Tc_t (by omega) (Tc_u (Tc_some ⟨?_, ?_⟩)))))
      · dsimp only
        rw [rd_a (by decide), rd_a (by omega)]; exact hth.symm
      · dsimp only
        generalize hM : up2 (up2 (up2 M (10 + 3 * d + 1) i v) 278 13 0) 279 (55 * d + 3 + i) v = M'
        have g1 : ∀ c, c ≠ 10 + 3 * d + 1 → c ≠ 278 → c ≠ 279 → M' c = M c := fun c a b e => by rw [← hM, up2_ne e, up2_ne b, up2_ne a]
        have g2 : ∀ k, M' (10 + 3 * d + 1) k = if k = i then v else M (10 + 3 * d + 1) k := fun k => by
          rw [← hM, rd_a (by omega), rd_a (by omega)]
          by_cases z : k = i
          · subst z; rw [rd_same, if_pos rfl]
          · rw [rd_k z, if_neg z]
        have g3 : ∀ k, M' 279 k = if k = 55 * d + 3 + i then v else M 279 k := fun k => by
          rw [← hM]
          by_cases z : k = 55 * d + 3 + i
          · subst z; rw [rd_same, if_pos rfl]
          · rw [rd_k z, if_neg z, rd_a (by decide), rd_a (by omega)]
        have cc : chg [0, 4] M M' := by
          rw [← hM]
          exact ((chg.rf.up (by rw [rg_D (by omega) (by omega) (Or.inr (by omega))]; decide)).up (by decide)).up (by rw [rg_279]; decide)
        refine h.go (Int.le_refl _) cc (by decide) (fun q => absurd q (by decide)) (fun q => absurd q (by decide)) (fun q => absurd q (by decide)) (fun _ => ?_) (fun q => absurd q (by decide)) (fun q => absurd q (by decide)) (fun q => absurd q (by decide)) (fun q => absurd q (by decide)) (fun q => absurd q (by decide)) (fun q => absurd q (by decide)) (fun q => absurd q (by decide))
        have gb := g1 (10 + 3 * d) (by omega) (by omega) (by omega)
        refine D_one (d := d) h.D (by omega) hn (fun c a b e => g1 c (by omega) (by omega) (by omega)) (g1 _ (by omega) (by omega) (by omega)) (by rw [gb]) (by rw [gb]) (fun k hk => by rw [g3, if_neg (by omega)]) (g1 3 (by omega) (by omega) (by omega)) (g1 280 (by omega) (by omega) (by omega)) ?_ ?_ (fun q a b => by rw [g3, if_neg (by omega)])
        · obtain ⟨y1, y2, y3, y4⟩ := w3
          simp only [dsC, dsM] at y1 y2 y3 y4
          refine ⟨?_, ?_, ?_, fun q hq => ?_⟩
          · show M' (10 + 3 * d) 3 = M' 279 (55 * d + 1); rw [gb, g3, if_neg (by omega)]; exact y1
          · show M' (10 + 3 * d) 4 = M' 279 (55 * d); rw [gb, g3, if_neg (by omega)]; exact y2
          · show M' (10 + 3 * d) 5 = M' 279 (55 * d + 2); rw [gb, g3, if_neg (by omega)]; exact y3
          · show M' (10 + 3 * d + 1) q = M' 279 (55 * d + 3 + q)
            rw [g2, g3]
            by_cases z : q = i
            · rw [if_pos z, if_pos (by omega)]
            · rw [if_neg z, if_neg (by omega)]; exact y4 q hq
        · obtain ⟨z1, z2, z3, z4, z5, z6, z7, z8, z9⟩ := w1
          simp only [dsC] at z3 z4 z5 z6 z7 z8 z9
          refine ⟨z1, z2, ?_, ?_, ?_, ?_, ?_, ?_, fun q hq => ?_⟩
          · show 0 ≤ M' (10 + 3 * d) 3; rw [gb]; exact z3
          · show M' (10 + 3 * d) 3 < _; rw [gb]; exact z4
          · show 0 ≤ M' (10 + 3 * d) 4; rw [gb]; exact z5
          · show M' (10 + 3 * d) 4 ≤ _; rw [gb]; exact z6
          · show 0 ≤ M' (10 + 3 * d) 5; rw [gb]; exact z7
          · show M' (10 + 3 * d) 5 < _; rw [gb]; exact z8
          · show 0 ≤ M' (10 + 3 * d + 1) q ∧ M' (10 + 3 * d + 1) q ≤ 9
            rw [g2]
            by_cases z : q = i
            · rw [if_pos z]; exact hv
            · rw [if_neg z]; exact z9 q hq
    · have mo : Tc (mo_sow d i v M) (fun q => q.1 = -1 ∧ Rel B q.2) := by
        unfold mo_sow
        refine Tc_u (Tc_e (moPlace_eq h.S k1 (up2_ne (by decide)) _ _) ?_)
        rw [toNat_c, if_pos hc]
        exact Tc_f (by decide) (Tc_t (by rw [moIn_n hv]) (Tc_some ⟨rfl, h.go0 c3⟩))
      exact Tc_i (fun _ => Tc_some mo) (fun q => Tc_f (by omega) (Tc_some mo))
  · rw [Option.bind_some, if_neg hc]
    refine Tc_t rfl (Tc_some ?_)
    unfold mo_sow
    refine Tc_u (Tc_e (moPlace_eq h.S k1 (up2_ne (by decide)) _ _) ?_)
    rw [if_neg hc]
    exact Tc_t rfl (Tc_some ⟨rfl, h.go0 c3⟩)
