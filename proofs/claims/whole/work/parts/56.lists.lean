-- ===== eat, tear, forget, end =====
theorem c_eat {B : Int} {M : MEM} (h : Rel B M) : Lk B (dh_eat M) mo_eat := by
  obtain ⟨c1, c2, c4, c5⟩ := h.C
  unfold Lk dh_eat ca_dropLatest
  by_cases z : 1 ≤ M 5 4
  · rw [show (if 1 ≤ M 5 4 then _ else _) = _ from if_pos z, Option.bind_some, wr_i (by omega) (by omega)]
    refine Tc_e (b := (1, up2 M 5 4 (M 5 4 - 1))) rfl (Tc_f (by show ¬ (1 : Int) = 0; decide) (Tc_some ?_))
    dsimp only
    unfold mo_eat
    have k7 : up2 (up2 M 5 4 (M 5 4 - 1)) 278 13 0 278 7 = M 278 7 := by rw [rd_k (by decide), rd_a (by decide)]
    refine Tc_u (Tc_f (by rw [k7]; omega) (Tc_u (Tc_some ?_)))
    rw [k7, wr_i (by omega) (by omega)]
    refine ⟨?_, ?_⟩
    · dsimp only; rw [rd_same, rd_same]; omega
    · dsimp only
      have cc : chg [0, 5] M (up2 (up2 (up2 M 5 4 (M 5 4 - 1)) 278 13 0) 278 7 (M 278 7 - 1)) := ((chg.rf.up (by decide)).up (by decide)).up (by decide)
      refine h.go (Int.le_refl _) cc (by decide) (fun q => absurd q (by decide)) (fun q => absurd q (by decide)) (fun q => absurd q (by decide)) (fun q => absurd q (by decide)) (fun _ => ?_) (fun q => absurd q (by decide)) (fun q => absurd q (by decide)) (fun q => absurd q (by decide)) (fun q => absurd q (by decide)) (fun q => absurd q (by decide)) (fun q => absurd q (by decide))
      have g1 : ∀ c, c ≠ 5 → c ≠ 278 → up2 (up2 (up2 M 5 4 (M 5 4 - 1)) 278 13 0) 278 7 (M 278 7 - 1) c = M c := fun c a b => by rw [up2_ne b, up2_ne b, up2_ne a]
      have g2 : up2 (up2 (up2 M 5 4 (M 5 4 - 1)) 278 13 0) 278 7 (M 278 7 - 1) 5 4 = M 5 4 - 1 := by rw [rd_a (by decide), rd_a (by decide), rd_same]
      have g3 : up2 (up2 (up2 M 5 4 (M 5 4 - 1)) 278 13 0) 278 7 (M 278 7 - 1) 278 7 = M 278 7 - 1 := rd_same
      generalize up2 (up2 (up2 M 5 4 (M 5 4 - 1)) 278 13 0) 278 7 (M 278 7 - 1) = M' at *
      unfold C_C snC
      rw [g1 (5 + 1) (by decide) (by decide), g1 (5 + 2) (by decide) (by decide), g1 (5 + 3) (by decide) (by decide), g1 (5 + 4) (by decide) (by decide), g1 282 (by decide) (by decide)]
      refine ⟨by rw [g2, g3]; omega, by rw [g3]; omega, by rw [g3]; omega, fun i hi => c5 i (by rw [g3] at hi; omega)⟩
  · rw [show (if 1 ≤ M 5 4 then _ else _) = _ from if_neg z]
    refine Tc_e (b := (0, M)) rfl (Tc_t rfl (Tc_some ?_))
    unfold mo_eat
    exact Tc_u (Tc_t (by rw [rd_k (by decide)]; show M 278 7 = 0; omega) (Tc_some ⟨rfl, h.go0 (chg.rf.up (by decide))⟩))
theorem c_tear {B : Int} {M : MEM} (h : Rel B M) : Lk B (dh_tear M) mo_tear := by
  obtain ⟨o1, o2, o3, o4⟩ := h.O
  unfold Lk dh_tear
  refine Tc_u (Tc_some ?_)
  unfold mo_tear
  refine Tc_u (Tc_u (Tc_some ⟨?_, ?_⟩))
  · dsimp only; rw [rd_k (by decide), rd_a (by decide)]; exact o1
  · dsimp only
    have cc : chg [0, 6] M (up2 (up2 (up2 M 34 6 0) 278 13 0) 278 41 0) := ((chg.rf.up (by decide)).up (by decide)).up (by decide)
    refine h.go (Int.le_refl _) cc (by decide) (fun q => absurd q (by decide)) (fun q => absurd q (by decide)) (fun q => absurd q (by decide)) (fun q => absurd q (by decide)) (fun q => absurd q (by decide)) (fun _ => ?_) (fun q => absurd q (by decide)) (fun q => absurd q (by decide)) (fun q => absurd q (by decide)) (fun q => absurd q (by decide)) (fun q => absurd q (by decide))
    have g2 : up2 (up2 (up2 M 34 6 0) 278 13 0) 278 41 0 34 6 = 0 := by rw [rd_a (by decide), rd_a (by decide), rd_same]
    have g3 : up2 (up2 (up2 M 34 6 0) 278 13 0) 278 41 0 278 41 = 0 := rd_same
    unfold C_O
    rw [g2, g3]
    exact ⟨rfl, by decide, by decide, fun i hi => by omega⟩
theorem c_forget {B : Int} {M : MEM} (h : Rel B M) : Lk B (dh_forget M) mo_forget := by
  obtain ⟨o1, o2, o3, o4⟩ := h.H
  unfold Lk dh_forget
  refine Tc_u (Tc_some ?_)
  unfold mo_forget
  refine Tc_u (Tc_u (Tc_some ⟨?_, ?_⟩))
  · dsimp only; rw [rd_k (by decide), rd_a (by decide)]; exact o1
  · dsimp only
    have cc : chg [0, 7] M (up2 (up2 (up2 M 41 3 0) 278 13 0) 278 49 0) := ((chg.rf.up (by decide)).up (by decide)).up (by decide)
    refine h.go (Int.le_refl _) cc (by decide) (fun q => absurd q (by decide)) (fun q => absurd q (by decide)) (fun q => absurd q (by decide)) (fun q => absurd q (by decide)) (fun q => absurd q (by decide)) (fun q => absurd q (by decide)) (fun _ => ?_) (fun q => absurd q (by decide)) (fun q => absurd q (by decide)) (fun q => absurd q (by decide)) (fun q => absurd q (by decide))
    have g2 : up2 (up2 (up2 M 41 3 0) 278 13 0) 278 49 0 41 3 = 0 := by rw [rd_a (by decide), rd_a (by decide), rd_same]
    have g3 : up2 (up2 (up2 M 41 3 0) 278 13 0) 278 49 0 278 49 = 0 := rd_same
    unfold C_H
    rw [g2, g3]
    exact ⟨rfl, by decide, by decide, fun i hi => by omega⟩
theorem c_end {B : Int} {M : MEM} (h : Rel B M) (x : Int) : Lk B (dh_end x M) (mo_end x) := by
  obtain ⟨t1, t2, t3, t4⟩ := h.T
  have c3 : chg [0] M (up2 M 278 13 0) := chg.rf.up (by decide)
  unfold Lk dh_end tx_cut
  by_cases hx : 0 ≤ x ∧ x ≤ M 1 1
  · refine Tc_e (b := (1, up2 M 1 1 x)) (by rw [if_neg (by omega), if_pos hx.2]; rfl) (Tc_some ?_)
    dsimp only
    unfold mo_end
    have k : up2 (up2 M 1 1 x) 278 13 0 278 10 = M 1 1 := by rw [rd_k (by decide), rd_a (by decide)]; exact t1
    refine Tc_u (Tc_f (by rw [k, moIn_y hx]; decide) (Tc_u (Tc_some ⟨rfl, ?_⟩)))
    dsimp only
    have cc : chg [0, 1] M (up2 (up2 (up2 M 1 1 x) 278 13 0) 278 10 x) := ((chg.rf.up (by decide)).up (by decide)).up (by decide)
    refine h.go (Int.le_refl _) cc (by decide) (fun _ => ?_) (fun q => absurd q (by decide)) (fun q => absurd q (by decide)) (fun q => absurd q (by decide)) (fun q => absurd q (by decide)) (fun q => absurd q (by decide)) (fun q => absurd q (by decide)) (fun q => absurd q (by decide)) (fun q => absurd q (by decide)) (fun q => absurd q (by decide)) (fun q => absurd q (by decide))
    have g1 : ∀ c, c ≠ 1 → c ≠ 278 → up2 (up2 (up2 M 1 1 x) 278 13 0) 278 10 x c = M c := fun c a b => by rw [up2_ne b, up2_ne b, up2_ne a]
    have g2 : up2 (up2 (up2 M 1 1 x) 278 13 0) 278 10 x 1 1 = x := by rw [rd_a (by decide), rd_a (by decide), rd_same]
    have g3 : up2 (up2 (up2 M 1 1 x) 278 13 0) 278 10 x 278 10 = x := rd_same
    generalize up2 (up2 (up2 M 1 1 x) 278 13 0) 278 10 x = M' at *
    unfold C_T
    rw [g2, g3, g1 2 (by decide) (by decide), g1 283 (by decide) (by decide)]
    exact ⟨rfl, hx.1, by omega, fun i hi => t4 i (by omega)⟩
  · have e0 : (if x < 0 then some ((0 : Int), M) else if x ≤ M 1 1 then (some (up2 M 1 1 x)).bind fun M3 => some (1, M3) else some (0, M)) = some (0, M) := by
      by_cases z : x < 0
      · rw [if_pos z]
      · rw [if_neg z, if_neg (by omega)]
    refine Tc_e e0 (Tc_some ?_)
    dsimp only
    unfold mo_end
    have k : up2 M 278 13 0 278 10 = M 1 1 := by rw [rd_k (by decide)]; exact t1
    exact Tc_u (Tc_t (by rw [k, moIn_n hx]) (Tc_some ⟨rfl, h.go0 c3⟩))
-- ===== heard, owe, carrot =====
theorem c_heard {B : Int} {M : MEM} (h : Rel B M) (x a b : Int) : Lk B (dh_heard x a b M) (mo_heard x a b) := by
  have c3 : chg [0] M (up2 M 278 13 0) := chg.rf.up (by decide)
  have k1 : up2 M 278 13 0 278 1 = M 278 1 := rd_k (by decide)
  obtain ⟨s1, s2, s3, s3a, s3b, s4⟩ := h.S
  obtain ⟨o1, o2, o3, o4⟩ := h.H
  unfold Lk dh_heard
  have hf : dh_isFar b = if 1 ≤ b ∧ b ≤ 600 then 1 else 0 := by
    unfold dh_isFar
    by_cases q : b < 1
    · rw [if_pos q, if_neg (by omega)]
    · by_cases q2 : 600 < b
      · rw [if_neg q, if_pos q2, if_neg (by omega)]
      · rw [if_neg q, if_neg q2, if_pos (by omega)]
  have hm : mo_isMore b = if 1 ≤ b ∧ b ≤ 600 then 1 else 0 := mo_in_eq _ _ _
  by_cases hc : (0 ≤ x ∧ x < M 3 2) ∧ (0 ≤ a ∧ a ≤ 60) ∧ (1 ≤ b ∧ b ≤ 600)
  · obtain ⟨hd, ha, hb⟩ := hc
    refine Tc_f (by rw [isDonkey_y s3 hd.1 hd.2]; decide) (Tc_f (by omega) (Tc_f (by omega) (Tc_f (by rw [hf, if_pos hb]; decide) ?_)))
    obtain ⟨n, hn⟩ : ∃ n : Nat, M 41 3 = (n : Int) := ⟨(M 41 3).toNat, by omega⟩
    by_cases h8 : M 41 3 = 8
    · have e : rm_add x a b M = some (0, M) := by unfold rm_add; rw [if_neg (by omega), if_neg (by omega)]
      refine Tc_e e (Tc_t rfl (Tc_some ?_))
      dsimp only
      unfold mo_heard
      exact Tc_u (Tc_f (by rw [moDonkey_y h.S k1 hd]; decide) (Tc_f (by rw [moIn_y ha]; decide) (Tc_f (by rw [hm, if_pos hb]; decide) (Tc_t (by rw [rd_k (by decide)]; show M 278 49 = 8; omega) (Tc_some ⟨rfl, h.go0 c3⟩)))))
    · have e : rm_add x a b M = some (1, up2 (up2 (up2 (up2 M 42 n x) 43 n a) 44 n b) 41 3 ((n : Int) + 1)) := by
        have r1 : up2 M 42 n x 41 3 = (n : Int) := by rw [rd_a (by decide)]; exact hn
        have r2 : up2 (up2 M 42 n x) 43 n a 41 3 = (n : Int) := by rw [rd_a (by decide)]; exact r1
        have r3 : up2 (up2 (up2 M 42 n x) 43 n a) 44 n b 41 3 = (n : Int) := by rw [rd_a (by decide)]; exact r2
        unfold rm_add
        rw [if_neg (by omega), if_pos (by omega), if_pos (by omega), hn, toNat_c, Option.bind_some, r1, if_pos (by omega), toNat_c, Option.bind_some, r2, if_pos (by omega), toNat_c, Option.bind_some, r3, wr_i (by omega) (by omega)]
        rfl
      have g1 : ∀ c, c ≠ 41 → c ≠ 42 → c ≠ 43 → c ≠ 44 → up2 (up2 (up2 (up2 M 42 n x) 43 n a) 44 n b) 41 3 ((n : Int) + 1) c = M c := fun c a b d e => by rw [up2_ne a, up2_ne e, up2_ne d, up2_ne b]
      have g2 : up2 (up2 (up2 (up2 M 42 n x) 43 n a) 44 n b) 41 3 ((n : Int) + 1) 41 3 = (n : Int) + 1 := rd_same
      have g42 : ∀ k, up2 (up2 (up2 (up2 M 42 n x) 43 n a) 44 n b) 41 3 ((n : Int) + 1) 42 k = if k = n then x else M 42 k := fun k => by
        rw [rd_a (by decide), rd_a (by decide), rd_a (by decide)]
        by_cases z : k = n
        · subst z; rw [rd_same, if_pos rfl]
        · rw [rd_k z, if_neg z]
      have g43 : ∀ k, up2 (up2 (up2 (up2 M 42 n x) 43 n a) 44 n b) 41 3 ((n : Int) + 1) 43 k = if k = n then a else M 43 k := fun k => by
        rw [rd_a (by decide), rd_a (by decide)]
        by_cases z : k = n
        · subst z; rw [rd_same, if_pos rfl]
        · rw [rd_k z, if_neg z, rd_a (by decide)]
      have g44 : ∀ k, up2 (up2 (up2 (up2 M 42 n x) 43 n a) 44 n b) 41 3 ((n : Int) + 1) 44 k = if k = n then b else M 44 k := fun k => by
        rw [rd_a (by decide)]
        by_cases z : k = n
        · subst z; rw [rd_same, if_pos rfl]
        · rw [rd_k z, if_neg z, rd_a (by decide), rd_a (by decide)]
      have cc : chg [0, 7] M (up2 (up2 (up2 (up2 M 42 n x) 43 n a) 44 n b) 41 3 ((n : Int) + 1)) := (((chg.rf.up (by rw [show rg 42 n = 7 from rfl]; decide)).up (by rw [show rg 43 n = 7 from rfl]; decide)).up (by rw [show rg 44 n = 7 from rfl]; decide)).up (by decide)
      generalize up2 (up2 (up2 (up2 M 42 n x) 43 n a) 44 n b) 41 3 ((n : Int) + 1) = M2 at *
      refine Tc_e e (Tc_f (by show ¬ (1 : Int) = 0; decide) (Tc_some ?_))
      dsimp only
      rw [g2]
      unfold mo_heard
      have k49 : up2 M2 278 13 0 278 49 = (n : Int) := by rw [rd_k (by decide), g1 278 (by decide) (by decide) (by decide) (by decide), o1]; exact hn
      refine Tc_u (Tc_f (by rw [moDonkey_y h.S (by rw [rd_k (by decide), g1 278 (by decide) (by decide) (by decide) (by decide)]) hd]; decide) (Tc_f (by rw [moIn_y ha]; decide) (Tc_f (by rw [hm, if_pos hb]; decide) (Tc_f (by rw [k49]; omega) ?_))))
      have w3 : wr (3 * (n : Int)) = ((3 * n : Nat) : Int) := (wr_i (by omega) (by omega)).trans (by omega)
      have w31 : wr (((3 * n : Nat) : Int) + 1) = ((3 * n + 1 : Nat) : Int) := (wr_i (by omega) (by omega)).trans (by omega)
      have w32 : wr (((3 * n : Nat) : Int) + 2) = ((3 * n + 2 : Nat) : Int) := (wr_i (by omega) (by omega)).trans (by omega)
      rw [k49, w3]
      refine Tc_t (by omega) (Tc_u ?_)
      rw [toNat_c]
      have r1 : up2 (up2 M2 278 13 0) 302 (3 * n) x 278 49 = (n : Int) := by rw [rd_a (by decide)]; exact k49
      rw [r1, w3, w31]
      refine Tc_t (by omega) (Tc_u ?_)
      rw [toNat_c]
      have r2 : up2 (up2 (up2 M2 278 13 0) 302 (3 * n) x) 302 (3 * n + 1) a 278 49 = (n : Int) := by rw [rd_a (by decide)]; exact r1
      rw [r2, w3, w32]
      refine Tc_t (by omega) (Tc_u ?_)
      rw [toNat_c]
      have r3 : up2 (up2 (up2 (up2 M2 278 13 0) 302 (3 * n) x) 302 (3 * n + 1) a) 302 (3 * n + 2) b 278 49 = (n : Int) := by rw [rd_a (by decide)]; exact r2
      rw [r3, wr_i (x := (n : Int) + 1) (by omega) (by omega)]
      refine Tc_u (Tc_some ⟨by dsimp only; exact rd_same, ?_⟩)
      dsimp only
      have cF : chg [0, 7] M (up2 (up2 (up2 (up2 (up2 M2 278 13 0) 302 (3 * n) x) 302 (3 * n + 1) a) 302 (3 * n + 2) b) 278 49 ((n : Int) + 1)) := ((((cc.up (by decide)).up (by rw [show rg 302 (3 * n) = 7 from rfl]; decide)).up (by rw [show rg 302 (3 * n + 1) = 7 from rfl]; decide)).up (by rw [show rg 302 (3 * n + 2) = 7 from rfl]; decide)).up (by decide)
      refine h.go (Int.le_refl _) cF (by decide) (fun q => absurd q (by decide)) (fun q => absurd q (by decide)) (fun q => absurd q (by decide)) (fun q => absurd q (by decide)) (fun q => absurd q (by decide)) (fun q => absurd q (by decide)) (fun _ => ?_) (fun q => absurd q (by decide)) (fun q => absurd q (by decide)) (fun q => absurd q (by decide)) (fun q => absurd q (by decide))
      have f1 : ∀ c, c ≠ 278 → c ≠ 302 → up2 (up2 (up2 (up2 (up2 M2 278 13 0) 302 (3 * n) x) 302 (3 * n + 1) a) 302 (3 * n + 2) b) 278 49 ((n : Int) + 1) c = M2 c := fun c a b => by rw [up2_ne a, up2_ne b, up2_ne b, up2_ne b, up2_ne a]
      have f2 : up2 (up2 (up2 (up2 (up2 M2 278 13 0) 302 (3 * n) x) 302 (3 * n + 1) a) 302 (3 * n + 2) b) 278 49 ((n : Int) + 1) 278 49 = (n : Int) + 1 := rd_same
      have f3 : ∀ k, up2 (up2 (up2 (up2 (up2 M2 278 13 0) 302 (3 * n) x) 302 (3 * n + 1) a) 302 (3 * n + 2) b) 278 49 ((n : Int) + 1) 302 k = if k = 3 * n then x else if k = 3 * n + 1 then a else if k = 3 * n + 2 then b else M 302 k := fun k => by
        rw [rd_a (by decide)]
        by_cases z2 : k = 3 * n + 2
        · subst z2; rw [rd_same, if_neg (by omega), if_neg (by omega), if_pos rfl]
        · rw [rd_k z2]
          by_cases z1 : k = 3 * n + 1
          · subst z1; rw [rd_same, if_neg (by omega), if_pos rfl]
          · rw [rd_k z1]
            by_cases z0 : k = 3 * n
            · subst z0; rw [rd_same, if_pos rfl]
            · rw [rd_k z0, if_neg z0, if_neg z1, if_neg z2, rd_a (by decide), g1 302 (by decide) (by decide) (by decide) (by decide)]
      generalize up2 (up2 (up2 (up2 (up2 M2 278 13 0) 302 (3 * n) x) 302 (3 * n + 1) a) 302 (3 * n + 2) b) 278 49 ((n : Int) + 1) = M' at *
      unfold C_H
      rw [f2, f1 41 (by decide) (by decide), f1 42 (by decide) (by decide), f1 43 (by decide) (by decide), f1 44 (by decide) (by decide), g2]
      refine ⟨rfl, by omega, by omega, fun i hi => ?_⟩
      by_cases z : i = n
      · subst z
        rw [show M' 302 (3 * i) = x by rw [f3, if_pos rfl], show M' 302 (3 * i + 1) = a by rw [f3, if_neg (by omega), if_pos rfl], show M' 302 (3 * i + 2) = b by rw [f3, if_neg (by omega), if_neg (by omega), if_pos rfl], show M2 42 i = x by rw [g42, if_pos rfl], show M2 43 i = a by rw [g43, if_pos rfl], show M2 44 i = b by rw [g44, if_pos rfl]]
        exact ⟨rfl, rfl, rfl, ha, hb⟩
      · rw [show M' 302 (3 * i) = M 302 (3 * i) by rw [f3, if_neg (by omega), if_neg (by omega), if_neg (by omega)], show M' 302 (3 * i + 1) = M 302 (3 * i + 1) by rw [f3, if_neg (by omega), if_neg (by omega), if_neg (by omega)], show M' 302 (3 * i + 2) = M 302 (3 * i + 2) by rw [f3, if_neg (by omega), if_neg (by omega), if_neg (by omega)], show M2 42 i = M 42 i by rw [g42, if_neg z], show M2 43 i = M 43 i by rw [g43, if_neg z], show M2 44 i = M 44 i by rw [g44, if_neg z]]
        exact o4 i (by omega)
  · have mo : Tc (mo_heard x a b M) (fun q => q.1 = -1 ∧ Rel B q.2) := by
      have fin : Tc (some ((-1 : Int), up2 M 278 13 0)) (fun q => q.1 = -1 ∧ Rel B q.2) := Tc_some ⟨rfl, h.go0 c3⟩
      unfold mo_heard
      refine Tc_u ?_
      by_cases hd : 0 ≤ x ∧ x < M 3 2
      · refine Tc_f (by rw [moDonkey_y h.S k1 hd]; decide) ?_
        by_cases ha : 0 ≤ a ∧ a ≤ 60
        · exact Tc_f (by rw [moIn_y ha]; decide) (Tc_t (by rw [hm, if_neg (fun q => hc ⟨hd, ha, q⟩)]) fin)
        · exact Tc_t (moIn_n ha) fin
      · exact Tc_t (moDonkey_n h.S k1 hd) fin
    refine Tc_i (fun _ => Tc_some mo) (fun q1 => Tc_i (fun _ => Tc_some mo) (fun q2 => Tc_i (fun _ => Tc_some mo) (fun q3 => Tc_t ?_ (Tc_some mo))))
    rw [hf, if_neg]
    rintro ⟨b1, b2⟩
    refine hc ⟨?_, by omega, by omega⟩
    exact Classical.byContradiction fun y => q1 (isDonkey_n s3 y)
