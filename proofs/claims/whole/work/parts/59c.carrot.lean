-- ===== carrot =====
theorem c_carrot {B : Int} {M : MEM} (h : Rel B M) (x a b w : Int) : Lk B (dh_carrot x a b w M) (mo_carrot x a b w) := by
  have c3 : chg [0] M (up2 M 278 13 0) := chg.rf.up (by decide)
  have k1 : up2 M 278 13 0 278 1 = M 278 1 := rd_k (by decide)
  obtain ⟨s1, s2, s3, s3a, s3b, s4⟩ := h.S
  obtain ⟨o1, o2, o3, o4⟩ := h.C
  have hw : dh_isWay w = if w = 1 ∨ w = -1 then 1 else 0 := by
    unfold dh_isWay
    by_cases q : w = 1
    · rw [if_pos q, if_pos (Or.inl q)]
    · by_cases q2 : w = -1
      · rw [if_neg q, if_pos q2, if_pos (Or.inr q2)]
      · rw [if_neg q, if_neg q2, if_neg (by omega)]
  unfold Lk dh_carrot
  by_cases hc : (0 ≤ x ∧ x < M 3 2) ∧ (w = 1 ∨ w = -1) ∧ 0 ≤ a ∧ a ≤ b ∧ b ≤ 9999
  · obtain ⟨hd, hw', ha, hab, hb⟩ := hc
    refine Tc_f (by rw [isDonkey_y s3 hd.1 hd.2]; decide) (Tc_f (by rw [hw, if_pos hw']; decide) (Tc_f (by omega) (Tc_f (by omega) (Tc_t hb ?_))))
    obtain ⟨n, hn⟩ : ∃ n : Nat, M 5 4 = (n : Int) := ⟨(M 5 4).toNat, by omega⟩
    -- the reference behind its checks
    have mo : ∀ M2 : MEM, M2 278 1 = M 278 1 → ∀ P : Int × MEM → Prop, Tc (mo_carrot_j49 x a b w (up2 M2 278 13 0)) P → Tc (mo_carrot x a b w M2) P := fun M2 e P q => by
      unfold mo_carrot
      refine Tc_u (Tc_f (by rw [moDonkey_y h.S (by rw [rd_k (by decide)]; exact e) hd]; decide) (Tc_f (by rw [moIn_y (by omega)]; decide) (Tc_f (by rw [moIn_y (by omega)]; decide) ?_)))
      by_cases q1 : w = 1
      · exact Tc_t q1 q
      · exact Tc_f q1 (Tc_t (by omega) q)
    by_cases h10 : n = 10
    · have e : ca_add 5 x a b w M = some (0, M) := by unfold ca_add; rw [if_neg (by omega), if_neg (by omega)]
      refine Tc_e e (Tc_t rfl (Tc_some ?_))
      dsimp only
      refine mo M rfl _ ?_
      unfold mo_carrot_j49
      exact Tc_t (by rw [rd_k (by decide)]; omega) (Tc_some ⟨rfl, h.go0 c3⟩)
    · have e : ca_add 5 x a b w M = some (1, up2 (up2 (up2 (up2 (up2 M 6 n x) 7 n a) 8 n b) 9 n w) 5 4 ((n : Int) + 1)) := by
        have r1 : up2 M 6 n x 5 4 = (n : Int) := by rw [rd_a (by decide)]; exact hn
        have r2 : up2 (up2 M 6 n x) 7 n a 5 4 = (n : Int) := by rw [rd_a (by decide)]; exact r1
        have r3 : up2 (up2 (up2 M 6 n x) 7 n a) 8 n b 5 4 = (n : Int) := by rw [rd_a (by decide)]; exact r2
        have r4 : up2 (up2 (up2 (up2 M 6 n x) 7 n a) 8 n b) 9 n w 5 4 = (n : Int) := by rw [rd_a (by decide)]; exact r3
        unfold ca_add
        rw [if_neg (by omega), if_pos (by omega), if_pos (by omega), hn, toNat_c, Option.bind_some, r1, if_pos (by omega), toNat_c, Option.bind_some, r2, if_pos (by omega), toNat_c, Option.bind_some, r3, if_pos (by omega), toNat_c, Option.bind_some, r4, wr_i (by omega) (by omega)]
        rfl
      have g1 : ∀ c, (c < 5 ∨ 9 < c) → up2 (up2 (up2 (up2 (up2 M 6 n x) 7 n a) 8 n b) 9 n w) 5 4 ((n : Int) + 1) c = M c := fun c q => by rw [up2_ne (by omega), up2_ne (by omega), up2_ne (by omega), up2_ne (by omega), up2_ne (by omega)]
      have g2 : up2 (up2 (up2 (up2 (up2 M 6 n x) 7 n a) 8 n b) 9 n w) 5 4 ((n : Int) + 1) 5 4 = (n : Int) + 1 := rd_same
      have g6 : ∀ k, up2 (up2 (up2 (up2 (up2 M 6 n x) 7 n a) 8 n b) 9 n w) 5 4 ((n : Int) + 1) (5 + 1) k = if k = n then x else M (5 + 1) k := fun k => by
        rw [rd_a (by decide), rd_a (by decide), rd_a (by decide), rd_a (by decide)]
        by_cases z : k = n
        · subst z; rw [rd_same, if_pos rfl]
        · rw [rd_k z, if_neg z]
      have g7 : ∀ k, up2 (up2 (up2 (up2 (up2 M 6 n x) 7 n a) 8 n b) 9 n w) 5 4 ((n : Int) + 1) (5 + 2) k = if k = n then a else M (5 + 2) k := fun k => by
        rw [rd_a (by decide), rd_a (by decide), rd_a (by decide)]
        by_cases z : k = n
        · subst z; rw [rd_same, if_pos rfl]
        · rw [rd_k z, if_neg z, rd_a (by decide)]
      have g8 : ∀ k, up2 (up2 (up2 (up2 (up2 M 6 n x) 7 n a) 8 n b) 9 n w) 5 4 ((n : Int) + 1) (5 + 3) k = if k = n then b else M (5 + 3) k := fun k => by
        rw [rd_a (by decide), rd_a (by decide)]
        by_cases z : k = n
        · subst z; rw [rd_same, if_pos rfl]
        · rw [rd_k z, if_neg z, rd_a (by decide), rd_a (by decide)]
      have g9 : ∀ k, up2 (up2 (up2 (up2 (up2 M 6 n x) 7 n a) 8 n b) 9 n w) 5 4 ((n : Int) + 1) (5 + 4) k = if k = n then w else M (5 + 4) k := fun k => by
        rw [rd_a (by decide)]
        by_cases z : k = n
        · subst z; rw [rd_same, if_pos rfl]
        · rw [rd_k z, if_neg z, rd_a (by decide), rd_a (by decide), rd_a (by decide)]
      have cc : chg [0, 5] M (up2 (up2 (up2 (up2 (up2 M 6 n x) 7 n a) 8 n b) 9 n w) 5 4 ((n : Int) + 1)) := ((((chg.rf.up (by rw [show rg 6 n = 5 from rfl]; decide)).up (by rw [show rg 7 n = 5 from rfl]; decide)).up (by rw [show rg 8 n = 5 from rfl]; decide)).up (by rw [show rg 9 n = 5 from rfl]; decide)).up (by decide)
      generalize up2 (up2 (up2 (up2 (up2 M 6 n x) 7 n a) 8 n b) 9 n w) 5 4 ((n : Int) + 1) = M2 at *
      refine Tc_e e (Tc_f (by show ¬ (1 : Int) = 0; decide) (Tc_some ?_))
      dsimp only
      refine mo M2 (by rw [g1 278 (by omega)]) _ ?_
      have k7 : up2 M2 278 13 0 278 7 = (n : Int) := by rw [rd_k (by decide), g1 278 (by omega)]; omega
      have w4 : wr (4 * (n : Int)) = ((4 * n : Nat) : Int) := (wr_i (by omega) (by omega)).trans (by omega)
      have w41 : wr (((4 * n : Nat) : Int) + 1) = ((4 * n + 1 : Nat) : Int) := (wr_i (by omega) (by omega)).trans (by omega)
      have w42 : wr (((4 * n : Nat) : Int) + 2) = ((4 * n + 2 : Nat) : Int) := (wr_i (by omega) (by omega)).trans (by omega)
      have w43 : wr (((4 * n : Nat) : Int) + 3) = ((4 * n + 3 : Nat) : Int) := (wr_i (by omega) (by omega)).trans (by omega)
      have el : mo_layCarrot (n : Int) x a b w (up2 M2 278 13 0) = some (up2 (up2 (up2 (up2 (up2 M2 278 13 0) 282 (4 * n) x) 282 (4 * n + 1) a) 282 (4 * n + 2) b) 282 (4 * n + 3) w) := by
        unfold mo_layCarrot
        rw [w4, w41, w42, w43, if_pos (by omega), toNat_c, Option.bind_some, if_pos (by omega), toNat_c, Option.bind_some, if_pos (by omega), toNat_c, Option.bind_some, if_pos (by omega), toNat_c, Option.bind_some]
      unfold mo_carrot_j49
      rw [k7]
      have r7 : up2 (up2 (up2 (up2 (up2 M2 278 13 0) 282 (4 * n) x) 282 (4 * n + 1) a) 282 (4 * n + 2) b) 282 (4 * n + 3) w 278 7 = (n : Int) := by rw [rd_a (by decide), rd_a (by decide), rd_a (by decide), rd_a (by decide)]; exact k7
      refine Tc_f (by omega) (Tc_e el (Tc_u (Tc_some ?_)))
      rw [r7, wr_i (x := (n : Int) + 1) (by omega) (by omega)]
      have cF : chg [0, 5] M (up2 (up2 (up2 (up2 (up2 (up2 M2 278 13 0) 282 (4 * n) x) 282 (4 * n + 1) a) 282 (4 * n + 2) b) 282 (4 * n + 3) w) 278 7 ((n : Int) + 1)) := (((((cc.up (by decide)).up (by rw [rg_car (by omega)]; decide)).up (by rw [rg_car (by omega)]; decide)).up (by rw [rg_car (by omega)]; decide)).up (by rw [rg_car (by omega)]; decide)).up (by decide)
      have f1 : ∀ c, c ≠ 278 → c ≠ 282 → up2 (up2 (up2 (up2 (up2 (up2 M2 278 13 0) 282 (4 * n) x) 282 (4 * n + 1) a) 282 (4 * n + 2) b) 282 (4 * n + 3) w) 278 7 ((n : Int) + 1) c = M2 c := fun c a b => by rw [up2_ne a, up2_ne b, up2_ne b, up2_ne b, up2_ne b, up2_ne a]
      have f2 : up2 (up2 (up2 (up2 (up2 (up2 M2 278 13 0) 282 (4 * n) x) 282 (4 * n + 1) a) 282 (4 * n + 2) b) 282 (4 * n + 3) w) 278 7 ((n : Int) + 1) 278 7 = (n : Int) + 1 := rd_same
      have f3 : ∀ k, up2 (up2 (up2 (up2 (up2 (up2 M2 278 13 0) 282 (4 * n) x) 282 (4 * n + 1) a) 282 (4 * n + 2) b) 282 (4 * n + 3) w) 278 7 ((n : Int) + 1) 282 k = if k = 4 * n then x else if k = 4 * n + 1 then a else if k = 4 * n + 2 then b else if k = 4 * n + 3 then w else M 282 k := fun k => by
        rw [rd_a (by decide)]
        by_cases z3 : k = 4 * n + 3
        · subst z3; rw [rd_same, if_neg (by omega), if_neg (by omega), if_neg (by omega), if_pos rfl]
        · rw [rd_k z3]
          by_cases z2 : k = 4 * n + 2
          · subst z2; rw [rd_same, if_neg (by omega), if_neg (by omega), if_pos rfl]
          · rw [rd_k z2]
            by_cases z1 : k = 4 * n + 1
            · subst z1; rw [rd_same, if_neg (by omega), if_pos rfl]
            · rw [rd_k z1]
              by_cases z0 : k = 4 * n
              · subst z0; rw [rd_same, if_pos rfl]
              · rw [rd_k z0, if_neg z0, if_neg z1, if_neg z2, if_neg z3, rd_a (by decide), g1 282 (by omega)]
      generalize up2 (up2 (up2 (up2 (up2 (up2 M2 278 13 0) 282 (4 * n) x) 282 (4 * n + 1) a) 282 (4 * n + 2) b) 282 (4 * n + 3) w) 278 7 ((n : Int) + 1) = M' at *
      refine ⟨?_, ?_⟩
      · dsimp only
        rw [f2, wr_i (by omega) (by omega)]; omega
      · dsimp only
        refine h.go (Int.le_refl _) cF (by decide) (fun q => absurd q (by decide)) (fun q => absurd q (by decide)) (fun q => absurd q (by decide)) (fun q => absurd q (by decide)) (fun _ => ?_) (fun q => absurd q (by decide)) (fun q => absurd q (by decide)) (fun q => absurd q (by decide)) (fun q => absurd q (by decide)) (fun q => absurd q (by decide)) (fun q => absurd q (by decide))
        unfold C_C snC
        rw [f2, f1 5 (by decide) (by decide), f1 (5 + 1) (by decide) (by decide), f1 (5 + 2) (by decide) (by decide), f1 (5 + 3) (by decide) (by decide), f1 (5 + 4) (by decide) (by decide), g2]
        refine ⟨rfl, by omega, by omega, fun i hi => ?_⟩
        by_cases z : i = n
        · subst z
          rw [show M' 282 (4 * i) = x by rw [f3, if_pos rfl], show M' 282 (4 * i + 1) = a by rw [f3, if_neg (by omega), if_pos rfl], show M' 282 (4 * i + 2) = b by rw [f3, if_neg (by omega), if_neg (by omega), if_pos rfl], show M' 282 (4 * i + 3) = w by rw [f3, if_neg (by omega), if_neg (by omega), if_neg (by omega), if_pos rfl], show M2 (5 + 1) i = x by rw [g6, if_pos rfl], show M2 (5 + 2) i = a by rw [g7, if_pos rfl], show M2 (5 + 3) i = b by rw [g8, if_pos rfl], show M2 (5 + 4) i = w by rw [g9, if_pos rfl]]
          exact ⟨rfl, rfl, rfl, rfl, hw'⟩
        · have f4 : ∀ q, q < 4 → M' 282 (4 * i + q) = M 282 (4 * i + q) := fun q hq => by rw [f3, if_neg (by omega), if_neg (by omega), if_neg (by omega), if_neg (by omega)]
          rw [show M' 282 (4 * i) = M 282 (4 * i) from f4 0 (by omega), f4 1 (by omega), f4 2 (by omega), f4 3 (by omega), show M2 (5 + 1) i = M (5 + 1) i by rw [g6, if_neg z], show M2 (5 + 2) i = M (5 + 2) i by rw [g7, if_neg z], show M2 (5 + 3) i = M (5 + 3) i by rw [g8, if_neg z], show M2 (5 + 4) i = M (5 + 4) i by rw [g9, if_neg z]]
          exact o4 i (by omega)
  · have mo : Tc (mo_carrot x a b w M) (fun q => q.1 = -1 ∧ Rel B q.2) := by
      have fin : Tc (some ((-1 : Int), up2 M 278 13 0)) (fun q => q.1 = -1 ∧ Rel B q.2) := Tc_some ⟨rfl, h.go0 c3⟩
      unfold mo_carrot
      refine Tc_u ?_
      by_cases hd : 0 ≤ x ∧ x < M 3 2
      · refine Tc_f (by rw [moDonkey_y h.S k1 hd]; decide) ?_
        by_cases ha : 0 ≤ a ∧ a ≤ 9999
        · refine Tc_f (by rw [moIn_y ha]; decide) ?_
          by_cases hb : a ≤ b ∧ b ≤ 9999
          · refine Tc_f (by rw [moIn_y hb]; decide) (Tc_f (fun q => hc ⟨hd, Or.inl q, ha.1, hb.1, hb.2⟩) (Tc_f (fun q => hc ⟨hd, Or.inr q, ha.1, hb.1, hb.2⟩) fin))
          · exact Tc_t (moIn_n hb) fin
        · exact Tc_t (moIn_n ha) fin
      · exact Tc_t (moDonkey_n h.S k1 hd) fin
    refine Tc_i (fun _ => Tc_some mo) (fun q1 => Tc_i (fun _ => Tc_some mo) (fun q2 => Tc_i (fun _ => Tc_some mo) (fun q3 => Tc_i (fun _ => Tc_some mo) (fun q4 => Tc_f (fun q5 => hc ⟨?_, ?_, by omega, by omega, q5⟩) (Tc_some mo)))))
    · exact Classical.byContradiction fun y => q1 (isDonkey_n s3 y)
    · exact Classical.byContradiction fun y => q2 (by rw [hw, if_neg y])
