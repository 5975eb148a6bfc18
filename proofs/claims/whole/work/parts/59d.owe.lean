-- ===== owe =====
theorem person_eq (x : Int) : dh_isPerson x = if 0 ≤ x ∧ x ≤ 5 then 1 else 0 := by
  unfold dh_isPerson
  by_cases q : x < 0
  · rw [if_pos q, if_neg (by omega)]
  · by_cases q2 : 6 ≤ x
    · rw [if_neg q, if_pos q2, if_neg (by omega)]
    · rw [if_neg q, if_neg q2, if_pos (by omega)]
theorem c_owe {B : Int} {M : MEM} (h : Rel B M) (x1 x2 x3 x4 x5 : Int) : Lk B (dh_owe x1 x2 x3 x4 x5 M) (mo_owe x1 x2 x3 x4 x5) := by
  have c3 : chg [0] M (up2 M 278 13 0) := chg.rf.up (by decide)
  have k1 : up2 M 278 13 0 278 1 = M 278 1 := rd_k (by decide)
  obtain ⟨s1, s2, s3, s3a, s3b, s4⟩ := h.S
  obtain ⟨o1, o2, o3, o4⟩ := h.O
  have fin : Tc (some ((-1 : Int), up2 M 278 13 0)) (fun q => q.1 = -1 ∧ Rel B q.2) := Tc_some ⟨rfl, h.go0 c3⟩
  unfold Lk dh_owe
  by_cases hc : ((0 ≤ x1 ∧ x1 ≤ 5) ∧ (0 ≤ x2 ∧ x2 ≤ 5) ∧ x1 ≠ x2) ∧ (1 ≤ x3 ∧ x3 ≤ 99) ∧ (0 ≤ x4 ∧ x4 < M 3 2) ∧ 0 ≤ x5 ∧ x5 ≤ 11
  · obtain ⟨⟨p1, p2, p3⟩, hm, hd, h5⟩ := hc
    refine Tc_f (by rw [person_eq, if_pos p1]; decide) (Tc_f (by rw [person_eq, if_pos p2]; decide) (Tc_f p3 ?_))
    unfold dh_owe_j24
    refine Tc_f (by decide) (Tc_f (by omega) (Tc_f (by omega) (Tc_f (by rw [isDonkey_y s3 hd.1 hd.2]; decide) (Tc_f (by omega) (Tc_t (by omega) ?_)))))
    obtain ⟨n, hn⟩ : ∃ n : Nat, M 34 6 = (n : Int) := ⟨(M 34 6).toNat, by omega⟩
    by_cases h10 : n = 10
    · have e : co_add x1 x2 x3 x4 x5 M = some (0, M) := by unfold co_add; rw [if_neg (by omega), if_neg (by omega)]
      refine Tc_e e (Tc_t rfl (Tc_some ?_))
      dsimp only
      unfold mo_owe
      exact Tc_u (Tc_f (by rw [moIn_y p1]; decide) (Tc_f (by rw [moIn_y p2]; decide) (Tc_f p3 (Tc_f (by rw [moIn_y hm]; decide) (Tc_f (by rw [moDonkey_y h.S k1 hd]; decide) (Tc_f (by rw [moIn_y h5]; decide) (Tc_t (by rw [rd_k (by decide)]; omega) (Tc_some ⟨rfl, h.go0 c3⟩))))))))
    · have e : co_add x1 x2 x3 x4 x5 M = some (1, up2 (up2 (up2 (up2 (up2 (up2 M 35 n x1) 36 n x2) 37 n x3) 38 n x4) 39 n x5) 34 6 ((n : Int) + 1)) := by
        have r1 : up2 M 35 n x1 34 6 = (n : Int) := by rw [rd_a (by decide)]; exact hn
        have r2 : up2 (up2 M 35 n x1) 36 n x2 34 6 = (n : Int) := by rw [rd_a (by decide)]; exact r1
        have r3 : up2 (up2 (up2 M 35 n x1) 36 n x2) 37 n x3 34 6 = (n : Int) := by rw [rd_a (by decide)]; exact r2
        have r4 : up2 (up2 (up2 (up2 M 35 n x1) 36 n x2) 37 n x3) 38 n x4 34 6 = (n : Int) := by rw [rd_a (by decide)]; exact r3
        have r5 : up2 (up2 (up2 (up2 (up2 M 35 n x1) 36 n x2) 37 n x3) 38 n x4) 39 n x5 34 6 = (n : Int) := by rw [rd_a (by decide)]; exact r4
        unfold co_add
        rw [if_neg (by omega), if_pos (by omega), if_pos (by omega), hn, toNat_c, Option.bind_some, r1, if_pos (by omega), toNat_c, Option.bind_some, r2, if_pos (by omega), toNat_c, Option.bind_some, r3, if_pos (by omega), toNat_c, Option.bind_some, r4, if_pos (by omega), toNat_c, Option.bind_some, r5, wr_i (by omega) (by omega)]
        rfl
      have g1 : ∀ c, (c < 34 ∨ 39 < c) → up2 (up2 (up2 (up2 (up2 (up2 M 35 n x1) 36 n x2) 37 n x3) 38 n x4) 39 n x5) 34 6 ((n : Int) + 1) c = M c := fun c q => by rw [up2_ne (by omega), up2_ne (by omega), up2_ne (by omega), up2_ne (by omega), up2_ne (by omega), up2_ne (by omega)]
      have g2 : up2 (up2 (up2 (up2 (up2 (up2 M 35 n x1) 36 n x2) 37 n x3) 38 n x4) 39 n x5) 34 6 ((n : Int) + 1) 34 6 = (n : Int) + 1 := rd_same
      have one : ∀ (c : Nat) (v : Int) (f : Nat → Int), (c = 35 ∧ v = x1) ∨ (c = 36 ∧ v = x2) ∨ (c = 37 ∧ v = x3) ∨ (c = 38 ∧ v = x4) ∨ (c = 39 ∧ v = x5) → up2 (up2 (up2 (up2 (up2 (up2 M 35 n x1) 36 n x2) 37 n x3) 38 n x4) 39 n x5) 34 6 ((n : Int) + 1) c n = v ∧ ∀ k, k ≠ n → up2 (up2 (up2 (up2 (up2 (up2 M 35 n x1) 36 n x2) 37 n x3) 38 n x4) 39 n x5) 34 6 ((n : Int) + 1) c k = M c k := fun c v f hcv => by
        rcases hcv with ⟨rfl, rfl⟩ | ⟨rfl, rfl⟩ | ⟨rfl, rfl⟩ | ⟨rfl, rfl⟩ | ⟨rfl, rfl⟩
        · exact ⟨by rw [rd_a (by decide), rd_a (by decide), rd_a (by decide), rd_a (by decide), rd_a (by decide), rd_same], fun k hk => by rw [rd_a (by decide), rd_a (by decide), rd_a (by decide), rd_a (by decide), rd_a (by decide), rd_k hk]⟩
        · exact ⟨by rw [rd_a (by decide), rd_a (by decide), rd_a (by decide), rd_a (by decide), rd_same], fun k hk => by rw [rd_a (by decide), rd_a (by decide), rd_a (by decide), rd_a (by decide), rd_k hk, rd_a (by decide)]⟩
        · exact ⟨by rw [rd_a (by decide), rd_a (by decide), rd_a (by decide), rd_same], fun k hk => by rw [rd_a (by decide), rd_a (by decide), rd_a (by decide), rd_k hk, rd_a (by decide), rd_a (by decide)]⟩
        · exact ⟨by rw [rd_a (by decide), rd_a (by decide), rd_same], fun k hk => by rw [rd_a (by decide), rd_a (by decide), rd_k hk, rd_a (by decide), rd_a (by decide), rd_a (by decide)]⟩
        · exact ⟨by rw [rd_a (by decide), rd_same], fun k hk => by rw [rd_a (by decide), rd_k hk, rd_a (by decide), rd_a (by decide), rd_a (by decide), rd_a (by decide)]⟩
      have cc : chg [0, 6] M (up2 (up2 (up2 (up2 (up2 (up2 M 35 n x1) 36 n x2) 37 n x3) 38 n x4) 39 n x5) 34 6 ((n : Int) + 1)) := (((((chg.rf.up (by rw [show rg 35 n = 6 from rfl]; decide)).up (by rw [show rg 36 n = 6 from rfl]; decide)).up (by rw [show rg 37 n = 6 from rfl]; decide)).up (by rw [show rg 38 n = 6 from rfl]; decide)).up (by rw [show rg 39 n = 6 from rfl]; decide)).up (by decide)
      generalize up2 (up2 (up2 (up2 (up2 (up2 M 35 n x1) 36 n x2) 37 n x3) 38 n x4) 39 n x5) 34 6 ((n : Int) + 1) = M2 at *
      refine Tc_e e (Tc_f (by show ¬ (1 : Int) = 0; decide) (Tc_some ?_))
      dsimp only
      unfold mo_owe
      have k41 : up2 M2 278 13 0 278 41 = (n : Int) := by rw [rd_k (by decide), g1 278 (by omega)]; omega
      have w5 : wr (5 * (n : Int)) = ((5 * n : Nat) : Int) := (wr_i (by omega) (by omega)).trans (by omega)
      have w51 : wr (((5 * n : Nat) : Int) + 1) = ((5 * n + 1 : Nat) : Int) := (wr_i (by omega) (by omega)).trans (by omega)
      have w52 : wr (((5 * n : Nat) : Int) + 2) = ((5 * n + 2 : Nat) : Int) := (wr_i (by omega) (by omega)).trans (by omega)
      have w53 : wr (((5 * n : Nat) : Int) + 3) = ((5 * n + 3 : Nat) : Int) := (wr_i (by omega) (by omega)).trans (by omega)
      have w54 : wr (((5 * n : Nat) : Int) + 4) = ((5 * n + 4 : Nat) : Int) := (wr_i (by omega) (by omega)).trans (by omega)
      refine Tc_u (Tc_f (by rw [moIn_y p1]; decide) (Tc_f (by rw [moIn_y p2]; decide) (Tc_f p3 (Tc_f (by rw [moIn_y hm]; decide) (Tc_f (by rw [moDonkey_y h.S (by rw [rd_k (by decide), g1 278 (by omega)]) hd]; decide) (Tc_f (by rw [moIn_y h5]; decide) (Tc_f (by rw [k41]; omega) ?_)))))))
      rw [k41, w5, w51, w52, w53, w54]
      refine Tc_t (by omega) (Tc_u (Tc_t (by omega) (Tc_u (Tc_t (by omega) (Tc_u (Tc_t (by omega) (Tc_u (Tc_t (by omega) (Tc_u ?_)))))))))
      simp only [toNat_c]
      have r41 : up2 (up2 (up2 (up2 (up2 (up2 M2 278 13 0) 295 (5 * n) x1) 295 (5 * n + 1) x2) 295 (5 * n + 2) x3) 295 (5 * n + 3) x4) 295 (5 * n + 4) x5 278 41 = (n : Int) := by rw [rd_a (by decide), rd_a (by decide), rd_a (by decide), rd_a (by decide), rd_a (by decide)]; exact k41
      rw [r41, wr_i (x := (n : Int) + 1) (by omega) (by omega)]
      have cF : chg [0, 6] M (up2 (up2 (up2 (up2 (up2 (up2 (up2 M2 278 13 0) 295 (5 * n) x1) 295 (5 * n + 1) x2) 295 (5 * n + 2) x3) 295 (5 * n + 3) x4) 295 (5 * n + 4) x5) 278 41 ((n : Int) + 1)) := ((((((cc.up (by decide)).up (by rw [show ∀ k, rg 295 k = 6 from fun _ => rfl]; decide)).up (by rw [show ∀ k, rg 295 k = 6 from fun _ => rfl]; decide)).up (by rw [show ∀ k, rg 295 k = 6 from fun _ => rfl]; decide)).up (by rw [show ∀ k, rg 295 k = 6 from fun _ => rfl]; decide)).up (by rw [show ∀ k, rg 295 k = 6 from fun _ => rfl]; decide)).up (by decide)
      have f1 : ∀ c, c ≠ 278 → c ≠ 295 → up2 (up2 (up2 (up2 (up2 (up2 (up2 M2 278 13 0) 295 (5 * n) x1) 295 (5 * n + 1) x2) 295 (5 * n + 2) x3) 295 (5 * n + 3) x4) 295 (5 * n + 4) x5) 278 41 ((n : Int) + 1) c = M2 c := fun c a b => by rw [up2_ne a, up2_ne b, up2_ne b, up2_ne b, up2_ne b, up2_ne b, up2_ne a]
      have f2 : up2 (up2 (up2 (up2 (up2 (up2 (up2 M2 278 13 0) 295 (5 * n) x1) 295 (5 * n + 1) x2) 295 (5 * n + 2) x3) 295 (5 * n + 3) x4) 295 (5 * n + 4) x5) 278 41 ((n : Int) + 1) 278 41 = (n : Int) + 1 := rd_same
      have f3 : ∀ k, up2 (up2 (up2 (up2 (up2 (up2 (up2 M2 278 13 0) 295 (5 * n) x1) 295 (5 * n + 1) x2) 295 (5 * n + 2) x3) 295 (5 * n + 3) x4) 295 (5 * n + 4) x5) 278 41 ((n : Int) + 1) 295 k = if k = 5 * n then x1 else if k = 5 * n + 1 then x2 else if k = 5 * n + 2 then x3 else if k = 5 * n + 3 then x4 else if k = 5 * n + 4 then x5 else M 295 k := fun k => by
        rw [rd_a (by decide)]
        by_cases z4 : k = 5 * n + 4
        · subst z4; rw [rd_same, if_neg (by omega), if_neg (by omega), if_neg (by omega), if_neg (by omega), if_pos rfl]
        · rw [rd_k z4]
          by_cases z3 : k = 5 * n + 3
          · subst z3; rw [rd_same, if_neg (by omega), if_neg (by omega), if_neg (by omega), if_pos rfl]
          · rw [rd_k z3]
            by_cases z2 : k = 5 * n + 2
            · subst z2; rw [rd_same, if_neg (by omega), if_neg (by omega), if_pos rfl]
            · rw [rd_k z2]
              by_cases z1 : k = 5 * n + 1
              · subst z1; rw [rd_same, if_neg (by omega), if_pos rfl]
              · rw [rd_k z1]
                by_cases z0 : k = 5 * n
                · subst z0; rw [rd_same, if_pos rfl]
                · rw [rd_k z0, if_neg z0, if_neg z1, if_neg z2, if_neg z3, if_neg z4, rd_a (by decide), g1 295 (by omega)]
      generalize up2 (up2 (up2 (up2 (up2 (up2 (up2 M2 278 13 0) 295 (5 * n) x1) 295 (5 * n + 1) x2) 295 (5 * n + 2) x3) 295 (5 * n + 3) x4) 295 (5 * n + 4) x5) 278 41 ((n : Int) + 1) = M' at *
      refine Tc_u (Tc_some ⟨?_, ?_⟩)
      · dsimp only
        rw [f2, wr_i (by omega) (by omega)]; omega
      · dsimp only
        refine h.go (Int.le_refl _) cF (by decide) (fun q => absurd q (by decide)) (fun q => absurd q (by decide)) (fun q => absurd q (by decide)) (fun q => absurd q (by decide)) (fun q => absurd q (by decide)) (fun _ => ?_) (fun q => absurd q (by decide)) (fun q => absurd q (by decide)) (fun q => absurd q (by decide)) (fun q => absurd q (by decide)) (fun q => absurd q (by decide))
        have e32 : M' 3 2 = M 3 2 := cF 3 2 (by decide)
        unfold C_O
        rw [f2, e32, f1 34 (by decide) (by decide), f1 35 (by decide) (by decide), f1 36 (by decide) (by decide), f1 37 (by decide) (by decide), f1 38 (by decide) (by decide), f1 39 (by decide) (by decide), g2]
        have b1 := one 35 x1 (M 0) (Or.inl ⟨rfl, rfl⟩)
        have b2 := one 36 x2 (M 0) (Or.inr (Or.inl ⟨rfl, rfl⟩))
        have b3 := one 37 x3 (M 0) (Or.inr (Or.inr (Or.inl ⟨rfl, rfl⟩)))
        have b4 := one 38 x4 (M 0) (Or.inr (Or.inr (Or.inr (Or.inl ⟨rfl, rfl⟩))))
        have b5 := one 39 x5 (M 0) (Or.inr (Or.inr (Or.inr (Or.inr ⟨rfl, rfl⟩))))
        refine ⟨rfl, by omega, by omega, fun i hi => ?_⟩
        by_cases z : i = n
        · subst z
          rw [b1.1, b2.1, b3.1, b4.1, b5.1]
          refine ⟨by rw [f3, if_pos rfl], by rw [f3, if_neg (by omega), if_pos rfl], by rw [f3, if_neg (by omega), if_neg (by omega), if_pos rfl], by rw [f3, if_neg (by omega), if_neg (by omega), if_neg (by omega), if_pos rfl], by rw [f3, if_neg (by omega), if_neg (by omega), if_neg (by omega), if_neg (by omega), if_pos rfl], hm, hd, h5.1, by omega⟩
        · have f4 : ∀ q, q < 5 → M' 295 (5 * i + q) = M 295 (5 * i + q) := fun q hq => by rw [f3, if_neg (by omega), if_neg (by omega), if_neg (by omega), if_neg (by omega), if_neg (by omega)]
          rw [b1.2 i z, b2.2 i z, b3.2 i z, b4.2 i z, b5.2 i z, show M' 295 (5 * i) = M 295 (5 * i) from f4 0 (by omega), f4 1 (by omega), f4 2 (by omega), f4 3 (by omega), f4 4 (by omega)]
          exact o4 i (by omega)
  · have mo : Tc (mo_owe x1 x2 x3 x4 x5 M) (fun q => q.1 = -1 ∧ Rel B q.2) := by
      unfold mo_owe
      refine Tc_u ?_
      by_cases p1 : 0 ≤ x1 ∧ x1 ≤ 5
      · refine Tc_f (by rw [moIn_y p1]; decide) ?_
        by_cases p2 : 0 ≤ x2 ∧ x2 ≤ 5
        · refine Tc_f (by rw [moIn_y p2]; decide) (Tc_i (fun _ => fin) (fun p3 => ?_))
          by_cases hm : 1 ≤ x3 ∧ x3 ≤ 99
          · refine Tc_f (by rw [moIn_y hm]; decide) ?_
            by_cases hd : 0 ≤ x4 ∧ x4 < M 3 2
            · refine Tc_f (by rw [moDonkey_y h.S k1 hd]; decide) (Tc_t (moIn_n (fun q => hc ⟨⟨p1, p2, p3⟩, hm, hd, q⟩)) fin)
            · exact Tc_t (moDonkey_n h.S k1 hd) fin
          · exact Tc_t (moIn_n hm) fin
        · exact Tc_t (moIn_n p2) fin
      · exact Tc_t (moIn_n p1) fin
    have go : Tc (some ((-1 : Int), M)) (fun p => Tc (mo_owe x1 x2 x3 x4 x5 p.2) (fun q => q.1 = p.1 ∧ Rel B q.2)) := Tc_some mo
    have j23 : Tc (dh_owe_j23 x1 x2 x3 x4 x5 M) (fun p => Tc (mo_owe x1 x2 x3 x4 x5 p.2) (fun q => q.1 = p.1 ∧ Rel B q.2)) := by
      unfold dh_owe_j23 dh_owe_j24
      exact Tc_t rfl go
    refine Tc_i (fun _ => j23) (fun q1 => Tc_i (fun _ => j23) (fun q2 => Tc_i (fun _ => j23) (fun q3 => ?_)))
    unfold dh_owe_j24
    refine Tc_f (by decide) (Tc_i (fun _ => go) (fun q4 => Tc_i (fun _ => go) (fun q5 => Tc_i (fun _ => go) (fun q6 => Tc_i (fun _ => go) (fun q7 => Tc_f (fun q8 => hc ⟨⟨?_, ?_, q3⟩, by omega, ?_, by omega, by omega⟩) go)))))
    · exact Classical.byContradiction fun y => q1 (by rw [person_eq, if_neg y])
    · exact Classical.byContradiction fun y => q2 (by rw [person_eq, if_neg y])
    · exact Classical.byContradiction fun y => q6 (isDonkey_n s3 y)
