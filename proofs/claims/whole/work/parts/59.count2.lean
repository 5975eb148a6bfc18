theorem c_count {B : Int} {M : MEM} (h : Rel B M) (hB : B ≤ 100000000) (x : Int) : Lk B ((dh_count x M).bind fun r => some (r, M)) (mo_count x) := by
  have c3 : chg [0] M (up2 M 278 13 0) := chg.rf.up (by decide)
  have h1 : up2 M 278 13 0 279 = M 279 := up2_ne (by decide)
  have k : ∀ i, i ≠ 13 → up2 M 278 13 0 278 i = M 278 i := fun i hi => rd_k hi
  obtain ⟨s1, s2, s3, s3a, s3b, s4⟩ := h.S
  obtain ⟨N, hN⟩ : ∃ N : Nat, M 3 2 = (N : Int) := ⟨(M 3 2).toNat, by omega⟩
  have nw := now_in h
  have lk := lock_of h chg.rf chg.rf (fun _ _ _ _ => rfl)
  have pk := (lk.pass (by omega)).1
  have fin : ∀ a b : Int, b = a → Tc (some (b, up2 M 278 13 0)) (fun q => q.1 = a ∧ Rel B q.2) := fun a b e => Tc_some ⟨e, h.go0 c3⟩
  have kb : ∀ d : Nat, (d : Int) < M 3 2 → 0 ≤ M (10 + 3 * d) 5 ∧ M (10 + 3 * d) 5 ≤ 100000000 ∧ M 279 (55 * d + 2) = M (10 + 3 * d) 5 := fun d hd => by
    obtain ⟨w1, w2, w3, w4⟩ := dnk h hB hd
    exact ⟨w1.2.2.2.2.2.2.1, w2, w3.2.2.1.symm⟩
  have f1 : up2 M 278 13 0 278 1 = (N : Int) := by rw [k 1 (by decide)]; omega
  unfold Lk dh_count
  by_cases y0 : x = 0
  · rw [if_pos y0]
    refine Tc_u (Tc_some ?_)
    unfold mo_count
    exact Tc_u (Tc_t y0 (fin _ _ (by rw [k 1 (by decide)]; exact s1)))
  rw [if_neg y0]
  by_cases y1 : x = 1
  · rw [if_pos y1]
    refine Tc_u (Tc_some ?_)
    unfold mo_count
    exact Tc_u (Tc_f y0 (Tc_t y1 (fin _ _ (by rw [h1]; exact nw.2.2))))
  rw [if_neg y1]
  by_cases y2 : x = 2
  · rw [if_pos y2]
    refine Tc_u (Tc_some ?_)
    unfold mo_count
    exact Tc_u (Tc_f y0 (Tc_f y1 (Tc_t y2 (fin _ _ (by rw [k 7 (by decide)]; exact h.C.1.symm)))))
  rw [if_neg y2]
  by_cases y3 : x = 3
  · rw [if_pos y3]
    refine Tc_u (Tc_some ?_)
    unfold mo_count
    exact Tc_u (Tc_f y0 (Tc_f y1 (Tc_f y2 (Tc_t y3 (fin _ _ (by rw [k 41 (by decide)]; exact h.O.1))))))
  rw [if_neg y3]
  by_cases y4 : x = 4
  · have e := strokes_eq (M := M) s2 s3 (fun d hd => by have := kb d hd; omega)
    rw [if_pos y4, e]
    refine Tc_u (Tc_u (Tc_some ?_))
    have hl : Tc (iter (fun s => mo_count_b90 s.1 s.2 (up2 M 278 13 0)) FU (0, 0)) (fun r => r.1 = sumN (fun d => M (10 + 3 * d) 5) N) := by
      refine Tc_n (fun i s => s.1 = sumN (fun d => M (10 + 3 * d) 5) i ∧ s.2 = (i : Int)) N ⟨rfl, rfl⟩ (by omega) (fun i s hi hI => ?_) (fun s hI => ?_)
      · obtain ⟨a, z⟩ := s
        obtain ⟨rfl, rfl⟩ := hI
        dsimp only
        have b := sumN_bd (F := fun d => M (10 + 3 * d) 5) (a := 0) (b := 100000000) (n := i) (fun j hj => by have := kb j (by omega); omega)
        have b1 := kb i (by omega)
        have w : wr (sumN (fun d => M (10 + 3 * d) 5) i + M (10 + 3 * i) 5) = sumN (fun d => M (10 + 3 * d) 5) (i + 1) := by rw [sumN_S]; exact wr_i (by omega) (by omega)
        unfold mo_count_b90
        refine Tc_f (by omega) (Tc_e (strokesM_eq (by omega)) ?_)
        rw [h1, b1.2.2, w]
        exact Tc_inl ⟨rfl, (wr_i (by omega) (by omega)).trans (by omega)⟩
      · obtain ⟨a, z⟩ := s
        obtain ⟨rfl, rfl⟩ := hI
        unfold mo_count_b90
        exact Tc_t (by rw [f1]; exact Int.le_refl _) (Tc_inr rfl)
    obtain ⟨r, e2, hr⟩ := hl
    unfold mo_count
    refine Tc_u (Tc_f y0 (Tc_f y1 (Tc_f y2 (Tc_f y3 (Tc_t y4 (Tc_e e2 (fin _ _ ?_)))))))
    rw [hr, hN]; rfl
  rw [if_neg y4]
  by_cases y5 : x = 5
  · have e := thistles_eq (M := M) s2 s3 (fun d hd => (pk.2.2.2.2.2 d hd).1)
    rw [if_pos y5, e.1]
    refine Tc_u (Tc_u (Tc_some ?_))
    have one : ∀ d : Nat, d < N → mo_allThistles 279 (d : Int) (up2 M 278 13 0) = some (leftN (M (10 + 3 * d + 1)) (M (10 + 3 * d) 2)) ∧ 0 ≤ leftN (M (10 + 3 * d + 1)) (M (10 + 3 * d) 2) ∧ leftN (M (10 + 3 * d + 1)) (M (10 + 3 * d) 2) ≤ 108 := fun d hd => by
      obtain ⟨w1, w2, w3, w4⟩ := dnk h hB (d := d) (by omega)
      obtain ⟨a1, a2, a3, a4⟩ := left_both (M1 := up2 M 278 13 0) h hB (d := d) (by omega) h1
      rw [w4]
      exact ⟨a2, a3, a4⟩
    have hl : Tc (iter (fun s => mo_count_b116 s.1 s.2 (up2 M 278 13 0)) FU (0, 0)) (fun r => r.1 = allL M N) := by
      refine Tc_n (fun i s => s.1 = allL M i ∧ s.2 = (i : Int)) N ⟨rfl, rfl⟩ (by omega) (fun i s hi hI => ?_) (fun s hI => ?_)
      · obtain ⟨a, z⟩ := s
        obtain ⟨rfl, rfl⟩ := hI
        dsimp only
        have b := sumN_bd (F := fun d => leftN (M (10 + 3 * d + 1)) (M (10 + 3 * d) 2)) (a := 0) (b := 108) (n := i) (fun j hj => (one j (by omega)).2)
        obtain ⟨b1, b2, b3⟩ := one i hi
        have w : wr (allL M i + leftN (M (10 + 3 * i + 1)) (M (10 + 3 * i) 2)) = allL M (i + 1) := by unfold allL; rw [sumN_S]; exact wr_i (by omega) (by omega)
        unfold mo_count_b116
        refine Tc_f (by omega) (Tc_e b1 ?_)
        rw [w]
        exact Tc_inl ⟨rfl, (wr_i (by omega) (by omega)).trans (by omega)⟩
      · obtain ⟨a, z⟩ := s
        obtain ⟨rfl, rfl⟩ := hI
        unfold mo_count_b116
        exact Tc_t (by rw [f1]; exact Int.le_refl _) (Tc_inr rfl)
    obtain ⟨r, e2, hr⟩ := hl
    unfold mo_count
    refine Tc_u (Tc_f y0 (Tc_f y1 (Tc_f y2 (Tc_f y3 (Tc_f y4 (Tc_t y5 (Tc_e e2 (fin _ _ ?_))))))))
    rw [hr, hN]; rfl
  rw [if_neg y5]
  by_cases y6 : x = 6
  · rw [if_pos y6]
    refine Tc_u (Tc_some ?_)
    unfold mo_count
    exact Tc_u (Tc_f y0 (Tc_f y1 (Tc_f y2 (Tc_f y3 (Tc_f y4 (Tc_f y5 (Tc_t y6 (fin _ _ (by rw [k 31 (by decide)]; exact h.U.2.2.1)))))))))
  rw [if_neg y6]
  by_cases y7 : x = 7
  · rw [if_pos y7]
    refine Tc_u (Tc_some ?_)
    unfold mo_count
    exact Tc_u (Tc_f y0 (Tc_f y1 (Tc_f y2 (Tc_f y3 (Tc_f y4 (Tc_f y5 (Tc_f y6 (Tc_t y7 (fin _ _ (by rw [k 49 (by decide)]; exact h.H.1))))))))))
  rw [if_neg y7]
  by_cases y8 : x = 8
  · rw [if_pos y8]
    refine Tc_u (Tc_some ?_)
    unfold mo_count
    exact Tc_u (Tc_f y0 (Tc_f y1 (Tc_f y2 (Tc_f y3 (Tc_f y4 (Tc_f y5 (Tc_f y6 (Tc_f y7 (Tc_t y8 (fin _ _ (by rw [k 12 (by decide)]; exact h.W.1)))))))))))
  rw [if_neg y8]
  by_cases y9 : x = 9
  · rw [if_pos y9]
    refine Tc_u (Tc_some ?_)
    unfold mo_count
    exact Tc_u (Tc_f y0 (Tc_f y1 (Tc_f y2 (Tc_f y3 (Tc_f y4 (Tc_f y5 (Tc_f y6 (Tc_f y7 (Tc_f y8 (Tc_t y9 (fin _ _ (by rw [k 10 (by decide)]; exact h.T.1))))))))))))
  · rw [if_neg y9]
    refine Tc_u (Tc_some ?_)
    unfold mo_count
    exact Tc_u (Tc_f y0 (Tc_f y1 (Tc_f y2 (Tc_f y3 (Tc_f y4 (Tc_f y5 (Tc_f y6 (Tc_f y7 (Tc_f y8 (Tc_f y9 (fin _ _ rfl)))))))))))
