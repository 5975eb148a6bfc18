-- ===== struck, took, row =====
/-- the MINUTE of a DONKEY's k-th STROKE, as both tell it -/
def lnV (M : MEM) (d : Nat) (k : Int) : Int := if k ≤ M (10 + 3 * d) 5 then (if M (10 + 3 * d) 5 - 40 < k then M (10 + 3 * d + 2) (k % 40).toNat else -3) else -2
theorem book_of {B : Int} {M : MEM} (h : Rel B M) {d : Nat} (hd : (d : Int) < M 3 2) {k : Int} (h1 : 1 ≤ k) (h2 : k ≤ M (10 + 3 * d) 5) (h3 : M (10 + 3 * d) 5 < k + 40) :
    M (10 + 3 * d + 2) (k % 40).toNat = M 279 (55 * d + 15 + ((k - 1) % 40).toNat) ∧ 0 ≤ M (10 + 3 * d + 2) (k % 40).toNat ∧ M (10 + 3 * d + 2) (k % 40).toNat < M 3 3 := by
  obtain ⟨t1, t2, t3, t4⟩ := h.D
  obtain ⟨t5, g1, g2, g3, g4, g5⟩ := t4 d hd
  rw [show 3 + 7 + 3 * d = 10 + 3 * d by omega, Nat.zero_add] at g5
  obtain ⟨j, rfl⟩ : ∃ j : Nat, k = (j : Int) := ⟨k.toNat, by omega⟩
  have q := g5 j (by omega) h2 (by omega)
  rw [show ((j : Int) % 40).toNat = j % 40 by omega, show (((j : Int) - 1) % 40).toNat = (j - 1) % 40 by omega]
  exact q
theorem minuteOf_eq {M : MEM} {d : Nat} {k : Int} (h1 : 1 ≤ k) (h0 : 0 ≤ M (10 + 3 * d) 5) (hB : M (10 + 3 * d) 5 ≤ 100000000) : be_minuteOf (10 + 3 * d) k M = some (lnV M d k) := by
  unfold be_minuteOf lnV
  by_cases h2 : k ≤ M (10 + 3 * d) 5
  · rw [if_pos h2, if_pos h2, if_neg (by omega), wr_i (by omega) (by omega)]
    by_cases h3 : M (10 + 3 * d) 5 - 40 < k
    · have m1 := Int.emod_nonneg k (show (40 : Int) ≠ 0 by decide)
      have m2 := Int.emod_lt_of_pos k (show (0 : Int) < 40 by decide)
      rw [if_pos h3, if_pos h3, floorMod_eq (by unfold InR; omega) (by decide) (by decide), Option.bind_some, if_pos ⟨m1, m2⟩]
    · rw [if_neg h3, if_neg h3]
  · rw [if_neg h2, if_neg h2]
theorem strokesM_eq {M : MEM} {d : Nat} (hd : d < 3) : mo_strokes (d : Int) M = some (M 279 (55 * d + 2)) := by
  have w : wr (wr (55 * (d : Int)) + 2) = ((55 * d + 2 : Nat) : Int) := by rw [wr_i (x := 55 * (d : Int)) (by omega) (by omega), wr_i (by omega) (by omega)]; omega
  unfold mo_strokes
  rw [w, if_pos (by omega), toNat_c]
theorem line_eq {B : Int} {M M1 : MEM} (h : Rel B M) (hB : B ≤ 100000000) (e : M1 279 = M 279) {d : Nat} (hd : (d : Int) < M 3 2) {k : Int} (h1 : 1 ≤ k) : mo_line (d : Int) k M1 = some (lnV M d k) := by
  obtain ⟨w1, w2, w3, w4⟩ := dnk h hB hd
  have hn := h.S.2.2.1
  have ek : M 279 (55 * d + 2) = M (10 + 3 * d) 5 := w3.2.2.1.symm
  have k0 : 0 ≤ M (10 + 3 * d) 5 := w1.2.2.2.2.2.2.1
  have k1 : M (10 + 3 * d) 5 ≤ 100000000 := w2
  unfold mo_line lnV
  rw [strokesM_eq (by omega), Option.bind_some, e, ek]
  by_cases h2 : k ≤ M (10 + 3 * d) 5
  · rw [if_pos h2, if_pos h2, Option.bind_some, wr_i (x := M (10 + 3 * d) 5 - 40) (by omega) (by omega)]
    by_cases h3 : M (10 + 3 * d) 5 - 40 < k
    · have m1 := Int.emod_nonneg (k - 1) (show (40 : Int) ≠ 0 by decide)
      have m2 := Int.emod_lt_of_pos (k - 1) (show (0 : Int) < 40 by decide)
      have w : wr (wr (wr (55 * (d : Int)) + 15) + Int.tmod (wr (k - 1)) 40) = ((55 * d + 15 + ((k - 1) % 40).toNat : Nat) : Int) := by
        rw [wr_i (x := k - 1) (by omega) (by omega), tmod_nn (by omega), wr_i (x := 55 * (d : Int)) (by omega) (by omega), wr_i (x := 55 * (d : Int) + 15) (by omega) (by omega), wr_i (by omega) (by omega)]; omega
      rw [if_pos h3, if_pos h3, w, if_pos (by omega), toNat_c, (book_of h hd h1 h2 (by omega)).1]
    · rw [if_neg h3, if_neg h3]
  · rw [if_neg h2, if_neg h2]
theorem c_struck {B : Int} {M : MEM} (h : Rel B M) (hB : B ≤ 100000000) (x k : Int) : Lk B ((dh_struck x k M).bind fun r => some (r, M)) (mo_struck x k) := by
  have c3 : chg [0] M (up2 M 278 13 0) := chg.rf.up (by decide)
  have k1 : up2 M 278 13 0 278 1 = M 278 1 := rd_k (by decide)
  have hn := h.S.2.2.1
  unfold Lk dh_struck
  by_cases hc : (0 ≤ x ∧ x < M 3 2) ∧ 1 ≤ k
  · obtain ⟨hd, hk⟩ := hc
    obtain ⟨d, rfl⟩ : ∃ d : Nat, x = (d : Int) := ⟨x.toNat, by omega⟩
    obtain ⟨w1, w2, w3, w4⟩ := dnk h hB hd.2
    have e1 := minuteOf_eq (M := M) (d := d) hk w1.2.2.2.2.2.2.1 w2
    rw [isDonkey_y hn hd.1 hd.2, if_neg (by decide), if_pos hk, if_pos (by omega), toNat_c, e1]
    refine Tc_u (Tc_some ?_)
    unfold mo_struck
    exact Tc_u (Tc_f (by rw [moDonkey_y h.S k1 hd]; decide) (Tc_f (by omega) (Tc_e (line_eq h hB (up2_ne (by decide)) hd.2 hk) (Tc_some ⟨rfl, h.go0 c3⟩))))
  · have mo : Tc (mo_struck x k M) (fun q => q.1 = -1 ∧ Rel B q.2) := by
      unfold mo_struck
      refine Tc_u (Tc_i (fun _ => Tc_some ⟨rfl, h.go0 c3⟩) (fun q => Tc_t ?_ (Tc_some ⟨rfl, h.go0 c3⟩)))
      exact Classical.byContradiction fun y => hc ⟨Classical.byContradiction fun z => q (moDonkey_n h.S k1 z), by omega⟩
    by_cases hd : 0 ≤ x ∧ x < M 3 2
    · rw [isDonkey_y hn hd.1 hd.2, if_neg (by decide), if_neg (fun q => hc ⟨hd, q⟩)]
      exact Tc_u (Tc_some mo)
    · rw [isDonkey_n hn hd, if_pos rfl]
      exact Tc_u (Tc_some mo)
theorem c_took {B : Int} {M : MEM} (h : Rel B M) (hB : B ≤ 100000000) (x k : Int) : Lk B ((dh_took x k M).bind fun r => some (r, M)) (mo_took x k) := by
  have c3 : chg [0] M (up2 M 278 13 0) := chg.rf.up (by decide)
  have k1 : up2 M 278 13 0 278 1 = M 278 1 := rd_k (by decide)
  have hn := h.S.2.2.1
  have nw := now_in h
  unfold Lk dh_took
  by_cases hc : (0 ≤ x ∧ x < M 3 2) ∧ 1 ≤ k
  · obtain ⟨hd, hk⟩ := hc
    obtain ⟨d, rfl⟩ : ∃ d : Nat, x = (d : Int) := ⟨x.toNat, by omega⟩
    obtain ⟨w1, w2, w3, w4⟩ := dnk h hB hd.2
    have k0 : 0 ≤ M (10 + 3 * d) 5 := w1.2.2.2.2.2.2.1
    have k100 : M (10 + 3 * d) 5 ≤ 100000000 := w2
    have ek : M 279 (55 * d + 2) = M (10 + 3 * d) 5 := w3.2.2.1.symm
    have e1 := minuteOf_eq (M := M) (d := d) hk k0 w2
    have l1 := line_eq (M1 := up2 M 278 13 0) h hB (up2_ne (by decide)) hd.2 hk
    rw [isDonkey_y hn hd.1 hd.2, if_neg (by decide), if_pos hk, if_pos (by omega), toNat_c, e1, Option.bind_some]
    by_cases hz : 0 ≤ lnV M d k
    · have hin : k ≤ M (10 + 3 * d) 5 ∧ M (10 + 3 * d) 5 < k + 40 := by
        unfold lnV at hz
        by_cases y : k ≤ M (10 + 3 * d) 5
        · rw [if_pos y] at hz
          by_cases y2 : M (10 + 3 * d) 5 - 40 < k
          · exact ⟨y, by omega⟩
          · rw [if_neg y2] at hz; omega
        · rw [if_neg y] at hz; omega
      have b1 := book_of h hd.2 hk hin.1 hin.2
      have v1 : lnV M d k = M (10 + 3 * d + 2) (k % 40).toNat := by unfold lnV; rw [if_pos hin.1, if_pos (by omega)]
      have wk : wr (k + 1) = k + 1 := wr_i (by omega) (by omega)
      have e2 := minuteOf_eq (M := M) (d := d) (k := k + 1) (by omega) k0 w2
      rw [if_pos hz, wk, e2, Option.bind_some]
      by_cases hS : k = M (10 + 3 * d) 5
      · have v2 : lnV M d (k + 1) = -2 := by unfold lnV; rw [if_neg (by omega)]
        rw [v2, if_neg (by decide)]
        refine Tc_u (Tc_some ?_)
        dsimp only
        unfold mo_took
        exact Tc_u (Tc_f (by rw [moDonkey_y h.S k1 hd]; decide) (Tc_t hk (Tc_e l1 (Tc_t hz (Tc_e (strokesM_eq (by omega)) (Tc_t (by rw [rd_a (by decide), ek]; exact hS) (Tc_some ⟨rfl, h.go0 c3⟩)))))))
      · have b2 := book_of h hd.2 (k := k + 1) (by omega) (by omega) (by omega)
        have v2 : lnV M d (k + 1) = M (10 + 3 * d + 2) ((k + 1) % 40).toNat := by unfold lnV; rw [if_pos (by omega), if_pos (by omega)]
        have l2 := line_eq (M1 := up2 M 278 13 0) (k := k + 1) h hB (up2_ne (by decide)) hd.2 (by omega)
        rw [if_pos (by omega)]
        refine Tc_u (Tc_some ?_)
        dsimp only
        unfold mo_took
        rw [wk]
        exact Tc_u (Tc_f (by rw [moDonkey_y h.S k1 hd]; decide) (Tc_t hk (Tc_e l1 (Tc_t hz (Tc_e (strokesM_eq (by omega)) (Tc_f (by rw [rd_a (by decide), ek]; exact hS) (Tc_e l2 (Tc_e l1 (Tc_some ⟨rfl, h.go0 c3⟩)))))))))
    · rw [if_neg hz]
      refine Tc_u (Tc_some ?_)
      dsimp only
      unfold mo_took
      exact Tc_u (Tc_f (by rw [moDonkey_y h.S k1 hd]; decide) (Tc_t hk (Tc_e l1 (Tc_f hz (Tc_e l1 (Tc_some ⟨rfl, h.go0 c3⟩))))))
  · have mo : Tc (mo_took x k M) (fun q => q.1 = -1 ∧ Rel B q.2) := by
      unfold mo_took
      refine Tc_u (Tc_i (fun _ => Tc_some ⟨rfl, h.go0 c3⟩) (fun q => Tc_f ?_ (Tc_some ⟨rfl, h.go0 c3⟩)))
      exact fun y => hc ⟨Classical.byContradiction fun z => q (moDonkey_n h.S k1 z), y⟩
    by_cases hd : 0 ≤ x ∧ x < M 3 2
    · rw [isDonkey_y hn hd.1 hd.2, if_neg (by decide), if_neg (fun q => hc ⟨hd, q⟩)]
      exact Tc_u (Tc_some mo)
    · rw [isDonkey_n hn hd, if_pos rfl]
      exact Tc_u (Tc_some mo)
