-- ===== again, undo =====
theorem chg_back {M M5 : MEM} (h1 : ∀ c, c ≠ 3 → (c < 5 ∨ 18 < c) → c ≠ 45 → c ≠ 278 → c ≠ 279 → c ≠ 282 → M5 c = M c) (h2 : ∀ k, k ≠ 7 → k ≠ 13 → k ≠ 31 → M5 278 k = M 278 k) : chg [0, 4, 5, 8, 12] M M5 := fun a k n => by
  by_cases e3 : a = 3
  · subst e3
    refine absurd ?_ n
    by_cases z : k = 2
    · subst z; decide
    · by_cases z3 : k = 3
      · subst z3; decide
      · rw [show rg 3 k = (if k = 2 then 12 else if k = 3 then 4 else 0) from rfl, if_neg z, if_neg z3]; decide
  · by_cases e5 : 5 ≤ a ∧ a ≤ 9
    · refine absurd ?_ n
      have : a = 5 ∨ a = 6 ∨ a = 7 ∨ a = 8 ∨ a = 9 := by omega
      rcases this with rfl | rfl | rfl | rfl | rfl
      · by_cases z : k = 4
        · subst z; decide
        · rw [show rg 5 k = (if k = 4 then 5 else 0) from rfl, if_neg z]; decide
      all_goals exact (by decide : (5 : Nat) ∈ [0, 4, 5, 8, 12])
    · by_cases e10 : 10 ≤ a ∧ a ≤ 18
      · refine absurd ?_ n
        rcases rg_D12 (k := k) e10.1 e10.2 with e | e <;> rw [e] <;> decide
      · by_cases e45 : a = 45
        · subst e45; exact absurd (by rw [rg_U (by decide) (by decide)]; decide) n
        · by_cases e279 : a = 279
          · subst e279; exact absurd (by rw [rg_279]; decide) n
          · by_cases e282 : a = 282
            · subst e282
              refine absurd ?_ n
              by_cases z : k < 40
              · rw [rg_car z]; decide
              · rw [show rg 282 k = (if k < 40 then 5 else 0) from rfl, if_neg z]; decide
            · by_cases e278 : a = 278
              · subst e278
                refine h2 k (fun e => n ?_) (fun e => n ?_) (fun e => n ?_) <;> subst e <;> decide
              · rw [h1 a e3 (by omega) e45 e278 e279 e282]
theorem c_again {B : Int} {M : MEM} (h : Rel B M) (x : Int) : Lk B (dh_again x M) (mo_again x) := by
  have c3 : chg [0] M (up2 M 278 13 0) := chg.rf.up (by decide)
  obtain ⟨s1, s2, s3, s3a, s3b, s4⟩ := h.S
  unfold Lk dh_again
  by_cases hx : 0 ≤ x ∧ x < 2
  · obtain ⟨i, rfl⟩ : ∃ i : Nat, x = (i : Int) := ⟨x.toNat, by omega⟩
    have hi : i < 2 := by omega
    rw [toNat_c]
    obtain ⟨q1, q2, q3⟩ := h.K i hi
    have hin : mo_in (i : Int) 0 1 ≠ 0 := by rw [moIn_y (by omega)]; decide
    have r5 : up2 M 278 13 0 305 i = M 305 i := rd_a (by decide)
    have r6 : up2 M 278 13 0 306 i = M 306 i := rd_a (by decide)
    have r1 : up2 M 278 13 0 278 51 = M 278 51 := rd_k (by decide)
    refine Tc_f (by omega) (Tc_f (by omega) (Tc_t (by omega) ?_))
    by_cases z : M (246 + 16 * i) 4 = 0
    · refine Tc_t z (Tc_some ?_)
      unfold mo_again
      rw [toNat_c]
      exact Tc_u (Tc_f hin (Tc_t (by omega) (Tc_t (by rw [r5, q1]; exact z) (Tc_some ⟨rfl, h.go0 c3⟩))))
    · have y : M 305 i = 1 := by omega
      obtain ⟨w1, w2, w3, w4⟩ := q3 y
      refine Tc_f z (Tc_t (by omega) ?_)
      by_cases z2 : M (246 + 16 * i) 2 = M 3 2
      · obtain ⟨w5, w6⟩ := w4 z2
        obtain ⟨M1, e1, g1, g2, g3, g3'⟩ := copyWalk_eq (s' := 3) (s := 246 + 16 * i) (M := M) (by omega) (by omega) (by omega)
        obtain ⟨M2, e2, k1, k2, k3⟩ := ca_copy_eq (c' := 5) (c := 246 + 16 * i + 2) (M := M1) (by omega)
        refine Tc_t z2 (Tc_t (by omega) (Tc_e e1 (Tc_t (by omega) (Tc_e e2 (Tc_e (b := up2 M2 45 2 0) rfl ?_)))))
        refine Tc_some ?_
        dsimp only
        unfold mo_again
        have wk : wr (207 * (i : Int)) = ((207 * i : Nat) : Int) := (wr_i (by omega) (by omega)).trans (by omega)
        have f0 : ∀ c, c ≠ 3 → (c < 5 ∨ 18 < c) → c ≠ 45 → up2 M2 45 2 0 c = M c := fun c a b d => by rw [up2_ne d, k2 c (by omega), g2 c a (by omega)]
        have f1 : copyS 3 (246 + 16 * i) (up2 M2 45 2 0) M := by
          obtain ⟨a1, a2, a3⟩ := g1
          have hh : ∀ c, (c < 5 ∨ 10 ≤ c) → c ≠ 45 → up2 M2 45 2 0 c = M1 c := fun c a b => by rw [up2_ne b, k2 c (by omega)]
          refine ⟨by rw [hh 3 (by omega) (by omega)]; exact a1, by rw [hh 3 (by omega) (by omega)]; exact a2, fun d hd => ?_⟩
          rw [hh _ (by omega) (by omega), hh _ (by omega) (by omega), hh _ (by omega) (by omega)]
          exact a3 d hd
        have f2 : ∀ c : Nat, 10 ≤ c → c ≤ 18 → (10 : Int) + 3 * M 3 2 ≤ (c : Int) → up2 M2 45 2 0 c = M c := fun c a b d => by rw [up2_ne (by omega), k2 c (by omega), g2 c (by omega) (by omega)]
        have f4 : copyC 5 (246 + 16 * i + 2) (up2 M2 45 2 0) M := by
          refine ⟨?_, fun q j x1 x2 hj => ?_⟩
          · rw [up2_ne (by omega), k1.1, g2 _ (by omega) (by omega)]
          · rw [up2_ne (by omega), k1.2 q j x1 x2 hj, g2 _ (by omega) (by omega)]
        have f5 : up2 M2 45 2 0 45 2 = 0 := rd_same
        have f6 : up2 M2 45 2 0 45 1 = M 45 1 := by rw [rd_k (by decide), k2 45 (by omega), g2 45 (by omega) (by omega)]
        generalize up2 M2 45 2 0 = M3 at *
        have r5 : up2 M3 278 13 0 305 i = 1 := by rw [rd_a (by decide), f0 305 (by omega) (by omega) (by omega)]; exact y
        have r6 : up2 M3 278 13 0 306 i = up2 M3 278 13 0 278 51 := by rw [rd_a (by decide), rd_k (by decide), f0 306 (by omega) (by omega) (by omega), f0 278 (by omega) (by omega) (by omega)]; exact w3.2 z2
        have e40 : ∀ (j : Nat) (M9 : MEM), j < 166 → mo_again_b40 (i : Int) (j : Int) M9 = some (.inl (((j + 1 : Nat) : Int), up2 M9 279 j (M9 304 (207 * i + j)))) := fun j M9 hj => by
          unfold mo_again_b40
          have wj : wr (wr (207 * (i : Int)) + (j : Int)) = ((207 * i + j : Nat) : Int) := by rw [wk, wr_i (by omega) (by omega)]; omega
          rw [wj, if_neg (by omega), if_pos (by omega), if_pos (by omega), Option.bind_some, toNat_c, toNat_c, wr_i (x := (j : Int) + 1) (by omega) (by omega)]
          rfl
        obtain ⟨M4, e4, l1, l2⟩ := takeNow_eq (a := 304) (k := 207 * i) (n := 166) (M := up2 M3 278 13 0) (fun s => mo_again_b40 (i : Int) s.1 s.2) (by decide) e40 (fun M9 => by show mo_again_b40 (i : Int) 166 M9 = _; unfold mo_again_b40; rw [if_pos (Int.le_refl _)])
        obtain ⟨M5, e5, t1, t2, t3, t4, t5⟩ := takeCarrots_eq (a := 304) (k := 207 * i) (M := M4) (Or.inr rfl) (show 207 * i + 207 ≤ 414 by omega)
        rw [toNat_c]
        refine Tc_u (Tc_f hin (Tc_t (by omega) (Tc_f (by rw [r5]; decide) (Tc_t (by omega) (Tc_t r6 (Tc_e e4 ?_))))))
        rw [wk]
        refine Tc_e e5 (Tc_u (Tc_some ⟨rfl, ?_⟩))
        dsimp only
        have h0 : ∀ c, c ≠ 278 → c ≠ 279 → c ≠ 282 → up2 M5 278 31 0 c = M3 c := fun c c1 c2 c3 => by rw [up2_ne c1, t3 c c1 c3, l1 c c2, up2_ne c1]
        have h278 : ∀ k, k ≠ 7 → k ≠ 13 → k ≠ 31 → up2 M5 278 31 0 278 k = M 278 k := fun k a b d => by rw [rd_k d, t4 k a, l1 278 (by decide), rd_k b, f0 278 (by omega) (by omega) (by omega)]
        have h304 : ∀ q, M4 304 q = M 304 q := fun q => by rw [l1 304 (by decide), rd_a (by decide), f0 304 (by omega) (by omega) (by omega)]
        have g31 : up2 M5 278 31 0 278 31 = 0 := rd_same
        have hc : chg [0, 4, 5, 8, 12] M (up2 M5 278 31 0) := chg_back (fun c a1 a2 a3 a4 a5 a6 => by rw [h0 c a4 a5 a6, f0 c a1 a2 a3]) h278
        refine Rel.back (s := 246 + 16 * i) (a := 304) (k := 207 * i) h w5 z2 ?_ (fun c a b d => by rw [h0 c (by omega) (by omega) (by omega)]; exact f2 c a b d) (fun j hj => ?_) hc (h278 1 (by decide) (by decide) (by decide)) (h278 51 (by decide) (by decide) (by decide)) ?_ ?_ (fun hS => ?_)
        · obtain ⟨a1, a2, a3⟩ := f1
          refine ⟨by rw [h0 3 (by decide) (by decide) (by decide)]; exact a1, by rw [h0 3 (by decide) (by decide) (by decide)]; exact a2, fun d hd => ?_⟩
          rw [h0 _ (by omega) (by omega) (by omega), h0 _ (by omega) (by omega) (by omega), h0 _ (by omega) (by omega) (by omega)]
          exact a3 d hd
        · rw [rd_a (by decide), t3 279 (by decide) (by decide), l2 j hj, rd_a (by decide), f0 304 (by omega) (by omega) (by omega)]
        · rw [h0 280 (by decide) (by decide) (by decide), f0 280 (by omega) (by omega) (by omega)]
        · unfold C_C
          rw [show up2 M5 278 31 0 278 7 = M 304 (207 * i + 166) by rw [rd_k (by decide), t1, h304]]
          refine snC.move (c := 246 + 16 * i + 2) ⟨?_, fun q j x1 x2 hj => ?_⟩ rfl (fun q hq => ?_) w6
          · rw [h0 5 (by decide) (by decide) (by decide)]; exact f4.1
          · rw [h0 _ (by omega) (by omega) (by omega)]; exact f4.2 q j x1 x2 hj
          · rw [rd_a (by decide), t2 q hq, h304]
        · obtain ⟨u1, u2, u3, u4, u5, u6⟩ := h.U
          have e45 : up2 M5 278 31 0 45 = M3 45 := h0 45 (by decide) (by decide) (by decide)
          refine ⟨by rw [e45, f6]; exact u1, by rw [e45, f6]; exact u2, by rw [e45, g31, f5], by rw [e45, f5]; decide, by rw [e45, f5]; decide, fun j hj => ?_⟩
          rw [e45, f5] at hj
          omega
      · refine Tc_f z2 (Tc_some ?_)
        unfold mo_again
        rw [toNat_c]
        exact Tc_u (Tc_f hin (Tc_t (by omega) (Tc_f (by rw [r5, y]; decide) (Tc_t (by omega) (Tc_f (by rw [r6, r1]; exact fun e => z2 (w3.1 e)) (Tc_some ⟨rfl, h.go0 c3⟩))))))
  · have mo : Tc (mo_again x M) (fun q => q.1 = 0 ∧ Rel B q.2) := by
      unfold mo_again
      exact Tc_u (Tc_t (moIn_n (by omega)) (Tc_some ⟨rfl, h.go0 c3⟩))
    exact Tc_i (fun _ => Tc_some mo) (fun q => Tc_t (by omega) (Tc_some mo))
theorem rg_5 {a k : Nat} (h1 : ¬ (5 ≤ a ∧ a ≤ 9)) (h2 : a ≠ 278) (h3 : a ≠ 282) : rg a k ≠ 5 := by
  unfold rg
  repeat' (refine ite_ne (fun _ => ?_) (fun _ => ?_))
  all_goals first | decide | (exfalso; omega)
theorem c_undo {B : Int} {M : MEM} (h : Rel B M) : Lk B (dh_undo M) mo_undo := by
  have c3 : chg [0] M (up2 M 278 13 0) := chg.rf.up (by decide)
  obtain ⟨s1, s2, s3, s3a, s3b, s4⟩ := h.S
  obtain ⟨u1, u2, u3, u4, u5, u6⟩ := h.U
  have m31 : up2 M 278 13 0 278 31 = M 45 2 := by rw [rd_k (by decide)]; exact u3
  unfold Lk dh_undo hi_takeBack
  by_cases z : 1 ≤ M 45 2
  · obtain ⟨n, hn⟩ : ∃ n : Nat, M 45 2 = (n : Int) + 1 := ⟨(M 45 2).toNat - 1, by omega⟩
    obtain ⟨v1, v2, v3, v4, v5⟩ := u6 n (by omega)
    have hu := usc_in (i := n) u1 u2 (by omega)
    have p1 : up2 M 45 2 (wr (M 45 2 - 1)) 45 1 = M 45 1 := rd_k (by decide)
    have p2 : up2 M 45 2 (wr (M 45 2 - 1)) 45 2 = (n : Int) := by rw [rd_same, wr_i (by omega) (by omega)]; omega
    have p3 : ∀ c, c ≠ 45 → up2 M 45 2 (wr (M 45 2 - 1)) c = M c := fun c hc => up2_ne hc
    rw [show (if 1 ≤ M 45 2 then _ else _) = _ from if_pos z, Option.bind_some]
    generalize up2 M 45 2 (wr (M 45 2 - 1)) = M0 at *
    have hm1 := Int.emod_nonneg (M 45 1 + (n : Int)) (show (11 : Int) ≠ 0 by decide)
    have hm2 := Int.emod_lt_of_pos (M 45 1 + (n : Int)) (show (0 : Int) < 11 by decide)
    have er : 47 + 16 * ((M 45 1 + (n : Int)) % 11).toNat = usc M n := by unfold usc; split <;> omega
    rw [p1, p2, wr_i (x := M 45 1 + (n : Int)) (by omega) (by omega), floorMod_eq (by unfold InR; omega) (by decide) (by decide), Option.bind_some, if_pos (by omega), er]
    generalize hF : usc M n = F at *
    obtain ⟨M1, e1, g1, g2, g3, g3'⟩ := copyWalk_eq (s' := 3) (s := F) (M := M0) (by omega) (by rw [p3 F (by omega)]; omega) (by rw [p3 F (by omega)]; omega)
    rw [e1, Option.bind_some]
    have a5 : M1 F 5 = M F 5 := by rw [g2 F (by omega) (by rw [p3 F (by omega)]; omega), p3 F (by omega)]
    -- what both ways have alike
    have f0 : ∀ c, c ≠ 3 → (c < 10 ∨ 18 < c) → c ≠ 45 → M1 c = M c := fun c a b d => by rw [g2 c a (by rw [p3 F (by omega)]; omega), p3 c d]
    have f1 : copyS 3 F M1 M := by
      obtain ⟨a1, a2, a3⟩ := g1
      rw [p3 F (by omega)] at a1 a2 a3
      refine ⟨a1, a2, fun d hd => ?_⟩
      have := a3 d hd
      rw [p3 _ (by omega), p3 _ (by omega), p3 _ (by omega)] at this
      exact this
    have f2 : ∀ c : Nat, 10 ≤ c → c ≤ 18 → (10 : Int) + 3 * M 3 2 ≤ (c : Int) → M1 c = M c := fun c a b d => by rw [g2 c (by omega) (by rw [p3 F (by omega)]; omega), p3 c (by omega)]
    have f45 : M1 45 = M0 45 := g2 45 (by omega) (by rw [p3 F (by omega)]; omega)
    -- what the reference does, from any memory the class left
    have mo : ∀ M3 : MEM, (∀ c, c ≠ 3 → (c < 5 ∨ 18 < c) → c ≠ 45 → M3 c = M c) → M3 45 = M0 45 → copyS 3 F M3 M → (∀ c : Nat, 10 ≤ c → c ≤ 18 → (10 : Int) + 3 * M 3 2 ≤ (c : Int) → M3 c = M c) →
        (M F 5 = 1 → copyC 5 (F + 2) M3 M) → (M F 5 ≠ 1 → ∀ c, 5 ≤ c → c ≤ 9 → M3 c = M c) → Tc (mo_undo M3) (fun q => q.1 = (n : Int) ∧ Rel B q.2) := by
      intro M3 f0 f45 f1 f2 f4 f4'
      have r31 : up2 M3 278 13 0 278 31 = (n : Int) + 1 := by rw [rd_k (by decide), f0 278 (by omega) (by omega) (by omega)]; omega
      unfold mo_undo
      refine Tc_u (Tc_f (by rw [r31]; omega) (Tc_u ?_))
      rw [r31, wr_i (x := (n : Int) + 1 - 1) (by omega) (by omega), show (n : Int) + 1 - 1 = (n : Int) by omega]
      have q31 : up2 (up2 M3 278 13 0) 278 31 (n : Int) 278 31 = (n : Int) := rd_same
      rw [q31]
      have wk : wr (208 * (n : Int)) = ((208 * n : Nat) : Int) := (wr_i (by omega) (by omega)).trans (by omega)
      have w207 : wr (((208 * n : Nat) : Int) + 207) = ((208 * n + 207 : Nat) : Int) := (wr_i (by omega) (by omega)).trans (by omega)
      rw [wk, w207]
      have e35 : ∀ (j : Nat) (M9 : MEM), j < 166 → mo_undo_b35 ((208 * n : Nat) : Int) (j : Int) M9 = some (.inl (((j + 1 : Nat) : Int), up2 M9 279 j (M9 288 (208 * n + j)))) := fun j M9 hj => by
        unfold mo_undo_b35
        have wj : wr (((208 * n : Nat) : Int) + (j : Int)) = ((208 * n + j : Nat) : Int) := (wr_i (by omega) (by omega)).trans (by omega)
        rw [wj, if_neg (by omega), if_pos (by omega), if_pos (by omega), Option.bind_some, toNat_c, toNat_c, wr_i (x := (j : Int) + 1) (by omega) (by omega)]
        rfl
      obtain ⟨M4, e4, l1, l2⟩ := takeNow_eq (a := 288) (k := 208 * n) (n := 166) (M := up2 (up2 M3 278 13 0) 278 31 (n : Int)) (fun s => mo_undo_b35 ((208 * n : Nat) : Int) s.1 s.2) (by decide) e35 (fun M9 => by show mo_undo_b35 _ 166 M9 = _; unfold mo_undo_b35; rw [if_pos (Int.le_refl _)])
      have h288 : ∀ q, M4 288 q = M 288 q := fun q => by rw [l1 288 (by decide), rd_a (by decide), rd_a (by decide), f0 288 (by omega) (by omega) (by omega)]
      refine Tc_e e4 (Tc_t (by omega) ?_)
      dsimp only
      rw [toNat_c]
      -- behind it, alike
      have fin : ∀ M5 : MEM, (∀ c, c ≠ 278 → c ≠ 282 → M5 c = M4 c) → (∀ k, k ≠ 7 → M5 278 k = M4 278 k) → C_C M5 → Rel B M5 := by
        intro M5 t3 t4 hC
        have h0 : ∀ c, c ≠ 278 → c ≠ 279 → c ≠ 282 → M5 c = M3 c := fun c c1 c2 c3 => by rw [t3 c c1 c3, l1 c c2, up2_ne c1, up2_ne c1]
        have h278 : ∀ k, k ≠ 7 → k ≠ 13 → k ≠ 31 → M5 278 k = M 278 k := fun k a b d => by rw [t4 k a, l1 278 (by decide), rd_k d, rd_k b, f0 278 (by omega) (by omega) (by omega)]
        have g31 : M5 278 31 = (n : Int) := by rw [t4 31 (by decide), l1 278 (by decide), rd_same]
        have hc : chg [0, 4, 5, 8, 12] M M5 := chg_back (fun c a1 a2 a3 a4 a5 a6 => by rw [h0 c a4 a5 a6, f0 c a1 a2 a3]) h278
        have e280 : M5 280 = M 280 := by rw [h0 280 (by decide) (by decide) (by decide), f0 280 (by omega) (by omega) (by omega)]
        refine Rel.back (s := F) (a := 288) (k := 208 * n) h v2 v1 ?_ (fun c a b d => by rw [h0 c (by omega) (by omega) (by omega)]; exact f2 c a b d) (fun j hj => ?_) hc (h278 1 (by decide) (by decide) (by decide)) (h278 51 (by decide) (by decide) (by decide)) e280 hC (fun hS => ?_)
        · obtain ⟨a1, a2, a3⟩ := f1
          refine ⟨by rw [h0 3 (by decide) (by decide) (by decide)]; exact a1, by rw [h0 3 (by decide) (by decide) (by decide)]; exact a2, fun d hd => ?_⟩
          rw [h0 _ (by omega) (by omega) (by omega), h0 _ (by omega) (by omega) (by omega), h0 _ (by omega) (by omega) (by omega)]
          exact a3 d hd
        · rw [t3 279 (by decide) (by decide), l2 j hj, rd_a (by decide), rd_a (by decide), f0 288 (by omega) (by omega) (by omega)]
        · have e45 : M5 45 = M0 45 := by rw [h0 45 (by decide) (by decide) (by decide), f45]
          have e32 : M5 3 2 = M 3 2 := by rw [h0 3 (by decide) (by decide) (by decide), f1.1]; exact v1
          have e288 : M5 288 = M 288 := by rw [h0 288 (by decide) (by decide) (by decide), f0 288 (by omega) (by omega) (by omega)]
          refine ⟨by rw [e45, p1]; exact u1, by rw [e45, p1]; exact u2, by rw [e45, g31, p2], by rw [e45, p2]; omega, by rw [e45, p2]; omega, fun j hj => ?_⟩
          rw [e45, p2] at hj
          have hus : usc M5 j = usc M j := usc_same (by rw [e45, p1])
          have huj := usc_in (i := j) u1 u2 (by omega)
          obtain ⟨w1, w2, w3, w4, w5⟩ := u6 j (by omega)
          have hcell : ∀ c, 47 ≤ c → c ≤ 222 → M5 c = M c := fun c a b => by rw [h0 c (by omega) (by omega) (by omega), f0 c (by omega) (by omega) (by omega)]
          rw [hus, e32, e288, hcell _ (by omega) (by omega)]
          refine ⟨w1, ?_, ?_, w4, w5⟩
          · exact w2.cg s3 (by rw [hcell _ (by omega) (by omega)]) (fun c q a b => by rw [hcell c (by omega) (by omega)]) (fun q _ _ => by rw [e288]) (fun d _ => by rw [e280])
          · exact w3.cg (fun q k a b => by rw [hcell _ (by omega) (by omega)]) (fun k _ => rfl)
      by_cases y : M F 5 = 1
      · have y' : M 288 (208 * n + 207) = 1 := by rw [← v4]; exact y
        obtain ⟨M5, e5, t1, t2, t3, t4, t5⟩ := takeCarrots_eq (a := 288) (k := 208 * n) (M := M4) (Or.inl rfl) (show 208 * n + 207 ≤ 2080 by omega)
        have k4 := f4 y
        refine Tc_t (by rw [h288]; exact y') (Tc_e e5 (Tc_some ⟨?_, fin M5 t3 t4 ?_⟩))
        · show M5 278 31 = _
          rw [t4 31 (by decide), l1 278 (by decide), rd_same]
        · have hh : ∀ c, 5 ≤ c → c ≤ 9 → M5 c = M3 c := fun c a b => by rw [t3 c (by omega) (by omega), l1 c (by omega), up2_ne (by omega), up2_ne (by omega)]
          unfold C_C
          rw [show M5 278 7 = M 288 (208 * n + 166) by rw [t1, h288]]
          refine snC.move (c := F + 2) ⟨?_, fun q j x1 x2 hj => ?_⟩ rfl (fun q hq => ?_) v3
          · rw [hh 5 (by decide) (by decide)]; exact k4.1
          · rw [hh _ (by omega) (by omega)]; exact k4.2 q j x1 x2 hj
          · rw [t2 q hq, h288]
      · have y' : ¬ M 288 (208 * n + 207) = 1 := by rw [← v4]; exact y
        refine Tc_f (by rw [h288]; exact y') (Tc_some ⟨?_, fin M4 (fun c _ _ => rfl) (fun k _ => rfl) ?_⟩)
        · show M4 278 31 = _
          rw [l1 278 (by decide), rd_same]
        · refine h.C.cg (fun a k e => ?_)
          have e' : rg a k = 5 := e
          by_cases e1 : 5 ≤ a ∧ a ≤ 9
          · rw [l1 a (by omega), up2_ne (by omega), up2_ne (by omega), f4' y a e1.1 e1.2]
          · by_cases e2 : a = 278
            · subst e2
              rw [l1 278 (by decide), rd_k (fun w => by subst w; revert e'; decide), rd_k (fun w => by subst w; revert e'; decide), f0 278 (by omega) (by omega) (by omega)]
            · by_cases e3 : a = 282
              · subst e3
                rw [l1 282 (by decide), rd_a (by decide), rd_a (by decide), f0 282 (by omega) (by omega) (by omega)]
              · exact absurd e' (rg_5 e1 e2 e3)
    by_cases y : M F 5 = 0
    · refine Tc_e (b := (1, M1)) (if_pos (a5.trans y)) (Tc_f (by show ¬ (1 : Int) = 0; decide) (Tc_some ?_))
      have := mo M1 (fun c a b d => f0 c a (by omega) d) f45 f1 f2 (fun e => by omega) (fun _ c a b => f0 c (by omega) (by omega) (by omega))
      dsimp only
      rw [f45, p2]
      exact this
    · obtain ⟨M2, e2, k1, k2, k3⟩ := ca_copy_eq (c' := 5) (c := F + 2) (M := M1) (by omega)
      refine Tc_e (b := (1, M2)) (by rw [a5, if_neg y, e2, Option.bind_some]) (Tc_f (by show ¬ (1 : Int) = 0; decide) (Tc_some ?_))
      have hh : ∀ c, (c < 5 ∨ 10 ≤ c) → M2 c = M1 c := fun c a => k2 c (by omega)
      have := mo M2 (fun c a b d => by rw [hh c (by omega)]; exact f0 c a (by omega) d) (by rw [hh 45 (by omega), f45]) ?_ (fun c a b d => by rw [hh c (by omega)]; exact f2 c a b d) (fun _ => ?_) (fun e => by omega)
      · dsimp only
        rw [hh 45 (by omega), f45, p2]
        exact this
      · obtain ⟨a1, a2, a3⟩ := f1
        refine ⟨by rw [hh 3 (by omega)]; exact a1, by rw [hh 3 (by omega)]; exact a2, fun d hd => ?_⟩
        rw [hh _ (by omega), hh _ (by omega), hh _ (by omega)]
        exact a3 d hd
      · refine ⟨?_, fun q j x1 x2 hj => ?_⟩
        · rw [k1.1, f0 _ (by omega) (by omega) (by omega)]
        · rw [k1.2 q j x1 x2 hj, f0 _ (by omega) (by omega) (by omega)]
  · have z' : M 45 2 = 0 := by omega
    rw [show (if 1 ≤ M 45 2 then _ else _) = _ from if_neg z, Option.bind_some]
    refine Tc_t rfl (Tc_some ?_)
    unfold mo_undo
    exact Tc_u (Tc_t (by rw [m31]; exact z') (Tc_some ⟨rfl, h.go0 c3⟩))
