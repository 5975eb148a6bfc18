-- ===== set =====
theorem c_set {B : Int} {M : MEM} (h : Rel B M) (hB : B ≤ 100000000) (x y v : Int) : Lk B (dh_set x y v M) (mo_set x y v) := by
  have c3 : chg [0] M (up2 M 278 13 0) := chg.rf.up (by decide)
  have k1 : up2 M 278 13 0 278 1 = M 278 1 := rd_k (by decide)
  have hn := h.S.2.2.1
  have fin : ∀ a : Int, a = -1 → Tc (some ((-1 : Int), up2 M 278 13 0)) (fun q => q.1 = a ∧ Rel B q.2) := fun a e => Tc_some ⟨e.symm, h.go0 c3⟩
  unfold Lk dh_set
  by_cases hd : 0 ≤ x ∧ x < M 3 2
  · obtain ⟨d, rfl⟩ : ∃ d : Nat, x = (d : Int) := ⟨x.toNat, by omega⟩
    obtain ⟨w1, w2, w3, w4⟩ := dnk h hB hd.2
    have w3' := w3
    obtain ⟨z1, z2, z3, z4, z5, z6, z7, z8, z9⟩ := w1
    obtain ⟨f1, f2, f3, f4⟩ := w3
    simp only [dsC, dsM] at f1 f2 f3 f4 z3 z4 z5 z6 z7 z8 z9
    have x0 : wr (wr (55 * (d : Int)) + 0) = ((55 * d : Nat) : Int) := by rw [wr_i (x := 55 * (d : Int)) (by omega) (by omega), wr_i (by omega) (by omega)]; omega
    have x1 : wr (wr (55 * (d : Int)) + 1) = ((55 * d + 1 : Nat) : Int) := by rw [wr_i (x := 55 * (d : Int)) (by omega) (by omega), wr_i (by omega) (by omega)]; omega
    have hD : mo_isDonkey (d : Int) (up2 M 278 13 0) ≠ 0 := by rw [moDonkey_y h.S k1 hd]; decide
    -- one number is set on both sides
    have both : ∀ (s o : Nat), (s = 4 ∧ o = 0 ∧ 0 ≤ v ∧ v ≤ 9) ∨ (s = 3 ∧ o = 1 ∧ 0 ≤ v ∧ v < M 280 d) → Rel B (up2 (up2 (up2 M (10 + 3 * d) s v) 278 13 0) 279 (55 * d + o) v) := fun s o ho => by
      have cc : chg [0, 4] M (up2 (up2 (up2 M (10 + 3 * d) s v) 278 13 0) 279 (55 * d + o) v) := ((chg.rf.up (by rw [rg_D (by omega) (by omega) (Or.inl (by omega))]; decide)).up (by decide)).up (by rw [rg_279]; decide)
      have g1 : ∀ c, c ≠ 10 + 3 * d → c ≠ 278 → c ≠ 279 → up2 (up2 (up2 M (10 + 3 * d) s v) 278 13 0) 279 (55 * d + o) v c = M c := fun c a b e => by rw [up2_ne e, up2_ne b, up2_ne a]
      have g2 : ∀ k, up2 (up2 (up2 M (10 + 3 * d) s v) 278 13 0) 279 (55 * d + o) v (10 + 3 * d) k = if k = s then v else M (10 + 3 * d) k := fun k => by
        rw [rd_a (by omega), rd_a (by omega)]
        by_cases z : k = s
        · subst z; rw [rd_same, if_pos rfl]
        · rw [rd_k z, if_neg z]
      have g3 : ∀ k, up2 (up2 (up2 M (10 + 3 * d) s v) 278 13 0) 279 (55 * d + o) v 279 k = if k = 55 * d + o then v else M 279 k := fun k => by
        by_cases z : k = 55 * d + o
        · subst z; rw [rd_same, if_pos rfl]
        · rw [rd_k z, if_neg z, rd_a (by decide), rd_a (by omega)]
      generalize up2 (up2 (up2 M (10 + 3 * d) s v) 278 13 0) 279 (55 * d + o) v = M' at *
      refine h.go (Int.le_refl _) cc (by decide) (fun q => absurd q (by decide)) (fun q => absurd q (by decide)) (fun q => absurd q (by decide)) (fun _ => ?_) (fun q => absurd q (by decide)) (fun q => absurd q (by decide)) (fun q => absurd q (by decide)) (fun q => absurd q (by decide)) (fun q => absurd q (by decide)) (fun q => absurd q (by decide)) (fun q => absurd q (by decide))
      have gt := g1 (10 + 3 * d + 1) (by omega) (by omega) (by omega)
      refine D_one (d := d) h.D hd.2 hn (fun c a b e => g1 c (by omega) (by omega) (by omega)) (g1 _ (by omega) (by omega) (by omega)) (by rw [g2, if_neg (by omega)]) (by rw [g2, if_neg (by omega)]) (fun k hk => by rw [g3, if_neg (by omega)]) (g1 3 (by omega) (by omega) (by omega)) (g1 280 (by omega) (by omega) (by omega)) ?_ ?_ (fun q a b => by rw [g3, if_neg (by omega)])
      · refine ⟨?_, ?_, ?_, fun q hq => ?_⟩
        · show M' (10 + 3 * d) 3 = M' 279 (55 * d + 1)
          rw [g2, g3]
          rcases ho with ⟨rfl, rfl, -⟩ | ⟨rfl, rfl, -⟩
          · rw [if_neg (by omega), if_neg (by omega)]; exact f1
          · rw [if_pos rfl, if_pos (by omega)]
        · show M' (10 + 3 * d) 4 = M' 279 (55 * d)
          rw [g2, g3]
          rcases ho with ⟨rfl, rfl, -⟩ | ⟨rfl, rfl, -⟩
          · rw [if_pos rfl, if_pos (by omega)]
          · rw [if_neg (by omega), if_neg (by omega)]; exact f2
        · show M' (10 + 3 * d) 5 = M' 279 (55 * d + 2)
          rw [g2, g3, if_neg (by omega), if_neg (by omega)]; exact f3
        · show M' (10 + 3 * d + 1) q = M' 279 (55 * d + 3 + q)
          rw [gt, g3, if_neg (by omega)]; exact f4 q hq
      · refine ⟨z1, z2, ?_, ?_, ?_, ?_, ?_, ?_, fun q hq => ?_⟩
        · show 0 ≤ M' (10 + 3 * d) 3; rw [g2]; split <;> omega
        · show M' (10 + 3 * d) 3 < _
          rw [g2]
          rcases ho with ⟨rfl, rfl, -⟩ | ⟨rfl, rfl, q⟩
          · rw [if_neg (by omega)]; exact z4
          · rw [if_pos rfl]; exact q.2
        · show 0 ≤ M' (10 + 3 * d) 4; rw [g2]; split <;> omega
        · show M' (10 + 3 * d) 4 ≤ _
          rw [g2]
          rcases ho with ⟨rfl, rfl, q⟩ | ⟨rfl, rfl, q⟩
          · rw [if_pos rfl]; exact q.2
          · rw [if_neg (by omega)]; exact z6
        · show 0 ≤ M' (10 + 3 * d) 5; rw [g2, if_neg (by omega)]; exact z7
        · show M' (10 + 3 * d) 5 < _; rw [g2, if_neg (by omega)]; exact z8
        · show 0 ≤ M' (10 + 3 * d + 1) q ∧ M' (10 + 3 * d + 1) q ≤ 9
          rw [gt]; exact z9 q hq
    by_cases y0 : y = 0
    · subst y0
      refine Tc_t rfl ?_
      unfold dh_setHunger
      rw [isDonkey_y hn hd.1 hd.2, show (if (1 : Int) = 0 then _ else _) = _ from if_neg (by decide)]
      by_cases hv : 0 ≤ v ∧ v ≤ 9
      · rw [if_neg (by omega), if_pos hv.2, if_pos (by omega), toNat_c]
        refine Tc_u (Tc_u (Tc_some ?_))
        dsimp only
        unfold mo_set
        have hD' : mo_isDonkey (d : Int) (up2 (up2 M (10 + 3 * d) 4 v) 278 13 0) ≠ 0 := by rw [moDonkey_y h.S (by rw [rd_k (by decide), rd_a (by omega)]) hd]; decide
        refine Tc_u (Tc_f hD' (Tc_f (by rw [moIn_y (by decide)]; decide) (Tc_t rfl ?_)))
        unfold mo_set_j41
        rw [x0, toNat_c]
        refine Tc_f (by rw [moIn_y hv]; decide) (Tc_t (by omega) (Tc_t (by omega) (Tc_u (Tc_some ⟨?_, ?_⟩))))
        · dsimp only; rw [rd_a (by decide), rd_a (by omega)]; exact f2.symm
        · exact both 4 0 (Or.inl ⟨rfl, rfl, hv⟩)
      · have mo : Tc (mo_set d 0 v M) (fun q => q.1 = -1 ∧ Rel B q.2) := by
          unfold mo_set
          refine Tc_u (Tc_f hD (Tc_f (by rw [moIn_y (by decide)]; decide) (Tc_t rfl ?_)))
          unfold mo_set_j41
          exact Tc_t (moIn_n hv) (fin _ rfl)
        by_cases v0 : v < 0
        · rw [if_pos v0]; exact Tc_u (Tc_some mo)
        · rw [if_neg v0, if_neg (by omega)]; exact Tc_u (Tc_some mo)
    · refine Tc_f y0 ?_
      by_cases y1 : y = 1
      · subst y1
        refine Tc_t rfl ?_
        have e280 : wr (up2 M 278 13 0 280 d - 1) = M 280 d - 1 := by rw [rd_a (by decide)]; exact wr_i (by omega) (by omega)
        by_cases hv : 0 ≤ v ∧ v < M (10 + 3 * d) 2
        · have ey : dh_isPlace (d : Int) v M = some 1 := by rw [place_eq h.S, toNat_c, if_pos ⟨hd.1, hd.2, hv.1, hv.2⟩]
          refine Tc_e ey (Tc_f (by decide) (Tc_t (by omega) ?_))
          rw [toNat_c]
          refine Tc_u (Tc_some ?_)
          dsimp only
          unfold mo_set
          have hD' : mo_isDonkey (d : Int) (up2 (up2 M (10 + 3 * d) 3 v) 278 13 0) ≠ 0 := by rw [moDonkey_y h.S (by rw [rd_k (by decide), rd_a (by omega)]) hd]; decide
          have e280' : wr (up2 (up2 M (10 + 3 * d) 3 v) 278 13 0 280 d - 1) = M 280 d - 1 := by rw [rd_a (by decide), rd_a (by omega)]; exact wr_i (by omega) (by omega)
          refine Tc_u (Tc_f hD' (Tc_f (by rw [moIn_y (by decide)]; decide) (Tc_f (by decide) (Tc_t (by omega) ?_))))
          unfold mo_set_j41
          rw [x1, toNat_c, toNat_c, e280']
          refine Tc_f (by rw [moIn_y (by omega)]; decide) (Tc_t (by omega) (Tc_t (by omega) (Tc_u (Tc_some ⟨?_, ?_⟩))))
          · dsimp only; rw [rd_a (by decide), rd_a (by omega)]; exact f1.symm
          · exact both 3 1 (Or.inr ⟨rfl, rfl, hv.1, by omega⟩)
        · have ey : dh_isPlace (d : Int) v M = some 0 := by rw [place_eq h.S, toNat_c, if_neg (fun q => hv ⟨q.2.2.1, q.2.2.2⟩)]
          refine Tc_e ey (Tc_t rfl (Tc_some ?_))
          dsimp only
          unfold mo_set
          refine Tc_u (Tc_f hD (Tc_f (by rw [moIn_y (by decide)]; decide) (Tc_f (by decide) (Tc_t (by omega) ?_))))
          unfold mo_set_j41
          rw [toNat_c, e280]
          exact Tc_t (moIn_n (by omega)) (fin _ rfl)
      · refine Tc_f y1 (Tc_some ?_)
        unfold mo_set
        exact Tc_u (Tc_f hD (Tc_t (moIn_n (by omega)) (fin _ rfl)))
  · have mo : Tc (mo_set x y v M) (fun q => q.1 = -1 ∧ Rel B q.2) := by
      unfold mo_set
      exact Tc_u (Tc_t (moDonkey_n h.S k1 hd) (fin _ rfl))
    by_cases y0 : y = 0
    · refine Tc_t y0 ?_
      unfold dh_setHunger
      rw [isDonkey_n hn hd, show (if (0 : Int) = 0 then _ else _) = _ from if_pos rfl]
      exact Tc_u (Tc_some mo)
    · refine Tc_f y0 ?_
      by_cases y1 : y = 1
      · have ey : dh_isPlace x v M = some 0 := by rw [place_eq h.S, if_neg (fun q => hd ⟨q.1, q.2.1⟩)]
        exact Tc_t y1 (Tc_e ey (Tc_t rfl (Tc_some mo)))
      · exact Tc_f y1 (Tc_some mo)
