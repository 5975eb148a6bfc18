-- ===== sheet =====
noncomputable def shY (x3 x4 : Int) : Nat → Int
  | 0 => x3
  | i + 1 => wr (shY x3 x4 i + x4)
noncomputable def shV (x1 x2 x3 x4 : Int) (i : Nat) : Int := if x1 = 3 then 0 else if (i : Int) < x2 then dh_entryOf x1 (shY x3 x4 i) else 0
theorem entry_in (a b : Int) : 0 ≤ dh_entryOf a b ∧ dh_entryOf a b ≤ 9 := by
  have q : ∀ c, 0 ≤ dh_entryOf_j20 c ∧ dh_entryOf_j20 c ≤ 9 := fun c => by unfold dh_entryOf_j20; omega
  unfold dh_entryOf
  by_cases h : a = 0
  · rw [if_pos h]; exact q _
  · by_cases h2 : a = 1
    · rw [if_neg h, if_pos h2]; exact q _
    · rw [if_neg h, if_neg h2]; exact q _
theorem shV_in (x1 x2 x3 x4 : Int) (i : Nat) : 0 ≤ shV x1 x2 x3 x4 i ∧ shV x1 x2 x3 x4 i ≤ 9 := by
  unfold shV
  by_cases h : x1 = 3
  · rw [if_pos h]; omega
  · by_cases h2 : (i : Int) < x2
    · rw [if_neg h, if_pos h2]; exact entry_in _ _
    · rw [if_neg h, if_neg h2]; omega
theorem put_eq {b i : Nat} {v : Int} {M : MEM} (hi : i < 12) : be_put b (i : Int) v M = some (up2 M (b + 1) i v) := by
  unfold be_put
  rw [if_neg (by omega), if_neg (by omega), if_pos (by omega), toNat_c]
  rfl
theorem sheetC_eq {M : MEM} {n : Nat} {x1 x2 x3 x4 x5 : Int} (hn : M 10 2 = (n : Int)) (hn12 : n ≤ 12) (h5 : (x5 = 1 ∧ x1 = 3) ∨ (x5 = 0 ∧ x1 ≠ 3)) :
    ∃ M' z, iter (fun s => dh_sheet_b66 x1 x2 x4 x5 s.1 s.2.1 s.2.2) FU (x3, 0, M) = some (z, M') ∧ (∀ c, c ≠ 11 → M'.2 c = M c) ∧ ∀ k, M'.2 11 k = if k < n then shV x1 x2 x3 x4 k else M 11 k := by
  have hl : Tc (iter (fun s => dh_sheet_b66 x1 x2 x4 x5 s.1 s.2.1 s.2.2) FU (x3, 0, M)) (fun r => (∀ c, c ≠ 11 → r.2.2 c = M c) ∧ ∀ k, r.2.2 11 k = if k < n then shV x1 x2 x3 x4 k else M 11 k) := by
    refine Tc_n (fun i s => s.1 = shY x3 x4 i ∧ s.2.1 = (i : Int) ∧ (∀ c, c ≠ 11 → s.2.2 c = M c) ∧ ∀ k, s.2.2 11 k = if k < i then shV x1 x2 x3 x4 k else M 11 k) n ⟨rfl, rfl, fun _ _ => rfl, fun k => by rw [if_neg (by omega)]⟩ (by omega) (fun i s hi hI => ?_) (fun s hI => ?_)
    · obtain ⟨y, z, M1⟩ := s
      obtain ⟨rfl, rfl, q1, q2⟩ := hI
      dsimp only at q1 q2 ⊢
      have e10 : M1 10 2 = (n : Int) := by rw [q1 10 (by decide)]; exact hn
      have w : wr ((i : Int) + 1) = ((i + 1 : Nat) : Int) := (wr_i (by omega) (by omega)).trans (by omega)
      have fin : ∀ v, v = shV x1 x2 x3 x4 i → Tc (dh_sheet_j101_66 x1 x2 x4 x5 (shY x3 x4 i) i i v M1) (fun r => ∃ s', r = .inl s' ∧ s'.1 = shY x3 x4 (i + 1) ∧ s'.2.1 = ((i + 1 : Nat) : Int) ∧ (∀ c, c ≠ 11 → s'.2.2 c = M c) ∧ ∀ k, s'.2.2 11 k = if k < i + 1 then shV x1 x2 x3 x4 k else M 11 k) := fun v hv => by
        unfold dh_sheet_j101_66
        rw [w]
        refine Tc_e (put_eq (by omega)) (Tc_inl ⟨rfl, rfl, fun c hc => ?_, fun k => ?_⟩)
        · dsimp only; rw [up2_ne hc]; exact q1 c hc
        · dsimp only
          by_cases e : k = i
          · subst e; rw [rd_same, if_pos (by omega)]; exact hv
          · rw [rd_k e, q2 k]
            by_cases e2 : k < i
            · rw [if_pos e2, if_pos (by omega)]
            · rw [if_neg e2, if_neg (by omega)]
      unfold dh_sheet_b66 dh_sheet_j100_66
      refine Tc_f (by omega) ?_
      rcases h5 with ⟨rfl, h3⟩ | ⟨rfl, h3⟩
      · exact Tc_f (by decide) (fin _ (by unfold shV; rw [if_pos h3]))
      · refine Tc_t rfl (Tc_i (fun q => fin _ ?_) (fun q => fin _ ?_))
        · unfold shV; rw [if_neg h3, if_neg (by omega)]
        · unfold shV; rw [if_neg h3, if_pos (by omega)]
    · obtain ⟨y, z, M1⟩ := s
      obtain ⟨rfl, rfl, q1, q2⟩ := hI
      dsimp only at q1 q2
      unfold dh_sheet_b66
      exact Tc_t (by show M1 10 2 ≤ (n : Int); rw [q1 10 (by decide), hn]; exact Int.le_refl _) (Tc_inr ⟨q1, q2⟩)
  obtain ⟨r, e, q1, q2⟩ := hl
  exact ⟨r.2, r.1, e, q1, q2⟩
theorem sheetM_eq {M : MEM} {n : Nat} {x1 x2 x3 x4 : Int} (hn : M 280 0 = (n : Int)) (hn12 : n ≤ 12) (h1 : 0 ≤ x1 ∧ x1 ≤ 3) :
    ∃ r, iter (fun s => mo_sheet_b50 x1 x2 x4 s.1 s.2.1 s.2.2.1 s.2.2.2) FU (0, x3, 0, M) = some r ∧ r.1 = sumN (shV x1 x2 x3 x4) n ∧ (∀ c, c ≠ 279 → r.2.2.2 c = M c) ∧ (∀ k, k < n → r.2.2.2 279 (3 + k) = shV x1 x2 x3 x4 k) ∧ ∀ k, (k < 3 ∨ 3 + n ≤ k) → r.2.2.2 279 k = M 279 k := by
  refine (?_ : Tc (iter (fun s => mo_sheet_b50 x1 x2 x4 s.1 s.2.1 s.2.2.1 s.2.2.2) FU (0, x3, 0, M)) (fun r => r.1 = sumN (shV x1 x2 x3 x4) n ∧ (∀ c, c ≠ 279 → r.2.2.2 c = M c) ∧ (∀ k, k < n → r.2.2.2 279 (3 + k) = shV x1 x2 x3 x4 k) ∧ ∀ k, (k < 3 ∨ 3 + n ≤ k) → r.2.2.2 279 k = M 279 k))
  refine Tc_n (fun i s => s.1 = sumN (shV x1 x2 x3 x4) i ∧ s.2.1 = shY x3 x4 i ∧ s.2.2.1 = (i : Int) ∧ (∀ c, c ≠ 279 → s.2.2.2 c = M c) ∧ (∀ k, k < i → s.2.2.2 279 (3 + k) = shV x1 x2 x3 x4 k) ∧ ∀ k, (k < 3 ∨ 3 + i ≤ k) → s.2.2.2 279 k = M 279 k) n ⟨rfl, rfl, rfl, fun _ _ => rfl, fun k hk => by omega, fun _ _ => rfl⟩ (by omega) (fun i s hi hI => ?_) (fun s hI => ?_)
  · obtain ⟨a, y, z, M1⟩ := s
    obtain ⟨rfl, rfl, rfl, q1, q2, q3⟩ := hI
    dsimp only at q1 q2 q3 ⊢
    have e280 : M1 280 0 = (n : Int) := by rw [q1 280 (by decide)]; exact hn
    have w : wr ((i : Int) + 1) = ((i + 1 : Nat) : Int) := (wr_i (by omega) (by omega)).trans (by omega)
    have w3 : wr (3 + (i : Int)) = ((3 + i : Nat) : Int) := (wr_i (by omega) (by omega)).trans (by omega)
    have b0 := sumN_bd (F := shV x1 x2 x3 x4) (a := 0) (b := 9) (n := i) (fun j _ => shV_in _ _ _ _ j)
    have bi := shV_in x1 x2 x3 x4 i
    have fin : ∀ v, v = shV x1 x2 x3 x4 i → Tc (mo_sheet_j120_50 x1 x2 x4 (sumN (shV x1 x2 x3 x4) i) (shY x3 x4 i) i ((3 + i : Nat) : Int) v M1) (fun r => ∃ s', r = .inl s' ∧ s'.1 = sumN (shV x1 x2 x3 x4) (i + 1) ∧ s'.2.1 = shY x3 x4 (i + 1) ∧ s'.2.2.1 = ((i + 1 : Nat) : Int) ∧ (∀ c, c ≠ 279 → s'.2.2.2 c = M c) ∧ (∀ k, k < i + 1 → s'.2.2.2 279 (3 + k) = shV x1 x2 x3 x4 k) ∧ ∀ k, (k < 3 ∨ 3 + (i + 1) ≤ k) → s'.2.2.2 279 k = M 279 k) := fun v hv => by
      unfold mo_sheet_j120_50
      rw [w3, toNat_c, w]
      refine Tc_t (by omega) (Tc_u (Tc_t (by omega) (Tc_inl ⟨?_, rfl, rfl, fun c hc => ?_, fun k hk => ?_, fun k hk => ?_⟩)))
      · dsimp only
        rw [rd_same, hv, sumN_S]
        exact wr_i (by omega) (by omega)
      · dsimp only; rw [up2_ne hc]; exact q1 c hc
      · dsimp only
        by_cases e : k = i
        · subst e; rw [rd_same]; exact hv
        · rw [rd_k (by omega)]; exact q2 k (by omega)
      · dsimp only; rw [rd_k (by omega)]; exact q3 k (by omega)
    have j84 : ∀ s0, (x1 ≠ 3 → max 0 (min 9 s0) = dh_entryOf x1 (shY x3 x4 i)) → Tc (mo_sheet_j84_50 x1 x2 x4 (sumN (shV x1 x2 x3 x4) i) (shY x3 x4 i) i s0 M1) (fun r => ∃ s', r = .inl s' ∧ s'.1 = sumN (shV x1 x2 x3 x4) (i + 1) ∧ s'.2.1 = shY x3 x4 (i + 1) ∧ s'.2.2.1 = ((i + 1 : Nat) : Int) ∧ (∀ c, c ≠ 279 → s'.2.2.2 c = M c) ∧ (∀ k, k < i + 1 → s'.2.2.2 279 (3 + k) = shV x1 x2 x3 x4 k) ∧ ∀ k, (k < 3 ∨ 3 + (i + 1) ≤ k) → s'.2.2.2 279 k = M 279 k) := fun s0 hs => by
      unfold mo_sheet_j84_50 mo_sheet_j105_50
      rw [w3]
      refine Tc_i (fun h3 => fin _ (by unfold shV; rw [if_pos h3])) (fun h3 => Tc_i (fun h2 => fin _ ?_) (fun h2 => fin _ ?_))
      · unfold shV; rw [if_neg h3, if_pos h2]; exact hs h3
      · unfold shV; rw [if_neg h3, if_neg h2]
    unfold mo_sheet_b50
    refine Tc_f (by omega) ?_
    by_cases y0 : x1 = 0
    · exact Tc_t y0 (j84 _ (fun _ => by unfold dh_entryOf dh_entryOf_j20; rw [if_pos y0]))
    · refine Tc_f y0 ?_
      by_cases y1 : x1 = 1
      · exact Tc_t y1 (j84 _ (fun _ => by unfold dh_entryOf dh_entryOf_j20; rw [if_neg y0, if_pos y1]))
      · exact Tc_f y1 (j84 _ (fun _ => by unfold dh_entryOf dh_entryOf_j20; rw [if_neg y0, if_neg y1]))
  · obtain ⟨a, y, z, M1⟩ := s
    obtain ⟨rfl, rfl, rfl, q1, q2, q3⟩ := hI
    dsimp only at q1 q2 q3
    unfold mo_sheet_b50
    exact Tc_t (by show M1 280 0 ≤ (n : Int); rw [q1 280 (by decide), hn]; exact Int.le_refl _) (Tc_inr ⟨rfl, q1, q2, q3⟩)
theorem c_sheet {B : Int} {M : MEM} (h : Rel B M) (hB : B ≤ 100000000) (x1 x2 x3 x4 : Int) : Lk B (dh_sheet x1 x2 x3 x4 M) (mo_sheet x1 x2 x3 x4) := by
  have c3 : chg [0] M (up2 M 278 13 0) := chg.rf.up (by decide)
  have hS := h.S
  obtain ⟨s1, s2, s3, s3a, s3b, s4⟩ := h.S
  have fin : ∀ a b : Int, b = a → Tc (some (b, up2 M 278 13 0)) (fun q => q.1 = a ∧ Rel B q.2) := fun a b e => Tc_some ⟨e, h.go0 c3⟩
  have k1 : up2 M 278 13 0 278 1 = M 3 2 := by rw [rd_k (by decide)]; exact s1
  unfold Lk dh_sheet
  by_cases hc : (0 ≤ x1 ∧ x1 ≤ 3) ∧ x2 ≤ 12 ∧ 1 ≤ M 3 2
  · obtain ⟨h1, h2, h3⟩ := hc
    obtain ⟨w1, w2, w3, w4⟩ := dnk h hB (d := 0) (by omega)
    have w3' := w3
    obtain ⟨z1, z2, z3, z4, z5, z6, z7, z8, z9⟩ := w1
    obtain ⟨f1, f2, f3, f4⟩ := w3
    simp only [dsC, dsM, Nat.mul_zero, Nat.add_zero, Nat.zero_add] at f1 f2 f3 f4 z3 z4 z5 z6 z7 z8 z9 w4
    obtain ⟨n, hn⟩ : ∃ n : Nat, M 280 0 = (n : Int) := ⟨(M 280 0).toNat, by omega⟩
    refine Tc_f (by omega) (Tc_f (by omega) (Tc_f (by omega) (Tc_f (by rw [isDonkey_y s3 (by decide) (by omega)]; decide) ?_)))
    -- behind the checks
    have main : ∀ x5 : Int, (x5 = 1 ∧ x1 = 3) ∨ (x5 = 0 ∧ x1 ≠ 3 ∧ 0 ≤ x2) → Tc (dh_sheet_j49 x1 x2 x3 x4 x5 M) (fun p => Tc (mo_sheet x1 x2 x3 x4 p.2) (fun q => q.1 = p.1 ∧ Rel B q.2)) := fun x5 h5 => by
      obtain ⟨r, y, e, q1, q2⟩ := sheetC_eq (M := M) (n := n) (x1 := x1) (x2 := x2) (x3 := x3) (x4 := x4) (x5 := x5) (by rw [w4, hn]) (by omega) (by omega)
      obtain ⟨z0, M1⟩ := r
      dsimp only at q1 q2
      have hi : ∀ c, 277 < c → M1 c = M c := fun c hcc => q1 c (by omega)
      obtain ⟨rm, em, r1, r2, r3, r4⟩ := sheetM_eq (M := up2 M1 278 13 0) (n := n) (x1 := x1) (x2 := x2) (x3 := x3) (x4 := x4) (by rw [rd_a (by decide), hi 280 (by decide)]; exact hn) (by omega) h1
      have rel : Rel B rm.2.2.2 := by
        generalize rm.2.2.2 = M' at *
        have cc : chg [0, 4] M M' := fun a k nn => by
          by_cases e279 : a = 279
          · subst e279; exact absurd (by rw [rg_279]; decide) nn
          · by_cases e11 : a = 11
            · subst e11; exact absurd (by rw [rg_D (by decide) (by decide) (Or.inr (by decide))]; decide) nn
            · rw [r2 a e279]
              by_cases e278 : a = 278
              · subst e278
                by_cases z : k = 13
                · subst z; exact absurd (by decide) nn
                · rw [rd_k z, q1 278 (by decide)]
              · rw [up2_ne e278, q1 a e11]
        have g1 : ∀ c, c ≠ 11 → c ≠ 278 → c ≠ 279 → M' c = M c := fun c a b d => by rw [r2 c d, up2_ne b, q1 c a]
        have g11 : ∀ k, k < n → M' 11 k = shV x1 x2 x3 x4 k := fun k hk => by rw [r2 11 (by decide), rd_a (by decide), q2, if_pos hk]
        have g279 : ∀ k, (k < 3 ∨ 3 + n ≤ k) → M' 279 k = M 279 k := fun k hk => by rw [r4 k hk, rd_a (by decide), hi 279 (by decide)]
        have g10 : M' 10 = M 10 := g1 10 (by decide) (by decide) (by decide)
        refine h.go (Int.le_refl _) cc (by decide) (fun q => absurd q (by decide)) (fun q => absurd q (by decide)) (fun q => absurd q (by decide)) (fun _ => ?_) (fun q => absurd q (by decide)) (fun q => absurd q (by decide)) (fun q => absurd q (by decide)) (fun q => absurd q (by decide)) (fun q => absurd q (by decide)) (fun q => absurd q (by decide)) (fun q => absurd q (by decide))
        refine D_one (d := 0) h.D (by omega) s3 (fun c a b e => g1 c (by omega) (by omega) (by omega)) (g1 12 (by decide) (by decide) (by decide)) (by show M' 10 5 = M 10 5; rw [g10]) (by show M' 10 2 = M 10 2; rw [g10]) (fun k hk => g279 k (by omega)) (g1 3 (by decide) (by decide) (by decide)) (g1 280 (by decide) (by decide) (by decide)) ⟨?_, ?_, ?_, fun q hq => ?_⟩ ⟨z1, z2, ?_, ?_, ?_, ?_, ?_, ?_, fun q hq => ?_⟩ (fun q a b => ?_)
        · show M' 10 3 = M' 279 1; rw [g10, g279 1 (by omega)]; exact f1
        · show M' 10 4 = M' 279 0; rw [g10, g279 0 (by omega)]; exact f2
        · show M' 10 5 = M' 279 2; rw [g10, g279 2 (by omega)]; exact f3
        · show M' 11 q = M' 279 (3 + q)
          rw [g11 q (by omega), r3 q (by omega)]
        · show 0 ≤ M' 10 3; rw [g10]; exact z3
        · show M' 10 3 < _; rw [g10]; exact z4
        · show 0 ≤ M' 10 4; rw [g10]; exact z5
        · show M' 10 4 ≤ 9; rw [g10]; exact z6
        · show 0 ≤ M' 10 5; rw [g10]; exact z7
        · show M' 10 5 < _; rw [g10]; exact z8
        · show 0 ≤ M' 11 q ∧ M' 11 q ≤ 9
          rw [g11 q (by omega)]; exact shV_in _ _ _ _ _
        · show M' 279 (3 + q) = M 279 (3 + q)
          exact g279 _ (by omega)
      have k1' : up2 M1 278 13 0 278 1 = M 3 2 := by rw [rd_k (by decide), hi 278 (by decide)]; exact s1
      unfold dh_sheet_j49
      refine Tc_e e ?_
      dsimp only
      rcases h5 with ⟨rfl, h3'⟩ | ⟨rfl, h3', h0'⟩
      · refine Tc_f (by decide) (Tc_some ?_)
        dsimp only
        unfold mo_sheet mo_sheet_j41
        exact Tc_u (Tc_f (by rw [moIn_y h1]; decide) (Tc_f (by omega) (Tc_f (by rw [k1']; omega) (Tc_t (by omega) (Tc_e em (Tc_t h3' (Tc_some ⟨rfl, rel⟩)))))))
      · have eL : be_allThistles 10 M1 = some (sumN (shV x1 x2 x3 x4) n) := by
          have := allTh_eq (b := 10) (M := M1) (n := (n : Int)) (by rw [q1 10 (by decide), w4, hn]) (by omega) (by omega) (fun p hp => by show 0 ≤ M1 11 p ∧ M1 11 p ≤ 9; rw [q2, if_pos (by omega)]; exact shV_in _ _ _ _ _)
          rw [this]
          congr 1
          exact sumN_congr (fun p hp => by show M1 11 p = _; rw [q2, if_pos (by omega)])
        refine Tc_t rfl (Tc_e eL (Tc_some ?_))
        dsimp only
        unfold mo_sheet mo_sheet_j41
        exact Tc_u (Tc_f (by rw [moIn_y h1]; decide) (Tc_f (by omega) (Tc_f (by rw [k1']; omega) (Tc_f (by omega) (Tc_t h0' (Tc_e em (Tc_f h3' (Tc_some ⟨r1, rel⟩))))))))
    unfold dh_sheet_j35
    refine Tc_i (fun q => Tc_f (by decide) (main 1 (Or.inl ⟨rfl, q⟩))) (fun q => Tc_t rfl (Tc_i (fun q2 => main 0 (Or.inr ⟨rfl, q, q2⟩)) (fun q2 => Tc_some ?_)))
    dsimp only
    unfold mo_sheet
    exact Tc_u (Tc_f (by rw [moIn_y h1]; decide) (Tc_f (by omega) (Tc_f (by rw [k1]; omega) (Tc_f (by omega) (Tc_f q2 (fin _ _ rfl))))))
  · have mo : Tc (mo_sheet x1 x2 x3 x4 M) (fun q => q.1 = -1 ∧ Rel B q.2) := by
      unfold mo_sheet
      refine Tc_u ?_
      by_cases h1 : 0 ≤ x1 ∧ x1 ≤ 3
      · refine Tc_f (by rw [moIn_y h1]; decide) (Tc_i (fun _ => fin _ _ rfl) (fun q => Tc_t ?_ (fin _ _ rfl)))
        rw [k1]
        exact Classical.byContradiction fun y => hc ⟨h1, by omega, by omega⟩
      · exact Tc_t (moIn_n h1) (fin _ _ rfl)
    refine Tc_i (fun _ => Tc_some mo) (fun q1 => Tc_i (fun _ => Tc_some mo) (fun q2 => Tc_i (fun _ => Tc_some mo) (fun q3 => Tc_t ?_ (Tc_some mo))))
    exact isDonkey_n s3 (fun y => hc ⟨by omega, by omega, by omega⟩)
