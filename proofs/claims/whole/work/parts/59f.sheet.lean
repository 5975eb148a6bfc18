-- ===== sheet =====
noncomputable def shY (x3 x4 : Int) : Nat → Int
  | 0 => x3
  | i + 1 => wr (shY x3 x4 i + x4)
noncomputable def shV (x1 x2 x3 x4 : Int) (i : Nat) : Int := if x1 = 3 then 0 else if (i : Int) < x2 then dh_entryOf x1 (shY x3 x4 i) else 0
theorem entry_in (a b : Int) : 0 ≤ dh_entryOf a b ∧ dh_entryOf a b ≤ 9 := by
  have q : ∀ c, 0 ≤ dh_entryOf_j20 c ∧ dh_entryOf_j20 c ≤ 9 := fun c => by unfold dh_entryOf_j20; omega
  unfold dh_entryOf
  by_cases h : a = 0
  · rw [if_pos h]; exact q _
  · by_cases h2 : a = 1
    · rw [if_neg h, if_pos h2]; exact q _
    · rw [if_neg h, if_neg h2]; exact q _
theorem shV_in (x1 x2 x3 x4 : Int) (i : Nat) : 0 ≤ shV x1 x2 x3 x4 i ∧ shV x1 x2 x3 x4 i ≤ 9 := by
  unfold shV
  by_cases h : x1 = 3
  · rw [if_pos h]; omega
  · by_cases h2 : (i : Int) < x2
    · rw [if_neg h, if_pos h2]; exact entry_in _ _
    · rw [if_neg h, if_neg h2]; omega
theorem put_eq {b i : Nat} {v : Int} {M : MEM} (hi : i < 12) : be_put b (i : Int) v M = some (up2 M (b + 1) i v) := by
  unfold be_put
  rw [if_neg (by omega), if_neg (by omega), if_pos (by omega), toNat_c]
  rfl
theorem sheetC_eq {M : MEM} {n : Nat} {x1 x2 x3 x4 x5 : Int} (hn : M 10 2 = (n : Int)) (hn12 : n ≤ 12) (h5 : (x5 = 1 ∧ x1 = 3) ∨ (x5 = 0 ∧ x1 ≠ 3)) :
    ∃ M' z, iter (fun s => dh_sheet_b66 x1 x2 x4 x5 s.1 s.2.1 s.2.2) FU (x3, 0, M) = some (z, M') ∧ (∀ c, c ≠ 11 → M'.2 c = M c) ∧ ∀ k, M'.2 11 k = if k < n then shV x1 x2 x3 x4 k else M 11 k := by
  have hl : Tc (iter (fun s => dh_sheet_b66 x1 x2 x4 x5 s.1 s.2.1 s.2.2) FU (x3, 0, M)) (fun r => (∀ c, c ≠ 11 → r.2.2 c = M c) ∧ ∀ k, r.2.2 11 k = if k < n then shV x1 x2 x3 x4 k else M 11 k) := by
    refine Tc_n (fun i s => s.1 = shY x3 x4 i ∧ s.2.1 = (i : Int) ∧ (∀ c, c ≠ 11 → s.2.2 c = M c) ∧ ∀ k, s.2.2 11 k = if k < i then shV x1 x2 x3 x4 k else M 11 k) n ⟨rfl, rfl, fun _ _ => rfl, fun k => by rw [if_neg (by omega)]⟩ (by omega) (fun i s hi hI => ?_) (fun s hI => ?_)
    · obtain ⟨y, z, M1⟩ := s
      obtain ⟨rfl, rfl, q1, q2⟩ := hI
      dsimp only at q1 q2 ⊢
      have e10 : M1 10 2 = (n : Int) := by rw [q1 10 (by decide)]; exact hn
      have w : wr ((i : Int) + 1) = ((i + 1 : Nat) : Int) := (wr_i (by omega) (by omega)).trans (by omega)
      have fin : ∀ v, v = shV x1 x2 x3 x4 i → Tc (dh_sheet_j101_66 x1 x2 x4 x5 (shY x3 x4 i) i i v M1) (fun r => ∃ s', r = .inl s' ∧ s'.1 = shY x3 x4 (i + 1) ∧ s'.2.1 = ((i + 1 : Nat) : Int) ∧ (∀ c, c ≠ 11 → s'.2.2 c = M c) ∧ ∀ k, s'.2.2 11 k = if k < i + 1 then shV x1 x2 x3 x4 k else M 11 k) := fun v hv => by
        unfold dh_sheet_j101_66
        rw [w]
        refine Tc_e (put_eq (by omega)) (Tc_inl ⟨rfl, rfl, fun c hc => ?_, fun k => ?_⟩)
        · dsimp only; rw [up2_ne hc]; exact q1 c hc
        · dsimp only
          by_cases e : k = i
          · subst e; rw [rd_same, if_pos (by omega)]; exact hv
          · rw [rd_k e, q2 k]
            by_cases e2 : k < i
            · rw [if_pos e2, if_pos (by omega)]
            · rw [if_neg e2, if_neg (by omega)]
      unfold dh_sheet_b66 dh_sheet_j100_66
      refine Tc_f (by omega) ?_
      rcases h5 with ⟨rfl, h3⟩ | ⟨rfl, h3⟩
      · exact Tc_f (by decide) (fin _ (by unfold shV; rw [if_pos h3]))
      · refine Tc_t rfl (Tc_i (fun q => fin _ ?_) (fun q => fin _ ?_))
        · unfold shV; rw [if_neg h3, if_neg (by omega)]
        · unfold shV; rw [if_neg h3, if_pos (by omega)]
    · obtain ⟨y, z, M1⟩ := s
      obtain ⟨rfl, rfl, q1, q2⟩ := hI
      dsimp only at q1 q2
      unfold dh_sheet_b66
      exact Tc_t (by show M1 10 2 ≤ (n : Int); rw [q1 10 (by decide), hn]; exact Int.le_refl _) (Tc_inr ⟨q1, q2⟩)
  obtain ⟨r, e, q1, q2⟩ := hl
  exact ⟨r.2, r.1, e, q1, q2⟩
theorem sheetM_eq {M : MEM} {n : Nat} {x1 x2 x3 x4 : Int} (hn : M 280 0 = (n : Int)) (hn12 : n ≤ 12) (h1 : 0 ≤ x1 ∧ x1 ≤ 3) :
    ∃ r, iter (fun s => mo_sheet_b50 x1 x2 x4 s.1 s.2.1 s.2.2.1 s.2.2.2) FU (0, x3, 0, M) = some r ∧ r.1 = sumN (shV x1 x2 x3 x4) n ∧ (∀ c, c ≠ 279 → r.2.2.2 c = M c) ∧ (∀ k, k < n → r.2.2.2 279 (3 + k) = shV x1 x2 x3 x4 k) ∧ ∀ k, (k < 3 ∨ 3 + n ≤ k) → r.2.2.2 279 k = M 279 k := by
  refine (?_ : Tc (iter (fun s => mo_sheet_b50 x1 x2 x4 s.1 s.2.1 s.2.2.1 s.2.2.2) FU (0, x3, 0, M)) (fun r => r.1 = sumN (shV x1 x2 x3 x4) n ∧ (∀ c, c ≠ 279 → r.2.2.2 c = M c) ∧ (∀ k, k < n → r.2.2.2 279 (3 + k) = shV x1 x2 x3 x4 k) ∧ ∀ k, (k < 3 ∨ 3 + n ≤ k) → r.2.2.2 279 k = M 279 k))
  refine Tc_n (fun i s => s.1 = sumN (shV x1 x2 x3 x4) i ∧ s.2.1 = shY x3 x4 i ∧ s.2.2.1 = (i : Int) ∧ (∀ c, c ≠ 279 → s.2.2.2 c = M c) ∧ (∀ k, k < i → s.2.2.2 279 (3 + k) = shV x1 x2 x3 x4 k) ∧ ∀ k, (k < 3 ∨ 3 + i ≤ k) → s.2.2.2 279 k = M 279 k) n ⟨rfl, rfl, rfl, fun _ _ => rfl, fun k hk => by omega, fun _ _ => rfl⟩ (by omega) (fun i s hi hI => ?_) (fun s hI => ?_)
  · obtain ⟨a, y, z, M1⟩ := s
    obtain ⟨rfl, rfl, rfl, q1, q2, q3⟩ := hI
    dsimp only at q1 q2 q3 ⊢
    have e280 : M1 280 0 = (n : Int) := by rw [q1 280 (by decide)]; exact hn
    have w : wr ((i : Int) + 1) = ((i + 1 : Nat) : Int) := (wr_i (by omega) (by omega)).trans (by omega)
    have w3 : wr (3 + (i : Int)) = ((3 + i : Nat) : Int) := (wr_i (by omega) (by omega)).trans (by omega)
    have b0 := sumN_bd (F := shV x1 x2 x3 x4) (a := 0) (b := 9) (n := i) (fun j _ => shV_in _ _ _ _ j)
    have bi := shV_in x1 x2 x3 x4 i
    have fin : ∀ v, v = shV x1 x2 x3 x4 i → Tc (mo_sheet_j120_50 x1 x2 x4 (sumN (shV x1 x2 x3 x4) i) (shY x3 x4 i) i ((3 + i : Nat) : Int) v M1) (fun r => ∃ s', r = .inl s' ∧ s'.1 = sumN (shV x1 x2 x3 x4) (i + 1) ∧ s'.2.1 = shY x3 x4 (i + 1) ∧ s'.2.2.1 = ((i + 1 : Nat) : Int) ∧ (∀ c, c ≠ 279 → s'.2.2.2 c = M c) ∧ (∀ k, k < i + 1 → s'.2.2.2 279 (3 + k) = shV x1 x2 x3 x4 k) ∧ ∀ k, (k < 3 ∨ 3 + (i + 1) ≤ k) → s'.2.2.2 279 k = M 279 k) := fun v hv => by
      unfold mo_sheet_j120_50
      rw [w3, toNat_c, w]
      refine Tc_t (by omega) (Tc_u (Tc_t (by omega) (Tc_inl ⟨?_, rfl, rfl, fun c hc => ?_, fun k hk => ?_, fun k hk => ?_⟩)))
      · dsimp only
        rw [rd_same, hv, sumN_S]
        exact wr_i (by omega) (by omega)
      · dsimp only; rw [up2_ne hc]; exact q1 c hc
      · dsimp only
        by_cases e : k = i
        · subst e; rw [rd_same]; exact hv
        · rw [rd_k (by omega)]; exact q2 k (by omega)
      · dsimp only; rw [rd_k (by omega)]; exact q3 k (by omega)
    have j84 : ∀ s0, (x1 ≠ 3 → max 0 (min 9 s0) = dh_entryOf x1 (shY x3 x4 i)) → Tc (mo_sheet_j84_50 x1 x2 x4 (sumN (shV x1 x2 x3 x4) i) (shY x3 x4 i) i s0 M1) (fun r => ∃ s', r = .inl s' ∧ s'.1 = sumN (shV x1 x2 x3 x4) (i + 1) ∧ s'.2.1 = shY x3 x4 (i + 1) ∧ s'.2.2.1 = ((i + 1 : Nat) : Int) ∧ (∀ c, c ≠ 279 → s'.2.2.2 c = M c) ∧ (∀ k, k < i + 1 → s'.2.2.2 279 (3 + k) = shV x1 x2 x3 x4 k) ∧ ∀ k, (k < 3 ∨ 3 + (i + 1) ≤ k) → s'.2.2.2 279 k = M 279 k) := fun s0 hs => by
      unfold mo_sheet_j84_50 mo_sheet_j105_50
      rw [w3]
      refine Tc_i (fun h3 => fin _ (by unfold shV; rw [if_pos h3])) (fun h3 => Tc_i (fun h2 => fin _ ?_) (fun h2 => fin _ ?_))
      · unfold shV; rw [if_neg h3, if_pos h2]; exact hs h3
      · unfold shV; rw [if_neg h3, if_neg h2]
    unfold mo_sheet_b50
    refine Tc_f (by omega) ?_
    by_cases y0 : x1 = 0
    · exact Tc_t y0 (j84 _ (fun _ => by unfold dh_entryOf dh_entryOf_j20; rw [if_pos y0]))
    · refine Tc_f y0 ?_
      by_cases y1 : x1 = 1
      · exact Tc_t y1 (j84 _ (fun _ => by unfold dh_entryOf dh_entryOf_j20; rw [if_neg y0, if_pos y1]))
      · exact Tc_f y1 (j84 _ (fun _ => by unfold dh_entryOf dh_entryOf_j20; rw [if_neg y0, if_neg y1]))
  · obtain ⟨a, y, z, M1⟩ := s
    obtain ⟨rfl, rfl, rfl, q1, q2, q3⟩ := hI
    dsimp only at q1 q2 q3
    unfold mo_sheet_b50
    exact Tc_t (by show M1 280 0 ≤ (n : Int); rw [q1 280 (by decide), hn]; exact Int.le_refl _) (Tc_inr ⟨rfl, q1, q2, q3⟩)
