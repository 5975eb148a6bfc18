-- ===== sign =====
theorem sgn_bits (v : BitVec 32) : ∀ s : Nat, (s = 24 ∨ s = 16 ∨ s = 8 ∨ s = 0) → ((v >>> s) &&& 255#32).setWidth 8 = (v.sshiftRight s).setWidth 8 := by
  intro s hs
  apply BitVec.eq_of_getLsbD_eq
  intro i hi
  have h255 : (255#32).getLsbD i = true := by
    have : i = 0 ∨ i = 1 ∨ i = 2 ∨ i = 3 ∨ i = 4 ∨ i = 5 ∨ i = 6 ∨ i = 7 := by omega
    rcases this with rfl | rfl | rfl | rfl | rfl | rfl | rfl | rfl <;> decide
  rw [BitVec.getLsbD_setWidth, BitVec.getLsbD_setWidth, BitVec.getLsbD_and, h255, BitVec.getLsbD_ushiftRight, BitVec.getLsbD_sshiftRight]
  rw [decide_eq_true hi, if_pos (by omega), decide_eq_false (by omega : ¬ 32 ≤ i)]
  simp
theorem low8 (v : BitVec 32) : v.toInt % 256 = ((v.setWidth 8).toNat : Int) := by
  rw [BitVec.toNat_setWidth, BitVec.toInt_eq_toNat_cond]
  split <;> omega
theorem and255 (v : BitVec 32) : 0 ≤ (v &&& 255#32).toInt ∧ (v &&& 255#32).toInt ≤ 255 := by
  have h : (v &&& 255#32).toNat ≤ 255 := by rw [BitVec.toNat_and]; exact Nat.and_le_right
  rw [BitVec.toInt_eq_toNat_cond, if_pos (by omega)]
  omega
theorem sx8_mod {a b : Int} (h : a % 256 = b % 256) : sx8 a = sx8 (sx8 b) := by unfold sx8; omega
theorem sign_bv (X : Int32) : ((i_and (i_ushr X (Int32.ofInt 24)) (Int32.ofInt 255)).toBitVec = (X.toBitVec >>> 24) &&& 255#32) ∧ ((i_shr X (Int32.ofInt 24)).toBitVec = X.toBitVec.sshiftRight 24) := ⟨rfl, rfl⟩
/-- one sign of the four, as the class holds it -/
noncomputable def byC (x : Int) (i : Nat) : Int := ish i_and (ish i_ushr x (24 - 8 * (i : Int))) 255
theorem sign_bv' (X : Int32) (s : Int) (n : Nat) (h : (s = 24 ∧ n = 24) ∨ (s = 16 ∧ n = 16) ∨ (s = 8 ∧ n = 8) ∨ (s = 0 ∧ n = 0)) : ((i_and (i_ushr X (Int32.ofInt s)) (Int32.ofInt 255)).toBitVec = (X.toBitVec >>> n) &&& 255#32) ∧ ((i_shr X (Int32.ofInt s)).toBitVec = X.toBitVec.sshiftRight n) := by
  rcases h with ⟨rfl, rfl⟩ | ⟨rfl, rfl⟩ | ⟨rfl, rfl⟩ | ⟨rfl, rfl⟩
  · exact ⟨rfl, rfl⟩
  · exact ⟨rfl, rfl⟩
  · exact ⟨rfl, rfl⟩
  · exact ⟨rfl, rfl⟩
theorem byC_eq (x : Int) {i : Nat} (hi : i < 4) : 0 ≤ byC x i ∧ byC x i ≤ 255 ∧ sx8 (byC x i) = sx8 (sx8 (ish i_shr x (24 - 8 * (i : Int)))) := by
  have h4 : (24 - 8 * (i : Int) = 24 ∧ 24 - 8 * i = 24) ∨ (24 - 8 * (i : Int) = 16 ∧ 24 - 8 * i = 16) ∨ (24 - 8 * (i : Int) = 8 ∧ 24 - 8 * i = 8) ∨ (24 - 8 * (i : Int) = 0 ∧ 24 - 8 * i = 0) := by omega
  have hn : 24 - 8 * i = 24 ∨ 24 - 8 * i = 16 ∨ 24 - 8 * i = 8 ∨ 24 - 8 * i = 0 := by omega
  have hb := sign_bv' (Int32.ofInt x) _ _ h4
  unfold byC
  generalize 24 - 8 * (i : Int) = s at *
  generalize 24 - 8 * i = n at *
  rw [ish_def i_and, iI_ish, ish_def i_shr]
  have e1 : (i_and (i_ushr (Int32.ofInt x) (Int32.ofInt s)) (Int32.ofInt 255)).toInt = (((Int32.ofInt x).toBitVec >>> n) &&& 255#32).toInt := by rw [← hb.1]; rfl
  have e2 : (i_shr (Int32.ofInt x) (Int32.ofInt s)).toInt = ((Int32.ofInt x).toBitVec.sshiftRight n).toInt := by rw [← hb.2]; rfl
  rw [e1, e2]
  refine ⟨(and255 _).1, (and255 _).2, sx8_mod ?_⟩
  rw [low8, low8, sgn_bits _ n hn]
theorem addFour_eq {M : MEM} {x : Int} {L : Nat} (hL : M 1 1 = (L : Int)) (h : L + 4 ≤ 80) : ∃ M', tx_addFour x M = some (1, M') ∧ M' 1 1 = (L : Int) + 4 ∧ (∀ c, c ≠ 1 → c ≠ 2 → M' c = M c) ∧ (∀ k, k ≠ 1 → M' 1 k = M 1 k) ∧ (∀ i, i < 4 → M' 2 (L + i) = byC x i) ∧ ∀ k, k < L → M' 2 k = M 2 k := by
  have hl : Tc (iter (fun s => tx_addFour_b26 x s.1 s.2) FU (24, M)) (fun r => r.2 1 1 = (L : Int) + 4 ∧ (∀ c, c ≠ 1 → c ≠ 2 → r.2 c = M c) ∧ (∀ k, k ≠ 1 → r.2 1 k = M 1 k) ∧ (∀ i, i < 4 → r.2 2 (L + i) = byC x i) ∧ ∀ k, k < L → r.2 2 k = M 2 k) := by
    refine Tc_n (fun i s => s.1 = 24 - 8 * (i : Int) ∧ s.2 1 1 = (L : Int) + i ∧ (∀ c, c ≠ 1 → c ≠ 2 → s.2 c = M c) ∧ (∀ k, k ≠ 1 → s.2 1 k = M 1 k) ∧ (∀ j, j < i → s.2 2 (L + j) = byC x j) ∧ ∀ k, k < L → s.2 2 k = M 2 k) 4 ⟨rfl, by show M 1 1 = _; omega, fun _ _ _ => rfl, fun _ _ => rfl, fun j hj => by omega, fun _ _ => rfl⟩ (by omega) (fun i s hi hI => ?_) (fun s hI => ?_)
    · obtain ⟨z, M1⟩ := s
      obtain ⟨rfl, q1, q2, q3, q4, q5⟩ := hI
      dsimp only at q1 q2 q3 q4 q5 ⊢
      have e1 : M1 1 1 = ((L + i : Nat) : Int) := by rw [q1]; omega
      have w : wr (24 - 8 * (i : Int) + -8) = 24 - 8 * ((i + 1 : Nat) : Int) := (wr_i (by omega) (by omega)).trans (by omega)
      unfold tx_addFour_b26
      rw [e1, toNat_c, w]
      refine Tc_f (by omega) (Tc_t (by omega) (Tc_u (Tc_u (Tc_inl ⟨rfl, ?_, fun c c1 c2 => ?_, fun k hk => ?_, fun j hj => ?_, fun k hk => ?_⟩))))
      · dsimp only
        rw [rd_same, rd_a (by decide), e1]
        exact (wr_i (by omega) (by omega)).trans (by omega)
      · dsimp only; rw [up2_ne c1, up2_ne c2]; exact q2 c c1 c2
      · dsimp only; rw [rd_k hk, rd_a (by decide)]; exact q3 k hk
      · dsimp only
        rw [rd_a (by decide)]
        by_cases e : j = i
        · subst e; exact rd_same
        · rw [rd_k (by omega)]; exact q4 j (by omega)
      · dsimp only; rw [rd_a (by decide), rd_k (by omega)]; exact q5 k hk
    · obtain ⟨z, M1⟩ := s
      obtain ⟨rfl, q1, q2, q3, q4, q5⟩ := hI
      dsimp only at q1 q2 q3 q4 q5
      unfold tx_addFour_b26
      exact Tc_t (by show (24 : Int) - 8 * ((4 : Nat) : Int) < 0; decide) (Tc_inr ⟨by show M1 1 1 = _; rw [q1]; rfl, q2, q3, q4, q5⟩)
  obtain ⟨r, e, q1, q2, q3, q4, q5⟩ := hl
  refine ⟨r.2, ?_, q1, q2, q3, q4, q5⟩
  unfold tx_addFour
  rw [if_neg (by omega), hL, if_pos (by rw [wr_i (by omega) (by omega)]; omega), e]
  rfl
theorem moSign_eq {M : MEM} {x : Int} {L : Nat} (hL : M 278 10 = (L : Int)) (h : L + 4 ≤ 80) : ∃ M' z, iter (fun s => mo_sign_b20 x s.1 s.2) FU (3, M) = some (z, M') ∧ M' 278 10 = (L : Int) + 4 ∧ (∀ c, c ≠ 278 → c ≠ 283 → M' c = M c) ∧ (∀ k, k ≠ 10 → M' 278 k = M 278 k) ∧ (∀ i, i < 4 → M' 283 (L + i) = sx8 (byC x i)) ∧ ∀ k, k < L → M' 283 k = M 283 k := by
  have hl : Tc (iter (fun s => mo_sign_b20 x s.1 s.2) FU (3, M)) (fun r => r.2 278 10 = (L : Int) + 4 ∧ (∀ c, c ≠ 278 → c ≠ 283 → r.2 c = M c) ∧ (∀ k, k ≠ 10 → r.2 278 k = M 278 k) ∧ (∀ i, i < 4 → r.2 283 (L + i) = sx8 (byC x i)) ∧ ∀ k, k < L → r.2 283 k = M 283 k) := by
    refine Tc_n (fun i s => s.1 = 3 - (i : Int) ∧ s.2 278 10 = (L : Int) + i ∧ (∀ c, c ≠ 278 → c ≠ 283 → s.2 c = M c) ∧ (∀ k, k ≠ 10 → s.2 278 k = M 278 k) ∧ (∀ j, j < i → s.2 283 (L + j) = sx8 (byC x j)) ∧ ∀ k, k < L → s.2 283 k = M 283 k) 4 ⟨rfl, by show M 278 10 = _; omega, fun _ _ _ => rfl, fun _ _ => rfl, fun j hj => by omega, fun _ _ => rfl⟩ (by omega) (fun i s hi hI => ?_) (fun s hI => ?_)
    · obtain ⟨z, M1⟩ := s
      obtain ⟨rfl, q1, q2, q3, q4, q5⟩ := hI
      dsimp only at q1 q2 q3 q4 q5 ⊢
      have e1 : M1 278 10 = ((L + i : Nat) : Int) := by rw [q1]; omega
      have w : wr (3 - (i : Int) + -1) = 3 - ((i + 1 : Nat) : Int) := (wr_i (by omega) (by omega)).trans (by omega)
      have w8 : wr (8 * (3 - (i : Int))) = 24 - 8 * (i : Int) := (wr_i (by omega) (by omega)).trans (by omega)
      have wl : wr (((L + i : Nat) : Int) + 1) = (L : Int) + ((i + 1 : Nat) : Int) := (wr_i (by omega) (by omega)).trans (by omega)
      unfold mo_sign_b20
      rw [e1, toNat_c, w, w8, wl, ← (byC_eq x hi).2.2]
      refine Tc_f (by omega) (Tc_u (Tc_t (by omega) (Tc_u (Tc_inl ⟨rfl, ?_, fun c c1 c2 => ?_, fun k hk => ?_, fun j hj => ?_, fun k hk => ?_⟩))))
      · dsimp only; rw [rd_a (by decide), rd_same]
      · dsimp only; rw [up2_ne c2, up2_ne c1]; exact q2 c c1 c2
      · dsimp only; rw [rd_a (by decide), rd_k hk]; exact q3 k hk
      · dsimp only
        by_cases e : j = i
        · subst e; exact rd_same
        · rw [rd_k (by omega), rd_a (by decide)]; exact q4 j (by omega)
      · dsimp only; rw [rd_k (by omega), rd_a (by decide)]; exact q5 k hk
    · obtain ⟨z, M1⟩ := s
      obtain ⟨rfl, q1, q2, q3, q4, q5⟩ := hI
      dsimp only at q1 q2 q3 q4 q5
      unfold mo_sign_b20
      exact Tc_t (by show (3 : Int) - ((4 : Nat) : Int) < 0; decide) (Tc_inr ⟨by show M1 278 10 = _; rw [q1]; rfl, q2, q3, q4, q5⟩)
  obtain ⟨r, e, q1, q2, q3, q4, q5⟩ := hl
  exact ⟨r.2, r.1, e, q1, q2, q3, q4, q5⟩
theorem c_sign {B : Int} {M : MEM} (h : Rel B M) (x : Int) : Lk B (dh_sign x M) (mo_sign x) := by
  have c3 : chg [0] M (up2 M 278 13 0) := chg.rf.up (by decide)
  obtain ⟨t1, t2, t3, t4⟩ := h.T
  obtain ⟨L, hL⟩ : ∃ L : Nat, M 1 1 = (L : Int) := ⟨(M 1 1).toNat, by omega⟩
  unfold Lk dh_sign
  by_cases hl : L + 4 ≤ 80
  · obtain ⟨M1, e1, q1, q2, q3, q4, q5⟩ := addFour_eq (x := x) hL hl
    refine Tc_e e1 (Tc_f (by show ¬ (1 : Int) = 0; decide) (Tc_some ?_))
    dsimp only
    have k10 : up2 M1 278 13 0 278 10 = (L : Int) := by rw [rd_k (by decide), q2 278 (by decide) (by decide)]; omega
    obtain ⟨M2, z, e2, r1, r2, r3, r4, r5⟩ := moSign_eq (x := x) k10 hl
    unfold mo_sign
    refine Tc_u (Tc_t (by rw [k10, wr_i (by omega) (by omega)]; omega) (Tc_e e2 (Tc_some ⟨by dsimp only; rw [r1, q1], ?_⟩)))
    dsimp only
    have cc : chg [0, 1] M M2 := fun a k n => by
      by_cases e : a = 1
      · subst e
        by_cases z : k = 1
        · subst z; exact absurd (by decide) n
        · rw [r2 1 (by decide) (by decide), rd_a (by decide)]; exact q3 k z
      · by_cases e2 : a = 2
        · subst e2; exact absurd (by rw [show rg 2 k = 1 from rfl]; decide) n
        · by_cases e3 : a = 283
          · subst e3; exact absurd (by rw [show rg 283 k = 1 from rfl]; decide) n
          · by_cases e4 : a = 278
            · subst e4
              by_cases z : k = 10
              · subst z; exact absurd (by decide) n
              · by_cases z2 : k = 13
                · subst z2; exact absurd (by decide) n
                · rw [r3 k z, rd_k z2, q2 278 (by decide) (by decide)]
            · rw [r2 a e4 e3, up2_ne e4, q2 a e e2]
    refine h.go (Int.le_refl _) cc (by decide) (fun _ => ?_) (fun q => absurd q (by decide)) (fun q => absurd q (by decide)) (fun q => absurd q (by decide)) (fun q => absurd q (by decide)) (fun q => absurd q (by decide)) (fun q => absurd q (by decide)) (fun q => absurd q (by decide)) (fun q => absurd q (by decide)) (fun q => absurd q (by decide)) (fun q => absurd q (by decide))
    unfold C_T
    rw [r1, r2 1 (by decide) (by decide), r2 2 (by decide) (by decide), up2_ne (by decide), up2_ne (by decide), q1]
    refine ⟨rfl, by omega, by omega, fun i hi => ?_⟩
    by_cases e : i < L
    · rw [q5 i e, r5 i e, up2_ne (by decide), q2 283 (by decide) (by decide)]
      exact t4 i (by omega)
    · obtain ⟨j, rfl⟩ : ∃ j, i = L + j := ⟨i - L, by omega⟩
      have hj : j < 4 := by omega
      have b := byC_eq x hj
      rw [q4 j hj, r4 j hj]
      exact ⟨b.1, b.2.1, rfl⟩
  · have e1 : tx_addFour x M = some (0, M) := by
      unfold tx_addFour
      rw [if_neg (by omega), hL, if_neg (by rw [wr_i (by omega) (by omega)]; omega)]
    refine Tc_e e1 (Tc_t rfl (Tc_some ?_))
    dsimp only
    unfold mo_sign
    exact Tc_u (Tc_f (by rw [rd_k (by decide), t1, hL, wr_i (by omega) (by omega)]; omega) (Tc_some ⟨rfl, h.go0 c3⟩))
