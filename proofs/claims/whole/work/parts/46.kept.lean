-- ===== what can be undone =====
theorem remember_eq {M : MEM} (h0 : 0 ≤ M 278 31) (h1 : M 278 31 ≤ 10) : ∃ M', mo_remember M = some M' ∧ M' 278 31 = (if M 278 31 = 10 then 10 else M 278 31 + 1) ∧ (∀ c, c ≠ 278 → c ≠ 288 → M' c = M c) ∧ (∀ k, k ≠ 31 → M' 278 k = M 278 k) ∧
    ∀ j : Nat, (j : Int) = (if M 278 31 = 10 then 9 else M 278 31) → (∀ i, i < 208 → M' 288 (208 * j + i) = M 289 i) ∧ ∀ i' : Nat, i' < j → ∀ q, q < 208 → M' 288 (208 * i' + q) = M 288 (208 * (if M 278 31 = 10 then i' + 1 else i') + q) := by
  -- from many of them on
  have tail : ∀ (M1 : MEM) (j : Nat), M1 278 31 = (j : Int) → j ≤ 9 → ∃ M', mo_remember_j53 208 M1 = some M' ∧ M' 278 31 = (j : Int) + 1 ∧ (∀ c, c ≠ 278 → c ≠ 288 → M' c = M1 c) ∧ (∀ k, k ≠ 31 → M' 278 k = M1 278 k) ∧ (∀ i, i < 208 → M' 288 (208 * j + i) = M1 289 i) ∧ ∀ q, (q < 208 * j) → M' 288 q = M1 288 q := fun M1 j hj hj9 => by
    have l1 : Tc (iter (fun s => mo_remember_b55 208 s.1 s.2) FU (0, M1)) (fun r => (∀ c, c ≠ 288 → r.2 c = M1 c) ∧ (∀ i, i < 208 → r.2 288 (208 * j + i) = M1 289 i) ∧ ∀ q, q < 208 * j → r.2 288 q = M1 288 q) := by
      refine Tc_n (fun i s => s.1 = (i : Int) ∧ (∀ c, c ≠ 288 → s.2 c = M1 c) ∧ (∀ i', i' < i → s.2 288 (208 * j + i') = M1 289 i') ∧ ∀ q, q < 208 * j → s.2 288 q = M1 288 q) 208 ⟨rfl, fun _ _ => rfl, fun i' hi' => by omega, fun _ _ => rfl⟩ (by omega) (fun i s hi hI => ?_) (fun s hI => ?_)
      · obtain ⟨z, M2⟩ := s
        obtain ⟨rfl, q1, q2, q3⟩ := hI
        dsimp only at q1 q2 q3 ⊢
        have e31 : M2 278 31 = (j : Int) := by rw [q1 278 (by decide)]; exact hj
        have w : wr (wr (208 * (j : Int)) + (i : Int)) = ((208 * j + i : Nat) : Int) := by rw [wr_i (x := 208 * (j : Int)) (by omega) (by omega), wr_i (by omega) (by omega)]; omega
        unfold mo_remember_b55
        rw [e31, w]
        simp only [toNat_c]
        refine Tc_f (by omega) (Tc_t (by omega) (Tc_t (by omega) (Tc_u (Tc_inl ⟨(wr_i (by omega) (by omega)).trans (by omega), fun c hc => ?_, fun i' hi' => ?_, fun q hq => ?_⟩))))
        · dsimp only; rw [up2_ne hc]; exact q1 c hc
        · dsimp only
          rw [q1 289 (by decide)]
          by_cases e : i' = i
          · subst e; exact rd_same
          · rw [rd_k (by omega)]; exact q2 i' (by omega)
        · dsimp only; rw [rd_k (by omega)]; exact q3 q hq
      · obtain ⟨z, M2⟩ := s
        obtain ⟨rfl, q1, q2, q3⟩ := hI
        unfold mo_remember_b55
        exact Tc_t (by show (208 : Int) ≤ ((208 : Nat) : Int); omega) (Tc_inr ⟨q1, q2, q3⟩)
    obtain ⟨w1, e1, y1, y2, y3⟩ := l1
    have e31 : w1.2 278 31 = (j : Int) := by rw [y1 278 (by decide)]; exact hj
    refine ⟨up2 w1.2 278 31 ((j : Int) + 1), ?_, rd_same, fun c c1 c2 => ?_, fun k hk => ?_, fun i hi => ?_, fun q hq => ?_⟩
    · unfold mo_remember_j53
      rw [e1, Option.bind_some, e31, wr_i (by omega) (by omega), Option.bind_some]
    · rw [up2_ne c1]; exact y1 c c2
    · rw [rd_k hk, y1 278 (by decide)]
    · rw [rd_a (by decide)]; exact y2 i hi
    · rw [rd_a (by decide)]; exact y3 q hq
  unfold mo_remember
  by_cases h10 : M 278 31 = 10
  · rw [if_pos h10, if_pos h10]
    have l1 : Tc (iter (fun s => mo_remember_b15 208 s.1 s.2) FU (0, M)) (fun r => (∀ c, c ≠ 288 → r.2 c = M c) ∧ (∀ q, q < 1872 → r.2 288 q = M 288 (q + 208))) := by
      refine Tc_n (fun i s => s.1 = (i : Int) ∧ (∀ c, c ≠ 288 → s.2 c = M c) ∧ (∀ q, q < i → s.2 288 q = M 288 (q + 208)) ∧ ∀ q, i ≤ q → s.2 288 q = M 288 q) 1872 ⟨rfl, fun _ _ => rfl, fun i' hi' => by omega, fun _ _ => rfl⟩ (by omega) (fun i s hi hI => ?_) (fun s hI => ?_)
      · obtain ⟨z, M2⟩ := s
        obtain ⟨rfl, q1, q2, q3⟩ := hI
        dsimp only at q1 q2 q3 ⊢
        have w9 : wr ((208 : Int) * 9) = 1872 := wr_i (by omega) (by omega)
        have w : wr ((i : Int) + 208) = ((i + 208 : Nat) : Int) := (wr_i (by omega) (by omega)).trans (by omega)
        unfold mo_remember_b15
        rw [w9, w]
        simp only [toNat_c]
        refine Tc_f (by omega) (Tc_t (by omega) (Tc_t (by omega) (Tc_u (Tc_inl ⟨(wr_i (by omega) (by omega)).trans (by omega), fun c hc => ?_, fun q hq => ?_, fun q hq => ?_⟩))))
        · dsimp only; rw [up2_ne hc]; exact q1 c hc
        · dsimp only
          rw [q3 (i + 208) (by omega)]
          by_cases e : q = i
          · subst e; exact rd_same
          · rw [rd_k (by omega)]; exact q2 q (by omega)
        · dsimp only; rw [rd_k (by omega)]; exact q3 q (by omega)
      · obtain ⟨z, M2⟩ := s
        obtain ⟨rfl, q1, q2, q3⟩ := hI
        have w9 : wr ((208 : Int) * 9) = 1872 := wr_i (by omega) (by omega)
        unfold mo_remember_b15
        rw [w9]
        exact Tc_t (by show (1872 : Int) ≤ ((1872 : Nat) : Int); omega) (Tc_inr ⟨q1, q2⟩)
    obtain ⟨w1, e1, y1, y2⟩ := l1
    have e31 : w1.2 278 31 = 10 := by rw [y1 278 (by decide)]; exact h10
    obtain ⟨M', f1, f2, f3, f4, f5, f6⟩ := tail (up2 w1.2 278 31 9) 9 rd_same (by omega)
    refine ⟨M', ?_, f2, fun c c1 c2 => ?_, fun k hk => ?_, fun j hj => ?_⟩
    · rw [e1, Option.bind_some, e31, show wr ((10 : Int) - 1) = 9 from wr_i (by omega) (by omega), Option.bind_some]
      exact f1
    · rw [f3 c c1 c2, up2_ne c1]; exact y1 c c2
    · rw [f4 k hk, rd_k hk, y1 278 (by decide)]
    · rw [if_pos h10] at hj
      have : j = 9 := by omega
      subst this
      refine ⟨fun i hi => ?_, fun i' hi' q hq => ?_⟩
      · rw [f5 i hi, up2_ne (by decide), y1 289 (by decide)]
      · rw [f6 _ (by omega), up2_ne (by decide), y2 _ (by omega), if_pos h10, show 208 * i' + q + 208 = 208 * (i' + 1) + q by omega]
  · rw [if_neg h10, if_neg h10]
    obtain ⟨j, hj⟩ : ∃ j : Nat, M 278 31 = (j : Int) := ⟨(M 278 31).toNat, by omega⟩
    obtain ⟨M', f1, f2, f3, f4, f5, f6⟩ := tail M j hj (by omega)
    refine ⟨M', f1, by rw [f2, hj], f3, f4, fun j' hj' => ?_⟩
    rw [if_neg h10] at hj'
    have : j' = j := by omega
    subst this
    exact ⟨f5, fun i' hi' q hq => by rw [f6 _ (by omega), if_neg h10]⟩
theorem prepare_eq {M : MEM} {wc : Int} (h0 : 0 ≤ M 45 1) (h1 : M 45 1 < 11) (h2 : 0 ≤ M 45 2) (h3 : M 45 2 ≤ 10) (h4 : 0 ≤ M 3 2) (h5 : M 3 2 ≤ 3) (hw : wc = 0 ∨ wc = 1) :
    ∃ M', hi_prepare 3 wc M = some M' ∧ copyS (usc M (M 45 2).toNat) 3 M' M ∧ copyC (usc M (M 45 2).toNat + 2) 5 M' M ∧ M' (usc M (M 45 2).toNat) 5 = wc ∧ (∀ c, (c < usc M (M 45 2).toNat ∨ usc M (M 45 2).toNat + 16 ≤ c) → M' c = M c) := by
  have hu := usc_in (i := (M 45 2).toNat) h0 h1 (by omega)
  have er : 47 + 16 * ((M 45 1 + M 45 2) % 11).toNat = usc M (M 45 2).toNat := by unfold usc; split <;> omega
  have hm1 := Int.emod_nonneg (M 45 1 + M 45 2) (show (11 : Int) ≠ 0 by decide)
  have hm2 := Int.emod_lt_of_pos (M 45 1 + M 45 2) (show (0 : Int) < 11 by decide)
  unfold hi_prepare
  rw [wr_i (x := M 45 1 + M 45 2) (by omega) (by omega), floorMod_eq (by unfold InR; omega) (by decide) (by decide), Option.bind_some, if_pos (by omega), er]
  generalize usc M (M 45 2).toNat = F at *
  obtain ⟨M1, e1, g1, g2, g3, g3'⟩ := copyWalk_eq (s' := F) (s := 3) (M := M) (by omega) h4 h5
  obtain ⟨M2, e2, k1, k2, k3⟩ := ca_copy_eq (c' := F + 2) (c := 5) (M := M1) (by omega)
  refine ⟨up2 M2 F 5 wc, ?_, ?_, ?_, rd_same, fun c hc => ?_⟩
  · rw [e1, Option.bind_some, e2, Option.bind_some, if_pos hw, Option.bind_some]
  · obtain ⟨q1, q2, q3⟩ := g1
    refine ⟨?_, ?_, fun d hd => ?_⟩
    · rw [rd_k (by decide), k2 F (by omega)]; exact q1
    · rw [rd_k (by decide), k2 F (by omega)]; exact q2
    · rw [up2_ne (by omega), up2_ne (by omega), up2_ne (by omega), k2 _ (by omega), k2 _ (by omega), k2 _ (by omega)]
      exact q3 d hd
  · refine ⟨?_, fun q i x1 x2 hi => ?_⟩
    · rw [up2_ne (by omega), k1.1, g2 5 (by omega) (by omega)]
    · rw [up2_ne (by omega), k1.2 q i x1 x2 hi, g2 _ (by omega) (by omega)]
  · rw [up2_ne (by omega), k2 c (by omega), g2 c (by omega) (by omega)]
theorem commit_eq {M : MEM} (h0 : 0 ≤ M 45 1) (h1 : M 45 1 < 11) (h2 : 0 ≤ M 45 2) (h3 : M 45 2 ≤ 10) : ∃ M', hi_commit M = some M' ∧ M' 45 2 = (if M 45 2 = 10 then 10 else M 45 2 + 1) ∧ M' 45 1 = (if M 45 2 = 10 then (M 45 1 + 1) % 11 else M 45 1) ∧ (∀ c, c ≠ 45 → M' c = M c) := by
  unfold hi_commit
  by_cases h10 : M 45 2 = 10
  · rw [if_pos (by omega), wr_i (by omega) (by omega), floorMod_eq (by unfold InR; omega) (by decide) (by decide), Option.bind_some, Option.bind_some]
    refine ⟨_, rfl, ?_, ?_, fun c hc => up2_ne hc⟩
    · rw [rd_k (by decide), if_pos h10, h10]
    · rw [rd_same, if_pos h10]
  · rw [if_neg (by omega), wr_i (by omega) (by omega), Option.bind_some]
    refine ⟨_, rfl, ?_, ?_, fun c hc => up2_ne hc⟩
    · rw [rd_same, if_neg h10]
    · rw [rd_k (by decide), if_neg h10]
theorem usc_next {M M' : MEM} {i : Nat} (h0 : 0 ≤ M 45 1) (h1 : M 45 1 < 11) (hi : i ≤ 9) (h : M' 45 1 = (M 45 1 + 1) % 11) : usc M' i = usc M (i + 1) := by
  obtain ⟨o, ho⟩ : ∃ o : Nat, M 45 1 = (o : Int) := ⟨(M 45 1).toNat, by omega⟩
  have h' : M' 45 1 = (((o + 1) % 11 : Nat) : Int) := by rw [h, ho]; omega
  unfold usc
  rw [h', ho, toNat_c, toNat_c]
  by_cases e : o = 10
  · subst e
    rw [if_pos (by omega), if_neg (by omega)]; omega
  · rw [show (o + 1) % 11 = o + 1 by omega]
    by_cases z : o + 1 + i < 11
    · rw [if_pos z, if_pos (by omega)]; omega
    · rw [if_neg z, if_neg (by omega)]; omega
theorem usc_same {M M' : MEM} {i : Nat} (h : M' 45 1 = M 45 1) : usc M' i = usc M i := by
  unfold usc
  rw [h]
theorem usc_dis {M : MEM} {i j : Nat} (h0 : 0 ≤ M 45 1) (h1 : M 45 1 < 11) (hi : i ≤ 10) (hj : j ≤ 10) (hij : i ≠ j) : usc M i + 16 ≤ usc M j ∨ usc M j + 16 ≤ usc M i := by
  obtain ⟨o, ho⟩ : ∃ o : Nat, M 45 1 = (o : Int) := ⟨(M 45 1).toNat, by omega⟩
  unfold usc
  rw [ho, toNat_c]
  by_cases z : o + i < 11
  · rw [if_pos z]
    by_cases y : o + j < 11
    · rw [if_pos y]; omega
    · rw [if_neg y]; omega
  · rw [if_neg z]
    by_cases y : o + j < 11
    · rw [if_pos y]; omega
    · rw [if_neg y]; omega
/-- one more can be undone -/
theorem U_more {B : Int} {M M' : MEM} {wc : Int} (hU : C_U B M) (hD : C_D B M) (hC : C_C M) (hN : M 3 2 ≤ 3) (hw : wc = 0 ∨ wc = 1) (k1 : copyS (usc M (M 45 2).toNat) 3 M' M) (k2 : copyC (usc M (M 45 2).toNat + 2) 5 M' M) (k3 : M' (usc M (M 45 2).toNat) 5 = wc)
    (k4 : ∀ c, 47 ≤ c → c ≤ 222 → (c < usc M (M 45 2).toNat ∨ usc M (M 45 2).toNat + 16 ≤ c) → M' c = M c) (k5 : M' 45 2 = (if M 45 2 = 10 then 10 else M 45 2 + 1)) (k6 : M' 45 1 = (if M 45 2 = 10 then (M 45 1 + 1) % 11 else M 45 1)) (k7 : M' 3 2 = M 3 2) (k8 : M' 280 = M 280)
    (m1 : M' 278 31 = (if M 278 31 = 10 then 10 else M 278 31 + 1)) (m2 : ∀ j : Nat, (j : Int) = (if M 278 31 = 10 then 9 else M 278 31) → ((∀ i, i < 166 → M' 288 (208 * j + i) = M 279 i) ∧ M' 288 (208 * j + 166) = M 278 7 ∧ (∀ i, i < 40 → M' 288 (208 * j + 167 + i) = M 282 i) ∧ M' 288 (208 * j + 207) = wc) ∧ ∀ i' : Nat, i' < j → ∀ q, q < 208 → M' 288 (208 * i' + q) = M 288 (208 * (if M 278 31 = 10 then i' + 1 else i') + q)) : C_U B M' := by
  obtain ⟨u1, u2, u3, u4, u5, u6⟩ := hU
  refine ⟨?_, ?_, ?_, ?_, ?_, fun i hi => ?_⟩
  · rw [k6]; split <;> omega
  · rw [k6]; split <;> omega
  · rw [k5, m1, u3]
  · rw [k5]; split <;> omega
  · rw [k5]; split <;> omega
  · rw [u3] at m1 m2
    have hlt := usc_in (i := (M 45 2).toNat) u1 u2 (by omega)
    obtain ⟨j, hj, sh, hj9, eNew, hOld⟩ : ∃ (j : Nat), (j : Int) = (if M 45 2 = 10 then 9 else M 45 2) ∧ ∃ sh : Nat → Nat, j ≤ 9 ∧ usc M' j = usc M (M 45 2).toNat ∧ ∀ i', i' < j → sh i' = (if M 45 2 = 10 then i' + 1 else i') ∧ usc M' i' = usc M (sh i') ∧ (sh i' : Int) < M 45 2 := by
      by_cases h10 : M 45 2 = 10
      · rw [if_pos h10] at k6
        refine ⟨9, by rw [if_pos h10]; rfl, fun i' => i' + 1, Nat.le_refl _, ?_, fun i' hi' => ⟨by rw [if_pos h10], usc_next u1 u2 (by omega) k6, by dsimp only; omega⟩⟩
        rw [usc_next u1 u2 (Nat.le_refl _) k6, h10]; rfl
      · rw [if_neg h10] at k6
        refine ⟨(M 45 2).toNat, by rw [if_neg h10]; omega, fun i' => i', by omega, usc_same k6, fun i' hi' => ⟨by rw [if_neg h10], usc_same k6, by dsimp only; omega⟩⟩
    obtain ⟨⟨n1, n2, n3, n4⟩, n5⟩ := m2 j hj
    have hij : i ≤ j := by
      by_cases h10 : M 45 2 = 10
      · rw [k5, if_pos h10] at hi; rw [if_pos h10] at hj; omega
      · rw [k5, if_neg h10] at hi; rw [if_neg h10] at hj; omega
    by_cases e : i = j
    · subst e
      rw [eNew, k7]
      obtain ⟨c1, c2, c3⟩ := k1
      refine ⟨c1, snS.move (s := 3) (a := 279) (k := 0) hN c2 (fun d hd => c3 d hd) (fun q hq => by rw [n1 q hq, Nat.zero_add]) (fun d _ => by rw [k8]) hD, ?_, by rw [k3, n4], by rw [k3]; exact hw⟩
      exact snC.move (c := 5) k2 n2 (fun q hq => n3 q hq) hC
    · have hij' : i < j := by omega
      obtain ⟨hi2, eu, hi2l⟩ := hOld i hij'
      have n5' := n5 i hij'
      rw [← hi2] at n5'
      generalize sh i = i2 at *
      obtain ⟨r1, r2, r3, r4, r5⟩ := u6 i2 hi2l
      have hui := usc_in (i := i2) u1 u2 (by omega)
      have dis : usc M i2 + 16 ≤ usc M (M 45 2).toNat ∨ usc M (M 45 2).toNat + 16 ≤ usc M i2 := usc_dis u1 u2 (by omega) (by omega) (by omega)
      have same : ∀ c, usc M i2 ≤ c → c < usc M i2 + 16 → M' c = M c := fun c a b => k4 c (by omega) (by omega) (by omega)
      rw [eu, k7, same _ (Nat.le_refl _) (by omega)]
      refine ⟨r1, r2.move hN (by rw [same _ (Nat.le_refl _) (by omega)]) (fun d hd => ⟨fun q _ _ => by rw [same _ (by omega) (by omega)], fun p _ => by rw [same _ (by omega) (by omega)], fun q _ => by rw [same _ (by omega) (by omega)]⟩) (fun q hq => n5' q (by omega)) (fun d _ => by rw [k8]), ?_, ?_, r5⟩
      · refine r3.move ⟨by rw [same _ (by omega) (by omega)], fun q k x1 x2 _ => by rw [same _ (by omega) (by omega)]⟩ (n5' 166 (by omega)) (fun q hq => ?_)
        have := n5' (167 + q) (by omega)
        rw [← Nat.add_assoc, ← Nat.add_assoc] at this
        exact this
      · rw [n5' 207 (by omega)]; exact r4
