-- ===== scenes copied =====
def copyS (s' s : Nat) (M' M : MEM) : Prop := M' s' 2 = M s 2 ∧ M' s' 3 = M s 3 ∧ ∀ d : Nat, (d : Int) < M s 2 → (∀ k, 2 ≤ k → k ≤ 5 → M' (s' + 7 + 3 * d) k = M (s + 7 + 3 * d) k) ∧ (∀ p, p < 12 → M' (s' + 7 + 3 * d + 1) p = M (s + 7 + 3 * d + 1) p) ∧ ∀ q, q < 40 → M' (s' + 7 + 3 * d + 2) q = M (s + 7 + 3 * d + 2) q
def copyC (c' c : Nat) (M' M : MEM) : Prop := M' c' 4 = M c 4 ∧ ∀ q i, 1 ≤ q → q ≤ 4 → i < 10 → M' (c' + q) i = M (c + q) i
theorem be_copy_eq {a0 a1 : Nat} {M : MEM} (h : a0 + 3 ≤ a1 ∨ a1 + 3 ≤ a0) : ∃ M', be_copy a0 a1 M = some M' ∧ (∀ k, 2 ≤ k → k ≤ 5 → M' a0 k = M a1 k) ∧ (∀ k, (k < 2 ∨ 5 < k) → M' a0 k = M a0 k) ∧ (∀ p, p < 12 → M' (a0 + 1) p = M (a1 + 1) p) ∧ (∀ q, q < 40 → M' (a0 + 2) q = M (a1 + 2) q) ∧ ∀ c, c ≠ a0 → c ≠ a0 + 1 → c ≠ a0 + 2 → M' c = M c := by
  have n1 : a1 ≠ a0 := by omega
  unfold be_copy be_copyButBook
  simp only [Option.bind_some]
  have r1 : up2 M a0 2 (M a1 2) a1 3 = M a1 3 := rd_a n1
  have r2 : up2 (up2 M a0 2 (M a1 2)) a0 3 (M a1 3) a1 4 = M a1 4 := by rw [rd_a n1, rd_a n1]
  have r3 : up2 (up2 (up2 M a0 2 (M a1 2)) a0 3 (M a1 3)) a0 4 (M a1 4) a1 5 = M a1 5 := by rw [rd_a n1, rd_a n1, rd_a n1]
  rw [r1, r2, r3]
  generalize hX : up2 (up2 (up2 (up2 M a0 2 (M a1 2)) a0 3 (M a1 3)) a0 4 (M a1 4)) a0 5 (M a1 5) = X
  have hXc : ∀ c, c ≠ a0 → X c = M c := fun c hc => by rw [← hX, up2_ne hc, up2_ne hc, up2_ne hc, up2_ne hc]
  refine ⟨_, rfl, fun k k1 k2 => ?_, fun k hk => ?_, fun p hp => ?_, fun q hq => ?_, fun c c0 c1 c2 => ?_⟩
  · rw [cpy_ne (by omega), cpy_ne (by omega), ← hX]
    have : k = 2 ∨ k = 3 ∨ k = 4 ∨ k = 5 := by omega
    rcases this with rfl | rfl | rfl | rfl <;> simp (disch := omega) only [rd_same, rd_k]
  · rw [cpy_ne (by omega), cpy_ne (by omega), ← hX]
    simp (disch := omega) only [rd_k]
  · rw [cpy_ne (by omega), cpy_row p hp, hXc _ (by omega)]
  · rw [cpy_row q hq, cpy_ne (by omega), hXc _ (by omega)]
  · rw [cpy_ne c2, cpy_ne c1, hXc c c0]
theorem copyWalk_eq {s' s : Nat} {M : MEM} (h : s' + 16 ≤ s ∨ s + 16 ≤ s') (h0 : 0 ≤ M s 2) (h3 : M s 2 ≤ 3) : ∃ M', sc_copyWalk s' s M = some M' ∧ copyS s' s M' M ∧ (∀ c, c ≠ s' → (c < s' + 7 ∨ (s' : Int) + 7 + 3 * M s 2 ≤ c) → M' c = M c) ∧ (∀ k, k ≠ 2 → k ≠ 3 → M' s' k = M s' k) ∧ (∀ d k : Nat, (d : Int) < M s 2 → (k < 2 ∨ 5 < k) → M' (s' + 7 + 3 * d) k = M (s' + 7 + 3 * d) k) := by
  obtain ⟨N, hN⟩ : ∃ N : Nat, M s 2 = (N : Int) := ⟨(M s 2).toNat, by omega⟩
  have r1 : up2 M s' 2 (M s 2) s 3 = M s 3 := rd_a (by omega)
  have hl : Tc (iter (fun q => sc_copyWalk_b18 s' s q.1 q.2) FU (0, up2 (up2 M s' 2 (M s 2)) s' 3 (M s 3))) (fun r => r.2 s' 2 = M s 2 ∧ r.2 s' 3 = M s 3 ∧ (∀ k, k ≠ 2 → k ≠ 3 → r.2 s' k = M s' k) ∧ (∀ c, c ≠ s' → (c < s' + 7 ∨ s' + 7 + 3 * N ≤ c) → r.2 c = M c) ∧ ∀ d : Nat, d < N → (∀ k, 2 ≤ k → k ≤ 5 → r.2 (s' + 7 + 3 * d) k = M (s + 7 + 3 * d) k) ∧ (∀ k, (k < 2 ∨ 5 < k) → r.2 (s' + 7 + 3 * d) k = M (s' + 7 + 3 * d) k) ∧ (∀ p, p < 12 → r.2 (s' + 7 + 3 * d + 1) p = M (s + 7 + 3 * d + 1) p) ∧ ∀ q, q < 40 → r.2 (s' + 7 + 3 * d + 2) q = M (s + 7 + 3 * d + 2) q) := by
    refine Tc_n (fun i q => q.1 = (i : Int) ∧ q.2 s' 2 = M s 2 ∧ q.2 s' 3 = M s 3 ∧ (∀ k, k ≠ 2 → k ≠ 3 → q.2 s' k = M s' k) ∧ (∀ c, c ≠ s' → (c < s' + 7 ∨ s' + 7 + 3 * i ≤ c) → q.2 c = M c) ∧ ∀ d : Nat, d < i → (∀ k, 2 ≤ k → k ≤ 5 → q.2 (s' + 7 + 3 * d) k = M (s + 7 + 3 * d) k) ∧ (∀ k, (k < 2 ∨ 5 < k) → q.2 (s' + 7 + 3 * d) k = M (s' + 7 + 3 * d) k) ∧ (∀ p, p < 12 → q.2 (s' + 7 + 3 * d + 1) p = M (s + 7 + 3 * d + 1) p) ∧ ∀ r, r < 40 → q.2 (s' + 7 + 3 * d + 2) r = M (s + 7 + 3 * d + 2) r) N ⟨rfl, ?_, ?_, fun k k2 k3 => ?_, fun c hc _ => ?_, fun d hd => by omega⟩ (by omega) (fun i q hi hI => ?_) (fun q hI => ?_)
    · dsimp only; rw [rd_k (by omega), rd_same]
    · dsimp only; rw [rd_same]
    · dsimp only; rw [rd_k k3, rd_k k2]
    · dsimp only; rw [up2_ne hc, up2_ne hc]
    · obtain ⟨z, M1⟩ := q
      obtain ⟨rfl, q1, q2, q3, q4, q5⟩ := hI
      dsimp only at q1 q2 q3 q4 q5 ⊢
      obtain ⟨M2, e2, g1, g1', g2, g3, g4⟩ := be_copy_eq (a0 := s' + 7 + 3 * i) (a1 := s + 7 + 3 * i) (M := M1) (by omega)
      have src : ∀ c, s + 7 ≤ c → c < s + 16 → M1 c = M c := fun c a b => q4 c (by omega) (by omega)
      unfold sc_copyWalk_b18
      rw [toNat_c]
      refine Tc_f (by omega) (Tc_f (by omega) (Tc_t (by omega) (Tc_t (by omega) (Tc_e e2 (Tc_inl ⟨(wr_i (by omega) (by omega)).trans (by omega), ?_, ?_, fun k k2 k3 => ?_, fun c hc hc2 => ?_, fun d hd => ?_⟩)))))
      · dsimp only; rw [g4 s' (by omega) (by omega) (by omega)]; exact q1
      · dsimp only; rw [g4 s' (by omega) (by omega) (by omega)]; exact q2
      · dsimp only; rw [g4 s' (by omega) (by omega) (by omega)]; exact q3 k k2 k3
      · dsimp only; rw [g4 c (by omega) (by omega) (by omega)]; exact q4 c hc (by omega)
      · dsimp only
        by_cases e : d = i
        · subst e
          refine ⟨fun k a b => ?_, fun k hk => ?_, fun p hp => ?_, fun r hr => ?_⟩
          · rw [g1 k a b, src _ (by omega) (by omega)]
          · rw [g1' k hk, q4 _ (by omega) (by omega)]
          · rw [g2 p hp, src _ (by omega) (by omega)]
          · rw [g3 r hr, src _ (by omega) (by omega)]
        · rw [g4 (s' + 7 + 3 * d) (by omega) (by omega) (by omega), g4 (s' + 7 + 3 * d + 1) (by omega) (by omega) (by omega), g4 (s' + 7 + 3 * d + 2) (by omega) (by omega) (by omega)]
          exact q5 d (by omega)
    · obtain ⟨z, M1⟩ := q
      obtain ⟨rfl, q1, q2, q3, q4, q5⟩ := hI
      dsimp only at q1
      unfold sc_copyWalk_b18
      exact Tc_t (by show M1 s' 2 ≤ ((N : Nat) : Int); omega) (Tc_inr ⟨q1, q2, q3, q4, q5⟩)
  obtain ⟨r, e1, q1, q2, q3, q4, q5⟩ := hl
  refine ⟨r.2, ?_, ⟨q1, q2, fun d hd => ?_⟩, fun c hc hc2 => q4 c hc (by omega), q3, fun d k hd hk => (q5 d (by omega)).2.1 k hk⟩
  · unfold sc_copyWalk
    rw [Option.bind_some, r1, Option.bind_some, e1]
    rfl
  · have := q5 d (by omega)
    exact ⟨this.1, this.2.2.1, this.2.2.2⟩
theorem ca_copy_eq {c' c : Nat} {M : MEM} (h : c' + 5 ≤ c ∨ c + 5 ≤ c') : ∃ M', ca_copy c' c M = some M' ∧ copyC c' c M' M ∧ (∀ a, (a < c' ∨ c' + 5 ≤ a) → M' a = M a) ∧ (∀ k, k ≠ 4 → M' c' k = M c' k) := by
  unfold ca_copy
  simp only [Option.bind_some]
  refine ⟨_, rfl, ⟨?_, fun q i h1 h4 hi => ?_⟩, fun a ha => ?_, fun k hk => ?_⟩
  · rw [cpy_ne (by omega), cpy_ne (by omega), cpy_ne (by omega), cpy_ne (by omega), rd_same]
  · have : q = 1 ∨ q = 2 ∨ q = 3 ∨ q = 4 := by omega
    rcases this with rfl | rfl | rfl | rfl
    · rw [cpy_ne (by omega), cpy_ne (by omega), cpy_ne (by omega), cpy_row i hi, up2_ne (by omega)]
    · rw [cpy_ne (by omega), cpy_ne (by omega), cpy_row i hi, cpy_ne (by omega), up2_ne (by omega)]
    · rw [cpy_ne (by omega), cpy_row i hi, cpy_ne (by omega), cpy_ne (by omega), up2_ne (by omega)]
    · rw [cpy_row i hi, cpy_ne (by omega), cpy_ne (by omega), cpy_ne (by omega), up2_ne (by omega)]
  · rw [cpy_ne (by omega), cpy_ne (by omega), cpy_ne (by omega), cpy_ne (by omega), up2_ne (by omega)]
  · rw [cpy_ne (by omega), cpy_ne (by omega), cpy_ne (by omega), cpy_ne (by omega), rd_k hk]
theorem snD.move {b b' a a' o o' : Nat} {n t : Int} {M M' : MEM} (h3 : ∀ k, 3 ≤ k → k ≤ 5 → M' b' k = M b k) (h1 : ∀ p, p < 12 → M' (b' + 1) p = M (b + 1) p) (h2 : ∀ q, q < 40 → M' (b' + 2) q = M (b + 2) q) (h4 : ∀ k, k < 55 → M' a' (o' + k) = M a (o + k)) (g : snD b a o n t M) : snD b' a' o' n t M' := by
  obtain ⟨g1, g2, g3, g4, g5⟩ := g
  have n12 := g2.2.1
  have e1 : eqD n (dsC b M) (dsC b' M') := ⟨(h3 3 (by omega) (by omega)).symm, (h3 4 (by omega) (by omega)).symm, (h3 5 (by omega) (by omega)).symm, fun p hp => (h1 p (by omega)).symm⟩
  have e2 : eqD n (dsM a o M) (dsM a' o' M') := by
    refine ⟨(h4 1 (by omega)).symm, (h4 0 (by omega)).symm, (h4 2 (by omega)).symm, fun p hp => ?_⟩
    have := h4 (3 + p) (by omega)
    rw [← Nat.add_assoc, ← Nat.add_assoc] at this
    exact this.symm
  refine ⟨(e1.sy.tr g1).tr e2, okD_congr e1 g2, fun p hp hp2 => ?_, ?_, fun j hj1 hj2 hj3 => ?_⟩
  · have := h4 (3 + p) (by omega)
    rw [← Nat.add_assoc, ← Nat.add_assoc] at this
    rw [this]; exact g3 p hp hp2
  · rw [h3 5 (by omega) (by omega)]; exact g4
  · rw [h3 5 (by omega) (by omega)] at hj2 hj3
    have := h4 (15 + (j - 1) % 40) (by omega)
    rw [← Nat.add_assoc, ← Nat.add_assoc] at this
    rw [this, h2 _ (by omega)]
    exact g5 j hj1 hj2 hj3
theorem snS.move {s s' a a' k k' : Nat} {N B : Int} {M M' : MEM} (hN : N ≤ 3) (h3 : M' s' 3 = M s 3) (hb : ∀ d : Nat, (d : Int) < N → (∀ q, 2 ≤ q → q ≤ 5 → M' (s' + 7 + 3 * d) q = M (s + 7 + 3 * d) q) ∧ (∀ p, p < 12 → M' (s' + 7 + 3 * d + 1) p = M (s + 7 + 3 * d + 1) p) ∧ ∀ q, q < 40 → M' (s' + 7 + 3 * d + 2) q = M (s + 7 + 3 * d + 2) q) (ha : ∀ i, i < 166 → M' a' (k' + i) = M a (k + i)) (h280 : ∀ d : Nat, (d : Int) < N → M' 280 d = M 280 d) (g : snS s a k N B M) : snS s' a' k' N B M' := by
  obtain ⟨g1, g2, g3, g4⟩ := g
  unfold snS
  rw [h3, ha 165 (by omega)]
  refine ⟨g1, g2, g3, fun d hd => ?_⟩
  obtain ⟨b1, b2, b3⟩ := hb d hd
  rw [h280 d hd, b1 2 (by omega) (by omega)]
  refine ⟨(g4 d hd).1, (g4 d hd).2.move (fun q x y => b1 q (by omega) y) b2 b3 (fun q hq => ?_)⟩
  rw [Nat.add_assoc, Nat.add_assoc]
  exact ha _ (by omega)
theorem snC.move {c c' : Nat} {mm mm' : Int} {cf cf' : Nat → Int} {M M' : MEM} (h : copyC c' c M' M) (hm : mm' = mm) (hf : ∀ k, k < 40 → cf' k = cf k) (g : snC c mm cf M) : snC c' mm' cf' M' := by
  obtain ⟨g1, g2, g3, g4⟩ := g
  subst hm
  refine ⟨h.1.trans g1, g2, g3, fun i hi => ?_⟩
  rw [h.2 1 i (by omega) (by omega) (by omega), h.2 2 i (by omega) (by omega) (by omega), h.2 3 i (by omega) (by omega) (by omega), h.2 4 i (by omega) (by omega) (by omega), hf _ (by omega), hf _ (by omega), hf _ (by omega), hf _ (by omega)]
  exact g4 i hi
-- ===== the reference's pictures =====
/-- all that is kept of now lies in a, from k on -/
def layd (a k : Nat) (M' M : MEM) : Prop := (∀ i, i < 166 → M' a (k + i) = M 279 i) ∧ M' a (k + 166) = M 278 7 ∧ ∀ i, i < 40 → M' a (k + 167 + i) = M 282 i
theorem layAll_eq {a k : Nat} {M : MEM} (ha : a = 289 ∨ a = 304) (hk : k + 207 ≤ lenA a) : ∃ M', mo_layAll a k M = some M' ∧ layd a k M' M ∧ (∀ c, c ≠ a → M' c = M c) ∧ ∀ q, (q < k ∨ k + 207 ≤ q) → M' a q = M a q := by
  have hlen : lenA a ≤ 500 := by rcases ha with rfl | rfl <;> decide
  have l1 : Tc (iter (fun s => mo_layAll_b2 a k s.1 s.2) FU (0, M)) (fun r => (∀ c, c ≠ a → r.2 c = M c) ∧ (∀ i, i < 166 → r.2 a (k + i) = M 279 i) ∧ ∀ q, (q < k ∨ k + 166 ≤ q) → r.2 a q = M a q) := by
    refine Tc_n (fun i s => s.1 = (i : Int) ∧ (∀ c, c ≠ a → s.2 c = M c) ∧ (∀ j, j < i → s.2 a (k + j) = M 279 j) ∧ ∀ q, (q < k ∨ k + i ≤ q) → s.2 a q = M a q) 166 ⟨rfl, fun _ _ => rfl, fun j hj => by omega, fun q _ => rfl⟩ (by omega) (fun i s hi hI => ?_) (fun s hI => ?_)
    · obtain ⟨z, M1⟩ := s
      obtain ⟨rfl, q1, q2, q3⟩ := hI
      dsimp only at q1 q2 q3 ⊢
      have w : wr ((k : Int) + (i : Int)) = ((k + i : Nat) : Int) := (wr_i (by omega) (by omega)).trans (by omega)
      unfold mo_layAll_b2
      rw [w]
      simp only [toNat_c]
      refine Tc_f (by omega) (Tc_t (by omega) (Tc_t (by omega) (Tc_u (Tc_inl ⟨(wr_i (by omega) (by omega)).trans (by omega), fun c hc => ?_, fun j hj => ?_, fun q hq => ?_⟩))))
      · dsimp only; rw [up2_ne hc]; exact q1 c hc
      · dsimp only
        rw [q1 279 (by omega)]
        by_cases e : j = i
        · subst e; exact rd_same
        · rw [rd_k (by omega)]; exact q2 j (by omega)
      · dsimp only; rw [rd_k (by omega)]; exact q3 q (by omega)
    · obtain ⟨z, M1⟩ := s
      obtain ⟨rfl, q1, q2, q3⟩ := hI
      unfold mo_layAll_b2
      exact Tc_t (by show (166 : Int) ≤ ((166 : Nat) : Int); omega) (Tc_inr ⟨q1, q2, q3⟩)
  obtain ⟨w1, e1, y1, y2, y3⟩ := l1
  obtain ⟨w1, M1⟩ := w1
  dsimp only at y1 y2 y3
  have w166 : wr ((k : Int) + 166) = ((k + 166 : Nat) : Int) := (wr_i (by omega) (by omega)).trans (by omega)
  have w167 : wr (((k + 166 : Nat) : Int) + 1) = ((k + 167 : Nat) : Int) := (wr_i (by omega) (by omega)).trans (by omega)
  have l2 : Tc (iter (fun s => mo_layAll_b39 a k s.1 s.2) FU (0, up2 M1 a (k + 166) (M1 278 7))) (fun r => (∀ c, c ≠ a → r.2 c = M c) ∧ (∀ i, i < 40 → r.2 a (k + 167 + i) = M 282 i) ∧ ∀ q, (q < k + 167 ∨ k + 207 ≤ q) → r.2 a q = up2 M1 a (k + 166) (M1 278 7) a q) := by
    refine Tc_n (fun i s => s.1 = (i : Int) ∧ (∀ c, c ≠ a → s.2 c = M c) ∧ (∀ j, j < i → s.2 a (k + 167 + j) = M 282 j) ∧ ∀ q, (q < k + 167 ∨ k + 167 + i ≤ q) → s.2 a q = up2 M1 a (k + 166) (M1 278 7) a q) 40 ⟨rfl, fun c hc => by dsimp only; rw [up2_ne hc]; exact y1 c hc, fun j hj => by omega, fun q _ => rfl⟩ (by omega) (fun i s hi hI => ?_) (fun s hI => ?_)
    · obtain ⟨z, M2⟩ := s
      obtain ⟨rfl, q1, q2, q3⟩ := hI
      dsimp only at q1 q2 q3 ⊢
      have w : wr (((k + 167 : Nat) : Int) + (i : Int)) = ((k + 167 + i : Nat) : Int) := (wr_i (by omega) (by omega)).trans (by omega)
      unfold mo_layAll_b39
      rw [w166, w167, w]
      simp only [toNat_c]
      refine Tc_f (by omega) (Tc_t (by omega) (Tc_t (by omega) (Tc_u (Tc_inl ⟨(wr_i (by omega) (by omega)).trans (by omega), fun c hc => ?_, fun j hj => ?_, fun q hq => ?_⟩))))
      · dsimp only; rw [up2_ne hc]; exact q1 c hc
      · dsimp only
        rw [q1 282 (by omega)]
        by_cases e : j = i
        · subst e; exact rd_same
        · rw [rd_k (by omega)]; exact q2 j (by omega)
      · dsimp only; rw [rd_k (by omega)]; exact q3 q (by omega)
    · obtain ⟨z, M2⟩ := s
      obtain ⟨rfl, q1, q2, q3⟩ := hI
      unfold mo_layAll_b39
      exact Tc_t (by show (40 : Int) ≤ ((40 : Nat) : Int); omega) (Tc_inr ⟨q1, q2, q3⟩)
  obtain ⟨w2, e2, z1, z2, z3⟩ := l2
  refine ⟨w2.2, ?_, ⟨fun i hi => ?_, ?_, z2⟩, z1, fun q hq => ?_⟩
  · unfold mo_layAll
    rw [e1, Option.bind_some, w166, if_pos (by omega), toNat_c, Option.bind_some, e2]
    rfl
  · rw [z3 _ (by omega), rd_k (by omega)]; exact y2 i hi
  · rw [z3 _ (by omega), rd_same, y1 278 (by omega)]
  · rw [z3 q (by omega), rd_k (by omega)]; exact y3 q (by omega)
theorem takeCarrots_eq {a k : Nat} {M : MEM} (ha : a = 288 ∨ a = 304) (hk : k + 207 ≤ lenA a) : ∃ M', mo_takeCarrots a k M = some M' ∧ M' 278 7 = M a (k + 166) ∧ (∀ i, i < 40 → M' 282 i = M a (k + 167 + i)) ∧ (∀ c, c ≠ 278 → c ≠ 282 → M' c = M c) ∧ (∀ q, q ≠ 7 → M' 278 q = M 278 q) ∧ ∀ q, 40 ≤ q → M' 282 q = M 282 q := by
  have hlen : lenA a ≤ 2080 := by rcases ha with rfl | rfl <;> decide
  have w166 : wr ((k : Int) + 166) = ((k + 166 : Nat) : Int) := (wr_i (by omega) (by omega)).trans (by omega)
  have w167 : wr (((k + 166 : Nat) : Int) + 1) = ((k + 167 : Nat) : Int) := (wr_i (by omega) (by omega)).trans (by omega)
  have l2 : Tc (iter (fun s => mo_takeCarrots_b13 a k s.1 s.2) FU (0, up2 M 278 7 (M a (k + 166)))) (fun r => (∀ c, c ≠ 282 → r.2 c = up2 M 278 7 (M a (k + 166)) c) ∧ (∀ i, i < 40 → r.2 282 i = M a (k + 167 + i)) ∧ ∀ q, 40 ≤ q → r.2 282 q = M 282 q) := by
    refine Tc_n (fun i s => s.1 = (i : Int) ∧ (∀ c, c ≠ 282 → s.2 c = up2 M 278 7 (M a (k + 166)) c) ∧ (∀ j, j < i → s.2 282 j = M a (k + 167 + j)) ∧ ∀ q, 40 ≤ q → s.2 282 q = M 282 q) 40 ⟨rfl, fun c hc => rfl, fun j hj => by omega, fun q _ => by dsimp only; rw [up2_ne (by decide)]⟩ (by omega) (fun i s hi hI => ?_) (fun s hI => ?_)
    · obtain ⟨z, M2⟩ := s
      obtain ⟨rfl, q1, q2, q3⟩ := hI
      dsimp only at q1 q2 q3 ⊢
      have w : wr (((k + 167 : Nat) : Int) + (i : Int)) = ((k + 167 + i : Nat) : Int) := (wr_i (by omega) (by omega)).trans (by omega)
      unfold mo_takeCarrots_b13
      rw [w166, w167, w]
      simp only [toNat_c]
      refine Tc_f (by omega) (Tc_t (by omega) (Tc_t (by omega) (Tc_u (Tc_inl ⟨(wr_i (by omega) (by omega)).trans (by omega), fun c hc => ?_, fun j hj => ?_, fun q hq => ?_⟩))))
      · dsimp only; rw [up2_ne hc]; exact q1 c hc
      · dsimp only
        have ea : M2 a = M a := by rw [q1 a (by omega), up2_ne (by omega)]
        rw [ea]
        by_cases e : j = i
        · subst e; exact rd_same
        · rw [rd_k (by omega)]; exact q2 j (by omega)
      · dsimp only; rw [rd_k (by omega)]; exact q3 q hq
    · obtain ⟨z, M2⟩ := s
      obtain ⟨rfl, q1, q2, q3⟩ := hI
      unfold mo_takeCarrots_b13
      exact Tc_t (by show (40 : Int) ≤ ((40 : Nat) : Int); omega) (Tc_inr ⟨q1, q2, q3⟩)
  obtain ⟨w2, e2, z1, z2, z3⟩ := l2
  refine ⟨w2.2, ?_, ?_, z2, fun c c1 c2 => ?_, fun q hq => ?_, z3⟩
  · unfold mo_takeCarrots
    rw [w166, if_pos (by omega), toNat_c, Option.bind_some, e2]
    rfl
  · rw [z1 278 (by decide), rd_same]
  · rw [z1 c c2, up2_ne c1]
  · rw [z1 278 (by decide), rd_k hq]
