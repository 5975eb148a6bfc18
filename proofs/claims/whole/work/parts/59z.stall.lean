-- ===== stable: THE STABLE is changed =====
theorem readLinesM2 {z : Nat → Int} {L n0 N : Nat} {M0 : MEM} (h : rdM z L 0 M0) (hz : ∀ i, L ≤ i → z i = -1) (h0 : M0 278 1 = (n0 : Int)) (h03 : n0 ≤ 3) (hN : N ≤ 3 - n0) (h1 : ∀ i, i < N → lS z i) (h2 : N = 3 - n0 ∨ ¬ lS z N) :
    ∃ w M', iter (fun s => mo_stable_b37 s.1 s.2.1 s.2.2) FU (0, 1, M0) = some w ∧ mo_stable_j90 w.1 w.2.2 = mo_stable_j109 ((N + 1 : Nat) : Int) M' ∧ frD M0 M' ∧ ((lGood z L (3 - n0) N ∧ M' 278 18 = -1 ∧ stN z (N + 1) M') ∨ (¬ lGood z L (3 - n0) N ∧ fltM (lF z (3 - n0) N) M')) := by
  obtain ⟨⟨x1, x2, M⟩, es, s1, s2, s3⟩ := readLinesM h hz h0 h03 hN h1 h2
  dsimp only at s1 s2 s3
  subst s1
  rcases s3 with ⟨hf, ng⟩ | ⟨x, hr0, hx, hr, hd⟩
  · refine ⟨_, M, es, ?_, s2, Or.inr ⟨ng, hf⟩⟩
    unfold mo_stable_j90
    dsimp only
    by_cases y : M 278 15 ≤ M 278 17
    · rw [if_pos y]
    · rw [if_neg y, hf.fault]; rfl
  · have l := hr.2.2.2.2.1.1
    by_cases e : x.1 = L
    · refine ⟨_, M, es, ?_, s2, Or.inl ⟨⟨hr0, x, hx, e⟩, hr.2.2.2.1, hd⟩⟩
      unfold mo_stable_j90
      dsimp only
      rw [if_pos (by rw [hr.2.1, hr.2.2.1]; omega)]
    · obtain ⟨M', e', f', o', -⟩ := hr.fault
      refine ⟨_, M', es, ?_, s2.on (q := 0) o'.onD, Or.inr ⟨?_, by rw [lF_inr hr0 hx]; exact f'⟩⟩
      · unfold mo_stable_j90
        dsimp only
        rw [if_neg (by rw [hr.2.1, hr.2.2.1]; omega), e']
        rfl
      · rintro ⟨-, x', hx', y⟩
        rw [hx] at hx'
        injection hx' with hx'
        rw [← hx'] at y
        exact e y
theorem zero55 {d : Nat} (hd : d < 3) {x1 x3 x4 : Int} (h4 : x4 = ((55 * d : Nat) : Int)) (M : MEM) : ∃ w M', iter (fun s => mo_stable_b142 x1 x3 x4 s.1 s.2) FU (0, M) = some (w, M') ∧ (∀ c, c ≠ 279 → M' c = M c) ∧ (∀ q, ¬ (55 * d ≤ q ∧ q < 55 * d + 55) → M' 279 q = M 279 q) ∧ ∀ j, j < 55 → M' 279 (55 * d + j) = 0 := by
  have hl : Tc (iter (fun s => mo_stable_b142 x1 x3 x4 s.1 s.2) FU (0, M)) (fun r => (∀ c, c ≠ 279 → r.2 c = M c) ∧ (∀ q, ¬ (55 * d ≤ q ∧ q < 55 * d + 55) → r.2 279 q = M 279 q) ∧ ∀ j, j < 55 → r.2 279 (55 * d + j) = 0) := by
    refine Tc_n (fun i s => s.1 = (i : Int) ∧ (∀ c, c ≠ 279 → s.2 c = M c) ∧ (∀ q, ¬ (55 * d ≤ q ∧ q < 55 * d + 55) → s.2 279 q = M 279 q) ∧ ∀ j, j < i → s.2 279 (55 * d + j) = 0) 55 ⟨rfl, fun _ _ => rfl, fun _ _ => rfl, fun j hj => absurd hj (Nat.not_lt_zero j)⟩ (by omega) ?_ ?_
    · rintro i ⟨x5, N⟩ hi ⟨rfl, q1, q2, q3⟩
      dsimp only at q1 q2 q3
      unfold mo_stable_b142
      dsimp only
      refine Tc_f (by omega) ?_
      rw [wr_i (x := x4 + (i : Int)) (by omega) (by omega), wr_i (x := (i : Int) + 1) (by omega) (by omega), show (x4 + (i : Int)).toNat = 55 * d + i by omega]
      refine Tc_t (by omega) (Tc_u (Tc_inl ⟨by dsimp only; omega, fun c hc => by dsimp only; rw [up2_ne hc]; exact q1 c hc, fun q hq => by dsimp only; rw [rd_k (by omega)]; exact q2 q hq, fun j hj => ?_⟩))
      dsimp only
      by_cases e : j = i
      · subst e; exact rd_same
      · rw [rd_k (by omega)]; exact q3 j (by omega)
    · rintro ⟨x5, N⟩ ⟨rfl, q1, q2, q3⟩
      unfold mo_stable_b142
      exact Tc_t (by dsimp only; omega) (Tc_inr ⟨q1, q2, q3⟩)
  obtain ⟨⟨w, M'⟩, e, q⟩ := hl
  exact ⟨w, M', e, q⟩
theorem fill12 {d i k : Nat} (hd : d < 3) (hi : i < 3) (hk : k ≤ 12) {x1 x3 x4 : Int} (h3 : x3 = (i : Int)) (h4 : x4 = ((55 * d : Nat) : Int)) {M : MEM} (m1 : M 278 1 = (d : Int)) (m2 : M 280 d = (k : Int)) : ∃ w M', iter (fun s => mo_stable_b205 x1 x3 x4 s.1 s.2) FU (0, M) = some (w, M') ∧ (∀ c, c ≠ 279 → M' c = M c) ∧ (∀ q, ¬ (55 * d + 3 ≤ q ∧ q < 55 * d + 3 + k) → M' 279 q = M 279 q) ∧ ∀ j, j < k → M' 279 (55 * d + 3 + j) = M 285 (14 * i + 2 + j) := by
  have hl : Tc (iter (fun s => mo_stable_b205 x1 x3 x4 s.1 s.2) FU (0, M)) (fun r => (∀ c, c ≠ 279 → r.2 c = M c) ∧ (∀ q, ¬ (55 * d + 3 ≤ q ∧ q < 55 * d + 3 + k) → r.2 279 q = M 279 q) ∧ ∀ j, j < k → r.2 279 (55 * d + 3 + j) = M 285 (14 * i + 2 + j)) := by
    refine Tc_n (fun c s => s.1 = (c : Int) ∧ (∀ c, c ≠ 279 → s.2 c = M c) ∧ (∀ q, ¬ (55 * d + 3 ≤ q ∧ q < 55 * d + 3 + k) → s.2 279 q = M 279 q) ∧ ∀ j, j < c → s.2 279 (55 * d + 3 + j) = M 285 (14 * i + 2 + j)) k ⟨rfl, fun _ _ => rfl, fun _ _ => rfl, fun j hj => absurd hj (Nat.not_lt_zero j)⟩ (by omega) ?_ ?_
    · rintro c ⟨x5, N⟩ hc ⟨rfl, q1, q2, q3⟩
      dsimp only at q1 q2 q3
      unfold mo_stable_b205
      dsimp only
      have e1 : N 278 1 = (d : Int) := by rw [q1 278 (by decide)]; exact m1
      have e2 : N 280 (N 278 1).toNat = (k : Int) := by rw [e1, toNat_c, q1 280 (by decide)]; exact m2
      have ea : wr (wr (wr (14 * x3) + 2) + (c : Int)) = ((14 * i + 2 + c : Nat) : Int) := by
        rw [h3, wr_i (x := 14 * (i : Int)) (by omega) (by omega), wr_i (x := 14 * (i : Int) + 2) (by omega) (by omega)]
        exact (wr_i (by omega) (by omega)).trans (by omega)
      have eb : wr (wr (x4 + 3) + (c : Int)) = ((55 * d + 3 + c : Nat) : Int) := by
        rw [wr_i (x := x4 + 3) (by omega) (by omega)]
        exact (wr_i (by omega) (by omega)).trans (by omega)
      refine Tc_t (by rw [e1]; omega) (Tc_f (by rw [e2]; omega) (Tc_t (by rw [ea]; omega) (Tc_t (by rw [eb]; omega) (Tc_u (Tc_inl ?_)))))
      rw [ea, eb, toNat_c, toNat_c, q1 285 (by decide)]
      refine ⟨by dsimp only; exact (wr_i (by omega) (by omega)).trans (by omega), fun a ha => by dsimp only; rw [up2_ne ha]; exact q1 a ha, fun q hq => by dsimp only; rw [rd_k (by omega)]; exact q2 q hq, fun j hj => ?_⟩
      dsimp only
      by_cases e : j = c
      · subst e; exact rd_same
      · rw [rd_k (by omega)]; exact q3 j (by omega)
    · rintro ⟨x5, N⟩ ⟨rfl, q1, q2, q3⟩
      dsimp only at q1
      have e1 : N 278 1 = (d : Int) := by rw [q1 278 (by decide)]; exact m1
      have e2 : N 280 (N 278 1).toNat = (k : Int) := by rw [e1, toNat_c, q1 280 (by decide)]; exact m2
      unfold mo_stable_b205
      dsimp only
      exact Tc_t (by rw [e1]; omega) (Tc_t (by rw [e2]; omega) (Tc_inr ⟨q1, q2, q3⟩))
  obtain ⟨⟨w, M'⟩, e, q⟩ := hl
  exact ⟨w, M', e, q⟩
/-- a new row of the reference -/
def rowZ (z : Nat → Int) (d : Nat) (h : Int) (k p : Nat) (N : MEM) : Prop := N 280 d = (k : Int) ∧ N 279 (55 * d) = h ∧ N 279 (55 * d + 1) = 0 ∧ N 279 (55 * d + 2) = 0 ∧ (∀ j, j < k → N 279 (55 * d + 3 + j) = z (p + 2 + j) - 48) ∧ ∀ j, k ≤ j → j < 12 → N 279 (55 * d + 3 + j) = 0
def addI (z : Nat → Int) (n0 : Nat) (M0 : MEM) (i : Nat) (M : MEM) : Prop := M 278 1 = ((n0 + i : Nat) : Int) ∧ (∀ c, c ≠ 278 → c ≠ 279 → c ≠ 280 → M c = M0 c) ∧ (∀ k, k ≠ 1 → M 278 k = M0 278 k) ∧ (∀ q, q < 55 * n0 ∨ 165 ≤ q → M 279 q = M0 279 q) ∧ (∀ d, d < n0 → M 280 d = M0 280 d) ∧
  ∀ j, j < i → ∀ e h k, rline z (lP z j) = .inr (e, h, k) → rowZ z (n0 + j) h k (lP z j) M
theorem addM {z : Nat → Int} {n0 m : Nat} {M0 : MEM} (h0 : M0 278 1 = (n0 : Int)) (hm : n0 + m ≤ 3) (hw : ∀ j, j < m → ∃ e h k, rline z (lP z j) = .inr (e, h, k)) (st : stN z m M0) :
    Tc (iter (fun s => mo_stable_b125 (m : Int) s.1 s.2) FU (0, M0)) (fun r => addI z n0 M0 m r.2) := by
  refine Tc_n (fun i s => s.1 = (i : Int) ∧ addI z n0 M0 i s.2) m ⟨rfl, h0, fun _ _ _ _ => rfl, fun _ _ => rfl, fun _ _ => rfl, fun _ _ => rfl, fun j hj => absurd hj (Nat.not_lt_zero j)⟩ (by omega) ?_ ?_
  · rintro i ⟨x3, M⟩ hi ⟨rfl, a1, a2, a3, a4, a5, a6⟩
    dsimp only at a1 a2 a3 a4 a5 a6
    obtain ⟨e, h, k, hx⟩ := hw i hi
    obtain ⟨s1, s2, s3⟩ := st i hi e h k hx
    obtain ⟨w1, w2, w3, w4, w5, w6⟩ := rline_wf hx
    have e55 : wr (55 * M 278 1) = ((55 * (n0 + i) : Nat) : Int) := by rw [a1]; exact (wr_i (by omega) (by omega)).trans (by omega)
    have e285 : M 285 = M0 285 := a2 285 (by decide) (by decide) (by decide)
    obtain ⟨w, M1, f1, g1, g2, g3⟩ := zero55 (d := n0 + i) (x1 := (m : Int)) (x3 := (i : Int)) (by omega) e55 M
    unfold mo_stable_b125
    dsimp only
    refine Tc_f (by omega) (Tc_e f1 ?_)
    dsimp only
    rw [wr_i (x := 14 * (i : Int)) (by omega) (by omega), wr_i (x := 14 * (i : Int) + 1) (by omega) (by omega), show (14 * (i : Int)).toNat = 14 * i by omega, show (14 * (i : Int) + 1).toNat = 14 * i + 1 by omega]
    refine Tc_t (by omega) (Tc_t (by rw [e55]; omega) (Tc_u (Tc_t (by omega) ?_)))
    rw [e55, toNat_c, g1 285 (by decide), e285, s1]
    have h278 : up2 M1 279 (55 * (n0 + i)) h 278 1 = ((n0 + i : Nat) : Int) := by rw [rd_a (by decide), g1 278 (by decide)]; exact a1
    have h285 : up2 M1 279 (55 * (n0 + i)) h 285 (14 * i + 1) = (k : Int) := by rw [rd_a (by decide), g1 285 (by decide), e285]; exact s2
    rw [h278, h285, toNat_c]
    refine Tc_t (by omega) (Tc_u ?_)
    obtain ⟨w', M2, f2, k1, k2, k3⟩ := fill12 (d := n0 + i) (i := i) (k := k) (x1 := (m : Int)) (x3 := (i : Int)) (x4 := ((55 * (n0 + i) : Nat) : Int)) (by omega) (by omega) (by omega) rfl rfl (M := up2 (up2 M1 279 (55 * (n0 + i)) h) 280 (n0 + i) (k : Int)) (by rw [rd_a (by decide)]; exact h278) rd_same
    refine Tc_e f2 (Tc_u (Tc_inl ⟨?_, ?_⟩))
    · dsimp only; exact (wr_i (by omega) (by omega)).trans (by omega)
    dsimp only
    have b278 : M2 278 1 = ((n0 + i : Nat) : Int) := by rw [k1 278 (by decide), rd_a (by decide)]; exact h278
    rw [b278, wr_i (x := ((n0 + i : Nat) : Int) + 1) (by omega) (by omega)]
    have oth : ∀ q, ¬ (55 * (n0 + i) ≤ q ∧ q < 55 * (n0 + i) + 55) → M2 279 q = M 279 q := fun q hq => by
      rw [k2 q (by omega), rd_a (by decide), rd_k (by omega), g2 q hq]
    have o280 : ∀ d, d ≠ n0 + i → M2 280 d = M 280 d := fun d hd => by rw [k1 280 (by decide), rd_k hd, rd_a (by decide), g1 280 (by decide)]
    refine ⟨?_, fun c x y v => ?_, fun q hq => ?_, fun q hq => ?_, fun d hd => ?_, fun j hj e' h' k' r => ?_⟩
    · rw [rd_same]; omega
    · rw [up2_ne x, k1 c y, up2_ne v, up2_ne y, g1 c y]; exact a2 c x y v
    · rw [rd_k hq, k1 278 (by decide), up2_ne (by decide), up2_ne (by decide), g1 278 (by decide)]; exact a3 q hq
    · rw [rd_a (by decide), oth q (by omega)]; exact a4 q hq
    · rw [rd_a (by decide), o280 d (by omega)]; exact a5 d hd
    · unfold rowZ
      rw [up2_ne (M := M2) (a := 278) (a' := 280) (by decide), up2_ne (M := M2) (a := 278) (a' := 279) (by decide)]
      by_cases ej : j = i
      · subst ej
        rw [hx] at r
        injection r with r
        injection r with r1 r2; injection r2 with r2 r3
        subst r1 r2 r3
        refine ⟨?_, ?_, ?_, ?_, fun q hq => ?_, fun q hq hq2 => ?_⟩
        · rw [k1 280 (by decide)]; exact rd_same
        · rw [k2 _ (by omega), rd_a (by decide)]; exact rd_same
        · rw [k2 _ (by omega), rd_a (by decide), rd_k (by omega)]; exact g3 1 (by omega)
        · rw [k2 _ (by omega), rd_a (by decide), rd_k (by omega)]; exact g3 2 (by omega)
        · rw [k3 q hq, rd_a (by decide), rd_a (by decide), g1 285 (by decide), e285]; exact s3 q hq
        · rw [k2 _ (by omega), rd_a (by decide), rd_k (by omega)]
          have := g3 (3 + q) (by omega)
          rw [← Nat.add_assoc] at this
          exact this
      · obtain ⟨r1, r2, r3, r4, r5, r6⟩ := a6 j (by omega) e' h' k' r
        have w' := (rline_wf r).2.1
        refine ⟨?_, ?_, ?_, ?_, fun q hq => ?_, fun q hq hq2 => ?_⟩
        · rw [o280 _ (by omega)]; exact r1
        · rw [oth _ (by omega)]; exact r2
        · rw [oth _ (by omega)]; exact r3
        · rw [oth _ (by omega)]; exact r4
        · rw [oth _ (by omega)]; exact r5 q hq
        · rw [oth _ (by omega)]; exact r6 q hq hq2
  · rintro ⟨x3, M⟩ ⟨rfl, a⟩
    unfold mo_stable_b125
    exact Tc_t (by dsimp only; omega) (Tc_inr a)
