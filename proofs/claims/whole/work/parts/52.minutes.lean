-- ===== minutes =====
theorem allTh_eq {b : Nat} {M : MEM} {n : Int} (hn : M b 2 = n) (h0 : 0 ≤ n) (h1 : n ≤ 12) (hb : ∀ p : Nat, (p : Int) < n → 0 ≤ M (b + 1) p ∧ M (b + 1) p ≤ 9) : be_allThistles b M = some (leftN (M (b + 1)) n) := by
  obtain ⟨N, rfl⟩ : ∃ N : Nat, n = (N : Int) := ⟨n.toNat, by omega⟩
  have hl : Tc (iter (fun s => be_allThistles_b4 b s.1 s.2 M) FU (0, 0)) (fun r => r.1 = sumN (M (b + 1)) N) := by
    refine Tc_n (fun i s => s.1 = sumN (M (b + 1)) i ∧ s.2 = (i : Int)) N ⟨rfl, rfl⟩ (by omega) (fun i s hi hI => ?_) (fun s hI => ?_)
    · obtain ⟨x, z⟩ := s
      obtain ⟨rfl, rfl⟩ := hI
      dsimp only
      have b0 := sumN_bd (F := M (b + 1)) (a := 0) (b := 9) (n := i) (fun j hj => hb j (by omega))
      have b1 := hb i (by omega)
      have w : wr (sumN (M (b + 1)) i + M (b + 1) i) = sumN (M (b + 1)) (i + 1) := by rw [sumN_S]; exact wr_i (by omega) (by omega)
      have e : be_thistlesOn b (i : Int) M = some (M (b + 1) i) := by
        unfold be_thistlesOn
        rw [if_neg (by omega), if_neg (by omega), if_pos (by omega), toNat_c]
      unfold be_allThistles_b4
      refine Tc_f (by omega) (Tc_e e ?_)
      rw [w]
      exact Tc_inl ⟨rfl, (wr_i (by omega) (by omega)).trans (by omega)⟩
    · obtain ⟨x, z⟩ := s
      obtain ⟨rfl, rfl⟩ := hI
      unfold be_allThistles_b4
      exact Tc_t (by rw [hn]; exact Int.le_refl _) (Tc_inr rfl)
  obtain ⟨r, e, h⟩ := hl
  unfold be_allThistles leftN
  rw [e, Option.bind_some, h]
  rfl
/-- all thistles left -/
def allL (M : MEM) (N : Nat) : Int := sumN (fun d => leftN (M (10 + 3 * d + 1)) (M (10 + 3 * d) 2)) N
theorem leftN_bd {f : Nat → Int} {n : Int} (h0 : 0 ≤ n) (h1 : n ≤ 12) (hb : ∀ p : Nat, (p : Int) < n → 0 ≤ f p ∧ f p ≤ 9) : 0 ≤ leftN f n ∧ leftN f n ≤ 108 := by
  have b0 := sumN_bd (F := f) (a := 0) (b := 9) (n := n.toNat) (fun j hj => hb j (by omega))
  unfold leftN
  omega
theorem thistles_eq {M : MEM} (h0 : 0 ≤ M 3 2) (h1 : M 3 2 ≤ 3) (hb : ∀ d : Nat, (d : Int) < M 3 2 → okD (M (10 + 3 * d) 2) (dsC (10 + 3 * d) M)) : sc_allThistles 3 M = some (allL M (M 3 2).toNat) ∧ 0 ≤ allL M (M 3 2).toNat ∧ allL M (M 3 2).toNat ≤ 324 := by
  obtain ⟨N, hN⟩ : ∃ N : Nat, M 3 2 = (N : Int) := ⟨(M 3 2).toNat, by omega⟩
  have one : ∀ d : Nat, d < N → 0 ≤ leftN (M (10 + 3 * d + 1)) (M (10 + 3 * d) 2) ∧ leftN (M (10 + 3 * d + 1)) (M (10 + 3 * d) 2) ≤ 108 := fun d hd => by
    have q := hb d (by omega)
    exact leftN_bd (by have := q.1; omega) q.2.1 q.2.2.2.2.2.2.2.2
  have hl : Tc (iter (fun s => sc_allThistles_b4 3 s.1 s.2 M) FU (0, 0)) (fun r => r.1 = allL M N) := by
    refine Tc_n (fun i s => s.1 = allL M i ∧ s.2 = (i : Int)) N ⟨rfl, rfl⟩ (by omega) (fun i s hi hI => ?_) (fun s hI => ?_)
    · obtain ⟨x, z⟩ := s
      obtain ⟨rfl, rfl⟩ := hI
      dsimp only
      have b0 := sumN_bd (F := fun d => leftN (M (10 + 3 * d + 1)) (M (10 + 3 * d) 2)) (a := 0) (b := 108) (n := i) (fun j hj => one j (by omega))
      have b1 := one i hi
      have w : wr (allL M i + leftN (M (10 + 3 * i + 1)) (M (10 + 3 * i) 2)) = allL M (i + 1) := by unfold allL; rw [sumN_S]; exact wr_i (by omega) (by omega)
      have q := hb i (by omega)
      have e := allTh_eq (b := 10 + 3 * i) (M := M) rfl (by have := q.1; omega) q.2.1 q.2.2.2.2.2.2.2.2
      unfold sc_allThistles_b4
      rw [toNat_c, show 3 + 7 + 3 * i = 10 + 3 * i by omega]
      refine Tc_f (by omega) (Tc_f (by omega) (Tc_t (by omega) (Tc_e e ?_)))
      rw [w]
      exact Tc_inl ⟨rfl, (wr_i (by omega) (by omega)).trans (by omega)⟩
    · obtain ⟨x, z⟩ := s
      obtain ⟨rfl, rfl⟩ := hI
      unfold sc_allThistles_b4
      exact Tc_t (by rw [hN]; exact Int.le_refl _) (Tc_inr rfl)
  obtain ⟨r, e, h⟩ := hl
  have b0 := sumN_bd (F := fun d => leftN (M (10 + 3 * d + 1)) (M (10 + 3 * d) 2)) (a := 0) (b := 108) (n := N) (fun j hj => one j (by omega))
  refine ⟨?_, ?_, ?_⟩
  · unfold sc_allThistles
    rw [e, Option.bind_some, h, hN]
    rfl
  · rw [hN]; show 0 ≤ sumN _ N; omega
  · rw [hN]; show sumN _ N ≤ 324; omega
theorem bitCount_eq {A : Nat → Bool} {n : Nat} (h : n ≤ 3) : ji_bitCount (bitsI A n) = sumN (fun d => if A d = true then 1 else 0) n := by
  have h3 : n = 0 ∨ n = 1 ∨ n = 2 ∨ n = 3 := by omega
  have v : ∀ x : Int, (x = 0 ∨ x = 1 ∨ x = 2 ∨ x = 3 ∨ x = 4 ∨ x = 5 ∨ x = 6 ∨ x = 7) → ji_bitCount x = (if x = 0 then 0 else if x = 1 ∨ x = 2 ∨ x = 4 then 1 else if x = 7 then 3 else 2) := fun x hx => by
    unfold ji_bitCount
    simp only [ish_def, wr_def]
    rcases hx with rfl | rfl | rfl | rfl | rfl | rfl | rfl | rfl <;> decide
  rcases h3 with rfl | rfl | rfl | rfl
  · simp only [bitsI, sumN]; rw [v 0 (by decide)]; decide
  · simp only [bitsI, sumN, w2]
    cases A 0 <;> (rw [v _ (by decide)]; decide)
  · simp only [bitsI, sumN, w2]
    cases A 0 <;> cases A 1 <;> (rw [v _ (by decide)]; decide)
  · simp only [bitsI, sumN, w2]
    cases A 0 <;> cases A 1 <;> cases A 2 <;> (rw [v _ (by decide)]; decide)
theorem lock.cgN {B : Int} {M N N' : MEM} (h : lock B M N) (c : ∀ a, a ≠ 290 → N' a = N a) : lock B M N' := by
  obtain ⟨l1, l2, l3, l4, l5, l6⟩ := h
  have g : offG 279 N N' ∨ True := Or.inr trivial
  have c290 : ∀ a k, rg a k ≠ 0 → N' a k = N a k := fun a k hr => by rw [c a (fun e => by subst e; exact hr rfl)]
  have hs : ∀ a k, rg a k ≠ 0 → mrg M N' a k = mrg M N a k := fun a k hr => by
    by_cases e : a ≤ 277
    · rw [mrg_lo e, mrg_lo e]
    · rw [mrg_hi (by omega), mrg_hi (by omega)]; exact c290 a k hr
  refine ⟨l1, l2.cg (fun a k hr => c290 a k (by rw [hr]; decide)), ?_, ?_, l5.cg l6.2.2.1 (fun a k hr => hs a k (by rcases hr with e | e <;> rw [e] <;> decide)), l6.cg (fun a k hr => hs a k (by rw [hr]; decide))⟩
  · unfold emOk howOkM at *
    rw [c 282 (by decide), c 278 (by decide)]
    exact l3
  · rw [l4]
    unfold envM flM hrM hrF
    rw [c 21 (by decide), c 22 (by decide), c 281 (by decide), c 282 (by decide), c 278 (by decide)]
noncomputable def passN (M : MEM) : Nat → MEM
  | 0 => M
  | j + 1 => match dh_pass (passN M j) with
    | some p => p.2
    | none => passN M j
theorem passN_S {M M' : MEM} {j : Nat} {x : Int} (h : dh_pass (passN M j) = some (x, M')) : passN M (j + 1) = M' := by
  show (match dh_pass (passN M j) with | some p => p.2 | none => passN M j) = M'
  rw [h]
theorem lock.seq {B : Int} {M N : MEM} {x : Nat} (h : lock B M N) (hB : B + x ≤ 200000000) : ∀ j : Nat, j ≤ x → (∃ Nj, lock (B + j) (passN M j) Nj) ∧ offW M (passN M j) ∧ (∃ b, dh_pass (passN M j) = some (b, passN M (j + 1))) := by
  intro j
  induction j with
  | zero =>
    intro _
    obtain ⟨M', N', A, S, K, p1, p2, p3, p4, -⟩ := h.step (by omega)
    refine ⟨⟨N, by rw [show (B + ((0 : Nat) : Int)) = B by omega]; exact h⟩, offW.rf, ?_⟩
    rw [passN_S (M := M) (j := 0) p1]
    exact ⟨_, p1⟩
  | succ j ih =>
    intro hj
    obtain ⟨⟨Nj, hl⟩, ho, ⟨b, hb⟩⟩ := ih (by omega)
    obtain ⟨M', N', A, S, K, p1, p2, p3, p4, -⟩ := hl.step (by omega)
    have e := passN_S p1
    rw [← e] at p3 p4
    have p3' : lock (B + ((j + 1 : Nat) : Int)) (passN M (j + 1)) N' := by rw [show B + ((j + 1 : Nat) : Int) = B + j + 1 by omega]; exact p3
    obtain ⟨M2, N2, A2, S2, K2, r1, -⟩ := p3'.step (by omega)
    refine ⟨⟨N', p3'⟩, ho.tr p4, ?_⟩
    rw [passN_S r1]
    exact ⟨_, r1⟩
theorem passMany_eq {B : Int} {M N : MEM} {x : Nat} (h : lock B M N) (hB : B + x ≤ 200000000) (hx : x < 1000000) : dh_passMany (x : Int) M = some (passN M x) := by
  have hl : Tc (iter (fun s => dh_passMany_b2 (x : Int) s.1 s.2) FU (0, M)) (fun r => r.2 = passN M x) := by
    refine Tc_n (fun i s => s.1 = (i : Int) ∧ s.2 = passN M i) x ⟨rfl, rfl⟩ hx (fun i s hi hI => ?_) (fun s hI => ?_)
    · obtain ⟨z, M1⟩ := s
      obtain ⟨rfl, rfl⟩ := hI
      obtain ⟨-, -, ⟨b, hb⟩⟩ := h.seq hB i (by omega)
      unfold dh_passMany_b2
      exact Tc_f (by omega) (Tc_e hb (Tc_inl ⟨(wr_i (by omega) (by omega)).trans (by omega), rfl⟩))
    · obtain ⟨z, M1⟩ := s
      obtain ⟨rfl, rfl⟩ := hI
      unfold dh_passMany_b2
      exact Tc_t (Int.le_refl _) (Tc_inr rfl)
  obtain ⟨r, e, h⟩ := hl
  unfold dh_passMany
  rw [e, Option.bind_some, h]
/-- how many STROKES since -/
noncomputable def dif (M : MEM) (j d : Nat) : Int := passN M j (10 + 3 * d) 5 - M (10 + 3 * d) 5
theorem dif_S {M M' : MEM} {K : Nat → Int} {j : Nat} (e : passN M (j + 1) = M') {d : Nat} (h : M' (10 + 3 * d) 5 = passN M j (10 + 3 * d) 5 + K d) : dif M (j + 1) d = dif M j d + K d := by
  unfold dif
  rw [e, h]; omega
def offO (N N' : MEM) : Prop := (∀ c, c ≠ 279 → c ≠ 278 → c ≠ 287 → c ≠ 290 → N' c = N c) ∧ ∀ k, (k < 14 ∨ 28 < k ∨ (19 ≤ k ∧ k ≤ 21)) → N' 278 k = N 278 k
theorem offO.rf {M : MEM} : offO M M := ⟨fun _ _ _ _ _ => rfl, fun _ _ => rfl⟩
theorem offO.tr {M M1 M2 : MEM} (h : offO M M1) (g : offO M1 M2) : offO M M2 := ⟨fun c a b d e => (g.1 c a b d e).trans (h.1 c a b d e), fun k a => (g.2 k a).trans (h.2 k a)⟩
theorem offG.O {M M' : MEM} (h : offG 279 M M') : offO M M' := ⟨fun c a b d _ => h.1 c a b d, fun k a => h.2 k a⟩
theorem off290 {M M' : MEM} (h : ∀ c, c ≠ 290 → M' c = M c) : offO M M' := ⟨fun c _ _ _ d => h c d, fun k _ => by rw [h 278 (by decide)]⟩
theorem offO.chg {M M' : MEM} (h : offO M M') : chg [0, 4] M M' := fun a k n => by
  by_cases e1 : a = 279
  · subst e1; exact absurd (by rw [rg_279]; decide) n
  · by_cases e2 : a = 278
    · subst e2
      by_cases z : (14 ≤ k ∧ k ≤ 28 ∧ k ≠ 21) ∨ k = 38
      · exact absurd (by rw [rg278 z]; decide) n
      · exact h.2 k (by omega)
    · by_cases e3 : a = 287
      · subst e3; exact absurd (by decide : (0 : Nat) ∈ [0, 4]) n
      · by_cases e4 : a = 290
        · subst e4; exact absurd (by decide : (0 : Nat) ∈ [0, 4]) n
        · rw [h.1 a e1 e2 e3 e4]
theorem sums_eq {N : MEM} {n : Nat} {x1 x2 x3 x4 : Int} (hn : N 278 1 = (n : Int)) (h3 : n ≤ 3) (hb : ∀ d, d < n → 0 ≤ N 290 d ∧ N 290 d ≤ 1000000 ∧ 0 ≤ N 287 d ∧ N 287 d ≤ 1) :
    ∃ N' z, iter (fun s => mo_minutes_b95 x1 x2 x3 x4 s.1 s.2) FU (0, N) = some (z, N') ∧ (∀ c, c ≠ 290 → N' c = N c) ∧ ∀ d, d < n → N' 290 d = N 290 d + N 287 d := by
  have hl : Tc (iter (fun s => mo_minutes_b95 x1 x2 x3 x4 s.1 s.2) FU (0, N)) (fun r => (∀ c, c ≠ 290 → r.2 c = N c) ∧ ∀ d, d < n → r.2 290 d = N 290 d + N 287 d) := by
    refine Tc_n (fun i s => s.1 = (i : Int) ∧ (∀ c, c ≠ 290 → s.2 c = N c) ∧ (∀ d, d < i → s.2 290 d = N 290 d + N 287 d) ∧ ∀ d, i ≤ d → s.2 290 d = N 290 d) n ⟨rfl, fun _ _ => rfl, fun d hd => by omega, fun _ _ => rfl⟩ (by omega) (fun i s hi hI => ?_) (fun s hI => ?_)
    · obtain ⟨z, M1⟩ := s
      obtain ⟨rfl, q1, q2, q3⟩ := hI
      dsimp only at q1 q2 q3 ⊢
      have e1 : M1 278 1 = (n : Int) := by rw [q1 278 (by decide)]; exact hn
      have e7 : M1 287 i = N 287 i := by rw [q1 287 (by decide)]
      obtain ⟨b1, b2, b3, b4⟩ := hb i hi
      have w : wr (M1 290 i + M1 287 i) = N 290 i + N 287 i := by rw [q3 i (by omega), e7]; exact wr_i (by omega) (by omega)
      unfold mo_minutes_b95
      rw [toNat_c, w]
      refine Tc_f (by omega) (Tc_t (by omega) (Tc_t (by omega) (Tc_t (by omega) (Tc_u (Tc_inl ⟨(wr_i (by omega) (by omega)).trans (by omega), fun c hc => ?_, fun d hd => ?_, fun d hd => ?_⟩)))))
      · dsimp only; rw [up2_ne hc]; exact q1 c hc
      · dsimp only
        by_cases e : d = i
        · subst e; exact rd_same
        · rw [rd_k e]; exact q2 d (by omega)
      · dsimp only; rw [rd_k (by omega)]; exact q3 d (by omega)
    · obtain ⟨z, M1⟩ := s
      obtain ⟨rfl, q1, q2, q3⟩ := hI
      dsimp only at q1 q2
      unfold mo_minutes_b95
      exact Tc_t (by show M1 278 1 ≤ (n : Int); rw [q1 278 (by decide), hn]; exact Int.le_refl _) (Tc_inr ⟨q1, q2⟩)
  obtain ⟨r, e, q1, q2⟩ := hl
  exact ⟨r.2, r.1, e, q1, q2⟩
/-- the reference's MINUTES: behind j of them -/
def minsAt (B : Int) (M N0 : MEM) (n : Nat) (j : Nat) (x2 x3 : Int) (N : MEM) : Prop := lock (B + j) (passN M j) N ∧ offO N0 N ∧ x2 = sumN (dif M j) n ∧ x3 = allL M n - allL (passN M j) n ∧ ∀ d, d < n → N 290 d = dif M j d ∧ 0 ≤ dif M j d ∧ dif M j d ≤ j
theorem mins_step {B : Int} {M N0 N : MEM} {n j : Nat} {x x2 x3 : Int} (hn : M 3 2 = (n : Int)) (h3 : n ≤ 3) (hB : B + j ≤ 199000000) (hj : j < 600) (hx : (j : Int) < x) (ho : offW M (passN M j)) (hT : 0 ≤ allL M n ∧ allL M n ≤ 324) (h : minsAt B M N0 n j x2 x3 N) :
    ∃ x2' x3' N', mo_minutes_b61 x x2 x3 j N = some (.inl (x2', x3', ((j + 1 : Nat) : Int), N')) ∧ minsAt B M N0 n (j + 1) x2' x3' N' := by
  obtain ⟨h1, h2, rfl, rfl, h5⟩ := h
  have hnj : passN M j 3 2 = (n : Int) := by rw [ho.2.2.1 2 (by decide)]; exact hn
  have hpl : ∀ d, d < n → passN M j (10 + 3 * d) 2 = M (10 + 3 * d) 2 := fun d hd => ho.2.2.2 d 2 (by omega) (by decide) (by decide) (by decide)
  obtain ⟨M', N', A, S, K, p1, p2, p3, p4, p5, p6, p7, p8, p9, p10⟩ := h1.step (by omega)
  rw [hnj, show ((n : Nat) : Int).toNat = n from Int.toNat_natCast n] at p6 p8
  have ep := passN_S p1
  rw [← ep] at p3 p4 p9 p10
  have e278 : N' 278 1 = (n : Int) := by
    obtain ⟨l1, l2, l3, l4, l5, l6⟩ := p3
    have := l6.1
    rw [mrg_hi (by decide), mrg_lo (by decide)] at this
    rw [this, p4.2.2.1 2 (by decide)]; exact hnj
  have e290 : ∀ d, N' 290 d = N 290 d := fun d => by rw [p5.1 290 (by decide) (by decide) (by decide)]
  have hd' : ∀ d, d < n → dif M (j + 1) d = dif M j d + K d := fun d hd => dif_S rfl (p10 d (by omega)).2.1
  obtain ⟨N2, z, e2, q1, q2⟩ := sums_eq (N := N') (n := n) (x1 := x) (x2 := wr (sumN (dif M j) n + N' 278 24)) (x3 := wr (allL M n - allL (passN M j) n + ji_bitCount (N' 278 26))) (x4 := (j : Int)) e278 h3 (fun d hd => by
    obtain ⟨a1, a2, a3⟩ := h5 d hd
    obtain ⟨b1, b2, b3, b4, b5⟩ := p10 d (by omega)
    rw [e290, b1, a1]
    omega)
  have s1 := sumN_bd (F := dif M j) (a := 0) (b := (j : Int)) (n := n) (fun d hd => ⟨(h5 d hd).2.1, (h5 d hd).2.2⟩)
  have s2 := sumN_bd (F := K) (a := 0) (b := 1) (n := n) (fun d hd => by have := p10 d (by omega); omega)
  have s2' : (j : Int) * (n : Int) ≤ (j : Int) * 3 := Int.mul_le_mul_of_nonneg_left (by omega) (by omega)
  have eAll : allL (passN M j) n = allL (passN M (j + 1)) n + sumN (fun d => if A d = true then 1 else 0) n := by
    unfold allL
    refine sumN_add (fun d hd => ?_)
    obtain ⟨b1, b2, b3, b4, b5⟩ := p10 d (by omega)
    have e : passN M (j + 1) (10 + 3 * d) 2 = passN M j (10 + 3 * d) 2 := p4.2.2.2 d 2 (by omega) (by decide) (by decide) (by decide)
    rw [e, b5]; omega
  have tj := (thistles_eq (M := passN M j) (by omega) (by omega) (fun d hd => ((h1.pass (by omega)).1.2.2.2.2.2 d hd).1)).2
  have tj1 := (thistles_eq (M := passN M (j + 1)) (by rw [p4.2.2.1 2 (by decide)]; omega) (by rw [p4.2.2.1 2 (by decide)]; omega) (fun d hd => ((p3.pass (by omega)).1.2.2.2.2.2 d hd).1)).2
  rw [hnj, show ((n : Nat) : Int).toNat = n from Int.toNat_natCast n] at tj
  rw [p4.2.2.1 2 (by decide), hnj, show ((n : Nat) : Int).toNat = n from Int.toNat_natCast n] at tj1
  have w2 : wr (sumN (dif M j) n + N' 278 24) = sumN (dif M (j + 1)) n := by
    rw [p8, sumN_add (F := dif M j) (K := K) hd']
    exact wr_i (by omega) (by omega)
  have w3 : wr (allL M n - allL (passN M j) n + ji_bitCount (N' 278 26)) = allL M n - allL (passN M (j + 1)) n := by
    rw [p6, bitCount_eq h3]
    rw [wr_i (by omega) (by omega)]
    omega
  refine ⟨_, _, N2, ?_, ?_, ?_, rfl, rfl, fun d hd => ?_⟩
  · unfold mo_minutes_b61
    rw [if_neg (by omega), p2, Option.bind_some, e2, Option.bind_some, w2, w3, wr_i (x := (j : Int) + 1) (by omega) (by omega)]
    rfl
  · rw [show B + ((j + 1 : Nat) : Int) = B + j + 1 by omega]
    exact p3.cgN q1
  · exact (h2.tr p5.O).tr (off290 q1)
  · obtain ⟨a1, a2, a3⟩ := h5 d hd
    obtain ⟨b1, b2, b3, b4, b5⟩ := p10 d (by omega)
    rw [q2 d hd, e290, b1, a1, hd' d hd]
    exact ⟨rfl, by omega, by omega⟩
