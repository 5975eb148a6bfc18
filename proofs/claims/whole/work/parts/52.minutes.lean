-- ===== minutes =====
theorem allTh_eq {b : Nat} {M : MEM} {n : Int} (hn : M b 2 = n) (h0 : 0 ≤ n) (h1 : n ≤ 12) (hb : ∀ p : Nat, (p : Int) < n → 0 ≤ M (b + 1) p ∧ M (b + 1) p ≤ 9) : be_allThistles b M = some (leftN (M (b + 1)) n) := by
  obtain ⟨N, rfl⟩ : ∃ N : Nat, n = (N : Int) := ⟨n.toNat, by omega⟩
  have hl : Tc (iter (fun s => be_allThistles_b4 b s.1 s.2 M) FU (0, 0)) (fun r => r.1 = sumN (M (b + 1)) N) := by
    refine Tc_n (fun i s => s.1 = sumN (M (b + 1)) i ∧ s.2 = (i : Int)) N ⟨rfl, rfl⟩ (by omega) (fun i s hi hI => ?_) (fun s hI => ?_)
    · obtain ⟨x, z⟩ := s
      obtain ⟨rfl, rfl⟩ := hI
      dsimp only
      have b0 := sumN_bd (F := M (b + 1)) (a := 0) (b := 9) (n := i) (fun j hj => hb j (by omega))
      have b1 := hb i (by omega)
      have w : wr (sumN (M (b + 1)) i + M (b + 1) i) = sumN (M (b + 1)) (i + 1) := by rw [sumN_S]; exact wr_i (by omega) (by omega)
      have e : be_thistlesOn b (i : Int) M = some (M (b + 1) i) := by
        unfold be_thistlesOn
        rw [if_neg (by omega), if_neg (by omega), if_pos (by omega), toNat_c]
      unfold be_allThistles_b4
      refine Tc_f (by omega) (Tc_e e ?_)
      rw [w]
      exact Tc_inl ⟨rfl, (wr_i (by omega) (by omega)).trans (by omega)⟩
    · obtain ⟨x, z⟩ := s
      obtain ⟨rfl, rfl⟩ := hI
      unfold be_allThistles_b4
      exact Tc_t (by rw [hn]; exact Int.le_refl _) (Tc_inr rfl)
  obtain ⟨r, e, h⟩ := hl
  unfold be_allThistles leftN
  rw [e, Option.bind_some, h]
  rfl
/-- all thistles left -/
def allL (M : MEM) (N : Nat) : Int := sumN (fun d => leftN (M (10 + 3 * d + 1)) (M (10 + 3 * d) 2)) N
theorem leftN_bd {f : Nat → Int} {n : Int} (h0 : 0 ≤ n) (h1 : n ≤ 12) (hb : ∀ p : Nat, (p : Int) < n → 0 ≤ f p ∧ f p ≤ 9) : 0 ≤ leftN f n ∧ leftN f n ≤ 108 := by
  have b0 := sumN_bd (F := f) (a := 0) (b := 9) (n := n.toNat) (fun j hj => hb j (by omega))
  unfold leftN
  omega
theorem thistles_eq {M : MEM} (h0 : 0 ≤ M 3 2) (h1 : M 3 2 ≤ 3) (hb : ∀ d : Nat, (d : Int) < M 3 2 → okD (M (10 + 3 * d) 2) (dsC (10 + 3 * d) M)) : sc_allThistles 3 M = some (allL M (M 3 2).toNat) ∧ 0 ≤ allL M (M 3 2).toNat ∧ allL M (M 3 2).toNat ≤ 324 := by
  obtain ⟨N, hN⟩ : ∃ N : Nat, M 3 2 = (N : Int) := ⟨(M 3 2).toNat, by omega⟩
  have one : ∀ d : Nat, d < N → 0 ≤ leftN (M (10 + 3 * d + 1)) (M (10 + 3 * d) 2) ∧ leftN (M (10 + 3 * d + 1)) (M (10 + 3 * d) 2) ≤ 108 := fun d hd => by
    have q := hb d (by omega)
    exact leftN_bd (by have := q.1; omega) q.2.1 q.2.2.2.2.2.2.2.2
  have hl : Tc (iter (fun s => sc_allThistles_b4 3 s.1 s.2 M) FU (0, 0)) (fun r => r.1 = allL M N) := by
    refine Tc_n (fun i s => s.1 = allL M i ∧ s.2 = (i : Int)) N ⟨rfl, rfl⟩ (by omega) (fun i s hi hI => ?_) (fun s hI => ?_)
    · obtain ⟨x, z⟩ := s
      obtain ⟨rfl, rfl⟩ := hI
      dsimp only
      have b0 := sumN_bd (F := fun d => leftN (M (10 + 3 * d + 1)) (M (10 + 3 * d) 2)) (a := 0) (b := 108) (n := i) (fun j hj => one j (by omega))
      have b1 := one i hi
      have w : wr (allL M i + leftN (M (10 + 3 * i + 1)) (M (10 + 3 * i) 2)) = allL M (i + 1) := by unfold allL; rw [sumN_S]; exact wr_i (by omega) (by omega)
      have q := hb i (by omega)
      have e := allTh_eq (b := 10 + 3 * i) (M := M) rfl (by have := q.1; omega) q.2.1 q.2.2.2.2.2.2.2.2
      unfold sc_allThistles_b4
      rw [toNat_c, show 3 + 7 + 3 * i = 10 + 3 * i by omega]
      refine Tc_f (by omega) (Tc_f (by omega) (Tc_t (by omega) (Tc_e e ?_)))
      rw [w]
      exact Tc_inl ⟨rfl, (wr_i (by omega) (by omega)).trans (by omega)⟩
    · obtain ⟨x, z⟩ := s
      obtain ⟨rfl, rfl⟩ := hI
      unfold sc_allThistles_b4
      exact Tc_t (by rw [hN]; exact Int.le_refl _) (Tc_inr rfl)
  obtain ⟨r, e, h⟩ := hl
  have b0 := sumN_bd (F := fun d => leftN (M (10 + 3 * d + 1)) (M (10 + 3 * d) 2)) (a := 0) (b := 108) (n := N) (fun j hj => one j (by omega))
  refine ⟨?_, ?_, ?_⟩
  · unfold sc_allThistles
    rw [e, Option.bind_some, h, hN]
    rfl
  · rw [hN]; show 0 ≤ sumN _ N; omega
  · rw [hN]; show sumN _ N ≤ 324; omega
theorem bitCount_eq {A : Nat → Bool} {n : Nat} (h : n ≤ 3) : ji_bitCount (bitsI A n) = sumN (fun d => if A d = true then 1 else 0) n := by
  have h3 : n = 0 ∨ n = 1 ∨ n = 2 ∨ n = 3 := by omega
  have v : ∀ x : Int, (x = 0 ∨ x = 1 ∨ x = 2 ∨ x = 3 ∨ x = 4 ∨ x = 5 ∨ x = 6 ∨ x = 7) → ji_bitCount x = (if x = 0 then 0 else if x = 1 ∨ x = 2 ∨ x = 4 then 1 else if x = 7 then 3 else 2) := fun x hx => by
    unfold ji_bitCount
    simp only [ish_def, wr_def]
    rcases hx with rfl | rfl | rfl | rfl | rfl | rfl | rfl | rfl <;> decide
  rcases h3 with rfl | rfl | rfl | rfl
  · simp only [bitsI, sumN]; rw [v 0 (by decide)]; decide
  · simp only [bitsI, sumN, w2]
    cases A 0 <;> (rw [v _ (by decide)]; decide)
  · simp only [bitsI, sumN, w2]
    cases A 0 <;> cases A 1 <;> (rw [v _ (by decide)]; decide)
  · simp only [bitsI, sumN, w2]
    cases A 0 <;> cases A 1 <;> cases A 2 <;> (rw [v _ (by decide)]; decide)
theorem lock.cgN {B : Int} {M N N' : MEM} (h : lock B M N) (c : ∀ a, a ≠ 290 → N' a = N a) : lock B M N' := by
  obtain ⟨l1, l2, l3, l4, l5, l6⟩ := h
  have g : offG 279 N N' ∨ True := Or.inr trivial
  have c290 : ∀ a k, rg a k ≠ 0 → N' a k = N a k := fun a k hr => by rw [c a (fun e => by subst e; exact hr rfl)]
  have hs : ∀ a k, rg a k ≠ 0 → mrg M N' a k = mrg M N a k := fun a k hr => by
    by_cases e : a ≤ 277
    · rw [mrg_lo e, mrg_lo e]
    · rw [mrg_hi (by omega), mrg_hi (by omega)]; exact c290 a k hr
  refine ⟨l1, l2.cg (fun a k hr => c290 a k (by rw [hr]; decide)), ?_, ?_, l5.cg l6.2.2.1 (fun a k hr => hs a k (by rcases hr with e | e <;> rw [e] <;> decide)), l6.cg (fun a k hr => hs a k (by rw [hr]; decide))⟩
  · unfold emOk howOkM at *
    rw [c 282 (by decide), c 278 (by decide)]
    exact l3
  · rw [l4]
    unfold envM flM hrM hrF
    rw [c 21 (by decide), c 22 (by decide), c 281 (by decide), c 282 (by decide), c 278 (by decide)]
noncomputable def passN (M : MEM) : Nat → MEM
  | 0 => M
  | j + 1 => match dh_pass (passN M j) with
    | some p => p.2
    | none => passN M j
theorem passN_S {M M' : MEM} {j : Nat} {x : Int} (h : dh_pass (passN M j) = some (x, M')) : passN M (j + 1) = M' := by
  show (match dh_pass (passN M j) with | some p => p.2 | none => passN M j) = M'
  rw [h]
