-- ===== the class's walk is walkD =====
def dsC (b : Nat) (M : MEM) : DS := (M b 3, M b 4, M b 5, M (b + 1))
def flg (did k : Int) (r : DS × Bool) : Int := (if did = 1 ∨ r.1.2.2.1 ≠ k then 1 else 0) + (if r.2 = true then 2 else 0)
theorem ish_c1 : ish i_and 0 2 = 0 ∧ ish i_and 1 2 = 0 ∧ ish i_and 2 2 = 2 ∧ ish i_and 3 2 = 2 ∧ ish i_or 0 1 = 1 ∧ ish i_or 1 1 = 1 ∧ ish i_or 0 2 = 2 ∧ ish i_or 1 2 = 3 := by
  simp only [ish_def]
  decide
/-- what a donkey's cells alone have changed -/
def offB (b : Nat) (M M1 : MEM) : Prop := (∀ c, c ≠ b → c ≠ b + 1 → M1 c = M c) ∧ ∀ k, k ≠ 3 → k ≠ 4 → k ≠ 5 → M1 b k = M b k
theorem offB.rf {b : Nat} {M : MEM} : offB b M M := ⟨fun _ _ _ => rfl, fun _ _ _ _ => rfl⟩
theorem offB.tr {b : Nat} {M M1 M2 : MEM} (h : offB b M M1) (h2 : offB b M1 M2) : offB b M M2 := ⟨fun c x y => (h2.1 c x y).trans (h.1 c x y), fun k x y z => (h2.2 k x y z).trans (h.2 k x y z)⟩
set_option maxHeartbeats 4000000 in
theorem be_step {b : Nat} {n pace did i : Int} {M : MEM} (hn : M b 2 = n) (hd : okD n (dsC b M)) (hk : M b 5 + 1 < 1073741824) (hi : 0 ≤ i) (hip : i < pace) (hp : pace ≤ 4) (hdid : did = 0 ∨ did = 1) :
    ∃ M1, be_walk_b13 b pace did i M = some (.inl (flg did (M b 5) (oneD n (dsC b M)), i + 1, M1)) ∧ dsC b M1 = (oneD n (dsC b M)).1 ∧ M1 b 2 = n ∧ offB b M M1 := by
  obtain ⟨d1, d2, d3, d4, d5, d6, d7, d8, d9⟩ := hd
  simp only [dsC] at d3 d4 d5 d6 d7 d8 d9
  have w1 : wr (M b 3 + 1) = M b 3 + 1 := wr_id (by unfold InR; omega)
  have w2 : wr (M b 5 + 1) = M b 5 + 1 := wr_id (by unfold InR; omega)
  have w3 : wr (M b 4 + 1) = M b 4 + 1 := wr_id (by unfold InR; omega)
  have w4 : wr (i + 1) = i + 1 := wr_id (by unfold InR; omega)
  have w5 : wr (M b 4 - 2) = M b 4 - 2 := wr_id (by unfold InR; omega)
  have w6 : wr (min 9 (M b 4 + 1) - 2) = min 9 (M b 4 + 1) - 2 := wr_id (by unfold InR; omega)
  have hand : ish i_and did 2 = 0 := by rcases hdid with rfl | rfl; exact ish_c1.1; exact ish_c1.2.1
  have o1 : ish i_or did 1 = 1 := by rcases hdid with rfl | rfl; exact ish_c1.2.2.2.2.1; exact ish_c1.2.2.2.2.2.1
  have o2 : ish i_or did 2 = did + 2 := by rcases hdid with rfl | rfl; exact ish_c1.2.2.2.2.2.2.1; exact ish_c1.2.2.2.2.2.2.2
  have o3 : ish i_or 1 2 = 3 := ish_c1.2.2.2.2.2.2.2
  have hdf : (if did = 1 then (1 : Int) else 0) = did := by rcases hdid with rfl | rfl <;> rfl
  have c1 : ¬ pace ≤ i := by omega
  have hne : ¬ (M b 5 + 1 = M b 5) := by omega
  rw [oneD_def]
  simp only [dsC, nxt, flg, be_walk_b13, be_walk_j48_13, be_walk_j87_13, be_walk_j132_13, hand, c1, if_false, if_true, w1, hn]
  by_cases h1 : M b 3 + 1 < n
  · have h1' : ¬ n ≤ M b 3 + 1 := by omega
    have h0 : ¬ M b 3 + 1 = 0 := by omega
    have hlt : ¬ (M b 3 + 1 < 0) := by omega
    have hlt2 : ¬ (12 ≤ M b 3 + 1) := by omega
    have hlt3 : 0 ≤ M b 3 + 1 ∧ M b 3 + 1 < 12 := by omega
    by_cases h2 : 0 < M (b + 1) (M b 3 + 1).toNat
    · have h2' : ¬ (M (b + 1) (M b 3 + 1).toNat ≤ 0) := by omega
      have w7 : wr (M (b + 1) (M b 3 + 1).toNat - 1) = M (b + 1) (M b 3 + 1).toNat - 1 := wr_id (by have := d9 (M b 3 + 1).toNat (by omega); unfold InR; omega)
      refine ⟨up2 (up2 (up2 M b 3 (M b 3 + 1)) (b + 1) (M b 3 + 1).toNat (M (b + 1) (M b 3 + 1).toNat - 1)) b 4 (max 0 (M b 4 - 2)), ?_, ?_, ?_, fun c hc1 hc2 => ?_, fun k k3 k4 k5 => ?_⟩
      · simp [up2, h1, h1', h0, hlt, hlt2, hlt3, h2, h2', be_thistlesOn, be_put, w4, w5, w7, o2, hdf]
      · simp [up2, h1, h0, h2, h2']
        funext j; simp [up2, up1]
      · simp [up2, hn]
      · funext j; simp [up2, hc1, hc2]
      · simp [up2, k3, k4]
    · have h2' : M (b + 1) (M b 3 + 1).toNat ≤ 0 := by omega
      refine ⟨up2 M b 3 (M b 3 + 1), ?_, ?_, ?_, fun c hc1 hc2 => ?_, fun k k3 k4 k5 => ?_⟩
      · simp [up2, h1, h1', h0, hlt, hlt2, hlt3, h2, h2', be_thistlesOn, be_put, w4, hdf]
      · simp [up2, h1, h0, h2, h2']
        funext j; simp [up2]
      · simp [up2, hn]
      · funext j; simp [up2, hc1, hc2]
      · simp [up2, k3, k4]
  · have h1' : n ≤ M b 3 + 1 := by omega
    by_cases h2 : 0 < M (b + 1) 0
    · have h2' : ¬ (M (b + 1) 0 ≤ 0) := by omega
      have w7 : wr (M (b + 1) 0 - 1) = M (b + 1) 0 - 1 := wr_id (by have := d9 0 (by omega); unfold InR; omega)
      refine ⟨up2 (up2 (up2 (up2 (up2 M b 3 0) b 5 (M b 5 + 1)) b 4 (min 9 (M b 4 + 1))) (b + 1) 0 (M (b + 1) 0 - 1)) b 4 (max 0 (min 9 (M b 4 + 1) - 2)), ?_, ?_, ?_, fun c hc1 hc2 => ?_, fun k k3 k4 k5 => ?_⟩
      · simp [up2, h1, h1', h2, h2', be_thistlesOn, be_put, w2, w3, w4, w6, w7, o1, o3, hdf, hne]
      · simp [up2, h1, h2, h2']
        funext j; simp [up2, up1]
      · simp [up2, hn]
      · funext j; simp [up2, hc1, hc2]
      · simp [up2, k3, k4, k5]
    · have h2' : M (b + 1) 0 ≤ 0 := by omega
      refine ⟨up2 (up2 (up2 M b 3 0) b 5 (M b 5 + 1)) b 4 (min 9 (M b 4 + 1)), ?_, ?_, ?_, fun c hc1 hc2 => ?_, fun k k3 k4 k5 => ?_⟩
      · simp [up2, h1, h1', h2, h2', be_thistlesOn, be_put, w2, w3, w4, o1, hdf, hne]
      · simp [up2, h1, h2, h2']
        funext j; simp [up2]
      · simp [up2, hn]
      · funext j; simp [up2, hc1, hc2]
      · simp [up2, k3, k4, k5]
theorem walkD_one {n : Int} {j : Nat} {s : DS} (h : (oneD n s).2 = true) : walkD n (j + 1) s = oneD n s := by rw [walkD_S, if_pos h]
theorem walkD_two {n : Int} {j : Nat} {s : DS} (h : (oneD n s).2 = false) : walkD n (j + 1) s = walkD n j (oneD n s).1 := by rw [walkD_S, if_neg (by rw [h]; decide)]
theorem walkD_mono {n : Int} : ∀ (j : Nat) (s : DS), s.2.2.1 ≤ (walkD n j s).1.2.2.1 := by
  intro j
  induction j with
  | zero => intro s; exact Int.le_refl _
  | succ j ih =>
    intro s
    have h := oneD_strokes n s
    have h2 : s.2.2.1 ≤ (oneD n s).1.2.2.1 := by rw [h]; split <;> omega
    rw [walkD_S]
    split
    · exact h2
    · exact Int.le_trans h2 (ih _)
/-- the loop of the class's walk, from any turn on -/
theorem be_loop {b : Nat} {n pace : Int} (hp : pace ≤ 4) : ∀ (j fu : Nat) (did i : Int) (M : MEM), i + j = pace → 0 ≤ i → j < fu → M b 2 = n → okD n (dsC b M) → M b 5 + j < 1073741824 → (did = 0 ∨ did = 1) →
    ∃ i' M', iter (fun s => be_walk_b13 b pace s.1 s.2.1 s.2.2) fu (did, i, M) = some (flg did (M b 5) (walkD n j (dsC b M)), i', M') ∧ dsC b M' = (walkD n j (dsC b M)).1 ∧ M' b 2 = n ∧ offB b M M' := by
  intro j
  induction j with
  | zero =>
    intro fu did i M hij hi hfu hn hd hk hdid
    obtain ⟨fu, rfl⟩ : ∃ f, fu = f + 1 := ⟨fu - 1, by omega⟩
    refine ⟨i, M, ?_, rfl, hn, offB.rf⟩
    have e : flg did (M b 5) (walkD n 0 (dsC b M)) = did := by
      rcases hdid with rfl | rfl <;> simp [flg, walkD, dsC]
    rw [e]
    simp [iter, be_walk_b13, show pace ≤ i by omega]
  | succ j ih =>
    intro fu did i M hij hi hfu hn hd hk hdid
    obtain ⟨fu, rfl⟩ : ∃ f, fu = f + 1 := ⟨fu - 1, by omega⟩
    obtain ⟨M1, e1, d1, n1, o1⟩ := be_step hn hd (by omega) hi (by omega) hp hdid
    have hs1 : M1 b 5 = (oneD n (dsC b M)).1.2.2.1 := by rw [← d1]; rfl
    have hst := oneD_strokes n (dsC b M)
    have hk5 : (dsC b M).2.2.1 = M b 5 := rfl
    rw [hk5] at hst
    have hstb : (oneD n (dsC b M)).1.2.2.1 = M b 5 ∨ (oneD n (dsC b M)).1.2.2.1 = M b 5 + 1 := by rw [hst]; split <;> omega
    simp only [iter, e1, Option.bind_some, Sum.elim_inl]
    cases ha : (oneD n (dsC b M)).2 with
    | true =>
      rw [walkD_one ha]
      have hfl : flg did (M b 5) (oneD n (dsC b M)) = 2 ∨ flg did (M b 5) (oneD n (dsC b M)) = 3 := by
        unfold flg
        rw [ha]
        split <;> simp
      have hand : ¬ ish i_and (flg did (M b 5) (oneD n (dsC b M))) 2 = 0 := by
        rcases hfl with h | h <;> rw [h]
        · rw [ish_c1.2.2.1]; decide
        · rw [ish_c1.2.2.2.1]; decide
      obtain ⟨fu, rfl⟩ : ∃ f, fu = f + 1 := ⟨fu - 1, by omega⟩
      refine ⟨i + 1, M1, ?_, d1, n1, o1⟩
      by_cases hc : pace ≤ i + 1
      · simp [iter, be_walk_b13, hc]
      · simp [iter, be_walk_b13, hc, hand]
    | false =>
      rw [walkD_two ha]
      have hok1 : okD n (dsC b M1) := by
        rw [d1]
        exact oneD_ok hd (by rw [hk5]; omega)
      obtain ⟨i', M', e2, d2, n2, o2⟩ := ih fu (flg did (M b 5) (oneD n (dsC b M))) (i + 1) M1 (by omega) (by omega) (by omega) n1 hok1 (by omega) (by
        unfold flg
        rw [ha]
        split <;> simp)
      refine ⟨i', M', ?_, ?_, n2, o1.tr o2⟩
      · rw [e2]
        congr 2
        have hm := walkD_mono (n := n) j (oneD n (dsC b M)).1
        unfold flg
        rw [d1, hs1, ha]
        simp only [Bool.false_eq_true, if_false, Int.add_zero]
        congr 1
        rcases hdid with rfl | rfl
        · rcases hstb with h | h
          · simp [h]
          · have h1 : ¬ (oneD n (dsC b M)).1.2.2.1 = M b 5 := by omega
            have h2 : ¬ (walkD n j (oneD n (dsC b M)).1).1.2.2.1 = M b 5 := by omega
            simp [h1, h2]
        · simp
      · rw [d2, d1]
def didD (k : Int) (pace : Int) (r : DS × Bool) : Int := if pace < 1 then 4 else flg 0 k r
theorem be_walk_eq {b : Nat} {n pace : Int} {M : MEM} (hp0 : 0 ≤ pace) (hp : pace ≤ 4) (hn : M b 2 = n) (hd : okD n (dsC b M)) (hk : M b 5 + 4 < 1073741824) :
    ∃ M', be_walk b pace M = some (didD (M b 5) pace (walkD n pace.toNat (dsC b M)), M') ∧ dsC b M' = (walkD n pace.toNat (dsC b M)).1 ∧ M' b 2 = n ∧ offB b M M' := by
  by_cases h : 1 ≤ pace
  · obtain ⟨i', M', e, d, n', o⟩ := be_loop (n := n) hp pace.toNat FU 0 0 M (by omega) (by omega) (by unfold FU; omega) hn hd (by omega) (Or.inl rfl)
    refine ⟨M', ?_, d, n', o⟩
    simp [be_walk, be_walk_j10, h, e, didD, show ¬ pace < 1 by omega]
  · have h0 : pace = 0 := by omega
    subst h0
    refine ⟨M, ?_, rfl, hn, offB.rf⟩
    have h1 : iter (fun s => be_walk_b13 b 0 s.1 s.2.1 s.2.2) FU (4, 0, M) = some (4, 0, M) := by
      apply iter_exit
      show be_walk_b13 b 0 4 0 M = _
      unfold be_walk_b13
      rw [if_pos (Int.le_refl 0)]
    have e1 : be_walk b 0 M = be_walk_j10 b 0 4 M := by
      unfold be_walk
      rw [if_neg h]
    have e2 : didD (M b 5) 0 (walkD n (Int.toNat 0) (dsC b M)) = 4 := by
      unfold didD
      rw [if_pos (by omega)]
    rw [e1, e2]
    unfold be_walk_j10
    rw [h1]
    rfl
