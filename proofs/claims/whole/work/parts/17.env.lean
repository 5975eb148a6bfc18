-- ===== flies, carrots =====
def sumN (F : Nat → Int) : Nat → Int
  | 0 => 0
  | n + 1 => sumN F n + F n
theorem sumN_S (F : Nat → Int) (n : Nat) : sumN F (n + 1) = sumN F n + F n := rfl
theorem sumN_congr {F G : Nat → Int} : ∀ {n : Nat}, (∀ i, i < n → F i = G i) → sumN F n = sumN G n := by
  intro n
  induction n with
  | zero => intro _; rfl
  | succ n ih => intro h; rw [sumN_S, sumN_S, ih (fun i hi => h i (by omega)), h n (by omega)]
theorem sumN_bd {F : Nat → Int} {a b : Int} : ∀ {n : Nat}, (∀ i, i < n → a ≤ F i ∧ F i ≤ b) → a * n ≤ sumN F n ∧ sumN F n ≤ b * n := by
  intro n
  induction n with
  | zero => intro _; simp [sumN]
  | succ n ih =>
    intro h
    have h1 := ih (fun i hi => h i (by omega))
    have h2 := h n (by omega)
    rw [sumN_S, Int.natCast_add, Int.mul_add, Int.mul_add]
    have e1 : a * ((1 : Nat) : Int) = a := by simp
    have e2 : b * ((1 : Nat) : Int) = b := by simp
    rw [e1, e2]
    omega
/-- what a CARROT does to a DONKEY in a MINUTE -/
def plT (d m w fr to how : Int) : Int := if w = d ∧ fr ≤ m ∧ m ≤ to then how else 0
def plF (c : Nat) (M : MEM) (d m : Int) (i : Nat) : Int := if (i : Int) < M c 4 then plT d m (M (c + 1) i) (M (c + 2) i) (M (c + 3) i) (M (c + 4) i) else 0
def plC (c : Nat) (M : MEM) (d m : Int) : Int := sumN (plF c M d m) 10
def howOk (c : Nat) (M : MEM) : Prop := ∀ i : Nat, (i : Int) < M c 4 → M (c + 4) i = 1 ∨ M (c + 4) i = -1
theorem plF_bd {c : Nat} {M : MEM} {d m : Int} (h : howOk c M) (i : Nat) : -1 ≤ plF c M d m i ∧ plF c M d m i ≤ 1 := by
  unfold plF plT
  split
  · split
    · rcases h i (by assumption) with h | h <;> omega
    · omega
  · omega
theorem plC_bd {c : Nat} {M : MEM} {d m : Int} (h : howOk c M) : -10 ≤ plC c M d m ∧ plC c M d m ≤ 10 := by
  have := sumN_bd (n := 10) (fun i _ => plF_bd (d := d) (m := m) h i)
  unfold plC
  omega
theorem ca_pull_eq {c : Nat} {M : MEM} {d m : Int} (h0 : 0 ≤ M c 4) (h1 : M c 4 ≤ 10) (h : howOk c M) : ca_pull c d m M = some (plC c M d m) := by
  obtain ⟨N, hN⟩ : ∃ N : Nat, M c 4 = (N : Int) := ⟨(M c 4).toNat, by omega⟩
  have hb : ∀ n : Nat, n ≤ 10 → -(n : Int) ≤ sumN (plF c M d m) n ∧ sumN (plF c M d m) n ≤ n := fun n _ => by
    have := sumN_bd (n := n) (fun i _ => plF_bd (d := d) (m := m) h i)
    omega
  have hl : iter (fun s => ca_pull_b5 c d m s.1 s.2 M) FU (0, 0) = some (sumN (plF c M d m) N, (N : Int)) := by
    refine loop_traj (fun i => (sumN (plF c M d m) i, (i : Int))) N (by omega) (fun k hk => ?_) ?_
    · have hkI : (k : Int) < M c 4 := by omega
      have w1 : wr ((k : Int) + 1) = ((k + 1 : Nat) : Int) := (wr_i (by omega) (by omega)).trans (by omega)
      have b1 := hb k (by omega)
      show ca_pull_b5 c d m (sumN (plF c M d m) k) (k : Int) M = _
      unfold ca_pull_b5 ca_pull_j64_5
      rw [if_neg (by omega), if_neg (by omega), if_pos (by omega)]
      simp only [toNat_c, w1]
      rw [sumN_S]
      have eF : plF c M d m k = plT d m (M (c + 1) k) (M (c + 2) k) (M (c + 3) k) (M (c + 4) k) := by unfold plF; rw [if_pos hkI]
      rw [eF]
      unfold plT
      by_cases e1 : M (c + 1) k = d
      · rw [if_pos e1, if_pos (by omega)]
        by_cases e2 : m < M (c + 2) k
        · rw [if_pos e2, if_neg (by omega), Int.add_zero]
        · rw [if_neg e2, if_pos (by omega)]
          by_cases e3 : M (c + 3) k < m
          · rw [if_pos e3, if_neg (by omega), Int.add_zero]
          · rw [if_neg e3, if_pos (by omega), if_pos ⟨e1, by omega, by omega⟩, wr_i]
            · rcases h k hkI with q | q <;> omega
            · rcases h k hkI with q | q <;> omega
      · rw [if_neg e1, if_neg (fun q => e1 q.1), Int.add_zero]
    · show ca_pull_b5 c d m (sumN (plF c M d m) N) (N : Int) M = _
      unfold ca_pull_b5
      rw [if_pos (by omega)]
  unfold ca_pull
  rw [hl, Option.bind_some]
  have e : ∀ k, N + k ≤ 10 → sumN (plF c M d m) (N + k) = sumN (plF c M d m) N := by
    intro k
    induction k with
    | zero => intro _; rfl
    | succ k ih =>
      intro hk
      have z : plF c M d m (N + k) = 0 := by unfold plF; rw [if_neg (by omega)]
      rw [show N + (k + 1) = (N + k) + 1 by omega, sumN_S, ih (by omega), z, Int.add_zero]
  have e10 := e (10 - N) (by omega)
  rw [show N + (10 - N) = 10 by omega] at e10
  unfold plC
  rw [e10]
def flC (M : MEM) (m : Int) : Int := if 1 ≤ M 19 1 then M 20 (m % M 19 1).toNat else 0
theorem fl_in_eq {M : MEM} {m : Int} (hm : InR m) (h0 : 0 ≤ M 19 1) (h1 : M 19 1 ≤ 40) : fl_in m M = some (flC M m) := by
  unfold fl_in flC
  by_cases h : 1 ≤ M 19 1
  · have h2 := Int.emod_nonneg m (show M 19 1 ≠ 0 by omega)
    have h3 := Int.emod_lt_of_pos m (show 0 < M 19 1 by omega)
    rw [if_pos h, if_pos h, floorMod_eq hm (by omega) (by omega), Option.bind_some, if_neg (by omega), if_pos (by omega)]
  · rw [if_neg h, if_neg h]
-- ===== the reference's =====
def hrF (M : MEM) (d m : Int) (i : Nat) : Int := if (i : Int) < M 278 7 ∨ (10 ≤ i ∧ (i : Int) < 10 + M 278 8) then plT d m (M 282 (4 * i)) (M 282 (4 * i + 1)) (M 282 (4 * i + 2)) (M 282 (4 * i + 3)) else 0
def hrM (M : MEM) (d m : Int) : Int := sumN (hrF M d m) 12
def howOkM (M : MEM) : Prop := ∀ i : Nat, ((i : Int) < M 278 7 ∨ (10 ≤ i ∧ (i : Int) < 10 + M 278 8)) → M 282 (4 * i + 3) = 1 ∨ M 282 (4 * i + 3) = -1
theorem hrF_bd {M : MEM} {d m : Int} (h : howOkM M) (i : Nat) : -1 ≤ hrF M d m i ∧ hrF M d m i ≤ 1 := by
  unfold hrF plT
  split
  · split
    · rcases h i (by assumption) with h | h <;> omega
    · omega
  · omega
theorem mo_in_eq (x a b : Int) : mo_in x a b = if a ≤ x ∧ x ≤ b then 1 else 0 := by
  unfold mo_in
  by_cases h : x < a
  · rw [if_pos h, if_neg (by omega)]
  · rw [if_neg h]
    by_cases h2 : b < x
    · rw [if_pos h2, if_neg (by omega)]
    · rw [if_neg h2, if_pos (by omega)]
theorem mo_hurry_eq {M : MEM} {d m : Int} (h0 : 0 ≤ M 278 7) (h1 : M 278 7 ≤ 10) (h2 : 0 ≤ M 278 8) (h3 : M 278 8 ≤ 2) (h : howOkM M) : mo_hurry d m M = some (hrM M d m) := by
  have hb : ∀ n : Nat, n ≤ 12 → -(n : Int) ≤ sumN (hrF M d m) n ∧ sumN (hrF M d m) n ≤ n := fun n _ => by
    have := sumN_bd (n := n) (fun i _ => hrF_bd (d := d) (m := m) h i)
    omega
  have hl : iter (fun s => mo_hurry_b5 d m s.1 s.2 M) FU (0, 0) = some (sumN (hrF M d m) 12, ((12 : Nat) : Int)) := by
    refine loop_traj (fun i => (sumN (hrF M d m) i, (i : Int))) 12 (by omega) (fun k hk => ?_) ?_
    · have w1 : wr ((k : Int) + 1) = ((k + 1 : Nat) : Int) := (wr_i (by omega) (by omega)).trans (by omega)
      have w4 : wr (4 * (k : Int)) = ((4 * k : Nat) : Int) := (wr_i (by omega) (by omega)).trans (by omega)
      have w41 : wr (((4 * k : Nat) : Int) + 1) = ((4 * k + 1 : Nat) : Int) := (wr_i (by omega) (by omega)).trans (by omega)
      have w42 : wr (((4 * k : Nat) : Int) + 2) = ((4 * k + 2 : Nat) : Int) := (wr_i (by omega) (by omega)).trans (by omega)
      have w43 : wr (((4 * k : Nat) : Int) + 3) = ((4 * k + 3 : Nat) : Int) := (wr_i (by omega) (by omega)).trans (by omega)
      have w10 : wr (10 + M 278 8) = 10 + M 278 8 := wr_i (by omega) (by omega)
      have b1 := hb k (by omega)
      have on : ((k : Int) < M 278 7 ∨ (10 ≤ k ∧ (k : Int) < 10 + M 278 8)) → mo_hurry_j43_5 d m (sumN (hrF M d m) k) (k : Int) M = some (.inl (sumN (hrF M d m) (k + 1), ((k + 1 : Nat) : Int))) := fun q => by
        unfold mo_hurry_j43_5 mo_hurry_j99_5
        simp only [w1, w4, w41, w42, w43, toNat_c]
        rw [if_pos (by omega), sumN_S]
        have eF : hrF M d m k = plT d m (M 282 (4 * k)) (M 282 (4 * k + 1)) (M 282 (4 * k + 2)) (M 282 (4 * k + 3)) := by unfold hrF; rw [if_pos q]
        rw [eF, mo_in_eq]
        unfold plT
        by_cases e1 : M 282 (4 * k) = d
        · rw [if_pos e1, if_pos (by omega), if_pos (by omega)]
          by_cases e2 : M 282 (4 * k + 1) ≤ m ∧ m ≤ M 282 (4 * k + 2)
          · rw [if_pos e2, if_neg (by omega), if_pos (by omega), if_pos ⟨e1, e2⟩, wr_i]
            · rcases h k q with q | q <;> omega
            · rcases h k q with q | q <;> omega
          · rw [if_neg e2, if_pos rfl, if_neg (fun q => e2 q.2), Int.add_zero]
        · rw [if_neg e1, if_neg (fun q => e1 q.1), Int.add_zero]
      have off : ¬ ((k : Int) < M 278 7 ∨ (10 ≤ k ∧ (k : Int) < 10 + M 278 8)) → mo_hurry_j99_5 d m (sumN (hrF M d m) k) (k : Int) M = some (.inl (sumN (hrF M d m) (k + 1), ((k + 1 : Nat) : Int))) := fun q => by
        unfold mo_hurry_j99_5
        rw [w1, sumN_S]
        have eF : hrF M d m k = 0 := by unfold hrF; rw [if_neg q]
        rw [eF, Int.add_zero]
      show mo_hurry_b5 d m (sumN (hrF M d m) k) (k : Int) M = _
      unfold mo_hurry_b5
      rw [if_neg (by omega), w10]
      by_cases q1 : (k : Int) < M 278 7
      · rw [if_pos q1]; exact on (Or.inl q1)
      · rw [if_neg q1]
        by_cases q2 : (k : Int) < 10
        · rw [if_pos q2]; exact off (by omega)
        · rw [if_neg q2]
          by_cases q3 : (k : Int) < 10 + M 278 8
          · rw [if_pos q3]; exact on (by omega)
          · rw [if_neg q3]; exact off (by omega)
    · show mo_hurry_b5 d m (sumN (hrF M d m) 12) ((12 : Nat) : Int) M = _
      unfold mo_hurry_b5
      rw [if_pos (by omega)]
  unfold mo_hurry
  rw [hl, Option.bind_some]
  rfl
def flM (M : MEM) (m : Int) : Int := if M 278 5 = -1 then (if M 278 4 = 0 then 0 else M 281 (m % M 278 4).toNat) else M 278 5
theorem mo_fliesIn_eq {M : MEM} {m : Int} (hm : 0 ≤ m) (h0 : 0 ≤ M 278 4) (h1 : M 278 4 ≤ 40) : mo_fliesIn m M = some (flM M m) := by
  unfold mo_fliesIn flM
  by_cases h : M 278 5 = -1
  · rw [if_pos h, if_pos h]
    by_cases h2 : M 278 4 = 0
    · rw [if_pos h2, if_pos h2]
    · have q1 := Int.emod_nonneg m h2
      have q2 := Int.emod_lt_of_pos m (show 0 < M 278 4 by omega)
      rw [if_neg h2, if_neg h2, if_neg h2, tmod_nn hm, if_pos (by omega)]
  · rw [if_neg h, if_neg h]
