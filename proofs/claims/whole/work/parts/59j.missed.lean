-- ===== missed =====
/-- which ferries are taken, how many come too late; the class's count, its last -/
def tkF (g : Nat → Nat) (F : Nat) : Nat → Nat → Int
  | 0 => fun _ => 0
  | m + 1 => if g m ≤ F then up1 (tkF g F m) (g m) 1 else tkF g F m
def ltF (g : Nat → Nat) (F : Nat) : Nat → Int
  | 0 => 0
  | m + 1 => if g m ≤ F then ltF g F m else ltF g F m + 1
def clF (g : Nat → Nat) (F : Nat) : Nat → Int × Int
  | 0 => (0, 0)
  | m + 1 => if g m ≤ F then (if (g m : Int) = (clF g F m).2 then clF g F m else ((clF g F m).1 + 1, (g m : Int))) else clF g F m
theorem tkF_S (g : Nat → Nat) (F m : Nat) : tkF g F (m + 1) = if g m ≤ F then up1 (tkF g F m) (g m) 1 else tkF g F m := rfl
theorem ltF_S (g : Nat → Nat) (F m : Nat) : ltF g F (m + 1) = if g m ≤ F then ltF g F m else ltF g F m + 1 := rfl
theorem clF_S (g : Nat → Nat) (F m : Nat) : clF g F (m + 1) = if g m ≤ F then (if (g m : Int) = (clF g F m).2 then clF g F m else ((clF g F m).1 + 1, (g m : Int))) else clF g F m := rfl
theorem ltF_bd (g : Nat → Nat) (F : Nat) : ∀ m, 0 ≤ ltF g F m ∧ ltF g F m ≤ m := by
  intro m
  induction m with
  | zero => show (0 : Int) ≤ 0 ∧ (0 : Int) ≤ 0; omega
  | succ m ih =>
    rw [ltF_S]
    split <;> omega
theorem sumN_sh (f : Nat → Int) : ∀ n, sumN f (n + 1) = f 0 + sumN (fun q => f (q + 1)) n := by
  intro n
  induction n with
  | zero => show 0 + f 0 = f 0 + 0; omega
  | succ n ih => rw [sumN_S, ih, sumN_S]; omega
theorem sumN_one : ∀ n : Nat, sumN (fun _ => (1 : Int)) n = n := by
  intro n
  induction n with
  | zero => rfl
  | succ n ih => rw [sumN_S, ih]; omega
theorem clF_inv {g : Nat → Nat} {F K : Nat} (h1 : ∀ m, m < K → 1 ≤ g m) (h2 : ∀ m, m + 1 < K → g m ≤ g (m + 1)) : ∀ m, m ≤ K →
    (clF g F m).1 = sumN (tkF g F m) (F + 1) ∧ 0 ≤ (clF g F m).2 ∧ (clF g F m).2 ≤ F ∧ (∀ q : Nat, (clF g F m).2 < q → tkF g F m q = 0) ∧ (∀ q : Nat, (q : Int) = (clF g F m).2 → 1 ≤ q → tkF g F m q = 1) ∧ tkF g F m 0 = 0 ∧ (m < K → (clF g F m).2 ≤ g m) ∧ ∀ q, tkF g F m q = 0 ∨ tkF g F m q = 1 := by
  intro m
  induction m with
  | zero =>
    intro _
    refine ⟨?_, Int.le_refl _, by show (0 : Int) ≤ F; omega, fun _ _ => rfl, fun q hq h => ?_, rfl, fun _ => by show (0 : Int) ≤ _; omega, fun _ => Or.inl rfl⟩
    · show (0 : Int) = sumN (fun _ => 0) (F + 1)
      have := sumN_bd (F := fun _ => (0 : Int)) (a := 0) (b := 0) (n := F + 1) (fun _ _ => ⟨Int.le_refl _, Int.le_refl _⟩)
      omega
    · have : (q : Int) = 0 := hq
      omega
  | succ m ih =>
    intro hm
    obtain ⟨i1, i2, i3, i4, i5, i6, i7, i8⟩ := ih (by omega)
    have i7 := i7 (by omega)
    have g1 := h1 m (by omega)
    rw [clF_S, tkF_S]
    by_cases q : g m ≤ F
    · rw [if_pos q, if_pos q]
      by_cases q2 : (g m : Int) = (clF g F m).2
      · rw [if_pos q2]
        have z := i5 (g m) q2 g1
        have e : up1 (tkF g F m) (g m) 1 = tkF g F m := by
          funext j
          rw [up1_at]
          by_cases c : j = g m
          · rw [if_pos c, c, z]
          · rw [if_neg c]
        rw [e]
        refine ⟨i1, i2, i3, i4, i5, i6, fun hK => ?_, i8⟩
        have := h2 m hK
        omega
      · rw [if_neg q2]
        have z := i4 (g m) (by omega)
        refine ⟨?_, by dsimp only; omega, by dsimp only; omega, fun j hj => ?_, fun j hj hj1 => ?_, ?_, fun hK => ?_, fun j => ?_⟩
        · dsimp only; rw [sumN_up1 (by omega), z, i1]; omega
        · dsimp only at hj
          rw [up1_at, if_neg (by omega)]; exact i4 j (by omega)
        · dsimp only at hj
          rw [up1_at, if_pos (by omega)]
        · rw [up1_at, if_neg (by omega)]; exact i6
        · have := h2 m hK
          dsimp only; omega
        · rw [up1_at]
          by_cases c : j = g m
          · rw [if_pos c]; exact Or.inr rfl
          · rw [if_neg c]; exact i8 j
    · rw [if_neg q, if_neg q]
      refine ⟨i1, i2, i3, i4, i5, i6, fun hK => ?_, i8⟩
      have := h2 m hK
      omega
theorem clF_bd {g : Nat → Nat} {F : Nat} : ∀ m, 0 ≤ (clF g F m).1 ∧ (clF g F m).1 ≤ m := by
  intro m
  induction m with
  | zero => show (0 : Int) ≤ 0 ∧ (0 : Int) ≤ 0; omega
  | succ m ih =>
    rw [clF_S]
    split
    · split
      · omega
      · dsimp only; omega
    · omega
/-- the ferry that is met -/
theorem ceil_eq {A P F : Nat} (hA1 : 1 ≤ A) (hA : A ≤ 700) (hP1 : 1 ≤ P) (hP : P ≤ 120) (hF : F = 600 / P) : wr (Int.tdiv (wr (wr ((A : Int) + P) - 1)) P) = (((A + P - 1) / P : Nat) : Int) ∧ 1 ≤ (A + P - 1) / P ∧ (A + P - 1) / P ≤ 820 ∧ (A + P - 1) / P * P ≤ 819 ∧ ((A + P - 1) / P ≤ F ↔ (A + P - 1) / P * P ≤ 600) := by
  have e1 : wr (wr ((A : Int) + P) - 1) = ((A + P - 1 : Nat) : Int) := by
    rw [wr_i (x := (A : Int) + P) (by omega) (by omega), wr_i (by omega) (by omega)]; omega
  have b1 : (A + P - 1) / P ≤ A + P - 1 := Nat.div_le_self _ _
  have b0 : (0 : Int) ≤ (((A + P - 1) / P : Nat) : Int) := Int.natCast_nonneg _
  refine ⟨?_, ?_, by omega, ?_, ?_⟩
  · rw [e1, Int.tdiv_eq_ediv_of_nonneg (by omega), ← Int.natCast_ediv]
    exact wr_i (by omega) (by omega)
  · exact (Nat.le_div_iff_mul_le (by omega)).mpr (by omega)
  · have := Nat.div_mul_le_self (A + P - 1) P
    omega
  · rw [hF]
    exact Nat.le_div_iff_mul_le (by omega)
theorem div600 {P : Nat} (h1 : 1 ≤ P) : wr (Int.tdiv 600 (P : Int)) = ((600 / P : Nat) : Int) ∧ 600 / P ≤ 600 := by
  have b1 : 600 / P ≤ 600 := Nat.div_le_self _ _
  have b0 : (0 : Int) ≤ ((600 / P : Nat) : Int) := Int.natCast_nonneg _
  refine ⟨?_, b1⟩
  rw [Int.tdiv_eq_ediv_of_nonneg (by omega), show (600 : Int) = ((600 : Nat) : Int) from rfl, ← Int.natCast_ediv]
  exact wr_i (by omega) (by omega)
theorem missC {A : Nat → Nat} {P k w C : Nat} {M : MEM} (hP1 : 1 ≤ P) (hP : P ≤ 120) (hk1 : 1 ≤ k) (hk : k ≤ 12) (hC : M 224 10 = (C : Int)) (hC6 : C ≤ 600) (hA : ∀ i, i < C / k → fu_there 224 ((((i + 1) * k : Nat) : Nat) : Int) w M = some (A i : Int) ∧ 1 ≤ A i ∧ A i ≤ 700) :
    Tc (iter (fun s => dh_missed_b93 P k w ((600 / P : Nat) : Int) s.1 s.2.1 s.2.2.1 s.2.2.2 M) FU (0, 0, 0, (k : Int))) (fun r => r.1 = (clF (fun i => (A i + P - 1) / P) (600 / P) (C / k)).1 ∧ r.2.2.1 = ltF (fun i => (A i + P - 1) / P) (600 / P) (C / k)) := by
  have hK : C / k ≤ C := Nat.div_le_self _ _
  generalize hg : (fun i => (A i + P - 1) / P) = g at *
  generalize hF : 600 / P = F at *
  have hF' := hF.symm
  refine Tc_n (fun i s => s.1 = (clF g F i).1 ∧ s.2.1 = (clF g F i).2 ∧ s.2.2.1 = ltF g F i ∧ s.2.2.2 = (((i + 1) * k : Nat) : Int)) (C / k) ⟨rfl, rfl, rfl, by dsimp only; omega⟩ (by omega) (fun i s hi hI => ?_) (fun s hI => ?_)
  · obtain ⟨x, y, z, u⟩ := s
    obtain ⟨rfl, rfl, rfl, rfl⟩ := hI
    dsimp only
    obtain ⟨a1, a2, a3⟩ := hA i hi
    have hle : (i + 1) * k ≤ C := (Nat.le_div_iff_mul_le (by omega)).mp hi
    have hS : (i + 1 + 1) * k = (i + 1) * k + k := Nat.succ_mul _ _
    have wi : wr ((((i + 1) * k : Nat) : Int) + k) = (((i + 1 + 1) * k : Nat) : Int) := by
      rw [hS]
      exact (wr_i (by omega) (by omega)).trans (by omega)
    obtain ⟨c1, c2, c3, c4, c5⟩ := ceil_eq a2 a3 hP1 hP hF'
    have gi : g i = (A i + P - 1) / P := by rw [← hg]
    rw [← gi] at c1 c2 c3
    have l1 := ltF_bd g F i
    have l2 := clF_bd (g := g) (F := F) i
    unfold dh_missed_b93 dh_missed_j151_93
    refine Tc_f (by rw [hC]; omega) (Tc_e a1 (Tc_f (by omega) ?_))
    rw [c1, wi, ltF_S, clF_S]
    by_cases q : g i ≤ F
    · rw [if_pos q, if_pos q]
      by_cases q2 : (g i : Int) = (clF g F i).2
      · rw [if_pos q2, if_pos q2]
        exact Tc_t (by omega) ( (Tc_inl ⟨rfl, rfl, rfl, rfl⟩))
      · rw [if_neg q2, if_neg q2]
        exact Tc_t (by omega) ((Tc_inl ⟨wr_i (by omega) (by omega), rfl, rfl, rfl⟩))
    · rw [if_neg q, if_neg q]
      exact Tc_f (by omega) (Tc_inl ⟨rfl, rfl, wr_i (by omega) (by omega), rfl⟩)
  · obtain ⟨x, y, z, u⟩ := s
    obtain ⟨rfl, rfl, rfl, rfl⟩ := hI
    unfold dh_missed_b93
    have : C < k * (C / k + 1) := Nat.lt_mul_div_succ C (by omega)
    have h2 : (C / k + 1) * k = k * (C / k + 1) := Nat.mul_comm _ _
    exact Tc_t (by dsimp only; rw [hC]; omega) (Tc_inr ⟨rfl, rfl⟩)
theorem miss_clear {d k w : Int} {M : MEM} : Tc (iter (fun s => mo_missed_b54 d k w s.1 s.2) FU (0, M)) (fun r => (∀ c, c ≠ 300 → r.2 c = M c) ∧ ∀ q : Nat, q ≤ 600 → r.2 300 q = 0) := by
  refine Tc_n (fun i s => s.1 = (i : Int) ∧ (∀ c, c ≠ 300 → s.2 c = M c) ∧ ∀ q : Nat, q < i → s.2 300 q = 0) 601 ⟨rfl, fun _ _ => rfl, fun q hq => by omega⟩ (by omega) (fun i s hi hI => ?_) (fun s hI => ?_)
  · obtain ⟨x, M1⟩ := s
    obtain ⟨rfl, h1, h2⟩ := hI
    dsimp only at h1 h2 ⊢
    unfold mo_missed_b54
    refine Tc_f (by omega) (Tc_t (by omega) (Tc_u (Tc_inl ⟨(wr_i (by omega) (by omega)).trans (by omega), fun c hc => ?_, fun q hq => ?_⟩)))
    · dsimp only; rw [up2_ne (by omega)]; exact h1 c hc
    · dsimp only
      rw [toNat_c]
      by_cases e : q = i
      · subst e; exact rd_same
      · rw [rd_k e]; exact h2 q (by omega)
  · obtain ⟨x, M1⟩ := s
    obtain ⟨rfl, h1, h2⟩ := hI
    unfold mo_missed_b54
    exact Tc_t (by dsimp only; omega) (Tc_inr ⟨h1, fun q hq => h2 q (by omega)⟩)
theorem missM {A : Nat → Nat} {P k w C : Nat} {M : MEM} (hP1 : 1 ≤ P) (hP : P ≤ 120) (hk1 : 1 ≤ k) (hk : k ≤ 12) (hC : M 278 38 = (C : Int)) (hC6 : C ≤ 600) (hz : ∀ q : Nat, q ≤ 600 → M 300 q = 0) (hA : ∀ M' : MEM, M' 293 = M 293 → ∀ i, i < C / k → mo_there ((((i + 1) * k : Nat) : Nat) : Int) w M' = some (A i : Int) ∧ 1 ≤ A i ∧ A i ≤ 700) :
    Tc (iter (fun s => mo_missed_b82 P k w s.1 s.2.1 s.2.2) FU (0, (k : Int), M)) (fun r => r.1 = ltF (fun i => (A i + P - 1) / P) (600 / P) (C / k) ∧ (∀ c, c ≠ 300 → r.2.2 c = M c) ∧ ∀ q : Nat, q * P ≤ 600 → r.2.2 300 (q * P) = tkF (fun i => (A i + P - 1) / P) (600 / P) (C / k) q) := by
  have hK : C / k ≤ C := Nat.div_le_self _ _
  generalize hg : (fun i => (A i + P - 1) / P) = g at *
  generalize hF : 600 / P = F at *
  have hF' := hF.symm
  refine Tc_n (fun i s => s.1 = ltF g F i ∧ s.2.1 = (((i + 1) * k : Nat) : Int) ∧ (∀ c, c ≠ 300 → s.2.2 c = M c) ∧ ∀ q : Nat, q * P ≤ 600 → s.2.2 300 (q * P) = tkF g F i q) (C / k) ⟨rfl, by dsimp only; omega, fun _ _ => rfl, fun q hq => hz _ hq⟩ (by omega) (fun i s hi hI => ?_) (fun s hI => ?_)
  · obtain ⟨x, u, M1⟩ := s
    obtain ⟨rfl, rfl, h1, h2⟩ := hI
    dsimp only at h1 h2 ⊢
    obtain ⟨a1, a2, a3⟩ := hA M1 (h1 293 (by omega)) i hi
    have hle : (i + 1) * k ≤ C := (Nat.le_div_iff_mul_le (by omega)).mp hi
    have hS : (i + 1 + 1) * k = (i + 1) * k + k := Nat.succ_mul _ _
    have wi : wr ((((i + 1) * k : Nat) : Int) + k) = (((i + 1 + 1) * k : Nat) : Int) := by
      rw [hS]
      exact (wr_i (by omega) (by omega)).trans (by omega)
    obtain ⟨c1, c2, c3, c4, c5⟩ := ceil_eq a2 a3 hP1 hP hF'
    have gi : g i = (A i + P - 1) / P := by rw [← hg]
    rw [← gi] at c1 c2 c3 c4 c5
    have l1 := ltF_bd g F i
    have c6 : wr ((max 1 (g i : Int)) * (P : Int)) = ((g i * P : Nat) : Int) := by
      rw [show max (1 : Int) (g i : Int) = (g i : Int) by omega, ← Int.natCast_mul]
      exact wr_i (by omega) (by omega)
    unfold mo_missed_b82 mo_missed_j135_82
    refine Tc_f (by rw [h1 278 (by omega), hC]; omega) (Tc_e a1 (Tc_f (by omega) ?_))
    rw [c1, c6, wi, ltF_S, tkF_S]
    by_cases q : g i ≤ F
    · rw [if_pos q, if_pos q]
      have := c5.mp q
      refine Tc_t (by omega) (Tc_t (by omega) (Tc_u (Tc_inl ⟨rfl, rfl, fun c hc => ?_, fun j hj => ?_⟩)))
      · dsimp only; rw [up2_ne (by omega)]; exact h1 c hc
      · dsimp only
        rw [toNat_c]
        by_cases e : j = g i
        · subst e; rw [rd_same, up1_at, if_pos rfl]
        · rw [rd_k (fun z => e (Nat.eq_of_mul_eq_mul_right (by omega) z)), up1_at, if_neg e]; exact h2 j hj
    · rw [if_neg q, if_neg q]
      have : ¬ g i * P ≤ 600 := fun z => q (c5.mpr z)
      exact Tc_f (by omega) (Tc_inl ⟨wr_i (by omega) (by omega), rfl, h1, h2⟩)
  · obtain ⟨x, u, M1⟩ := s
    obtain ⟨rfl, rfl, h1, h2⟩ := hI
    dsimp only at h1 h2
    unfold mo_missed_b82
    have : C < k * (C / k + 1) := Nat.lt_mul_div_succ C (by omega)
    have hh : (C / k + 1) * k = k * (C / k + 1) := Nat.mul_comm _ _
    exact Tc_t (by dsimp only; rw [h1 278 (by omega), hC]; omega) (Tc_inr ⟨rfl, h1, h2⟩)
theorem missE {P : Nat} {l : Int} {tk : Nat → Int} {M : MEM} (hP1 : 1 ≤ P) (hP : P ≤ 120) (hz : ∀ q : Nat, q * P ≤ 600 → M 300 (q * P) = tk q) :
    Tc (iter (fun s => mo_missed_b150 P l s.1 s.2 M) FU (0, (P : Int))) (fun r => r.1 = sumN (fun q => if tk (q + 1) = 0 then 1 else 0) (600 / P)) := by
  have b1 : 600 / P ≤ 600 := Nat.div_le_self _ _
  have hb : ∀ i, i ≤ 600 → 0 ≤ sumN (fun q => if tk (q + 1) = 0 then (1 : Int) else 0) i ∧ sumN (fun q => if tk (q + 1) = 0 then (1 : Int) else 0) i ≤ i := by
    intro i
    induction i with
    | zero => intro _; show (0 : Int) ≤ 0 ∧ (0 : Int) ≤ 0; omega
    | succ i ih =>
      intro hi
      have := ih (by omega)
      rw [sumN_S]
      split <;> omega
  refine Tc_n (fun i s => s.1 = sumN (fun q => if tk (q + 1) = 0 then 1 else 0) i ∧ s.2 = (((i + 1) * P : Nat) : Int)) (600 / P) ⟨rfl, by dsimp only; omega⟩ (by omega) (fun i s hi hI => ?_) (fun s hI => ?_)
  · obtain ⟨x, u⟩ := s
    obtain ⟨rfl, rfl⟩ := hI
    dsimp only
    have hle : (i + 1) * P ≤ 600 := (Nat.le_div_iff_mul_le (by omega)).mp hi
    have hS : (i + 1 + 1) * P = (i + 1) * P + P := Nat.succ_mul _ _
    have wi : wr ((((i + 1) * P : Nat) : Int) + P) = (((i + 1 + 1) * P : Nat) : Int) := by
      rw [hS]
      exact (wr_i (by omega) (by omega)).trans (by omega)
    have bb := hb i (by omega)
    unfold mo_missed_b150 mo_missed_j175_150
    refine Tc_f (by omega) (Tc_t (by omega) ?_)
    rw [toNat_c, hz _ hle, wi]
    by_cases q : tk (i + 1) = 0
    · exact Tc_t q (Tc_inl ⟨by dsimp only; rw [sumN_S, if_pos q]; exact wr_i (by omega) (by omega), rfl⟩)
    · exact Tc_f q (Tc_inl ⟨by dsimp only; rw [sumN_S, if_neg q]; exact wr_i (by omega) (by omega), rfl⟩)
  · obtain ⟨x, u⟩ := s
    obtain ⟨rfl, rfl⟩ := hI
    unfold mo_missed_b150
    have : 600 < P * (600 / P + 1) := Nat.lt_mul_div_succ 600 (by omega)
    have hh : (600 / P + 1) * P = P * (600 / P + 1) := Nat.mul_comm _ _
    exact Tc_t (by dsimp only; omega) (Tc_inr rfl)
theorem sum_compl {tk : Nat → Int} (h : ∀ q, tk q = 0 ∨ tk q = 1) : ∀ n, sumN (fun q => if tk (q + 1) = 0 then 1 else 0) n = n - sumN (fun q => tk (q + 1)) n := by
  intro n
  induction n with
  | zero => rfl
  | succ n ih =>
    rw [sumN_S, sumN_S, ih]
    rcases h (n + 1) with q | q
    · rw [if_pos q, q]; omega
    · rw [if_neg (by omega), q]; omega
theorem c_missed {B : Int} {M : MEM} (h : Rel B M) (hB : B ≤ 100000000) (x x2 x3 x4 : Int) : Lk B (dh_missed x x2 x3 x4 M) (mo_missed x x2 x3 x4) := by
  have nw := now_in h
  have c3 : chg [0] M (up2 M 278 13 0) := chg.rf.up (by decide)
  unfold Lk dh_missed dh_missed_j15
  have key : ∀ s0 : Int, ((1 ≤ x2 ∧ x2 ≤ 120 ∧ s0 = 1) ∨ (¬ (1 ≤ x2 ∧ x2 ≤ 120) ∧ s0 = 0)) → Tc (dh_missed_j16 x x2 x3 x4 s0 M) (fun p => Tc (mo_missed x x2 x3 x4 p.2) (fun q => q.1 = p.1 ∧ Rel B q.2)) := by
    intro s0 hs0
    unfold dh_missed_j16
    by_cases hd : 0 ≤ x ∧ x < M 3 2
    · refine Tc_f (by rw [isDonkey_y h.S.2.2.1 hd.1 hd.2]; decide) ?_
      by_cases h1 : 1 ≤ x2 ∧ x2 ≤ 120
      · have es : s0 = 1 := by omega
        subst es
        refine Tc_f (by decide) ?_
        by_cases h2 : 1 ≤ x3 ∧ x3 ≤ 12
        · refine Tc_f (by omega) (Tc_f (by omega) ?_)
          by_cases h4 : 0 ≤ x4 ∧ x4 ≤ 99
          · refine Tc_f (by rw [road_y h4]; decide) ?_
            obtain ⟨d, rfl⟩ : ∃ d : Nat, x = (d : Int) := ⟨x.toNat, by omega⟩
            obtain ⟨P, rfl⟩ : ∃ d : Nat, x2 = (d : Int) := ⟨x2.toNat, by omega⟩
            obtain ⟨k, rfl⟩ : ∃ d : Nat, x3 = (d : Int) := ⟨x3.toNat, by omega⟩
            obtain ⟨w, rfl⟩ : ∃ d : Nat, x4 = (d : Int) := ⟨x4.toNat, by omega⟩
            obtain ⟨d1, d2, -, -⟩ := dnk h hB hd.2
            have hst := q_stk h hd.2 hB
            obtain ⟨M1, e1, o1, f1⟩ := q_look0 h (Or.inl rfl) hd.2 hB
            obtain ⟨M2, e2, f2, o2⟩ := fut_run600 (till := 600) (Or.inl rfl) d1 d2 nw.1 (by omega) (by omega) (by omega) f1
            rw [show max 0 (600 : Int).toNat = 600 from rfl] at f2
            rw [show trajD (envM M) (M 280 d) (↑d) (M 3 3) (dsC (10 + 3 * d) M) = qT M d from rfl] at f2
            refine Tc_e e1 (Tc_e e2 (Tc_f (by omega) ?_))
            have c2 : chg [0] M M2 := (o1.tr o2.L).chg (Or.inl rfl)
            have hC6 := cnt_le hst (show 600 ≤ 1000000 by omega)
            obtain ⟨C, eC⟩ : ∃ C : Nat, cnt (qT M d) 600 = (C : Int) := ⟨(cnt (qT M d) 600).toNat, by omega⟩
            have f10 : M2 224 10 = (C : Int) := f2.2.2.2.2.2.2.2.1.trans eC
            obtain ⟨V, hV⟩ : ∃ V : Nat → Nat, ∀ i, V i = (M2 (224 + 9) ((((i + 1) * k : Nat) : Int) - 1).toNat).toNat := ⟨_, fun _ => rfl⟩
            have hV2 : ∀ i, i < C / k → (i + 1) * k ≤ C ∧ 1 ≤ (i + 1) * k ∧ isT (qT M d) (V i) (((i + 1) * k : Nat) - 1) ∧ V i < 600 ∧ fu_strokeMinute 224 (((i + 1) * k : Nat) : Int) M2 = some (V i : Int) := fun i hi => by
              have hle : (i + 1) * k ≤ C := (Nat.le_div_iff_mul_le (by omega)).mp hi
              have hS : (i + 1) * k = i * k + k := Nat.succ_mul _ _
              obtain ⟨z1, z2, z3, z4⟩ := stroke_eq (k := (((i + 1) * k : Nat) : Int)) f2 (by omega) (by omega) (by omega)
              have ez : M2 (224 + 9) ((((i + 1) * k : Nat) : Int) - 1).toNat = (V i : Int) := by rw [hV]; omega
              rw [ez] at z1 z2 z3 z4
              rw [show ((((i + 1) * k : Nat) : Int) - 1).toNat = (i + 1) * k - 1 by omega] at z2
              exact ⟨hle, by omega, z2, by omega, z1⟩
            have hVm : ∀ i, i + 1 < C / k → V i < V (i + 1) := fun i hi => by
              obtain ⟨p1, p2, p3, p4, -⟩ := hV2 i (by omega)
              obtain ⟨q1, q2, q3, q4, -⟩ := hV2 (i + 1) hi
              have hS : (i + 1 + 1) * k = (i + 1) * k + k := Nat.succ_mul _ _
              obtain ⟨u, u1, u2, u3⟩ := q3
              have hlt := isT_lt hst (j := u) p3 (by omega) (by omega)
              have := hlt.mpr (by rw [u2]; omega)
              omega
            have mC := missC (A := fun i => V i + w + 1) (P := P) (k := k) (w := w) (C := C) (M := M2) (by omega) (by omega) (by omega) (by omega) f10 (by omega) (fun i hi => by
              obtain ⟨p1, p2, p3, p4, p5⟩ := hV2 i hi
              refine ⟨?_, by omega, by omega⟩
              unfold fu_there
              rw [p5, Option.bind_some, wr_i (x := (V i : Int) + w) (by omega) (by omega), wr_i (by omega) (by omega)]
              congr 1)
            obtain ⟨v6, v6'⟩ := div600 (P := P) (by omega)
            rw [v6]
            refine Tc_c mC (fun r hr => ?_)
            obtain ⟨r1, r2, r3, r4⟩ := r
            obtain ⟨rfl, rfl⟩ := hr
            dsimp only
            obtain ⟨M3, n1, n2, n3⟩ := newRow_eq M2
            refine Tc_e n1 ?_
            obtain ⟨M4, t1, t2, t3⟩ := tell_eq (ltF (fun i => (V i + w + 1 + P - 1) / P) (600 / P) (C / k)) n2 (by decide)
            refine Tc_e t1 (Tc_some ?_)
            dsimp only
            have c5 : chg [0, 10] M M4 := (c2.sub (by decide)).tr (n3.tr t3).chg
            have c6 : chg [0, 10] M (up2 M4 278 13 0) := c5.up (by decide)
            unfold mo_missed
            refine Tc_u (Tc_f (by rw [moDonkey_y h.S (c6 278 1 (by decide)) hd]; decide) (Tc_f (by rw [moIn_y h1]; decide) (Tc_f (by rw [moIn_y h2]; decide) (Tc_f (by rw [moIn_y h4]; decide) ?_))))
            obtain ⟨M5, g1, g2, g3, g4⟩ := q_times h hB c6 hd.2
            refine Tc_e g1 (Tc_c miss_clear (fun r hr => ?_))
            obtain ⟨r1, M6⟩ := r
            obtain ⟨y1, y2⟩ := hr
            dsimp only at y1 y2 ⊢
            have m6 : M6 293 = M5 293 := y1 293 (by omega)
            have mM := missM (A := fun i => V i + w + 1) (P := P) (k := k) (w := w) (C := C) (M := M6) (by omega) (by omega) (by omega) (by omega) (by rw [y1 278 (by omega), g3, eC]) (by omega) y2 (fun M' hM' i hi => by
              obtain ⟨p1, p2, p3, p4, p5⟩ := hV2 i hi
              refine ⟨?_, by omega, by omega⟩
              have y := g4 ((i + 1) * k - 1) (by omega)
              have y0 := times_in g4 (i := (i + 1) * k - 1) (by omega)
              have := isT_uniq hst p3 y.1 (by omega) (by omega)
              unfold mo_there
              rw [if_neg (by omega), wr_i (x := (((i + 1) * k : Nat) : Int) - 1) (by omega) (by omega), if_pos (by omega), show ((((i + 1) * k : Nat) : Int) - 1).toNat = (i + 1) * k - 1 by omega, hM', m6, ← this, wr_i (x := (V i : Int) + w) (by omega) (by omega), wr_i (by omega) (by omega)]
              congr 1)
            refine Tc_c mM (fun r hr => ?_)
            obtain ⟨r1, r2, M7⟩ := r
            obtain ⟨rfl, y3, y4⟩ := hr
            dsimp only at y3 y4 ⊢
            refine Tc_c (missE (l := ltF (fun i => (V i + w + 1 + P - 1) / P) (600 / P) (C / k)) (by omega) (by omega) y4) (fun r hr => ?_)
            obtain ⟨r1, r2⟩ := r
            subst hr
            dsimp only
            refine Tc_u ?_
            obtain ⟨x1, x2⟩ := moRow0 M7
            obtain ⟨M8, u1, u2, u3⟩ := moTell_eq (ltF (fun i => (V i + w + 1 + P - 1) / P) (600 / P) (C / k)) x1 (by decide)
            refine Tc_e u1 (Tc_some ?_)
            have c57 : chg [0] M5 M7 := fun a q hq => by
              have : a ≠ 300 := fun z => by subst z; exact hq (by show 0 ∈ [0]; decide)
              rw [y3 a this, y1 a this]
            have m57 : moF M5 M7 := fun c hc => by rw [y3 c (by omega), y1 c (by omega)]
            have iv := clF_inv (g := fun i => (V i + w + 1 + P - 1) / P) (F := 600 / P) (K := C / k) (fun m hm => by
              obtain ⟨p1, p2, p3, p4, p5⟩ := hV2 m hm
              exact (ceil_eq (A := V m + w + 1) (P := P) (by omega) (by omega) (by omega) (by omega) rfl).2.1) (fun m hm => by
              have := hVm m hm
              exact Nat.div_le_div_right (by omega)) (C / k) (Nat.le_refl _)
            have bd := clF_bd (g := fun i => (V i + w + 1 + P - 1) / P) (F := 600 / P) (C / k)
            have hK : C / k ≤ C := Nat.div_le_self _ _
            dsimp only at iv bd ⊢
            refine ⟨?_, h.go10 (((c6.tr (g2.chg.sub (by decide))).tr (c57.sub (by decide))).tr (x2.tr u3).chg) (t2.fin ((((moF.up (by decide)).tr g2.mo).tr m57).tr (x2.tr u3).mo) u2 (by simp))⟩
            rw [sum_compl iv.2.2.2.2.2.2.2, iv.1, sumN_sh, iv.2.2.2.2.2.1, wr_i (x := ((600 / P : Nat) : Int) - _) (by rw [sumN_sh, iv.2.2.2.2.2.1] at iv; omega) (by rw [sumN_sh, iv.2.2.2.2.2.1] at iv; omega)]
            omega
          · refine Tc_t (road_n h4) (Tc_some ?_)
            unfold mo_missed
            exact Tc_u (Tc_f (by rw [moDonkey_y h.S (c3 278 1 (by decide)) hd]; decide) (Tc_f (by rw [moIn_y h1]; decide) (Tc_f (by rw [moIn_y h2]; decide) (Tc_t (moIn_n h4) (Tc_some ⟨rfl, h.go0 c3⟩)))))
        · have mo : Tc (mo_missed x x2 x3 x4 M) (fun q => q.1 = -1 ∧ Rel B q.2) := by
            unfold mo_missed
            exact Tc_u (Tc_f (by rw [moDonkey_y h.S (c3 278 1 (by decide)) hd]; decide) (Tc_f (by rw [moIn_y h1]; decide) (Tc_t (moIn_n h2) (Tc_some ⟨rfl, h.go0 c3⟩))))
          refine Tc_i (fun _ => Tc_some mo) (fun q => Tc_t (by omega) (Tc_some mo))
      · have es : s0 = 0 := by omega
        subst es
        refine Tc_t rfl (Tc_some ?_)
        unfold mo_missed
        exact Tc_u (Tc_f (by rw [moDonkey_y h.S (c3 278 1 (by decide)) hd]; decide) (Tc_t (moIn_n h1) (Tc_some ⟨rfl, h.go0 c3⟩)))
    · refine Tc_t (isDonkey_n h.S.2.2.1 hd) (Tc_some ?_)
      unfold mo_missed
      exact Tc_u (Tc_t (moDonkey_n h.S (c3 278 1 (by decide)) hd) (Tc_some ⟨rfl, h.go0 c3⟩))
  refine Tc_i (fun q => key 0 (Or.inr ⟨by omega, rfl⟩)) (fun q => Tc_i (fun q2 => key 0 (Or.inr ⟨by omega, rfl⟩)) (fun q2 => key 1 (Or.inl ⟨by omega, by omega, rfl⟩)))
