-- ===== missed =====
/-- which ferries are taken, how many come too late; the class's count, its last -/
def tkF (g : Nat → Nat) (F : Nat) : Nat → Nat → Int
  | 0 => fun _ => 0
  | m + 1 => if g m ≤ F then up1 (tkF g F m) (g m) 1 else tkF g F m
def ltF (g : Nat → Nat) (F : Nat) : Nat → Int
  | 0 => 0
  | m + 1 => if g m ≤ F then ltF g F m else ltF g F m + 1
def clF (g : Nat → Nat) (F : Nat) : Nat → Int × Int
  | 0 => (0, 0)
  | m + 1 => if g m ≤ F then (if (g m : Int) = (clF g F m).2 then clF g F m else ((clF g F m).1 + 1, (g m : Int))) else clF g F m
theorem tkF_S (g : Nat → Nat) (F m : Nat) : tkF g F (m + 1) = if g m ≤ F then up1 (tkF g F m) (g m) 1 else tkF g F m := rfl
theorem ltF_S (g : Nat → Nat) (F m : Nat) : ltF g F (m + 1) = if g m ≤ F then ltF g F m else ltF g F m + 1 := rfl
theorem clF_S (g : Nat → Nat) (F m : Nat) : clF g F (m + 1) = if g m ≤ F then (if (g m : Int) = (clF g F m).2 then clF g F m else ((clF g F m).1 + 1, (g m : Int))) else clF g F m := rfl
theorem ltF_bd (g : Nat → Nat) (F : Nat) : ∀ m, 0 ≤ ltF g F m ∧ ltF g F m ≤ m := by
  intro m
  induction m with
  | zero => show (0 : Int) ≤ 0 ∧ (0 : Int) ≤ 0; omega
  | succ m ih =>
    rw [ltF_S]
    split <;> omega
theorem sumN_sh (f : Nat → Int) : ∀ n, sumN f (n + 1) = f 0 + sumN (fun q => f (q + 1)) n := by
  intro n
  induction n with
  | zero => show 0 + f 0 = f 0 + 0; omega
  | succ n ih => rw [sumN_S, ih, sumN_S]; omega
theorem sumN_one : ∀ n : Nat, sumN (fun _ => (1 : Int)) n = n := by
  intro n
  induction n with
  | zero => rfl
  | succ n ih => rw [sumN_S, ih]; omega
theorem clF_inv {g : Nat → Nat} {F K : Nat} (h1 : ∀ m, m < K → 1 ≤ g m) (h2 : ∀ m, m + 1 < K → g m ≤ g (m + 1)) : ∀ m, m ≤ K →
    (clF g F m).1 = sumN (tkF g F m) (F + 1) ∧ 0 ≤ (clF g F m).2 ∧ (clF g F m).2 ≤ F ∧ (∀ q : Nat, (clF g F m).2 < q → tkF g F m q = 0) ∧ (∀ q : Nat, (q : Int) = (clF g F m).2 → 1 ≤ q → tkF g F m q = 1) ∧ tkF g F m 0 = 0 ∧ (m < K → (clF g F m).2 ≤ g m) ∧ ∀ q, tkF g F m q = 0 ∨ tkF g F m q = 1 := by
  intro m
  induction m with
  | zero =>
    intro _
    refine ⟨?_, Int.le_refl _, by show (0 : Int) ≤ F; omega, fun _ _ => rfl, fun q hq h => ?_, rfl, fun _ => by show (0 : Int) ≤ _; omega, fun _ => Or.inl rfl⟩
    · show (0 : Int) = sumN (fun _ => 0) (F + 1)
      have := sumN_bd (F := fun _ => (0 : Int)) (a := 0) (b := 0) (n := F + 1) (fun _ _ => ⟨Int.le_refl _, Int.le_refl _⟩)
      omega
    · have : (q : Int) = 0 := hq
      omega
  | succ m ih =>
    intro hm
    obtain ⟨i1, i2, i3, i4, i5, i6, i7, i8⟩ := ih (by omega)
    have i7 := i7 (by omega)
    have g1 := h1 m (by omega)
    rw [clF_S, tkF_S]
    by_cases q : g m ≤ F
    · rw [if_pos q, if_pos q]
      by_cases q2 : (g m : Int) = (clF g F m).2
      · rw [if_pos q2]
        have z := i5 (g m) q2 g1
        have e : up1 (tkF g F m) (g m) 1 = tkF g F m := by
          funext j
          rw [up1_at]
          by_cases c : j = g m
          · rw [if_pos c, c, z]
          · rw [if_neg c]
        rw [e]
        refine ⟨i1, i2, i3, i4, i5, i6, fun hK => ?_, i8⟩
        have := h2 m hK
        omega
      · rw [if_neg q2]
        have z := i4 (g m) (by omega)
        refine ⟨?_, by dsimp only; omega, by dsimp only; omega, fun j hj => ?_, fun j hj hj1 => ?_, ?_, fun hK => ?_, fun j => ?_⟩
        · dsimp only; rw [sumN_up1 (by omega), z, i1]; omega
        · dsimp only at hj
          rw [up1_at, if_neg (by omega)]; exact i4 j (by omega)
        · dsimp only at hj
          rw [up1_at, if_pos (by omega)]
        · rw [up1_at, if_neg (by omega)]; exact i6
        · have := h2 m hK
          dsimp only; omega
        · rw [up1_at]
          by_cases c : j = g m
          · rw [if_pos c]; exact Or.inr rfl
          · rw [if_neg c]; exact i8 j
    · rw [if_neg q, if_neg q]
      refine ⟨i1, i2, i3, i4, i5, i6, fun hK => ?_, i8⟩
      have := h2 m hK
      omega
theorem clF_bd {g : Nat → Nat} {F : Nat} : ∀ m, 0 ≤ (clF g F m).1 ∧ (clF g F m).1 ≤ m := by
  intro m
  induction m with
  | zero => show (0 : Int) ≤ 0 ∧ (0 : Int) ≤ 0; omega
  | succ m ih =>
    rw [clF_S]
    split
    · split
      · omega
      · dsimp only; omega
    · omega
/-- the ferry that is met -/
theorem ceil_eq {A P F : Nat} (hA1 : 1 ≤ A) (hA : A ≤ 700) (hP1 : 1 ≤ P) (hP : P ≤ 120) (hF : F = 600 / P) : wr (Int.tdiv (wr (wr ((A : Int) + P) - 1)) P) = (((A + P - 1) / P : Nat) : Int) ∧ 1 ≤ (A + P - 1) / P ∧ (A + P - 1) / P ≤ 820 ∧ (A + P - 1) / P * P ≤ 819 ∧ ((A + P - 1) / P ≤ F ↔ (A + P - 1) / P * P ≤ 600) := by
  have e1 : wr (wr ((A : Int) + P) - 1) = ((A + P - 1 : Nat) : Int) := by
    rw [wr_i (x := (A : Int) + P) (by omega) (by omega), wr_i (by omega) (by omega)]; omega
  have b1 : (A + P - 1) / P ≤ A + P - 1 := Nat.div_le_self _ _
  refine ⟨?_, ?_, by omega, ?_, ?_⟩
  · rw [e1, Int.tdiv_eq_ediv_of_nonneg (by omega), ← Int.natCast_ediv]
    exact wr_i (by omega) (by omega)
  · exact (Nat.le_div_iff_mul_le (by omega)).mpr (by omega)
  · have := Nat.div_mul_le_self (A + P - 1) P
    omega
  · rw [hF]
    exact Nat.le_div_iff_mul_le (by omega)
