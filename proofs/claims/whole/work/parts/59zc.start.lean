-- ===== at the start =====
def M0 : MEM := fun c k => if (c = 224 ∨ c = 234) ∧ k = 6 then -1 else if c = 278 ∧ (k = 5 ∨ k = 29) then -1 else 0
theorem M0_z {c k : Nat} (h1 : c ≠ 224 ∨ k ≠ 6) (h2 : c ≠ 234 ∨ k ≠ 6) (h3 : c ≠ 278 ∨ (k ≠ 5 ∧ k ≠ 29)) : M0 c k = 0 := by
  unfold M0
  rw [if_neg (by omega), if_neg (by omega)]
theorem Rel_0 : Rel 0 M0 := by
  refine ⟨⟨rfl, by decide, by decide, fun i hi => ?_⟩, ⟨rfl, by decide, by decide, fun i hi => ?_⟩, ⟨⟨by decide, by decide, fun i hi => ?_⟩, by decide, by decide, fun i hi => ?_, Or.inl ⟨rfl, rfl⟩⟩, ⟨rfl, by decide, by decide, fun d hd => ?_⟩, ⟨rfl, by decide, by decide, fun i hi => ?_⟩, ⟨rfl, by decide, by decide, fun i hi => ?_⟩, ⟨rfl, by decide, by decide, fun i hi => ?_⟩, ⟨by decide, by decide, rfl, by decide, by decide, fun i hi => ?_⟩, fun i hi => ?_, ⟨rfl, by decide, by decide, fun i hi => ?_⟩, ⟨rfl, rfl, rfl, rfl, rfl, rfl, rfl⟩, ⟨rfl, by decide, by decide, by decide, by decide, fun d hd => ?_⟩⟩
  all_goals try (exfalso; first | (have e : M0 1 1 = 0 := rfl; omega) | (have e : M0 19 1 = 0 := rfl; omega) | (have e : M0 21 3 = 0 := rfl; omega) | (have e : M0 278 21 = 0 := rfl; omega) | (have e : M0 3 2 = 0 := rfl; omega) | (have e : M0 278 7 = 0 := rfl; omega) | (have e : M0 34 6 = 0 := rfl; omega) | (have e : M0 41 3 = 0 := rfl; omega) | (have e : M0 45 2 = 0 := rfl; omega) | (have e : M0 0 14 = 0 := rfl; omega))
  rw [M0_z (c := 305) (by omega) (by omega) (by omega), M0_z (c := 246 + 16 * i) (k := 4) (by omega) (by omega) (by omega)]
  exact ⟨rfl, Or.inl rfl, fun q => absurd q (by decide)⟩
