-- ===== reading THE TEXT, on both sides =====
/-- THE TEXT's signs as they count, m of them at most -/
def zT (m : Int) (M : MEM) (i : Nat) : Int := if (i : Int) < M 1 1 ∧ (i : Int) < m ∧ M 2 i ≤ 127 then M 2 i else -1
theorem rdC_0 {M : MEM} {m : Int} {L : Nat} (h : C_T M) (hL : M 1 1 = (L : Int)) : rdC (zT m M) L 0 (up2 (up2 M 1 2 0) 1 3 (min (M 1 1) m)) := by
  obtain ⟨t1, t2, t3, t4⟩ := h
  refine ⟨by rw [rd_k (by decide), rd_k (by decide)]; exact hL, by rw [rd_k (by decide), rd_same]; rfl, by omega, by rw [rd_same]; omega, fun i => ?_⟩
  rw [rd_same, rd_a (by decide), rd_a (by decide)]
  unfold zT
  refine ⟨fun q => ?_, fun q => ?_⟩
  · obtain ⟨a1, a2, -⟩ := t4 i (by omega)
    by_cases y : M 2 i ≤ 127
    · rw [if_pos ⟨by omega, by omega, y⟩]; exact Or.inl ⟨a1, y, rfl⟩
    · rw [if_neg (by omega)]; exact Or.inr ⟨rfl, by omega⟩
  · rw [if_neg (by omega)]
/-- the reference begins to read -/
theorem rdM_0 {M N : MEM} {m : Int} {L : Nat} (h : C_T M) (hL : M 1 1 = (L : Int)) (e : N 283 = M 283) : ∃ N', mo_begin 283 (L : Int) m N = some N' ∧ rdM (zT m M) L 0 N' ∧ (∀ c, c ≠ 278 → N' c = N c) ∧ ∀ k, (k < 14 ∨ 18 < k) → N' 278 k = N 278 k := by
  obtain ⟨t1, t2, t3, t4⟩ := h
  refine ⟨up2 (up2 (up2 (up2 (up2 N 278 14 284) 278 15 (L : Int)) 278 16 m) 278 17 0) 278 18 (-1), rfl, ⟨?_, ?_, ?_, rd_same, by omega, by omega, fun i => ?_⟩, fun c hc => ?_, fun k hk => ?_⟩
  · rw [rd_k (by decide), rd_k (by decide), rd_k (by decide), rd_k (by decide), rd_same]
  · rw [rd_k (by decide), rd_k (by decide), rd_k (by decide), rd_same]
  · rw [rd_k (by decide), rd_same]; rfl
  · rw [rd_k (k' := 16) (by decide), rd_k (k' := 16) (by decide), rd_same, up2_ne (by decide), up2_ne (by decide), up2_ne (by decide), up2_ne (by decide), up2_ne (by decide), e]
    unfold zT
    refine ⟨fun q => ?_, fun q => ?_⟩
    · obtain ⟨a1, a2, a3⟩ := t4 i (by omega)
      rw [a3]
      by_cases y : M 2 i ≤ 127
      · rw [if_pos ⟨by omega, by omega, y⟩]
        refine Or.inl ⟨a1, y, ?_⟩
        unfold sx8; omega
      · rw [if_neg (by omega)]
        refine Or.inr ⟨rfl, Or.inl ?_⟩
        unfold sx8; omega
    · rw [if_neg (by omega)]
  · rw [up2_ne hc, up2_ne hc, up2_ne hc, up2_ne hc, up2_ne hc]
  · rw [rd_k (by omega), rd_k (by omega), rd_k (by omega), rd_k (by omega), rd_k (by omega)]
