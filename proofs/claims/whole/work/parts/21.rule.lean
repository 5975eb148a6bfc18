-- ===== the reference's PACE (for now without proof) =====
noncomputable def envM (M : MEM) : EN := (flM M, hrM M, codeV (M 21 3) (M 22))
def emOk (M : MEM) : Prop := (0 ≤ M 278 4 ∧ M 278 4 ≤ 40) ∧ (0 ≤ M 278 7 ∧ M 278 7 ≤ 10) ∧ (0 ≤ M 278 8 ∧ M 278 8 ≤ 2) ∧ howOkM M
/-- what the reference's PACE changes -/
def offP (M M' : MEM) : Prop := (∀ c, c ≠ 278 → M' c = M c) ∧ ∀ k, (k < 14 ∨ 18 < k) → k ≠ 22 → k ≠ 23 → M' 278 k = M 278 k
theorem offP.rf {M : MEM} : offP M M := ⟨fun _ _ => rfl, fun _ _ _ _ => rfl⟩
theorem offP.tr {M M1 M2 : MEM} (h : offP M M1) (g : offP M1 M2) : offP M M2 := ⟨fun c a => (g.1 c a).trans (h.1 c a), fun k a b c => (g.2 k a b c).trans (h.2 k a b c)⟩
def rlOk (M : MEM) : Prop := codeOk (M 21 3) (M 22)
theorem rlOk.code {M : MEM} (h : rlOk M) : codeOk (M 21 3) (M 22) := h
theorem rlOk.cg {M M' : MEM} (h : ∀ a k, rg a k = 3 → M' a k = M a k) (g : rlOk M) : rlOk M' := by
  have e : M' 22 = M 22 := funext fun k => h 22 k rfl
  unfold rlOk at *
  rw [h 21 3 rfl, e]
  exact g
theorem mo_pace_eq {a o : Nat} {d n : Int} {M : MEM} (ha : a = 279 ∨ a = 292) (hR : rlOk M) (he : emOk M) (hod : (o : Int) = 55 * d) (hd0 : 0 ≤ d) (hd3 : d < 3) (hD : okD n (dsM a o M)) (ht : 0 ≤ M a 165) : ∃ M', mo_pace a d M = some (paceD (envM M) d (M a 165) (dsM a o M), M') ∧ offP M M' := by
  sorry
