-- ===== sign =====
theorem sgn_bits (v : BitVec 32) : ∀ s : Nat, (s = 24 ∨ s = 16 ∨ s = 8 ∨ s = 0) → ((v >>> s) &&& 255#32).setWidth 8 = (v.sshiftRight s).setWidth 8 := by
  intro s hs
  apply BitVec.eq_of_getLsbD_eq
  intro i hi
  have h255 : (255#32).getLsbD i = true := by
    have : i = 0 ∨ i = 1 ∨ i = 2 ∨ i = 3 ∨ i = 4 ∨ i = 5 ∨ i = 6 ∨ i = 7 := by omega
    rcases this with rfl | rfl | rfl | rfl | rfl | rfl | rfl | rfl <;> decide
  rw [BitVec.getLsbD_setWidth, BitVec.getLsbD_setWidth, BitVec.getLsbD_and, h255, BitVec.getLsbD_ushiftRight, BitVec.getLsbD_sshiftRight]
  rw [decide_eq_true hi, if_pos (by omega), decide_eq_false (by omega : ¬ 32 ≤ i)]
  simp
theorem low8 (v : BitVec 32) : v.toInt % 256 = ((v.setWidth 8).toNat : Int) := by
  rw [BitVec.toNat_setWidth, BitVec.toInt_eq_toNat_cond]
  split <;> omega
theorem and255 (v : BitVec 32) : 0 ≤ (v &&& 255#32).toInt ∧ (v &&& 255#32).toInt ≤ 255 := by
  have h : (v &&& 255#32).toNat ≤ 255 := by rw [BitVec.toNat_and]; exact Nat.and_le_right
  rw [BitVec.toInt_eq_toNat_cond, if_pos (by omega)]
  omega
theorem sx8_mod {a b : Int} (h : a % 256 = b % 256) : sx8 a = sx8 (sx8 b) := by unfold sx8; omega
theorem sign_bv (X : Int32) : ((i_and (i_ushr X (Int32.ofInt 24)) (Int32.ofInt 255)).toBitVec = (X.toBitVec >>> 24) &&& 255#32) ∧ ((i_shr X (Int32.ofInt 24)).toBitVec = X.toBitVec.sshiftRight 24) := ⟨rfl, rfl⟩
