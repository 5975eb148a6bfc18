-- ----- class and reference each on a memory of its own -----
theorem mrg_up_lo {M N : MEM} {c k : Nat} {x : Int} (h : c ≤ 277) : up2 (mrg M N) c k x = mrg (up2 M c k x) N := by
  funext a b
  by_cases e : a = c
  · subst e
    rw [mrg_lo h]
    by_cases f : b = k
    · subst f; rw [rd_same, rd_same]
    · rw [rd_k f, rd_k f, mrg_lo h]
  · rw [rd_a e]
    by_cases g : a ≤ 277
    · rw [mrg_lo g, mrg_lo g, rd_a e]
    · rw [mrg_hi (by omega), mrg_hi (by omega)]
theorem mrg_up_hi {M N : MEM} {c k : Nat} {x : Int} (h : 277 < c) : up2 (mrg M N) c k x = mrg M (up2 N c k x) := by
  funext a b
  by_cases e : a = c
  · subst e
    rw [mrg_hi h]
    by_cases f : b = k
    · subst f; rw [rd_same, rd_same]
    · rw [rd_k f, rd_k f, mrg_hi h]
  · rw [rd_a e]
    by_cases g : a ≤ 277
    · rw [mrg_lo g, mrg_lo g]
    · rw [mrg_hi (by omega), mrg_hi (by omega), rd_a e]
def mpC (N : MEM) (o : Option (Int × MEM)) : Option (Int × MEM) := o.map fun p => (p.1, mrg p.2 N)
def mpM (M : MEM) (o : Option (Int × MEM)) : Option (Int × MEM) := o.map fun p => (p.1, mrg M p.2)
theorem mpC_s {N M : MEM} {r : Int} : mpC N (some (r, M)) = some (r, mrg M N) := rfl
theorem mpC_n {N : MEM} : mpC N none = none := rfl
theorem mpC_i {N : MEM} {c : Prop} [Decidable c] {a b : Option (Int × MEM)} : mpC N (if c then a else b) = if c then mpC N a else mpC N b := by split <;> rfl
theorem mpM_s {N M : MEM} {r : Int} : mpM M (some (r, N)) = some (r, mrg M N) := rfl
theorem mpM_n {M : MEM} : mpM M none = none := rfl
theorem mpM_i {M : MEM} {c : Prop} [Decidable c] {a b : Option (Int × MEM)} : mpM M (if c then a else b) = if c then mpM M a else mpM M b := by split <;> rfl
theorem mC_isD {x : Int} {M N : MEM} : dh_isDonkey x (mrg M N) = dh_isDonkey x M := by unfold dh_isDonkey; rw [mrg_lo (by decide)]
theorem mC_add {x1 x2 x3 x4 : Int} {M N : MEM} : ca_add 5 x1 x2 x3 x4 (mrg M N) = mpC N (ca_add 5 x1 x2 x3 x4 M) := by
  unfold ca_add
  simp only [Option.bind_some, mpC_i, mpC_s, mpC_n, mrg_up_lo (show 5 ≤ 277 by decide), mrg_up_lo (show 6 ≤ 277 by decide), mrg_up_lo (show 7 ≤ 277 by decide), mrg_up_lo (show 8 ≤ 277 by decide), mrg_up_lo (show 9 ≤ 277 by decide), mrg_lo (show 5 ≤ 277 by decide), Nat.reduceAdd]
theorem mC_carrot {x1 x2 x3 x4 : Int} {M N : MEM} : dh_carrot x1 x2 x3 x4 (mrg M N) = mpC N (dh_carrot x1 x2 x3 x4 M) := by
  unfold dh_carrot
  rw [mC_isD, mC_add]
  simp only [mpC_i, mpC_s, mrg_lo (show 5 ≤ 277 by decide)]
  cases ca_add 5 x1 x2 x3 x4 M with
  | none => rfl
  | some p =>
    rw [show mpC N (some p) = some (p.1, mrg p.2 N) from rfl, Option.bind_some, Option.bind_some]
    simp only [mpC_i, mpC_s]
theorem mC_isP {x y : Int} {M N : MEM} : dh_isPlace x y (mrg M N) = dh_isPlace x y M := by
  unfold dh_isPlace
  rw [mC_isD]
  by_cases h : 0 ≤ x ∧ x < 3
  · rw [mrg_lo (show 10 + 3 * x.toNat ≤ 277 by omega)]
  · rw [if_neg h, if_neg h]
theorem mC_put {b : Nat} {x v : Int} {M N : MEM} (hb : b + 1 ≤ 277) : be_put b x v (mrg M N) = (be_put b x v M).map fun p => mrg p N := by
  unfold be_put
  by_cases a1 : x < 0
  · rw [if_pos a1, if_pos a1]; rfl
  rw [if_neg a1, if_neg a1]
  by_cases a2 : 12 ≤ x
  · rw [if_pos a2, if_pos a2]; rfl
  rw [if_neg a2, if_neg a2, if_pos (by omega), if_pos (by omega), mrg_up_lo hb]
  rfl
theorem mC_sow {x1 x2 x3 : Int} {M N : MEM} : dh_sow x1 x2 x3 (mrg M N) = mpC N (dh_sow x1 x2 x3 M) := by
  unfold dh_sow
  rw [mC_isP]
  cases dh_isPlace x1 x2 M with
  | none => rfl
  | some r =>
    rw [Option.bind_some, Option.bind_some]
    by_cases h : 0 ≤ x1 ∧ x1 < 3
    · have hb : 10 + 3 * x1.toNat + 1 ≤ 277 := by omega
      rw [if_pos h, if_pos h, mC_put hb]
      unfold be_thistlesOn
      rw [mrg_lo hb]
      simp only [mpC_i, mpC_s]
      cases be_put (10 + 3 * x1.toNat) x2 x3 M with
      | none =>
        rw [Option.map_none]
        split
        · rfl
        split
        · rfl
        split
        · split
          · rfl
          split
          · rfl
          split <;> rfl
        · rfl
      | some p =>
        rw [Option.map_some]
        split
        · rfl
        split
        · rfl
        split
        · split
          · rfl
          split
          · rfl
          split <;> rfl
        · rfl
    · rw [if_neg h, if_neg h]
      simp only [mpC_i, mpC_s, mpC_n]
theorem mC_setH {x1 x2 : Int} {M N : MEM} : dh_setHunger x1 x2 (mrg M N) = mpC N (dh_setHunger x1 x2 M) := by
  unfold dh_setHunger
  rw [mC_isD]
  by_cases h : 0 ≤ x1 ∧ x1 < 3
  · have hb : 10 + 3 * x1.toNat ≤ 277 := by omega
    rw [if_pos h, if_pos h, mrg_up_lo hb, mrg_lo hb]
    simp only [mpC_i, mpC_s, Option.bind_some]
  · rw [if_neg h, if_neg h]
    simp only [mpC_i, mpC_s, mpC_n]
theorem mM_isD {x : Int} {M N : MEM} : mo_isDonkey x (mrg M N) = mo_isDonkey x N := by unfold mo_isDonkey; rw [mrg_hi (by decide)]
theorem mM_isP {x y : Int} {M N : MEM} : mo_isPlace x y (mrg M N) = mo_isPlace x y N := by unfold mo_isPlace; rw [mM_isD, mrg_hi (by decide)]
theorem mM_carrot {x1 x2 x3 x4 : Int} {M N : MEM} : mo_carrot x1 x2 x3 x4 (mrg M N) = mpM M (mo_carrot x1 x2 x3 x4 N) := by
  unfold mo_carrot mo_carrot_j49 mo_layCarrot
  simp only [Option.bind_some, mrg_up_hi (show 277 < 278 by decide), mM_isD]
  by_cases a1 : 0 ≤ wr (4 * up2 N 278 13 0 278 7) ∧ wr (4 * up2 N 278 13 0 278 7) < 48
  · by_cases a2 : 0 ≤ wr (wr (4 * up2 N 278 13 0 278 7) + 1) ∧ wr (wr (4 * up2 N 278 13 0 278 7) + 1) < 48
    · by_cases a3 : 0 ≤ wr (wr (4 * up2 N 278 13 0 278 7) + 2) ∧ wr (wr (4 * up2 N 278 13 0 278 7) + 2) < 48
      · by_cases a4 : 0 ≤ wr (wr (4 * up2 N 278 13 0 278 7) + 3) ∧ wr (wr (4 * up2 N 278 13 0 278 7) + 3) < 48
        · simp only [if_pos a1, if_pos a2, if_pos a3, if_pos a4, Option.bind_some, mpM_i, mpM_s, mpM_n, mrg_up_hi (show 277 < 278 by decide), mrg_up_hi (show 277 < 282 by decide), mrg_hi (show 277 < 278 by decide)]
        · simp only [if_pos a1, if_pos a2, if_pos a3, if_neg a4, Option.bind_some, Option.bind_none, mpM_i, mpM_s, mpM_n, mrg_up_hi (show 277 < 278 by decide), mrg_up_hi (show 277 < 282 by decide), mrg_hi (show 277 < 278 by decide)]
      · simp only [if_pos a1, if_pos a2, if_neg a3, Option.bind_some, Option.bind_none, mpM_i, mpM_s, mpM_n, mrg_up_hi (show 277 < 278 by decide), mrg_up_hi (show 277 < 282 by decide), mrg_hi (show 277 < 278 by decide)]
    · simp only [if_pos a1, if_neg a2, Option.bind_some, Option.bind_none, mpM_i, mpM_s, mpM_n, mrg_up_hi (show 277 < 278 by decide), mrg_up_hi (show 277 < 282 by decide), mrg_hi (show 277 < 278 by decide)]
  · simp only [if_neg a1, Option.bind_some, Option.bind_none, mpM_i, mpM_s, mpM_n, mrg_up_hi (show 277 < 278 by decide), mrg_up_hi (show 277 < 282 by decide), mrg_hi (show 277 < 278 by decide)]
theorem mM_sow {x1 x2 x3 : Int} {M N : MEM} : mo_sow x1 x2 x3 (mrg M N) = mpM M (mo_sow x1 x2 x3 N) := by
  unfold mo_sow
  simp only [Option.bind_some, mrg_up_hi (show 277 < 278 by decide), mM_isP]
  cases mo_isPlace x1 x2 (up2 N 278 13 0) with
  | none => rfl
  | some r => simp only [Option.bind_some, mpM_i, mpM_s, mpM_n, mrg_up_hi (show 277 < 279 by decide), mrg_hi (show 277 < 279 by decide)]
theorem mM_set {x1 x3 : Int} {M N : MEM} : mo_set x1 0 x3 (mrg M N) = mpM M (mo_set x1 0 x3 N) := by
  unfold mo_set mo_set_j41
  simp only [Option.bind_some, mrg_up_hi (show 277 < 278 by decide), mM_isD, if_pos, mpM_i, mpM_s, mpM_n, mrg_up_hi (show 277 < 279 by decide), mrg_hi (show 277 < 279 by decide), mrg_hi (show 277 < 280 by decide)]
