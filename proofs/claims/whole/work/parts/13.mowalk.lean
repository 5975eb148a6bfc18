-- ===== the model's steps are walkD =====
def dsM (a o : Nat) (M : MEM) : DS := (M a (o + 1), M a o, M a (o + 2), fun p => M a (o + 3 + p))
theorem mod40 (k : Int) (h : 0 ≤ k) : k.tmod 40 = k % 40 := tmod_nn h
/-- what one turn of the model's steps leaves: the donkey's row, its strokes, who ate, where -/
def offM (a o : Nat) (d : Int) (M M1 : MEM) : Prop :=
  (∀ c, c ≠ a → c ≠ 278 → c ≠ 287 → M1 c = M c) ∧ (∀ k, (k < o ∨ o + 55 ≤ k) → M1 a k = M a k) ∧ (∀ k, k ≠ 26 → k ≠ 28 → M1 278 k = M 278 k) ∧ (∀ k, k ≠ d.toNat → M1 287 k = M 287 k)
theorem offM.tr {a o : Nat} {d : Int} {M M1 M2 : MEM} (h : offM a o d M M1) (h2 : offM a o d M1 M2) : offM a o d M M2 :=
  ⟨fun c x y z => (h2.1 c x y z).trans (h.1 c x y z), fun k x => (h2.2.1 k x).trans (h.2.1 k x), fun k x y => (h2.2.2.1 k x y).trans (h.2.2.1 k x y), fun k x => (h2.2.2.2 k x).trans (h.2.2.2 k x)⟩
theorem offM.rf {a o : Nat} {d : Int} {M : MEM} : offM a o d M M := ⟨fun _ _ _ _ => rfl, fun _ _ => rfl, fun _ _ _ => rfl, fun _ _ => rfl⟩
/-- one turn's numbers -/
def turnM (a o : Nat) (d n : Int) (M M1 : MEM) : Prop :=
  M1 a (o + 1) = (oneD n (dsM a o M)).1.1 ∧ M1 a o = (oneD n (dsM a o M)).1.2.1 ∧ M1 a (o + 2) = (oneD n (dsM a o M)).1.2.2.1 ∧ (∀ p, p < 12 → M1 a (o + 3 + p) = (oneD n (dsM a o M)).1.2.2.2 p) ∧
  (∀ j : Nat, j < 40 → M1 a (o + 15 + j) = if nxt n (M a (o + 1)) = 0 ∧ (j : Int) = M a (o + 2) % 40 then M a 165 else M a (o + 15 + j)) ∧
  M1 287 d.toNat = (if nxt n (M a (o + 1)) = 0 then wr (M 287 d.toNat + 1) else M 287 d.toNat) ∧
  M1 278 26 = (if (oneD n (dsM a o M)).2 = true then ish i_or (M 278 26) (ish i_shl 1 d) else M 278 26) ∧
  M1 278 28 = (if (oneD n (dsM a o M)).2 = true ∧ d = M 278 29 then (oneD n (dsM a o M)).1.1 else M 278 28)
theorem w_x {o k : Nat} {x : Int} (hx : x = (k : Int)) (h : o + k ≤ 1000) : wr ((o : Int) + x) = ((o + k : Nat) : Int) := by rw [hx, wr_id (by unfold InR; omega)]; omega
theorem w_o {o k : Nat} (h : o + k ≤ 1000) : wr ((o : Int) + (k : Int)) = ((o + k : Nat) : Int) := w_x rfl h
/-- what is eaten at the place p -/
noncomputable def eatM (a o p : Nat) (d : Int) (M : MEM) : MEM :=
  if d = M 278 29 then up2 (up2 (up2 (up2 M a (o + 3 + p) (M a (o + 3 + p) - 1)) a o (max 0 (M a o - 2))) 278 26 (ish i_or (M 278 26) (ish i_shl 1 d))) 278 28 p
  else up2 (up2 (up2 M a (o + 3 + p) (M a (o + 3 + p) - 1)) a o (max 0 (M a o - 2))) 278 26 (ish i_or (M 278 26) (ish i_shl 1 d))
theorem mo_j102 {a o p : Nat} {d pace i : Int} {M : MEM} (ha : lenA a = 166) (ha1 : a ≠ 278) (ho : o ≤ 110) (hp : M a (o + 1) = (p : Int)) (hp12 : p < 12) (hth : 0 ≤ M a (o + 3 + p) ∧ M a (o + 3 + p) ≤ 9) (hh : 0 ≤ M a o ∧ M a o ≤ 9) (hi : 0 ≤ i) (hi4 : i < 4) :
    mo_goSteps_j102_9 a d pace (o : Int) i M = (if 0 < M a (o + 3 + p) then some (.inr (.inl (eatM a o p d M))) else some (.inl (i + 1, M))) := by
  have w1 : wr ((o : Int) + 1) = ((o + 1 : Nat) : Int) := (wr_i (x := (o : Int) + 1) (by omega) (by omega)).trans (by omega)
  have w3 : wr ((o : Int) + 3) = ((o + 3 : Nat) : Int) := (wr_i (x := (o : Int) + 3) (by omega) (by omega)).trans (by omega)
  have wpp : wr (((o + 3 : Nat) : Int) + (p : Int)) = ((o + 3 + p : Nat) : Int) := w_o (by omega)
  have b1 : 0 ≤ ((o + 1 : Nat) : Int) ∧ ((o + 1 : Nat) : Int) < ((166 : Nat) : Int) := by omega
  have b0 : 0 ≤ (o : Int) ∧ (o : Int) < ((166 : Nat) : Int) := by omega
  have bp : 0 ≤ ((o + 3 + p : Nat) : Int) ∧ ((o + 3 + p : Nat) : Int) < ((166 : Nat) : Int) := by omega
  have wi : wr (i + 1) = i + 1 := wr_i (by omega) (by omega)
  have wt : wr (M a (o + 3 + p) - 1) = M a (o + 3 + p) - 1 := wr_i (by omega) (by omega)
  have wh : wr (M a o - 2) = M a o - 2 := wr_i (by omega) (by omega)
  have r1 : up2 M a (o + 3 + p) (M a (o + 3 + p) - 1) a o = M a o := rd_k (by omega)
  unfold mo_goSteps_j102_9
  simp only [ha, w1, toNat_c, hp, w3, wpp, wi, wt]
  rw [if_pos b1, if_pos bp]
  by_cases he : 0 < M a (o + 3 + p)
  · rw [if_pos he, if_neg (by omega), if_pos bp, if_pos bp, Option.bind_some, if_pos b0, if_pos b0, Option.bind_some, Option.bind_some, r1, wh]
    have q1 : up2 (up2 M a (o + 3 + p) (M a (o + 3 + p) - 1)) a o (max 0 (M a o - 2)) 278 26 = M 278 26 := by rw [rd_a (by omega), rd_a (by omega)]
    rw [q1]
    have q2 : up2 (up2 (up2 M a (o + 3 + p) (M a (o + 3 + p) - 1)) a o (max 0 (M a o - 2))) 278 26 (ish i_or (M 278 26) (ish i_shl 1 d)) 278 29 = M 278 29 := by rw [rd_k (by omega), rd_a (by omega), rd_a (by omega)]
    have q3 : up2 (up2 (up2 M a (o + 3 + p) (M a (o + 3 + p) - 1)) a o (max 0 (M a o - 2))) 278 26 (ish i_or (M 278 26) (ish i_shl 1 d)) a (o + 1) = (p : Int) := by rw [rd_a (by omega), rd_k (by omega), rd_k (by omega), hp]
    rw [q2, q3]
    unfold eatM
    by_cases hd : d = M 278 29
    · rw [if_pos hd, if_pos hd, if_pos b1, Option.bind_some]
    · rw [if_neg hd, if_neg hd]
  · rw [if_neg he, if_pos (by omega)]
/-- the cells when PLACE 0 is stepped onto -/
noncomputable def strM (a o : Nat) (d : Int) (M : MEM) : MEM :=
  up2 (up2 (up2 (up2 (up2 M a (o + 1) 0) a (o + 15 + (M a (o + 2) % 40).toNat) (M a 165)) a (o + 2) (M a (o + 2) + 1)) a o (min 9 (M a o + 1))) 287 d.toNat (wr (M 287 d.toNat + 1))
theorem mo_b9 {a o : Nat} {d n pace i : Int} {M : MEM} (ha : lenA a = 166) (ha3 : a ≠ 287) (ho : o ≤ 110) (hd0 : 0 ≤ d) (hd3 : d < 3) (hn : M 280 d.toNat = n) (hd : okD n (dsM a o M)) (hk : M a (o + 2) + 1 < 1073741824) (hip : i < pace) :
    mo_goSteps_b9 a d pace (o : Int) i M = if nxt n (M a (o + 1)) = 0 then mo_goSteps_j102_9 a d pace (o : Int) i (strM a o d M) else mo_goSteps_j102_9 a d pace (o : Int) i (up2 M a (o + 1) (nxt n (M a (o + 1)))) := by
  obtain ⟨d1, d2, d3, d4, d5, d6, d7, d8, d9⟩ := hd
  simp only [dsM] at d3 d4 d5 d6 d7 d8 d9
  have w1 : wr ((o : Int) + 1) = ((o + 1 : Nat) : Int) := (wr_i (x := (o : Int) + 1) (by omega) (by omega)).trans (by omega)
  have w2 : wr ((o : Int) + 2) = ((o + 2 : Nat) : Int) := (wr_i (x := (o : Int) + 2) (by omega) (by omega)).trans (by omega)
  have w15 : wr ((o : Int) + 15) = ((o + 15 : Nat) : Int) := (wr_i (x := (o : Int) + 15) (by omega) (by omega)).trans (by omega)
  have b1 : 0 ≤ ((o + 1 : Nat) : Int) ∧ ((o + 1 : Nat) : Int) < ((166 : Nat) : Int) := by omega
  have b2 : 0 ≤ ((o + 2 : Nat) : Int) ∧ ((o + 2 : Nat) : Int) < ((166 : Nat) : Int) := by omega
  have b0 : 0 ≤ (o : Int) ∧ (o : Int) < ((166 : Nat) : Int) := by omega
  have bd : 0 ≤ d ∧ d < 3 := ⟨hd0, hd3⟩
  have b165 : 0 ≤ (165 : Int) ∧ (165 : Int) < ((166 : Nat) : Int) := by omega
  have wp : wr (M a (o + 1) + 1) = M a (o + 1) + 1 := wr_i (by omega) (by omega)
  have wk1 : wr (M a (o + 2) + 1) = M a (o + 2) + 1 := wr_i (by omega) (by omega)
  have wh : wr (M a o + 1) = M a o + 1 := wr_i (by omega) (by omega)
  have hmod : (M a (o + 2)).tmod 40 = (((M a (o + 2) % 40).toNat : Nat) : Int) := by rw [mod40 _ d7]; omega
  have hq40 : (M a (o + 2) % 40).toNat < 40 := by omega
  have htm : (M a (o + 1) + 1).tmod n = nxt n (M a (o + 1)) := by
    unfold nxt
    rw [tmod_nn (by omega)]
    split
    · rw [Int.emod_eq_of_lt (by omega) (by omega)]
    · rw [show M a (o + 1) + 1 = n by omega, Int.emod_self]
  have t165 : (165 : Int).toNat = 165 := rfl
  unfold mo_goSteps_b9
  rw [if_neg (by omega)]
  simp only [ha, w1, w2, w15, toNat_c, t165]
  rw [if_pos b1, if_pos bd, hn, if_neg (by omega), if_pos b1, wp, htm, Option.bind_some, if_pos b1, rd_same]
  by_cases hz : nxt n (M a (o + 1)) = 0
  · rw [if_pos hz, if_pos hz, if_pos b2, if_pos b165]
    have r2 : up2 M a (o + 1) (nxt n (M a (o + 1))) a (o + 2) = M a (o + 2) := rd_k (by omega)
    have r165 : up2 M a (o + 1) (nxt n (M a (o + 1))) a 165 = M a 165 := rd_k (by omega)
    rw [r2, r165, hmod]
    generalize hq : (M a (o + 2) % 40).toNat = q at *
    have wq : wr (((o + 15 : Nat) : Int) + (q : Int)) = ((o + 15 + q : Nat) : Int) := w_o (by omega)
    have bq : 0 ≤ ((o + 15 + q : Nat) : Int) ∧ ((o + 15 + q : Nat) : Int) < ((166 : Nat) : Int) := by omega
    rw [wq, if_pos bq, Option.bind_some, if_pos b2, if_pos b2, Option.bind_some, if_pos b0, if_pos b0, Option.bind_some, if_pos bd, if_pos bd, Option.bind_some]
    simp only [toNat_c]
    have s1 : up2 (up2 M a (o + 1) (nxt n (M a (o + 1)))) a (o + 15 + q) (M a 165) a (o + 2) = M a (o + 2) := by rw [rd_k (by omega), r2]
    rw [s1, wk1]
    have s2 : up2 (up2 (up2 M a (o + 1) (nxt n (M a (o + 1)))) a (o + 15 + q) (M a 165)) a (o + 2) (M a (o + 2) + 1) a o = M a o := by rw [rd_k (by omega), rd_k (by omega), rd_k (by omega)]
    rw [s2, wh]
    have s3 : up2 (up2 (up2 (up2 M a (o + 1) (nxt n (M a (o + 1)))) a (o + 15 + q) (M a 165)) a (o + 2) (M a (o + 2) + 1)) a o (min 9 (M a o + 1)) 287 d.toNat = M 287 d.toNat := by rw [rd_a (by omega), rd_a (by omega), rd_a (by omega), rd_a (by omega)]
    rw [s3]
    unfold strM
    rw [hq, hz]
  · rw [if_neg hz, if_neg hz]
theorem strM_facts {a o q : Nat} {d : Int} {M S : MEM} (hS : strM a o d M = S) (ha1 : a ≠ 278) (ha3 : a ≠ 287) (ho : o ≤ 110) (hq : M a (o + 2) % 40 = (q : Int)) (hq40 : q < 40) :
    S a (o + 1) = 0 ∧ S a o = min 9 (M a o + 1) ∧ S a (o + 2) = M a (o + 2) + 1 ∧ (∀ j, j < 12 → S a (o + 3 + j) = M a (o + 3 + j)) ∧ (∀ j, j < 40 → S a (o + 15 + j) = if j = q then M a 165 else M a (o + 15 + j)) ∧ S 287 d.toNat = wr (M 287 d.toNat + 1) ∧ (∀ k, S 278 k = M 278 k) ∧ offM a o d M S := by
  unfold strM at hS
  rw [hq, toNat_c] at hS
  subst hS
  refine ⟨?_, ?_, ?_, fun j hj => ?_, fun j hj => ?_, ?_, fun k => ?_, fun c x y z => ?_, fun k x => ?_, fun k _ _ => ?_, fun k x => ?_⟩
  · simp (disch := omega) only [rd_same, rd_k, rd_a]
  · simp (disch := omega) only [rd_same, rd_k, rd_a]
  · simp (disch := omega) only [rd_same, rd_k, rd_a]
  · simp (disch := omega) only [rd_same, rd_k, rd_a]
  · by_cases e : j = q
    · subst e; rw [if_pos rfl]; simp (disch := omega) only [rd_same, rd_k, rd_a]
    · rw [if_neg e]; simp (disch := omega) only [rd_same, rd_k, rd_a]
  · simp (disch := omega) only [rd_same]
  · simp (disch := omega) only [rd_a]
  · funext k; simp (disch := omega) only [rd_a]
  · simp (disch := omega) only [rd_k, rd_a]
  · simp (disch := omega) only [rd_a]
  · simp (disch := omega) only [rd_k, rd_a]
theorem eatM_facts {a o p : Nat} {d : Int} {M S : MEM} (hS : eatM a o p d M = S) (ha1 : a ≠ 278) (ha3 : a ≠ 287) (hp12 : p < 12) :
    S a (o + 1) = M a (o + 1) ∧ S a o = max 0 (M a o - 2) ∧ S a (o + 2) = M a (o + 2) ∧ (∀ j, j < 12 → S a (o + 3 + j) = if j = p then M a (o + 3 + p) - 1 else M a (o + 3 + j)) ∧ (∀ j, S a (o + 15 + j) = M a (o + 15 + j)) ∧ (∀ k, S 287 k = M 287 k) ∧ S 278 26 = ish i_or (M 278 26) (ish i_shl 1 d) ∧ S 278 28 = (if d = M 278 29 then (p : Int) else M 278 28) ∧ offM a o d M S := by
  unfold eatM at hS
  have h : S = (if d = M 278 29 then up2 (up2 (up2 (up2 M a (o + 3 + p) (M a (o + 3 + p) - 1)) a o (max 0 (M a o - 2))) 278 26 (ish i_or (M 278 26) (ish i_shl 1 d))) 278 28 p else up2 (up2 (up2 M a (o + 3 + p) (M a (o + 3 + p) - 1)) a o (max 0 (M a o - 2))) 278 26 (ish i_or (M 278 26) (ish i_shl 1 d))) := hS.symm
  clear hS
  generalize ish i_or (M 278 26) (ish i_shl 1 d) = z at h
  by_cases hd : d = M 278 29
  · rw [if_pos hd] at h ⊢
    clear hd
    subst h
    refine ⟨?_, ?_, ?_, fun j hj => ?_, fun j => ?_, fun k => ?_, ?_, ?_, fun c x y z => ?_, fun k x => ?_, fun k _ _ => ?_, fun k x => ?_⟩
    · simp (disch := omega) only [rd_same, rd_k, rd_a]
    · simp (disch := omega) only [rd_same, rd_k, rd_a]
    · simp (disch := omega) only [rd_same, rd_k, rd_a]
    · by_cases e : j = p
      · subst e; rw [if_pos rfl]; simp (disch := omega) only [rd_same, rd_k, rd_a]
      · rw [if_neg e]; simp (disch := omega) only [rd_same, rd_k, rd_a]
    · simp (disch := omega) only [rd_same, rd_k, rd_a]
    · simp (disch := omega) only [rd_a]
    · simp (disch := omega) only [rd_same, rd_k]
    · simp (disch := omega) only [rd_same]
    · funext k; simp (disch := omega) only [rd_a]
    · simp (disch := omega) only [rd_k, rd_a]
    · simp (disch := omega) only [rd_k, rd_a]
    · simp (disch := omega) only [rd_a]
  · rw [if_neg hd] at h ⊢
    clear hd
    subst h
    refine ⟨?_, ?_, ?_, fun j hj => ?_, fun j => ?_, fun k => ?_, ?_, ?_, fun c x y z => ?_, fun k x => ?_, fun k _ _ => ?_, fun k x => ?_⟩
    · simp (disch := omega) only [rd_same, rd_k, rd_a]
    · simp (disch := omega) only [rd_same, rd_k, rd_a]
    · simp (disch := omega) only [rd_same, rd_k, rd_a]
    · by_cases e : j = p
      · subst e; rw [if_pos rfl]; simp (disch := omega) only [rd_same, rd_k, rd_a]
      · rw [if_neg e]; simp (disch := omega) only [rd_same, rd_k, rd_a]
    · simp (disch := omega) only [rd_same, rd_k, rd_a]
    · simp (disch := omega) only [rd_a]
    · simp (disch := omega) only [rd_same]
    · simp (disch := omega) only [rd_k, rd_a]
    · funext k; simp (disch := omega) only [rd_a]
    · simp (disch := omega) only [rd_k, rd_a]
    · simp (disch := omega) only [rd_k, rd_a]
    · simp (disch := omega) only [rd_a]
theorem mo_fin {a o p q : Nat} {d n pace i : Int} {M S : MEM} (ha : lenA a = 166) (ha1 : a ≠ 278) (ha3 : a ≠ 287) (ho : o ≤ 110) (hpn : nxt n (M a (o + 1)) = (p : Int)) (hp12 : p < 12) (hq : M a (o + 2) % 40 = (q : Int)) (hi : 0 ≤ i) (hi4 : i < 4)
    (hth : 0 ≤ M a (o + 3 + p) ∧ M a (o + 3 + p) ≤ 9) (hh : 0 ≤ M a o ∧ M a o ≤ 9)
    (s1 : S a (o + 1) = (p : Int)) (s2 : S a o = if p = 0 then min 9 (M a o + 1) else M a o) (s3 : S a (o + 2) = if p = 0 then M a (o + 2) + 1 else M a (o + 2)) (s4 : ∀ j, j < 12 → S a (o + 3 + j) = M a (o + 3 + j))
    (s5 : ∀ j, j < 40 → S a (o + 15 + j) = if p = 0 ∧ j = q then M a 165 else M a (o + 15 + j)) (s6 : S 287 d.toNat = if p = 0 then wr (M 287 d.toNat + 1) else M 287 d.toNat) (s7 : ∀ k, S 278 k = M 278 k) (s8 : offM a o d M S) :
    ∃ M1, mo_goSteps_j102_9 a d pace (o : Int) i S = (if (oneD n (dsM a o M)).2 = true then some (.inr (.inl M1)) else some (.inl (i + 1, M1))) ∧ turnM a o d n M M1 ∧ offM a o d M M1 := by
  have hS4 := s4 p hp12
  have hSh : 0 ≤ S a o ∧ S a o ≤ 9 := by rw [s2]; split <;> omega
  rw [mo_j102 ha ha1 ho s1 hp12 (by rw [hS4]; exact hth) hSh hi hi4, hS4]
  have ea : (oneD n (dsM a o M)).2 = decide (0 < M a (o + 3 + p)) := by
    rw [oneD_ate]; simp only [dsM, hpn, toNat_c]
  have e1 : (oneD n (dsM a o M)).1.1 = (p : Int) := by rw [oneD_place]; exact hpn
  have eh : (oneD n (dsM a o M)).1.2.1 = if 0 < M a (o + 3 + p) then max 0 (S a o - 2) else S a o := by
    have e0 : ((p : Int) = 0) ↔ p = 0 := by omega
    rw [oneD_hunger, s2]; simp only [dsM, hpn, toNat_c, e0]
  have ek : (oneD n (dsM a o M)).1.2.2.1 = S a (o + 2) := by
    rw [oneD_strokes, s3]; simp only [dsM, hpn]
    by_cases hz : p = 0
    · subst hz; rfl
    · rw [if_neg hz, if_neg (by omega)]
  have et : (oneD n (dsM a o M)).1.2.2.2 = if 0 < M a (o + 3 + p) then up1 (fun j => M a (o + 3 + j)) p (M a (o + 3 + p) - 1) else fun j => M a (o + 3 + j) := by
    rw [oneD_th]; simp only [dsM, hpn, toNat_c]
  have ez : (nxt n (M a (o + 1)) = 0) ↔ p = 0 := by rw [hpn]; omega
  have el : ∀ j : Nat, (nxt n (M a (o + 1)) = 0 ∧ (j : Int) = M a (o + 2) % 40) ↔ (p = 0 ∧ j = q) := fun j => by rw [ez, hq]; omega
  by_cases he : 0 < M a (o + 3 + p)
  · obtain ⟨f1, f2, f3, f4, f5, f6, f7, f8, f9⟩ := eatM_facts (S := eatM a o p d S) rfl ha1 ha3 hp12
    refine ⟨eatM a o p d S, ?_, ⟨?_, ?_, ?_, fun j hj => ?_, fun j hj => ?_, ?_, ?_, ?_⟩, s8.tr f9⟩
    · rw [if_pos he, if_pos (by rw [ea]; exact decide_eq_true he)]
    · rw [f1, s1, e1]
    · rw [f2, eh, if_pos he]
    · rw [f3, ek]
    · rw [f4 j hj, et, if_pos he, hS4, s4 j hj, up1_at]
    · rw [f5, s5 j hj]
      by_cases hc : p = 0 ∧ j = q
      · rw [if_pos hc, if_pos ((el j).mpr hc)]
      · rw [if_neg hc, if_neg (fun x => hc ((el j).mp x))]
    · rw [f6, s6]
      by_cases hc : p = 0
      · rw [if_pos hc, if_pos (ez.mpr hc)]
      · rw [if_neg hc, if_neg (fun x => hc (ez.mp x))]
    · rw [f7, s7, if_pos (by rw [ea]; exact decide_eq_true he)]
    · rw [f8, s7, s7, e1]
      by_cases hd : d = M 278 29
      · rw [if_pos hd, if_pos ⟨by rw [ea]; exact decide_eq_true he, hd⟩]
      · rw [if_neg hd, if_neg (fun x => hd x.2)]
  · have hf : ¬ (oneD n (dsM a o M)).2 = true := by rw [ea]; simpa using he
    refine ⟨S, ?_, ⟨?_, ?_, ?_, fun j hj => ?_, fun j hj => ?_, ?_, ?_, ?_⟩, s8⟩
    · rw [if_neg he, if_neg hf]
    · rw [s1, e1]
    · rw [eh, if_neg he]
    · rw [ek]
    · rw [s4 j hj, et, if_neg he]
    · rw [s5 j hj]
      by_cases hc : p = 0 ∧ j = q
      · rw [if_pos hc, if_pos ((el j).mpr hc)]
      · rw [if_neg hc, if_neg (fun x => hc ((el j).mp x))]
    · rw [s6]
      by_cases hc : p = 0
      · rw [if_pos hc, if_pos (ez.mpr hc)]
      · rw [if_neg hc, if_neg (fun x => hc (ez.mp x))]
    · rw [s7, if_neg hf]
    · rw [s7, if_neg (fun x => hf x.1)]
theorem mo_step {a o : Nat} {d n pace i : Int} {M : MEM} (ha : lenA a = 166) (ha1 : a ≠ 278) (ha3 : a ≠ 287) (ho : o ≤ 110) (hd0 : 0 ≤ d) (hd3 : d < 3) (hn : M 280 d.toNat = n) (hd : okD n (dsM a o M)) (hk : M a (o + 2) + 1 < 1073741824) (hi : 0 ≤ i) (hip : i < pace) (hp : pace ≤ 4) :
    ∃ M1, mo_goSteps_b9 a d pace (o : Int) i M = (if (oneD n (dsM a o M)).2 = true then some (.inr (.inl M1)) else some (.inl (i + 1, M1))) ∧ turnM a o d n M M1 ∧ offM a o d M M1 := by
  rw [mo_b9 ha ha3 ho hd0 hd3 hn hd hk hip]
  obtain ⟨d1, d2, d3, d4, d5, d6, d7, d8, d9⟩ := hd
  simp only [dsM] at d3 d4 d5 d6 d7 d8 d9
  have hx := nxt_in (n := n) (p := M a (o + 1)) (by omega) d3
  obtain ⟨p, hpn, hp12⟩ : ∃ p : Nat, nxt n (M a (o + 1)) = (p : Int) ∧ p < 12 := ⟨(nxt n (M a (o + 1))).toNat, by omega, by omega⟩
  obtain ⟨q, hq, hq40⟩ : ∃ q : Nat, M a (o + 2) % 40 = (q : Int) ∧ q < 40 := ⟨(M a (o + 2) % 40).toNat, by omega, by omega⟩
  have hth := d9 p (by omega)
  by_cases hz : p = 0
  · obtain ⟨f1, f2, f3, f4, f5, f6, f7, f8⟩ := strM_facts (S := strM a o d M) rfl ha1 ha3 ho hq hq40
    rw [if_pos (by omega)]
    refine mo_fin ha ha1 ha3 ho hpn hp12 hq hi (by omega) hth ⟨d5, d6⟩ (by rw [f1, hz]; rfl) (by rw [f2, if_pos hz]) (by rw [f3, if_pos hz]) f4 (fun j hj => ?_) (by rw [f6, if_pos hz]) f7 f8
    rw [f5 j hj]
    by_cases hc : j = q
    · rw [if_pos hc, if_pos ⟨hz, hc⟩]
    · rw [if_neg hc, if_neg (fun x => hc x.2)]
  · rw [if_neg (by omega), hpn]
    refine mo_fin ha ha1 ha3 ho hpn hp12 hq hi (by omega) hth ⟨d5, d6⟩ rd_same (by rw [if_neg hz]; exact rd_k (by omega)) (by rw [if_neg hz]; exact rd_k (by omega)) (fun j _ => rd_k (by omega)) (fun j _ => by rw [if_neg (fun x => hz x.1)]; exact rd_k (by omega)) (by rw [if_neg hz]; exact rd_a (by omega)) (fun k => rd_a (by omega)) ⟨fun c x y z => up2_ne x, fun k x => rd_k (by omega), fun k _ _ => rd_a (by omega), fun k _ => rd_a (by omega)⟩
