theorem mo_act_eq {j : Nat} (hj : j < 20) {N : MEM} : mo_act ((4 * j : Nat) : Int) N =
    if N 291 (4 * j) = 99 then
      if N 291 (4 * j + 2) ≤ 0 then some (0, N)
      else (mo_carrot (N 291 (4 * j + 1)) (N 279 165) (wr (wr (N 279 165 + N 291 (4 * j + 2)) - 1)) (N 291 (4 * j + 3)) N).bind fun p => some (if p.1 < 0 then 0 else 1, p.2)
    else if N 291 (4 * j) = 109 then
      if N 291 (4 * j + 1) ≤ 600 then (iter (fun s => mo_act_b80 (N 291 (4 * j + 1)) s.1 s.2) FU (0, N)).bind fun w => some (1, w.2)
      else some (0, N)
    else if N 291 (4 * j) = 115 then (mo_sow (N 291 (4 * j + 1)) (N 291 (4 * j + 3)) (N 291 (4 * j + 2)) N).bind fun p => some (if p.1 < 0 then 0 else 1, p.2)
    else (mo_set (N 291 (4 * j + 1)) 0 (N 291 (4 * j + 2)) N).bind fun p => some (if p.1 < 0 then 0 else 1, p.2) := by
  have pk : ∀ p : Int × MEM, (if p.1 < 0 then some (0, p.2) else some (1, p.2)) = some (if p.1 < 0 then (0 : Int) else 1, p.2) := fun p => by split <;> rfl
  unfold mo_act
  rw [wr_i (x := ((4 * j : Nat) : Int) + 1) (by omega) (by omega), wr_i (x := ((4 * j : Nat) : Int) + 2) (by omega) (by omega), wr_i (x := ((4 * j : Nat) : Int) + 3) (by omega) (by omega),
    if_pos (by omega), if_pos (by omega), if_pos (by omega), if_pos (by omega), show (((4 * j : Nat) : Int)).toNat = 4 * j by omega, show (((4 * j : Nat) : Int) + 1).toNat = 4 * j + 1 by omega, show (((4 * j : Nat) : Int) + 2).toNat = 4 * j + 2 by omega, show (((4 * j : Nat) : Int) + 3).toNat = 4 * j + 3 by omega]
  simp only [pk]
theorem dh_doAct_eq {j : Nat} (hj : j < 20) {M : MEM} : dh_doAct j M =
    if M 30 j = 99 then (dh_carrot (M 31 j) (M 3 3) (wr (wr (M 3 3 + M 33 j) - 1)) (M 32 j) M).bind fun p => some (if p.1 < 0 then 0 else 1, p.2)
    else if M 30 j = 109 then
      if M 33 j ≤ 600 then (dh_passMany (M 33 j) M).bind fun M' => some (1, M') else some (0, M)
    else if M 30 j = 115 then (dh_sow (M 31 j) (M 32 j) (M 33 j) M).bind fun p => some (if p.1 < 0 then 0 else 1, p.2)
    else (dh_setHunger (M 31 j) (M 33 j) M).bind fun p => some (if p.1 < 0 then 0 else 1, p.2) := by
  have pk : ∀ p : Int × MEM, (if p.1 < 0 then some (0, p.2) else some (1, p.2)) = some (if p.1 < 0 then (0 : Int) else 1, p.2) := fun p => by split <;> rfl
  unfold dh_doAct
  have hi : 0 ≤ (j : Int) ∧ (j : Int) < 20 := by omega
  rw [if_neg (by omega), if_pos (by omega), toNat_c]
  simp only [if_pos hi, pk]
/-- an ACT done by both, each on a memory of its own -/
theorem act_step {B : Int} {M N : MEM} {j : Nat} {k w h v : Int} (R : Rel B (mrg M N)) (hB : B ≤ 100000000) (rl : rlOk N) (e21 : N 21 3 = M 21 3) (e22 : N 22 = M 22) (wf : wfA k w h v) (hj : j < 20) (ic : inA j k w h v M) (im : inM j k w h v N) (h35 : -1000000000 ≤ N 278 35 ∧ N 278 35 ≤ 1000000000) :
    ∃ b M' N', dh_doAct j M = some (b, M') ∧ mo_act ((4 * j : Nat) : Int) N = some (b, N') ∧ (b = 0 ∨ b = 1) ∧ Rel (B + 600) (mrg M' N') ∧ dayC M M' ∧ dayM N N' ∧ N' 278 35 = N 278 35 + (sS M' - sS M) := by
  obtain ⟨a1, a2, a3, a4⟩ := ic
  obtain ⟨b1, b2, b3, b4⟩ := im
  obtain ⟨w1, w2, w3, w4, w5, w6, w7, w8⟩ := wf
  rw [dh_doAct_eq hj, mo_act_eq hj, a1, a2, a3, a4, b1, b2]
  have t1 : M 3 3 = N 279 165 := by
    have := R.D.1
    rw [mrg_lo (by decide), mrg_hi (by decide)] at this
    exact this
  have t2 : 0 ≤ M 3 3 ∧ M 3 3 ≤ B := by
    have := R.D.2
    rw [mrg_lo (by decide)] at this
    exact ⟨this.1, this.2.1⟩
  have two : ∀ r : Int, (if r < 0 then (0 : Int) else 1) = 0 ∨ (if r < 0 then (0 : Int) else 1) = 1 := fun r => by split <;> simp
  by_cases k1 : k = 99
  · rw [if_pos k1, if_pos k1, b3 (by omega), b4 (by omega)]
    by_cases hv : v ≤ 0
    · rw [if_pos hv]
      have ev : v = 0 := by omega
      have e0 : dh_carrot w (M 3 3) (wr (wr (M 3 3 + v) - 1)) h M = some (-1, M) := by
        unfold dh_carrot
        rw [wr_i (x := M 3 3 + v) (by omega) (by omega), wr_i (x := M 3 3 + v - 1) (by omega) (by omega), if_pos (show M 3 3 + v - 1 < M 3 3 by omega)]
        split
        · rfl
        split
        · rfl
        split <;> rfl
      rw [e0]
      exact ⟨0, M, N, rfl, rfl, Or.inl rfl, R.up (by omega), dayC.rf, dayM.rf, by omega⟩
    · rw [if_neg hv, if_neg (show ¬ k = 109 by omega), ← t1]
      obtain ⟨r, M', N', f1, f2, f3⟩ := ind2 (F := dh_carrot w (M 3 3) (wr (wr (M 3 3 + v) - 1)) h) (G := mo_carrot w (M 3 3) (wr (wr (M 3 3 + v) - 1)) h) mC_carrot (fun _ => mM_carrot) (c_carrot R _ _ _ _)
      rw [f1, f2]
      obtain ⟨g1, g2⟩ := carrotC _ f1
      obtain ⟨g3, g4⟩ := carrotM _ f2
      dsimp only at g1 g2 g3 g4
      exact ⟨_, M', N', rfl, rfl, two r, f3.up (by omega), g1, g3, by omega⟩
  rw [if_neg k1, if_neg k1]
  by_cases k2 : k = 109
  · rw [if_pos k2, if_pos k2, if_pos k2]
    by_cases hv : v ≤ 600
    · rw [if_pos hv, if_pos hv]
      obtain ⟨x, rfl⟩ : ∃ x : Nat, v = (x : Int) := ⟨v.toNat, by omega⟩
      have l := lock_mrg R rl e21 e22
      rw [passMany_eq (x := x) l (by omega) (by omega)]
      obtain ⟨z, N', f1, f2, f3, f4, f5⟩ := minsM (x := x) l (by omega) (by omega) h35
      rw [f1]
      have o := (l.seq (x := x) (by omega) x (Nat.le_refl _)).2.1
      refine ⟨1, _, N', rfl, rfl, Or.inr rfl, ?_, o.day, f3, f4⟩
      have R' : Rel (B + x) (mrg (passN M x) N') := by
        exact R.go (by omega) (chg_mrg o.chg f5) (by decide) (fun q => absurd q (by decide)) (fun q => absurd q (by decide)) (fun q => absurd q (by decide)) (fun _ => f2.2.2.2.2.1) (fun q => absurd q (by decide)) (fun q => absurd q (by decide)) (fun q => absurd q (by decide)) (fun q => absurd q (by decide)) (fun q => absurd q (by decide)) (fun q => absurd q (by decide)) (fun q => absurd q (by decide))
      exact R'.up (by omega)
    · rw [if_neg hv, if_neg hv]
      exact ⟨0, M, N, rfl, rfl, Or.inl rfl, R.up (by omega), dayC.rf, dayM.rf, by omega⟩
  rw [if_neg k2, if_neg k2, if_neg k2]
  rw [b3 k2]
  by_cases k3 : k = 115
  · rw [if_pos k3, if_pos k3, b4 (Or.inr k3)]
    obtain ⟨r, M', N', f1, f2, f3⟩ := ind2 (F := dh_sow w h v) (G := mo_sow w h v) mC_sow (fun _ => mM_sow) (c_sow R hB _ _ _)
    rw [f1, f2]
    obtain ⟨g1, g2⟩ := sowC _ f1
    obtain ⟨g3, g4⟩ := sowM _ f2
    dsimp only at g1 g2 g3 g4
    exact ⟨_, M', N', rfl, rfl, two r, f3.up (by omega), g1, g3, by omega⟩
  · rw [if_neg k3, if_neg k3]
    have ce : ∀ P : MEM, dh_set w 0 v P = dh_setHunger w v P := fun P => by
      unfold dh_set
      rw [if_pos rfl]
      cases dh_setHunger w v P <;> rfl
    have lk := c_set R hB w 0 v
    rw [ce] at lk
    obtain ⟨r, M', N', f1, f2, f3⟩ := ind2 (F := dh_setHunger w v) (G := mo_set w 0 v) mC_setH (fun _ => mM_set) lk
    rw [f1, f2]
    obtain ⟨g1, g2⟩ := setHC _ f1
    obtain ⟨g3, g4⟩ := setM _ f2
    dsimp only at g1 g2 g3 g4
    exact ⟨_, M', N', rfl, rfl, two r, f3.up (by omega), g1, g3, by omega⟩
