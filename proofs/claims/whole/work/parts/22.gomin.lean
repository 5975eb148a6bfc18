-- ===== a MINUTE of the reference =====
def w2 (i : Nat) : Int := if i = 0 then 1 else if i = 1 then 2 else 4
def bitsI (P : Nat → Bool) (i : Nat) : Int := sumN (fun d => if P d = true then w2 d else 0) i
theorem bitsI_S (P : Nat → Bool) (i : Nat) : bitsI P (i + 1) = bitsI P i + (if P i = true then w2 i else 0) := rfl
theorem bitsI_congr {P Q : Nat → Bool} {n : Nat} (h : ∀ i, i < n → P i = Q i) : bitsI P n = bitsI Q n := sumN_congr (fun i hi => by rw [h i hi])
theorem bitsI_bd {P : Nat → Bool} {i : Nat} (h : i ≤ 3) : 0 ≤ bitsI P i ∧ bitsI P i < (if i = 0 then 1 else if i = 1 then 2 else if i = 2 then 4 else 8) := by
  have h3 : i = 0 ∨ i = 1 ∨ i = 2 ∨ i = 3 := by omega
  rcases h3 with rfl | rfl | rfl | rfl
  · simp [bitsI, sumN]
  · simp only [bitsI, sumN, w2]; cases P 0 <;> simp
  · simp only [bitsI, sumN, w2]; cases P 0 <;> cases P 1 <;> simp
  · simp only [bitsI, sumN, w2]; cases P 0 <;> cases P 1 <;> cases P 2 <;> simp
theorem or_bit {i : Nat} {x : Int} (h : i < 3) (h0 : 0 ≤ x) (h1 : x < w2 i) : ish i_or x (ish i_shl 1 (i : Int)) = x + w2 i := by
  have h3 : (i = 0 ∧ x = 0) ∨ (i = 1 ∧ x = 0) ∨ (i = 1 ∧ x = 1) ∨ (i = 2 ∧ x = 0) ∨ (i = 2 ∧ x = 1) ∨ (i = 2 ∧ x = 2) ∨ (i = 2 ∧ x = 3) := by
    have : i = 0 ∨ i = 1 ∨ i = 2 := by omega
    unfold w2 at h1
    rcases this with rfl | rfl | rfl <;> simp at h1 <;> omega
  simp only [ish_def]
  rcases h3 with ⟨rfl, rfl⟩ | ⟨rfl, rfl⟩ | ⟨rfl, rfl⟩ | ⟨rfl, rfl⟩ | ⟨rfl, rfl⟩ | ⟨rfl, rfl⟩ | ⟨rfl, rfl⟩ <;> decide
theorem or_bitsI {P : Nat → Bool} {i : Nat} (h : i < 3) : ish i_or (bitsI P i) (ish i_shl 1 (i : Int)) = bitsI P i + w2 i := by
  have hb := bitsI_bd (P := P) (i := i) (by omega)
  refine or_bit h hb.1 ?_
  have : i = 0 ∨ i = 1 ∨ i = 2 := by omega
  rcases this with rfl | rfl | rfl <;> simp [w2] at hb ⊢ <;> omega
theorem has_bit {P : Nat → Bool} {n d : Nat} (hn : n ≤ 3) (hd : d < n) : mo_has (bitsI P n) (d : Int) = if P d = true then 1 else 0 := by
  have h3 : (n = 1 ∧ d = 0) ∨ (n = 2 ∧ d = 0) ∨ (n = 2 ∧ d = 1) ∨ (n = 3 ∧ d = 0) ∨ (n = 3 ∧ d = 1) ∨ (n = 3 ∧ d = 2) := by omega
  unfold mo_has
  rcases h3 with ⟨rfl, rfl⟩ | ⟨rfl, rfl⟩ | ⟨rfl, rfl⟩ | ⟨rfl, rfl⟩ | ⟨rfl, rfl⟩ | ⟨rfl, rfl⟩ <;> simp only [ish_def, bitsI, sumN, w2] <;> cases P 0 <;> cases P 1 <;> cases P 2 <;> decide
def rowN (M : MEM) (d : Nat) : Int := M 280 d
def rowR (a : Nat) (e : EN) (M : MEM) (d : Nat) : DS × Bool := stepD e (M 280 d) d (M a 165) (dsM a (55 * d) M)
def rowK (a : Nat) (e : EN) (M : MEM) (d : Nat) : Int := if (rowR a e M d).1.2.2.1 = M a (55 * d + 2) then 0 else 1
def rowSt (a : Nat) (e : EN) (M M' : MEM) (d : Nat) : Prop :=
  eqD (M 280 d) (dsM a (55 * d) M') (rowR a e M d).1 ∧ (∀ p : Nat, M 280 d ≤ (p : Int) → p < 12 → M' a (55 * d + 3 + p) = M a (55 * d + 3 + p)) ∧
  (∀ q : Nat, q < 40 → M' a (55 * d + 15 + q) = if (rowR a e M d).1.2.2.1 ≠ M a (55 * d + 2) ∧ (q : Int) = M a (55 * d + 2) % 40 then M a 165 else M a (55 * d + 15 + q)) ∧ M' 287 d = rowK a e M d
def stoodB (a : Nat) (e : EN) (M : MEM) (d : Nat) : Bool := decide (paceD e d (M a 165) (dsM a (55 * d) M) = 0)
/-- what a MINUTE changes -/
def offG (a : Nat) (M M' : MEM) : Prop := (∀ c, c ≠ a → c ≠ 278 → c ≠ 287 → M' c = M c) ∧ ∀ k, (k < 14 ∨ 28 < k ∨ (19 ≤ k ∧ k ≤ 21)) → M' 278 k = M 278 k
theorem offG.rf {a : Nat} {M : MEM} : offG a M M := ⟨fun _ _ _ _ => rfl, fun _ _ => rfl⟩
theorem offG.tr {a : Nat} {M M1 M2 : MEM} (h : offG a M M1) (g : offG a M1 M2) : offG a M M2 := ⟨fun c x y z => (g.1 c x y z).trans (h.1 c x y z), fun k x => (g.2 k x).trans (h.2 k x)⟩
theorem offG.env {a : Nat} {M M' : MEM} (ha : a = 279 ∨ a = 292) (h : offG a M M') : envM M' = envM M := by
  have r : ∀ c, (c = 21 ∨ c = 22 ∨ c = 281 ∨ c = 282) → M' c = M c := fun c hc => h.1 c (by omega) (by omega) (by omega)
  unfold envM flM hrM hrF
  rw [r 21 (by omega), r 22 (by omega), r 281 (by omega), r 282 (by omega), h.2 4 (by omega), h.2 5 (by omega), h.2 7 (by omega), h.2 8 (by omega)]
theorem offG.em {a : Nat} {M M' : MEM} (ha : a = 279 ∨ a = 292) (h : offG a M M') (g : emOk M) : emOk M' := by
  unfold emOk howOkM at *
  rw [h.1 282 (by omega) (by omega) (by omega), h.2 4 (by omega), h.2 7 (by omega), h.2 8 (by omega)]
  exact g
theorem rg278_3 {k : Nat} (h : rg 278 k = 3) : k = 21 := by
  unfold rg at h
  rw [if_neg (by omega), if_neg (by omega), if_pos rfl] at h
  repeat' split at h
  all_goals omega
theorem offG.rl {a : Nat} {M M' : MEM} (ha : a = 279 ∨ a = 292) (h : offG a M M') (g : rlOk M) : rlOk M' := by
  refine g.cg (fun c k hc => ?_)
  by_cases h8 : c = 278
  · subst h8
    by_cases hk : k = 21
    · subst hk; exact h.2 21 (by omega)
    · exact absurd (rg278_3 hc) hk
  · rw [h.1 c (by rintro rfl; rcases ha with rfl | rfl <;> simp [rg] at hc) h8 (by rintro rfl; simp [rg] at hc)]
def goOk (a : Nat) (M : MEM) : Prop := 0 ≤ M 278 1 ∧ M 278 1 ≤ 3 ∧ rlOk M ∧ emOk M ∧ 0 ≤ M a 165 ∧ M a 165 ≤ 1000000000 ∧ ∀ d : Nat, (d : Int) < M 278 1 → okD (M 280 d) (dsM a (55 * d) M) ∧ M a (55 * d + 2) ≤ 1000000000
theorem mo_go {a : Nat} {M : MEM} (ha : a = 279 ∨ a = 292) (h : goOk a M) : ∃ M', mo_goMinute a M = some M' ∧ offG a M M' ∧ M' a 165 = M a 165 + 1 ∧ (∀ d : Nat, (d : Int) < M 278 1 → rowSt a (envM M) M M' d) ∧ (∀ k : Nat, 55 * M 278 1 ≤ (k : Int) → k ≠ 165 → M' a k = M a k) ∧
    M' 278 26 = bitsI (fun d => (rowR a (envM M) M d).2) (M 278 1).toNat ∧ M' 278 27 = bitsI (stoodB a (envM M) M) (M 278 1).toNat ∧ M' 278 24 = sumN (rowK a (envM M) M) (M 278 1).toNat ∧
    (∀ d : Nat, (d : Int) < M 278 1 → (rowR a (envM M) M d).2 = true → (d : Int) = M 278 29 → M' 278 28 = (rowR a (envM M) M d).1.1) := by
  obtain ⟨h1, h2, h3, h4, h5, h6, h7⟩ := h
  have hlen : lenA a = 166 := by rcases ha with rfl | rfl <;> rfl
  obtain ⟨N, hN⟩ : ∃ N : Nat, M 278 1 = (N : Int) := ⟨(M 278 1).toNat, by omega⟩
  have hl : Tc (iter (fun s => mo_goMinute_b17 a s.1 s.2) FU (0, up2 (up2 (up2 M 278 24 0) 278 26 0) 278 27 0)) (fun r => offG a M r.2 ∧ r.2 a 165 = M a 165 ∧ (∀ d : Nat, d < N → rowSt a (envM M) M r.2 d) ∧ (∀ k : Nat, 55 * N ≤ k → r.2 a k = M a k) ∧
      r.2 278 26 = bitsI (fun d => (rowR a (envM M) M d).2) N ∧ r.2 278 27 = bitsI (stoodB a (envM M) M) N ∧ r.2 278 24 = sumN (rowK a (envM M) M) N ∧ (∀ d : Nat, d < N → (rowR a (envM M) M d).2 = true → (d : Int) = M 278 29 → r.2 278 28 = (rowR a (envM M) M d).1.1)) := by
    refine Tc_n (fun i s => s.1 = (i : Int) ∧ offG a M s.2 ∧ (∀ d : Nat, d < i → rowSt a (envM M) M s.2 d) ∧ (∀ k : Nat, 55 * i ≤ k → s.2 a k = M a k) ∧ s.2 278 26 = bitsI (fun d => (rowR a (envM M) M d).2) i ∧ s.2 278 27 = bitsI (stoodB a (envM M) M) i ∧ s.2 278 24 = sumN (rowK a (envM M) M) i ∧ (∀ d : Nat, d < i → (rowR a (envM M) M d).2 = true → (d : Int) = M 278 29 → s.2 278 28 = (rowR a (envM M) M d).1.1)) N ⟨rfl, ⟨fun c x y z => ?_, fun k hk => ?_⟩, fun d hd => by omega, fun k hk => ?_, ?_, ?_, ?_, fun d hd => by omega⟩ (by omega) (fun i s hi hI => ?_) (fun s hI => ?_)
    · show up2 (up2 (up2 M 278 24 0) 278 26 0) 278 27 0 c = _
      rw [up2_ne y, up2_ne y, up2_ne y]
    · show up2 (up2 (up2 M 278 24 0) 278 26 0) 278 27 0 278 k = _
      rw [rd_k (by omega), rd_k (by omega), rd_k (by omega)]
    · show up2 (up2 (up2 M 278 24 0) 278 26 0) 278 27 0 a k = _
      rw [rd_a (by omega), rd_a (by omega), rd_a (by omega)]
    · show up2 (up2 (up2 M 278 24 0) 278 26 0) 278 27 0 278 26 = 0
      rw [rd_k (by omega), rd_same]
    · show up2 (up2 (up2 M 278 24 0) 278 26 0) 278 27 0 278 27 = 0
      rw [rd_same]
    · show up2 (up2 (up2 M 278 24 0) 278 26 0) 278 27 0 278 24 = 0
      rw [rd_k (by omega), rd_k (by omega), rd_same]
    · obtain ⟨x, M1⟩ := s
      obtain ⟨rfl, o1, r1, u1, b26, b27, b24, e28⟩ := hI
      dsimp only at o1 r1 u1 b26 b27 b24 e28 ⊢
      have hi3 : i < 3 := by omega
      obtain ⟨hD, hDk⟩ := h7 i (by omega)
      have n1 : M1 278 1 = M 278 1 := o1.2 1 (by omega)
      have e280 : M1 280 = M 280 := o1.1 280 (by omega) (by omega) (by omega)
      unfold mo_goMinute_b17
      refine Tc_f (by omega) (Tc_t (by omega) (Tc_u ?_))
      rw [toNat_c]
      -- the row is as it was
      have oM2 : offG a M (up2 M1 287 i 0) := o1.tr ⟨fun c x y z => up2_ne z, fun k _ => rd_a (by omega)⟩
      have hds : dsM a (55 * i) (up2 M1 287 i 0) = dsM a (55 * i) M := by
        unfold dsM
        rw [up2_ne (by omega), u1 _ (by omega), u1 _ (by omega), u1 _ (by omega)]
        congr 3
        funext p
        exact u1 _ (by omega)
      have h165 : up2 M1 287 i 0 a 165 = M a 165 := by rw [up2_ne (by omega)]; exact u1 165 (by omega)
      obtain ⟨M3, e3, o3⟩ := mo_pace_eq (a := a) (o := 55 * i) (d := (i : Int)) (n := M 280 i) (M := up2 M1 287 i 0) ha (oM2.rl ha h3) (oM2.em ha h4) (by omega) (by omega) (by omega) (by rw [hds]; exact hD) (by rw [h165]; exact h5)
      rw [oM2.env ha, h165, hds] at e3
      refine Tc_e e3 ?_
      dsimp only
      have hcl : clE (envM M) := fun g => codeV_in _ _ _
      have hp := hcl (gvD (envM M) i (M a 165) (dsM a (55 * i) M))
      have hp0 : 0 ≤ paceD (envM M) i (M a 165) (dsM a (55 * i) M) := hp.1
      have hp4 : paceD (envM M) i (M a 165) (dsM a (55 * i) M) ≤ 4 := hp.2
      have hstR : rowR a (envM M) M i = walkD (M 280 i) (paceD (envM M) i (M a 165) (dsM a (55 * i) M)).toNat (dsM a (55 * i) M) := rfl
      have hkS := stepD_k (d := (i : Int)) (m := M a 165) hcl hD
      have hstB : stoodB a (envM M) M i = decide (paceD (envM M) i (M a 165) (dsM a (55 * i) M) = 0) := rfl
      generalize hpp : paceD (envM M) i (M a 165) (dsM a (55 * i) M) = pace at *
      have o3a : M3 a = M1 a := (o3.1 a (by omega)).trans (up2_ne (by omega))
      have o3g : offG a M M3 := oM2.tr ⟨fun c x y z => o3.1 c y, fun k hk => o3.2 k (by omega) (by omega) (by omega)⟩
      have t26 : M3 278 26 = bitsI (fun d => (rowR a (envM M) M d).2) i := by rw [o3.2 26 (by omega) (by omega) (by omega), rd_a (by omega)]; exact b26
      have t27 : M3 278 27 = bitsI (stoodB a (envM M) M) i := by rw [o3.2 27 (by omega) (by omega) (by omega), rd_a (by omega)]; exact b27
      have t24 : M3 278 24 = sumN (rowK a (envM M) M) i := by rw [o3.2 24 (by omega) (by omega) (by omega), rd_a (by omega)]; exact b24
      have t28 : M3 278 28 = M1 278 28 := by rw [o3.2 28 (by omega) (by omega) (by omega), rd_a (by omega)]
      have t287 : M3 287 i = 0 := by rw [o3.1 287 (by omega), rd_same]
      have t287' : ∀ d, d ≠ i → M3 287 d = M1 287 d := fun d hd => by rw [o3.1 287 (by omega), rd_k hd]
      -- behind 'stood'
      have tail : ∀ M4 : MEM, (∀ c, c ≠ 278 → M4 c = M3 c) → (∀ k, k ≠ 27 → M4 278 k = M3 278 k) → M4 278 27 = bitsI (stoodB a (envM M) M) (i + 1) → Tc (mo_goMinute_j55_17 a (i : Int) pace M4) (fun r => ∃ s', r = .inl s' ∧ (s'.1 = ((i + 1 : Nat) : Int) ∧ offG a M s'.2 ∧ (∀ d : Nat, d < i + 1 → rowSt a (envM M) M s'.2 d) ∧ (∀ k : Nat, 55 * (i + 1) ≤ k → s'.2 a k = M a k) ∧ s'.2 278 26 = bitsI (fun d => (rowR a (envM M) M d).2) (i + 1) ∧ s'.2 278 27 = bitsI (stoodB a (envM M) M) (i + 1) ∧ s'.2 278 24 = sumN (rowK a (envM M) M) (i + 1) ∧ (∀ d : Nat, d < i + 1 → (rowR a (envM M) M d).2 = true → (d : Int) = M 278 29 → s'.2 278 28 = (rowR a (envM M) M d).1.1))) := fun M4 q1 q2 q3 => by
        have q4a : M4 a = M1 a := (q1 a (by omega)).trans o3a
        have o4 : offG a M M4 := o3g.tr ⟨fun c x y z => q1 c y, fun k hk => q2 k (by omega)⟩
        have hds4 : dsM a (55 * i) M4 = dsM a (55 * i) M := by
          unfold dsM
          rw [q4a, u1 _ (by omega), u1 _ (by omega), u1 _ (by omega)]
          congr 3
          funext p
          exact u1 _ (by omega)
        have e2804 : M4 280 = M 280 := o4.1 280 (by omega) (by omega) (by omega)
        unfold mo_goMinute_j55_17
        obtain ⟨M5, g1, g2, g3⟩ := mo_goSteps_eq (a := a) (o := 55 * i) (d := (i : Int)) (n := M 280 i) (pace := pace) (M := M4) hlen (by omega) (by omega) (by omega) (by omega) (by omega) (by omega) hp0 hp4 (by rw [toNat_c, e2804]) (by rw [hds4]; exact hD) (by rw [q4a, u1 _ (by omega)]; omega)
        refine Tc_e g1 (Tc_t (by omega) (Tc_u (Tc_inl ?_)))
        obtain ⟨w1, w2, w3, w4, w5, w6⟩ := g2
        rw [hds4, ← hstR] at w1 w3 w4 w5 w6
        rw [toNat_c] at w4 ⊢
        have hk4 : M4 a (55 * i + 2) = M a (55 * i + 2) := by rw [q4a]; exact u1 _ (by omega)
        have h1654 : M4 a 165 = M a 165 := by rw [q4a]; exact u1 _ (by omega)
        have h29 : M4 278 29 = M 278 29 := o4.2 29 (by omega)
        have h287 : M4 287 i = 0 := by rw [q1 287 (by omega)]; exact t287
        have hK5 : M5 287 i = rowK a (envM M) M i := by
          rw [w4, h287, hk4]
          unfold rowK
          by_cases hz : (rowR a (envM M) M i).1.2.2.1 = M a (55 * i + 2)
          · rw [if_pos hz, if_neg (fun q => q hz)]
          · rw [if_neg hz, if_pos hz]; exact wr_i (by omega) (by omega)
        have hs24 : M5 278 24 = sumN (rowK a (envM M) M) i := by rw [g3.2.2.1 24 (by omega) (by omega), q2 24 (by omega)]; exact t24
        have hb24 := sumN_bd (F := rowK a (envM M) M) (a := 0) (b := 1) (n := i) (fun j _ => by unfold rowK; split <;> omega)
        have hb24' : 0 ≤ rowK a (envM M) M i ∧ rowK a (envM M) M i ≤ 1 := by unfold rowK; split <;> omega
        rw [hK5, hs24, wr_i (x := sumN (rowK a (envM M) M) i + rowK a (envM M) M i) (by omega) (by omega)]
        refine ⟨(wr_i (by omega) (by omega)).trans (by omega), ?_, fun d hd => ?_, fun k hk => ?_, ?_, ?_, ?_, fun d hd hat hof => ?_⟩
        · refine o4.tr ⟨fun c x y z => ?_, fun k hk => ?_⟩
          · dsimp only
            rw [up2_ne y]; exact g3.1 c x y z
          · dsimp only
            rw [rd_k (by omega)]; exact g3.2.2.1 k (by omega) (by omega)
        · dsimp only
          have ra : ∀ k, up2 M5 278 24 (sumN (rowK a (envM M) M) i + rowK a (envM M) M i) a k = M5 a k := fun k => rd_a (by omega)
          have r287 : ∀ k, up2 M5 278 24 (sumN (rowK a (envM M) M) i + rowK a (envM M) M i) 287 k = M5 287 k := fun k => rd_a (by omega)
          by_cases hdi : d = i
          · subst hdi
            refine ⟨?_, fun p hp1 hp2 => ?_, fun q hq => ?_, ?_⟩
            · have : dsM a (55 * d) (up2 M5 278 24 (sumN (rowK a (envM M) M) d + rowK a (envM M) M d)) = dsM a (55 * d) M5 := by
                unfold dsM; rw [up2_ne (by omega)]
              rw [this]; exact w1
            · rw [ra, w2 p hp1 hp2, q4a]; exact u1 _ (by omega)
            · rw [ra, w3 q hq, hk4, h1654, q4a, u1 _ (by omega)]
            · rw [r287]; exact hK5
          · obtain ⟨z1, z2, z3, z4⟩ := r1 d (by omega)
            have zk : ∀ k, (k < 55 * i ∨ 55 * i + 55 ≤ k) → M5 a k = M1 a k := fun k hk => by rw [g3.2.1 k hk, q4a]
            refine ⟨?_, fun p hp1 hp2 => ?_, fun q hq => ?_, ?_⟩
            · refine eqD.tr ⟨?_, ?_, ?_, fun p hp => ?_⟩ z1
              · show up2 M5 278 24 _ a (55 * d + 1) = M1 a (55 * d + 1); rw [ra, zk _ (by omega)]
              · show up2 M5 278 24 _ a (55 * d) = M1 a (55 * d); rw [ra, zk _ (by omega)]
              · show up2 M5 278 24 _ a (55 * d + 2) = M1 a (55 * d + 2); rw [ra, zk _ (by omega)]
              · have hn12 := (h7 d (by omega)).1.2.1
                show up2 M5 278 24 _ a (55 * d + 3 + p) = M1 a (55 * d + 3 + p); rw [ra, zk _ (by omega)]
            · rw [ra, zk _ (by omega)]; exact z2 p hp1 hp2
            · rw [ra, zk _ (by omega)]; exact z3 q hq
            · rw [r287, g3.2.2.2 d (by omega), q1 287 (by omega), t287' d hdi]; exact z4
        · dsimp only
          rw [rd_a (by omega), g3.2.1 k (by omega), q4a]
          exact u1 k (by omega)
        · dsimp only
          rw [rd_k (by omega), w5, q2 26 (by omega), t26, bitsI_S]
          by_cases hz : (rowR a (envM M) M i).2 = true
          · rw [if_pos hz, if_pos hz, or_bitsI hi3]
          · rw [if_neg hz, if_neg hz, Int.add_zero]
        · dsimp only
          rw [rd_k (by omega), g3.2.2.1 27 (by omega) (by omega)]
          exact q3
        · dsimp only
          rw [rd_same, sumN_S]
        · dsimp only
          rw [rd_k (by omega), w6, h29]
          by_cases hdi : d = i
          · subst hdi
            rw [if_pos ⟨hat, hof⟩]
          · rw [if_neg (fun q => by omega), q2 28 (by omega), t28]
            exact e28 d (by omega) hat hof
      refine Tc_i (fun hz => ?_) (fun hz => ?_)
      · refine Tc_u (tail _ (fun c hc => up2_ne hc) (fun k hk => rd_k hk) ?_)
        rw [rd_same, t27, or_bitsI hi3, bitsI_S, hstB, if_pos (by rw [hz]; rfl)]
      · refine tail _ (fun c hc => rfl) (fun k hk => rfl) ?_
        rw [t27, bitsI_S, hstB, if_neg (by simp [hz]), Int.add_zero]
    · obtain ⟨x, M1⟩ := s
      obtain ⟨rfl, o1, r1, u1, b26, b27, b24, e28⟩ := hI
      dsimp only at o1 r1 u1 b26 b27 b24 e28 ⊢
      unfold mo_goMinute_b17
      have n1 : M1 278 1 = M 278 1 := o1.2 1 (by omega)
      exact Tc_t (by omega) (Tc_inr ⟨o1, u1 165 (by omega), r1, u1, b26, b27, b24, e28⟩)
  obtain ⟨r, e1, o1, t1, r1, u1, b26, b27, b24, e28⟩ := hl
  refine ⟨up2 r.2 a 165 (M a 165 + 1), ?_, ?_, rd_same, fun d hd => ?_, fun k hk hk2 => ?_, ?_, ?_, ?_, fun d hd hat hof => ?_⟩
  · unfold mo_goMinute
    simp only [Option.bind_some]
    rw [e1, Option.bind_some, hlen, if_pos (by omega), if_pos (by omega), show (165 : Int).toNat = 165 from rfl, t1, wr_i (by omega) (by omega)]
  · exact o1.tr ⟨fun c x y z => up2_ne x, fun k hk => rd_a (by omega)⟩
  · obtain ⟨z1, z2, z3, z4⟩ := r1 d (by omega)
    have hn12 := (h7 d hd).1.2.1
    have zk : ∀ k, k ≠ 165 → up2 r.2 a 165 (M a 165 + 1) a k = r.2 a k := fun k hk => rd_k hk
    refine ⟨eqD.tr ⟨?_, ?_, ?_, fun p hp => ?_⟩ z1, fun p hp1 hp2 => ?_, fun q hq => ?_, ?_⟩
    · exact zk _ (by omega)
    · exact zk _ (by omega)
    · exact zk _ (by omega)
    · exact zk _ (by omega)
    · rw [zk _ (by omega)]; exact z2 p hp1 hp2
    · rw [zk _ (by omega)]; exact z3 q hq
    · rw [rd_a (by omega)]; exact z4
  · rw [rd_k hk2]; exact u1 k (by omega)
  · rw [rd_a (by omega), hN, toNat_c]; exact b26
  · rw [rd_a (by omega), hN, toNat_c]; exact b27
  · rw [rd_a (by omega), hN, toNat_c]; exact b24
  · rw [rd_a (by omega)]; exact e28 d (by omega) hat hof
