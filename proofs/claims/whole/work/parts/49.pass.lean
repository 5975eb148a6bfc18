-- ===== a MINUTE of the class =====
noncomputable def passE (M : MEM) : EN := (flC M, plC 5 M, codeV (M 21 3) (M 22))
theorem passE_cl (M : MEM) : clE (passE M) := fun g => codeV_in _ _ _
theorem passE_alike {M : MEM} (hF : C_F M) (hC : C_C M) (hN : C_N M) (hR : rlOk M) : passE M = envM M := by
  rw [← env_alike hF hC (th0 (Or.inl rfl) hN) (sw0 (Or.inl rfl) hN)]
  obtain ⟨n1, n2, n3, n4, n5, n6, n7⟩ := hN
  have z : ∀ d m, plC 225 M d m = 0 := fun d m => by
    unfold plC
    rw [sumN_congr (G := fun _ => 0) (fun i hi => by unfold plF; rw [if_neg (by omega)])]
    rfl
  unfold passE envC
  have e1 : (fun m => if 0 ≤ M 224 6 then M 224 6 else flC M m) = flC M := by
    funext m
    rw [if_neg (by omega)]
  have e2 : (fun d m => plC 5 M d m + plC (224 + 1) M d m) = plC 5 M := by
    funext d m
    rw [z d m, Int.add_zero]
  rw [e1, e2]
def pOk (M : MEM) : Prop := (0 ≤ M 19 1 ∧ M 19 1 ≤ 40) ∧ (0 ≤ M 5 4 ∧ M 5 4 ≤ 10 ∧ howOk 5 M) ∧ codeOk (M 21 3) (M 22)
theorem paceNow_eq {b : Nat} {d n : Int} {M : MEM} (hp : pOk M) (hb : b ≠ 24) (hb1 : b + 1 ≠ 24) (hd : okD n (dsC b M)) (h3 : InR (M 3 3)) :
    ∃ M', dh_paceNow b d M = some (paceD (passE M) d (M 3 3) (dsC b M), M') ∧ (∀ c, c ≠ 21 → c ≠ 23 → c ≠ 24 → M' c = M c) ∧ ∀ k, k ≠ 4 → M' 21 k = M 21 k := by
  obtain ⟨⟨g1, g1'⟩, ⟨g2, g3, g4⟩, g8⟩ := hp
  obtain ⟨M1, M2, e1, e2, o1, o2⟩ := pace_of (b := b) (d := d) (m := M 3 3) (e := passE M) (M := M) hb hb1 hd g8 rfl
  refine ⟨M2, ?_, o1, o2⟩
  unfold dh_paceNow
  rw [fl_in_eq h3 g1 g1', Option.bind_some, ca_pull_eq g2 g3 g4, Option.bind_some]
  rw [show flC M (M 3 3) = (passE M).1 (M 3 3) from rfl, show plC 5 M d (M 3 3) = (passE M).2.1 d (M 3 3) from rfl, e1, Option.bind_some, e2, Option.bind_some]
/-- the bits of who ate, and of who stood, eight times -/
def bitsP (A S : Nat → Bool) (i : Nat) : Int := bitsI A i + 8 * bitsI S i
theorem bits_ate {A S : Nat → Bool} {i : Nat} (h : i < 3) : ish i_or (bitsP A S i) (ish i_shl 1 (i : Int)) = bitsP A S i + w2 i := by
  have h3 : i = 0 ∨ i = 1 ∨ i = 2 := by omega
  unfold bitsP
  rcases h3 with rfl | rfl | rfl <;> simp only [ish_def, bitsI, sumN, w2] <;> cases A 0 <;> cases S 0 <;> cases A 1 <;> cases S 1 <;> decide
theorem bits_stood {A S : Nat → Bool} {i : Nat} (h : i < 3) : ish i_or (bitsI A (i + 1) + 8 * bitsI S i) (ish i_shl 1 ((i : Int) + 3)) = bitsI A (i + 1) + 8 * (bitsI S i + w2 i) := by
  have h3 : i = 0 ∨ i = 1 ∨ i = 2 := by omega
  rcases h3 with rfl | rfl | rfl <;> simp only [ish_def, bitsI, sumN, w2] <;> cases A 0 <;> cases S 0 <;> cases A 1 <;> cases S 1 <;> cases A 2 <;> decide
theorem bits_end {A S : Nat → Bool} {i : Nat} (h : i ≤ 3) : ish i_and (bitsP A S i) 7 = bitsI A i ∧ ish i_shr (bitsP A S i) 3 = bitsI S i := by
  have h3 : i = 0 ∨ i = 1 ∨ i = 2 ∨ i = 3 := by omega
  unfold bitsP
  rcases h3 with rfl | rfl | rfl | rfl <;> simp only [ish_def, bitsI, sumN, w2] <;> cases A 0 <;> cases S 0 <;> cases A 1 <;> cases S 1 <;> cases A 2 <;> cases S 2 <;> decide
/-- what a MINUTE of the class changes -/
def offW (M M' : MEM) : Prop := (∀ c, c ≠ 3 → (c < 10 ∨ 18 < c) → c ≠ 21 → c ≠ 23 → c ≠ 24 → M' c = M c) ∧ (∀ k, k ≠ 4 → M' 21 k = M 21 k) ∧ (∀ k, k ≠ 3 → M' 3 k = M 3 k) ∧ ∀ d k : Nat, d < 3 → k ≠ 3 → k ≠ 4 → k ≠ 5 → M' (10 + 3 * d) k = M (10 + 3 * d) k
theorem offW.rf {M : MEM} : offW M M := ⟨fun _ _ _ _ _ _ => rfl, fun _ _ => rfl, fun _ _ => rfl, fun _ _ _ _ _ _ => rfl⟩
theorem offW.tr {M M1 M2 : MEM} (h : offW M M1) (g : offW M1 M2) : offW M M2 :=
  ⟨fun c a1 a2 a3 a4 a5 => (g.1 c a1 a2 a3 a4 a5).trans (h.1 c a1 a2 a3 a4 a5), fun k a => (g.2.1 k a).trans (h.2.1 k a), fun k a => (g.2.2.1 k a).trans (h.2.2.1 k a), fun d k a1 a2 a3 a4 => (g.2.2.2 d k a1 a2 a3 a4).trans (h.2.2.2 d k a1 a2 a3 a4)⟩
theorem offW.env {M M' : MEM} (h : offW M M') : passE M' = passE M := by
  have r : ∀ c, (c = 5 ∨ c = 6 ∨ c = 7 ∨ c = 8 ∨ c = 9 ∨ c = 19 ∨ c = 20 ∨ c = 22) → M' c = M c := fun c hc => h.1 c (by omega) (by omega) (by omega) (by omega) (by omega)
  unfold passE flC
  rw [plC_cg (c := 5) (fun q hq => r _ (by omega)), h.2.1 3 (by omega), r 19 (by omega), r 20 (by omega), r 22 (by omega)]
theorem offW.pOk {M M' : MEM} (h : offW M M') (g : pOk M) : pOk M' := by
  have r : ∀ c, (c = 5 ∨ c = 6 ∨ c = 7 ∨ c = 8 ∨ c = 9 ∨ c = 19 ∨ c = 20 ∨ c = 22) → M' c = M c := fun c hc => h.1 c (by omega) (by omega) (by omega) (by omega) (by omega)
  obtain ⟨g1, ⟨g2, g3, g4⟩, g8⟩ := g
  refine ⟨?_, ⟨?_, ?_, howOk_cg (fun q hq => r _ (by omega)) g4⟩, ?_⟩
  · rw [r 19 (by omega)]; exact g1
  · rw [r 5 (by omega)]; exact g2
  · rw [r 5 (by omega)]; exact g3
  · rw [h.2.1 3 (by omega), r 22 (by omega)]; exact g8
/-- a DONKEY's step in this MINUTE -/
noncomputable def stepW (M : MEM) (d : Nat) : DS × Bool := stepD (passE M) (M (10 + 3 * d) 2) d (M 3 3) (dsC (10 + 3 * d) M)
noncomputable def stoodW (M : MEM) (d : Nat) : Bool := decide (paceD (passE M) d (M 3 3) (dsC (10 + 3 * d) M) = 0)
/-- a DONKEY's cells behind it -/
def beW (M M' : MEM) (d : Nat) : Prop := dsC (10 + 3 * d) M' = (stepW M d).1 ∧ ∀ q, q < 40 → M' (10 + 3 * d + 2) q = if (stepW M d).1.2.2.1 ≠ M (10 + 3 * d) 5 ∧ (q : Int) = (stepW M d).1.2.2.1 % 40 then M 3 3 else M (10 + 3 * d + 2) q
def passOk (M : MEM) : Prop := 0 ≤ M 3 2 ∧ M 3 2 ≤ 3 ∧ pOk M ∧ 0 ≤ M 3 3 ∧ M 3 3 ≤ 1000000000 ∧ ∀ d : Nat, (d : Int) < M 3 2 → okD (M (10 + 3 * d) 2) (dsC (10 + 3 * d) M) ∧ M (10 + 3 * d) 5 ≤ 1000000000
theorem pass_eq {M : MEM} (h : passOk M) : ∃ M', dh_pass M = some (bitsP (fun d => (stepW M d).2) (stoodW M) (M 3 2).toNat, M') ∧ offW M M' ∧ M' 3 3 = M 3 3 + 1 ∧ ∀ d : Nat, (d : Int) < M 3 2 → beW M M' d := by
  obtain ⟨h0, h1, hp, t0, t1, hd⟩ := h
  obtain ⟨N, hN⟩ : ∃ N : Nat, M 3 2 = (N : Int) := ⟨(M 3 2).toNat, by omega⟩
  have hl : Tc (iter (fun s => dh_pass_b4 s.1 s.2.1 s.2.2) FU (0, 0, M)) (fun r => r.1 = bitsP (fun d => (stepW M d).2) (stoodW M) N ∧ offW M r.2.2 ∧ r.2.2 3 3 = M 3 3 ∧ ∀ d : Nat, d < N → beW M r.2.2 d) := by
    refine Tc_n (fun i s => s.1 = bitsP (fun d => (stepW M d).2) (stoodW M) i ∧ s.2.1 = (i : Int) ∧ offW M s.2.2 ∧ s.2.2 3 3 = M 3 3 ∧ (∀ d : Nat, d < i → beW M s.2.2 d) ∧ ∀ c : Nat, 10 + 3 * i ≤ c → c ≤ 18 → s.2.2 c = M c) N ⟨rfl, rfl, offW.rf, rfl, fun d hd => by omega, fun _ _ _ => rfl⟩ (by omega) (fun i s hi hI => ?_) (fun s hI => ?_)
    · obtain ⟨x1, z, M1⟩ := s
      obtain ⟨rfl, rfl, q1, q2, q3, q4⟩ := hI
      dsimp only at q1 q2 q3 q4 ⊢
      have e32 : M1 3 2 = (N : Int) := by rw [q1.2.2.1 2 (by decide)]; exact hN
      have hb := q4 (10 + 3 * i) (by omega) (by omega)
      have hb1 := q4 (10 + 3 * i + 1) (by omega) (by omega)
      have hb2 := q4 (10 + 3 * i + 2) (by omega) (by omega)
      have eds : dsC (10 + 3 * i) M1 = dsC (10 + 3 * i) M := by unfold dsC; rw [hb, hb1]
      obtain ⟨hdi, hk⟩ := hd i (by omega)
      obtain ⟨M2, e2, o1, o2⟩ := paceNow_eq (b := 10 + 3 * i) (d := (i : Int)) (n := M (10 + 3 * i) 2) (M := M1) (q1.pOk hp) (by omega) (by omega) (by rw [eds]; exact hdi) (by rw [q2]; unfold InR; omega)
      rw [q1.env, q2, eds] at e2
      have hpb := passE_cl M (gvD (passE M) i (M 3 3) (dsC (10 + 3 * i) M))
      generalize hP : paceD (passE M) i (M 3 3) (dsC (10 + 3 * i) M) = P at *
      have hp0 : 0 ≤ P := by rw [← hP]; exact hpb.1
      have hp4 : P ≤ 4 := by rw [← hP]; exact hpb.2
      have eds2 : dsC (10 + 3 * i) M2 = dsC (10 + 3 * i) M := by rw [← eds]; unfold dsC; rw [o1 _ (by omega) (by omega) (by omega), o1 _ (by omega) (by omega) (by omega)]
      have b2 : M2 (10 + 3 * i) = M (10 + 3 * i) := by rw [o1 _ (by omega) (by omega) (by omega), hb]
      obtain ⟨M3, e3, d3, n3, o3⟩ := be_walk_eq (b := 10 + 3 * i) (n := M (10 + 3 * i) 2) (pace := P) (M := M2) hp0 hp4 (by rw [b2]) (by rw [eds2]; exact hdi) (by rw [b2]; omega)
      rw [eds2, b2] at e3
      rw [eds2] at d3
      have hst : stepW M i = walkD (M (10 + 3 * i) 2) P.toNat (dsC (10 + 3 * i) M) := by unfold stepW stepD; rw [hP]
      rw [← hst] at e3 d3
      have hd1 : ish i_and (didD (M (10 + 3 * i) 5) P (stepW M i)) 1 = 0 ↔ (stepW M i).1.2.2.1 = M (10 + 3 * i) 5 := by rw [hst]; exact did_1 hp0 rfl
      have hd2 : ish i_and (didD (M (10 + 3 * i) 5) P (stepW M i)) 2 = 0 ↔ (stepW M i).2 = false := by rw [hst]; exact did_2 hp0
      have hd4 := did_4 (k := M (10 + 3 * i) 5) (r := stepW M i) hp0
      have k3 : M3 (10 + 3 * i) 5 = (stepW M i).1.2.2.1 := by rw [← d3]; rfl
      have t3 : M3 3 = M1 3 := by rw [o3.1 3 (by omega) (by omega), o1 3 (by omega) (by omega) (by omega)]
      have hkb : (stepW M i).1.2.2.1 = M (10 + 3 * i) 5 ∨ (stepW M i).1.2.2.1 = M (10 + 3 * i) 5 + 1 := stepD_k (passE_cl M) hdi
      have hk0 : 0 ≤ M (10 + 3 * i) 5 := hdi.2.2.2.2.2.2.1
      generalize didD (M (10 + 3 * i) 5) P (stepW M i) = did at *
      have hoff3 : offW M M3 := by
        refine ⟨fun c a1 a2 a3 a4 a5 => ?_, fun k hk => ?_, fun k hk => ?_, fun d k a1 a2 a3 a4 => ?_⟩
        · rw [o3.1 c (by omega) (by omega), o1 c a3 a4 a5]; exact q1.1 c a1 a2 a3 a4 a5
        · rw [o3.1 21 (by omega) (by omega), o2 k hk]; exact q1.2.1 k hk
        · rw [t3]; exact q1.2.2.1 k hk
        · by_cases e : d = i
          · subst e; rw [o3.2 k a2 a3 a4, b2]
          · rw [o3.1 _ (by omega) (by omega), o1 _ (by omega) (by omega) (by omega)]; exact q1.2.2.2 d k a1 a2 a3 a4
      have hother : ∀ c, 10 ≤ c → c ≤ 18 → c ≠ 10 + 3 * i → c ≠ 10 + 3 * i + 1 → M3 c = M1 c := fun c a b d e => by rw [o3.1 c d e, o1 c (by omega) (by omega) (by omega)]
      -- behind the flags
      have fin : ∀ M4 : MEM, offW M M4 → M4 3 3 = M 3 3 → beW M M4 i → (∀ c, 10 ≤ c → c ≤ 18 → (c < 10 + 3 * i ∨ 10 + 3 * i + 3 ≤ c) → M4 c = M1 c) →
          Tc (dh_pass_j60_4 (bitsP (fun d => (stepW M d).2) (stoodW M) i) i did M4) (fun r => ∃ s', r = .inl s' ∧ s'.1 = bitsP (fun d => (stepW M d).2) (stoodW M) (i + 1) ∧ s'.2.1 = ((i + 1 : Nat) : Int) ∧ offW M s'.2.2 ∧ s'.2.2 3 3 = M 3 3 ∧ (∀ d : Nat, d < i + 1 → beW M s'.2.2 d) ∧ ∀ c : Nat, 10 + 3 * (i + 1) ≤ c → c ≤ 18 → s'.2.2 c = M c) := by
        intro M4 f1 f2 f3 f4
        have w1 : wr ((i : Int) + 1) = ((i + 1 : Nat) : Int) := (wr_i (by omega) (by omega)).trans (by omega)
        have w3 : wr ((i : Int) + 3) = (i : Int) + 3 := wr_i (by omega) (by omega)
        have good : ∀ x, x = bitsP (fun d => (stepW M d).2) (stoodW M) (i + 1) → Tc (dh_pass_j88_4 x i M4) (fun r => ∃ s', r = .inl s' ∧ s'.1 = bitsP (fun d => (stepW M d).2) (stoodW M) (i + 1) ∧ s'.2.1 = ((i + 1 : Nat) : Int) ∧ offW M s'.2.2 ∧ s'.2.2 3 3 = M 3 3 ∧ (∀ d : Nat, d < i + 1 → beW M s'.2.2 d) ∧ ∀ c : Nat, 10 + 3 * (i + 1) ≤ c → c ≤ 18 → s'.2.2 c = M c) := fun x hx => by
          unfold dh_pass_j88_4
          refine Tc_inl ⟨hx, w1, f1, f2, fun d hdd => ?_, fun c a b => ?_⟩
          · by_cases e : d = i
            · subst e; exact f3
            · obtain ⟨p1, p2⟩ := q3 d (by omega)
              dsimp only
              refine ⟨?_, fun q hq => ?_⟩
              · rw [← p1]; unfold dsC; rw [f4 _ (by omega) (by omega) (by omega), f4 _ (by omega) (by omega) (by omega)]
              · rw [f4 _ (by omega) (by omega) (by omega)]; exact p2 q hq
          · dsimp only
            rw [f4 c (by omega) b (by omega)]; exact q4 c (by omega) b
        have hA : bitsI (fun d => (stepW M d).2) (i + 1) = bitsI (fun d => (stepW M d).2) i + (if (stepW M i).2 = true then w2 i else 0) := bitsI_S _ _
        have hS : bitsI (stoodW M) (i + 1) = bitsI (stoodW M) i + (if stoodW M i = true then w2 i else 0) := bitsI_S _ _
        have hSt : stoodW M i = true ↔ P = 0 := by unfold stoodW; rw [hP]; exact decide_eq_true_iff
        have h73 : ∀ x, x = bitsI (fun d => (stepW M d).2) (i + 1) + 8 * bitsI (stoodW M) i → Tc (dh_pass_j73_4 x i did M4) (fun r => ∃ s', r = .inl s' ∧ s'.1 = bitsP (fun d => (stepW M d).2) (stoodW M) (i + 1) ∧ s'.2.1 = ((i + 1 : Nat) : Int) ∧ offW M s'.2.2 ∧ s'.2.2 3 3 = M 3 3 ∧ (∀ d : Nat, d < i + 1 → beW M s'.2.2 d) ∧ ∀ c : Nat, 10 + 3 * (i + 1) ≤ c → c ≤ 18 → s'.2.2 c = M c) := fun x hx => by
          unfold dh_pass_j73_4
          refine Tc_i (fun e => good _ ?_) (fun e => good _ ?_)
          · rw [hx]; unfold bitsP; rw [hS, if_neg (fun y => hd4.1 e (hSt.1 y)), Int.add_zero]
          · have : P = 0 := Classical.byContradiction fun y => e (hd4.2 y)
            rw [w3, hx, bits_stood (by omega)]; unfold bitsP; rw [hS, if_pos (hSt.2 this)]
        unfold dh_pass_j60_4
        refine Tc_i (fun e => h73 _ ?_) (fun e => h73 _ ?_)
        · unfold bitsP; rw [hA, if_neg (by rw [hd2.1 e]; decide), Int.add_zero]
        · have : (stepW M i).2 = true := by
            cases y : (stepW M i).2
            · exact absurd (hd2.2 y) e
            · rfl
          rw [bits_ate (by omega)]; unfold bitsP; rw [hA, if_pos this]; omega
      unfold dh_pass_b4
      rw [toNat_c]
      refine Tc_f (by rw [e32]; omega) (Tc_f (by omega) (Tc_t (by omega) (Tc_e e2 (Tc_e e3 ?_))))
      dsimp only
      refine Tc_i (fun e => ?_) (fun e => ?_)
      · have ek := hd1.1 e
        refine fin M3 hoff3 (by rw [t3]; exact q2) ⟨d3, fun q hq => ?_⟩ (fun c a b d => hother c a b (by omega) (by omega))
        rw [if_neg (fun y => y.1 ek), hother _ (by omega) (by omega) (by omega) (by omega), hb2]
      · have ek : (stepW M i).1.2.2.1 ≠ M (10 + 3 * i) 5 := fun y => e (hd1.2 y)
        have m1 := Int.emod_nonneg (stepW M i).1.2.2.1 (show (40 : Int) ≠ 0 by decide)
        have m2 := Int.emod_lt_of_pos (stepW M i).1.2.2.1 (show (0 : Int) < 40 by decide)
        have en : be_enter (10 + 3 * i) (M3 3 3) M3 = some (up2 M3 (10 + 3 * i + 2) ((stepW M i).1.2.2.1 % 40).toNat (M 3 3)) := by
          unfold be_enter
          rw [k3, floorMod_eq (by unfold InR; omega) (by decide) (by decide), Option.bind_some, if_pos ⟨m1, m2⟩, t3, q2]
          rfl
        refine Tc_e en (fin _ ?_ ?_ ⟨?_, fun q hq => ?_⟩ (fun c a b d => ?_))
        · refine hoff3.tr ⟨fun c a1 a2 _ _ _ => up2_ne (by omega), fun k _ => rd_a (by omega), fun k _ => rd_a (by omega), fun d k _ _ _ _ => rd_a (by omega)⟩
        · rw [rd_a (by omega), t3]; exact q2
        · rw [← d3]; unfold dsC; rw [up2_ne (by omega), up2_ne (by omega)]
        · by_cases y : q = ((stepW M i).1.2.2.1 % 40).toNat
          · rw [if_pos ⟨ek, by omega⟩, y, rd_same]
          · rw [if_neg (fun z => y (by omega)), rd_k y, hother _ (by omega) (by omega) (by omega) (by omega), hb2]
        · rw [up2_ne (by omega)]; exact hother c a b (by omega) (by omega)
    · obtain ⟨x1, z, M1⟩ := s
      obtain ⟨rfl, rfl, q1, q2, q3, q4⟩ := hI
      unfold dh_pass_b4
      exact Tc_t (by rw [q1.2.2.1 2 (by decide), hN]; exact Int.le_refl _) (Tc_inr ⟨rfl, q1, q2, q3⟩)
  obtain ⟨r, e, w1, w2, w3, w4⟩ := hl
  refine ⟨up2 r.2.2 3 3 (M 3 3 + 1), ?_, ?_, rd_same, fun d hdd => ?_⟩
  · unfold dh_pass dh_pass_j94
    rw [e, Option.bind_some, w3, wr_i (by omega) (by omega), w1, hN]
    rfl
  · exact w2.tr ⟨fun c a1 _ _ _ _ => up2_ne a1, fun k _ => rd_a (by omega), fun k a => rd_k a, fun d k _ _ _ _ => rd_a (by omega)⟩
  · obtain ⟨p1, p2⟩ := w4 d (by omega)
    refine ⟨?_, fun q hq => ?_⟩
    · rw [← p1]; unfold dsC; rw [up2_ne (by omega), up2_ne (by omega)]
    · rw [up2_ne (by omega)]; exact p2 q hq
