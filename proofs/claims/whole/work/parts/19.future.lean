-- ===== the class's MINUTES to come =====
theorem give_eq {b : Nat} {fl ca m d : Int} {M : MEM} (hb : b ≠ 24) (hb1 : b + 1 ≠ 24) (h0 : 0 ≤ M b 3) (h1 : M b 3 < 12) (h5 : 0 ≤ M b 5) :
    ∃ M', ru_give 21 b fl ca m d M = some M' ∧ (∀ c, c ≠ 24 → M' c = M c) ∧ M' 24 0 = M b 4 ∧ M' 24 1 = M b 3 ∧ M' 24 2 = M (b + 1) (M b 3).toNat ∧ M' 24 3 = fl ∧ M' 24 4 = ca ∧ M' 24 5 = m ∧ M' 24 6 = M b 5 % 12 ∧ M' 24 7 = d := by
  unfold ru_give be_thistlesOn
  have e1 : up2 M 24 0 (M b 4) b 3 = M b 3 := by rw [up2_ne hb]
  simp only [Option.bind_some, Nat.reduceAdd, up2_ne hb, up2_ne hb1]
  rw [if_neg (by omega), if_neg (by omega), if_pos ⟨h0, h1⟩, Option.bind_some, tmod_nn h5]
  refine ⟨_, rfl, fun c hc => ?_, ?_, ?_, ?_, ?_, ?_, ?_, ?_, ?_⟩
  · simp only [up2_ne hc]
  all_goals simp (disch := omega) only [rd_same, rd_k]
/-- what the walks rest on -/
def eOk (f : Nat) (M : MEM) : Prop := (0 ≤ M 19 1 ∧ M 19 1 ≤ 40) ∧ (0 ≤ M 5 4 ∧ M 5 4 ≤ 10 ∧ howOk 5 M) ∧ (0 ≤ M (f + 1) 4 ∧ M (f + 1) 4 ≤ 10 ∧ howOk (f + 1) M) ∧ codeOk (M 21 3) (M 22)
noncomputable def envC (f : Nat) (M : MEM) : EN := (fun m => if 0 ≤ M f 6 then M f 6 else flC M m, fun d m => plC 5 M d m + plC (f + 1) M d m, codeV (M 21 3) (M 22))
theorem envC_cl (f : Nat) (M : MEM) : clE (envC f M) := fun g => codeV_in _ _ _
theorem plC_cg {c : Nat} {M M' : MEM} (h : ∀ q, q ≤ 4 → M' (c + q) = M (c + q)) : plC c M' = plC c M := by
  have h0 := h 0 (by omega)
  rw [Nat.add_zero] at h0
  funext d m
  unfold plC plF
  rw [h0, h 1 (by omega), h 2 (by omega), h 3 (by omega), h 4 (by omega)]
theorem howOk_cg {c : Nat} {M M' : MEM} (h : ∀ q, q ≤ 4 → M' (c + q) = M (c + q)) (g : howOk c M) : howOk c M' := by
  have h0 := h 0 (by omega)
  rw [Nat.add_zero] at h0
  intro i hi
  rw [h0] at hi
  rw [h 4 (by omega)]
  exact g i hi
/-- what MINUTES to come change -/
def offF (f : Nat) (M M' : MEM) : Prop := (∀ c, c ≠ f → c ≠ f + 6 → c ≠ f + 7 → c ≠ f + 9 → c ≠ 21 → c ≠ 23 → c ≠ 24 → M' c = M c) ∧ (∀ k, k ≠ 9 → k ≠ 10 → M' f k = M f k) ∧ (∀ k, k ≠ 4 → M' 21 k = M 21 k) ∧ (∀ k, k ≠ 3 → k ≠ 4 → k ≠ 5 → M' (f + 6) k = M (f + 6) k)
theorem offF.rf {f : Nat} {M : MEM} : offF f M M := ⟨fun _ _ _ _ _ _ _ _ => rfl, fun _ _ _ => rfl, fun _ _ => rfl, fun _ _ _ _ => rfl⟩
theorem offF.tr {f : Nat} {M M1 M2 : MEM} (h : offF f M M1) (g : offF f M1 M2) : offF f M M2 :=
  ⟨fun c a1 a2 a3 a4 a5 a6 a7 => (g.1 c a1 a2 a3 a4 a5 a6 a7).trans (h.1 c a1 a2 a3 a4 a5 a6 a7), fun k a1 a2 => (g.2.1 k a1 a2).trans (h.2.1 k a1 a2), fun k a1 => (g.2.2.1 k a1).trans (h.2.2.1 k a1), fun k a1 a2 a3 => (g.2.2.2 k a1 a2 a3).trans (h.2.2.2 k a1 a2 a3)⟩
theorem offF.env {f : Nat} {M M' : MEM} (hf : f = 224 ∨ f = 234) (h : offF f M M') : envC f M' = envC f M := by
  have r : ∀ c, (c = 5 ∨ c = 6 ∨ c = 7 ∨ c = 8 ∨ c = 9 ∨ c = 19 ∨ c = 20 ∨ c = 22 ∨ (f + 1 ≤ c ∧ c ≤ f + 5)) → M' c = M c := fun c hc => h.1 c (by omega) (by omega) (by omega) (by omega) (by omega) (by omega) (by omega)
  unfold envC flC
  rw [plC_cg (c := 5) (fun q hq => r _ (by omega)), plC_cg (c := f + 1) (fun q hq => r _ (by omega)), h.2.1 6 (by omega) (by omega), h.2.2.1 3 (by omega), r 19 (by omega), r 20 (by omega), r 22 (by omega)]
theorem offF.eOk {f : Nat} {M M' : MEM} (hf : f = 224 ∨ f = 234) (h : offF f M M') (g : eOk f M) : eOk f M' := by
  have r : ∀ c, (c = 5 ∨ c = 6 ∨ c = 7 ∨ c = 8 ∨ c = 9 ∨ c = 19 ∨ c = 20 ∨ c = 22 ∨ (f + 1 ≤ c ∧ c ≤ f + 5)) → M' c = M c := fun c hc => h.1 c (by omega) (by omega) (by omega) (by omega) (by omega) (by omega) (by omega)
  obtain ⟨g1, ⟨g2, g3, g4⟩, ⟨g5, g6, g7⟩, g8⟩ := g
  refine ⟨?_, ⟨?_, ?_, howOk_cg (fun q hq => r _ (by omega)) g4⟩, ⟨?_, ?_, howOk_cg (fun q hq => r _ (by omega)) g7⟩, ?_⟩
  · rw [r 19 (by omega)]; exact g1
  · rw [r 5 (by omega)]; exact g2
  · rw [r 5 (by omega)]; exact g3
  · rw [r (f + 1) (by omega)]; exact g5
  · rw [r (f + 1) (by omega)]; exact g6
  · rw [h.2.2.1 3 (by omega), r 22 (by omega)]; exact g8
theorem ish_c2 : ish i_and 0 1 = 0 ∧ ish i_and 1 1 = 1 ∧ ish i_and 2 1 = 0 ∧ ish i_and 3 1 = 1 ∧ ish i_and 4 1 = 0 ∧ ish i_and 4 2 = 0 ∧ ish i_and 0 4 = 0 ∧ ish i_and 1 4 = 0 ∧ ish i_and 2 4 = 0 ∧ ish i_and 3 4 = 0 ∧ ish i_and 4 4 = 4 := by
  simp only [ish_def]
  decide
theorem did_1 {k p n : Int} {s : DS} (h0 : 0 ≤ p) (hk : k = s.2.2.1) : ish i_and (didD k p (walkD n p.toNat s)) 1 = 0 ↔ (walkD n p.toNat s).1.2.2.1 = k := by
  unfold didD
  by_cases hp : p < 1
  · rw [if_pos hp, ish_c2.2.2.2.2.1, show p.toNat = 0 by omega]
    exact ⟨fun _ => hk.symm, fun _ => rfl⟩
  · rw [if_neg hp]
    unfold flg
    generalize walkD n p.toNat s = r
    by_cases h1 : r.1.2.2.1 = k
    · by_cases h2 : r.2 = true
      · rw [if_neg (by omega), if_pos h2, show (0 : Int) + 2 = 2 from rfl, ish_c2.2.2.1]; exact ⟨fun _ => h1, fun _ => rfl⟩
      · rw [if_neg (by omega), if_neg h2, show (0 : Int) + 0 = 0 from rfl, ish_c2.1]; exact ⟨fun _ => h1, fun _ => rfl⟩
    · by_cases h2 : r.2 = true
      · rw [if_pos (Or.inr h1), if_pos h2, show (1 : Int) + 2 = 3 from rfl, ish_c2.2.2.2.1]; exact ⟨fun q => by omega, fun q => absurd q h1⟩
      · rw [if_pos (Or.inr h1), if_neg h2, show (1 : Int) + 0 = 1 from rfl, ish_c2.2.1]; exact ⟨fun q => by omega, fun q => absurd q h1⟩
theorem did_2 {k p n : Int} {s : DS} (h0 : 0 ≤ p) : ish i_and (didD k p (walkD n p.toNat s)) 2 = 0 ↔ (walkD n p.toNat s).2 = false := by
  unfold didD
  by_cases hp : p < 1
  · rw [if_pos hp, ish_c2.2.2.2.2.2.1, show p.toNat = 0 by omega]
    exact ⟨fun _ => rfl, fun _ => rfl⟩
  · rw [if_neg hp]
    unfold flg
    generalize walkD n p.toNat s = r
    by_cases h1 : r.1.2.2.1 = k
    · by_cases h2 : r.2 = true
      · rw [if_neg (by omega), if_pos h2, show (0 : Int) + 2 = 2 from rfl, ish_c1.2.2.1, h2]; exact ⟨fun q => by omega, fun q => by cases q⟩
      · rw [if_neg (by omega), if_neg h2, show (0 : Int) + 0 = 0 from rfl, ish_c1.1]; exact ⟨fun _ => by simpa using h2, fun _ => rfl⟩
    · by_cases h2 : r.2 = true
      · rw [if_pos (Or.inr h1), if_pos h2, show (1 : Int) + 2 = 3 from rfl, ish_c1.2.2.2.1, h2]; exact ⟨fun q => by omega, fun q => by cases q⟩
      · rw [if_pos (Or.inr h1), if_neg h2, show (1 : Int) + 0 = 1 from rfl, ish_c1.2.1]; exact ⟨fun _ => by simpa using h2, fun _ => rfl⟩
theorem did_4 {k p : Int} {r : DS × Bool} (h0 : 0 ≤ p) : ish i_and (didD k p r) 4 = 0 ↔ p ≠ 0 := by
  unfold didD
  by_cases hp : p < 1
  · rw [if_pos hp, ish_c2.2.2.2.2.2.2.2.2.2.2]
    omega
  · rw [if_neg hp]
    refine ⟨fun _ => by omega, fun _ => ?_⟩
    unfold flg
    split <;> split
    · exact ish_c2.2.2.2.2.2.2.2.2.2.1
    · exact ish_c2.2.2.2.2.2.2.2.1
    · exact ish_c2.2.2.2.2.2.2.2.2.1
    · exact ish_c2.2.2.2.2.2.2.1
theorem did_c (k p : Int) (r : DS × Bool) : didD k p r = 0 ∨ didD k p r = 1 ∨ didD k p r = 2 ∨ didD k p r = 3 ∨ didD k p r = 4 := by
  unfold didD flg
  by_cases h : p < 1
  · rw [if_pos h]; simp
  · rw [if_neg h]
    by_cases h1 : (0 : Int) = 1 ∨ r.1.2.2.1 ≠ k
    · rw [if_pos h1]
      by_cases h2 : r.2 = true
      · rw [if_pos h2]; simp
      · rw [if_neg h2]; simp
    · rw [if_neg h1]
      by_cases h2 : r.2 = true
      · rw [if_pos h2]; simp
      · rw [if_neg h2]; simp
/-- the PACE of a DONKEY, given as the class gives it -/
theorem pace_of {b : Nat} {d m n : Int} {e : EN} {M : MEM} (hb : b ≠ 24) (hb1 : b + 1 ≠ 24) (hd : okD n (dsC b M)) (hc : codeOk (M 21 3) (M 22)) (h2 : e.2.2 = codeV (M 21 3) (M 22)) :
    ∃ M1 M', ru_give 21 b (e.1 m) (e.2.1 d m) m d M = some M1 ∧ ru_pace 21 M1 = some (paceD e d m (dsC b M), M') ∧ (∀ c, c ≠ 21 → c ≠ 23 → c ≠ 24 → M' c = M c) ∧ ∀ k, k ≠ 4 → M' 21 k = M 21 k := by
  obtain ⟨q1, q2, q3, q4, q5, q6, q7, q8, q9⟩ := hd
  simp only [dsC] at q3 q4 q7
  obtain ⟨M1, e1, o1, g0, g1, g2, g3, g4, g5, g6, g7⟩ := give_eq (fl := e.1 m) (ca := e.2.1 d m) (m := m) (d := d) hb hb1 q3 (by omega) q7
  have r21 : M1 21 = M 21 := o1 21 (by decide)
  have r22 : M1 22 = M 22 := o1 22 (by decide)
  obtain ⟨M', e2, o2⟩ := ru_pace_eq (M := M1) (by rw [r21, r22]; exact hc)
  refine ⟨M1, M', e1, ?_, fun c c1 c2 c3 => (o2.1 c c1 c2).trans (o1 c c3), fun k hk => (o2.2 k hk).trans (by rw [r21])⟩
  rw [e2, r21, r22]
  unfold paceD
  rw [h2, codeV_congr (h := gvD e d m (dsC b M))]
  intro i hi
  unfold gvD dsC
  have hi : i = 0 ∨ i = 1 ∨ i = 2 ∨ i = 3 ∨ i = 4 ∨ i = 5 ∨ i = 6 ∨ i = 7 := by omega
  rcases hi with rfl | rfl | rfl | rfl | rfl | rfl | rfl | rfl
  · exact g0
  · exact g1
  · exact g2
  · exact g3
  · exact g4
  · exact g5
  · exact g6
  · exact g7
/-- the future of a DONKEY d behind j MINUTES of the way T -/
def futAt (f : Nat) (e : EN) (n d m0 : Int) (T : Nat → DS) (j : Nat) (M : MEM) : Prop :=
  envC f M = e ∧ eOk f M ∧ M (f + 6) 2 = n ∧ eqD n (T j) (dsC (f + 6) M) ∧ M f 7 = d ∧ M f 8 = m0 ∧ M f 9 = (j : Int) ∧ M f 10 = cnt T j ∧ ∀ i : Nat, (i : Int) < cnt T j → isT T (M (f + 9) i) i ∧ M (f + 9) i < j
theorem fut_step {f : Nat} {e : EN} {n d m0 : Int} {s : DS} {j : Nat} {M : MEM} (hf : f = 224 ∨ f = 234) (hs : okD n s) (hk : s.2.2.1 ≤ 100000000) (hm0 : 0 ≤ m0) (hm1 : m0 ≤ 100000000) (hj : j < 600) (h : futAt f e n d m0 (trajD e n d m0 s) j M) :
    ∃ did M', fu_step f M = some (did, M') ∧ futAt f e n d m0 (trajD e n d m0 s) (j + 1) M' ∧ offF f M M' ∧ (ish i_and did 1 = 0 ↔ cnt (trajD e n d m0 s) (j + 1) = cnt (trajD e n d m0 s) j) ∧ (ish i_and did 4 = 0 ↔ paceD e d (m0 + j) (trajD e n d m0 s j) ≠ 0) ∧ (did = 0 ∨ did = 1 ∨ did = 2 ∨ did = 3 ∨ did = 4) := by
  have hcl : clE e := by rw [← h.1]; exact envC_cl f M
  have hst := traj_stk (d := d) (m0 := m0) hcl hs (by omega)
  have hok := (traj_ok (d := d) (m0 := m0) hcl hs (by omega) j (by omega))
  have hS := trajD_S e n d m0 s j
  generalize hT : trajD e n d m0 s = T at *
  have hT0 : (T 0).2.2.1 = s.2.2.1 := by rw [← hT]; rfl
  obtain ⟨h1, h2, h3, h4, h5, h6, h7, h8, h9⟩ := h
  obtain ⟨hok, hkl, hkr⟩ := hok
  have hcb := cnt_le hst (show j ≤ 1000000 by omega)
  have hokM : okD n (dsC (f + 6) M) := okD_congr h4 hok
  have ep : paceD e d (m0 + j) (dsC (f + 6) M) = paceD e d (m0 + j) (T j) := by unfold paceD; rw [gvD_congr hok.2.2.1 hok.2.2.2.1 h4]
  have hp := hcl (gvD e d (m0 + j) (T j))
  have hp0 : 0 ≤ paceD e d (m0 + j) (T j) := hp.1
  have hp4 : paceD e d (m0 + j) (T j) ≤ 4 := hp.2
  have hw : wr (M f 8 + M f 9) = m0 + j := by rw [h6, h7]; exact wr_i (by omega) (by omega)
  obtain ⟨g1, ⟨g2, g3, g4⟩, ⟨g5, g6, g7⟩, g8⟩ := h2
  have efl : (if 0 ≤ M f 6 then M f 6 else flC M (m0 + j)) = e.1 (m0 + j) := by rw [← h1]; rfl
  have epl : plC 5 M d (m0 + j) + plC (f + 1) M d (m0 + j) = e.2.1 d (m0 + j) := by rw [← h1]; rfl
  have ecv : e.2.2 = codeV (M 21 3) (M 22) := by rw [← h1]; rfl
  have hpl := plC_bd (d := d) (m := m0 + j) g4
  have hpl2 := plC_bd (d := d) (m := m0 + j) g7
  obtain ⟨M1, M2, e1, e2, o1, o2⟩ := pace_of (b := f + 6) (d := d) (m := m0 + j) (e := e) (M := M) (by omega) (by omega) hokM g8 ecv
  have ho6 : M2 (f + 6) = M (f + 6) := o1 _ (by omega) (by omega) (by omega)
  have ho7 : M2 (f + 7) = M (f + 7) := o1 _ (by omega) (by omega) (by omega)
  have hof : M2 f = M f := o1 _ (by omega) (by omega) (by omega)
  have hds : dsC (f + 6) M2 = dsC (f + 6) M := by unfold dsC; rw [ho6, show f + 6 + 1 = f + 7 by omega, ho7]
  rw [ep] at e2
  have hk5 : M (f + 6) 5 = (T j).2.2.1 := h4.2.2.1.symm
  obtain ⟨M3, e3, d3, n3, o3⟩ := be_walk_eq (b := f + 6) (n := n) (pace := paceD e d (m0 + j) (T j)) (M := M2) hp0 hp4 (by rw [ho6]; exact h3) (by rw [hds]; exact hokM) (by rw [ho6]; omega)
  rw [hds, ho6, hk5] at e3
  rw [hds] at d3
  -- the step of T against the step of the cells
  have hcg := walkD_congr (n := n) (by have := hs.1; omega) (paceD e d (m0 + j) (T j)).toNat hok.2.2.1 h4
  have hTn : T (j + 1) = (walkD n (paceD e d (m0 + j) (T j)).toNat (T j)).1 := hS
  have hkn : (walkD n (paceD e d (m0 + j) (T j)).toNat (dsC (f + 6) M)).1.2.2.1 = (T (j + 1)).2.2.1 := by rw [hTn]; exact hcg.1.2.2.1.symm
  have hd1 := did_1 (n := n) (k := (T j).2.2.1) (s := dsC (f + 6) M) hp0 h4.2.2.1
  rw [hkn] at hd1
  have hcs : cnt T (j + 1) = cnt T j ∨ cnt T (j + 1) = cnt T j + 1 := hst j (by omega)
  have hce : (T (j + 1)).2.2.1 = (T j).2.2.1 ↔ cnt T (j + 1) = cnt T j := by unfold cnt; omega
  have hd4 := did_4 (k := (T j).2.2.1) (r := walkD n (paceD e d (m0 + j) (T j)).toNat (dsC (f + 6) M)) hp0
  have hdid := did_c (T j).2.2.1 (paceD e d (m0 + j) (T j)) (walkD n (paceD e d (m0 + j) (T j)).toNat (dsC (f + 6) M))
  generalize hdd : didD (T j).2.2.1 (paceD e d (m0 + j) (T j)) (walkD n (paceD e d (m0 + j) (T j)).toNat (dsC (f + 6) M)) = did at *
  have h3f : M3 f = M f := (o3.1 f (by omega) (by omega)).trans hof
  have eq3 : eqD n (T (j + 1)) (dsC (f + 6) M3) := by rw [d3, hTn]; exact hcg.1
  have h39 : M3 (f + 9) = M (f + 9) := (o3.1 _ (by omega) (by omega)).trans (o1 _ (by omega) (by omega) (by omega))
  have hb24 : offF f M M3 := by
    refine ⟨fun c c1 c2 c3 c4 c5 c6 c7 => (o3.1 c c2 (by omega)).trans (o1 c c5 c6 c7), fun k _ _ => by rw [h3f], fun k hk => ?_, fun k k3 k4 k5 => (o3.2 k k3 k4 k5).trans (by rw [ho6])⟩
    rw [o3.1 21 (by omega) (by omega)]; exact o2 k hk
  -- the program
  have hrun : fu_step f M = (if ish i_and did 1 = 0 then fu_step_j142 f did M3 else fu_step_j142 f did (up2 (up2 M3 (f + 9) (M f 10).toNat (M f 9)) f 10 (wr (M f 10 + 1)))) := by
    have ej : ∀ x0, x0 = e.1 (m0 + j) → fu_step_j32 f (m0 + j) x0 M = (if ish i_and did 1 = 0 then fu_step_j142 f did M3 else fu_step_j142 f did (up2 (up2 M3 (f + 9) (M f 10).toNat (M f 9)) f 10 (wr (M f 10 + 1)))) := fun x0 hx => by
      unfold fu_step_j32
      rw [h5, ca_pull_eq g2 g3 g4, Option.bind_some, ca_pull_eq g5 g6 g7, Option.bind_some, epl, wr_i (by omega) (by omega), hx, e1, Option.bind_some, e2, Option.bind_some, e3, Option.bind_some]
      dsimp only
      have h310 : M3 f 10 = M f 10 := by rw [h3f]
      have h309 : M3 f 9 = M f 9 := by rw [h3f]
      by_cases hc : ish i_and did 1 = 0
      · rw [if_pos hc, if_pos hc]
      · rw [if_neg hc, if_neg hc, if_neg (by omega), if_neg (by omega), if_pos (by omega), Option.bind_some, h310, h309]
        have r10 : up2 M3 (f + 9) (M f 10).toNat (M f 9) f 10 = M f 10 := by rw [rd_a (by omega), h3f]
        rw [r10, Option.bind_some]
    unfold fu_step
    rw [hw]
    by_cases h6 : 0 ≤ M f 6
    · rw [if_pos h6]
      rw [if_pos h6] at efl
      exact ej _ efl
    · rw [if_neg h6]
      rw [if_neg h6] at efl
      rw [fl_in_eq (by unfold InR; omega) g1.1 g1.2, Option.bind_some]
      exact ej _ efl
  rw [hrun]
  by_cases hc : ish i_and did 1 = 0
  · have hcc := hce.mp (hd1.mp hc)
    rw [if_pos hc]
    unfold fu_step_j142
    rw [Option.bind_some, h3f, h7, wr_i (by omega) (by omega)]
    have hof2 : offF f M (up2 M3 f 9 ((j : Int) + 1)) := hb24.tr ⟨fun c c1 c2 c3 c4 c5 c6 c7 => up2_ne c1, fun k k9 k10 => rd_k k9, fun k hk => rd_a (by omega), fun k k3 k4 k5 => rd_a (by omega)⟩
    refine ⟨did, _, rfl, ⟨(hof2.env hf).trans h1, hof2.eOk hf ⟨g1, ⟨g2, g3, g4⟩, ⟨g5, g6, g7⟩, g8⟩, ?_, ?_, ?_, ?_, ?_, ?_, fun i hi => ?_⟩, hof2, hd1.trans hce, hd4, hdid⟩
    · rw [rd_a (by omega)]; exact n3
    · have : dsC (f + 6) (up2 M3 f 9 ((j : Int) + 1)) = dsC (f + 6) M3 := by unfold dsC; rw [up2_ne (by omega), up2_ne (by omega)]
      rw [this]; exact eq3
    · rw [rd_k (by omega), h3f]; exact h5
    · rw [rd_k (by omega), h3f]; exact h6
    · rw [rd_same]; omega
    · rw [rd_k (by omega), h3f, hcc]; exact h8
    · rw [hcc] at hi
      rw [rd_a (by omega), h39]
      have := h9 i hi
      exact ⟨this.1, by have := this.2; omega⟩
  · have hcc : cnt T (j + 1) = cnt T j + 1 := by
      rcases hcs with q | q
      · exact absurd (hd1.mpr (hce.mpr q)) hc
      · exact q
    rw [if_neg hc]
    unfold fu_step_j142
    obtain ⟨c, hcn⟩ : ∃ c : Nat, cnt T j = (c : Int) := ⟨(cnt T j).toNat, by omega⟩
    have r9 : up2 (up2 M3 (f + 9) (M f 10).toNat (M f 9)) f 10 (wr (M f 10 + 1)) f 9 = j := by rw [rd_k (by omega), rd_a (by omega), h3f, h7]
    rw [Option.bind_some, r9, wr_i (x := (j : Int) + 1) (by omega) (by omega), h8, h7, hcn, toNat_c, wr_i (x := (c : Int) + 1) (by omega) (by omega)]
    have hof2 : offF f M (up2 (up2 (up2 M3 (f + 9) c (j : Int)) f 10 ((c : Int) + 1)) f 9 ((j : Int) + 1)) := hb24.tr ⟨fun c c1 c2 c3 c4 c5 c6 c7 => by rw [up2_ne c1, up2_ne c1, up2_ne c4], fun k k9 k10 => by rw [rd_k k9, rd_k k10, rd_a (by omega)], fun k hk => by rw [rd_a (by omega), rd_a (by omega), rd_a (by omega)], fun k k3 k4 k5 => by rw [rd_a (by omega), rd_a (by omega), rd_a (by omega)]⟩
    refine ⟨did, _, rfl, ⟨(hof2.env hf).trans h1, hof2.eOk hf ⟨g1, ⟨g2, g3, g4⟩, ⟨g5, g6, g7⟩, g8⟩, ?_, ?_, ?_, ?_, ?_, ?_, fun i hi => ?_⟩, hof2, by rw [← hcn]; exact hd1.trans hce, hd4, hdid⟩
    · rw [rd_a (by omega), rd_a (by omega), rd_a (by omega)]; exact n3
    · have : dsC (f + 6) (up2 (up2 (up2 M3 (f + 9) c (j : Int)) f 10 ((c : Int) + 1)) f 9 ((j : Int) + 1)) = dsC (f + 6) M3 := by unfold dsC; rw [up2_ne (by omega), up2_ne (by omega), up2_ne (by omega), up2_ne (by omega), up2_ne (by omega), up2_ne (by omega)]
      rw [this]; exact eq3
    · rw [rd_k (by omega), rd_k (by omega), rd_a (by omega), h3f]; exact h5
    · rw [rd_k (by omega), rd_k (by omega), rd_a (by omega), h3f]; exact h6
    · rw [rd_same]; omega
    · rw [rd_k (by omega), rd_same, hcc, hcn]
    · rw [hcc, hcn] at hi
      rw [rd_a (by omega), rd_a (by omega)]
      by_cases hic : i = c
      · subst hic
        rw [rd_same]
        exact ⟨⟨j, rfl, hcn, by rw [hcc, hcn]⟩, by omega⟩
      · rw [rd_k hic, h39]
        have := h9 i (by omega)
        exact ⟨this.1, by have := this.2; omega⟩
