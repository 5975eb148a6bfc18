-- ===== surroundings alike =====
/-- thought of alike -/
def thR (f : Nat) (M : MEM) : Prop := M (f + 1) 4 = M 278 8 ∧ 0 ≤ M 278 8 ∧ M 278 8 ≤ 2 ∧ ∀ i : Nat, (i : Int) < M 278 8 → M (f + 2) i = M 282 (40 + 4 * i) ∧ M (f + 3) i = M 282 (40 + 4 * i + 1) ∧ M (f + 4) i = M 282 (40 + 4 * i + 2) ∧ M (f + 5) i = M 282 (40 + 4 * i + 3) ∧ (M (f + 5) i = 1 ∨ M (f + 5) i = -1)
def swR (f : Nat) (M : MEM) : Prop := (M f 6 = -1 ∧ M 278 5 = -1) ∨ (0 ≤ M f 6 ∧ M 278 5 = M f 6)
theorem fl_alike {M : MEM} (hF : C_F M) (m : Int) : flC M m = if M 278 4 = 0 then 0 else M 281 (m % M 278 4).toNat := by
  obtain ⟨h1, h2, h3, h4⟩ := hF
  unfold flC
  rw [h1]
  by_cases h : 1 ≤ M 19 1
  · have q1 := Int.emod_nonneg m (show M 19 1 ≠ 0 by omega)
    have q2 := Int.emod_lt_of_pos m (show 0 < M 19 1 by omega)
    rw [if_pos h, if_neg (by omega), h4 _ (by omega)]
  · rw [if_neg h, if_pos (by omega)]
theorem sumN_split (F : Nat → Int) : sumN F 12 = sumN F 10 + (F 10 + F 11) := by
  show sumN F 10 + F 10 + F 11 = _
  omega
theorem hr_alike {f : Nat} {M : MEM} (hC : C_C M) (hT : thR f M) (d m : Int) : plC 5 M d m + plC (f + 1) M d m = hrM M d m := by
  obtain ⟨c1, c2, c3, c4⟩ := hC
  obtain ⟨t1, t2, t3, t4⟩ := hT
  unfold hrM plC
  rw [sumN_split]
  congr 1
  · refine sumN_congr (fun i hi => ?_)
    unfold plF hrF
    by_cases h : (i : Int) < M 5 4
    · obtain ⟨q1, q2, q3, q4, -⟩ := c4 i (by omega)
      rw [if_pos h, if_pos (by omega), ← q1, ← q2, ← q3, ← q4]
    · rw [if_neg h, if_neg (by omega)]
  · have tail : ∀ k, 2 + k ≤ 10 → sumN (plF (f + 1) M d m) (2 + k) = plF (f + 1) M d m 0 + plF (f + 1) M d m 1 := by
      intro k
      induction k with
      | zero => intro _; show (0 : Int) + plF (f + 1) M d m 0 + plF (f + 1) M d m 1 = _; rw [Int.zero_add]
      | succ k ih =>
        intro hk
        have z : plF (f + 1) M d m (2 + k) = 0 := by unfold plF; rw [if_neg (by omega)]
        rw [show 2 + (k + 1) = (2 + k) + 1 by omega, sumN_S, ih (by omega), z, Int.add_zero]
    have e := tail 8 (by omega)
    rw [show 2 + 8 = 10 from rfl] at e
    rw [e]
    have one : ∀ i, i < 2 → plF (f + 1) M d m i = hrF M d m (10 + i) := fun i hi => by
      unfold plF hrF
      by_cases h : (i : Int) < M 278 8
      · obtain ⟨q1, q2, q3, q4, -⟩ := t4 i h
        rw [if_pos (by omega), if_pos (by omega), show f + 1 + 1 = f + 2 by omega, show f + 1 + 2 = f + 3 by omega, show f + 1 + 3 = f + 4 by omega, show f + 1 + 4 = f + 5 by omega, q1, q2, q3, q4, show 4 * (10 + i) = 40 + 4 * i by omega]
      · rw [if_neg (by omega), if_neg (by omega)]
    rw [one 0 (by omega), one 1 (by omega)]
theorem env_alike {f : Nat} {M : MEM} (hF : C_F M) (hC : C_C M) (hT : thR f M) (hS : swR f M) : envC f M = envM M := by
  unfold envC envM
  have e1 : (fun m => if 0 ≤ M f 6 then M f 6 else flC M m) = flM M := by
    funext m
    unfold flM
    rcases hS with ⟨q1, q2⟩ | ⟨q1, q2⟩
    · rw [if_neg (by omega), if_pos q2, fl_alike hF]
    · rw [if_pos q1, if_neg (by omega), q2]
  have e2 : (fun d m => plC 5 M d m + plC (f + 1) M d m) = hrM M := by
    funext d m
    exact hr_alike hC hT d m
  rw [e1, e2]
theorem eOk_of {f : Nat} {M : MEM} (hF : C_F M) (hC : C_C M) (hT : thR f M) (hR : rlOk M) : eOk f M := by
  obtain ⟨c1, c2, c3, c4⟩ := hC
  obtain ⟨t1, t2, t3, t4⟩ := hT
  refine ⟨⟨hF.2.1, hF.2.2.1⟩, ⟨by omega, by omega, fun i hi => (c4 i (by omega)).2.2.2.2⟩, ⟨by omega, by omega, fun i hi => ?_⟩, hR.code⟩
  rw [show f + 1 + 4 = f + 5 by omega]
  exact (t4 i (by omega)).2.2.2.2
theorem em_of {f : Nat} {M : MEM} (hF : C_F M) (hC : C_C M) (hT : thR f M) : emOk M := by
  obtain ⟨c1, c2, c3, c4⟩ := hC
  obtain ⟨t1, t2, t3, t4⟩ := hT
  obtain ⟨f1, f2, f3, -⟩ := hF
  refine ⟨⟨by omega, by omega⟩, ⟨by omega, by omega⟩, ⟨t2, t3⟩, fun i hi => ?_⟩
  rcases hi with hi | ⟨h1, h2⟩
  · have := c4 i (by omega)
    rw [← this.2.2.2.1]
    exact this.2.2.2.2
  · obtain ⟨j, rfl⟩ : ∃ j, i = 10 + j := ⟨i - 10, by omega⟩
    have := t4 j (by omega)
    rw [show 4 * (10 + j) + 3 = 40 + 4 * j + 3 by omega, ← this.2.2.2.1]
    exact this.2.2.2.2
theorem th0 {f : Nat} {M : MEM} (hf : f = 224 ∨ f = 234) (h : C_N M) : thR f M := by
  obtain ⟨h1, h2, h3, h4, h5, h6, h7⟩ := h
  refine ⟨?_, by omega, by omega, fun i hi => by omega⟩
  rcases hf with rfl | rfl
  · show M 225 4 = _; omega
  · show M 235 4 = _; omega
theorem sw0 {f : Nat} {M : MEM} (hf : f = 224 ∨ f = 234) (h : C_N M) : swR f M := by
  obtain ⟨h1, h2, h3, h4, h5, h6, h7⟩ := h
  rcases hf with rfl | rfl
  · exact Or.inl ⟨h1, h5⟩
  · exact Or.inl ⟨h2, h5⟩
-- ===== the reference's MINUTES to come =====
def thenAt (N : Nat) (ns : Nat → Int) (e : EN) (m0 : Int) (ss : Nat → DS) (j : Nat) (M : MEM) : Prop :=
  M 278 1 = (N : Int) ∧ (∀ d : Nat, d < N → M 280 d = ns d) ∧ envM M = e ∧ emOk M ∧ rlOk M ∧ M 292 165 = m0 + j ∧ ∀ d : Nat, d < N → eqD (ns d) (trajD e (ns d) d m0 (ss d) j) (dsM 292 (55 * d) M)
def thOk (N : Nat) (ns : Nat → Int) (m0 : Int) (ss : Nat → DS) : Prop := N ≤ 3 ∧ 0 ≤ m0 ∧ m0 ≤ 100000000 ∧ ∀ d : Nat, d < N → okD (ns d) (ss d) ∧ (ss d).2.2.1 ≤ 100000000
theorem then_step {N : Nat} {ns : Nat → Int} {e : EN} {m0 : Int} {ss : Nat → DS} {j : Nat} {M : MEM} (hok : thOk N ns m0 ss) (hj : j ≤ 600) (h : thenAt N ns e m0 ss j M) :
    ∃ M', mo_goMinute 292 M = some M' ∧ thenAt N ns e m0 ss (j + 1) M' ∧ offG 292 M M' ∧ (∀ d : Nat, d < N → M' 287 d = cnt (trajD e (ns d) d m0 (ss d)) (j + 1) - cnt (trajD e (ns d) d m0 (ss d)) j) ∧
    M' 278 26 = bitsI (fun d => (stepD e (ns d) d (m0 + j) (trajD e (ns d) d m0 (ss d) j)).2) N ∧ M' 278 27 = bitsI (fun d => decide (paceD e d (m0 + j) (trajD e (ns d) d m0 (ss d) j) = 0)) N ∧
    (∀ d : Nat, d < N → (stepD e (ns d) d (m0 + j) (trajD e (ns d) d m0 (ss d) j)).2 = true → (d : Int) = M 278 29 → M' 278 28 = (trajD e (ns d) d m0 (ss d) (j + 1)).1) := by
  obtain ⟨hN3, hm0, hm1, hss⟩ := hok
  obtain ⟨h1, h2, h3, h4, h5, h6, h7⟩ := h
  have hcl : clE e := by rw [← h3]; exact fun g => codeV_in _ _ _
  have hT : ∀ d : Nat, d < N → okD (ns d) (trajD e (ns d) d m0 (ss d) j) ∧ (ss d).2.2.1 ≤ (trajD e (ns d) d m0 (ss d) j).2.2.1 ∧ (trajD e (ns d) d m0 (ss d) j).2.2.1 ≤ (ss d).2.2.1 + j := fun d hd => traj_ok hcl (hss d hd).1 (by have := (hss d hd).2; omega) j (by omega)
  have hgo : goOk 292 M := by
    refine ⟨by omega, by omega, h5, h4, by omega, by omega, fun d hd => ?_⟩
    have hd : d < N := by omega
    rw [h2 d hd]
    refine ⟨okD_congr (h7 d hd) (hT d hd).1, ?_⟩
    have e1 : (trajD e (ns d) d m0 (ss d) j).2.2.1 = M 292 (55 * d + 2) := (h7 d hd).2.2.1
    have := (hT d hd).2.2
    have := (hss d hd).2
    omega
  obtain ⟨M', g1, g2, g3, g4, g5, g6, g7, g8, g9⟩ := mo_go (Or.inr rfl) hgo
  have hr : ∀ d : Nat, d < N → eqD (ns d) (stepD e (ns d) d (m0 + j) (trajD e (ns d) d m0 (ss d) j)).1 (rowR 292 (envM M) M d).1 ∧ (stepD e (ns d) d (m0 + j) (trajD e (ns d) d m0 (ss d) j)).2 = (rowR 292 (envM M) M d).2 := fun d hd => by
    unfold rowR
    rw [h2 d hd, h3, h6]
    exact stepD_congr (hT d hd).1 (h7 d hd)
  refine ⟨M', g1, ⟨?_, fun d hd => ?_, ?_, g2.em (Or.inr rfl) h4, g2.rl (Or.inr rfl) h5, ?_, fun d hd => ?_⟩, g2, fun d hd => ?_, ?_, ?_, fun d hd hat hof => ?_⟩
  · rw [g2.2 1 (by omega)]; exact h1
  · rw [g2.1 280 (by omega) (by omega) (by omega)]; exact h2 d hd
  · rw [g2.env (Or.inr rfl)]; exact h3
  · rw [g3, h6]; omega
  · rw [trajD_S]
    have := (g4 d (by omega)).1
    rw [h2 d hd] at this
    exact (hr d hd).1.tr this.sy
  · have z := (g4 d (by omega)).2.2.2
    rw [z]
    unfold rowK cnt
    have hk := (hr d hd).1.2.2.1
    have e1 : (trajD e (ns d) d m0 (ss d) j).2.2.1 = M 292 (55 * d + 2) := (h7 d hd).2.2.1
    have hs := stepD_k (d := (d : Int)) (m := m0 + j) hcl (hT d hd).1
    rw [trajD_S]
    by_cases hz : (rowR 292 (envM M) M d).1.2.2.1 = M 292 (55 * d + 2)
    · rw [if_pos hz]; omega
    · rw [if_neg hz]; omega
  · rw [g6, h1, toNat_c]
    exact bitsI_congr (fun d hd => (hr d hd).2.symm)
  · rw [g7, h1, toNat_c]
    refine bitsI_congr (fun d hd => ?_)
    unfold stoodB paceD
    rw [h3, h6, gvD_congr (hT d hd).1.2.2.1 (hT d hd).1.2.2.2.1 (h7 d hd)]
  · rw [(hr d hd).2] at hat
    rw [g9 d (by omega) hat hof, trajD_S]
    exact (hr d hd).1.1.symm
theorem begin_then {M : MEM} : ∃ M', mo_beginThen M = some M' ∧ (∀ c, c ≠ 292 → M' c = M c) ∧ ∀ k : Nat, k < 166 → M' 292 k = M 279 k := by
  have hl : Tc (iter (fun s => mo_beginThen_b2 s.1 s.2) FU (0, M)) (fun r => (∀ c, c ≠ 292 → r.2 c = M c) ∧ ∀ k : Nat, k < 166 → r.2 292 k = M 279 k) := by
    refine Tc_n (fun i s => s.1 = (i : Int) ∧ (∀ c, c ≠ 292 → s.2 c = M c) ∧ ∀ k : Nat, k < i → s.2 292 k = M 279 k) 166 ⟨rfl, fun _ _ => rfl, fun k hk => by omega⟩ (by omega) (fun i s hi hI => ?_) (fun s hI => ?_)
    · obtain ⟨x, M1⟩ := s
      obtain ⟨rfl, h1, h2⟩ := hI
      dsimp only at h1 h2 ⊢
      unfold mo_beginThen_b2
      refine Tc_f (by omega) (Tc_t (by omega) (Tc_t (by omega) (Tc_u (Tc_inl ⟨(wr_i (by omega) (by omega)).trans (by omega), fun c hc => ?_, fun k hk => ?_⟩))))
      · dsimp only; rw [up2_ne hc]; exact h1 c hc
      · dsimp only
        rw [toNat_c, h1 279 (by decide)]
        by_cases e : k = i
        · subst e; exact rd_same
        · rw [rd_k e]; exact h2 k (by omega)
    · obtain ⟨x, M1⟩ := s
      obtain ⟨rfl, h1, h2⟩ := hI
      unfold mo_beginThen_b2
      exact Tc_t (by show (166 : Int) ≤ ((166 : Nat) : Int); omega) (Tc_inr ⟨h1, h2⟩)
  obtain ⟨r, e1, h1, h2⟩ := hl
  refine ⟨r.2, ?_, h1, h2⟩
  unfold mo_beginThen
  rw [e1]
  rfl
/-- what the reference's questions change -/
def offQ (M M' : MEM) : Prop := (∀ c, c ≠ 278 → c ≠ 287 → c ≠ 292 → c ≠ 293 → M' c = M c) ∧ ∀ k, (k < 14 ∨ 28 < k ∨ (19 ≤ k ∧ k ≤ 21)) → k ≠ 38 → M' 278 k = M 278 k
theorem offQ.rf {M : MEM} : offQ M M := ⟨fun _ _ _ _ _ => rfl, fun _ _ _ => rfl⟩
theorem offQ.tr {M M1 M2 : MEM} (h : offQ M M1) (g : offQ M1 M2) : offQ M M2 := ⟨fun c a b d e => (g.1 c a b d e).trans (h.1 c a b d e), fun k a b => (g.2 k a b).trans (h.2 k a b)⟩
theorem offG.Q {M M' : MEM} (h : offG 292 M M') : offQ M M' := ⟨fun c a b d _ => h.1 c d a b, fun k a _ => h.2 k a⟩
theorem rg278 {k : Nat} (h : (14 ≤ k ∧ k ≤ 28 ∧ k ≠ 21) ∨ k = 38) : rg 278 k = 0 := by
  unfold rg
  rw [if_neg (by omega), if_neg (by omega), if_pos rfl]
  repeat rw [if_neg (by omega)]
theorem offQ.chg {M M' : MEM} (h : offQ M M') : chg [0] M M' := fun a k hn => by
  by_cases h1 : a = 278
  · subst h1
    by_cases h2 : (14 ≤ k ∧ k ≤ 28 ∧ k ≠ 21) ∨ k = 38
    · exact absurd (by rw [rg278 h2]; exact List.mem_singleton.mpr rfl) hn
    · exact h.2 k (by omega) (by omega)
  · by_cases h3 : a = 287 ∨ a = 292 ∨ a = 293
    · refine absurd ?_ hn
      rcases h3 with rfl | rfl | rfl <;> exact List.mem_singleton.mpr rfl
    · rw [h.1 a h1 (by omega) (by omega) (by omega)]
theorem offQ.env {M M' : MEM} (h : offQ M M') : envM M' = envM M := by
  have r : ∀ c, (c = 21 ∨ c = 22 ∨ c = 281 ∨ c = 282) → M' c = M c := fun c hc => h.1 c (by omega) (by omega) (by omega) (by omega)
  unfold envM flM hrM hrF
  rw [r 21 (by omega), r 22 (by omega), r 281 (by omega), r 282 (by omega), h.2 4 (by omega) (by omega), h.2 5 (by omega) (by omega), h.2 7 (by omega) (by omega), h.2 8 (by omega) (by omega)]
theorem offQ.em {M M' : MEM} (h : offQ M M') (g : emOk M) : emOk M' := by
  unfold emOk howOkM at *
  rw [h.1 282 (by omega) (by omega) (by omega) (by omega), h.2 4 (by omega) (by omega), h.2 7 (by omega) (by omega), h.2 8 (by omega) (by omega)]
  exact g
theorem offQ.rl {M M' : MEM} (h : offQ M M') (g : rlOk M) : rlOk M' := g.cg (fun a k hr => h.chg a k (by rw [hr]; decide))
theorem thenAt.cg {N : Nat} {ns : Nat → Int} {e : EN} {m0 : Int} {ss : Nat → DS} {j : Nat} {M M' : MEM} (o : offQ M M') (h292 : M' 292 = M 292) (h : thenAt N ns e m0 ss j M) : thenAt N ns e m0 ss j M' := by
  obtain ⟨h1, h2, h3, h4, h5, h6, h7⟩ := h
  refine ⟨by rw [o.2 1 (by omega) (by omega)]; exact h1, fun d hd => by rw [o.1 280 (by omega) (by omega) (by omega) (by omega)]; exact h2 d hd, by rw [o.env]; exact h3, o.em h4, o.rl h5, by rw [h292]; exact h6, fun d hd => ?_⟩
  unfold dsM
  rw [h292]
  exact h7 d hd
theorem thenAt.cells {N : Nat} {ns : Nat → Int} {e : EN} {m0 : Int} {ss : Nat → DS} {j : Nat} {M M' : MEM} (c : chg [0] M M') (c8 : M' 278 = M 278) (c2 : M' 282 = M 282) (c9 : M' 292 = M 292) (h : thenAt N ns e m0 ss j M) : thenAt N ns e m0 ss j M' := by
  obtain ⟨p1, p2, p3, p4, p5, p6, p7⟩ := h
  have e22 : M' 22 = M 22 := c.row (fun k => (by decide : 3 ∉ [0]))
  have e281 : M' 281 = M 281 := c.row (fun k => (by decide : 2 ∉ [0]))
  refine ⟨?_, fun d hd => ?_, ?_, ?_, p5.cg (fun a k hr => c a k (by rw [hr]; decide)), ?_, fun d hd => ?_⟩
  · rw [c8]; exact p1
  · rw [c 280 d (by decide : 12 ∉ [0])]; exact p2 d hd
  · rw [← p3]; unfold envM flM hrM hrF; rw [c8, e281, c2, c 21 3 (by decide), e22]
  · unfold emOk howOkM at *; rw [c8, c2]; exact p4
  · rw [c9]; exact p6
  · unfold dsM; rw [c9]; exact p7 d hd
/-- all STROKES of the DONKEY d in the next 600 MINUTES -/
theorem find_times {N : Nat} {ns : Nat → Int} {e : EN} {m0 : Int} {ss : Nat → DS} {M : MEM} {d : Nat} (hok : thOk N ns m0 ss) (hd : d < N) (h : thenAt N ns e m0 ss 0 M) :
    ∃ M', mo_findTimes d M = some M' ∧ offQ M M' ∧ M' 278 38 = cnt (trajD e (ns d) d m0 (ss d)) 600 ∧ ∀ i : Nat, (i : Int) < cnt (trajD e (ns d) d m0 (ss d)) 600 → isT (trajD e (ns d) d m0 (ss d)) (M' 293 i) i ∧ M' 293 i < 600 := by
  have hcl : clE e := by rw [← h.2.2.1]; exact fun g => codeV_in _ _ _
  have hst := traj_stk (d := (d : Int)) (m0 := m0) hcl (hok.2.2.2 d hd).1 (by have := (hok.2.2.2 d hd).2; omega)
  have hl : Tc (iter (fun s => mo_findTimes_b7 d s.1 s.2) FU (0, up2 M 278 38 0)) (fun r => offQ M r.2 ∧ r.2 278 38 = cnt (trajD e (ns d) d m0 (ss d)) 600 ∧ ∀ i : Nat, (i : Int) < cnt (trajD e (ns d) d m0 (ss d)) 600 → isT (trajD e (ns d) d m0 (ss d)) (r.2 293 i) i ∧ r.2 293 i < 600) := by
    refine Tc_n (fun j s => s.1 = (j : Int) ∧ thenAt N ns e m0 ss j s.2 ∧ offQ M s.2 ∧ s.2 278 38 = cnt (trajD e (ns d) d m0 (ss d)) j ∧ ∀ i : Nat, (i : Int) < cnt (trajD e (ns d) d m0 (ss d)) j → isT (trajD e (ns d) d m0 (ss d)) (s.2 293 i) i ∧ s.2 293 i < j) 600 ⟨rfl, ?_, ⟨fun c x _ _ _ => up2_ne x, fun k _ y => rd_k y⟩, ?_, fun i hi => ?_⟩ (by omega) (fun j s hj hI => ?_) (fun s hI => ?_)
    · exact h.cg ⟨fun c x _ _ _ => up2_ne x, fun k _ y => rd_k y⟩ (show up2 M 278 38 0 292 = M 292 from up2_ne (by omega))
    · show up2 M 278 38 0 278 38 = _
      rw [rd_same, cnt_0]
    · rw [cnt_0] at hi; omega
    · obtain ⟨x, M1⟩ := s
      obtain ⟨rfl, h1, h2, h3, h4⟩ := hI
      dsimp only at h1 h2 h3 h4 ⊢
      unfold mo_findTimes_b7
      obtain ⟨M2, e1, g1, g2, g3, -, -, -⟩ := then_step hok (by omega) h1
      refine Tc_f (by omega) (Tc_e e1 ?_)
      have hs := hst j (by omega)
      have h287 := g3 d hd
      have hcb := cnt_le hst (show j ≤ 1000000 by omega)
      have h38 : M2 278 38 = cnt (trajD e (ns d) d m0 (ss d)) j := by rw [g2.2 38 (by omega)]; exact h3
      have h293 : M2 293 = M1 293 := g2.1 293 (by omega) (by omega) (by omega)
      have hd3 : (d : Int) < 3 := by have := hok.1; omega
      generalize hT : trajD e (ns d) d m0 (ss d) = T at *
      obtain ⟨c, hc⟩ : ∃ c : Nat, cnt T j = (c : Int) := ⟨(cnt T j).toNat, by omega⟩
      have wj : wr ((j : Int) + 1) = ((j + 1 : Nat) : Int) := (wr_i (by omega) (by omega)).trans (by omega)
      rcases hs with hs | hs
      · have : iter (fun s => mo_findTimes_b24 d j s.1 s.2) FU (0, M2) = some (0, M2) := by
          apply iter_exit
          show mo_findTimes_b24 d j 0 M2 = _
          unfold mo_findTimes_b24
          rw [if_pos ⟨by omega, hd3⟩, toNat_c, if_pos (by omega)]
        refine Tc_e this (Tc_inl ⟨wj, g1, h2.tr g2.Q, by dsimp only; rw [h38, hs], fun i hi => ?_⟩)
        dsimp only
        rw [hs] at hi
        rw [h293]
        have := h4 i hi
        exact ⟨this.1, by omega⟩
      · have : iter (fun s => mo_findTimes_b24 d j s.1 s.2) FU (0, M2) = some (1, up2 (up2 M2 293 c j) 278 38 ((c : Int) + 1)) := by
          refine loop_traj (fun i => if i = 0 then (0, M2) else (1, up2 (up2 M2 293 c j) 278 38 ((c : Int) + 1))) 1 (by omega) (fun k hk => ?_) ?_
          · have : k = 0 := by omega
            subst this
            show mo_findTimes_b24 d j 0 M2 = some (.inl (1, up2 (up2 M2 293 c j) 278 38 ((c : Int) + 1)))
            unfold mo_findTimes_b24
            rw [if_pos ⟨by omega, hd3⟩, toNat_c, if_neg (by omega), if_pos (by omega), h38, hc, toNat_c, Option.bind_some, rd_a (by omega), h38, hc, wr_i (by omega) (by omega), Option.bind_some, wr_i (by omega) (by omega)]
            rfl
          · show mo_findTimes_b24 d j 1 (up2 (up2 M2 293 c j) 278 38 ((c : Int) + 1)) = some (.inr (1, _))
            unfold mo_findTimes_b24
            rw [if_pos ⟨by omega, hd3⟩, toNat_c, rd_a (by omega), rd_a (by omega), if_pos (by omega)]
        refine Tc_e this ?_
        dsimp only
        have oQ : offQ M2 (up2 (up2 M2 293 c j) 278 38 ((c : Int) + 1)) := ⟨fun c x y z w => by rw [up2_ne x, up2_ne w], fun k x y => by rw [rd_k y, rd_a (by omega)]⟩
        refine Tc_inl ⟨wj, g1.cg oQ (by dsimp only; rw [up2_ne (by omega), up2_ne (by omega)]), (h2.tr g2.Q).tr oQ, ?_, fun i hi => ?_⟩
        · dsimp only
          rw [rd_same, hs, hc]
        · dsimp only
          rw [hs] at hi
          rw [rd_a (by omega)]
          by_cases hic : i = c
          · subst hic
            rw [rd_same]
            exact ⟨⟨j, rfl, hc, by rw [hs, hc]⟩, by omega⟩
          · rw [rd_k hic, h293]
            have := h4 i (by omega)
            exact ⟨this.1, by omega⟩
    · obtain ⟨x, M1⟩ := s
      obtain ⟨rfl, h1, h2, h3, h4⟩ := hI
      unfold mo_findTimes_b7
      exact Tc_t (by show (600 : Int) ≤ ((600 : Nat) : Int); omega) (Tc_inr ⟨h2, h3, h4⟩)
  obtain ⟨r, e1, h1, h2, h3⟩ := hl
  refine ⟨r.2, ?_, h1, h2, h3⟩
  unfold mo_findTimes
  rw [Option.bind_some, e1]
  rfl
