-- ===== the class's MINUTES to come: begun, gone through =====
theorem fut_run {f : Nat} {e : EN} {n d m0 till most : Int} {s : DS} {j : Nat} {M : MEM} (hf : f = 224 ∨ f = 234) (hs : okD n s) (hk : s.2.2.1 ≤ 100000000) (hm0 : 0 ≤ m0) (hm1 : m0 ≤ 100000000) (ht : till ≤ 600) (hj : j ≤ 600) (h : futAt f e n d m0 (trajD e n d m0 s) j M) :
    ∃ j' M', fu_run f till most M = some M' ∧ futAt f e n d m0 (trajD e n d m0 s) j' M' ∧ offF f M M' ∧ j ≤ j' ∧ (j' = j ∨ (j' : Int) ≤ till) ∧ (till ≤ j' ∨ most ≤ cnt (trajD e n d m0 s) j') ∧ ∀ i, j ≤ i → i < j' → cnt (trajD e n d m0 s) i < most := by
  have hl : Tc (iter (fun s => fu_run_b5 f till most s.1 s.2) FU (M f 9, M)) (fun r => ∃ j', futAt f e n d m0 (trajD e n d m0 s) j' r.2 ∧ offF f M r.2 ∧ j ≤ j' ∧ (j' = j ∨ (j' : Int) ≤ till) ∧ (till ≤ j' ∨ most ≤ cnt (trajD e n d m0 s) j') ∧ ∀ i, j ≤ i → i < j' → cnt (trajD e n d m0 s) i < most) := by
    refine Tc_l (fun i q => q.1 = ((j + i : Nat) : Int) ∧ futAt f e n d m0 (trajD e n d m0 s) (j + i) q.2 ∧ offF f M q.2 ∧ (i = 0 ∨ ((j + i : Nat) : Int) ≤ till) ∧ ∀ i', j ≤ i' → i' < j + i → cnt (trajD e n d m0 s) i' < most) _ (600 - j) ⟨h.2.2.2.2.2.2.1, h, offF.rf, Or.inl rfl, fun i' h1 h2 => by omega⟩ (by omega) (fun i q hi hI => ?_) (fun q hI => ?_)
    · obtain ⟨x, M1⟩ := q
      obtain ⟨rfl, h1, h2, h3, h4⟩ := hI
      have h10 : M1 f 10 = cnt (trajD e n d m0 s) (j + i) := h1.2.2.2.2.2.2.2.1
      unfold fu_run_b5
      refine Tc_i (fun c => ?_) (fun c => Tc_i (fun c2 => ?_) (fun c2 => ?_))
      · exact Tc_inrR ⟨j + i, h1, h2, by omega, by omega, Or.inl c, h4⟩
      · exact Tc_inrR ⟨j + i, h1, h2, by omega, by omega, Or.inr (by rw [← h10]; exact c2), h4⟩
      · have c2 : ¬ most ≤ M1 f 10 := c2
        have c : ¬ till ≤ ((j + i : Nat) : Int) := c
        obtain ⟨did, M2, e1, e2, e3, -⟩ := fut_step hf hs hk hm0 hm1 (by omega) h1
        refine Tc_e e1 (Tc_inlL ⟨?_, e2, h2.tr e3, Or.inr (by omega), fun i' q1 q2 => ?_⟩)
        · show wr (((j + i : Nat) : Int) + 1) = _
          rw [wr_i (by omega) (by omega)]
          omega
        · by_cases q3 : i' = j + i
          · subst q3; omega
          · exact h4 i' q1 (by omega)
    · obtain ⟨x, M1⟩ := q
      obtain ⟨rfl, h1, h2, h3, h4⟩ := hI
      unfold fu_run_b5
      refine Tc_t (by show till ≤ ((j + (600 - j) : Nat) : Int); omega) (Tc_inr ⟨j + (600 - j), h1, h2, by omega, by omega, Or.inl (by omega), h4⟩)
  obtain ⟨r, e1, j', h1⟩ := hl
  refine ⟨j', r.2, ?_, h1⟩
  unfold fu_run
  rw [e1]
  rfl
/-- so many MINUTES, none left out -/
theorem fut_run600 {f : Nat} {e : EN} {n d m0 till : Int} {s : DS} {j : Nat} {M : MEM} (hf : f = 224 ∨ f = 234) (hs : okD n s) (hk : s.2.2.1 ≤ 100000000) (hm0 : 0 ≤ m0) (hm1 : m0 ≤ 100000000) (ht : till ≤ 600) (hj : j ≤ 600) (h : futAt f e n d m0 (trajD e n d m0 s) j M) :
    ∃ M', fu_run f till 600 M = some M' ∧ futAt f e n d m0 (trajD e n d m0 s) (max j till.toNat) M' ∧ offF f M M' := by
  obtain ⟨j', M', e1, h1, h2, h3, h4, h5, h6⟩ := fut_run (most := 600) hf hs hk hm0 hm1 ht hj h
  have hcl : clE e := by rw [← h.1]; exact envC_cl f M
  have hst := traj_stk (d := d) (m0 := m0) hcl hs (by omega)
  have := cnt_le hst (show j' ≤ 1000000 by omega)
  have : j' = max j till.toNat := by omega
  subst this
  exact ⟨M', e1, h1, h2⟩
theorem cpy_row {M : MEM} {a b n : Nat} (k : Nat) (h : k < n) : cpy M a b n b k = M a k := by rw [cpy_at, if_pos ⟨rfl, h⟩]
theorem cpy_rowb {M : MEM} {a b n : Nat} (k : Nat) (h : n ≤ k) : cpy M a b n b k = M b k := by rw [cpy_at, if_neg (by omega)]
/-- what beginning changes, too -/
def offL (f : Nat) (M M' : MEM) : Prop := (∀ c, c ≠ f → c ≠ f + 6 → c ≠ f + 7 → c ≠ f + 9 → c ≠ 21 → c ≠ 23 → c ≠ 24 → M' c = M c) ∧ (∀ k, (k < 7 ∨ 10 < k) → M' f k = M f k) ∧ (∀ k, k ≠ 4 → M' 21 k = M 21 k)
theorem offL.rf {f : Nat} {M : MEM} : offL f M M := ⟨fun _ _ _ _ _ _ _ _ => rfl, fun _ _ => rfl, fun _ _ => rfl⟩
theorem offL.tr {f : Nat} {M M1 M2 : MEM} (h : offL f M M1) (g : offL f M1 M2) : offL f M M2 :=
  ⟨fun c a1 a2 a3 a4 a5 a6 a7 => (g.1 c a1 a2 a3 a4 a5 a6 a7).trans (h.1 c a1 a2 a3 a4 a5 a6 a7), fun k a1 => (g.2.1 k a1).trans (h.2.1 k a1), fun k a1 => (g.2.2 k a1).trans (h.2.2 k a1)⟩
theorem offF.L {f : Nat} {M M' : MEM} (h : offF f M M') : offL f M M' := ⟨h.1, fun k hk => h.2.1 k (by omega) (by omega), h.2.2.1⟩
theorem offL.chg {f : Nat} {M M' : MEM} (hf : f = 224 ∨ f = 234) (h : offL f M M') : chg [0] M M' := fun a k hn => by
  by_cases h1 : a = f
  · subst h1
    refine h.2.1 k ?_
    rcases hf with rfl | rfl
    · by_cases h6 : k = 6
      · omega
      · exact absurd (by unfold rg; simp [h6]) hn
    · by_cases h6 : k = 6
      · omega
      · exact absurd (by unfold rg; simp [h6]) hn
  · by_cases h2 : a = 21
    · subst h2
      refine h.2.2 k (fun h4 => ?_)
      subst h4
      exact hn (by decide)
    · by_cases h3 : a = f + 6 ∨ a = f + 7 ∨ a = f + 9 ∨ a = 23 ∨ a = 24
      · refine absurd ?_ hn
        rcases hf with rfl | rfl <;> rcases h3 with rfl | rfl | rfl | rfl | rfl <;> exact List.mem_singleton.mpr rfl
      · rw [h.1 a (by omega) (by omega) (by omega) (by omega) (by omega) (by omega) (by omega)]
theorem offL.env {f : Nat} {M M' : MEM} (hf : f = 224 ∨ f = 234) (h : offL f M M') : envC f M' = envC f M := by
  have r : ∀ c, (c = 5 ∨ c = 6 ∨ c = 7 ∨ c = 8 ∨ c = 9 ∨ c = 19 ∨ c = 20 ∨ c = 22 ∨ (f + 1 ≤ c ∧ c ≤ f + 5)) → M' c = M c := fun c hc => h.1 c (by omega) (by omega) (by omega) (by omega) (by omega) (by omega) (by omega)
  unfold envC flC
  rw [plC_cg (c := 5) (fun q hq => r _ (by omega)), plC_cg (c := f + 1) (fun q hq => r _ (by omega)), h.2.1 6 (by omega), h.2.2 3 (by omega), r 19 (by omega), r 20 (by omega), r 22 (by omega)]
theorem offL.eOk {f : Nat} {M M' : MEM} (hf : f = 224 ∨ f = 234) (h : offL f M M') (g : eOk f M) : eOk f M' := by
  have r : ∀ c, (c = 5 ∨ c = 6 ∨ c = 7 ∨ c = 8 ∨ c = 9 ∨ c = 19 ∨ c = 20 ∨ c = 22 ∨ (f + 1 ≤ c ∧ c ≤ f + 5)) → M' c = M c := fun c hc => h.1 c (by omega) (by omega) (by omega) (by omega) (by omega) (by omega) (by omega)
  obtain ⟨g1, ⟨g2, g3, g4⟩, ⟨g5, g6, g7⟩, g8⟩ := g
  refine ⟨?_, ⟨?_, ?_, howOk_cg (fun q hq => r _ (by omega)) g4⟩, ⟨?_, ?_, howOk_cg (fun q hq => r _ (by omega)) g7⟩, ?_⟩
  · rw [r 19 (by omega)]; exact g1
  · rw [r 5 (by omega)]; exact g2
  · rw [r 5 (by omega)]; exact g3
  · rw [r (f + 1) (by omega)]; exact g5
  · rw [r (f + 1) (by omega)]; exact g6
  · rw [h.2.2 3 (by omega), r 22 (by omega)]; exact g8
theorem isDonkey_eq {M : MEM} {d : Int} (h : M 3 2 ≤ 3) : dh_isDonkey d M = if 0 ≤ d ∧ d < M 3 2 then 1 else 0 := by
  unfold dh_isDonkey
  by_cases h0 : d < 0
  · rw [if_pos h0, if_neg (by omega)]
  · rw [if_neg h0]
    by_cases h1 : M 3 2 ≤ d
    · rw [if_pos h1, if_neg (by omega)]
    · rw [if_neg h1, if_neg (by omega), if_pos (by omega)]
theorem isDonkey_y {M : MEM} {d : Int} (h : M 3 2 ≤ 3) (h0 : 0 ≤ d) (h1 : d < M 3 2) : dh_isDonkey d M = 1 := by rw [isDonkey_eq h, if_pos ⟨h0, h1⟩]
theorem isDonkey_n {M : MEM} {d : Int} (h : M 3 2 ≤ 3) (h1 : ¬ (0 ≤ d ∧ d < M 3 2)) : dh_isDonkey d M = 0 := by rw [isDonkey_eq h, if_neg h1]
/-- a future begun -/
theorem look_eq {f : Nat} {d : Int} {M : MEM} (hf : f = 224 ∨ f = 234) (h3 : M 3 2 ≤ 3) (h0 : 0 ≤ d) (h1 : d < M 3 2) (hp : 0 ≤ M (10 + 3 * d.toNat) 2 ∧ M (10 + 3 * d.toNat) 2 ≤ 12) :
    ∃ M', dh_look f d M = some M' ∧ offL f M M' ∧ M' (f + 6) 2 = M (10 + 3 * d.toNat) 2 ∧ eqD (M (10 + 3 * d.toNat) 2) (dsC (10 + 3 * d.toNat) M) (dsC (f + 6) M') ∧ M' f 7 = d ∧ M' f 8 = M 3 3 ∧ M' f 9 = 0 ∧ M' f 10 = 0 := by
  unfold dh_look
  rw [isDonkey_y h3 h0 h1, if_neg (by decide), if_pos (by omega)]
  generalize hb : 10 + 3 * d.toNat = b at *
  have hb1 : b ≤ 16 := by omega
  unfold fu_begin be_copyButBook
  simp only [Option.bind_some]
  have a1 : ∀ x, up2 M (f + 6) 2 x b = M b := fun x => up2_ne (by omega)
  have a2 : ∀ x y, up2 (up2 M (f + 6) 2 x) (f + 6) 3 y b = M b := fun x y => by rw [up2_ne (by omega), up2_ne (by omega)]
  have a3 : ∀ x y z, up2 (up2 (up2 M (f + 6) 2 x) (f + 6) 3 y) (f + 6) 4 z b = M b := fun x y z => by rw [up2_ne (by omega), up2_ne (by omega), up2_ne (by omega)]
  simp only [a1, a2, a3]
  refine ⟨_, rfl, ⟨fun c c1 c2 c3 c4 c5 c6 c7 => ?_, fun k hk => ?_, fun k hk => ?_⟩, ?_, ?_, ?_, ?_, ?_, ?_⟩
  · simp (disch := omega) only [up2_ne, cpy_ne]
  · rw [rd_k (by omega), rd_k (by omega), rd_k (by omega), rd_k (by omega), cpy_ne (by omega)]
    simp (disch := omega) only [up2_ne]
  · simp (disch := omega) only [up2_ne, cpy_ne]
  · simp (disch := omega) only [rd_a, cpy_ne, rd_k, rd_same]
  · have e6 : ∀ x y z w (N : MEM), up2 (up2 (up2 (up2 N f 7 x) f 8 y) f 9 z) f 10 w (f + 6) = N (f + 6) := fun x y z w N => by simp (disch := omega) only [up2_ne]
    have e7 : ∀ x y z w (N : MEM), up2 (up2 (up2 (up2 N f 7 x) f 8 y) f 9 z) f 10 w (f + 6 + 1) = N (f + 6 + 1) := fun x y z w N => by simp (disch := omega) only [up2_ne]
    refine ⟨?_, ?_, ?_, fun p hp2 => ?_⟩
    · unfold dsC; dsimp only; rw [e6, cpy_ne (by omega)]; simp (disch := omega) only [rd_k, rd_same]
    · unfold dsC; dsimp only; rw [e6, cpy_ne (by omega)]; simp (disch := omega) only [rd_k, rd_same]
    · unfold dsC; dsimp only; rw [e6, cpy_ne (by omega)]; simp (disch := omega) only [rd_same]
    · unfold dsC; dsimp only; rw [e7, cpy_row _ (by omega)]; simp (disch := omega) only [up2_ne]
  · simp (disch := omega) only [rd_k, rd_same]
  · simp (disch := omega) only [rd_k, rd_same]
  · simp (disch := omega) only [rd_k, rd_same]
  · simp (disch := omega) only [rd_same]
theorem fut0 {f : Nat} {e : EN} {n d m0 : Int} {s : DS} {M : MEM} (h1 : envC f M = e) (h2 : eOk f M) (h3 : M (f + 6) 2 = n) (h4 : eqD n s (dsC (f + 6) M)) (h5 : M f 7 = d) (h6 : M f 8 = m0) (h7 : M f 9 = 0) (h8 : M f 10 = 0) : futAt f e n d m0 (trajD e n d m0 s) 0 M :=
  ⟨h1, h2, h3, h4, h5, h6, h7, by rw [cnt_0]; exact h8, fun i hi => by rw [cnt_0] at hi; omega⟩
