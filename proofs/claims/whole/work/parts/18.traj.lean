-- ===== the class's PACE =====
theorem runL_snoc (g code : Nat → Int) : ∀ (k i : Nat) (l : List Int), runL g code (k + 1) i l = stepL g (code (i + k)) (runL g code k i l) := by
  intro k
  induction k with
  | zero => intro i l; rfl
  | succ k ih =>
    intro i l
    have h : runL g code (k + 1 + 1) i l = runL g code (k + 1) (i + 1) (stepL g (code i) l) := rfl
    rw [h, ih]
    have h2 : runL g code (k + 1) i l = runL g code k (i + 1) (stepL g (code i) l) := rfl
    rw [h2, show i + 1 + k = i + (k + 1) by omega]
def codeOk (size : Int) (code : Nat → Int) : Prop := 0 ≤ size ∧ size ≤ 40 ∧ ∀ i : Nat, (i : Int) < size → 0 ≤ code i ∧ code i ≤ 3000
theorem stepL_congr {g h : Nat → Int} (e : ∀ i, i < 8 → g i = h i) (c : Int) (l : List Int) : stepL g c l = stepL h c l := by
  unfold stepL
  by_cases h1 : c < 1000
  · rw [if_pos h1, if_pos h1]
  · rw [if_neg h1, if_neg h1]
    by_cases h2 : c < 1008
    · rw [if_pos h2, if_pos h2, e _ (by omega)]
    · rw [if_neg h2, if_neg h2]
theorem runL_congr {g h code : Nat → Int} (e : ∀ i, i < 8 → g i = h i) : ∀ (n i : Nat) (l : List Int), runL g code n i l = runL h code n i l := by
  intro n
  induction n with
  | zero => intro i l; rfl
  | succ n ih => intro i l; unfold runL; rw [stepL_congr e, ih]
theorem codeV_congr {g h code : Nat → Int} {size : Int} (e : ∀ i, i < 8 → g i = h i) : codeV size code g = codeV size code h := by
  unfold codeV
  rw [runL_congr e]
theorem codeV_in (size : Int) (code g : Nat → Int) : 0 ≤ codeV size code g ∧ codeV size code g ≤ 4 := by
  unfold codeV
  split <;> omega
theorem ru_pace_eq {M : MEM} (h : codeOk (M 21 3) (M 22)) : ∃ M', ru_pace 21 M = some (codeV (M 21 3) (M 22) (M 24), M') ∧ offR M M' := by
  obtain ⟨h0, h1, h2⟩ := h
  unfold ru_pace
  by_cases hz : M 21 3 = 0
  · refine ⟨M, ?_, offR.rf⟩
    rw [if_pos hz]
    unfold codeV
    rw [if_pos hz]
  · obtain ⟨N, hN⟩ : ∃ N : Nat, M 21 3 = (N : Int) := ⟨(M 21 3).toNat, by omega⟩
    have hl : Tc (iter (fun s => ru_pace_b16 21 s.1 s.2) FU (0, up2 M 21 4 0)) (fun r => stkIs r.2 (runL (M 24) (M 22) N 0 []) ∧ offR M r.2) := by
      refine Tc_n (fun i s => s.1 = (i : Int) ∧ stkIs s.2 (runL (M 24) (M 22) i 0 []) ∧ offR M s.2) N ⟨rfl, ⟨?_, ?_, ?_⟩, ⟨fun c h1 h2 => up2_ne h1, fun k h => rd_k h⟩⟩ (by omega) (fun i s hi hI => ?_) (fun s hI => ?_)
      · show up2 M 21 4 0 21 4 = 0
        exact rd_same
      · exact Nat.zero_le _
      · intro i x hx; cases hx
      · obtain ⟨x, M1⟩ := s
        obtain ⟨rfl, hs, ho⟩ := hI
        have e3 : M1 21 3 = (N : Int) := (ho.2 3 (by decide)).trans hN
        have e22 : M1 22 = M 22 := ho.1 22 (by decide) (by decide)
        have e24 : M1 24 = M 24 := ho.1 24 (by decide) (by decide)
        have w1 : wr ((i : Int) + 1) = ((i + 1 : Nat) : Int) := (wr_i (by omega) (by omega)).trans (by omega)
        have w8 : wr (1000 + 8) = 1008 := wr_i (by omega) (by omega)
        have hc := h2 i (by omega)
        rw [runL_snoc, Nat.zero_add]
        unfold ru_pace_b16 ru_pace_j126_16
        simp only [e3, e22, e24, toNat_c, w1, w8]
        refine Tc_f (by omega) (Tc_f (by omega) (Tc_t (by omega) ?_))
        unfold stepL
        by_cases c1 : M 22 i < 1000
        · rw [if_pos c1]
          refine Tc_f (by omega) ?_
          obtain ⟨M2, q1, q2, q3⟩ := push_eq (M 22 i) hs
          refine Tc_e q1 (Tc_inl ⟨rfl, q2, ho.tr q3⟩)
        · rw [if_neg c1]
          refine Tc_t (by omega) ?_
          by_cases c2 : M 22 i < 1008
          · rw [if_pos c2]
            have w0 : wr (M 22 i - 1000) = M 22 i - 1000 := wr_i (by omega) (by omega)
            rw [w0]
            refine Tc_f (by omega) (Tc_t (by omega) ?_)
            obtain ⟨M2, q1, q2, q3⟩ := push_eq (M 24 (M 22 i - 1000).toNat) hs
            refine Tc_e q1 (Tc_inl ⟨rfl, q2, ho.tr q3⟩)
          · rw [if_neg c2]
            refine Tc_t (by omega) ?_
            obtain ⟨M2, q1, q2, q3⟩ := pop_eq hs
            by_cases c3 : M 22 i = 2256
            · refine Tc_t c3 ?_
              rw [if_pos c3]
              refine Tc_e q1 ?_
              obtain ⟨M3, r1, r2, r3⟩ := push_eq (wr (-(popL (runL (M 24) (M 22) i 0 [])).1)) q2
              exact Tc_e r1 (Tc_inl ⟨rfl, r2, (ho.tr q3).tr r3⟩)
            · refine Tc_f c3 ?_
              rw [if_neg c3]
              refine Tc_e q1 ?_
              obtain ⟨M3, r1, r2, r3⟩ := pop_eq q2
              refine Tc_e r1 (Tc_e (ru_combine_eq _ _ _) ?_)
              have w0 : wr (M 22 i - 2000) = M 22 i - 2000 := wr_i (by omega) (by omega)
              rw [w0]
              obtain ⟨M4, s1, s2, s3⟩ := push_eq (combP (M 22 i - 2000) (popL (popL (runL (M 24) (M 22) i 0 [])).2).1 (popL (runL (M 24) (M 22) i 0 [])).1) r2
              exact Tc_e s1 (Tc_inl ⟨rfl, s2, ((ho.tr q3).tr r3).tr s3⟩)
      · obtain ⟨x, M1⟩ := s
        obtain ⟨rfl, hs, ho⟩ := hI
        have e3 : M1 21 3 = (N : Int) := (ho.2 3 (by decide)).trans hN
        unfold ru_pace_b16
        exact Tc_t (by show M1 21 3 ≤ _; omega) (Tc_inr ⟨hs, ho⟩)
    obtain ⟨r, e1, hs, ho⟩ := hl
    obtain ⟨M2, q1, q2, q3⟩ := pop_eq hs
    refine ⟨M2, ?_, ho.tr q3⟩
    rw [if_neg hz, Option.bind_some, e1, Option.bind_some]
    unfold ru_pace_j132
    rw [q1, Option.bind_some]
    unfold codeV
    rw [if_neg hz, hN, toNat_c]
-- ===== surroundings, a DONKEY's way through the MINUTES =====
/-- FLIES in a MINUTE, CARROTS of a DONKEY in a MINUTE, THE RULE -/
abbrev EN := (Int → Int) × (Int → Int → Int) × ((Nat → Int) → Int)
def gvD (e : EN) (d m : Int) (s : DS) : Nat → Int := fun i =>
  if i = 0 then s.2.1 else if i = 1 then s.1 else if i = 2 then s.2.2.2 s.1.toNat else if i = 3 then e.1 m else if i = 4 then e.2.1 d m else if i = 5 then m else if i = 6 then s.2.2.1 % 12 else d
def paceD (e : EN) (d m : Int) (s : DS) : Int := e.2.2 (gvD e d m s)
def clE (e : EN) : Prop := ∀ g, 0 ≤ e.2.2 g ∧ e.2.2 g ≤ 4
theorem gvD_congr {e : EN} {d m n : Int} {s t : DS} (h0 : 0 ≤ s.1) (h1 : s.1 < n) (h : eqD n s t) : gvD e d m s = gvD e d m t := by
  obtain ⟨q1, q2, q3, q4⟩ := h
  have h2 := q4 s.1.toNat (by omega)
  unfold gvD
  rw [← q1, ← q2, ← q3, h2]
def stepD (e : EN) (n d m : Int) (s : DS) : DS × Bool := walkD n (paceD e d m s).toNat s
def trajD (e : EN) (n d m0 : Int) (s : DS) : Nat → DS
  | 0 => s
  | j + 1 => (stepD e n d (m0 + j) (trajD e n d m0 s j)).1
theorem trajD_S (e : EN) (n d m0 : Int) (s : DS) (j : Nat) : trajD e n d m0 s (j + 1) = (stepD e n d (m0 + j) (trajD e n d m0 s j)).1 := rfl
theorem stepD_k {e : EN} {n d m : Int} {s : DS} (he : clE e) (h : okD n s) : (stepD e n d m s).1.2.2.1 = s.2.2.1 ∨ (stepD e n d m s).1.2.2.1 = s.2.2.1 + 1 := by
  have hp := he (gvD e d m s)
  rcases walkD_strokes (n := n) (by have := h.1; omega) (paceD e d m s).toNat s h.2.2.1 h.2.2.2.1 (by have := h.1; unfold paceD; omega) with q | q
  · exact Or.inl q
  · exact Or.inr q.1
theorem stepD_ok {e : EN} {n d m : Int} {s : DS} (he : clE e) (h : okD n s) (hk : s.2.2.1 + 4 < 1073741824) : okD n (stepD e n d m s).1 := by
  have hp := he (gvD e d m s)
  exact walkD_ok _ _ h (by unfold paceD; omega)
theorem stepD_congr {e : EN} {n d m : Int} {s t : DS} (h : okD n s) (q : eqD n s t) : eqD n (stepD e n d m s).1 (stepD e n d m t).1 ∧ (stepD e n d m s).2 = (stepD e n d m t).2 := by
  unfold stepD paceD
  rw [gvD_congr h.2.2.1 h.2.2.2.1 q]
  exact walkD_congr (by have := h.1; omega) _ h.2.2.1 q
theorem traj_ok {e : EN} {n d m0 : Int} {s : DS} (he : clE e) (h : okD n s) (hk : s.2.2.1 ≤ 1000000000) : ∀ j : Nat, j ≤ 1000000 → okD n (trajD e n d m0 s j) ∧ s.2.2.1 ≤ (trajD e n d m0 s j).2.2.1 ∧ (trajD e n d m0 s j).2.2.1 ≤ s.2.2.1 + j := by
  intro j
  induction j with
  | zero => intro _; exact ⟨h, Int.le_refl _, by show s.2.2.1 ≤ _; omega⟩
  | succ j ih =>
    intro hj
    obtain ⟨h1, h2, h3⟩ := ih (by omega)
    have hs := stepD_k (d := d) (m := m0 + j) he h1
    rw [trajD_S]
    exact ⟨stepD_ok he h1 (by omega), by omega, by omega⟩
theorem traj_congr {e : EN} {n d m0 : Int} {s t : DS} (he : clE e) (h : okD n s) (hk : s.2.2.1 ≤ 1000000000) (q : eqD n s t) : ∀ j : Nat, j ≤ 1000000 → eqD n (trajD e n d m0 s j) (trajD e n d m0 t j) := by
  intro j
  induction j with
  | zero => intro _; exact q
  | succ j ih =>
    intro hj
    rw [trajD_S, trajD_S]
    exact (stepD_congr (traj_ok he h hk j (by omega)).1 (ih (by omega))).1
/-- STROKES in the first j MINUTES -/
def cnt (T : Nat → DS) (j : Nat) : Int := (T j).2.2.1 - (T 0).2.2.1
/-- STROKE i + 1 is struck in MINUTE v -/
def isT (T : Nat → DS) (v : Int) (i : Nat) : Prop := ∃ u : Nat, v = (u : Int) ∧ cnt T u = i ∧ cnt T (u + 1) = i + 1
/-- a way on which STROKES come one by one, up to MINUTE J -/
def stk (T : Nat → DS) (J : Nat) : Prop := ∀ j, j < J → cnt T (j + 1) = cnt T j ∨ cnt T (j + 1) = cnt T j + 1
theorem cnt_0 (T : Nat → DS) : cnt T 0 = 0 := by unfold cnt; omega
theorem cnt_mono {T : Nat → DS} {J : Nat} (h : stk T J) : ∀ {a b : Nat}, a ≤ b → b ≤ J → cnt T a ≤ cnt T b ∧ cnt T b ≤ cnt T a + ((b - a : Nat) : Int) := by
  intro a b hab
  induction b with
  | zero => intro _; have : a = 0 := by omega
            subst this; omega
  | succ b ih =>
    intro hb
    by_cases e : a = b + 1
    · subst e; omega
    · have := ih (by omega) (by omega)
      rcases h b (by omega) with q | q <;> omega
theorem cnt_le {T : Nat → DS} {J : Nat} (h : stk T J) {b : Nat} (hb : b ≤ J) : 0 ≤ cnt T b ∧ cnt T b ≤ b := by
  have := cnt_mono h (Nat.zero_le b) hb
  rw [cnt_0] at this
  omega
theorem isT_uniq {T : Nat → DS} {J : Nat} (h : stk T J) {v w : Int} {i : Nat} (h1 : isT T v i) (h2 : isT T w i) (hv : v < J) (hw : w < J) : v = w := by
  obtain ⟨a, rfl, a1, a2⟩ := h1
  obtain ⟨b, rfl, b1, b2⟩ := h2
  rcases Nat.lt_trichotomy a b with q | q | q
  · have := (cnt_mono h (show a + 1 ≤ b by omega) (by omega)).1
    omega
  · rw [q]
  · have := (cnt_mono h (show b + 1 ≤ a by omega) (by omega)).1
    omega
/-- STROKE i + 1 comes within j MINUTES, if its MINUTE is one of them -/
theorem isT_lt {T : Nat → DS} {J : Nat} (h : stk T J) {v : Int} {i j : Nat} (h1 : isT T v i) (hv : v < J) (hj : j ≤ J) : v < j ↔ (i : Int) < cnt T j := by
  obtain ⟨a, rfl, a1, a2⟩ := h1
  constructor
  · intro q
    have := (cnt_mono h (show a + 1 ≤ j by omega) hj).1
    omega
  · intro q
    by_cases e : a < j
    · omega
    · have := (cnt_mono h (show j ≤ a by omega) (by omega)).1
      omega
theorem traj_stk {e : EN} {n d m0 : Int} {s : DS} (he : clE e) (h : okD n s) (hk : s.2.2.1 ≤ 1000000000) : stk (trajD e n d m0 s) 1000000 := by
  intro j hj
  have := stepD_k (d := d) (m := m0 + j) he (traj_ok (d := d) (m0 := m0) he h hk j (by omega)).1
  unfold cnt
  rw [trajD_S]
  omega
