-- ----- the ACTS one behind the other -----
/-- where the i-th ACT begins -/
noncomputable def aP (z : Nat → Int) : Nat → Nat
  | 0 => 0
  | i + 1 => (match ract z (aP z i) with | .inr x => x.1 + 1 | .inl _ => aP z i)
/-- the i-th ACT can be read, and another one follows -/
def aS (z : Nat → Int) (i : Nat) : Prop := ∃ x, ract z (aP z i) = .inr x ∧ z x.1 = 59
def aGood (z : Nat → Int) (L N : Nat) : Prop := ∃ x, ract z (aP z N) = .inr x ∧ x.1 = L
noncomputable def aF (z : Nat → Int) (N : Nat) : Nat := match ract z (aP z N) with | .inl f => f | .inr x => x.1
theorem aP_S {z : Nat → Int} {i : Nat} {x : Nat × Int × Int × Int × Int} (h : ract z (aP z i) = .inr x) : aP z (i + 1) = x.1 + 1 := by
  show (match ract z (aP z i) with | .inr x => x.1 + 1 | .inl _ => aP z i) = _
  rw [h]
theorem aF_inl {z : Nat → Int} {N f : Nat} (h : ract z (aP z N) = .inl f) : aF z N = f := by unfold aF; rw [h]
theorem aF_inr {z : Nat → Int} {N : Nat} {x : Nat × Int × Int × Int × Int} (h : ract z (aP z N) = .inr x) : aF z N = x.1 := by unfold aF; rw [h]
def wfA (k w h v : Int) : Prop := (k = 109 ∨ k = 99 ∨ k = 115 ∨ k = 104) ∧ 0 ≤ w ∧ w ≤ 9 ∧ 0 ≤ v ∧ v ≤ 999 ∧ (k = 99 → h = 1 ∨ h = -1) ∧ -1 ≤ h ∧ h ≤ 99
theorem ract_wf {z : Nat → Int} {p e : Nat} {k w h v : Int} (r : ract z p = .inr (e, k, w, h, v)) : p + 2 ≤ e ∧ wfA k w h v := by
  unfold ract at r
  have b3 := num_bd z 3 (p + 1) 0 (by omega)
  have l3 := (num_le z 3 (p + 1) 0 (by omega)).2.2.2 rfl
  have b2 := num_bd z 2 (p + 3) 0 (by omega)
  have l2 := (num_le z 2 (p + 3) 0 (by omega)).2.2.1 rfl
  have b1 := num_bd z 2 (p + 2) 0 (by omega)
  have l1 := (num_le z 2 (p + 2) 0 (by omega)).2.2.1 rfl
  by_cases a1 : z p = 109
  · rw [if_pos a1] at r
    by_cases d : dg (z (p + 1))
    · rw [if_pos d] at r
      injection r with r
      injection r with r1 r2; injection r2 with r2 r3; injection r3 with r3 r4; injection r4 with r4 r5
      subst r1 r2 r3 r4 r5
      have b3' : p + 1 + 1 ≤ (num z 3 (p + 1) 0).1 := by
        rw [show num z 3 (p + 1) 0 = _ from num_1 z 2 (p + 1) d]
        exact (num_bd z 2 (p + 1 + 1) (z (p + 1) - 48) (by omega)).1
      unfold wfA
      omega
    · rw [if_neg d] at r; cases r
  rw [if_neg a1] at r
  by_cases a2 : z p = 99
  · rw [if_pos a2] at r
    by_cases d : dg (z (p + 1))
    · rw [if_pos d] at r
      by_cases s : z (p + 2) = 43 ∨ z (p + 2) = 45
      · rw [if_pos s] at r
        by_cases d3 : dg (z (p + 3))
        · rw [if_pos d3] at r
          injection r with r
          injection r with r1 r2; injection r2 with r2 r3; injection r3 with r3 r4; injection r4 with r4 r5
          subst r1 r2 r3 r5
          have hh : h = 1 ∨ h = -1 := by
            rw [← r4]
            by_cases y : z (p + 2) = 43
            · rw [if_pos y]; exact Or.inl rfl
            · rw [if_neg y]; exact Or.inr rfl
          unfold wfA
          omega
        · rw [if_neg d3] at r; cases r
      · rw [if_neg s] at r; cases r
    · rw [if_neg d] at r; cases r
  rw [if_neg a2] at r
  by_cases a3 : z p = 115
  · rw [if_pos a3] at r
    by_cases d : dg (z (p + 1))
    · rw [if_pos d] at r
      by_cases d2 : dg (z (p + 2))
      · rw [if_pos d2] at r
        by_cases s : z ((num z 2 (p + 2) 0).1) = 61
        · rw [if_pos s] at r
          by_cases d3 : dg (z ((num z 2 (p + 2) 0).1 + 1))
          · rw [if_pos d3] at r
            injection r with r
            injection r with r1 r2; injection r2 with r2 r3; injection r3 with r3 r4; injection r4 with r4 r5
            subst r1 r2 r3 r4 r5
            unfold wfA
            omega
          · rw [if_neg d3] at r; cases r
        · rw [if_neg s] at r; cases r
      · rw [if_neg d2] at r; cases r
    · rw [if_neg d] at r; cases r
  rw [if_neg a3] at r
  by_cases a4 : z p = 104
  · rw [if_pos a4] at r
    by_cases d : dg (z (p + 1))
    · rw [if_pos d] at r
      by_cases s : z (p + 2) = 61
      · rw [if_pos s] at r
        by_cases d3 : dg (z (p + 3))
        · rw [if_pos d3] at r
          injection r with r
          injection r with r1 r2; injection r2 with r2 r3; injection r3 with r3 r4; injection r4 with r4 r5
          subst r1 r2 r3 r4 r5
          unfold wfA
          omega
        · rw [if_neg d3] at r; cases r
      · rw [if_neg s] at r; cases r
    · rw [if_neg d] at r; cases r
  rw [if_neg a4] at r; cases r
theorem ract_none {z : Nat → Int} {p : Nat} (h : z p = -1) : ract z p = .inl p := by
  unfold ract
  rw [if_neg (by omega), if_neg (by omega), if_neg (by omega), if_neg (by omega)]
theorem aP_ge {z : Nat → Int} : ∀ i : Nat, (∀ j, j < i → aS z j) → 3 * i ≤ aP z i := by
  intro i
  induction i with
  | zero => intro _; omega
  | succ i ih =>
    intro h
    have := ih (fun j hj => h j (by omega))
    obtain ⟨⟨e, k, w, hh, v⟩, hx, -⟩ := h i (by omega)
    have := (ract_wf hx).1
    rw [aP_S hx]
    dsimp only
    omega
/-- the numbers of the first n ACTS -/
def datC (z : Nat → Int) (n : Nat) (M : MEM) : Prop := ∀ j, j < n → ∀ e k w h v, ract z (aP z j) = .inr (e, k, w, h, v) → inA j k w h v M
def frC (M0 M : MEM) : Prop := (∀ c, c ≠ 1 → ¬ (29 ≤ c ∧ c ≤ 33) → M c = M0 c) ∧ ∀ k, k ≠ 2 → M 1 k = M0 1 k
theorem datC_S {z : Nat → Int} {n : Nat} {M M' : MEM} {x : Nat × Int × Int × Int × Int} (h : datC z n M) (o : onA n M M') (hx : ract z (aP z n) = .inr x) (hi : inA n x.2.1 x.2.2.1 x.2.2.2.1 x.2.2.2.2 M') : datC z (n + 1) M' := fun j hj e k w hh v r => by
  by_cases a : j = n
  · subst a
    rw [r] at hx
    injection hx with hx
    rw [← hx] at hi
    exact hi
  · obtain ⟨a1, a2, a3, a4⟩ := h j (by omega) e k w hh v r
    unfold inA
    rw [o.2.2 30 j (by omega) a, o.2.2 31 j (by omega) a, o.2.2 32 j (by omega) a, o.2.2 33 j (by omega) a]
    exact ⟨a1, a2, a3, a4⟩
theorem datC.up {z : Nat → Int} {n : Nat} {M : MEM} {c k : Nat} {x : Int} (h : datC z n M) (hc : ¬ (30 ≤ c ∧ c ≤ 33)) : datC z n (up2 M c k x) := fun j hj e k w hh v r => by
  unfold inA
  rw [rd_a (by omega), rd_a (by omega), rd_a (by omega), rd_a (by omega)]
  exact h j hj e k w hh v r
theorem datC.cg {z : Nat → Int} {n : Nat} {M M' : MEM} (h : datC z n M) (c : ∀ a, 30 ≤ a → a ≤ 33 → M' a = M a) : datC z n M' := fun j hj e k w hh v r => by
  unfold inA
  rw [c 30 (by omega) (by omega), c 31 (by omega) (by omega), c 32 (by omega) (by omega), c 33 (by omega) (by omega)]
  exact h j hj e k w hh v r
theorem frC.on {q : Nat} {M0 M M' : MEM} (h : frC M0 M) (o : onA q M M') : frC M0 M' := ⟨fun c a b => (o.1 c a (by omega)).trans (h.1 c a b), fun k a => (o.2.1 k a).trans (h.2 k a)⟩
theorem frC.up {M0 M : MEM} {k : Nat} {x : Int} (h : frC M0 M) : frC M0 (up2 M 29 k x) := ⟨fun c a b => (up2_ne (by omega)).trans (h.1 c a b), fun k a => (rd_a (by decide)).trans (h.2 k a)⟩
def outC (z : Nat → Int) (L N : Nat) (M0 : MEM) (r : Int × MEM) : Prop := frC M0 r.2 ∧ ((aGood z L N ∧ r.1 = 1 ∧ r.2 29 4 = ((N + 1 : Nat) : Int) ∧ datC z (N + 1) r.2) ∨ (¬ aGood z L N ∧ r.1 = 0 ∧ rdC z L (aF z N) r.2))
theorem readC {z : Nat → Int} {L N : Nat} {M0 : MEM} (h : rdC z L 0 M0) (hL : 0 < L) (hz : ∀ i, L ≤ i → z i = -1) (h60 : ∀ i, 60 ≤ i → z i = -1) (hN : N ≤ 20) (h1 : ∀ i, i < N → aS z i) (h2 : N = 20 ∨ ¬ aS z N) :
    Tc (ac_read M0) (outC z L N M0) := by
  unfold ac_read
  refine Tc_u (Tc_t ?_ ?_)
  · rw [over_eq (h.off (up2_ne (by decide)) (up2_ne (by decide))), if_neg (by omega)]
  have bad20 : N = 20 → ract z (aP z N) = .inl (aP z N) := fun e => ract_none (h60 _ (by have := aP_ge N h1; omega))
  refine Tc_c (Tc_l (fun i M => M 29 4 = (i : Int) ∧ rdC z L (aP z i) M ∧ datC z i M ∧ frC M0 M) (fun e => outC z L N M0 (Sum.elim (fun r => r) (fun w => (0, w)) e)) N ?_ (by omega) ?_ ?_) (fun e he => ?_)
  · refine ⟨rd_same, h.off (up2_ne (by decide)) (up2_ne (by decide)), fun j hj => by omega, ⟨fun c a b => up2_ne (by omega), fun k a => rd_a (by decide)⟩⟩
  · rintro i M hi ⟨i1, i2, i3, i4⟩
    obtain ⟨⟨e, k, w, hh, v⟩, hx, h59⟩ := h1 i hi
    dsimp only at h59
    obtain ⟨⟨b, M'⟩, er, g⟩ := readActC (q := i) (by omega) i2
    rw [hx] at g
    obtain ⟨g1, g2, g3, g4⟩ := g
    dsimp only at g1 g2 g3 g4
    unfold ac_read_b14
    rw [i1]
    refine Tc_f (by omega) (Tc_e er ?_)
    dsimp only
    refine Tc_f (by omega) (Tc_u ?_)
    rw [g4.1 29 (by decide) (by decide), i1, wr_i (x := (i : Int) + 1) (by omega) (by omega)]
    have g2' : rdC z L e (up2 M' 29 4 ((i : Int) + 1)) := g2.off (up2_ne (by decide)) (up2_ne (by decide))
    refine Tc_t ?_ ?_
    · rw [over_eq g2', if_neg]
      intro y
      have := hz e (by omega)
      omega
    obtain ⟨M2, e2, k2, o2⟩ := takes_y g2' (c := 59) (by omega) (by omega) h59
    refine Tc_e e2 ?_
    dsimp only
    refine Tc_f (by decide) (Tc_inlL ⟨?_, ?_, ?_, ?_⟩)
    · rw [o2.1 29 (by decide), rd_same]; omega
    · rw [aP_S hx]; exact k2
    · refine ((datC_S i3 g4 hx g3).up (by decide)).cg (fun a _ _ => o2.1 a (by omega))
    · exact (i4.on g4).up.on (o2.on (q := 0))
  · rintro M ⟨i1, i2, i3, i4⟩
    unfold ac_read_b14
    rw [i1]
    by_cases e20 : N = 20
    · refine Tc_t (by omega) (Tc_inr ⟨i4, Or.inr ⟨?_, rfl, ?_⟩⟩)
      · rintro ⟨x, hx, -⟩
        rw [bad20 e20] at hx; cases hx
      · rw [aF_inl (bad20 e20)]; exact i2
    have nS : ¬ aS z N := h2.resolve_left e20
    obtain ⟨⟨b, M'⟩, er, g⟩ := readActC (q := N) (by omega) i2
    refine Tc_f (by omega) (Tc_e er ?_)
    dsimp only
    cases hx : ract z (aP z N) with
    | inl f =>
      rw [hx] at g
      obtain ⟨g1, g2, g3⟩ := g
      dsimp only at g1 g2 g3
      refine Tc_t g1 (Tc_inr ⟨i4.on g3, Or.inr ⟨?_, rfl, ?_⟩⟩)
      · rintro ⟨x, hx', -⟩
        rw [hx] at hx'; cases hx'
      · rw [aF_inl hx]; exact g2
    | inr x =>
      obtain ⟨e, k, w, hh, v⟩ := x
      rw [hx] at g
      obtain ⟨g1, g2, g3, g4⟩ := g
      dsimp only at g1 g2 g3 g4
      refine Tc_f (by omega) (Tc_u ?_)
      rw [g4.1 29 (by decide) (by decide), i1, wr_i (x := (N : Int) + 1) (by omega) (by omega)]
      have g2' : rdC z L e (up2 M' 29 4 ((N : Int) + 1)) := g2.off (up2_ne (by decide)) (up2_ne (by decide))
      by_cases eL : e = L
      · refine Tc_f ?_ (Tc_inr ⟨(i4.on g4).up, Or.inl ⟨⟨_, hx, eL⟩, rfl, ?_, ?_⟩⟩)
        · rw [over_eq g2', if_pos eL]; decide
        · show up2 M' 29 4 ((N : Int) + 1) 29 4 = _
          rw [rd_same]; omega
        · exact (datC_S i3 g4 hx g3).up (by decide)
      · refine Tc_t ?_ ?_
        · rw [over_eq g2', if_neg eL]
        rw [takes_n g2' (c := 59) (by omega) (by omega) (fun y => nS ⟨_, hx, y⟩), Option.bind_some]
        dsimp only
        refine Tc_t rfl (Tc_inr ⟨(i4.on g4).up, Or.inr ⟨?_, rfl, ?_⟩⟩)
        · rintro ⟨x, hx', y⟩
          rw [hx] at hx'
          injection hx' with hx'
          rw [← hx'] at y
          exact eL y
        · rw [aF_inr hx]; exact g2'
  · cases e with
    | inl r => exact Tc_some he
    | inr w => exact Tc_some he
