-- ----- the reference's ACTS -----
def inM (j : Nat) (k w h v : Int) (N : MEM) : Prop := N 291 (4 * j) = k ∧ N 291 (4 * j + 1) = (if k = 109 then v else w) ∧ (k ≠ 109 → N 291 (4 * j + 2) = v) ∧ (k = 99 ∨ k = 115 → N 291 (4 * j + 3) = h)
def datM (z : Nat → Int) (n : Nat) (N : MEM) : Prop := ∀ j, j < n → ∀ e k w h v, ract z (aP z j) = .inr (e, k, w, h, v) → inM j k w h v N
def frM (M0 M : MEM) : Prop := (∀ c, c ≠ 278 → c ≠ 291 → M c = M0 c) ∧ ∀ k, k ≠ 17 → k ≠ 18 → M 278 k = M0 278 k
theorem datM_S {z : Nat → Int} {n : Nat} {M M' : MEM} {x : Nat × Int × Int × Int × Int} (h : datM z n M) (o : onM n M M') (hx : ract z (aP z n) = .inr x) (hi : inM n x.2.1 x.2.2.1 x.2.2.2.1 x.2.2.2.2 M') : datM z (n + 1) M' := fun j hj e k w hh v r => by
  by_cases a : j = n
  · subst a
    rw [r] at hx
    injection hx with hx
    rw [← hx] at hi
    exact hi
  · obtain ⟨a1, a2, a3, a4⟩ := h j (by omega) e k w hh v r
    unfold inM
    rw [o.2.2 (4 * j) (by omega), o.2.2 (4 * j + 1) (by omega), o.2.2 (4 * j + 2) (by omega), o.2.2 (4 * j + 3) (by omega)]
    exact ⟨a1, a2, a3, a4⟩
theorem datM.cg {z : Nat → Int} {n : Nat} {M M' : MEM} (h : datM z n M) (c : M' 291 = M 291) : datM z n M' := fun j hj e k w hh v r => by
  unfold inM
  rw [c]
  exact h j hj e k w hh v r
theorem frM.on {q : Nat} {M0 M M' : MEM} (h : frM M0 M) (o : onM q M M') : frM M0 M' := ⟨fun c a b => (o.1 c a b).trans (h.1 c a b), fun k a b => (o.2.1 k a b).trans (h.2 k a b)⟩
def endM (z : Nat → Int) (L N : Nat) (M : MEM) : Prop := (∃ f, ract z (aP z N) = .inl f ∧ fltM f M) ∨ ∃ x, ract z (aP z N) = .inr x ∧ rdM z L x.1 M ∧ datM z (N + 1) M
theorem readM {z : Nat → Int} {L N : Nat} {M0 : MEM} (h : rdM z L 0 M0) (h60 : ∀ i, 60 ≤ i → z i = -1) (hN : N ≤ 20) (h1 : ∀ i, i < N → aS z i) (h2 : N = 20 ∨ ¬ aS z N) :
    Tc (iter (fun s => mo_day_b39 s.1 s.2.1 s.2.2) FU (0, 1, M0)) (fun s => s.1 = ((N + 1 : Nat) : Int) ∧ frM M0 s.2.2 ∧ endM z L N s.2.2) := by
  have bad20 : N = 20 → ract z (aP z N) = .inl (aP z N) := fun e => ract_none (h60 _ (by have := aP_ge N h1; omega))
  have nS : ∀ x, ract z (aP z N) = .inr x → z x.1 ≠ 59 := fun x hx y => by
    rcases h2 with q | q
    · rw [bad20 q] at hx; cases hx
    · exact q ⟨x, hx, y⟩
  refine Tc_n (fun i s => (i ≤ N ∧ s.1 = (i : Int) ∧ s.2.1 = 1 ∧ rdM z L (aP z i) s.2.2 ∧ datM z i s.2.2 ∧ frM M0 s.2.2) ∨ (i = N + 1 ∧ s.1 = ((N + 1 : Nat) : Int) ∧ s.2.1 = 0 ∧ frM M0 s.2.2 ∧ endM z L N s.2.2)) (N + 1) ?_ (by omega) ?_ ?_
  · exact Or.inl ⟨by omega, rfl, rfl, h, fun j hj => by omega, ⟨fun _ _ _ => rfl, fun _ _ _ => rfl⟩⟩
  · rintro i ⟨x1, x2, M⟩ hi hI
    rcases hI with ⟨i0, i1, i2, i3, i4, i5⟩ | ⟨i0, -⟩
    · dsimp only at i1 i2 i3 i4 i5
      subst i1 i2
      unfold mo_day_b39
      dsimp only
      obtain ⟨M', er, g⟩ := readActM (q := i) (x1 := 4 * (i : Int)) (by omega) (by omega) i3
      refine Tc_f (by decide) (Tc_f (by rw [i3.fine]; decide) ?_)
      rw [wr_i (x := 4 * (i : Int)) (by omega) (by omega), er, Option.bind_some, wr_i (x := (i : Int) + 1) (by omega) (by omega)]
      by_cases e : i = N
      · subst e
        cases hx : ract z (aP z i) with
        | inl f =>
          rw [hx] at g
          rw [passes_f g.1, Option.bind_some]
          exact Tc_inl (Or.inr ⟨rfl, by dsimp only; omega, rfl, i5.on g.2, Or.inl ⟨f, hx, g.1⟩⟩)
        | inr x =>
          obtain ⟨e, k, w, hh, v⟩ := x
          rw [hx] at g
          obtain ⟨g1, g2, g3⟩ := g
          rw [passes_n g1 (c := 59) (by omega) (by omega) (nS _ hx), Option.bind_some]
          exact Tc_inl (Or.inr ⟨rfl, by dsimp only; omega, rfl, i5.on g3, Or.inr ⟨_, hx, g1, datM_S i4 g3 hx g2⟩⟩)
      · obtain ⟨⟨e, k, w, hh, v⟩, hx, h59⟩ := h1 i (by omega)
        dsimp only at h59
        rw [hx] at g
        obtain ⟨g1, g2, g3⟩ := g
        obtain ⟨M2, e2, k2, o2⟩ := passes_y g1 (c := 59) (by omega) (by omega) h59
        refine Tc_e e2 (Tc_inl (Or.inl ⟨by omega, by dsimp only; omega, rfl, ?_, ?_, ?_⟩))
        · rw [aP_S hx]; exact k2
        · exact (datM_S i4 g3 hx g2).cg (o2.1 291 (by decide))
        · exact (i5.on g3).on (q := 0) o2.on
    · omega
  · rintro ⟨x1, x2, M⟩ hI
    rcases hI with ⟨i0, -⟩ | ⟨i0, i1, i2, i3, i4⟩
    · omega
    · dsimp only at i1 i2 i3 i4
      subst i2
      unfold mo_day_b39
      refine Tc_t rfl (Tc_inr ⟨i1, i3, i4⟩)
/-- the whole reading of the reference -/
theorem readM2 {z : Nat → Int} {L N : Nat} {M0 : MEM} (h : rdM z L 0 M0) (h60 : ∀ i, 60 ≤ i → z i = -1) (hN : N ≤ 20) (h1 : ∀ i, i < N → aS z i) (h2 : N = 20 ∨ ¬ aS z N) :
    ∃ M', mo_day_j38 0 1 M0 = mo_day_j89 ((N + 1 : Nat) : Int) M' ∧ frM M0 M' ∧ ((aGood z L N ∧ M' 278 18 = -1 ∧ datM z (N + 1) M') ∨ (¬ aGood z L N ∧ fltM (aF z N) M')) := by
  obtain ⟨⟨x1, x2, M⟩, es, s1, s2, s3⟩ := readM h h60 hN h1 h2
  dsimp only at s1 s2 s3
  have e0 : mo_day_j38 0 1 M0 = mo_day_j70 ((N + 1 : Nat) : Int) M := by
    unfold mo_day_j38
    rw [es, Option.bind_some]
    dsimp only
    rw [s1]
  rcases s3 with ⟨f, hx, hf⟩ | ⟨x, hx, hr, hd⟩
  · refine ⟨M, ?_, s2, Or.inr ⟨?_, by rw [aF_inl hx]; exact hf⟩⟩
    · rw [e0]
      unfold mo_day_j70
      by_cases y : M 278 15 ≤ M 278 17
      · rw [if_pos y]
      · rw [if_neg y, hf.fault]; rfl
    · rintro ⟨x, hx', -⟩
      rw [hx] at hx'; cases hx'
  · have l := hr.2.2.2.2.1.1
    by_cases e : x.1 = L
    · refine ⟨M, ?_, s2, Or.inl ⟨⟨x, hx, e⟩, hr.2.2.2.1, hd⟩⟩
      rw [e0]
      unfold mo_day_j70
      rw [if_pos (by rw [hr.2.1, hr.2.2.1]; omega)]
    · obtain ⟨M', e', f', o', -⟩ := hr.fault
      refine ⟨M', ?_, s2.on (q := 0) o'.on, Or.inr ⟨?_, by rw [aF_inr hx]; exact f'⟩⟩
      · rw [e0]
        unfold mo_day_j70
        rw [if_neg (by rw [hr.2.1, hr.2.2.1]; omega), e']
        rfl
      · rintro ⟨x', hx', y⟩
        rw [hx] at hx'
        injection hx' with hx'
        rw [← hx'] at y
        exact e y
