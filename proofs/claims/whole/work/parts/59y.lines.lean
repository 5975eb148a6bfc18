-- ===== stable: the LINES one behind the other =====
noncomputable def lP (z : Nat → Int) : Nat → Nat
  | 0 => 0
  | i + 1 => (match rline z (lP z i) with | .inr x => x.1 + 1 | .inl _ => lP z i)
def lS (z : Nat → Int) (i : Nat) : Prop := ∃ x, rline z (lP z i) = .inr x ∧ z x.1 = 59
def lGood (z : Nat → Int) (L r N : Nat) : Prop := N < r ∧ ∃ x, rline z (lP z N) = .inr x ∧ x.1 = L
/-- where it can't go on: r LINES have room -/
noncomputable def lF (z : Nat → Int) (r N : Nat) : Nat := if N < r then (match rline z (lP z N) with | .inl f => f | .inr x => x.1) else lP z N
theorem lP_S {z : Nat → Int} {i : Nat} {x : Nat × Int × Nat} (h : rline z (lP z i) = .inr x) : lP z (i + 1) = x.1 + 1 := by
  show (match rline z (lP z i) with | .inr x => x.1 + 1 | .inl _ => lP z i) = _
  rw [h]
theorem lF_inl {z : Nat → Int} {r N f : Nat} (hr : N < r) (h : rline z (lP z N) = .inl f) : lF z r N = f := by unfold lF; rw [if_pos hr, h]
theorem lF_inr {z : Nat → Int} {r N : Nat} {x : Nat × Int × Nat} (hr : N < r) (h : rline z (lP z N) = .inr x) : lF z r N = x.1 := by unfold lF; rw [if_pos hr, h]
theorem lF_ge {z : Nat → Int} {r N : Nat} (hr : ¬ N < r) : lF z r N = lP z N := by unfold lF; rw [if_neg hr]
theorem rline_wf {z : Nat → Int} {p e k : Nat} {h : Int} (q : rline z p = .inr (e, h, k)) : 4 ≤ k ∧ k ≤ 12 ∧ e = p + 2 + k ∧ 0 ≤ h ∧ h ≤ 9 ∧ ∀ j, j < k → dg (z (p + 2 + j)) := by
  unfold rline at q
  obtain ⟨k1, k2, k3⟩ := dcn_le z 12 (p + 2)
  by_cases d : dg (z p)
  · rw [if_pos d] at q
    by_cases a : z (p + 1) = 58
    · rw [if_pos a] at q
      by_cases b : 4 ≤ dcn z 12 (p + 2)
      · rw [if_pos b] at q
        injection q with q
        injection q with q1 q2; injection q2 with q2 q3
        subst q1 q2 q3
        exact ⟨b, k1, rfl, by omega, by omega, k2⟩
      · rw [if_neg b] at q; cases q
    · rw [if_neg a] at q; cases q
  · rw [if_neg d] at q; cases q
-- ----- the class -----
/-- the DONKEYS of the first n LINES, behind n0 that are there -/
def stD (z : Nat → Int) (n0 n : Nat) (M : MEM) : Prop := ∀ j, j < n → ∀ e h k, rline z (lP z j) = .inr (e, h, k) → stC z (10 + 3 * (n0 + j)) h k (lP z j) M
def frL (n0 : Nat) (M0 M : MEM) : Prop := (∀ c, c ≠ 1 → ¬ (10 + 3 * n0 ≤ c ∧ c ≤ 18) → M c = M0 c) ∧ ∀ k, k ≠ 2 → M 1 k = M0 1 k
theorem frL.on {n0 b : Nat} {M0 M M' : MEM} (h : frL n0 M0 M) (o : onB b M M') (hb : 10 + 3 * n0 ≤ b) (hb2 : b ≤ 16) : frL n0 M0 M' := ⟨fun c a d => (o.1 c a (by omega) (by omega)).trans (h.1 c a d), fun k a => (o.2 k a).trans (h.2 k a)⟩
theorem stD_S {z : Nat → Int} {n0 n : Nat} {M M' : MEM} {x : Nat × Int × Nat} (h : stD z n0 n M) (o : onB (10 + 3 * (n0 + n)) M M') (hx : rline z (lP z n) = .inr x) (hi : stC z (10 + 3 * (n0 + n)) x.2.1 x.2.2 (lP z n) M') : stD z n0 (n + 1) M' := fun j hj e hh k r => by
  by_cases a : j = n
  · subst a
    rw [r] at hx
    injection hx with hx
    rw [← hx] at hi
    exact hi
  · have := h j (by omega) e hh k r
    unfold stC at *
    rw [o.1 (10 + 3 * (n0 + j)) (by omega) (by omega) (by omega), o.1 (10 + 3 * (n0 + j) + 1) (by omega) (by omega) (by omega)]
    exact this
theorem stD.cg {z : Nat → Int} {n0 n : Nat} {M M' : MEM} (h : stD z n0 n M) (c : ∀ a, 10 ≤ a → M' a = M a) : stD z n0 n M' := fun j hj e hh k r => by
  have := h j hj e hh k r
  unfold stC at *
  rw [c _ (by omega), c _ (by omega)]
  exact this
def outL (z : Nat → Int) (L n0 N : Nat) (M0 : MEM) (r : Int × MEM) : Prop := frL n0 M0 r.2 ∧ ((lGood z L (3 - n0) N ∧ r.1 = ((N + 1 : Nat) : Int) ∧ stD z n0 (N + 1) r.2) ∨ (¬ lGood z L (3 - n0) N ∧ r.1 = -1 - ((lF z (3 - n0) N : Nat) : Int) ∧ lF z (3 - n0) N ≤ 80))
theorem readLinesC {z : Nat → Int} {L n0 N : Nat} {M0 : MEM} (h : rdC z L 0 M0) (hz : ∀ i, L ≤ i → z i = -1) (h0 : M0 3 2 = (n0 : Int)) (h03 : n0 ≤ 3) (hN : N ≤ 3 - n0) (h1 : ∀ i, i < N → lS z i) (h2 : N = 3 - n0 ∨ ¬ lS z N) :
    Tc (dh_readLines M0) (outL z L n0 N M0) := by
  unfold dh_readLines
  refine Tc_c (Tc_n (E := fun e => outL z L n0 N M0 (Sum.elim (fun r => r) (fun w => (tx_wrong w.2, w.2)) e)) (fun i s => s.1 = ((n0 + i : Nat) : Int) ∧ rdC z L (lP z i) s.2 ∧ stD z n0 i s.2 ∧ frL n0 M0 s.2) N ?_ (by omega) ?_ ?_) (fun e he => ?_)
  · exact ⟨h0, h, fun j hj => absurd hj (Nat.not_lt_zero j), ⟨fun _ _ _ => rfl, fun _ _ => rfl⟩⟩
  · rintro i ⟨x1, M⟩ hi ⟨rfl, i2, i3, i4⟩
    dsimp only at i2 i3 i4
    obtain ⟨⟨e, hh, k⟩, hx, h59⟩ := h1 i hi
    dsimp only at h59
    obtain ⟨⟨b, M'⟩, er, g⟩ := readLineC (b := 10 + 3 * (n0 + i)) (by omega) i2
    rw [hx] at g
    obtain ⟨g1, g2, g3, g4⟩ := g
    dsimp only at g1 g2 g3 g4
    unfold dh_readLines_b8
    refine Tc_f (by dsimp only; omega) (Tc_t (by dsimp only; omega) ?_)
    dsimp only
    rw [toNat_c]
    refine Tc_e er ?_
    dsimp only
    refine Tc_f (by omega) (Tc_t ?_ ?_)
    · rw [over_eq g2, if_neg]
      intro y
      have := hz e (by omega)
      omega
    obtain ⟨M2, e2, k2, o2⟩ := takes_y g2 (c := 59) (by omega) (by omega) h59
    refine Tc_e e2 ?_
    dsimp only
    refine Tc_f (by decide) (Tc_inl ⟨?_, ?_, ?_, ?_⟩)
    · dsimp only; exact (wr_i (by omega) (by omega)).trans (by omega)
    · rw [lP_S hx]; exact k2
    · exact (stD_S i3 g4 hx g3).cg (fun a _ => o2.1 a (by omega))
    · exact (i4.on g4 (by omega) (by omega)).on (b := 10 + 3 * (n0 + i)) o2.onB (by omega) (by omega)
  · rintro ⟨x1, M⟩ ⟨rfl, i2, i3, i4⟩
    dsimp only at i2 i3 i4
    unfold dh_readLines_b8
    by_cases er3 : N < 3 - n0
    · have nS : ¬ lS z N := h2.resolve_left (by omega)
      obtain ⟨⟨b, M'⟩, er, g⟩ := readLineC (b := 10 + 3 * (n0 + N)) (by omega) i2
      refine Tc_f (by dsimp only; omega) (Tc_t (by dsimp only; omega) ?_)
      dsimp only
      rw [toNat_c]
      refine Tc_e er ?_
      dsimp only
      cases hx : rline z (lP z N) with
      | inl f =>
        rw [hx] at g
        obtain ⟨g1, g2, g3⟩ := g
        dsimp only at g1 g2 g3
        refine Tc_t g1 (Tc_inr ⟨i4.on g3 (by omega) (by omega), Or.inr ⟨?_, ?_⟩⟩)
        · rintro ⟨-, x, hx', -⟩
          rw [hx] at hx'; cases hx'
        · rw [lF_inl er3 hx]; exact ⟨wrong_eq g2, g2.2.2.1⟩
      | inr x =>
        obtain ⟨e, hh, k⟩ := x
        rw [hx] at g
        obtain ⟨g1, g2, g3, g4⟩ := g
        dsimp only at g1 g2 g3 g4
        refine Tc_f (by omega) ?_
        by_cases eL : e = L
        · refine Tc_f (by rw [over_eq g2, if_pos eL]; decide) (Tc_inr ⟨i4.on g4 (by omega) (by omega), Or.inl ⟨⟨er3, _, hx, eL⟩, ?_, stD_S i3 g4 hx g3⟩⟩)
          show wr (wr (((n0 + N : Nat) : Int) + 1) - M' 3 2) = _
          have e32 : M' 3 2 = (n0 : Int) := by rw [g4.1 3 (by decide) (by omega) (by omega), i4.1 3 (by decide) (by omega)]; exact h0
          rw [e32, wr_i (x := ((n0 + N : Nat) : Int) + 1) (by omega) (by omega)]
          exact (wr_i (by omega) (by omega)).trans (by omega)
        · refine Tc_t (by rw [over_eq g2, if_neg eL]) ?_
          rw [takes_n g2 (c := 59) (by omega) (by omega) (fun y => nS ⟨_, hx, y⟩), Option.bind_some]
          dsimp only
          refine Tc_t rfl (Tc_inr ⟨i4.on g4 (by omega) (by omega), Or.inr ⟨?_, ?_⟩⟩)
          · rintro ⟨-, x, hx', y⟩
            rw [hx] at hx'
            injection hx' with hx'
            rw [← hx'] at y
            exact eL y
          · rw [lF_inr er3 hx]; exact ⟨wrong_eq g2, g2.2.2.1⟩
    · refine Tc_t (by dsimp only; omega) (Tc_inr ⟨i4, Or.inr ⟨fun y => er3 y.1, ?_⟩⟩)
      rw [lF_ge er3]; exact ⟨wrong_eq i2, i2.2.2.1⟩
  · cases e with
    | inl r => exact Tc_some he
    | inr w => exact Tc_some he
-- ----- the reference -----
def stN (z : Nat → Int) (n : Nat) (N : MEM) : Prop := ∀ j, j < n → ∀ e h k, rline z (lP z j) = .inr (e, h, k) → stM z j h k (lP z j) N
def frD (M0 M : MEM) : Prop := (∀ c, c ≠ 278 → c ≠ 285 → M c = M0 c) ∧ ∀ k, k ≠ 17 → k ≠ 18 → M 278 k = M0 278 k
theorem frD.on {q : Nat} {M0 M M' : MEM} (h : frD M0 M) (o : onD q M M') : frD M0 M' := ⟨fun c a b => (o.1 c a b).trans (h.1 c a b), fun k a b => (o.2.1 k a b).trans (h.2 k a b)⟩
theorem stN_S {z : Nat → Int} {n : Nat} {M M' : MEM} {x : Nat × Int × Nat} (h : stN z n M) (o : onD n M M') (hx : rline z (lP z n) = .inr x) (hi : stM z n x.2.1 x.2.2 (lP z n) M') : stN z (n + 1) M' := fun j hj e hh k r => by
  by_cases a : j = n
  · subst a
    rw [r] at hx
    injection hx with hx
    rw [← hx] at hi
    exact hi
  · obtain ⟨a1, a2, a3⟩ := h j (by omega) e hh k r
    have wk := (rline_wf r).2.1
    refine ⟨?_, ?_, fun i hi => ?_⟩
    · rw [o.2.2 _ (by omega)]; exact a1
    · rw [o.2.2 _ (by omega)]; exact a2
    · rw [o.2.2 _ (by omega)]; exact a3 i hi
theorem stN.cg {z : Nat → Int} {n : Nat} {M M' : MEM} (h : stN z n M) (c : M' 285 = M 285) : stN z n M' := fun j hj e hh k r => by
  have := h j hj e hh k r
  unfold stM at *
  rw [c]
  exact this
def endL (z : Nat → Int) (L r N : Nat) (M : MEM) : Prop := (fltM (lF z r N) M ∧ ¬ lGood z L r N) ∨ ∃ x, N < r ∧ rline z (lP z N) = .inr x ∧ rdM z L x.1 M ∧ stN z (N + 1) M
theorem readLinesM {z : Nat → Int} {L n0 N : Nat} {M0 : MEM} (h : rdM z L 0 M0) (hz : ∀ i, L ≤ i → z i = -1) (h0 : M0 278 1 = (n0 : Int)) (h03 : n0 ≤ 3) (hN : N ≤ 3 - n0) (h1 : ∀ i, i < N → lS z i) (h2 : N = 3 - n0 ∨ ¬ lS z N) :
    Tc (iter (fun s => mo_stable_b37 s.1 s.2.1 s.2.2) FU (0, 1, M0)) (fun s => s.1 = ((N + 1 : Nat) : Int) ∧ frD M0 s.2.2 ∧ endL z L (3 - n0) N s.2.2) := by
  refine Tc_n (fun i s => (i ≤ N ∧ s.1 = (i : Int) ∧ s.2.1 = 1 ∧ rdM z L (lP z i) s.2.2 ∧ stN z i s.2.2 ∧ frD M0 s.2.2) ∨ (i = N + 1 ∧ s.1 = ((N + 1 : Nat) : Int) ∧ s.2.1 = 0 ∧ frD M0 s.2.2 ∧ endL z L (3 - n0) N s.2.2)) (N + 1) ?_ (by omega) ?_ ?_
  · exact Or.inl ⟨by omega, rfl, rfl, h, fun j hj => absurd hj (Nat.not_lt_zero j), ⟨fun _ _ _ => rfl, fun _ _ _ => rfl⟩⟩
  · rintro i ⟨x1, x2, M⟩ hi hI
    rcases hI with ⟨i0, i1, i2, i3, i4, i5⟩ | ⟨i0, -⟩
    · dsimp only at i1 i2 i3 i4 i5
      subst i1 i2
      have e1 : M 278 1 = (n0 : Int) := by rw [i5.2 1 (by decide) (by decide)]; exact h0
      unfold mo_stable_b37
      dsimp only
      refine Tc_f (by decide) (Tc_f (by rw [i3.fine]; decide) ?_)
      have ew : wr (M 278 1 + (i : Int)) = (n0 : Int) + (i : Int) := by rw [e1]; exact wr_i (by omega) (by omega)
      by_cases room : n0 + i < 3
      · refine Tc_f (by rw [ew]; omega) ?_
        obtain ⟨M', er, g⟩ := readLineM (i := i) (x1 := 14 * (i : Int)) (by omega) (by omega) i3
        rw [wr_i (x := 14 * (i : Int)) (by omega) (by omega), er, Option.bind_some]
        unfold mo_stable_j77_37
        rw [wr_i (x := (i : Int) + 1) (by omega) (by omega)]
        by_cases e : i = N
        · subst e
          have nS : ¬ lS z i := h2.resolve_left (by omega)
          cases hx : rline z (lP z i) with
          | inl f =>
            rw [hx] at g
            rw [passes_f g.1, Option.bind_some]
            refine Tc_inl (Or.inr ⟨rfl, by dsimp only; omega, rfl, i5.on g.2, Or.inl ⟨by rw [lF_inl (by omega) hx]; exact g.1, ?_⟩⟩)
            rintro ⟨-, x, hx', -⟩
            rw [hx] at hx'; cases hx'
          | inr x =>
            obtain ⟨e, hh, k⟩ := x
            rw [hx] at g
            obtain ⟨g1, g2⟩ := g
            rcases g1 with ⟨d, q⟩ | ⟨d, q1, q2⟩
            · rw [passes_f q, Option.bind_some]
              refine Tc_inl (Or.inr ⟨rfl, by dsimp only; omega, rfl, i5.on g2, Or.inl ⟨by rw [lF_inr (by omega) hx]; exact q, ?_⟩⟩)
              rintro ⟨-, x, hx', y⟩
              rw [hx] at hx'
              injection hx' with hx'
              rw [← hx'] at y
              dsimp only at y
              have := hz e (by omega)
              omega
            · rw [passes_n q1 (c := 59) (by omega) (by omega) (fun y => nS ⟨_, hx, y⟩), Option.bind_some]
              exact Tc_inl (Or.inr ⟨rfl, by dsimp only; omega, rfl, i5.on g2, Or.inr ⟨_, by omega, hx, q1, stN_S i4 g2 hx q2⟩⟩)
        · obtain ⟨⟨e, hh, k⟩, hx, h59⟩ := h1 i (by omega)
          dsimp only at h59
          rw [hx] at g
          obtain ⟨g1, g2⟩ := g
          rcases g1 with ⟨d, q⟩ | ⟨d, q1, q2⟩
          · omega
          · obtain ⟨M2, e2, k2, o2⟩ := passes_y q1 (c := 59) (by omega) (by omega) h59
            refine Tc_e e2 (Tc_inl (Or.inl ⟨by omega, by dsimp only; omega, rfl, ?_, ?_, ?_⟩))
            · rw [lP_S hx]; exact k2
            · exact (stN_S i4 g2 hx q2).cg (o2.1 285 (by decide))
            · exact (i5.on g2).on (q := 0) o2.onD
      · refine Tc_t (by rw [ew]; omega) ?_
        have eN : i = N := by omega
        subst eN
        obtain ⟨M', e', f', o', -⟩ := i3.fault
        refine Tc_e e' ?_
        unfold mo_stable_j77_37
        rw [wr_i (x := (i : Int) + 1) (by omega) (by omega), passes_f f', Option.bind_some]
        exact Tc_inl (Or.inr ⟨rfl, by dsimp only; omega, rfl, i5.on (q := 0) o'.onD, Or.inl ⟨by rw [lF_ge (by omega)]; exact f', fun y => by have := y.1; omega⟩⟩)
    · omega
  · rintro ⟨x1, x2, M⟩ hI
    rcases hI with ⟨i0, -⟩ | ⟨i0, i1, i2, i3, i4⟩
    · omega
    · dsimp only at i1 i2 i3 i4
      subst i2
      unfold mo_stable_b37
      refine Tc_t rfl (Tc_inr ⟨i1, i3, i4⟩)
