-- ===== day =====
theorem zT_end {m : Int} {M : MEM} {L : Nat} (hL : M 1 1 = (L : Int)) {i : Nat} (h : L ≤ i) : zT m M i = -1 := by unfold zT; rw [if_neg (by omega)]
theorem zT_m {m : Int} {M : MEM} {i : Nat} (h : m ≤ (i : Int)) : zT m M i = -1 := by unfold zT; rw [if_neg (by omega)]
/-- the reference has read THE TEXT -/
def frT (N N' : MEM) : Prop := (∀ c, c ≠ 278 → c ≠ 291 → N' c = N c) ∧ (∀ k, k ≠ 10 → k ≠ 13 → ¬ (14 ≤ k ∧ k ≤ 18) → N' 278 k = N 278 k) ∧ N' 278 10 = 0
theorem rdM.up10 {z : Nat → Int} {L p : Nat} {M : MEM} {x : Int} (h : rdM z L p M) : rdM z L p (up2 M 278 10 x) := by
  unfold rdM at *
  rw [rd_k (by decide), rd_k (by decide), rd_k (by decide), rd_k (by decide), rd_k (by decide)]
  refine ⟨h.1, h.2.1, h.2.2.1, h.2.2.2.1, h.2.2.2.2.1, h.2.2.2.2.2.1, fun i => ?_⟩
  rw [rd_a (by decide)]
  exact h.2.2.2.2.2.2 i
theorem day_read {B : Int} {M : MEM} (h : Rel B M) : ∃ (M2 Mr : MEM) (fl : Int), tx_begin 60 M = some M2 ∧ ac_read M2 = some (fl, Mr) ∧ ((∀ c, c ≠ 1 → ¬ (29 ≤ c ∧ c ≤ 33) → Mr c = M c) ∧ ∀ k, k ≠ 2 → k ≠ 3 → Mr 1 k = M 1 k) ∧
    ((∃ n : Nat, n ≤ 20 ∧ (∀ j, j < n → ∃ e k w h v, ract (zT 60 M) (aP (zT 60 M) j) = .inr (e, k, w, h, v)) ∧ fl = 1 ∧ Mr 29 4 = (n : Int) ∧ datC (zT 60 M) n Mr ∧ ∀ N : MEM, N 283 = M 283 → N 278 10 = M 1 1 → ∃ N', mo_day N = mo_day_j89 (n : Int) N' ∧ N' 278 18 = -1 ∧ datM (zT 60 M) n N' ∧ frT N N')
    ∨ (∃ F : Nat, fl = 0 ∧ tx_wrong Mr = -1 - (F : Int) ∧ ∀ N : MEM, N 283 = M 283 → N 278 10 = M 1 1 → ∃ N', mo_day N = some (-1 - (F : Int), N') ∧ frT N N')) := by
  have hT := h.T
  obtain ⟨t1, t2, t3, t4⟩ := h.T
  obtain ⟨L, hL⟩ : ∃ L : Nat, M 1 1 = (L : Int) := ⟨(M 1 1).toNat, by omega⟩
  have r0 := rdC_0 (m := 60) hT hL
  have hz : ∀ i, L ≤ i → zT 60 M i = -1 := fun i hi => zT_end hL hi
  have h60 : ∀ i, 60 ≤ i → zT 60 M i = -1 := fun i hi => zT_m (by omega)
  -- the reference's start
  have mo0 : ∀ N : MEM, N 283 = M 283 → N 278 10 = M 1 1 → ∃ N4, mo_day N = (if (L : Int) ≤ 0 then mo_day_j38 0 0 N4 else mo_day_j38 0 1 N4) ∧ rdM (zT 60 M) L 0 N4 ∧ frT N N4 := fun N e1 e2 => by
    obtain ⟨N3, e3, r3, f1, f2⟩ := rdM_0 (m := 60) (N := up2 N 278 13 0) hT hL (by rw [up2_ne (by decide)]; exact e1)
    refine ⟨up2 N3 278 10 0, ?_, r3.up10, fun c a b => by rw [up2_ne a, f1 c a, up2_ne a], fun k a b c => by rw [rd_k a, f2 k (by omega), rd_k b], rd_same⟩
    unfold mo_day
    rw [Option.bind_some, rd_k (by decide), e2, hL, e3, Option.bind_some, Option.bind_some, r3.up10.2.1]
  have fr2 : ∀ N N4 N' : MEM, frT N N4 → frM N4 N' → frT N N' := fun N N4 N' a b => ⟨fun c x y => (b.1 c x y).trans (a.1 c x y), fun k x y w => (b.2 k (by omega) (by omega)).trans (a.2.1 k x y w), (b.2 10 (by decide) (by decide)).trans a.2.2⟩
  have frr : ∀ Mr : MEM, frC (up2 (up2 M 1 2 0) 1 3 (min (M 1 1) 60)) Mr → (∀ c, c ≠ 1 → ¬ (29 ≤ c ∧ c ≤ 33) → Mr c = M c) ∧ ∀ k, k ≠ 2 → k ≠ 3 → Mr 1 k = M 1 k := fun Mr a => ⟨fun c x y => by rw [a.1 c x y, up2_ne x, up2_ne x], fun k x y => by rw [a.2 k x, rd_k y, rd_k x]⟩
  by_cases hL0 : L = 0
  · subst hL0
    generalize hM2 : up2 (up2 M 1 2 0) 1 3 (min (M 1 1) 60) = M2 at r0 frr
    refine ⟨M2, up2 M2 29 4 0, 1, by rw [begin_eq, hM2], ?_, frr _ ⟨fun c a b => up2_ne (by omega), fun k a => rd_a (by decide)⟩, Or.inl ⟨0, by omega, fun j hj => by omega, rfl, rd_same, fun j hj => by omega, fun N e1 e2 => ?_⟩⟩
    · unfold ac_read
      rw [Option.bind_some, over_eq (r0.off (up2_ne (by decide)) (up2_ne (by decide))), if_pos rfl, if_neg (by decide)]
    · obtain ⟨N4, e4, r4, f4⟩ := mo0 N e1 e2
      refine ⟨N4, ?_, r4.2.2.2.1, fun j hj => by omega, f4⟩
      rw [e4, if_pos (by omega)]
      unfold mo_day_j38
      rw [iter_exit (e := (0, 0, N4)) (by unfold mo_day_b39; rw [if_pos rfl]), Option.bind_some]
      unfold mo_day_j70
      rw [if_pos (by dsimp only; rw [r4.2.1, r4.2.2.1]; exact Int.le_refl _)]
      rfl
  · obtain ⟨N, hN, h1, h2⟩ := first_not (aS (zT 60 M)) 20
    generalize hM2 : up2 (up2 M 1 2 0) 1 3 (min (M 1 1) 60) = M2 at r0 frr
    obtain ⟨⟨fl, Mr⟩, er, f1, out⟩ := readC (N := N) r0 (by omega) hz h60 hN h1 h2
    dsimp only at f1 out
    refine ⟨M2, Mr, fl, by rw [begin_eq, hM2], er, frr _ f1, ?_⟩
    have bad20 : N = 20 → ract (zT 60 M) (aP (zT 60 M) N) = .inl (aP (zT 60 M) N) := fun e => ract_none (h60 _ (by have := aP_ge N h1; omega))
    rcases out with ⟨hg, o1, o2, o3⟩ | ⟨hg, o1, o2⟩
    · have hN20 : N < 20 := by
        rcases Nat.lt_or_ge N 20 with q | q
        · exact q
        · obtain ⟨x, hx, -⟩ := hg
          rw [bad20 (by omega)] at hx; cases hx
      refine Or.inl ⟨N + 1, by omega, fun j hj => ?_, o1, o2, o3, fun P e1 e2 => ?_⟩
      · by_cases e : j = N
        · subst e
          obtain ⟨⟨e, k, w, hh, v⟩, hx, -⟩ := hg
          exact ⟨e, k, w, hh, v, hx⟩
        · obtain ⟨⟨e, k, w, hh, v⟩, hx, -⟩ := h1 j (by omega)
          exact ⟨e, k, w, hh, v, hx⟩
      · obtain ⟨N4, e4, r4, f4⟩ := mo0 P e1 e2
        obtain ⟨N', e', f', o'⟩ := readM2 r4 h60 hN h1 h2
        rcases o' with ⟨-, p1, p2⟩ | ⟨ng, -⟩
        · exact ⟨N', by rw [e4, if_neg (by omega), e'], p1, p2, fr2 _ _ _ f4 f'⟩
        · exact absurd hg ng
    · refine Or.inr ⟨aF (zT 60 M) N, o1, wrong_eq o2, fun P e1 e2 => ?_⟩
      obtain ⟨N4, e4, r4, f4⟩ := mo0 P e1 e2
      obtain ⟨N', e', f', o'⟩ := readM2 r4 h60 hN h1 h2
      rcases o' with ⟨g, -⟩ | ⟨-, p1⟩
      · exact absurd g hg
      · refine ⟨N', ?_, fr2 _ _ _ f4 f'⟩
        rw [e4, if_neg (by omega), e']
        unfold mo_day_j89
        have hF := o2.2.2.1
        have p1' : N' 278 18 = ((aF (zT 60 M) N : Nat) : Int) := p1
        rw [p1.fine, if_pos rfl, p1', wr_i (by omega) (by omega)]
