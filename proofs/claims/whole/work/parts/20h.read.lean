theorem read_s {z : Nat → Int} {L : Nat} {M : MEM} (hz : ∀ i, 40 ≤ i → z i = -1) (hL : 0 < L) (h : rdC z L 0 M) (h5 : ∀ i : Nat, (i : Int) < M 1 3 → M 2 i ≤ 255) :
    Tc (ru_read 25 M) (fun r => ofQ M r.2 ∧ ((r.1 = 1 ∧ ∃ c : List Int, Out z L true 0 [] [] (.inr c) ∧ r.2 25 3 = (c.length : Int) ∧ lstAt 26 c r.2 ∧ c.length ≤ 40 ∧ ∀ x, x ∈ c → 0 ≤ x ∧ x ≤ 3000) ∨ (r.1 = 0 ∧ ∃ f, rdC z L f r.2 ∧ Out z L true 0 [] [] (.inl f)))) := by
  unfold ru_read
  refine Tc_u (Tc_u (Tc_u ?_))
  generalize hM3 : up2 (up2 (up2 M 25 3 0) 25 4 0) 25 5 0 = M3
  have o3 : ofQ M M3 := by rw [← hM3]; exact ⟨fun c a b d e => by rw [up2_ne b, up2_ne b, up2_ne b], fun k a => by rw [rd_a (by decide), rd_a (by decide), rd_a (by decide)]⟩
  have r3 : rdC z L 0 M3 := by rw [← hM3]; exact h.off (by rw [up2_ne (by decide), up2_ne (by decide), up2_ne (by decide)]) (by rw [up2_ne (by decide), up2_ne (by decide), up2_ne (by decide)])
  have s3 : st z L 0 [] [] M3 := by
    refine ⟨r3, ⟨?_, fun i x hx => (by cases hx), ?_, fun i x hx => (by cases hx), by decide, fun o ho => (by cases ho), fun o ho => (by cases ho)⟩, ?_, Nat.le_refl _, sgn_cg h5 o3⟩
    · rw [← hM3, rd_k (by decide), rd_k (by decide), rd_same]; rfl
    · rw [← hM3, rd_k (by decide), rd_same]; rfl
    · rw [← hM3, rd_same]; rfl
  refine Tc_t (by rw [over_eq r3, if_neg (by omega)]) ?_
  refine Tc_c (Tc_l (fun i s => s.1 = (i : Int) ∧ ofQ M s.2 ∧ ∃ p C S, i ≤ p ∧ p ≤ 40 ∧ st z L p C S s.2 ∧ ∀ o, Out z L true p C S o → Out z L true 0 [] [] o) (fun e => (fun r : Int × MEM => ofQ M r.2 ∧ ((r.1 = 1 ∧ ∃ c : List Int, Out z L true 0 [] [] (.inr c) ∧ r.2 25 3 = (c.length : Int) ∧ lstAt 26 c r.2 ∧ c.length ≤ 40 ∧ ∀ x, x ∈ c → 0 ≤ x ∧ x ≤ 3000) ∨ (r.1 = 0 ∧ ∃ f, rdC z L f r.2 ∧ Out z L true 0 [] [] (.inl f)))) (Sum.elim (fun r => r) (fun w => (0, w.2)) e)) 40 ⟨rfl, o3, 0, [], [], Nat.le_refl _, by omega, s3, fun o ho => ho⟩ (by omega) ?_ ?_) (fun e he => ?_)
  · rintro i ⟨x2, N⟩ hi ⟨rfl, oN, p, C, S, l1, l2, hs, hO⟩
    dsimp only at oN hs
    unfold ru_read_b26
    refine Tc_f (by dsimp only; omega) (Tc_c (thing_s hz hs l2) ?_)
    rintro ⟨v, N1⟩ ⟨o1, out⟩
    dsimp only at o1 out ⊢
    rcases out with ⟨rfl, p1, C1, S1, k1, k2, k3, k4⟩ | ⟨rfl, f, g1, g2⟩
    · refine Tc_f (by decide) (Tc_c (close_s hz k3 k2) ?_)
      rintro N2 ⟨o2, p2, C2, S2, j1, j2, j3, j4, j5⟩
      by_cases eL : p2 = L
      · refine Tc_f (by rw [over_eq j3.1, if_pos eL]; decide) ?_
        obtain ⟨N3, e3, c3, o3'⟩ := unwind_s (l := 1) (by decide) j3.2.1
        have e5 : N3 25 5 = (brk S2 : Int) := by rw [o3'.2, j3.2.2.1]
        refine Tc_e e3 ?_
        by_cases b0 : brk S2 = 0
        · refine Tc_t (by rw [e5]; omega) (Tc_inrR ⟨oN.tr (o1.tr (o2.tr o3'.Q)), Or.inl ⟨rfl, _, hO _ (k4 _ (j5 _ (Out.fin j4 eL b0))), c3.1, c3.2.1, ?_, c3.2.2.2.2.2.2⟩⟩)
          have := c3.2.2.2.2.1; omega
        · refine Tc_f (by rw [e5]; omega) (Tc_inrR ⟨oN.tr (o1.tr (o2.tr o3'.Q)), Or.inr ⟨rfl, p2, j3.1.S o3', hO _ (k4 _ (j5 _ (Out.opb j4 eL b0)))⟩⟩)
      · refine Tc_t (by rw [over_eq j3.1, if_neg eL]) (Tc_c (operator_s hz j3 j2 j4 eL) ?_)
        rintro ⟨v, N3⟩ ⟨o3', out⟩
        dsimp only at o3' out ⊢
        rcases out with ⟨rfl, p40, C3, S3, m1, m2⟩ | ⟨rfl, g1, g2⟩
        · refine Tc_f (by decide) (Tc_inlL ⟨?_, oN.tr (o1.tr (o2.tr o3')), p2 + 1, C3, S3, by omega, by omega, m1, fun o ho => hO o (k4 o (j5 o (m2 o ho)))⟩)
          dsimp only; exact (wr_i (by omega) (by omega)).trans (by omega)
        · exact Tc_t rfl (Tc_inrR ⟨oN.tr (o1.tr (o2.tr o3')), Or.inr ⟨rfl, p2, g1, hO _ (k4 _ (j5 _ g2))⟩⟩)
    · exact Tc_t rfl (Tc_inrR ⟨oN.tr o1, Or.inr ⟨rfl, f, g1, hO _ g2⟩⟩)
  · rintro ⟨x2, N⟩ ⟨rfl, oN, p, C, S, l1, l2, hs, hO⟩
    have hm := hz p (by omega)
    unfold ru_read_b26
    exact Tc_t (by dsimp only; omega) (Tc_inr ⟨oN, Or.inr ⟨rfl, p, hs.1, hO _ (Out.bad (by omega) (fun y => by omega) (by omega) (by omega))⟩⟩)
  · cases e with
    | inl r => exact Tc_some he
    | inr w => exact Tc_some he
/-- THE RULE's signs as they count -/
def zR (M : MEM) (i : Nat) : Int := if (i : Int) < M 278 21 ∧ 0 ≤ M 286 i then M 286 i else -1
def rlOk (M : MEM) : Prop := codeOk (M 21 3) (M 22) ∧ 0 ≤ M 278 21 ∧ M 278 21 ≤ 40 ∧ (∀ i : Nat, (i : Int) < M 278 21 → M 286 i ≤ 127) ∧ ((M 278 21 = 0 ∧ M 21 3 = 0) ∨ (0 < M 278 21 ∧ ∃ c : List Int, Out (zR M) (M 278 21).toNat true 0 [] [] (.inr c) ∧ M 21 3 = (c.length : Int) ∧ lstAt 22 c M))
theorem runL_st (g code : Nat → Int) : ∀ (c : List Int) (i : Nat) (l : List Int), (∀ j x, c[j]? = some x → code (i + j) = x) → runL g code c.length i l = stL g c l := by
  intro c
  induction c with
  | nil => intro i l h; rfl
  | cons x c ih =>
    intro i l h
    have h0 : code i = x := h 0 x rfl
    show runL g code c.length (i + 1) (stepL g (code i) l) = stL g c (stepL g x l)
    rw [h0]
    exact ih (i + 1) _ (fun j y hy => by rw [show i + 1 + j = i + (j + 1) by omega]; exact h (j + 1) y hy)
/-- what the machine gives, if the reference gets through to the end -/
theorem acc_end {z : Nat → Int} {L p : Nat} {c : List Int} (hz : ∀ i, L ≤ i → z i = -1) (nx : nxT z 0 p) (a : accT z L 0 0 0 (limT 0) p c) : Out z L true 0 [] [] (if p = L then .inr c else .inl p) := by
  obtain ⟨C', S', a1, a2, a3⟩ := a [] [] (fun _ => by show (0 : Int) ≤ _; decide) rfl
  have e : unw 1 S' C' = (c, []) := a1 1 (by decide) (by decide)
  have b : brk S' = 0 := by
    have := brk_unw (l := 1) (by decide) S' C'
    rw [e] at this
    exact this.symm
  refine a3 _ ?_
  by_cases eL : p = L
  · rw [if_pos eL]
    have := Out.fin (z := z) (L := L) (p := p) (C := C') (S := S') (fun y => by omega) eL b
    rw [e] at this
    exact this
  · rw [if_neg eL]
    by_cases cm : cmO (z p)
    · exact Out.two eL cm (a2 rfl cm)
    · have n1 := nx.1 (by decide)
      have n2 := nx.2 (by decide)
      exact Out.non (fun y => by omega) eL (by
        rintro (y | y)
        · rcases y with y | y | y | y
          · exact n1.1 y
          · exact n1.2 y
          · exact n2.1 y
          · exact n2.2 y
        · exact cm y)
