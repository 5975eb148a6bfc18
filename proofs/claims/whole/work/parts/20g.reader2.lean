section
variable {z : Nat → Int} {L : Nat}
theorem ahead_s (hz : ∀ i, 40 ≤ i → z i = -1) {p : Nat} {C S : List Int} {M : MEM} (h : st z L p C S M) (hp : p ≤ 40) :
    ∃ p' S' M', ru_readAhead 25 M = some M' ∧ st z L p' C S' M' ∧ ofQ M M' ∧ p ≤ p' ∧ p' ≤ 40 ∧ z p' ≠ 45 ∧ ¬ (z p' = 40 ∧ brk S' < 4) ∧ ∀ o, Out z L true p' C S' o → Out z L true p C S o := by
  have hl : Tc (iter (fun s => ru_readAhead_b2 25 s.1 s.2) FU (0, M)) (fun e => ∃ p' S', st z L p' C S' (Sum.elim (fun r => r) (fun w => w.2) e) ∧ ofQ M (Sum.elim (fun r => r) (fun w => w.2) e) ∧ p ≤ p' ∧ p' ≤ 40 ∧ z p' ≠ 45 ∧ ¬ (z p' = 40 ∧ brk S' < 4) ∧ ∀ o, Out z L true p' C S' o → Out z L true p C S o) := by
    refine Tc_l (fun i s => s.1 = (i : Int) ∧ p + i ≤ 40 ∧ ofQ M s.2 ∧ ∃ S', st z L (p + i) C S' s.2 ∧ ∀ o, Out z L true (p + i) C S' o → Out z L true p C S o) _ 40 ⟨rfl, hp, ofQ.rf, S, h, fun o ho => ho⟩ (by omega) ?_ ?_
    · rintro i ⟨x, N⟩ hi ⟨rfl, hp4, oN, S', ⟨h1, h2, h3, h4, h5⟩, hO⟩
      dsimp only at oN h1 h2 h3 h5
      unfold ru_readAhead_b2 ru_readAhead_j64_2
      refine Tc_f (by dsimp only; omega) ?_
      dsimp only
      rw [wr_i (x := (i : Int) + 1) (by omega) (by omega)]
      by_cases a : z (p + i) = 45
      · have hp' : p + i < 40 := lt40 hz (by omega)
        obtain ⟨N1, e1, r1, o1⟩ := takes_y h1 (c := 45) (by omega) (by omega) a
        refine Tc_e e1 ?_
        dsimp only
        refine Tc_f (by decide) ?_
        obtain ⟨N2, e2, c2, o2⟩ := push_s (x := 256) (h2.R o1) (by omega) (Or.inr (Or.inl rfl))
        refine Tc_e e2 (Tc_inlL ⟨by dsimp only; omega, by omega, oN.tr (o1.Q.tr o2.Q), 256 :: S', ⟨r1.S o2, c2, ?_, ?_, sgn_cg h5 (o1.Q.tr o2.Q)⟩, fun o ho => hO o (Out.neg a ho)⟩)
        · dsimp only
          rw [o2.2, o1.1 25 (by decide), h3]
          show _ = (((if (256 : Int) = 40 then 1 else 0) + brk S' : Nat) : Int)
          rw [if_neg (by decide)]; omega
        · rw [List.length_cons]; omega
      · rw [takes_n h1 (c := 45) (by omega) (by omega) a, Option.bind_some]
        refine Tc_t rfl ?_
        dsimp only
        by_cases b4 : brk S' < 4
        · refine Tc_f (by rw [h3]; omega) ?_
          by_cases b : z (p + i) = 40
          · have hp' : p + i < 40 := lt40 hz (by omega)
            obtain ⟨N1, e1, r1, o1⟩ := takes_y h1 (c := 40) (by omega) (by omega) b
            refine Tc_e e1 ?_
            dsimp only
            refine Tc_f (by decide) ?_
            obtain ⟨N2, e2, c2, o2⟩ := push_s (x := 40) (h2.R o1) (by omega) (Or.inl rfl)
            have e25 : N2 25 5 = (brk S' : Int) := by rw [o2.2, o1.1 25 (by decide), h3]
            have o3 : ofQ N2 (up2 N2 25 5 ((brk S' : Int) + 1)) := ⟨fun c _ x _ _ => up2_ne x, fun k _ => rd_a (by decide)⟩
            refine Tc_e e2 ?_
            rw [e25, wr_i (x := (brk S' : Int) + 1) (by omega) (by omega)]
            refine Tc_u (Tc_inlL ⟨by dsimp only; omega, by omega, oN.tr (o1.Q.tr (o2.Q.tr o3)), 40 :: S', ⟨(by dsimp only; exact (r1.S o2).off (up2_ne (by decide)) (up2_ne (by decide))), (by dsimp only; exact c2.cg (rd_k (by decide)) (rd_k (by decide)) (up2_ne (by decide)) (up2_ne (by decide))), ?_, ?_, sgn_cg h5 (o1.Q.tr (o2.Q.tr o3))⟩, fun o ho => hO o (Out.opn b b4 ho)⟩)
            · dsimp only
              rw [rd_same]
              show _ = (((if (40 : Int) = 40 then 1 else 0) + brk S' : Nat) : Int)
              rw [if_pos rfl]; omega
            · rw [List.length_cons]; omega
          · rw [takes_n h1 (c := 40) (by omega) (by omega) b, Option.bind_some]
            refine Tc_t rfl (Tc_inrR ⟨p + i, S', ⟨h1, h2, h3, h4, h5⟩, oN, by omega, hp4, a, fun y => b y.1, hO⟩)
        · refine Tc_t (by rw [h3]; omega) (Tc_inrR ⟨p + i, S', ⟨h1, h2, h3, h4, h5⟩, oN, by omega, hp4, a, fun y => b4 y.2, hO⟩)
    · rintro ⟨x, N⟩ ⟨rfl, hp4, oN, S', hst, hO⟩
      have hm := hz (p + 40) (by omega)
      unfold ru_readAhead_b2
      refine Tc_t (by dsimp only; omega) (Tc_inr ⟨p + 40, S', hst, oN, by omega, hp4, by omega, fun y => by omega, hO⟩)
  obtain ⟨e, ee, p', S', q1, q2, q3, q4, q5, q6, q7⟩ := hl
  refine ⟨p', S', _, ?_, q1, q2, q3, q4, q5, q6, q7⟩
  unfold ru_readAhead
  rw [ee]
  cases e <;> rfl
theorem thing_s (hz : ∀ i, 40 ≤ i → z i = -1) {p : Nat} {C S : List Int} {M : MEM} (h : st z L p C S M) (hp : p ≤ 40) :
    Tc (ru_readThing 25 M) (fun r => ofQ M r.2 ∧ ((r.1 = 1 ∧ ∃ p' C' S', p < p' ∧ p' ≤ 40 ∧ st z L p' C' S' r.2 ∧ ∀ o, Out z L false p' C' S' o → Out z L true p C S o) ∨ (r.1 = 0 ∧ ∃ p', rdC z L p' r.2 ∧ Out z L true p C S (.inl p')))) := by
  obtain ⟨p1, S1, M1, e1, ⟨h1, h2, h3, h4, h5⟩, o1, l1, l2, n1, n2, hO⟩ := ahead_s hz h hp
  unfold ru_readThing
  refine Tc_e e1 ?_
  by_cases d : dg (z p1)
  · have hp' : p1 < 40 := lt40 hz (by omega)
    obtain ⟨M2, e2, r2, o2⟩ := number_y (k := 2) h1 (by omega) d
    have bd := num_bd z 3 p1 0 (by omega)
    have le := (num_le z 3 p1 0 (by omega)).2.2.2 rfl
    have lt : p1 < (num z 3 p1 0).1 := by
      have e : num z 3 p1 0 = num z 2 (p1 + 1) (z p1 - 48) := num_1 z 2 p1 d
      have := (num_bd z 2 (p1 + 1) (z p1 - 48) (by omega)).1
      rw [e]; omega
    refine Tc_e e2 ?_
    dsimp only
    refine Tc_f (by show ¬ (num z 3 p1 0).2 < 0; omega) ?_
    obtain ⟨M3, e3, c3, o3⟩ := emit_s (x := (num z 3 p1 0).2) (h2.R o2) (by omega) (by omega)
    refine Tc_e e3 (Tc_some ⟨o1.tr (o2.Q.tr o3.Q), Or.inl ⟨rfl, _, _, S1, ?_, num_40 hz 3 p1 0 l2, ⟨r2.S o3, c3, ?_, ?_, sgn_cg h5 (o2.Q.tr o3.Q)⟩, fun o ho => hO o (Out.dig d ho)⟩⟩)
    · omega
    · dsimp only; rw [o3.2, o2.1 25 (by decide), h3]
    · rw [List.length_append]; show C.length + 1 + S1.length ≤ (num z 3 p1 0).1; omega
  · refine Tc_e (number_n (k := 3) h1 d) ?_
    dsimp only
    refine Tc_t (by decide) ?_
    obtain ⟨r, er, hs, rv⟩ := h1.next
    have r255 : r ≤ 255 := by
      rw [rv]
      split
      · exact h5 p1 ‹_›
      · decide
    refine Tc_e er ?_
    by_cases lt : ltr (z p1)
    · have hp' : p1 < 40 := lt40 hz (by omega)
      have er2 : r = z p1 := by unfold sq at hs; omega
      obtain ⟨i1, i2⟩ := ix_ltr lt
      have zx : zx16 r = z p1 := by unfold zx16; omega
      refine Tc_t (by omega) ?_
      unfold ru_readThing_j42
      rw [zx]
      refine Tc_t i1 ?_
      obtain ⟨M2, e2, r2, o2⟩ := takes_same h1 (by omega) er
      refine Tc_e e2 ?_
      dsimp only
      rw [wr_i (x := 1000 + ixOf (z p1)) (by omega) (by omega)]
      obtain ⟨M3, e3, c3, o3⟩ := emit_s (x := 1000 + ixOf (z p1)) (h2.R o2) (by omega) (by omega)
      refine Tc_e e3 (Tc_some ⟨o1.tr (o2.Q.tr o3.Q), Or.inl ⟨rfl, p1 + 1, _, S1, by omega, by omega, ⟨r2.S o3, c3, ?_, ?_, sgn_cg h5 (o2.Q.tr o3.Q)⟩, fun o ho => hO o (Out.lett lt ho)⟩⟩)
      · dsimp only; rw [o3.2, o2.1 25 (by decide), h3]
      · rw [List.length_append]; show C.length + 1 + S1.length ≤ p1 + 1; omega
    · have neg : ∀ x : Int, ¬ ltr x → ixOf x = -1 := fun x hx => by
        unfold ixOf
        rw [if_neg (by omega), if_neg (by omega), if_neg (by omega), if_neg (by omega), if_neg (by omega), if_neg (by omega), if_neg (by omega), if_neg (by omega)]
      have nl : ¬ ltr r := by unfold sq at hs; omega
      have bad : Out z L true p C S (.inl p1) := hO _ (Out.bad n1 n2 d lt)
      unfold ru_readThing_j42
      refine Tc_i (fun q => ?_) (fun q => ?_)
      · rw [neg _ (by unfold zx16; rw [Int.emod_eq_of_lt q (by omega)]; exact nl)]
        exact Tc_f (by decide) (Tc_some ⟨o1, Or.inr ⟨rfl, p1, h1, bad⟩⟩)
      · exact Tc_f (by decide) (Tc_some ⟨o1, Or.inr ⟨rfl, p1, h1, bad⟩⟩)
theorem brk_le : ∀ S : List Int, brk S ≤ S.length := by
  intro S
  induction S with
  | nil => exact Nat.le_refl _
  | cons o S ih =>
    show (if o = 40 then 1 else 0) + brk S ≤ S.length + 1
    split <;> omega
/-- a bracket closed -/
theorem close1 (hz : ∀ i, 40 ≤ i → z i = -1) {p : Nat} {C S : List Int} {M : MEM} (h : st z L p C S M) (b : 0 < brk S) (e : z p = 41) :
    ∃ (C' S' : List Int) (M1 M2 M3 : MEM) (x : Int), tx_takes 41 M = some (1, M1) ∧ ru_unwind 25 1 M1 = some M2 ∧ ru_pop 25 M2 = some (x, M3) ∧ p < 40 ∧
      st z L (p + 1) C' S' (up2 M3 25 5 (wr (M3 25 5 - 1))) ∧ ofQ M (up2 M3 25 5 (wr (M3 25 5 - 1))) ∧ ∀ o, Out z L false (p + 1) C' S' o → Out z L false p C S o := by
  obtain ⟨h1, h2, h3, h4, h5⟩ := h
  have hp' : p < 40 := lt40 hz (by omega)
  obtain ⟨M1, e1, r1, o1⟩ := takes_y h1 (c := 41) (by omega) (by omega) e
  obtain ⟨M2, e2, c2, o2⟩ := unwind_s (l := 1) (by decide) (h2.R o1)
  have bu := brk_unw (l := 1) (by decide) S C
  have lu := unw_len (l := 1) S C
  have bl := brk_le S
  have fin : ∀ o, Out z L false (p + 1) (unw 1 S C).1 (unw 1 S C).2.tail o → Out z L false p C S o := fun o ho => Out.cls b e ho
  cases hu : (unw 1 S C).2 with
  | nil => rw [hu] at bu; exact absurd bu (by show ¬ 0 = brk S; omega)
  | cons x S' =>
    rw [hu] at c2 bu lu fin
    obtain ⟨x1, x2⟩ := unw_hd S C hu
    have x40 : x = 40 := by
      have := h2.2.2.2.2.2.1 x x2
      have := bnd_cases x
      unfold okO at *
      omega
    subst x40
    obtain ⟨M3, e3, c3, o3⟩ := pop_s c2
    have bt : brk (40 :: S') = 1 + brk S' := by show (if (40 : Int) = 40 then 1 else 0) + brk S' = _; rw [if_pos rfl]
    have e25 : M3 25 5 = (brk S : Int) := by rw [o3.2, o2.2, o1.1 25 (by decide), h3]
    refine ⟨(unw 1 S C).1, S', M1, M2, M3, 40, e1, e2, e3, hp', ?_⟩
    rw [e25, wr_i (by omega) (by omega)]
    have o4 : ofQ M3 (up2 M3 25 5 ((brk S : Int) - 1)) := ⟨fun c _ x _ _ => up2_ne x, fun k _ => rd_a (by decide)⟩
    refine ⟨⟨((r1.S o2).S o3).off (up2_ne (by decide)) (up2_ne (by decide)), c3.cg (rd_k (by decide)) (rd_k (by decide)) (up2_ne (by decide)) (up2_ne (by decide)), ?_, ?_, sgn_cg h5 (o1.Q.tr (o2.Q.tr (o3.Q.tr o4)))⟩, o1.Q.tr (o2.Q.tr (o3.Q.tr o4)), fin⟩
    · rw [rd_same]; omega
    · rw [List.length_cons] at lu; omega
def clR (z : Nat → Int) (L p : Nat) (C S : List Int) (M M' : MEM) : Prop := ofQ M M' ∧ ∃ p' C' S', p ≤ p' ∧ p' ≤ 40 ∧ st z L p' C' S' M' ∧ ¬ (0 < brk S' ∧ z p' = 41) ∧ ∀ o, Out z L false p' C' S' o → Out z L false p C S o
theorem close_loop (hz : ∀ i, 40 ≤ i → z i = -1) : ∀ (k p n : Nat) (C S : List Int) (M : MEM), 40 - p ≤ k → k < n → p ≤ 40 → st z L p C S M → Tc (iter (fun s => ru_closeBrackets_b0 25 s) n M) (clR z L p C S M) := by
  intro k
  induction k with
  | zero =>
    intro p n C S M hk hn hp h
    obtain ⟨n, rfl⟩ : ∃ m, n = m + 1 := ⟨n - 1, by omega⟩
    have hm := hz p (by omega)
    refine ⟨M, ?_, ofQ.rf, p, C, S, Nat.le_refl _, hp, h, fun y => by omega, fun o ho => ho⟩
    show (ru_closeBrackets_b0 25 M).bind _ = _
    unfold ru_closeBrackets_b0
    by_cases b : M 25 5 ≤ 0
    · rw [if_pos b]; rfl
    · rw [if_neg b, takes_n h.1 (c := 41) (by omega) (by omega) (by omega), Option.bind_some]
      dsimp only
      rw [if_pos rfl]
      rfl
  | succ k ih =>
    intro p n C S M hk hn hp h
    obtain ⟨n, rfl⟩ : ∃ m, n = m + 1 := ⟨n - 1, by omega⟩
    by_cases b : 0 < brk S
    · by_cases e : z p = 41
      · obtain ⟨C', S', M1, M2, M3, x, e1, e2, e3, hp', hs, ho, hO⟩ := close1 hz h b e
        obtain ⟨r, er, r1, p', C2, S2, r2, r3, r4, r5, r6⟩ := ih (p + 1) n C' S' _ (by omega) (by omega) (by omega) hs
        refine ⟨r, ?_, ho.tr r1, p', C2, S2, by omega, r3, r4, r5, fun o g => hO o (r6 o g)⟩
        rw [← er]
        show (ru_closeBrackets_b0 25 M).bind _ = _
        unfold ru_closeBrackets_b0
        rw [if_neg (by rw [h.2.2.1]; omega), e1, Option.bind_some]
        dsimp only
        rw [if_neg (by decide), e2, Option.bind_some, e3, Option.bind_some, Option.bind_some]
        rfl
      · refine ⟨M, ?_, ofQ.rf, p, C, S, Nat.le_refl _, hp, h, fun y => e y.2, fun o ho => ho⟩
        show (ru_closeBrackets_b0 25 M).bind _ = _
        unfold ru_closeBrackets_b0
        rw [if_neg (by rw [h.2.2.1]; omega), takes_n h.1 (c := 41) (by omega) (by omega) e, Option.bind_some]
        dsimp only
        rw [if_pos rfl]
        rfl
    · refine ⟨M, ?_, ofQ.rf, p, C, S, Nat.le_refl _, hp, h, fun y => b y.1, fun o ho => ho⟩
      show (ru_closeBrackets_b0 25 M).bind _ = _
      unfold ru_closeBrackets_b0
      rw [if_pos (by rw [h.2.2.1]; omega)]
      rfl
theorem close_s (hz : ∀ i, 40 ≤ i → z i = -1) {p : Nat} {C S : List Int} {M : MEM} (h : st z L p C S M) (hp : p ≤ 40) : Tc (ru_closeBrackets 25 M) (clR z L p C S M) := by
  unfold ru_closeBrackets
  by_cases b : 0 < brk S
  · refine Tc_f (by rw [h.2.2.1]; omega) ?_
    by_cases e : z p = 41
    · obtain ⟨C', S', M1, M2, M3, x, e1, e2, e3, hp', hs, ho, hO⟩ := close1 hz h b e
      refine Tc_e e1 (Tc_f (by show ¬ (1 : Int) = 0; decide) (Tc_e e2 (Tc_e e3 (Tc_u ?_))))
      obtain ⟨r, er, r1, p', C2, S2, r2, r3, r4, r5, r6⟩ := close_loop hz 40 (p + 1) FU C' S' _ (by omega) (by unfold FU; omega) (by omega) hs
      exact Tc_e er (Tc_some ⟨ho.tr r1, p', C2, S2, by omega, r3, r4, r5, fun o g => hO o (r6 o g)⟩)
    · refine Tc_e (takes_n h.1 (c := 41) (by omega) (by omega) e) (Tc_t rfl (Tc_some ⟨ofQ.rf, p, C, S, Nat.le_refl _, hp, h, fun y => e y.2, fun o ho => ho⟩))
  · exact Tc_t (by rw [h.2.2.1]; omega) (Tc_some ⟨ofQ.rf, p, C, S, Nat.le_refl _, hp, h, fun y => b y.1, fun o ho => ho⟩)
/-- an operator -/
theorem operator_s (hz : ∀ i, 40 ≤ i → z i = -1) {p : Nat} {C S : List Int} {M : MEM} (h : st z L p C S M) (hp : p ≤ 40) (n41 : ¬ (0 < brk S ∧ z p = 41)) (pL : p ≠ L) :
    Tc (ru_readOperator 25 M) (fun r => ofQ M r.2 ∧ ((r.1 = 1 ∧ p < 40 ∧ ∃ C' S', st z L (p + 1) C' S' r.2 ∧ ∀ o, Out z L true (p + 1) C' S' o → Out z L false p C S o) ∨ (r.1 = 0 ∧ rdC z L p r.2 ∧ Out z L false p C S (.inl p)))) := by
  obtain ⟨h1, h2, h3, h4, h5⟩ := h
  obtain ⟨r, er, hs, rv⟩ := h1.next
  have r255 : r ≤ 255 := by
    rw [rv]
    split
    · exact h5 p ‹_›
    · decide
  have bc := bnd_cases r
  unfold ru_readOperator
  refine Tc_e er ?_
  by_cases op : arO (z p) ∨ cmO (z p)
  · have er2 : r = z p := by unfold sq at hs; omega
    have hp' : p < 40 := lt40 hz (by omega)
    rw [er2]
    have bcz := bnd_cases (z p)
    refine Tc_t (by omega) ?_
    obtain ⟨M2, e2, c2, o2⟩ := unwind_s (l := max 2 (ru_binding (z p))) (by omega) h2
    have lu := unw_len (l := max 2 (ru_binding (z p))) S C
    have bu := brk_unw (l := max 2 (ru_binding (z p))) (by omega) S C
    refine Tc_e e2 ?_
    have tail : ¬ (cmO (z p) ∧ topB (unw 2 S C).2 = 1) → Tc (ru_readOperator_j41 25 (z p) M2) (fun r => ofQ M r.2 ∧ ((r.1 = 1 ∧ p < 40 ∧ ∃ C' S', st z L (p + 1) C' S' r.2 ∧ ∀ o, Out z L true (p + 1) C' S' o → Out z L false p C S o) ∨ (r.1 = 0 ∧ rdC z L p r.2 ∧ Out z L false p C S (.inl p)))) := fun nt => by
      unfold ru_readOperator_j41
      obtain ⟨M3, e3, c3, o3⟩ := push_s (x := z p) c2 (by omega) (by unfold okO; omega)
      have r3 : rdC z L p M3 := (h1.S o2).S o3
      obtain ⟨M4, e4, r4, o4⟩ := takes_y r3 (c := z p) (by omega) (by omega) rfl
      refine Tc_e e3 (Tc_e e4 (Tc_some ⟨o2.Q.tr (o3.Q.tr o4.Q), Or.inl ⟨rfl, hp', _, _, ⟨r4, c3.R o4, ?_, ?_, sgn_cg h5 (o2.Q.tr (o3.Q.tr o4.Q))⟩, fun o ho => Out.op pL op nt ho⟩⟩))
      · dsimp only
        rw [o4.1 25 (by decide), o3.2, o2.2, h3]
        show _ = (((if z p = 40 then 1 else 0) + brk (unw (max 2 (ru_binding (z p))) S C).2 : Nat) : Int)
        rw [if_neg (by omega), bu]; omega
      · rw [List.length_cons]; omega
    by_cases cm : cmO (z p)
    · have b1 : ru_binding (z p) = 1 := by omega
      have m2 : max 2 (ru_binding (z p)) = 2 := by rw [b1]; decide
      refine Tc_t b1 (Tc_e (wait_s c2) ?_)
      rw [m2]
      by_cases tp : topB (unw 2 S C).2 = 1
      · exact Tc_t tp (Tc_some ⟨o2.Q, Or.inr ⟨rfl, h1.S o2, Out.two pL cm tp⟩⟩)
      · exact Tc_f tp (tail (fun y => tp y.2))
    · refine Tc_f (by omega) (tail (fun y => cm y.1))
  · refine Tc_f (by unfold sq at hs; omega) (Tc_some ⟨ofQ.rf, Or.inr ⟨rfl, h1, Out.non n41 pL op⟩⟩)
end
