theorem combP_47 (x y : Int) : combP 47 x y = if y = 0 then 0 else wr (Int.tdiv x y) := by
  unfold combP
  rw [if_neg (by decide), if_neg (by decide), if_neg (by decide), if_pos rfl]
theorem j67_eq (rec : Nat → Int → MEM → Option (Int × MEM)) (x : Int) (M : MEM) : mo_thing_j67 rec x M = if mo_in x 48 57 = 0 then (if ltr x then mo_thing_j142 rec x M else (mo_fault (M 278 17) M).bind fun M38 => some (0, M38)) else (mo_number 3 M).bind fun p => some (p.1, p.2) := by
  unfold mo_thing_j67
  by_cases h : mo_in x 48 57 = 0
  · rw [if_pos h, if_pos h]
    by_cases a1 : x = 104
    · rw [if_pos a1, if_pos (by omega)]
    rw [if_neg a1]
    by_cases a2 : x = 112
    · rw [if_pos a2, if_pos (by omega)]
    rw [if_neg a2]
    by_cases a3 : x = 116
    · rw [if_pos a3, if_pos (by omega)]
    rw [if_neg a3]
    by_cases a4 : x = 102
    · rw [if_pos a4, if_pos (by omega)]
    rw [if_neg a4]
    by_cases a5 : x = 99
    · rw [if_pos a5, if_pos (by omega)]
    rw [if_neg a5]
    by_cases a6 : x = 109
    · rw [if_pos a6, if_pos (by omega)]
    rw [if_neg a6]
    by_cases a7 : x = 107
    · rw [if_pos a7, if_pos (by omega)]
    rw [if_neg a7]
    by_cases a8 : x = 105
    · rw [if_pos a8, if_pos (by omega)]
    rw [if_neg a8, if_neg (by omega)]
  · rw [if_neg h, if_neg h]
theorem ix_ltr {x : Int} (h : ltr x) : 0 ≤ ixOf x ∧ ixOf x < 8 := by
  rcases h with h | h | h | h | h | h | h | h <;> rw [h] <;> decide
theorem acc_same {z : Nat → Int} {L d p0 p : Nat} {c : List Int} (h : ∀ C S : List Int, brk S = d → ∀ o, Out z L false p (C ++ c) S o → Out z L true p0 C S o) : accT z L 3 d p0 (limT 3) p c := fun C S _ hd => ⟨C ++ c, S, fun _ _ _ => rfl, fun y => absurd y (by decide), fun o ho => h C S hd o ho⟩
theorem nx3 {z : Nat → Int} {p : Nat} : nxT z 3 p := ⟨fun y => absurd y (by decide), fun y => absurd y (by decide)⟩
theorem pre3 {S : List Int} : preT 3 S := fun y => absurd y (by decide)
theorem lt40 {z : Nat → Int} {p : Nat} (hz : ∀ i, 40 ≤ i → z i = -1) (h : z p ≠ -1) : p < 40 := by
  rcases Nat.lt_or_ge p 40 with y | y
  · exact y
  · exact absurd (hz p y) h
theorem bnd_40 : ru_binding 40 = 0 := by unfold ru_binding; decide
theorem bnd_256 : ru_binding 256 = 4 := by unfold ru_binding; decide
section
variable {t : Nat} {z : Nat → Int} {L : Nat} {g : Nat → Int} {M0 : MEM}
theorem j67_spec (hz : ∀ i, 40 ≤ i → z i = -1) (rec : Nat → Int → MEM → Option (Int × MEM)) (HL : ∀ M p x, ofM M0 M → rdT t z L p M → ltr x → mo_thing_j142 rec x M = some (g (ixOf x).toNat, up2 M 278 17 (wr (M 278 17 + 1)))) {d p : Nat} {M : MEM} {r : Int} (hp : p ≤ 40) (hM : ofM M0 M) (h : rdT t z L p M) (hs : sq r (z p)) (n1 : z p ≠ 45) (n2 : ¬ (z p = 40 ∧ d < 4)) :
    Tc (mo_thing_j67 rec r M) (recR t z L g 3 d p M0) := by
  rw [j67_eq]
  by_cases dd : dg (z p)
  · refine Tc_f (by rw [moIn_y (by unfold sq at hs; omega)]; decide) ?_
    obtain ⟨M1, e1, h1, o1⟩ := numT_y (k := 2) h (by omega) dd
    refine Tc_e e1 (Tc_some ⟨hM.tr o1, Or.inr ⟨_, [(num z 3 p 0).2], ?_, num_40 hz 3 p 0 hp, h1, goodV_num ?_, nx3, acc_same (fun C S _ o ho => Out.dig dd ho)⟩⟩)
    · have := (num_bd z 2 (p + 1) (z p - 48) (by omega)).1
      have e : num z 3 p 0 = num z 2 (p + 1) (z p - 48) := num_1 z 2 p dd
      show p < (num z 3 p 0).1
      rw [e]; omega
    · have := (num_le z 3 p 0 (by omega)).2.2.2 rfl
      omega
  · refine Tc_t (moIn_n (by unfold sq at hs; omega)) ?_
    by_cases lt : ltr (z p)
    · have er : r = z p := by unfold sq at hs; omega
      rw [er]
      refine Tc_t lt ?_
      have hp4 : p < 40 := lt40 hz (by omega)
      rw [HL M p _ hM h lt, h.2.2.2.1, wr_i (x := (p : Int) + 1) (by omega) (by omega)]
      have h1 := h.mv (by omega)
      have o1 : ofM M (up2 M 278 17 ((p + 1 : Nat) : Int)) := ofM.up17
      rw [show ((p + 1 : Nat) : Int) = (p : Int) + 1 by omega] at h1 o1
      obtain ⟨i1, i2⟩ := ix_ltr lt
      exact Tc_some ⟨hM.tr o1, Or.inr ⟨p + 1, [1000 + ixOf (z p)], by omega, by omega, h1, goodV_let i1 i2, nx3, acc_same (fun C S _ o ho => Out.lett lt ho)⟩⟩
    · refine Tc_f (by unfold sq at hs; omega) ?_
      obtain ⟨M1, e1, f1, o1, -⟩ := h.fault
      exact Tc_e e1 (Tc_some ⟨hM.tr o1, Or.inl ⟨p, hp, f1, fun C S _ hd => Out.bad n1 (by rw [hd]; exact n2) dd lt⟩⟩)
theorem rec_spec (hz : ∀ i, 40 ≤ i → z i = -1) (hzL : z L = -1) (HL : ∀ rec M p x, ofM M0 M → rdT t z L p M → ltr x → mo_thing_j142 rec x M = some (g (ixOf x).toNat, up2 M 278 17 (wr (M 278 17 + 1)))) :
    ∀ (n tag d p : Nat) (M : MEM), tag ≤ 3 → d ≤ 4 → p ≤ 40 → 4 * (4 - d) + (4 - tag) + (40 - p) ≤ n → ofM M0 M → rdT t z L p M → Tc (mo_rec n tag (d : Int) M) (recR t z L g tag d p M0) := by
  intro n
  induction n with
  | zero => intro tag d p M h1 h2 h3 h4; omega
  | succ n ih =>
    intro tag d p M ht hd hp hm hM h
    have ht4 : tag = 3 ∨ tag = 2 ∨ tag = 1 ∨ tag = 0 := by omega
    rcases ht4 with rfl | rfl | rfl | rfl
    · -- a thing
      show Tc (mo_thing_o (mo_rec n) (d : Int) M) _
      unfold mo_thing_o
      by_cases a : z p = 45
      · obtain ⟨M1, e1, h1, o1⟩ := passT_y h (c := 45) (by omega) (by omega) a
        have hp4 : p < 40 := lt40 hz (by omega)
        refine Tc_e e1 ?_
        dsimp only
        refine Tc_f (by decide) ?_
        obtain ⟨⟨v, M2⟩, e2, o2, out⟩ := ih 3 d (p + 1) M1 (by omega) hd (by omega) (by omega) (hM.tr o1) h1
        dsimp only at o2 out
        refine Tc_e e2 (Tc_some ⟨o2, ?_⟩)
        have b2 : ∀ S, brk (256 :: S) = brk S := fun S => by show (if (256 : Int) = 40 then 1 else 0) + brk S = _; rw [if_neg (by decide)]; omega
        rcases out with ⟨f, f40, ff, fo⟩ | ⟨p2, c2, g1, g2, g3, g4, g5, g6⟩
        · exact Or.inl ⟨f, f40, ff, fun C S _ hS => Out.neg a (fo C (256 :: S) pre3 (by rw [b2]; exact hS))⟩
        · refine Or.inr ⟨p2, c2 ++ [2256], by omega, g2, g3, goodV_neg g4, nx3, fun C S _ hS => ?_⟩
          obtain ⟨C2, S2, a1, a2, a3⟩ := g6 C (256 :: S) pre3 (by rw [b2]; exact hS)
          refine ⟨C2, S2, fun l l1 l2 => ?_, fun y => absurd y (by decide), fun o ho => Out.neg a (a3 o ho)⟩
          rw [a1 l l1 l2, unw_y (by rw [bnd_256]; have : l ≤ 3 := l2; omega)]
          simp only [List.append_assoc]
          rfl
      · rw [passT_n h (c := 45) (by omega) (by omega) a, Option.bind_some]
        dsimp only
        obtain ⟨r, er, hs⟩ := h.here
        refine Tc_t rfl (Tc_f (by rw [h.fine]; decide) (Tc_e er ?_))
        by_cases b : z p = 40
        · have e40 : r = 40 := by unfold sq at hs; omega
          refine Tc_t e40 ?_
          by_cases d4 : d < 4
          · have hp4 : p < 40 := lt40 hz (by omega)
            refine Tc_f (by omega) (Tc_u ?_)
            have h1 := h.mv (by omega)
            have o1 : ofM M (up2 M 278 17 ((p + 1 : Nat) : Int)) := ofM.up17
            rw [h.2.2.2.1, wr_i (x := (p : Int) + 1) (by omega) (by omega), wr_i (x := (d : Int) + 1) (by omega) (by omega)]
            rw [show ((p + 1 : Nat) : Int) = (p : Int) + 1 by omega] at h1 o1
            obtain ⟨⟨v, M2⟩, e2, o2, out⟩ := ih 0 (d + 1) (p + 1) _ (by omega) (by omega) (by omega) (by omega) (hM.tr o1) h1
            rw [show ((d + 1 : Nat) : Int) = (d : Int) + 1 by omega] at e2
            dsimp only at o2 out
            refine Tc_e e2 ?_
            dsimp only
            have b2 : ∀ S, brk S = d → brk (40 :: S) = d + 1 := fun S hS => by show (if (40 : Int) = 40 then 1 else 0) + brk S = _; rw [if_pos rfl]; omega
            have p0 : ∀ S, preT 0 (40 :: S) := fun S _ => by show ru_binding 40 ≤ _; rw [bnd_40]; decide
            rcases out with ⟨f, f40, ff, fo⟩ | ⟨p2, c2, g1, g2, g3, g4, g5, g6⟩
            · rw [need_f ff, Option.bind_some]
              exact Tc_some ⟨o2, Or.inl ⟨f, f40, ff, fun C S _ hS => Out.opn b (by omega) (fo C (40 :: S) (p0 S) (b2 S hS))⟩⟩
            · have eu : ∀ (C S C2 S2 : List Int), (∀ l, 1 ≤ l → l ≤ limT 0 → unw l S2 C2 = unw l (40 :: S) (C ++ c2)) → unw 1 S2 C2 = (C ++ c2, 40 :: S) := fun C S C2 S2 a1 => by
                rw [a1 1 (by decide) (by decide), unw_n (by rw [bnd_40]; decide)]
              by_cases e41 : z p2 = 41
              · have hp2 : p2 < 40 := lt40 hz (by omega)
                obtain ⟨M5, e5, h5, o5⟩ := needT_y g3 (c := 41) (by omega) (by omega) e41
                refine Tc_e e5 (Tc_some ⟨o2.tr o5, Or.inr ⟨p2 + 1, c2, by omega, by omega, h5, g4, nx3, acc_same (fun C S hS o ho => ?_)⟩⟩)
                obtain ⟨C2, S2, a1, a2, a3⟩ := g6 C (40 :: S) (p0 S) (b2 S hS)
                have e := eu C S C2 S2 a1
                have eb := brk_unw (l := 1) (by decide) S2 C2
                rw [e] at eb
                have := b2 S hS
                refine Out.opn b (by omega) (a3 o (Out.cls (by dsimp only at eb; omega) e41 ?_))
                rw [e]
                exact ho
              · obtain ⟨M5, e5, f5, o5⟩ := needT_n g3 (c := 41) (by omega) (by omega) e41
                refine Tc_e e5 (Tc_some ⟨o2.tr o5, Or.inl ⟨p2, g2, f5, fun C S _ hS => ?_⟩⟩)
                obtain ⟨C2, S2, a1, a2, a3⟩ := g6 C (40 :: S) (p0 S) (b2 S hS)
                have e := eu C S C2 S2 a1
                have eb := brk_unw (l := 1) (by decide) S2 C2
                rw [e] at eb
                have := b2 S hS
                refine Out.opn b (by omega) (a3 _ ?_)
                by_cases eL : p2 = L
                · exact Out.opb (fun y => e41 y.2) eL (by dsimp only at eb; omega)
                · by_cases cm : cmO (z p2)
                  · exact Out.two eL cm (a2 rfl cm)
                  · have n1 := g5.1 (by decide)
                    have n2 := g5.2 (by decide)
                    exact Out.non (fun y => e41 y.2) eL (by
                      rintro (y | y)
                      · rcases y with y | y | y | y
                        · exact n1.1 y
                        · exact n1.2 y
                        · exact n2.1 y
                        · exact n2.2 y
                      · exact cm y)
          · refine Tc_t (by omega) ?_
            exact j67_spec hz (mo_rec n) (HL _) hp hM h hs a (fun y => d4 y.2)
        · refine Tc_f (by unfold sq at hs; omega) ?_
          exact j67_spec hz (mo_rec n) (HL _) hp hM h hs a (fun y => b y.1)
    · -- a product
      show Tc (mo_product_o (mo_rec n) (d : Int) M) _
      unfold mo_product_o
      obtain ⟨⟨v, M2⟩, e2, o2, out⟩ := ih 3 d p M (by omega) hd hp (by omega) hM h
      dsimp only at o2 out
      refine Tc_e e2 ?_
      dsimp only
      have B1 : ∀ (v : Int) (M : MEM) (f : Nat), fltM f M → (fun s : Int × MEM => mo_product_b6 (mo_rec n) (d : Int) s.1 s.2) (v, M) = some (.inr (v, M)) := fun v M f hf => by
        dsimp only
        unfold mo_product_b6
        rw [hf.fine, if_pos rfl]
      rcases out with ⟨f, f40, ff, fo⟩ | ⟨p2, c2, g1, g2, g3, g4, g5, g6⟩
      · rw [iter_exit (B1 v M2 f ff), Option.bind_some]
        exact Tc_some ⟨o2, Or.inl ⟨f, f40, ff, fun C S _ hS => fo C S pre3 hS⟩⟩
      · have hl := opLoop (t := t) (z := z) (L := L) (g := g) (M0 := M0) (d := d) (p0 := p) (tag := 2) (sub := 3) (b := 3) (ops := fun x => x = 42 ∨ x = 47) (body := fun s => mo_product_b6 (mo_rec n) (d : Int) s.1 s.2) (rec := fun M => mo_rec n 3 (d : Int) M) hz hzL (by decide) (by decide) rfl (by decide) rfl
          (fun x hx => by rcases hx with rfl | rfl <;> refine ⟨by decide, ?_⟩ <;> unfold ru_binding <;> decide) (fun x hx => ⟨fun _ => ⟨fun y => hx (Or.inl y), fun y => hx (Or.inr y)⟩, fun y => absurd y (by decide)⟩) B1
          (fun v M q hq hn => by
            obtain ⟨r, er, hs⟩ := hq.here
            dsimp only
            unfold mo_product_b6
            rw [hq.fine, if_neg (by decide), er, Option.bind_some, if_neg (by unfold sq at hs; omega), Option.bind_some, if_neg (by unfold sq at hs; omega)])
          (fun v M q hq ho => by
            obtain ⟨r, er, hs⟩ := hq.here
            have hq17 := hq.2.2.2.1
            have hq80 := hq.2.2.2.2.2.1
            have er2 : r = z q := by unfold sq at hs; omega
            dsimp only
            unfold mo_product_b6 mo_product_j31_6 mo_product_j45_6 mo_product_j87_6
            rw [hq.fine, if_neg (by decide), er, Option.bind_some, Option.bind_some, Option.bind_some, er2, hq17, wr_i (x := (q : Int) + 1) (by omega) (by omega), show (q : Int) + 1 = ((q + 1 : Nat) : Int) by omega]
            by_cases e : z q = 42
            · rw [if_pos e, if_pos e, e]
              congr 1
            · have e47 : z q = 47 := ho.resolve_left e
              rw [if_neg e, Option.bind_some, if_pos e47, if_neg e, Option.bind_some, e47]
              congr 1; funext x
              rw [if_pos rfl, combP_47]
              by_cases x0 : x.1 = 0
              · rw [if_pos x0, if_pos x0]
              · rw [if_neg x0, if_neg x0, if_neg x0])
          (fun M q hM hq hpq hr => ih 3 d q M (by omega) hd hq (by omega) hM hr) 40 p2 FU v M2 c2 (by omega) (by unfold FU; omega) g1 g2 o2 g3 g4 g5
          (fun C S hS hb => by
            obtain ⟨C', S', a1, a2, a3⟩ := g6 C S pre3 hb
            exact ⟨C', S', a1, fun y => absurd y (by decide), a3⟩)
        obtain ⟨r, er, hr⟩ := hl
        exact Tc_e er (Tc_some hr)
    · -- a sum
      show Tc (mo_sum_o (mo_rec n) (d : Int) M) _
      unfold mo_sum_o
      obtain ⟨⟨v, M2⟩, e2, o2, out⟩ := ih 2 d p M (by omega) hd hp (by omega) hM h
      dsimp only at o2 out
      refine Tc_e e2 ?_
      dsimp only
      have B1 : ∀ (v : Int) (M : MEM) (f : Nat), fltM f M → (fun s : Int × MEM => mo_sum_b6 (mo_rec n) (d : Int) s.1 s.2) (v, M) = some (.inr (v, M)) := fun v M f hf => by
        dsimp only
        unfold mo_sum_b6
        rw [hf.fine, if_pos rfl]
      have pre12 : ∀ S, preT 1 S → preT 2 S := fun S hS _ => by have := hS (by decide); omega
      rcases out with ⟨f, f40, ff, fo⟩ | ⟨p2, c2, g1, g2, g3, g4, g5, g6⟩
      · rw [iter_exit (B1 v M2 f ff), Option.bind_some]
        exact Tc_some ⟨o2, Or.inl ⟨f, f40, ff, fun C S hS hb => fo C S (pre12 S hS) hb⟩⟩
      · have hl := opLoop (t := t) (z := z) (L := L) (g := g) (M0 := M0) (d := d) (p0 := p) (tag := 1) (sub := 2) (b := 2) (ops := fun x => x = 43 ∨ x = 45) (body := fun s => mo_sum_b6 (mo_rec n) (d : Int) s.1 s.2) (rec := fun M => mo_rec n 2 (d : Int) M) hz hzL (by decide) (by decide) rfl (by decide) rfl
          (fun x hx => by rcases hx with rfl | rfl <;> refine ⟨by decide, ?_⟩ <;> unfold ru_binding <;> decide) (fun x hx => ⟨fun y => absurd y (by decide), fun _ => ⟨fun y => hx (Or.inl y), fun y => hx (Or.inr y)⟩⟩) B1
          (fun v M q hq hn => by
            obtain ⟨r, er, hs⟩ := hq.here
            dsimp only
            unfold mo_sum_b6
            rw [hq.fine, if_neg (by decide), er, Option.bind_some, if_neg (by unfold sq at hs; omega), Option.bind_some, if_neg (by unfold sq at hs; omega)])
          (fun v M q hq ho => by
            obtain ⟨r, er, hs⟩ := hq.here
            have hq17 := hq.2.2.2.1
            have hq80 := hq.2.2.2.2.2.1
            have er2 : r = z q := by unfold sq at hs; omega
            dsimp only
            unfold mo_sum_b6 mo_sum_j31_6 mo_sum_j45_6 mo_sum_j78_6
            rw [hq.fine, if_neg (by decide), er, Option.bind_some, Option.bind_some, Option.bind_some, er2, hq17, wr_i (x := (q : Int) + 1) (by omega) (by omega), show (q : Int) + 1 = ((q + 1 : Nat) : Int) by omega]
            by_cases e : z q = 43
            · rw [if_pos e, if_pos e, e]
              congr 1
            · have e45 : z q = 45 := ho.resolve_left e
              rw [if_neg e, Option.bind_some, if_pos e45, if_neg e, Option.bind_some, e45]
              congr 1)
          (fun M q hM hq hpq hr => ih 2 d q M (by omega) hd hq (by omega) hM hr) 40 p2 FU v M2 c2 (by omega) (by unfold FU; omega) g1 g2 o2 g3 g4 g5
          (fun C S hS hb => by
            obtain ⟨C', S', a1, a2, a3⟩ := g6 C S (pre12 S hS) hb
            exact ⟨C', S', fun l l1 l2 => a1 l l1 (by show l ≤ 3; omega), fun y => absurd y (by decide), a3⟩)
        obtain ⟨r, er, hr⟩ := hl
        exact Tc_e er (Tc_some hr)
    · -- two of them held against one another
      show Tc (mo_held_o (mo_rec n) (d : Int) M) _
      unfold mo_held_o
      obtain ⟨⟨v, M2⟩, e2, o2, out⟩ := ih 1 d p M (by omega) hd hp (by omega) hM h
      dsimp only at o2 out
      refine Tc_e e2 ?_
      dsimp only
      have pre01 : ∀ S, preT 0 S → preT 1 S := fun S hS _ => by have := hS (by decide); omega
      rcases out with ⟨f, f40, ff, fo⟩ | ⟨p2, c2, g1, g2, g3, g4, g5, g6⟩
      · rw [passes_f ff, Option.bind_some]
        refine Tc_t rfl ?_
        dsimp only
        rw [passes_f ff, Option.bind_some]
        refine Tc_t rfl ?_
        dsimp only
        rw [passes_f ff, Option.bind_some]
        exact Tc_t rfl (Tc_some ⟨o2, Or.inl ⟨f, f40, ff, fun C S hS hb => fo C S (pre01 S hS) hb⟩⟩)
      · have cmp : ∀ (x : Int) (M3 : MEM), cmO x → z p2 = x → rdT t z L (p2 + 1) M3 → ofM M2 M3 → ∃ w M4, mo_rec n 1 (d : Int) M3 = some (w, M4) ∧ recR t z L g 0 d p M0 (combP x v w, M4) := fun x M3 cm ex h3 o3 => by
          have bx : ru_binding x = 1 := by rcases cm with h | h | h <;> rw [h] <;> unfold ru_binding <;> decide
          have zp : z p2 ≠ -1 := by rw [ex]; rcases cm with h | h | h <;> rw [h] <;> decide
          have x40 : x ≠ 40 := by rcases cm with h | h | h <;> rw [h] <;> decide
          have x8 : 8 ≤ x ∧ x ≠ 256 := by rcases cm with h | h | h <;> rw [h] <;> decide
          have hp2 : p2 < 40 := lt40 hz zp
          have pL : p2 ≠ L := fun e => zp (by rw [e]; exact hzL)
          obtain ⟨⟨w, M4⟩, e4, o4, out⟩ := ih 1 d (p2 + 1) M3 (by omega) hd (by omega) (by omega) (o2.tr o3) h3
          refine ⟨w, M4, e4, o4, ?_⟩
          dsimp only at out
          have take : ∀ C S : List Int, preT 0 S → brk S = d → ∀ o, Out z L true (p2 + 1) (C ++ c2) (x :: S) o → Out z L true p C S o := fun C S hS hb o ho => by
            obtain ⟨C1, S1, a1, a2, a3⟩ := g6 C S (pre01 S hS) hb
            have tS := hS (by decide)
            have eu := a1 2 (by decide) (by decide)
            rw [unw_top (S := S) (C := C ++ c2) (by decide) (by omega)] at eu
            refine a3 o (Out.op pL (Or.inr (by rw [ex]; exact cm)) (fun y => ?_) ?_)
            · have := y.2
              rw [eu] at this
              dsimp only at this
              omega
            · rw [ex, bx, show max 2 (1 : Int) = 2 by decide, eu]
              exact ho
          have brS : ∀ S, brk (x :: S) = brk S := fun S => by
            show (if x = 40 then 1 else 0) + brk S = _
            rw [if_neg x40]; omega
          have preS : ∀ S, preT 1 (x :: S) := fun S _ => by show ru_binding x ≤ _; rw [bx]; decide
          rcases out with ⟨f, f40, ff, fo⟩ | ⟨p3, c3, k1, k2, k3, k4, k5, k6⟩
          · exact Or.inl ⟨f, f40, ff, fun C S hS hb => take C S hS hb _ (fo _ _ (preS S) (by rw [brS]; exact hb))⟩
          · refine Or.inr ⟨p3, c2 ++ c3 ++ [2000 + x], by omega, k2, k3, goodV_op g4 k4 x8.1 x8.2, ⟨fun _ => k5.1 (by decide), fun _ => k5.2 (by decide)⟩, fun C S hS hb => ?_⟩
            obtain ⟨C3, S3, b1, b2, b3⟩ := k6 (C ++ c2) (x :: S) (preS S) (by rw [brS]; exact hb)
            refine ⟨C3, S3, fun l l1 l2 => ?_, fun _ _ => ?_, fun o ho => take C S hS hb o (b3 o ho)⟩
            · have l2' : l ≤ 1 := l2
              rw [b1 l l1 (by show l ≤ 2; omega), unw_y (by omega)]
              simp only [List.append_assoc]
            · rw [b1 2 (by decide) (by decide), unw_n (by rw [bx]; decide)]
              exact bx
        by_cases c60 : z p2 = 60
        · obtain ⟨M3, e3, h3, o3⟩ := passT_y g3 (c := 60) (by omega) (by omega) c60
          refine Tc_e e3 ?_
          dsimp only
          refine Tc_f (by decide) ?_
          obtain ⟨w, M4, e4, hr⟩ := cmp 60 M3 (by decide) c60 h3 o3
          refine Tc_e e4 ?_
          unfold combP at hr
          rw [if_neg (by decide), if_neg (by decide), if_neg (by decide), if_neg (by decide), if_pos rfl] at hr
          by_cases q : w ≤ v
          · rw [if_pos q] at hr; exact Tc_t q (Tc_some hr)
          · rw [if_neg q] at hr; exact Tc_f q (Tc_some hr)
        rw [passT_n g3 (c := 60) (by omega) (by omega) c60, Option.bind_some]
        refine Tc_t rfl ?_
        dsimp only
        by_cases c62 : z p2 = 62
        · obtain ⟨M3, e3, h3, o3⟩ := passT_y g3 (c := 62) (by omega) (by omega) c62
          refine Tc_e e3 ?_
          dsimp only
          refine Tc_f (by decide) ?_
          obtain ⟨w, M4, e4, hr⟩ := cmp 62 M3 (by decide) c62 h3 o3
          refine Tc_e e4 ?_
          unfold combP at hr
          rw [if_neg (by decide), if_neg (by decide), if_neg (by decide), if_neg (by decide), if_neg (by decide), if_pos rfl] at hr
          by_cases q : v ≤ w
          · rw [if_pos q] at hr; exact Tc_t q (Tc_some hr)
          · rw [if_neg q] at hr; exact Tc_f q (Tc_some hr)
        rw [passT_n g3 (c := 62) (by omega) (by omega) c62, Option.bind_some]
        refine Tc_t rfl ?_
        dsimp only
        by_cases c61 : z p2 = 61
        · obtain ⟨M3, e3, h3, o3⟩ := passT_y g3 (c := 61) (by omega) (by omega) c61
          refine Tc_e e3 ?_
          dsimp only
          refine Tc_f (by decide) ?_
          obtain ⟨w, M4, e4, hr⟩ := cmp 61 M3 (by decide) c61 h3 o3
          refine Tc_e e4 ?_
          unfold combP at hr
          rw [if_neg (by decide), if_neg (by decide), if_neg (by decide), if_neg (by decide), if_neg (by decide), if_neg (by decide)] at hr
          by_cases q : v = w
          · rw [if_pos q] at hr; exact Tc_t q (Tc_some hr)
          · rw [if_neg q] at hr; exact Tc_f q (Tc_some hr)
        rw [passT_n g3 (c := 61) (by omega) (by omega) c61, Option.bind_some]
        refine Tc_t rfl (Tc_some ⟨o2, Or.inr ⟨p2, c2, g1, g2, g3, g4, ⟨fun _ => g5.1 (by decide), fun _ => g5.2 (by decide)⟩, fun C S hS hb => ?_⟩⟩)
        obtain ⟨C1, S1, a1, a2, a3⟩ := g6 C S (pre01 S hS) hb
        exact ⟨C1, S1, fun l l1 l2 => a1 l l1 (by have l2' : l ≤ 1 := l2; show l ≤ 2; omega), fun _ y => by omega, a3⟩
end
