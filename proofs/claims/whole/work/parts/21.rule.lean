-- ===== the reference's PACE =====
noncomputable def envM (M : MEM) : EN := (flM M, hrM M, codeV (M 21 3) (M 22))
def emOk (M : MEM) : Prop := (0 ≤ M 278 4 ∧ M 278 4 ≤ 40) ∧ (0 ≤ M 278 7 ∧ M 278 7 ≤ 10) ∧ (0 ≤ M 278 8 ∧ M 278 8 ≤ 2) ∧ howOkM M
/-- what the reference's PACE changes -/
def offP (M M' : MEM) : Prop := (∀ c, c ≠ 278 → M' c = M c) ∧ ∀ k, (k < 14 ∨ 18 < k) → k ≠ 22 → k ≠ 23 → M' 278 k = M 278 k
theorem offP.rf {M : MEM} : offP M M := ⟨fun _ _ => rfl, fun _ _ _ _ => rfl⟩
theorem offP.tr {M M1 M2 : MEM} (h : offP M M1) (g : offP M1 M2) : offP M M2 := ⟨fun c a => (g.1 c a).trans (h.1 c a), fun k a b c => (g.2 k a b c).trans (h.2 k a b c)⟩
theorem rlOk.code {M : MEM} (h : rlOk M) : codeOk (M 21 3) (M 22) := h.1
theorem rlOk.cg {M M' : MEM} (h : ∀ a k, rg a k = 3 → M' a k = M a k) (g : rlOk M) : rlOk M' := by
  have e : M' 22 = M 22 := funext fun k => h 22 k rfl
  have e2 : M' 286 = M 286 := funext fun k => h 286 k rfl
  have e3 : M' 278 21 = M 278 21 := h 278 21 rfl
  have ez : zR M' = zR M := by
    funext i
    unfold zR
    rw [e2, e3]
  unfold rlOk lstAt at *
  rw [ez, h 21 3 rfl, e, e2, e3]
  exact g
theorem letter_eq {a o : Nat} {d n x : Int} {M N : MEM} (ha : a = 279 ∨ a = 292) (he : emOk M) (hod : (o : Int) = 55 * d) (hd0 : 0 ≤ d) (hd3 : d < 3) (hD : okD n (dsM a o M)) (ht : 0 ≤ M a 165) (hx : ltr x)
    (ea : N a = M a) (e1 : N 281 = M 281) (e2 : N 282 = M 282) (e3 : ∀ k, k = 4 ∨ k = 5 ∨ k = 7 ∨ k = 8 → N 278 k = M 278 k) : mo_letter x a d N = some (gvD (envM M) d (M a 165) (dsM a o M) (ixOf x).toNat) := by
  obtain ⟨⟨f1, f2⟩, ⟨c1, c2⟩, ⟨c3, c4⟩, how⟩ := he
  obtain ⟨d1, d2, d3, d4, d5, d6, d7, d8, -⟩ := hD
  have d3' : 0 ≤ M a (o + 1) := d3
  have d4' : M a (o + 1) < n := d4
  have d7' : 0 ≤ M a (o + 2) := d7
  have hlen : lenA a = 166 := by rcases ha with rfl | rfl <;> rfl
  have h165 : 0 ≤ (165 : Int) ∧ (165 : Int) < (lenA a) := by rw [hlen]; decide
  have w0 : wr (55 * d) = (o : Int) := by rw [wr_i (by omega) (by omega)]; omega
  have w1 : wr ((o : Int) + 1) = ((o + 1 : Nat) : Int) := (wr_i (by omega) (by omega)).trans (by omega)
  have w2 : wr ((o : Int) + 2) = ((o + 2 : Nat) : Int) := (wr_i (by omega) (by omega)).trans (by omega)
  have w3 : wr ((o : Int) + 3) = ((o + 3 : Nat) : Int) := (wr_i (by omega) (by omega)).trans (by omega)
  have hN : howOkM N := by
    unfold howOkM at *
    rw [e3 7 (by omega), e3 8 (by omega), e2]
    exact how
  have eh : hrM N = hrM M := by
    unfold hrM hrF
    rw [e3 7 (by omega), e3 8 (by omega), e2]
  have ef : flM N = flM M := by
    unfold flM
    rw [e3 5 (by omega), e3 4 (by omega), e1]
  unfold mo_letter
  rcases hx with h | h | h | h | h | h | h | h
  · subst h
    rw [if_neg (by decide), if_neg (by decide), if_pos rfl, w0, if_pos (by rw [hlen]; omega), toNat_c, ea]
    rfl
  · subst h
    rw [if_neg (by decide), if_neg (by decide), if_neg (by decide), if_neg (by decide), if_neg (by decide), if_pos rfl, w0, w1, if_pos (by rw [hlen]; omega), toNat_c, ea]
    rfl
  · subst h
    have w4 : wr (((o + 3 : Nat) : Int) + M a (o + 1)) = ((o + 3 + (M a (o + 1)).toNat : Nat) : Int) := (wr_i (by omega) (by omega)).trans (by omega)
    rw [if_neg (by decide), if_neg (by decide), if_neg (by decide), if_neg (by decide), if_neg (by decide), if_neg (by decide), if_pos rfl, w0, w1, w3, if_pos (by rw [hlen]; omega), toNat_c, ea, w4, if_pos (by rw [hlen]; omega), toNat_c]
    rfl
  · subst h
    rw [if_neg (by decide), if_pos rfl, if_pos h165, ea, show ((165 : Int)).toNat = 165 from rfl, mo_fliesIn_eq ht (by rw [e3 4 (by omega)]; exact f1) (by rw [e3 4 (by omega)]; exact f2), Option.bind_some, ef]
    rfl
  · subst h
    rw [if_pos rfl, if_pos h165, ea, show ((165 : Int)).toNat = 165 from rfl, mo_hurry_eq (by rw [e3 7 (by omega)]; exact c1) (by rw [e3 7 (by omega)]; exact c2) (by rw [e3 8 (by omega)]; exact c3) (by rw [e3 8 (by omega)]; exact c4) hN, Option.bind_some, eh]
    rfl
  · subst h
    rw [if_neg (by decide), if_neg (by decide), if_neg (by decide), if_neg (by decide), if_pos rfl, if_pos h165, ea]
    rfl
  · subst h
    rw [if_neg (by decide), if_neg (by decide), if_neg (by decide), if_pos rfl, w0, w2, if_pos (by rw [hlen]; omega), toNat_c, ea, Int.tmod_eq_emod_of_nonneg d7']
    rfl
  · subst h
    rw [if_neg (by decide), if_neg (by decide), if_neg (by decide), if_neg (by decide), if_neg (by decide), if_neg (by decide), if_neg (by decide)]
    rfl
theorem mo_pace_eq {a o : Nat} {d n : Int} {M : MEM} (ha : a = 279 ∨ a = 292) (hR : rlOk M) (he : emOk M) (hod : (o : Int) = 55 * d) (hd0 : 0 ≤ d) (hd3 : d < 3) (hD : okD n (dsM a o M)) (ht : 0 ≤ M a 165) : ∃ M', mo_pace a d M = some (paceD (envM M) d (M a 165) (dsM a o M), M') ∧ offP M M' := by
  obtain ⟨k1, k2, k3, k4, k5⟩ := hR
  rcases k5 with ⟨z1, z2⟩ | ⟨z1, c, hO, z2, z3⟩
  · refine ⟨M, ?_, offP.rf⟩
    unfold mo_pace
    rw [if_pos z1]
    show some (1, M) = some (codeV (M 21 3) (M 22) _, M)
    unfold codeV
    rw [if_pos z2]
  · obtain ⟨L, hL⟩ : ∃ L : Nat, M 278 21 = (L : Int) := ⟨(M 278 21).toNat, by omega⟩
    rw [hL, toNat_c] at hO
    unfold mo_pace
    rw [if_neg (by omega)]
    unfold mo_begin
    rw [Option.bind_some, Option.bind_some, Option.bind_some, Option.bind_some, Option.bind_some, Option.bind_some, Option.bind_some, Option.bind_some, hL]
    generalize hM5 : up2 (up2 (up2 (up2 (up2 (up2 (up2 M 278 14 (((286 : Nat) : Int) + 1)) 278 15 (L : Int)) 278 16 40) 278 17 0) 278 18 (-1)) 278 22 ((a : Int) + 1)) 278 23 d = M5
    have off : ∀ c, c ≠ 278 → M5 c = M c := fun c hc => by rw [← hM5, up2_ne hc, up2_ne hc, up2_ne hc, up2_ne hc, up2_ne hc, up2_ne hc, up2_ne hc]
    have offk : ∀ k, k ≠ 14 → k ≠ 15 → k ≠ 16 → k ≠ 17 → k ≠ 18 → k ≠ 22 → k ≠ 23 → M5 278 k = M 278 k := fun k a1 a2 a3 a4 a5 a6 a7 => by rw [← hM5, rd_k a7, rd_k a6, rd_k a5, rd_k a4, rd_k a3, rd_k a2, rd_k a1]
    have r0 : rdT 286 (zR M) L 0 M5 := by
      refine ⟨Or.inr rfl, ?_, ?_, ?_, ?_, by omega, by omega, fun i => ?_⟩
      · rw [← hM5, rd_k (by decide), rd_k (by decide), rd_k (by decide), rd_k (by decide), rd_k (by decide), rd_k (by decide), rd_same]; rfl
      · rw [← hM5, rd_k (by decide), rd_k (by decide), rd_k (by decide), rd_k (by decide), rd_k (by decide), rd_same]
      · rw [← hM5, rd_k (by decide), rd_k (by decide), rd_k (by decide), rd_same]; rfl
      · rw [← hM5, rd_k (by decide), rd_k (by decide), rd_same]
      · have e16 : M5 278 16 = 40 := by rw [← hM5, rd_k (by decide), rd_k (by decide), rd_k (by decide), rd_k (by decide), rd_same]
        rw [e16, off 286 (by decide)]
        unfold zR
        rw [hL]
        refine ⟨fun q => ?_, fun q => if_neg (by omega)⟩
        have := k4 i (by omega)
        by_cases y : 0 ≤ M 286 i
        · rw [if_pos ⟨q.1, y⟩]; exact Or.inl ⟨y, this, rfl⟩
        · rw [if_neg (by omega)]; exact Or.inr ⟨rfl, by omega⟩
    have hz : ∀ i, 40 ≤ i → zR M i = -1 := fun i hi => by unfold zR; rw [if_neg (by omega)]
    have hzL : ∀ i, L ≤ i → zR M i = -1 := fun i hi => by unfold zR; rw [if_neg (by omega)]
    have e22 : M5 278 22 = (a : Int) + 1 := by rw [← hM5, rd_k (by decide), rd_same]
    have e23 : M5 278 23 = d := by rw [← hM5, rd_same]
    have HL : ∀ (rec : Nat → Int → MEM → Option (Int × MEM)) (M' : MEM) (p : Nat) (x : Int), ofM M5 M' → rdT 286 (zR M) L p M' → ltr x → mo_thing_j142 rec x M' = some (gvD (envM M) d (M a 165) (dsM a o M) (ixOf x).toNat, up2 M' 278 17 (wr (M' 278 17 + 1))) := fun rec M' p x o' _ hx => by
      unfold mo_thing_j142
      rw [Option.bind_some]
      have q22 : up2 M' 278 17 (wr (M' 278 17 + 1)) 278 22 = (a : Int) + 1 := by rw [rd_k (by decide), o'.2 22 (by decide) (by decide)]; exact e22
      have q23 : up2 M' 278 17 (wr (M' 278 17 + 1)) 278 23 = d := by rw [rd_k (by decide), o'.2 23 (by decide) (by decide)]; exact e23
      have dr : dref ((a : Int) + 1) = a := by unfold dref; omega
      have ar : 0 < (a : Int) + 1 ∧ isArr 0 (lenA (dref ((a : Int) + 1))) (dref ((a : Int) + 1)) := by
        rw [dr]
        refine ⟨by omega, ?_⟩
        rcases ha with rfl | rfl <;> decide
      rw [q22, q23, if_neg (by omega), if_pos ar, if_pos ar, dr]
      rw [letter_eq (o := o) (n := n) (M := M) ha he hod hd0 hd3 hD ht hx (by rw [up2_ne (by omega), o'.1 a (by omega), off a (by omega)]) (by rw [up2_ne (by decide), o'.1 281 (by decide), off 281 (by decide)]) (by rw [up2_ne (by decide), o'.1 282 (by decide), off 282 (by decide)]) (fun k hk => by rw [rd_k (by omega), o'.2 k (by omega) (by omega), offk k (by omega) (by omega) (by omega) (by omega) (by omega) (by omega) (by omega)])]
      rfl
    obtain ⟨⟨v, M'⟩, er, o', out⟩ := rec_spec (g := gvD (envM M) d (M a 165) (dsM a o M)) (M0 := M5) hz (hzL L (Nat.le_refl _)) HL RF 0 0 0 M5 (by omega) (by omega) (by omega) (by unfold RF; omega) ofM.rf r0
    dsimp only at o' out
    refine ⟨M', ?_, fun c hc => by rw [o'.1 c hc, off c hc], fun k a1 a2 a3 => by rw [o'.2 k (by omega) (by omega), offk k (by omega) (by omega) (by omega) (by omega) (by omega) a2 a3]⟩
    have er' : mo_rec RF 0 0 M5 = some (v, M') := er
    rw [er', Option.bind_some]
    rcases out with ⟨f, -, -, fo⟩ | ⟨p, c', g1, g2, g3, g4, g5, g6⟩
    · have := Out.det hO (fo [] [] (fun _ => by show (0 : Int) ≤ _; decide) rfl)
      cases this
    · have := Out.det hO (acc_end hzL g5 g6)
      by_cases eL : p = L
      · rw [if_pos eL] at this
        have ec : c = c' := by injection this
        subst ec
        have hl : c.length ≤ 40 := by have := k1.2.1; omega
        have ev : stL (gvD (envM M) d (M a 165) (dsM a o M)) c [] = [v] := g4.2 [] (by show 0 + c.length ≤ 40; omega)
        have hc0 : 0 < c.length := List.length_pos_iff.2 g4.1
        dsimp only
        show some (max 0 (min 4 v), M') = some (codeV (M 21 3) (M 22) _, M')
        unfold codeV
        rw [if_neg (by omega), z2, toNat_c, runL_st _ _ c 0 [] (fun j x hx => by rw [Nat.zero_add]; exact z3 j x hx), ev]
        rfl
      · rw [if_neg eL] at this
        cases this
