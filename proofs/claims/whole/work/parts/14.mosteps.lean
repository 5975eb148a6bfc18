-- ===== the model's steps, all of one minute =====
theorem okD_congr {n : Int} {s t : DS} (h : eqD n s t) (hs : okD n s) : okD n t := by
  obtain ⟨h1, h2, h3, h4⟩ := h
  obtain ⟨d1, d2, d3, d4, d5, d6, d7, d8, d9⟩ := hs
  exact ⟨d1, d2, by rw [← h1]; exact d3, by rw [← h1]; exact d4, by rw [← h2]; exact d5, by rw [← h2]; exact d6, by rw [← h3]; exact d7, by rw [← h3]; exact d8, fun p hp => by rw [← h4 p hp]; exact d9 p hp⟩
theorem eqD.rf {n : Int} {s : DS} : eqD n s s := ⟨rfl, rfl, rfl, fun _ _ => rfl⟩
theorem eqD.sy {n : Int} {s t : DS} (h : eqD n s t) : eqD n t s := ⟨h.1.symm, h.2.1.symm, h.2.2.1.symm, fun p hp => (h.2.2.2 p hp).symm⟩
theorem eqD.tr {n : Int} {s t u : DS} (h : eqD n s t) (g : eqD n t u) : eqD n s u := ⟨h.1.trans g.1, h.2.1.trans g.2.1, h.2.2.1.trans g.2.2.1, fun p hp => (h.2.2.2 p hp).trans (g.2.2.2 p hp)⟩
/-- what a walk of j steps leaves in the model's cells -/
def walkM (a o : Nat) (d n : Int) (j : Nat) (M M1 : MEM) : Prop :=
  eqD n (dsM a o M1) (walkD n j (dsM a o M)).1 ∧ (∀ p : Nat, n ≤ (p : Int) → p < 12 → M1 a (o + 3 + p) = M a (o + 3 + p)) ∧
  (∀ q : Nat, q < 40 → M1 a (o + 15 + q) = if (walkD n j (dsM a o M)).1.2.2.1 ≠ M a (o + 2) ∧ (q : Int) = M a (o + 2) % 40 then M a 165 else M a (o + 15 + q)) ∧
  M1 287 d.toNat = (if (walkD n j (dsM a o M)).1.2.2.1 ≠ M a (o + 2) then wr (M 287 d.toNat + 1) else M 287 d.toNat) ∧
  M1 278 26 = (if (walkD n j (dsM a o M)).2 = true then ish i_or (M 278 26) (ish i_shl 1 d) else M 278 26) ∧
  M1 278 28 = (if (walkD n j (dsM a o M)).2 = true ∧ d = M 278 29 then (walkD n j (dsM a o M)).1.1 else M 278 28)
theorem turnM_eq {a o : Nat} {d n : Int} {M M1 : MEM} (hn : n ≤ 12) (h : turnM a o d n M M1) : eqD n (dsM a o M1) (oneD n (dsM a o M)).1 :=
  ⟨h.1, h.2.1, h.2.2.1, fun p hp => h.2.2.2.1 p (by omega)⟩
theorem mo_loop {a o : Nat} {d n pace : Int} (ha : lenA a = 166) (ha1 : a ≠ 278) (ha3 : a ≠ 287) (ha2 : a ≠ 280) (ho : o ≤ 110) (hd0 : 0 ≤ d) (hd3 : d < 3) (hp : pace ≤ 4) :
    ∀ (j fu : Nat) (i : Int) (M : MEM), i + j = pace → 0 ≤ i → j < fu → M 280 d.toNat = n → okD n (dsM a o M) → M a (o + 2) + j < 1073741824 →
    ∃ (e : MEM ⊕ (Int × MEM)) (M1 : MEM), iter (fun s => mo_goSteps_b9 a d pace (o : Int) s.1 s.2) fu (i, M) = some e ∧ (e = .inl M1 ∨ ∃ i', e = .inr (i', M1)) ∧ walkM a o d n j M M1 ∧ offM a o d M M1 := by
  intro j
  induction j with
  | zero =>
    intro fu i M hij hi hfu hn hd hk
    obtain ⟨fu, rfl⟩ : ∃ f, fu = f + 1 := ⟨fu - 1, by omega⟩
    refine ⟨.inr (i, M), M, ?_, Or.inr ⟨i, rfl⟩, ⟨eqD.rf, fun _ _ _ => rfl, fun q _ => ?_, ?_, ?_, ?_⟩, offM.rf⟩
    · have hb : mo_goSteps_b9 a d pace (o : Int) i M = some (.inr (.inr (i, M))) := by
        unfold mo_goSteps_b9
        rw [if_pos (by omega)]
      unfold iter
      simp only [hb, Option.bind_some, Sum.elim_inr]
    · rw [if_neg (fun x => x.1 rfl)]
    · rw [if_neg (fun x => x rfl)]
    · rw [if_neg (show ¬ (walkD n 0 (dsM a o M)).2 = true from Bool.false_ne_true)]
    · rw [if_neg (fun x => (show ¬ (walkD n 0 (dsM a o M)).2 = true from Bool.false_ne_true) x.1)]
  | succ j ih =>
    intro fu i M hij hi hfu hn hd hk
    obtain ⟨fu, rfl⟩ : ∃ f, fu = f + 1 := ⟨fu - 1, by omega⟩
    obtain ⟨M1, e1, t1, o1⟩ := mo_step ha ha1 ha3 ho hd0 hd3 hn hd (by omega) hi (by omega) hp
    have hd' := hd
    obtain ⟨d1, d2, d3, d4, -, -, d7, -, -⟩ := hd'
    simp only [dsM] at d3 d4 d7
    have hks : (dsM a o M).2.2.1 = M a (o + 2) := rfl
    have hos := oneD_strokes n (dsM a o M)
    rw [hks] at hos
    have hpl : (dsM a o M).1 = M a (o + 1) := rfl
    rw [hpl] at hos
    have hbey : ∀ p : Nat, n ≤ (p : Int) → p < 12 → M1 a (o + 3 + p) = M a (o + 3 + p) := fun p h1 h2 => by
      rw [t1.2.2.2.1 p h2, oneD_th]
      split
      · rw [up1_at, if_neg (by have := nxt_in (n := n) (p := (dsM a o M).1) (by omega) d3; omega)]; rfl
      · rfl
    have hstr : ∀ q : Nat, q < 40 → M1 a (o + 15 + q) = if (oneD n (dsM a o M)).1.2.2.1 ≠ M a (o + 2) ∧ (q : Int) = M a (o + 2) % 40 then M a 165 else M a (o + 15 + q) := fun q hq => by
      rw [t1.2.2.2.2.1 q hq, hos]
      by_cases hz : nxt n (M a (o + 1)) = 0
      · rw [if_pos hz]
        by_cases hq2 : (q : Int) = M a (o + 2) % 40
        · rw [if_pos ⟨hz, hq2⟩, if_pos ⟨by omega, hq2⟩]
        · rw [if_neg (fun x => hq2 x.2), if_neg (fun x => hq2 x.2)]
      · rw [if_neg hz, if_neg (fun x => hz x.1), if_neg (fun x => x.1 rfl)]
    have h287 : M1 287 d.toNat = (if (oneD n (dsM a o M)).1.2.2.1 ≠ M a (o + 2) then wr (M 287 d.toNat + 1) else M 287 d.toNat) := by
      rw [t1.2.2.2.2.2.1, hos]
      by_cases hz : nxt n (M a (o + 1)) = 0
      · rw [if_pos hz, if_pos hz, if_pos (by omega)]
      · rw [if_neg hz, if_neg hz, if_neg (fun x => x rfl)]
    have heq := turnM_eq d2 t1
    cases hat : (oneD n (dsM a o M)).2 with
    | true =>
      rw [hat, if_pos rfl] at e1
      refine ⟨.inl M1, M1, ?_, Or.inl rfl, ?_, o1⟩
      · unfold iter
        simp only [e1, Option.bind_some, Sum.elim_inr]
      · unfold walkM
        rw [walkD_one hat]
        exact ⟨heq, hbey, hstr, h287, t1.2.2.2.2.2.2.1, t1.2.2.2.2.2.2.2⟩
    | false =>
      rw [hat, if_neg (by decide)] at e1
      have hk1 : M1 a (o + 2) = (oneD n (dsM a o M)).1.2.2.1 := t1.2.2.1
      have hk1' : M1 a (o + 2) = M a (o + 2) ∨ M1 a (o + 2) = M a (o + 2) + 1 := by rw [hk1, hos]; split <;> omega
      have hok1 : okD n (dsM a o M1) := okD_congr heq.sy (oneD_ok hd (by rw [hks]; omega))
      have hn1 : M1 280 d.toNat = n := by rw [o1.1 280 (by omega) (by omega) (by omega)]; exact hn
      obtain ⟨e, M2, e2, hee, w2, o2⟩ := ih fu (i + 1) M1 (by omega) (by omega) (by omega) hn1 hok1 (by omega)
      have hpl1 : 0 ≤ (dsM a o M1).1 := hok1.2.2.1
      have hcg := walkD_congr (n := n) (by omega) j hpl1 heq
      refine ⟨e, M2, ?_, hee, ?_, o1.tr o2⟩
      · unfold iter
        simp only [e1, Option.bind_some, Sum.elim_inl]
        exact e2
      · have hall := walkD_strokes (n := n) (by omega) (j + 1) (dsM a o M) d3 d4 (by omega)
        rw [walkD_two hat, hks] at hall
        have hmo := walkD_mono (n := n) j (oneD n (dsM a o M)).1
        rw [← hk1] at hmo
        have hrs : (walkD n j (dsM a o M1)).1.2.2.1 = (walkD n j (oneD n (dsM a o M)).1).1.2.2.1 := hcg.1.2.2.1
        have h165 : M1 a 165 = M a 165 := o1.2.1 165 (by omega)
        have h29 : M1 278 29 = M 278 29 := o1.2.2.1 29 (by omega) (by omega)
        obtain ⟨w21, w22, w23, w24, w25, w26⟩ := w2
        rw [hrs] at w23 w24
        rw [hcg.2] at w25 w26
        have hpp : (walkD n j (dsM a o M1)).1.1 = (walkD n j (oneD n (dsM a o M)).1).1.1 := hcg.1.1
        rw [hpp, h29] at w26
        have t26 : M1 278 26 = M 278 26 := by rw [t1.2.2.2.2.2.2.1, hat]; rfl
        have t28 : M1 278 28 = M 278 28 := by rw [t1.2.2.2.2.2.2.2, hat]; rw [if_neg (fun x => Bool.false_ne_true x.1)]
        rw [t26] at w25
        rw [t28] at w26
        rw [← hk1] at hstr h287
        unfold walkM
        rw [walkD_two hat]
        generalize walkD n j (oneD n (dsM a o M)).1 = r at *
        refine ⟨w21.tr hcg.1, fun p h1 h2 => (w22 p h1 h2).trans (hbey p h1 h2), fun q hq => ?_, ?_, w25, w26⟩
        · rw [w23 q hq, hstr q hq, h165]
          rcases hk1' with h | h
          · rw [h, if_neg (fun x : M a (o + 2) ≠ M a (o + 2) ∧ _ => x.1 rfl)]
          · have hr : r.1.2.2.1 = M1 a (o + 2) := by omega
            rw [hr, if_neg (fun x : M1 a (o + 2) ≠ M1 a (o + 2) ∧ _ => x.1 rfl)]
        · rw [w24, h287]
          rcases hk1' with h | h
          · rw [h, if_neg (fun x : M a (o + 2) ≠ M a (o + 2) => x rfl)]
          · have hr : r.1.2.2.1 = M1 a (o + 2) := by omega
            rw [hr, if_neg (fun x : M1 a (o + 2) ≠ M1 a (o + 2) => x rfl)]
theorem mo_goSteps_eq {a o : Nat} {d n pace : Int} {M : MEM} (ha : lenA a = 166) (ha1 : a ≠ 278) (ha3 : a ≠ 287) (ha2 : a ≠ 280) (hod : (o : Int) = 55 * d) (hd0 : 0 ≤ d) (hd3 : d < 3) (hp0 : 0 ≤ pace) (hp : pace ≤ 4) (hn : M 280 d.toNat = n) (hd : okD n (dsM a o M)) (hk : M a (o + 2) + 4 < 1073741824) :
    ∃ M1, mo_goSteps a d pace M = some M1 ∧ walkM a o d n pace.toNat M M1 ∧ offM a o d M M1 := by
  obtain ⟨e, M1, e1, he, w, of⟩ := mo_loop (n := n) ha ha1 ha3 ha2 (by omega) hd0 hd3 hp pace.toNat FU 0 M (by omega) (by omega) (by unfold FU; omega) hn hd (by omega)
  refine ⟨M1, ?_, w, of⟩
  have w55 : wr (55 * d) = (o : Int) := (wr_i (by omega) (by omega)).trans hod.symm
  unfold mo_goSteps
  rw [w55, e1]
  rcases he with rfl | ⟨i', rfl⟩ <;> rfl
