-- ===== rule =====
theorem copyR {L : Nat} (hL : L ≤ 40) (M : MEM) : ∃ w M', iter (fun s => mo_rule_b73 (L : Int) s.1 s.2) FU (0, M) = some (w, M') ∧ (∀ c, c ≠ 286 → M' c = M c) ∧ ∀ i, i < L → M' 286 i = sx8 (M 283 i) := by
  have hl : Tc (iter (fun s => mo_rule_b73 (L : Int) s.1 s.2) FU (0, M)) (fun r => (∀ c, c ≠ 286 → r.2 c = M c) ∧ ∀ i, i < L → r.2 286 i = sx8 (M 283 i)) := by
    refine Tc_n (fun i s => s.1 = (i : Int) ∧ (∀ c, c ≠ 286 → s.2 c = M c) ∧ ∀ j, j < i → s.2 286 j = sx8 (M 283 j)) L ⟨rfl, fun _ _ => rfl, fun j hj => absurd hj (Nat.not_lt_zero j)⟩ (by omega) ?_ ?_
    · rintro i ⟨x, N⟩ hi ⟨rfl, q1, q2⟩
      dsimp only at q1 q2
      unfold mo_rule_b73
      dsimp only
      rw [toNat_c, wr_i (x := (i : Int) + 1) (by omega) (by omega), q1 283 (by decide)]
      refine Tc_f (by omega) (Tc_t (by omega) (Tc_t (by omega) (Tc_u (Tc_inl ⟨by dsimp only; omega, fun c hc => by dsimp only; rw [up2_ne hc]; exact q1 c hc, fun j hj => ?_⟩))))
      dsimp only
      by_cases e : j = i
      · subst e; exact rd_same
      · rw [rd_k e]; exact q2 j (by omega)
    · rintro ⟨x, N⟩ ⟨rfl, q1, q2⟩
      unfold mo_rule_b73
      exact Tc_t (by dsimp only; omega) (Tc_inr ⟨q1, q2⟩)
  obtain ⟨⟨w, M'⟩, e, q⟩ := hl
  exact ⟨w, M', e, q⟩
theorem rule_chg {M X : MEM} (h1 : ∀ c, c ≤ 277 → c ≠ 1 → ¬ (25 ≤ c ∧ c ≤ 27) → c ≠ 21 → c ≠ 22 → X c = M c) (h21 : ∀ k, k ≠ 3 → X 21 k = M 21 k) (h2 : ∀ c, 277 < c → c ≠ 278 → c ≠ 286 → X c = M c) (h3 : ∀ k, k ≠ 10 → k ≠ 13 → ¬ (14 ≤ k ∧ k ≤ 18) → k ≠ 21 → k ≠ 22 → X 278 k = M 278 k) : chg [0, 1, 3] M X := fun a k nn => by
  by_cases q1 : a = 1
  · subst q1
    refine absurd ?_ nn
    by_cases z : k = 1
    · subst z; decide
    · rw [show rg 1 k = (if k = 1 then 1 else 0) from rfl, if_neg z]; decide
  by_cases q2 : 25 ≤ a ∧ a ≤ 27
  · have : a = 25 ∨ a = 26 ∨ a = 27 := by omega
    rcases this with rfl | rfl | rfl <;> exact absurd (by decide : (0 : Nat) ∈ [0, 1, 3]) nn
  by_cases q5 : a = 21
  · subst q5
    by_cases z : k = 3
    · subst z; exact absurd (by decide) nn
    · exact h21 k z
  by_cases q6 : a = 22
  · subst q6; exact absurd (by decide : (3 : Nat) ∈ [0, 1, 3]) nn
  by_cases q3 : a = 278
  · subst q3
    by_cases q2 : k ≠ 10 ∧ k ≠ 13 ∧ ¬ (14 ≤ k ∧ k ≤ 18) ∧ k ≠ 21 ∧ k ≠ 22
    · exact h3 k q2.1 q2.2.1 q2.2.2.1 q2.2.2.2.1 q2.2.2.2.2
    · have : k = 10 ∨ k = 13 ∨ k = 14 ∨ k = 15 ∨ k = 16 ∨ k = 17 ∨ k = 18 ∨ k = 21 ∨ k = 22 := by omega
      rcases this with rfl | rfl | rfl | rfl | rfl | rfl | rfl | rfl | rfl <;> exact absurd (by decide) nn
  by_cases q4 : a = 286
  · subst q4; exact absurd (by decide : (3 : Nat) ∈ [0, 1, 3]) nn
  by_cases g : a ≤ 277
  · rw [h1 a g q1 q2 q5 q6]
  · rw [h2 a (by omega) q3 q4]
theorem c_rule {B : Int} {M : MEM} (h : Rel B M) : Lk B (dh_rule M) mo_rule := by
  have hT := h.T
  obtain ⟨t1, t2, t3, t4⟩ := h.T
  obtain ⟨L, hL⟩ : ∃ L : Nat, M 1 1 = (L : Int) := ⟨(M 1 1).toNat, by omega⟩
  have r0 := rdC_0 (m := 40) hT hL
  have hz : ∀ i, 40 ≤ i → zT 40 M i = -1 := fun i hi => zT_m (by omega)
  have hzL : ∀ i, L ≤ i → zT 40 M i = -1 := fun i hi => zT_end hL hi
  -- the reference, behind any memory that holds THE TEXT still
  have mo0 : ∀ N : MEM, N 283 = M 283 → N 278 10 = M 1 1 → ∃ N5, mo_rule N = (if (L : Int) ≤ 0 then mo_rule_j71 (L : Int) N5 else (mo_rec RF 0 0 N5).bind fun p14 => if (L : Int) ≤ (p14.2 278 17) then mo_rule_j57 (L : Int) p14.2 else (mo_fault (p14.2 278 17) p14.2).bind fun M23 => mo_rule_j57 (L : Int) M23) ∧
      rdT 283 (zT 40 M) L 0 N5 ∧ N5 278 22 = 0 ∧ (∀ c, c ≠ 278 → N5 c = N c) ∧ (∀ k, k ≠ 10 → k ≠ 13 → ¬ (14 ≤ k ∧ k ≤ 18) → k ≠ 22 → N5 278 k = N 278 k) ∧ N5 278 10 = 0 := fun N e1 e2 => by
    have e2' : up2 N 278 13 0 278 10 = (L : Int) := by rw [rd_k (by decide), e2]; exact hL
    refine ⟨up2 (up2 (up2 (up2 (up2 (up2 (up2 (up2 N 278 13 0) 278 14 (((283 : Nat) : Int) + 1)) 278 15 (L : Int)) 278 16 40) 278 17 0) 278 18 (-1)) 278 10 0) 278 22 0, ?_, ⟨Or.inl rfl, ?_, ?_, ?_, ?_, by omega, by omega, fun i => ?_⟩, rd_same, fun c hc => ?_, fun k a b c d => ?_, ?_⟩
    · unfold mo_rule mo_begin
      rw [Option.bind_some, e2']
      rfl
    · rw [rd_k (by decide), rd_k (by decide), rd_k (by decide), rd_k (by decide), rd_k (by decide), rd_k (by decide), rd_same]; rfl
    · rw [rd_k (by decide), rd_k (by decide), rd_k (by decide), rd_k (by decide), rd_k (by decide), rd_same]
    · rw [rd_k (by decide), rd_k (by decide), rd_k (by decide), rd_same]; rfl
    · rw [rd_k (by decide), rd_k (by decide), rd_same]
    · rw [rd_k (k' := 16) (by decide), rd_k (k' := 16) (by decide), rd_k (k' := 16) (by decide), rd_k (k' := 16) (by decide), rd_same, up2_ne (a' := 283) (by decide), up2_ne (a' := 283) (by decide), up2_ne (a' := 283) (by decide), up2_ne (a' := 283) (by decide), up2_ne (a' := 283) (by decide), up2_ne (a' := 283) (by decide), up2_ne (a' := 283) (by decide), up2_ne (a' := 283) (by decide), e1]
      unfold zT
      refine ⟨fun q => ?_, fun q => ?_⟩
      · obtain ⟨a1, a2, a3⟩ := t4 i (by omega)
        rw [a3]
        by_cases y : M 2 i ≤ 127
        · rw [if_pos ⟨by omega, by omega, y⟩]
          refine Or.inl ⟨a1, y, ?_⟩
          unfold sx8; omega
        · rw [if_neg (by omega)]
          refine Or.inr ⟨rfl, Or.inl ?_⟩
          unfold sx8; omega
      · rw [if_neg (by omega)]
    · rw [up2_ne hc, up2_ne hc, up2_ne hc, up2_ne hc, up2_ne hc, up2_ne hc, up2_ne hc, up2_ne hc]
    · rw [rd_k d, rd_k a, rd_k (by omega), rd_k (by omega), rd_k (by omega), rd_k (by omega), rd_k (by omega), rd_k b]
    · rw [rd_k (by decide), rd_same]
  have moR : 0 < L → ∀ N : MEM, N 283 = M 283 → N 278 10 = M 1 1 → ∃ N', ((∃ c, L ≤ 40 ∧ Out (zT 40 M) L true 0 [] [] (.inr c) ∧ mo_rule N = mo_rule_j71 (L : Int) N') ∨ (∃ f, f ≤ 40 ∧ Out (zT 40 M) L true 0 [] [] (.inl f) ∧ mo_rule N = some (-1 - (f : Int), N'))) ∧
      (∀ c, c ≠ 278 → N' c = N c) ∧ (∀ k, k ≠ 10 → k ≠ 13 → ¬ (14 ≤ k ∧ k ≤ 18) → k ≠ 22 → N' 278 k = N 278 k) ∧ N' 278 10 = 0 := fun hL0 N e1 e2 => by
    obtain ⟨N5, e5, r5, q22, f1, f2, f3⟩ := mo0 N e1 e2
    obtain ⟨⟨v, N'⟩, er, o', out⟩ := rec_spec (g := fun _ => 0) (M0 := N5) hz (hzL L (Nat.le_refl _)) (fun rec M' p x o' _ _ => by
      unfold mo_thing_j142
      rw [Option.bind_some, if_pos (by rw [rd_k (by decide), o'.2 22 (by decide) (by decide)]; exact q22)]) RF 0 0 0 N5 (by omega) (by omega) (by omega) (by unfold RF; omega) ofM.rf r5
    dsimp only at o' out
    have er' : mo_rec RF 0 0 N5 = some (v, N') := er
    rw [e5, if_neg (by omega), er', Option.bind_some]
    dsimp only
    have fr : ∀ N2 : MEM, ofM N' N2 → (∀ c, c ≠ 278 → N2 c = N c) ∧ (∀ k, k ≠ 10 → k ≠ 13 → ¬ (14 ≤ k ∧ k ≤ 18) → k ≠ 22 → N2 278 k = N 278 k) ∧ N2 278 10 = 0 := fun N2 o2 =>
      ⟨fun c hc => by rw [o2.1 c hc, o'.1 c hc, f1 c hc], fun k a b c d => by rw [o2.2 k (by omega) (by omega), o'.2 k (by omega) (by omega), f2 k a b c d], by rw [o2.2 10 (by decide) (by decide), o'.2 10 (by decide) (by decide)]; exact f3⟩
    have bad : ∀ (f : Nat) (N2 : MEM), f ≤ 40 → fltM f N2 → mo_rule_j57 (L : Int) N2 = some (-1 - (f : Int), N2) := fun f N2 hf ff => by
      unfold mo_rule_j57
      have ff' : N2 278 18 = (f : Int) := ff
      rw [ff.fine, if_pos rfl, ff', wr_i (by omega) (by omega)]
    rcases out with ⟨f, f40, ff, fo⟩ | ⟨p, c', g1, g2, g3, g4, g5, g6⟩
    · refine ⟨N', Or.inr ⟨f, f40, fo [] [] (fun _ => by show (0 : Int) ≤ _; decide) rfl, ?_⟩, fr N' ofM.rf⟩
      by_cases y : (L : Int) ≤ N' 278 17
      · rw [if_pos y]; exact bad f N' f40 ff
      · rw [if_neg y, ff.fault, Option.bind_some]; exact bad f N' f40 ff
    · have ae := acc_end hzL g5 g6
      have h17 := g3.2.2.2.1
      have pL := g3.2.2.2.2.2.1.1
      by_cases eL : p = L
      · rw [if_pos eL] at ae
        refine ⟨N', Or.inl ⟨c', by omega, ae, ?_⟩, fr N' ofM.rf⟩
        rw [if_pos (by omega)]
        unfold mo_rule_j57
        rw [g3.fine, if_neg (by decide)]
      · rw [if_neg eL] at ae
        obtain ⟨N2, e2', ff, o2, -⟩ := g3.fault
        refine ⟨N2, Or.inr ⟨p, g2, ae, ?_⟩, fr N2 o2⟩
        rw [if_neg (by omega), e2', Option.bind_some]
        exact bad p N2 g2 ff
  unfold Lk dh_rule
  generalize hM2 : up2 (up2 M 1 2 0) 1 3 (min (M 1 1) 40) = M2 at r0
  have b2 : tx_begin 40 M = some M2 := by rw [← hM2]; exact begin_eq
  have m2 : ∀ c, c ≠ 1 → M2 c = M c := fun c hc => by rw [← hM2, up2_ne hc, up2_ne hc]
  have s2 : ∀ i : Nat, (i : Int) < M2 1 3 → M2 2 i ≤ 255 := fun i hi => by
    have e3 : M2 1 3 = min (M 1 1) 40 := by rw [← hM2, rd_same]
    rw [m2 2 (by decide)]
    exact (t4 i (by omega)).2.1
  refine Tc_e b2 ?_
  -- what comes in place of THE RULE
  have good : ∀ (Mr : MEM), (∀ c, c ≠ 1 → c ≠ 25 → c ≠ 26 → c ≠ 27 → Mr c = M c) → L ≤ 40 → ((L = 0 ∧ Mr 25 3 = 0) ∨ (0 < L ∧ ∃ c : List Int, Out (zT 40 M) L true 0 [] [] (.inr c) ∧ Mr 25 3 = (c.length : Int) ∧ lstAt 26 c Mr ∧ c.length ≤ 40 ∧ ∀ x, x ∈ c → 0 ≤ x ∧ x ≤ 3000)) →
      (∀ N : MEM, N 283 = M 283 → N 278 10 = M 1 1 → ∃ N', mo_rule N = mo_rule_j71 (L : Int) N' ∧ (∀ c, c ≠ 278 → N' c = N c) ∧ (∀ k, k ≠ 10 → k ≠ 13 → ¬ (14 ≤ k ∧ k ≤ 18) → k ≠ 22 → N' 278 k = N 278 k) ∧ N' 278 10 = 0) →
      Tc ((ru_copy 21 25 (up2 Mr 1 1 0)).bind fun M14 => some ((0 : Int), M14)) (fun p => Tc (mo_rule p.2) (fun q => q.1 = p.1 ∧ Rel B q.2)) := fun Mr mr hL40 hc hm => by
    unfold ru_copy
    refine Tc_u (Tc_u (Tc_some ?_))
    dsimp only
    have m11 : ∀ c, c ≠ 1 → up2 Mr 1 1 0 c = Mr c := fun c hc => up2_ne hc
    generalize hMc : cpy (up2 (up2 Mr 1 1 0) 21 3 (up2 Mr 1 1 0 25 3)) (25 + 1) (21 + 1) 40 = Mc
    have c1 : ∀ c, c ≠ 21 → c ≠ 22 → Mc c = up2 Mr 1 1 0 c := fun c a b => by
      funext k
      rw [← hMc, cpy_at, if_neg (fun y => b y.1), up2_ne a]
    have c21 : Mc 21 3 = Mr 25 3 := by rw [← hMc, cpy_at, if_neg (by omega), rd_same, m11 25 (by decide)]
    have c21' : ∀ k, k ≠ 3 → Mc 21 k = Mr 21 k := fun k hk => by rw [← hMc, cpy_at, if_neg (by omega), rd_k hk, m11 21 (by decide)]
    have c22 : ∀ k, k < 40 → Mc 22 k = Mr 26 k := fun k hk => by rw [← hMc, cpy_at, if_pos ⟨rfl, hk⟩, up2_ne (by decide), m11 26 (by decide)]
    have hiC : ∀ c, 277 < c → Mc c = M c := fun c hc => by rw [c1 c (by omega) (by omega), m11 c (by omega), mr c (by omega) (by omega) (by omega) (by omega)]
    obtain ⟨N', e', f1, f2, f3⟩ := hm Mc (hiC 283 (by decide)) (by rw [hiC 278 (by decide)]; exact t1)
    obtain ⟨w, N2, e2, g1, g2⟩ := copyR hL40 N'
    refine ⟨(0, up2 N2 278 21 (L : Int)), ?_, rfl, ?_⟩
    · rw [e']
      unfold mo_rule_j71
      rw [e2, Option.bind_some]
      rfl
    dsimp only
    generalize hNf : up2 N2 278 21 (L : Int) = Nf
    have n1 : ∀ c, c ≠ 278 → c ≠ 286 → Nf c = Mc c := fun c a b => by rw [← hNf, up2_ne a, g1 c b, f1 c a]
    have n21 : Nf 278 21 = (L : Int) := by rw [← hNf, rd_same]
    have n286 : ∀ i, i < L → Nf 286 i = sx8 (M 2 i) := fun i hi => by
      obtain ⟨a1, a2, a3⟩ := t4 i (by omega)
      rw [← hNf, up2_ne (by decide), g2 i hi, f1 283 (by decide), hiC 283 (by decide), a3]
      unfold sx8; omega
    have nk : ∀ k, k ≠ 10 → k ≠ 13 → ¬ (14 ≤ k ∧ k ≤ 18) → k ≠ 21 → k ≠ 22 → Nf 278 k = M 278 k := fun k a b c d e => by rw [← hNf, rd_k d, g1 278 (by decide), f2 k a b c e, hiC 278 (by decide)]
    have n10 : Nf 278 10 = 0 := by rw [← hNf, rd_k (by decide), g1 278 (by decide)]; exact f3
    have cc : chg [0, 1, 3] M Nf := rule_chg (fun c a b d e f => by rw [n1 c (by omega) (by omega), c1 c e f, m11 c b, mr c b (by omega) (by omega) (by omega)]) (fun k hk => by rw [n1 21 (by decide) (by decide), c21' k hk, mr 21 (by decide) (by decide) (by decide) (by decide)]) (fun c a b d => by rw [n1 c b d, hiC c a]) nk
    refine h.go (Int.le_refl _) cc (by decide) (fun _ => ?_) (fun q => absurd q (by decide)) (fun _ => ?_) (fun q => absurd q (by decide)) (fun q => absurd q (by decide)) (fun q => absurd q (by decide)) (fun q => absurd q (by decide)) (fun q => absurd q (by decide)) (fun q => absurd q (by decide)) (fun q => absurd q (by decide)) (fun q => absurd q (by decide))
    · unfold C_T
      rw [n10, n1 1 (by decide) (by decide), c1 1 (by decide) (by decide), rd_same]
      exact ⟨rfl, by decide, by decide, fun i hi => by omega⟩
    · have zz : zR Nf = zT 40 M := by
        funext i
        unfold zR zT
        rw [n21]
        by_cases y : i < L
        · obtain ⟨a1, a2, a3⟩ := t4 i (by omega)
          rw [n286 i y]
          by_cases y2 : M 2 i ≤ 127
          · rw [if_pos ⟨by omega, by unfold sx8; omega⟩, if_pos ⟨by omega, by omega, y2⟩]
            unfold sx8; omega
          · rw [if_neg (by unfold sx8; omega), if_neg (by omega)]
        · rw [if_neg (by omega), if_neg (by omega)]
      have e21 : Nf 21 3 = Mr 25 3 := by rw [n1 21 (by decide) (by decide)]; exact c21
      have e22 : Nf 22 = Mc 22 := n1 22 (by decide) (by decide)
      unfold rlOk
      rw [zz, n21, toNat_c, e21]
      rcases hc with ⟨l0, z0⟩ | ⟨l0, c, q1, q2, q3, q4, q5⟩
      · refine ⟨⟨by omega, by omega, fun i hi => by omega⟩, by omega, by omega, fun i hi => by omega, Or.inl ⟨by omega, z0⟩⟩
      · have l22 : lstAt 22 c Nf := fun i x hx => by
          have hi : i < c.length := (List.getElem?_eq_some_iff.mp hx).1
          rw [e22, c22 i (by omega)]
          exact q3 i x hx
        refine ⟨⟨by omega, by omega, fun i hi => ?_⟩, by omega, by omega, fun i hi => ?_, Or.inr ⟨by omega, c, q1, q2, l22⟩⟩
        · have hi' : i < c.length := by omega
          rw [l22 i c[i] (List.getElem?_eq_getElem hi')]
          exact q5 _ (List.getElem_mem hi')
        · rw [n286 i (by omega)]
          have := (t4 i (by omega)).2.1
          unfold sx8; omega
  by_cases hL0 : L = 0
  · subst hL0
    have e : ru_read 25 M2 = some (1, up2 (up2 (up2 M2 25 3 0) 25 4 0) 25 5 0) := by
      unfold ru_read
      rw [Option.bind_some, Option.bind_some, Option.bind_some, over_eq (r0.off (by rw [up2_ne (by decide), up2_ne (by decide), up2_ne (by decide)]) (by rw [up2_ne (by decide), up2_ne (by decide), up2_ne (by decide)])), if_pos rfl, if_neg (by decide)]
    refine Tc_e e ?_
    unfold tx_empty
    refine Tc_u (Tc_f (by show ¬ (1 : Int) = 0; decide) ?_)
    dsimp only
    refine good _ (fun c a b d e => by rw [up2_ne b, up2_ne b, up2_ne b, m2 c a]) (by omega) (Or.inl ⟨rfl, by rw [rd_k (by decide), rd_k (by decide), rd_same]⟩) (fun N e1 e2 => ?_)
    obtain ⟨N5, e5, -, -, f1, f2, f3⟩ := mo0 N e1 e2
    exact ⟨N5, by rw [e5, if_pos (by omega)], f1, f2, f3⟩
  · obtain ⟨⟨fl, Mr⟩, er, oq, out⟩ := read_s hz (by omega) r0 s2
    dsimp only at oq out
    have mr : ∀ c, c ≠ 1 → c ≠ 25 → c ≠ 26 → c ≠ 27 → Mr c = M c := fun c a b d e => by rw [oq.1 c a b d e, m2 c a]
    refine Tc_e er ?_
    unfold tx_empty
    refine Tc_u ?_
    rcases out with ⟨hf, c, q1, q2, q3, q4, q5⟩ | ⟨hf, f, g1, g2⟩
    · refine Tc_f (by omega) ?_
      -- the reference gets through, too
      have L40 : L ≤ 40 := by
        obtain ⟨N', o, -⟩ := moR (by omega) M rfl t1
        rcases o with ⟨c', a, -⟩ | ⟨f, -, a, -⟩
        · exact a
        · have := Out.det q1 a; cases this
      refine good Mr mr L40 (Or.inr ⟨by omega, c, q1, q2, q3, q4, q5⟩) (fun N e1 e2 => ?_)
      obtain ⟨N', o, f1, f2, f3⟩ := moR (by omega) N e1 e2
      rcases o with ⟨c', -, a, e⟩ | ⟨f, -, a, -⟩
      · exact ⟨N', e, f1, f2, f3⟩
      · have := Out.det q1 a; cases this
    · refine Tc_t hf (Tc_some ?_)
      dsimp only
      obtain ⟨N', o, f1, f2, f3⟩ := moR (by omega) (up2 Mr 1 1 0) (by rw [up2_ne (by decide)]; exact mr 283 (by decide) (by decide) (by decide) (by decide)) (by rw [rd_a (by decide), mr 278 (by decide) (by decide) (by decide) (by decide)]; exact t1)
      rcases o with ⟨c', -, a, e⟩ | ⟨f', -, a, e⟩
      · have := Out.det g2 a; cases this
      · have ef : f = f' := by have := Out.det g2 a; injection this
        subst ef
        refine ⟨_, e, (wrong_eq g1).symm, ?_⟩
        dsimp only
        have cc : chg [0, 1, 3] M N' := rule_chg (fun c a b d _ _ => by rw [f1 c (by omega), up2_ne b, mr c b (by omega) (by omega) (by omega)]) (fun k _ => by rw [f1 21 (by decide), up2_ne (by decide), mr 21 (by decide) (by decide) (by decide) (by decide)]) (fun c a b _ => by rw [f1 c b, up2_ne (by omega), mr c (by omega) (by omega) (by omega) (by omega)]) (fun k a b c _ d => by rw [f2 k a b c d, up2_ne (by decide), mr 278 (by decide) (by decide) (by decide) (by decide)])
        have c3 : ∀ a k, rg a k = 3 → N' a k = M a k := fun a k hr => by
          by_cases z : a = 278
          · subst z
            rw [f2 k (fun y => by subst y; revert hr; decide) (fun y => by subst y; revert hr; decide) (fun y => by
              have : k = 14 ∨ k = 15 ∨ k = 16 ∨ k = 17 ∨ k = 18 := by omega
              rcases this with rfl | rfl | rfl | rfl | rfl <;> revert hr <;> decide) (fun y => by subst y; revert hr; decide), up2_ne (by decide), mr 278 (by decide) (by decide) (by decide) (by decide)]
          · have a1 : a ≠ 1 := fun y => by
              subst y
              by_cases z : k = 1
              · subst z; revert hr; decide
              · rw [show rg 1 k = (if k = 1 then 1 else 0) from rfl, if_neg z] at hr; omega
            rw [f1 a z, up2_ne a1, mr a a1 (fun y => by subst y; exact absurd hr (by decide : ¬ (0 : Nat) = 3)) (fun y => by subst y; exact absurd hr (by decide : ¬ (0 : Nat) = 3)) (fun y => by subst y; exact absurd hr (by decide : ¬ (0 : Nat) = 3))]
        refine h.go (Int.le_refl _) cc (by decide) (fun _ => ?_) (fun q => absurd q (by decide)) (fun _ => h.R.cg c3) (fun q => absurd q (by decide)) (fun q => absurd q (by decide)) (fun q => absurd q (by decide)) (fun q => absurd q (by decide)) (fun q => absurd q (by decide)) (fun q => absurd q (by decide)) (fun q => absurd q (by decide)) (fun q => absurd q (by decide))
        unfold C_T
        rw [f3, f1 1 (by decide), rd_same]
        exact ⟨rfl, by decide, by decide, fun i hi => by omega⟩
