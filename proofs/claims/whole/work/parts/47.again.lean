-- ===== keep, again, undo =====
theorem chg_K {L : List Nat} {M M1 : MEM} (h : 9 ∈ L) (hc : ∀ c, (c < 246 ∨ 277 < c) → M1 c = M c) : chg L M M1 := fun a k n => by
  by_cases e : 246 ≤ a ∧ a ≤ 277
  · exact absurd (by rw [rg_K e.1 e.2]; exact h) n
  · rw [hc a (by omega)]
theorem c_keep {B : Int} {M : MEM} (h : Rel B M) (x : Int) : Lk B (dh_keep x M) (mo_keep x) := by
  have c3 : chg [0] M (up2 M 278 13 0) := chg.rf.up (by decide)
  obtain ⟨s1, s2, s3, s3a, s3b, s4⟩ := h.S
  unfold Lk dh_keep
  by_cases hx : 0 ≤ x ∧ x < 2
  · obtain ⟨i, rfl⟩ : ∃ i : Nat, x = (i : Int) := ⟨x.toNat, by omega⟩
    have hi : i < 2 := by omega
    rw [toNat_c]
    obtain ⟨M1, e1, g1, g2, g3, g3'⟩ := copyWalk_eq (s' := 246 + 16 * i) (s := 3) (M := M) (by omega) s2 s3
    obtain ⟨M2, e2, k1, k2, k3⟩ := ca_copy_eq (c' := 246 + 16 * i + 2) (c := 5) (M := M1) (by omega)
    refine Tc_f (by omega) (Tc_t (by omega) (Tc_t (by omega) (Tc_e e1 (Tc_t (by omega) (Tc_e e2 (Tc_t (by omega) (Tc_u (Tc_some ?_))))))))
    dsimp only
    generalize hM3 : up2 M2 (246 + 16 * i) 4 1 = M3
    have f1 : ∀ c, (c < 246 + 16 * i ∨ 246 + 16 * i + 16 ≤ c) → M3 c = M c := fun c hc => by rw [← hM3, up2_ne (by omega), k2 c (by omega), g2 c (by omega) (by omega)]
    have f2 : M3 (246 + 16 * i) 2 = M 3 2 := by rw [← hM3, rd_k (by decide), k2 _ (by omega)]; exact g1.1
    have f3 : M3 (246 + 16 * i) 3 = M 3 3 := by rw [← hM3, rd_k (by decide), k2 _ (by omega)]; exact g1.2.1
    have f4 : M3 (246 + 16 * i) 4 = 1 := by rw [← hM3]; exact rd_same
    have f5 : ∀ c, 246 + 16 * i + 7 ≤ c → M3 c = M1 c := fun c hc => by rw [← hM3, up2_ne (by omega), k2 c (by omega)]
    have f6 : copyC (246 + 16 * i + 2) 5 M3 M := by
      refine ⟨?_, fun q j x1 x2 hj => ?_⟩
      · rw [← hM3, up2_ne (by omega), k1.1, g2 5 (by omega) (by omega)]
      · rw [← hM3, up2_ne (by omega), k1.2 q j x1 x2 hj, g2 _ (by omega) (by omega)]
    unfold mo_keep
    have wk : wr (207 * (i : Int)) = ((207 * i : Nat) : Int) := (wr_i (by omega) (by omega)).trans (by omega)
    have hl : lenA 304 = 414 := rfl
    have e51 : ∀ v, up2 (up2 M3 278 13 0) 305 i v 278 51 = M 278 51 := fun v => by rw [rd_a (by decide), rd_k (by decide), f1 278 (by omega)]
    refine Tc_u (Tc_f (by rw [moIn_y (by omega)]; decide) (Tc_t (by omega) (Tc_u (Tc_t (by omega) (Tc_u ?_)))))
    rw [wk]
    simp only [toNat_c, e51]
    obtain ⟨M5, e5, l1, l2, l3⟩ := layAll_eq (a := 304) (k := 207 * i) (M := up2 (up2 (up2 M3 278 13 0) 305 i 1) 306 i (M 278 51)) (Or.inr rfl) (by omega)
    refine Tc_e e5 (Tc_some ⟨rfl, ?_⟩)
    dsimp only
    have h0 : ∀ c, c ≠ 278 → c ≠ 304 → c ≠ 305 → c ≠ 306 → M5 c = M3 c := fun c c1 c2 c3 c4 => by rw [l2 c c2, up2_ne c4, up2_ne c3, up2_ne c1]
    have h278 : ∀ k, k ≠ 13 → M5 278 k = M 278 k := fun k hk => by rw [l2 278 (by decide), rd_a (by decide), rd_a (by decide), rd_k hk, f1 278 (by omega)]
    have h305 : ∀ k, M5 305 k = if k = i then 1 else M 305 k := fun k => by
      rw [l2 305 (by decide), rd_a (by decide)]
      by_cases e : k = i
      · subst e; rw [rd_same, if_pos rfl]
      · rw [rd_k e, if_neg e, rd_a (by decide), f1 305 (by omega)]
    have h306 : ∀ k, M5 306 k = if k = i then M 278 51 else M 306 k := fun k => by
      rw [l2 306 (by decide)]
      by_cases e : k = i
      · subst e; rw [rd_same, if_pos rfl]
      · rw [rd_k e, if_neg e, rd_a (by decide), rd_a (by decide), f1 306 (by omega)]
    have h304 : ∀ q, (q < 207 * i ∨ 207 * i + 207 ≤ q) → M5 304 q = M 304 q := fun q hq => by rw [l3 q hq, rd_a (by decide), rd_a (by decide), rd_a (by decide), f1 304 (by omega)]
    have src : ∀ c, c = 279 ∨ c = 282 → up2 (up2 (up2 M3 278 13 0) 305 i 1) 306 i (M 278 51) c = M c := fun c hc => by rw [up2_ne (by omega), up2_ne (by omega), up2_ne (by omega), f1 c (by omega)]
    have src7 : up2 (up2 (up2 M3 278 13 0) 305 i 1) 306 i (M 278 51) 278 7 = M 278 7 := by rw [rd_a (by decide), rd_a (by decide), rd_k (by decide), f1 278 (by omega)]
    obtain ⟨l1a, l1b, l1c⟩ := l1
    rw [src 279 (Or.inl rfl)] at l1a
    rw [src 282 (Or.inr rfl)] at l1c
    rw [src7] at l1b
    have c5 : chg [0, 9] M M5 := fun a k n => by
      by_cases e1 : a = 278
      · subst e1
        refine h278 k (fun e => n ?_)
        subst e; decide
      · by_cases e2 : a = 304 ∨ a = 305 ∨ a = 306
        · refine absurd ?_ n
          rcases e2 with rfl | rfl | rfl <;> exact (by decide : (9 : Nat) ∈ [0, 9])
        · rw [h0 a e1 (by omega) (by omega) (by omega)]
          by_cases e3 : 246 ≤ a ∧ a ≤ 277
          · exact absurd (by rw [rg_K e3.1 e3.2]; decide) n
          · rw [f1 a (by omega)]
    refine h.go (Int.le_refl _) c5 (by decide) (fun q => absurd q (by decide)) (fun q => absurd q (by decide)) (fun q => absurd q (by decide)) (fun q => absurd q (by decide)) (fun q => absurd q (by decide)) (fun q => absurd q (by decide)) (fun q => absurd q (by decide)) (fun q => absurd q (by decide)) (fun _ => ?_) (fun q => absurd q (by decide)) (fun q => absurd q (by decide))
    intro i' hi'
    have e32 : M5 3 2 = M 3 2 := c5 3 2 (by decide)
    have e51' : M5 278 51 = M 278 51 := h278 51 (by decide)
    have e280 : M5 280 = M 280 := c5.row (fun k => (by decide : 12 ∉ [0, 9]))
    rw [h305, h306, e32, e51']
    by_cases e : i' = i
    · subst e
      rw [if_pos rfl, if_pos rfl]
      have k4 : M5 (246 + 16 * i') = M3 (246 + 16 * i') := h0 _ (by omega) (by omega) (by omega) (by omega)
      rw [k4, f4, f2]
      refine ⟨rfl, Or.inr rfl, fun _ => ⟨Int.le_refl _, Int.le_refl _, ⟨fun _ => rfl, fun _ => rfl⟩, fun _ => ⟨?_, ?_⟩⟩⟩
      · refine snS.move (s := 3) (a := 279) (k := 0) s3 (by rw [k4]; exact f3) (fun d hd => ?_) (fun q hq => by rw [l1a q hq, Nat.zero_add]) (fun d _ => by rw [e280]) h.D
        obtain ⟨b1, b2, b3⟩ := g1.2.2 d hd
        rw [h0 _ (by omega) (by omega) (by omega) (by omega), h0 _ (by omega) (by omega) (by omega) (by omega), h0 _ (by omega) (by omega) (by omega) (by omega), f5 _ (by omega), f5 _ (by omega), f5 _ (by omega)]
        exact ⟨b1, b2, b3⟩
      · refine snC.move (c := 5) ⟨?_, fun q j x1 x2 hj => ?_⟩ l1b (fun q hq => l1c q hq) h.C
        · rw [h0 _ (by omega) (by omega) (by omega) (by omega)]; exact f6.1
        · rw [h0 _ (by omega) (by omega) (by omega) (by omega)]; exact f6.2 q j x1 x2 hj
    · rw [if_neg e, if_neg e]
      obtain ⟨q1, q2, q3⟩ := h.K i' hi'
      have sm : ∀ c, 246 + 16 * i' ≤ c → c < 246 + 16 * i' + 16 → M5 c = M c := fun c a b => by rw [h0 c (by omega) (by omega) (by omega) (by omega), f1 c (by omega)]
      rw [sm _ (Nat.le_refl _) (by omega)]
      refine ⟨q1, q2, fun y => ?_⟩
      obtain ⟨q4, q5, q6, q7⟩ := q3 y
      refine ⟨q4, q5, q6, fun y2 => ?_⟩
      obtain ⟨q8, q9⟩ := q7 y2
      refine ⟨q8.move s3 (by rw [sm _ (Nat.le_refl _) (by omega)]) (fun d hd => ⟨fun q _ _ => by rw [sm _ (by omega) (by omega)], fun q _ => by rw [sm _ (by omega) (by omega)], fun q _ => by rw [sm _ (by omega) (by omega)]⟩) (fun q hq => h304 _ (by omega)) (fun d _ => by rw [e280]), q9.move ⟨by rw [sm _ (by omega) (by omega)], fun q j x1 x2 _ => by rw [sm _ (by omega) (by omega)]⟩ (h304 _ (by omega)) (fun q hq => h304 _ (by omega))⟩
  · have mo : Tc (mo_keep x M) (fun q => q.1 = 0 ∧ Rel B q.2) := by
      unfold mo_keep
      exact Tc_u (Tc_t (moIn_n (by omega)) (Tc_some ⟨rfl, h.go0 c3⟩))
    exact Tc_i (fun _ => Tc_some mo) (fun q => Tc_f (by omega) (Tc_some mo))
/-- all rows of now are taken out of a, from k on -/
theorem takeNow_eq {a k n : Nat} {M : MEM} (body : Int × MEM → Option ((Int × MEM) ⊕ (Int × MEM))) (ha : a ≠ 279) (hb : ∀ (i : Nat) (M1 : MEM), i < 166 → body ((i : Int), M1) = some (.inl (((i + 1 : Nat) : Int), up2 M1 279 i (M1 a (k + i))))) (he : ∀ M1 : MEM, body (166, M1) = some (.inr (166, M1))) :
    ∃ M', iter body FU (0, M) = some (166, M') ∧ (∀ c, c ≠ 279 → M' c = M c) ∧ ∀ i, i < 166 → M' 279 i = M a (k + i) := by
  have l1 : Tc (iter body FU (0, M)) (fun r => r.1 = 166 ∧ (∀ c, c ≠ 279 → r.2 c = M c) ∧ ∀ i, i < 166 → r.2 279 i = M a (k + i)) := by
    refine Tc_n (fun i s => s.1 = (i : Int) ∧ (∀ c, c ≠ 279 → s.2 c = M c) ∧ ∀ j, j < i → s.2 279 j = M a (k + j)) 166 ⟨rfl, fun _ _ => rfl, fun j hj => by omega⟩ (by omega) (fun i s hi hI => ?_) (fun s hI => ?_)
    · obtain ⟨z, M1⟩ := s
      obtain ⟨rfl, q1, q2⟩ := hI
      dsimp only at q1 q2 ⊢
      rw [hb i M1 hi]
      refine Tc_inl ⟨rfl, fun c hc => ?_, fun j hj => ?_⟩
      · dsimp only; rw [up2_ne hc]; exact q1 c hc
      · dsimp only
        rw [q1 a ha]
        by_cases e : j = i
        · subst e; exact rd_same
        · rw [rd_k e]; exact q2 j (by omega)
    · obtain ⟨z, M1⟩ := s
      obtain ⟨rfl, q1, q2⟩ := hI
      rw [show ((166 : Nat) : Int) = 166 from rfl, he]
      exact Tc_inr ⟨rfl, q1, q2⟩
  obtain ⟨r, e1, h1, h2, h3⟩ := l1
  exact ⟨r.2, by rw [e1, ← h1], h2, h3⟩
theorem ite_ne {c : Prop} [Decidable c] {x y v : Nat} (hx : c → x ≠ v) (hy : ¬ c → y ≠ v) : (if c then x else y) ≠ v := by
  by_cases h : c
  · rw [if_pos h]; exact hx h
  · rw [if_neg h]; exact hy h
theorem rg_12 {a k : Nat} (h : rg a k = 12) : (a = 3 ∧ k = 2) ∨ (a = 278 ∧ (k = 1 ∨ k = 51)) ∨ a = 280 ∨ ((a = 10 ∨ a = 13 ∨ a = 16) ∧ k = 2) := by
  apply Classical.byContradiction
  intro n
  refine absurd h ?_
  unfold rg
  repeat' (refine ite_ne (fun _ => ?_) (fun _ => ?_))
  all_goals first | decide | (exfalso; omega)
/-- behind taking back: scene 3 out of s, the rows out of a, from k on; CARROTS too, or as they were -/
theorem Rel.back {B : Int} {M M5 : MEM} {s a k : Nat} (h : Rel B M) (hs : snS s a k (M 3 2) B M) (hs2 : M s 2 = M 3 2) (cl : copyS 3 s M5 M) (cl2 : ∀ c : Nat, 10 ≤ c → c ≤ 18 → (10 : Int) + 3 * M 3 2 ≤ (c : Int) → M5 c = M c) (ro : ∀ i, i < 166 → M5 279 i = M a (k + i)) (c : chg [0, 4, 5, 8, 12] M M5) (h1 : M5 278 1 = M 278 1) (h51 : M5 278 51 = M 278 51) (h280 : M5 280 = M 280) (hC : C_C M5) (hU : C_S M5 → C_U B M5) : Rel B M5 := by
  obtain ⟨s1, s2, s3, s3a, s3b, s4⟩ := h.S
  have e32 : M5 3 2 = M 3 2 := cl.1.trans hs2
  have hbp : ∀ d : Nat, (d : Int) < 3 → M5 (10 + 3 * d) 2 = M (10 + 3 * d) 2 := fun d hd => by
    by_cases z : (d : Int) < M 3 2
    · have := (cl.2.2 d (by omega)).1 2 (by omega) (by omega)
      rw [show 3 + 7 + 3 * d = 10 + 3 * d by omega] at this
      rw [this, (hs.2.2.2 d z).1]
      exact ((s4 d z).1)
    · rw [cl2 _ (by omega) (by omega) (by omega)]
  have c12 : chg [0, 4, 5, 8] M M5 := fun q w n => by
    by_cases e : rg q w = 12
    · rcases rg_12 e with ⟨rfl, rfl⟩ | ⟨rfl, rfl | rfl⟩ | rfl | ⟨q1, rfl⟩
      · exact e32
      · exact h1
      · exact h51
      · rw [h280]
      · rcases q1 with rfl | rfl | rfl
        · exact hbp 0 (by decide)
        · exact hbp 1 (by decide)
        · exact hbp 2 (by decide)
    · exact c q w (by simp only [List.mem_cons, List.not_mem_nil, or_false] at n ⊢; omega)
  have hS5 : C_S M5 := h.S.cg (c12.same fun x hx => by rw [hx]; decide)
  refine h.go (Int.le_refl _) c12 (by decide) (fun q => absurd q (by decide)) (fun q => absurd q (by decide)) (fun q => absurd q (by decide)) (fun _ => ?_) (fun _ => hC) (fun q => absurd q (by decide)) (fun q => absurd q (by decide)) (fun _ => hU hS5) (fun q => absurd q (by decide)) (fun q => absurd q (by decide)) (fun q => absurd q (by decide))
  unfold C_D
  rw [e32]
  exact hs.move s3 cl.2.1 (fun d hd => cl.2.2 d (by omega)) (fun q hq => by rw [Nat.zero_add]; exact ro q hq) (fun d _ => by rw [h280])
