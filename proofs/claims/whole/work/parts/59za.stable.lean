-- ===== stable =====
theorem Rel_st {B : Int} {M M' : MEM} {n0 m : Nat} (h : Rel B M) (h0 : M 3 2 = (n0 : Int))
    (lo : ∀ c k, c ≤ 277 → c ≠ 1 → ¬ (10 + 3 * n0 ≤ c ∧ c ≤ 18) → ¬ (c = 3 ∧ k = 2) → ¬ (c = 45 ∧ k = 2) → M' c k = M c k)
    (hi : ∀ c, 277 < c → c ≠ 278 → c ≠ 279 → c ≠ 280 → c ≠ 285 → M' c = M c)
    (h8 : ∀ k, k ≠ 1 → k ≠ 10 → k ≠ 13 → ¬ (14 ≤ k ∧ k ≤ 18) → k ≠ 31 → k ≠ 51 → M' 278 k = M 278 k)
    (h9 : ∀ q, q < 55 * n0 ∨ 165 ≤ q → M' 279 q = M 279 q) (h80 : ∀ d, d < n0 → M' 280 d = M 280 d) (t1 : M' 1 1 = 0) (t2 : M' 278 10 = 0)
    (n1 : M' 3 2 = ((n0 + m : Nat) : Int)) (n2 : M' 278 1 = ((n0 + m : Nat) : Int)) (hm : n0 + m ≤ 3)
    (n3 : (m = 0 ∧ M' 278 51 = M 278 51 ∧ M' 45 2 = M 45 2 ∧ M' 278 31 = M 278 31) ∨ (0 < m ∧ M' 278 51 = M 278 51 + 1 ∧ M' 45 2 = 0 ∧ M' 278 31 = 0))
    (new : ∀ j, j < m → ∃ (z : Nat → Int) (hh : Int) (k p : Nat), stC z (10 + 3 * (n0 + j)) hh k p M' ∧ rowZ z (n0 + j) hh k p M' ∧ 4 ≤ k ∧ k ≤ 12 ∧ 0 ≤ hh ∧ hh ≤ 9 ∧ ∀ i, i < k → dg (z (p + 2 + i))) : Rel B M' := by
  have cc : chg [0, 1, 4, 8, 12] M M' := fun a k nn => by
    by_cases g : a ≤ 277
    · by_cases q1 : a = 1
      · subst q1
        refine absurd ?_ nn
        by_cases z : k = 1
        · subst z; decide
        · rw [show rg 1 k = (if k = 1 then 1 else 0) from rfl, if_neg z]; decide
      by_cases q2 : 10 ≤ a ∧ a ≤ 18
      · exact absurd (by rcases rg_D12 (k := k) q2.1 q2.2 with e | e <;> rw [e] <;> decide) nn
      by_cases q3 : a = 3 ∧ k = 2
      · obtain ⟨rfl, rfl⟩ := q3; exact absurd (by decide) nn
      by_cases q4 : a = 45 ∧ k = 2
      · obtain ⟨rfl, rfl⟩ := q4; exact absurd (by decide) nn
      exact lo a k g q1 (by omega) q3 q4
    · by_cases q1 : a = 278
      · subst q1
        by_cases q2 : k ≠ 1 ∧ k ≠ 10 ∧ k ≠ 13 ∧ ¬ (14 ≤ k ∧ k ≤ 18) ∧ k ≠ 31 ∧ k ≠ 51
        · exact h8 k q2.1 q2.2.1 q2.2.2.1 q2.2.2.2.1 q2.2.2.2.2.1 q2.2.2.2.2.2
        · have : k = 1 ∨ k = 10 ∨ k = 13 ∨ k = 14 ∨ k = 15 ∨ k = 16 ∨ k = 17 ∨ k = 18 ∨ k = 31 ∨ k = 51 := by omega
          rcases this with rfl | rfl | rfl | rfl | rfl | rfl | rfl | rfl | rfl | rfl <;> exact absurd (by decide) nn
      by_cases q2 : a = 279
      · subst q2; exact absurd (by decide : (4 : Nat) ∈ [0, 1, 4, 8, 12]) nn
      by_cases q3 : a = 280
      · subst q3; exact absurd (by decide : (12 : Nat) ∈ [0, 1, 4, 8, 12]) nn
      by_cases q4 : a = 285
      · subst q4; exact absurd (by decide : (0 : Nat) ∈ [0, 1, 4, 8, 12]) nn
      · rw [hi a (by omega) q1 q2 q3 q4]
  obtain ⟨s1, s2, s3, s3a, s3b, s4⟩ := h.S
  obtain ⟨d1, d2, d3, d4⟩ := h.D
  obtain ⟨u1, u2, u3, u4, u5, u6⟩ := h.U
  have e33 : M' 3 3 = M 3 3 := lo 3 3 (by decide) (by decide) (by omega) (by omega) (by omega)
  -- the DONKEYS that were there, and the new ones
  have don : ∀ d : Nat, d < n0 + m → M' (10 + 3 * d) 2 = M' 280 d ∧ 4 ≤ M' 280 d ∧ M' 280 d ≤ 12 ∧ snD (10 + 3 * d) 279 (0 + 55 * d) (M' 280 d) (M' 3 3) M' := fun d hd => by
    by_cases q : d < n0
    · have low : ∀ c k, 10 + 3 * d ≤ c → c < 10 + 3 * d + 3 → M' c k = M c k := fun c k a b => lo c k (by omega) (by omega) (by omega) (by omega) (by omega)
      obtain ⟨a1, a2⟩ := d4 d (by omega)
      rw [show 3 + 7 + 3 * d = 10 + 3 * d by omega] at a1 a2
      rw [h80 d q, low _ _ (by omega) (by omega), e33]
      refine ⟨a1, (s4 d (by omega)).2.1, (s4 d (by omega)).2.2, ?_⟩
      exact a2.cg (Int.le_refl _) (funext fun k => low _ k (by omega) (by omega)) (funext fun k => low _ k (by omega) (by omega)) (fun k _ => low _ k (by omega) (by omega)) (fun k x y => h9 k (by omega))
    · obtain ⟨z, hh, k, p, ⟨c1, c2, c3, c4, c5⟩, ⟨r1, r2, r3, r4, r5, r6⟩, w1, w2, w3, w4, w5⟩ := new (d - n0) (by omega)
      rw [show n0 + (d - n0) = d by omega] at c1 c2 c3 c4 c5 r1 r2 r3 r4 r5 r6
      rw [r1, show 0 + 55 * d = 55 * d by omega]
      refine ⟨c2, by omega, by omega, ⟨?_, ?_, ?_, fun p' hp => ?_⟩, ⟨?_, ?_, ?_, ?_, ?_, ?_, ?_, ?_, fun p' hp => ?_⟩, fun p' x y => ?_, ?_, fun j x y => ?_⟩
      · show M' (10 + 3 * d) 3 = M' 279 (55 * d + 1); rw [c3, r3]
      · show M' (10 + 3 * d) 4 = M' 279 (55 * d); rw [c1, r2]
      · show M' (10 + 3 * d) 5 = M' 279 (55 * d + 2); rw [c4, r4]
      · show M' (10 + 3 * d + 1) p' = M' 279 (55 * d + 3 + p'); rw [c5 p' (by omega), r5 p' (by omega)]
      · omega
      · omega
      · show 0 ≤ M' (10 + 3 * d) 3; omega
      · show M' (10 + 3 * d) 3 < _; omega
      · show 0 ≤ M' (10 + 3 * d) 4; omega
      · show M' (10 + 3 * d) 4 ≤ 9; omega
      · show 0 ≤ M' (10 + 3 * d) 5; omega
      · show M' (10 + 3 * d) 5 < _; omega
      · show 0 ≤ M' (10 + 3 * d + 1) p' ∧ M' (10 + 3 * d + 1) p' ≤ 9
        have := w5 p' (by omega)
        rw [c5 p' (by omega)]; omega
      · exact r6 p' (by omega) y
      · rw [c4, e33]; exact d2
      · omega
  refine ⟨?_, h.F.cg (cc.same fun x hx => by rw [hx]; decide), h.R.cg (fun a k hr => cc a k (by rw [hr]; decide)), ⟨?_, ?_, ?_, ?_⟩, h.C.cg (cc.same fun x hx => by rw [hx]; decide), h.O.cg (by rw [n1]; omega) (cc.same fun x hx => by rw [hx]; decide), h.H.cg (cc.same fun x hx => by rw [hx]; decide), ?_, ?_, h.W.cg (cc.same fun x hx => by rw [hx]; decide), h.N.cg (cc.same fun x hx => by rw [hx]; decide), ⟨?_, ?_, ?_, ?_, ?_, ?_⟩⟩
  · unfold C_T
    rw [t1, t2]
    exact ⟨rfl, by decide, by decide, fun i hi => by omega⟩
  · rw [e33, h9 _ (by omega)]; exact d1
  · rw [e33]; exact d2
  · rw [e33]; exact d3
  · intro d hd
    obtain ⟨a1, a2, a3, a4⟩ := don d (by omega)
    rw [show 3 + 7 + 3 * d = 10 + 3 * d by omega]
    exact ⟨a1, a4⟩
  · -- what can be undone
    have e451 : M' 45 1 = M 45 1 := lo 45 1 (by decide) (by decide) (by omega) (by omega) (by omega)
    rcases n3 with ⟨m0, x1, x2, x3⟩ | ⟨m0, x1, x2, x3⟩
    · have eu : ∀ i, usc M' i = usc M i := fun i => by unfold usc; rw [e451]
      unfold C_U
      rw [e451, x2, x3, n1]
      refine ⟨u1, u2, u3, u4, u5, fun i hi' => ?_⟩
      have hu := usc_in (i := i) u1 u2 (by omega)
      rw [eu]
      have hr : ∀ c q, 47 ≤ c → c ≤ 222 → M' c q = M c q := fun c q a b => lo c q (by omega) (by omega) (by omega) (by omega) (by omega)
      obtain ⟨q1, q2, q3, q4, q5⟩ := u6 i hi'
      have e288 : M' 288 = M 288 := hi 288 (by decide) (by decide) (by decide) (by decide) (by decide)
      rw [hr (usc M i) 2 (by omega) (by omega), hr (usc M i) 5 (by omega) (by omega), show ((n0 + m : Nat) : Int) = M 3 2 by omega, e288]
      exact ⟨q1, q2.cg s3 (hr _ _ (by omega) (by omega)) (fun c q a b => hr c q (by omega) (by omega)) (fun q _ _ => by rw [e288]) (fun d hd => h80 d (by omega)), q3.cg (fun q k a b => hr _ _ (by omega) (by omega)) (fun k _ => rfl), q4, q5⟩
    · unfold C_U
      rw [e451, x2, x3]
      exact ⟨u1, u2, rfl, by decide, by decide, fun i hi' => by omega⟩
  · -- what is kept
    intro i hi'
    obtain ⟨k1, k2, k3⟩ := h.K i hi'
    have hr : ∀ c q, 246 ≤ c → c ≤ 277 → M' c q = M c q := fun c q a b => lo c q (by omega) (by omega) (by omega) (by omega) (by omega)
    have e304 : M' 304 = M 304 := hi 304 (by decide) (by decide) (by decide) (by decide) (by decide)
    have e305 : M' 305 = M 305 := hi 305 (by decide) (by decide) (by decide) (by decide) (by decide)
    have e306 : M' 306 = M 306 := hi 306 (by decide) (by decide) (by decide) (by decide) (by decide)
    rw [e304, e305, e306, hr (246 + 16 * i) 4 (by omega) (by omega), hr (246 + 16 * i) 2 (by omega) (by omega), n1]
    refine ⟨k1, k2, fun q => ?_⟩
    obtain ⟨y1, y2, y3, y4⟩ := k3 q
    refine ⟨?_, by omega, ?_, fun y => ?_⟩
    · rcases n3 with ⟨m0, x1, x2, x3⟩ | ⟨m0, x1, x2, x3⟩ <;> omega
    · rcases n3 with ⟨m0, x1, x2, x3⟩ | ⟨m0, x1, x2, x3⟩
      · rw [x1, show ((n0 + m : Nat) : Int) = M 3 2 by omega]; exact y3
      · constructor <;> intro y <;> omega
    · have em : m = 0 := by omega
      rw [show ((n0 + m : Nat) : Int) = M 3 2 by omega] at y ⊢
      obtain ⟨b1, b2⟩ := y4 y
      exact ⟨b1.cg s3 (hr _ _ (by omega) (by omega)) (fun c q a b => hr c q (by omega) (by omega)) (fun q _ _ => by rw [e304]) (fun d hd => h80 d (by omega)), b2.cg (fun q k a b => hr _ _ (by omega) (by omega)) (fun k _ => rfl)⟩
  · rw [n2, n1]
  · rw [n1]; omega
  · rw [n1]; omega
  · rcases n3 with ⟨m0, x1, x2, x3⟩ | ⟨m0, x1, x2, x3⟩ <;> omega
  · rcases n3 with ⟨m0, x1, x2, x3⟩ | ⟨m0, x1, x2, x3⟩ <;> omega
  · intro d hd
    obtain ⟨a1, a2, a3, a4⟩ := don d (by omega)
    exact ⟨a1.symm, a2, a3⟩
theorem c_stable {B : Int} {M : MEM} (h : Rel B M) : Lk B (dh_stable M) mo_stable := by
  have hT := h.T
  obtain ⟨t1, t2, t3, t4⟩ := h.T
  obtain ⟨s1, s2, s3, s3a, s3b, s4⟩ := h.S
  obtain ⟨L, hL⟩ : ∃ L : Nat, M 1 1 = (L : Int) := ⟨(M 1 1).toNat, by omega⟩
  obtain ⟨n0, h0⟩ : ∃ n0 : Nat, M 3 2 = (n0 : Int) := ⟨(M 3 2).toNat, by omega⟩
  have r0 := rdC_0 (m := 76) hT hL
  have hz : ∀ i, L ≤ i → zT 76 M i = -1 := fun i hi => zT_end hL hi
  -- the reference's start
  have mo0 : ∀ N : MEM, N 283 = M 283 → N 278 10 = M 1 1 → ∃ N4, mo_stable N = (if (L : Int) = 0 then some (0, N4) else (iter (fun s => mo_stable_b37 s.1 s.2.1 s.2.2) FU (0, 1, N4)).bind fun w => mo_stable_j90 w.1 w.2.2) ∧ rdM (zT 76 M) L 0 N4 ∧ (∀ c, c ≠ 278 → N4 c = N c) ∧ (∀ k, k ≠ 10 → k ≠ 13 → ¬ (14 ≤ k ∧ k ≤ 18) → N4 278 k = N 278 k) ∧ N4 278 10 = 0 := fun N e1 e2 => by
    obtain ⟨N3, e3, r3, f1, f2⟩ := rdM_0 (m := 76) (N := up2 N 278 13 0) hT hL (by rw [up2_ne (by decide)]; exact e1)
    refine ⟨up2 N3 278 10 0, ?_, r3.up10, fun c a => by rw [up2_ne a, f1 c a, up2_ne a], fun k a b c => by rw [rd_k a, f2 k (by omega), rd_k b], rd_same⟩
    unfold mo_stable
    rw [Option.bind_some, rd_k (by decide), e2, hL, e3, Option.bind_some, Option.bind_some, r3.up10.2.1]
  unfold Lk dh_stable
  generalize hM2 : up2 (up2 M 1 2 0) 1 3 (min (M 1 1) 76) = M2 at r0
  have b2 : tx_begin 76 M = some M2 := by rw [← hM2]; exact begin_eq
  have m2 : ∀ c, c ≠ 1 → M2 c = M c := fun c hc => by rw [← hM2, up2_ne hc, up2_ne hc]
  refine Tc_e b2 ?_
  rw [r0.1]
  -- nothing comes
  have none : ∀ (v : Int) (Mr : MEM), v ≤ 0 → (∀ c, c ≠ 1 → ¬ (10 + 3 * n0 ≤ c ∧ c ≤ 18) → Mr c = M c) → (∀ N : MEM, N 283 = M 283 → N 278 10 = M 1 1 → N 278 1 = (n0 : Int) → ∃ N', mo_stable N = some (v, N') ∧ (∀ c, c ≠ 278 → c ≠ 285 → N' c = N c) ∧ (∀ k, k ≠ 10 → k ≠ 13 → ¬ (14 ≤ k ∧ k ≤ 18) → N' 278 k = N 278 k) ∧ N' 278 10 = 0) → Tc (dh_stable_j27 v Mr) (fun p => Tc (mo_stable p.2) (fun q => q.1 = p.1 ∧ Rel B q.2)) := fun v Mr hv hr hm => by
    unfold dh_stable_j27 tx_empty
    refine Tc_u (Tc_t hv (Tc_some ?_))
    have m5 : ∀ c, c ≠ 1 → ¬ (10 + 3 * n0 ≤ c ∧ c ≤ 18) → up2 Mr 1 1 0 c = M c := fun c a b => by rw [up2_ne a]; exact hr c a b
    obtain ⟨N', e', f1, f2, f3⟩ := hm (up2 Mr 1 1 0) (m5 283 (by decide) (by omega)) (by rw [m5 278 (by decide) (by omega)]; exact t1) (by rw [m5 278 (by decide) (by omega), s1]; exact h0)
    refine ⟨_, e', rfl, ?_⟩
    dsimp only
    refine Rel_st (n0 := n0) (m := 0) h h0 (fun c k a b d _ _ => by rw [f1 c (by omega) (by omega), m5 c b d]) (fun c a b _ _ d => by rw [f1 c b d, m5 c (by omega) (by omega)]) (fun k _ a b d _ _ => by rw [f2 k a b d, m5 278 (by decide) (by omega)]) (fun q _ => by rw [f1 279 (by decide) (by decide), m5 279 (by decide) (by omega)]) (fun d _ => by rw [f1 280 (by decide) (by decide), m5 280 (by decide) (by omega)]) (by rw [f1 1 (by decide) (by decide)]; exact rd_same) f3 ?_ ?_ (by omega) (Or.inl ⟨rfl, ?_, ?_, ?_⟩) (fun j hj => by omega)
    · rw [f1 3 (by decide) (by decide), m5 3 (by decide) (by omega)]; exact h0
    · rw [f2 1 (by decide) (by decide) (by omega), m5 278 (by decide) (by omega), s1]; exact h0
    · rw [f2 51 (by decide) (by decide) (by omega), m5 278 (by decide) (by omega)]
    · rw [f1 45 (by decide) (by decide), m5 45 (by decide) (by omega)]
    · rw [f2 31 (by decide) (by decide) (by omega), m5 278 (by decide) (by omega)]
  by_cases hL0 : L = 0
  · refine Tc_t (by omega) (none 0 M2 (Int.le_refl _) (fun c a _ => m2 c a) (fun N e1 e2 _ => ?_))
    obtain ⟨N4, e4, -, f4, f5, f6⟩ := mo0 N e1 e2
    exact ⟨N4, by rw [e4, if_pos (by omega)], fun c a _ => f4 c a, f5, f6⟩
  · refine Tc_f (by omega) ?_
    obtain ⟨N, hN, h1, h2⟩ := first_not (lS (zT 76 M)) (3 - n0)
    obtain ⟨⟨v, Mr⟩, er, fr, out⟩ := readLinesC (n0 := n0) (N := N) r0 hz (by rw [m2 3 (by decide)]; exact h0) (by omega) hN h1 h2
    dsimp only at fr out
    have mr : ∀ c, c ≠ 1 → ¬ (10 + 3 * n0 ≤ c ∧ c ≤ 18) → Mr c = M c := fun c a b => by rw [fr.1 c a b, m2 c a]
    refine Tc_e er ?_
    dsimp only
    rcases out with ⟨hg, hv, st⟩ | ⟨hg, hv, hF⟩
    · subst hv
      unfold dh_stable_j27 tx_empty
      refine Tc_u (Tc_f (by omega) (Tc_u ?_))
      rw [rd_a (a := 1) (a' := 3) (by decide), mr 3 (by decide) (by omega), h0, wr_i (x := (n0 : Int) + ((N + 1 : Nat) : Int)) (by omega) (by omega)]
      unfold hi_clear
      refine Tc_u (Tc_some ?_)
      dsimp only
      have m9 : ∀ c k, c ≠ 1 → ¬ (c = 3 ∧ k = 2) → ¬ (c = 45 ∧ k = 2) → up2 (up2 (up2 Mr 1 1 0) 3 2 ((n0 : Int) + ((N + 1 : Nat) : Int))) 45 2 0 c k = Mr c k := fun c k a b d => by
        rw [up2_at, if_neg d, up2_at, if_neg b, up2_ne a]
      have m9a : up2 (up2 (up2 Mr 1 1 0) 3 2 ((n0 : Int) + ((N + 1 : Nat) : Int))) 45 2 0 1 1 = 0 := by rw [rd_a (by decide), rd_a (by decide), rd_same]
      have m9b : up2 (up2 (up2 Mr 1 1 0) 3 2 ((n0 : Int) + ((N + 1 : Nat) : Int))) 45 2 0 3 2 = (n0 : Int) + ((N + 1 : Nat) : Int) := by rw [rd_a (by decide), rd_same]
      have m9c : up2 (up2 (up2 Mr 1 1 0) 3 2 ((n0 : Int) + ((N + 1 : Nat) : Int))) 45 2 0 45 2 = 0 := rd_same
      generalize up2 (up2 (up2 Mr 1 1 0) 3 2 ((n0 : Int) + ((N + 1 : Nat) : Int))) 45 2 0 = M9 at *
      have r9 : ∀ c, c ≠ 1 → c ≠ 3 → c ≠ 45 → M9 c = Mr c := fun c a b d => funext fun k => m9 c k a (fun y => b y.1) (fun y => d y.1)
      have hr0 := hg.1
      obtain ⟨N4, e4, r4, f4, f5, f6⟩ := mo0 M9 (by rw [r9 283 (by decide) (by decide) (by decide)]; exact mr 283 (by decide) (by omega)) (by rw [r9 278 (by decide) (by decide) (by decide), mr 278 (by decide) (by omega)]; exact t1)
      have n41 : N4 278 1 = (n0 : Int) := by rw [f5 1 (by decide) (by decide) (by omega), r9 278 (by decide) (by decide) (by decide), mr 278 (by decide) (by omega), s1]; exact h0
      obtain ⟨w, M', ew, ej, fD, o⟩ := readLinesM2 (n0 := n0) r4 hz n41 (by omega) hN h1 h2
      obtain ⟨-, p1, p2⟩ := o.resolve_right (fun y => y.1 hg)
      have hw : ∀ j, j < N + 1 → ∃ e hh k, rline (zT 76 M) (lP (zT 76 M) j) = .inr (e, hh, k) := fun j hj => by
        by_cases e : j = N
        · subst e
          obtain ⟨-, ⟨e, hh, k⟩, hx, -⟩ := hg
          exact ⟨e, hh, k, hx⟩
        · obtain ⟨⟨e, hh, k⟩, hx, -⟩ := h1 j (by omega)
          exact ⟨e, hh, k, hx⟩
      obtain ⟨⟨x3, Ma⟩, ea, a1, a2, a3, a4, a5, a6⟩ := addM (n0 := n0) (m := N + 1) (M0 := M') (by rw [fD.2 1 (by decide) (by decide)]; exact n41) (by omega) hw p2
      dsimp only at a1 a2 a3 a4 a5 a6
      have e51 : Ma 278 51 = M 278 51 := by rw [a3 51 (by decide), fD.2 51 (by decide) (by decide), f5 51 (by decide) (by decide) (by omega), r9 278 (by decide) (by decide) (by decide), mr 278 (by decide) (by omega)]
      refine ⟨(((N + 1 : Nat) : Int), up2 (up2 Ma 278 31 0) 278 51 (M 278 51 + 1)), ?_, rfl, ?_⟩
      · rw [e4, if_neg (by omega), ew, Option.bind_some, ej]
        unfold mo_stable_j109
        rw [show mo_fine M' = 1 by unfold mo_fine; rw [p1, if_pos rfl], if_neg (by decide), ea, Option.bind_some, Option.bind_some]
        dsimp only
        rw [rd_k (by decide), e51, wr_i (x := M 278 51 + 1) (by omega) (by omega)]
        rfl
      dsimp only
      have fx : ∀ c, c ≠ 278 → c ≠ 279 → c ≠ 280 → c ≠ 285 → up2 (up2 Ma 278 31 0) 278 51 (M 278 51 + 1) c = M9 c := fun c x y v u => by rw [up2_ne x, up2_ne x, a2 c x y v, fD.1 c x u, f4 c x]
      refine Rel_st (n0 := n0) (m := N + 1) h h0 (fun c k a b d x y => ?_) (fun c a b d e f => ?_) (fun k x1 x2 x3 x4 x5 x6 => ?_) (fun q hq => ?_) (fun d hd => ?_) ?_ ?_ ?_ ?_ (by omega) (Or.inr ⟨by omega, rd_same, ?_, ?_⟩) (fun j hj => ?_)
      · rw [fx c (by omega) (by omega) (by omega) (by omega), m9 c k b x y, mr c b d]
      · rw [fx c b d e f, r9 c (by omega) (by omega) (by omega), mr c (by omega) (by omega)]
      · rw [rd_k x6, rd_k x5, a3 k x1, fD.2 k (by omega) (by omega), f5 k x2 x3 x4, r9 278 (by decide) (by decide) (by decide), mr 278 (by decide) (by omega)]
      · rw [up2_ne (by decide), up2_ne (by decide), a4 q hq, fD.1 279 (by decide) (by decide), f4 279 (by decide), r9 279 (by decide) (by decide) (by decide), mr 279 (by decide) (by omega)]
      · rw [up2_ne (by decide), up2_ne (by decide), a5 d hd, fD.1 280 (by decide) (by decide), f4 280 (by decide), r9 280 (by decide) (by decide) (by decide), mr 280 (by decide) (by omega)]
      · rw [fx 1 (by decide) (by decide) (by decide) (by decide)]; exact m9a
      · rw [rd_k (by decide), rd_k (by decide), a3 10 (by decide), fD.2 10 (by decide) (by decide)]; exact f6
      · rw [fx 3 (by decide) (by decide) (by decide) (by decide), m9b]; omega
      · rw [rd_k (by decide), rd_k (by decide)]; exact a1
      · rw [fx 45 (by decide) (by decide) (by decide) (by decide)]; exact m9c
      · rw [rd_k (by decide), rd_same]
      · obtain ⟨e, hh, k, hx⟩ := hw j hj
        obtain ⟨w1, w2, w3, w4, w5, w6⟩ := rline_wf hx
        refine ⟨_, hh, k, _, ?_, ?_, w1, w2, w4, w5, w6⟩
        · have := st j hj e hh k hx
          unfold stC at *
          rw [fx _ (by omega) (by omega) (by omega) (by omega), fx _ (by omega) (by omega) (by omega) (by omega), r9 _ (by omega) (by omega) (by omega), r9 _ (by omega) (by omega) (by omega)]
          exact this
        · have := a6 j hj e hh k hx
          unfold rowZ at *
          rw [up2_ne (M := up2 Ma 278 31 0) (a' := 280) (by decide), up2_ne (M := up2 Ma 278 31 0) (a' := 279) (by decide), up2_ne (M := Ma) (a' := 280) (by decide), up2_ne (M := Ma) (a' := 279) (by decide)]
          exact this
    · subst hv
      refine none _ Mr (by omega) mr (fun N' e1 e2 e3 => ?_)
      obtain ⟨N4, e4, r4, f4, f5, f6⟩ := mo0 N' e1 e2
      have n41 : N4 278 1 = (n0 : Int) := by rw [f5 1 (by decide) (by decide) (by omega)]; exact e3
      obtain ⟨w, M', ew, ej, fD, o⟩ := readLinesM2 (n0 := n0) r4 hz n41 (by omega) hN h1 h2
      obtain ⟨-, p1⟩ := o.resolve_left (fun y => hg y.1)
      refine ⟨M', ?_, fun c a b => by rw [fD.1 c a b, f4 c a], fun k a b d => by rw [fD.2 k (by omega) (by omega), f5 k a b d], by rw [fD.2 10 (by decide) (by decide)]; exact f6⟩
      rw [e4, if_neg (by omega), ew, Option.bind_some, ej]
      unfold mo_stable_j109
      have p1' : M' 278 18 = ((lF (zT 76 M) (3 - n0) N : Nat) : Int) := p1
      rw [p1.fine, if_pos rfl, p1', wr_i (by omega) (by omega)]
