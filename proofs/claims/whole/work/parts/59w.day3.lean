theorem strokes_as {B : Int} {M M' : MEM} (R : Rel B M) (hB : B ≤ 100000000) (e : ∀ c, c = 3 ∨ (10 ≤ c ∧ c ≤ 18) → M' c = M c) : sc_allStrokes 3 M' = some (sS M) ∧ sS M' = sS M ∧ 0 ≤ sS M ∧ sS M ≤ 300000000 := by
  obtain ⟨s1, s2, s3, -⟩ := R.S
  obtain ⟨d1, d2, d3, d4⟩ := R.D
  have e2 : sS M' = sS M := by
    unfold sS
    rw [e 3 (by omega)]
    exact sumN_congr (fun d hd => by rw [e _ (by omega)])
  have b := sS_bd R (by omega)
  refine ⟨?_, e2, b.1, by omega⟩
  rw [← e2]
  refine strokes_eq (by rw [e 3 (by omega)]; exact s2) (by rw [e 3 (by omega)]; exact s3) (fun d hd => ?_)
  rw [e 3 (by omega)] at hd
  rw [e _ (by omega)]
  obtain ⟨a1, a2, a3, a4, a5, a6⟩ := d4 d hd
  have : 0 ≤ M (3 + 7 + 3 * d) 5 := a3.2.2.2.2.2.2.1
  rw [show 3 + 7 + 3 * d = 10 + 3 * d by omega] at this a5
  omega
theorem day_tailC {B : Int} {M P Mk : MEM} {n c : Nat} {r14 : Int} (R : Rel B P) (hB : B ≤ 100000000) (e : ∀ c, c = 3 ∨ (10 ≤ c ∧ c ≤ 18) → Mk c = P c) (m29 : Mk 29 4 = (n : Int)) (hr : 0 ≤ r14 ∧ r14 ≤ 300000000) :
    ∃ Mz, dh_day_j104 r14 (c : Int) Mk = some ((c : Int), Mz) ∧ offC Mk Mz ∧ rowC [if n ≤ c then 0 else 1, sS P - r14] Mz := by
  obtain ⟨Ma, ea, wa, oa⟩ := newRow_eq Mk
  have e29 : Ma 29 4 = (n : Int) := by rw [oa.cell (by decide) (by decide)]; exact m29
  have key : ∀ fl : Int, ∃ Mz, dh_day_j126 r14 (c : Int) fl Ma = some ((c : Int), Mz) ∧ offC Mk Mz ∧ rowC [fl, sS P - r14] Mz := fun fl => by
    obtain ⟨Mb, eb, wb, ob⟩ := tell_eq fl wa (by decide)
    have oab := oa.tr ob
    obtain ⟨st, st2, st3, st4⟩ := strokes_as (M' := Mb) R hB (fun c hc => by rw [oab.cell (by omega) (by omega)]; exact e c hc)
    obtain ⟨Mz, ez, wz, oz⟩ := tell_eq (sS P - r14) wb (by simp)
    refine ⟨Mz, ?_, oab.tr oz, wz⟩
    unfold dh_day_j126
    rw [eb, Option.bind_some, st, Option.bind_some, wr_i (by omega) (by omega), ez, Option.bind_some]
  unfold dh_day_j104
  rw [ea, Option.bind_some, e29]
  by_cases q : n ≤ c
  · rw [if_pos (by omega), if_pos q]; exact key 0
  · rw [if_neg (by omega), if_neg q]; exact key 1
theorem day_tailM {Nk : MEM} {n c : Nat} {v : Int} (hv : Nk 278 35 = v) : ∃ Nf, mo_day_j144 (n : Int) (c : Int) Nk = some ((c : Int), Nf) ∧ offX Nk Nf ∧ rowM [if n ≤ c then 0 else 1, v] Nf := by
  obtain ⟨x0, o0⟩ := moRow0 Nk
  have key : ∀ fl : Int, ∃ Nf, mo_day_j160 (c : Int) fl (up2 Nk 278 12 0) = some ((c : Int), Nf) ∧ offX Nk Nf ∧ rowM [fl, v] Nf := fun fl => by
    obtain ⟨N1, e1, x1, o1⟩ := moTell_eq fl x0 (by decide)
    obtain ⟨N2, e2, x2, o2⟩ := moTell_eq v x1 (by simp)
    have h35 : N1 278 35 = v := by rw [o1 278 35 (Or.inr (by decide)) (by decide), o0 278 35 (Or.inr (by decide)) (by decide)]; exact hv
    refine ⟨N2, ?_, (o0.tr o1).tr o2, x2⟩
    unfold mo_day_j160
    rw [e1, Option.bind_some, h35, e2, Option.bind_some]
  unfold mo_day_j144
  rw [Option.bind_some]
  by_cases q : n ≤ c
  · rw [if_pos (by omega), if_pos q]; exact key 0
  · rw [if_neg (by omega), if_neg q]; exact key 1
theorem day_chg {M X : MEM} (h1 : ∀ c, c ≤ 277 → c ≠ 1 → ¬ (29 ≤ c ∧ c ≤ 33) → X c = M c) (h2 : ∀ c, 277 < c → c ≠ 278 → c ≠ 291 → X c = M c) (h3 : ∀ k, k ≠ 10 → k ≠ 13 → ¬ (14 ≤ k ∧ k ≤ 18) → X 278 k = M 278 k) : chg [0, 1] M X := fun a k nn => by
  by_cases q1 : a = 1
  · subst q1
    refine absurd ?_ nn
    by_cases z : k = 1
    · subst z; decide
    · rw [show rg 1 k = (if k = 1 then 1 else 0) from rfl, if_neg z]; decide
  by_cases q2 : 29 ≤ a ∧ a ≤ 33
  · have : a = 29 ∨ a = 30 ∨ a = 31 ∨ a = 32 ∨ a = 33 := by omega
    rcases this with rfl | rfl | rfl | rfl | rfl <;> exact absurd (by decide : (0 : Nat) ∈ [0, 1]) nn
  by_cases q3 : a = 278
  · subst q3
    by_cases q2 : k ≠ 10 ∧ k ≠ 13 ∧ ¬ (14 ≤ k ∧ k ≤ 18)
    · exact h3 k q2.1 q2.2.1 q2.2.2
    · have : k = 10 ∨ k = 13 ∨ k = 14 ∨ k = 15 ∨ k = 16 ∨ k = 17 ∨ k = 18 := by omega
      rcases this with rfl | rfl | rfl | rfl | rfl | rfl | rfl <;> exact absurd (by decide) nn
  by_cases q4 : a = 291
  · subst q4; exact absurd (by decide : (0 : Nat) ∈ [0, 1]) nn
  by_cases g : a ≤ 277
  · rw [h1 a g q1 q2]
  · rw [h2 a (by omega) q3 q4]
theorem c_day {B : Int} {M : MEM} (h : Rel B M) (hB : B ≤ 99900000) : Lk (B + 12000) (dh_day M) mo_day := by
  obtain ⟨t1, t2, t3, t4⟩ := h.T
  obtain ⟨s1, s2, s3, s3a, s3b, s4⟩ := h.S
  obtain ⟨u1, u2, u3, u4, u5, u6⟩ := h.U
  have hB0 : 0 ≤ B := by have := h.D.2.1; have := h.D.2.2.1; omega
  have hu := usc_in (i := (M 45 2).toNat) u1 u2 (by omega)
  obtain ⟨M2, Mr, fl, b2, er, ⟨fr1, fr2⟩, out⟩ := day_read h
  unfold Lk dh_day
  refine Tc_e b2 (Tc_e er ?_)
  unfold tx_empty
  refine Tc_u (Tc_u ?_)
  dsimp only
  have m11 : ∀ c, c ≠ 1 → ¬ (29 ≤ c ∧ c ≤ 33) → up2 Mr 1 1 0 c = M c := fun c x y => by rw [up2_ne x, fr1 c x y]
  rcases out with ⟨n, hn, hw, hfl, m29, dC, rd⟩ | ⟨F, hfl, hwr, rd⟩
  · refine Tc_f (by omega) ?_
    obtain ⟨st, st2, st3, st4⟩ := strokes_as (M' := up2 Mr 1 1 0) h (by omega) (fun c hc => m11 c (by omega) (by omega))
    refine Tc_e st ?_
    have e45 : up2 Mr 1 1 0 45 = M 45 := m11 45 (by decide) (by decide)
    have eu : usc (up2 Mr 1 1 0) (up2 Mr 1 1 0 45 2).toNat = usc M (M 45 2).toNat := by unfold usc; rw [e45]
    obtain ⟨M18, e18, k1, k2, k3, k4⟩ := prepare_eq (M := up2 Mr 1 1 0) (wc := 1) (by rw [e45]; exact u1) (by rw [e45]; exact u2) (by rw [e45]; exact u4) (by rw [e45]; exact u5) (by rw [m11 3 (by decide) (by decide)]; exact s2) (by rw [m11 3 (by decide) (by decide)]; exact s3) (Or.inr rfl)
    have k4' := k4
    rw [eu] at k4'
    refine Tc_e e18 ?_
    obtain ⟨N1, -, -, dM, f⟩ := rd M rfl t1
    obtain ⟨N3, c, M', N', -, -, g1, -, g3, g4, g5, g6, g7⟩ := day_run (r14 := sS M) h hB0 hB hn hw fr1 m29 dC k4' (fun c _ => rfl) (fun _ _ _ => rfl) f dM
    refine Tc_e g1 ?_
    dsimp only
    -- the class's end
    have hi18 : ∀ c, (c < 47 ∨ 222 < c) → M18 c = up2 Mr 1 1 0 c := fun c hc => k4' c (by omega)
    have tail : ∃ Mk, (∀ c, c ≠ 45 → Mk c = M' c) ∧ ((c = 0 ∧ Mk = M') ∨ (0 < c ∧ Mk 45 2 = (if M 45 2 = 10 then 10 else M 45 2 + 1) ∧ Mk 45 1 = (if M 45 2 = 10 then (M 45 1 + 1) % 11 else M 45 1))) ∧ dh_day_j92 (sS M) (c : Int) M' = dh_day_j104 (sS M) (c : Int) Mk := by
      by_cases c0 : c = 0
      · exact ⟨M', fun _ _ => rfl, Or.inl ⟨c0, rfl⟩, by unfold dh_day_j92; rw [if_pos (by omega)]⟩
      · have e45' : M' 45 = M 45 := by rw [g5.1 45 (by decide), hi18 45 (by omega), e45]
        obtain ⟨Mk, ek, q1, q2, q3⟩ := commit_eq (M := M') (by rw [e45']; exact u1) (by rw [e45']; exact u2) (by rw [e45']; exact u4) (by rw [e45']; exact u5)
        rw [e45'] at q1 q2
        exact ⟨Mk, q3, Or.inr ⟨by omega, q1, q2⟩, by unfold dh_day_j92; rw [if_neg (by omega), ek, Option.bind_some]⟩
    obtain ⟨Mk, ok, hk, ek⟩ := tail
    obtain ⟨Mz, ez, oz, wz⟩ := day_tailC (Mk := Mk) (n := n) (c := c) (r14 := sS M) (M := M) g4 (by omega) (fun c hc => by rw [ok c (by omega), mrg_lo (by omega)]) (by rw [ok 29 (by decide), g5.1 29 (by decide), hi18 29 (by omega), up2_ne (by decide)]; exact m29) ⟨st3, st4⟩
    rw [sS_mrg (by rw [g5.2.2.2.1, hi18 3 (by omega), m11 3 (by decide) (by decide)]; exact s3)] at wz
    rw [ek]
    refine ⟨_, ez, ?_⟩
    dsimp only
    -- the reference
    have zk : ∀ c, c ≠ 0 → c ≠ 245 → c ≠ 45 → Mz c = M' c := fun c x y w => by rw [oz.cell x y, ok c w]
    have zhi : ∀ c, 277 < c → Mz c = M c := fun c hc => by rw [zk c (by omega) (by omega) (by omega), g5.1 c (by omega), hi18 c (by omega), m11 c (by omega) (by omega)]
    have z3 : ∀ a k, rg a k = 3 → Mz a k = M a k := fun a k hr => by
      have a1 : a ≠ 1 := fun y => by
        subst y
        by_cases z : k = 1
        · subst z; revert hr; decide
        · rw [show rg 1 k = (if k = 1 then 1 else 0) from rfl, if_neg z] at hr; omega
      have a2 : ¬ (29 ≤ a ∧ a ≤ 33) := fun y => by
        have : a = 29 ∨ a = 30 ∨ a = 31 ∨ a = 32 ∨ a = 33 := by omega
        rcases this with rfl | rfl | rfl | rfl | rfl <;> exact absurd hr (by decide : ¬ (0 : Nat) = 3)
      have a3 : ¬ (45 ≤ a ∧ a ≤ 222) := fun y => by rw [rg_U y.1 y.2] at hr; omega
      rw [oz a k (by
        by_cases z : a = 0
        · exact Or.inr (fun y => by subst z y; revert hr; decide)
        · exact Or.inl z) (fun y => by subst y; exact absurd hr (by decide : ¬ (10 : Nat) = 3)), ok a (by omega), g5.2.2.2.2 a k (by rw [hr]; decide), hi18 a (by omega), m11 a a1 a2]
    obtain ⟨N1, en1, n18, dM, f⟩ := rd Mz (zhi 283 (by decide)) (by rw [zhi 278 (by decide)]; exact t1)
    obtain ⟨N3, c', M'', N', e3, ⟨a1, a2, a3, a4, a5⟩, y1, y2, y3, y4, y5, y6, y7⟩ := day_run (r14 := sS M) h hB0 hB hn hw fr1 m29 dC k4' zhi z3 f dM
    have eqp : ((c : Int), M') = ((c' : Int), M'') := Option.some.inj (g1.symm.trans y1)
    have eM : M' = M'' := congrArg Prod.snd eqp
    have ec : (c : Int) = (c' : Int) := congrArg Prod.fst eqp
    have ec' : c = c' := by omega
    subst eM ec'
    have e18' : sS M18 = sS M := by
      unfold sS
      rw [hi18 3 (by omega), m11 3 (by decide) (by decide)]
      exact sumN_congr (fun d hd => by rw [hi18 _ (by omega), m11 _ (by omega) (by omega)])
    have loN : ∀ c, c ≤ 277 → N' c = Mz c := fun c hc => by rw [y6.1 c (by omega) (by omega) (by omega) (by omega), up2_ne (by omega), a1 c (by omega), f.1 c (by omega) (by omega)]
    have h31 : N' 278 31 = M 278 31 := by rw [y6.2.1 31 (by decide) (by decide) (by decide) (by omega), rd_k (by decide), a1 278 (by decide), f.2.1 31 (by decide) (by decide) (by omega), zhi 278 (by decide)]
    have tailM : ∃ Nk, (∀ c, c ≠ 278 → c ≠ 288 → Nk c = N' c) ∧ (∀ k, k ≠ 31 → Nk 278 k = N' 278 k) ∧ ((c = 0 ∧ Nk = N') ∨ (0 < c ∧ Nk 278 31 = (if N' 278 31 = 10 then 10 else N' 278 31 + 1) ∧
        ∀ j : Nat, (j : Int) = (if N' 278 31 = 10 then 9 else N' 278 31) → (∀ i, i < 208 → Nk 288 (208 * j + i) = N' 289 i) ∧ ∀ i' : Nat, i' < j → ∀ q, q < 208 → Nk 288 (208 * i' + q) = N' 288 (208 * (if N' 278 31 = 10 then i' + 1 else i') + q))) ∧ mo_day_j136 (n : Int) (c : Int) N' = mo_day_j144 (n : Int) (c : Int) Nk := by
      by_cases c0 : c = 0
      · exact ⟨N', fun _ _ _ => rfl, fun _ _ => rfl, Or.inl ⟨c0, rfl⟩, by unfold mo_day_j136; rw [if_pos (by omega)]⟩
      · obtain ⟨Nk, ek, q1, q2, q3, q4⟩ := remember_eq (M := N') (by rw [h31]; omega) (by rw [h31]; omega)
        exact ⟨Nk, q2, q3, Or.inr ⟨by omega, q1, q4⟩, by unfold mo_day_j136; rw [if_neg (by omega), ek, Option.bind_some]⟩
    obtain ⟨Nk, ok1, ok2, hkM, ekM⟩ := tailM
    obtain ⟨Nf, ef, oF, wF⟩ := day_tailM (Nk := Nk) (n := n) (c := c) (v := sS M' - sS M) (by rw [ok2 35 (by decide), y7, e18'])
    rw [en1]
    refine ⟨((c : Int), Nf), ?_, rfl, ?_⟩
    · unfold mo_day_j89
      rw [show mo_fine N1 = 1 by unfold mo_fine; rw [n18, if_pos rfl], if_neg (by decide), e3, Option.bind_some, Option.bind_some, y2, Option.bind_some]
      dsimp only
      rw [ekM, ef]
    dsimp only
    have loF : ∀ c, c ≤ 277 → Nf c = Mz c := fun c hc => by rw [oF.cell (by omega) (by omega), ok1 c (by omega) (by omega), loN c hc]
    have cW : C_W Nf := W_of (wz.off (by rw [loF 0 (by decide)]) (loF 245 (by decide))) wF (by simp)
    have cF : ∀ a k, (c = 0 ∨ rg a k ≠ 8) → rg a k ≠ 0 → rg a k ≠ 10 → Nf a k = mrg M' N' a k := fun a k r8 r0 r10 => by
      by_cases g : a ≤ 277
      · rw [mrg_lo g, loF a g, oz a k (by
          by_cases z : a = 0
          · exact Or.inr (fun y => r10 (by subst z y; rfl))
          · exact Or.inl z) (fun y => r10 (by subst y; rfl))]
        rcases hk with ⟨-, e⟩ | ⟨q, -⟩
        · rw [e]
        · rw [ok a (fun y => by subst y; exact absurd (rg_U (k := k) (by decide) (by decide)) (r8.resolve_left (by omega)))]
      · rw [mrg_hi (by omega), oF a k (by
          by_cases z : a = 278
          · exact Or.inr (fun y => r10 (by subst z y; rfl))
          · exact Or.inl z) (fun y => r10 (by subst y; rfl))]
        rcases hkM with ⟨-, e⟩ | ⟨q, -⟩
        · rw [e]
        · have r8' := r8.resolve_left (by omega)
          by_cases z : a = 278
          · subst z; exact ok2 k (fun y => r8' (by subst y; rfl))
          · rw [ok1 a z (fun y => r8' (by subst y; rfl))]
    by_cases c0 : c = 0
    · have cc : chg [0, 10] (mrg M' N') Nf := fun a k nn => cF a k (Or.inl c0) (fun y => nn (by rw [y]; decide)) (fun y => nn (by rw [y]; decide))
      exact y4.go10 cc cW
    · have cc : chg [0, 8, 10] (mrg M' N') Nf := fun a k nn => cF a k (Or.inr (fun y => nn (by rw [y]; decide))) (fun y => nn (by rw [y]; decide)) (fun y => nn (by rw [y]; decide))
      refine y4.go (Int.le_refl _) cc (by decide) (fun q => absurd q (by decide)) (fun q => absurd q (by decide)) (fun q => absurd q (by decide)) (fun q => absurd q (by decide)) (fun q => absurd q (by decide)) (fun q => absurd q (by decide)) (fun q => absurd q (by decide)) (fun _ => ?_) (fun q => absurd q (by decide)) (fun _ => cW) (fun q => absurd q (by decide))
      -- what can be undone
      have cP : chg [0, 1] M (mrg (up2 Mr 1 1 0) N1) := day_chg (fun c a b d => by rw [mrg_lo a, m11 c b d]) (fun c a b d => by rw [mrg_hi a, f.1 c b d, zhi c a]) (fun k a b d => by rw [mrg_hi (by decide), f.2.1 k a b d, zhi 278 (by decide)])
      have RP : Rel B (mrg (up2 Mr 1 1 0) N1) := by
        refine h.go (Int.le_refl _) cP (by decide) (fun _ => ?_) (fun q => absurd q (by decide)) (fun q => absurd q (by decide)) (fun q => absurd q (by decide)) (fun q => absurd q (by decide)) (fun q => absurd q (by decide)) (fun q => absurd q (by decide)) (fun q => absurd q (by decide)) (fun q => absurd q (by decide)) (fun q => absurd q (by decide)) (fun q => absurd q (by decide))
        unfold C_T
        rw [mrg_hi (by decide), f.2.2, mrg_lo (by decide), rd_same]
        exact ⟨rfl, by decide, by decide, fun i hi => by omega⟩
      obtain ⟨-, r2, r1⟩ := hk.resolve_left (fun y => c0 y.1)
      obtain ⟨-, m1, m4⟩ := hkM.resolve_left (fun y => c0 y.1)
      obtain ⟨M8, o8, o8', hc⟩ : ∃ M8 : MEM, M8 45 = Mk 45 ∧ (∀ c, c ≠ 45 → M8 c = M18 c) ∧ hC 1 (mrg (up2 Mr 1 1 0) N1) (mrg M8 N1) :=
        ⟨_, if_pos rfl, fun c hc => if_neg hc, (hC_of (M := up2 Mr 1 1 0) (M6 := M18) (R := Mk 45) (wc := 1) (by rw [e45]; exact u1) (by rw [e45]; exact u2) (by rw [e45]; exact u5) k1 k2 k3 k4 (by rw [e45]; exact r2) (by rw [e45]; exact r1)).mg (N := N1) (by rw [e45]; exact u1) (by rw [e45]; exact u2) (by rw [e45]; exact u5) (by rw [m11 3 (by decide) (by decide)]; exact s3)⟩
      have n31 : N' 278 31 = N1 278 31 := by rw [h31, f.2.1 31 (by decide) (by decide) (by omega), zhi 278 (by decide)]
      have n288 : N' 288 = N1 288 := by rw [y6.1 288 (by decide) (by decide) (by decide) (by decide), up2_ne (by decide), a1 288 (by decide)]
      have n289 : N' 289 = N3 289 := by rw [y6.1 289 (by decide) (by decide) (by decide) (by decide), up2_ne (by decide)]
      have f288 : Nf 288 = Nk 288 := oF.cell (by decide) (by decide)
      have f31 : Nf 278 31 = Nk 278 31 := oF 278 31 (Or.inr (by decide)) (by decide)
      rw [n31] at m1 m4
      obtain ⟨N5h, p1, p2, p3, p4⟩ : ∃ X : MEM, X 288 = Nf 288 ∧ X 278 31 = Nf 278 31 ∧ (∀ k, k ≠ 31 → X 278 k = N1 278 k) ∧ ∀ c, c ≠ 278 → c ≠ 288 → X c = N1 c :=
        ⟨fun c => if c = 288 then Nf 288 else if c = 278 then (fun k => if k = 31 then Nf 278 31 else N1 278 k) else N1 c, if_pos rfl, rfl, fun k hk => by show (if (278 : Nat) = 288 then Nf 288 else if (278 : Nat) = 278 then (fun k => if k = 31 then Nf 278 31 else N1 278 k) else N1 278) k = _; rw [if_neg (by decide), if_pos rfl, if_neg hk], fun c x y => by dsimp only; rw [if_neg y, if_neg x]⟩
      have hm : hM 1 N1 N5h := by
        refine ⟨?_, fun c x y w => p4 c x y, p3, fun j hj => ?_⟩
        · rw [p2, f31]; exact m1
        · rw [p1, f288]
          obtain ⟨q1, q2⟩ := m4 j hj
          refine ⟨⟨fun i hi => by rw [q1 i (by omega), n289, a2 i hi], by rw [q1 166 (by omega), n289, a3], fun i hi => ?_, by rw [q1 207 (by omega), n289, a5]⟩, fun i' hi' q hq => by rw [q2 i' hi' q hq, n288]⟩
          rw [Nat.add_assoc, q1 _ (by omega), n289, a4 i hi]
      have n3 : ∀ c, c ≠ 278 → c ≠ 279 → c ≠ 282 → c ≠ 284 → c ≠ 287 → c ≠ 288 → c ≠ 289 → Nf c = N1 c := fun c x1 x2 x3 x4 x5 x6 x7 => by rw [oF.cell x1 x4, ok1 c x1 x6, y6.1 c x1 x2 x3 x5, up2_ne x1, a1 c x7]
      have hU : C_U B Nf := hist_U RP (Or.inr rfl) hc hm (mrg_hi (by decide)).symm (mrg_hi (by decide)).symm (by rw [mrg_hi (by decide)]) (by rw [mrg_hi (by decide)]) (mrg_hi (by decide)).symm
        (by rw [mrg_lo (by decide), loF 45 (by decide), oz.cell (by decide) (by decide), o8])
        (fun c x y => by rw [mrg_lo (by omega), loF c (by omega), zk c (by omega) (by omega) (by omega), g5.1 c (by omega), o8' c (by omega)])
        p1.symm p2.symm
        (by rw [mrg_lo (by decide), loF 3 (by decide), zk 3 (by decide) (by decide) (by decide), g5.2.2.2.1, hi18 3 (by omega)])
        (by rw [mrg_hi (by decide)]; exact n3 280 (by decide) (by decide) (by decide) (by decide) (by decide) (by decide) (by decide))
      have q3 : Nf 3 2 ≤ 3 := by rw [loF 3 (by decide), zk 3 (by decide) (by decide) (by decide), g5.2.2.2.1, hi18 3 (by omega), m11 3 (by decide) (by decide)]; exact s3
      have qB : B ≤ B + 12000 := by clear hm hc m4 m1 r1 r2; omega
      exact C_U.cg (M := Nf) (M' := Nf) qB q3 (fun _ _ _ => rfl) hU
  · refine Tc_t hfl (Tc_some ?_)
    dsimp only
    obtain ⟨N', e', f⟩ := rd (up2 Mr 1 1 0) (m11 283 (by decide) (by decide)) (by rw [m11 278 (by decide) (by decide)]; exact t1)
    refine ⟨_, e', hwr.symm, ?_⟩
    dsimp only
    have cc : chg [0, 1] M N' := day_chg (fun c a b d => by rw [f.1 c (by omega) (by omega), m11 c b d]) (fun c a b d => by rw [f.1 c b d, m11 c (by omega) (by omega)]) (fun k a b d => by rw [f.2.1 k a b d, m11 278 (by decide) (by decide)])
    refine h.go (by omega) cc (by decide) (fun _ => ?_) (fun q => absurd q (by decide)) (fun q => absurd q (by decide)) (fun q => absurd q (by decide)) (fun q => absurd q (by decide)) (fun q => absurd q (by decide)) (fun q => absurd q (by decide)) (fun q => absurd q (by decide)) (fun q => absurd q (by decide)) (fun q => absurd q (by decide)) (fun q => absurd q (by decide))
    unfold C_T
    rw [f.2.2, f.1 1 (by decide) (by decide), rd_same]
    exact ⟨rfl, by decide, by decide, fun i hi => by omega⟩
