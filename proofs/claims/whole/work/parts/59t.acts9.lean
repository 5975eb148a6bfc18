-- ----- the ACTS done one by one -----
theorem C_U.keep {B : Int} {M M' : MEM} (g : C_U B M) (hN : M 3 2 ≤ 3) (e45 : M' 45 = M 45) (hk : ∀ c, 47 ≤ c → c ≤ 222 → (c < usc M (M 45 2).toNat ∨ usc M (M 45 2).toNat + 16 ≤ c) → M' c = M c) (e288 : M' 288 = M 288) (e31 : M' 278 31 = M 278 31) (e32 : M' 3 2 = M 3 2) (e280 : M' 280 = M 280) : C_U B M' := by
  obtain ⟨g1, g2, g3, g4, g5, g6⟩ := g
  have eu : ∀ i, usc M' i = usc M i := fun i => by unfold usc; rw [e45]
  unfold C_U
  rw [e45, e288, e31, e32]
  refine ⟨g1, g2, g3, g4, g5, fun i hi => ?_⟩
  have hu := usc_in (i := i) g1 g2 (by omega)
  have hd := usc_dis (M := M) (i := i) (j := (M 45 2).toNat) g1 g2 (by omega) (by omega) (by omega)
  rw [eu]
  have hr : ∀ c q, usc M i ≤ c → c < usc M i + 16 → M' c q = M c q := fun c q h1 h2 => by rw [hk c (by omega) (by omega) (by omega)]
  obtain ⟨q1, q2, q3, q4, q5⟩ := g6 i hi
  rw [hr (usc M i) 2 (by omega) (by omega), hr (usc M i) 5 (by omega) (by omega)]
  exact ⟨q1, q2.cg hN (hr _ _ (by omega) (by omega)) (fun c q h1 h2 => hr c q (by omega) (by omega)) (fun q _ _ => by rw [e288]) (fun d _ => by rw [e280]), q3.cg (fun q k h1 h2 => hr _ _ (by omega) (by omega)) (fun k _ => rfl), q4, q5⟩
theorem hC_of {wc : Int} {M M6 : MEM} {R : Nat → Int} (u1 : 0 ≤ M 45 1) (u2 : M 45 1 < 11) (u5 : M 45 2 ≤ 10) (k1 : copyS (usc M (M 45 2).toNat) 3 M6 M) (k2 : copyC (usc M (M 45 2).toNat + 2) 5 M6 M) (k3 : M6 (usc M (M 45 2).toNat) 5 = wc)
    (k4 : ∀ c, (c < usc M (M 45 2).toNat ∨ usc M (M 45 2).toNat + 16 ≤ c) → M6 c = M c) (r2 : R 2 = (if M 45 2 = 10 then 10 else M 45 2 + 1)) (r1 : R 1 = (if M 45 2 = 10 then (M 45 1 + 1) % 11 else M 45 1)) : hC wc M (fun c => if c = 45 then R else M6 c) := by
  have hu := usc_in (i := (M 45 2).toNat) u1 u2 (by omega)
  have o : ∀ c, c ≠ 45 → (fun c => if c = 45 then R else M6 c : MEM) c = M6 c := fun c hc => if_neg hc
  have o' : (fun c => if c = 45 then R else M6 c : MEM) 45 = R := if_pos rfl
  generalize (fun c => if c = 45 then R else M6 c : MEM) = M8 at *
  refine ⟨?_, ?_, ?_, fun c c1 c2 => by rw [o c c1, k4 c c2], by rw [o']; exact r2, by rw [o']; exact r1⟩
  · refine ⟨by rw [o _ (by omega)]; exact k1.1, by rw [o _ (by omega)]; exact k1.2.1, fun d hd => ?_⟩
    rw [o _ (by omega), o _ (by omega), o _ (by omega)]
    exact k1.2.2 d hd
  · refine ⟨by rw [o _ (by omega)]; exact k2.1, fun q i x1 x2 hi => ?_⟩
    rw [o _ (by omega)]
    exact k2.2 q i x1 x2 hi
  · rw [o _ (by omega)]; exact k3
theorem hC.mg {wc : Int} {M M8 N : MEM} (u1 : 0 ≤ M 45 1) (u2 : M 45 1 < 11) (u5 : M 45 2 ≤ 10) (h3 : M 3 2 ≤ 3) (h : hC wc M M8) : hC wc (mrg M N) (mrg M8 N) := by
  have hu := usc_in (i := (M 45 2).toNat) u1 u2 (by omega)
  have lo : ∀ (P : MEM) c, c ≤ 277 → mrg P N c = P c := fun P c hc => mrg_lo hc
  have e : usc (mrg M N) ((mrg M N) 45 2).toNat = usc M (M 45 2).toNat := by unfold usc; rw [lo _ 45 (by decide)]
  obtain ⟨c1, c2, c3, c4, c5, c6⟩ := h
  unfold hC copyS copyC
  rw [e, lo _ 45 (by decide), lo _ 45 (by decide), lo _ 3 (by decide), lo _ 5 (by decide), lo _ _ (by omega), lo _ _ (by omega)]
  refine ⟨⟨c1.1, c1.2.1, fun d hd => ?_⟩, ⟨c2.1, fun q i x1 x2 hi => ?_⟩, c3, fun c a b => ?_, c5, c6⟩
  · rw [lo _ _ (by omega), lo _ _ (by omega), lo _ _ (by omega), lo _ _ (by omega), lo _ _ (by omega), lo _ _ (by omega)]
    exact c1.2.2 d hd
  · rw [lo _ _ (by omega), lo _ _ (by omega)]
    exact c2.2 q i x1 x2 hi
  · by_cases g : c ≤ 277
    · rw [lo _ _ g, lo _ _ g]; exact c4 c a b
    · rw [mrg_hi (by omega), mrg_hi (by omega)]
theorem sS_bd {B : Int} {M : MEM} (h : Rel B M) (hB : 0 ≤ B) : 0 ≤ sS M ∧ sS M ≤ 3 * B := by
  obtain ⟨s1, s2, s3, -⟩ := h.S
  obtain ⟨d1, d2, d3, d4⟩ := h.D
  obtain ⟨n, hn⟩ : ∃ n : Nat, M 3 2 = (n : Int) := ⟨(M 3 2).toNat, by omega⟩
  have b := sumN_bd (F := fun d => M (10 + 3 * d) 5) (a := 0) (b := B) (n := n) (fun d hd => by
    obtain ⟨a1, a2, a3, a4, a5, a6⟩ := d4 d (by omega)
    have : 0 ≤ M (3 + 7 + 3 * d) 5 := a3.2.2.2.2.2.2.1
    rw [show 3 + 7 + 3 * d = 10 + 3 * d by omega] at this a5
    omega)
  unfold sS
  rw [hn, Int.toNat_natCast]
  have : B * (n : Int) ≤ B * 3 := Int.mul_le_mul_of_nonneg_left (by omega) hB
  omega
theorem sS_mrg {M N : MEM} (h : M 3 2 ≤ 3) : sS (mrg M N) = sS M := by
  unfold sS
  rw [mrg_lo (by decide)]
  exact sumN_congr (fun d hd => by rw [mrg_lo (by omega)])
/-- before an ACT -/
def runI (z : Nat → Int) (n : Nat) (s0 B : Int) (M N : MEM) : Prop := Rel B (mrg M N) ∧ rlOk N ∧ N 21 3 = M 21 3 ∧ N 22 = M 22 ∧ M 29 4 = (n : Int) ∧ datC z n M ∧ datM z n N ∧ N 278 35 = sS M - s0
theorem acts_run {z : Nat → Int} {n : Nat} {s0 r14 : Int} (hn : n ≤ 20) (h0 : 0 ≤ s0 ∧ s0 ≤ 400000000) (hw : ∀ j, j < n → ∃ e k w h v, ract z (aP z j) = .inr (e, k, w, h, v)) : ∀ (m j : Nat) (B : Int) (M N : MEM), j + m = n → 0 ≤ B → B + 600 * (m : Int) ≤ 100000000 → runI z n s0 B M N →
    ∃ (c : Nat) (M' N' : MEM), (∀ F, m < F → iter (fun s => dh_day_b65 r14 s.1 s.2) F ((j : Int), M) = some ((c : Int), M')) ∧ (∀ F, m < F → iter (fun s => mo_day_b115 (n : Int) s.1 s.2) F ((j : Int), N) = some ((c : Int), N')) ∧
      c ≤ n ∧ Rel (B + 600 * (m : Int)) (mrg M' N') ∧ dayC M M' ∧ dayM N N' ∧ N' 278 35 = sS M' - s0 := by
  intro m
  induction m with
  | zero =>
    intro j B M N hj hB0 hB hI
    obtain ⟨q1, q2, q3, q4, q5, q6, q7, q8⟩ := hI
    refine ⟨j, M, N, fun F hF => ?_, fun F hF => ?_, by omega, by rw [show B + 600 * ((0 : Nat) : Int) = B by omega]; exact q1, dayC.rf, dayM.rf, q8⟩
    · obtain ⟨F, rfl⟩ : ∃ F', F = F' + 1 := ⟨F - 1, by omega⟩
      show (dh_day_b65 r14 j M).bind _ = _
      unfold dh_day_b65
      rw [if_pos (by omega)]
      rfl
    · obtain ⟨F, rfl⟩ : ∃ F', F = F' + 1 := ⟨F - 1, by omega⟩
      show (mo_day_b115 (n : Int) j N).bind _ = _
      unfold mo_day_b115
      rw [if_pos (by omega)]
      rfl
  | succ m ih =>
    intro j B M N hj hB0 hB hI
    obtain ⟨q1, q2, q3, q4, q5, q6, q7, q8⟩ := hI
    have h32 : M 3 2 ≤ 3 := by have := q1.S.2.2.1; rw [mrg_lo (by decide)] at this; exact this
    have bd := sS_bd q1 hB0
    rw [sS_mrg h32] at bd
    obtain ⟨e, k, w, h, v, hr⟩ := hw j (by omega)
    obtain ⟨b, M1, N1, f1, f2, f3, f4, f5, f6, f7⟩ := act_step (j := j) q1 (by omega) q2 q3 q4 (ract_wf hr).2 (by omega) (q6 j (by omega) e k w h v hr) (q7 j (by omega) e k w h v hr) (by omega)
    by_cases hb : b = 0
    · refine ⟨j, M1, N1, fun F hF => ?_, fun F hF => ?_, by omega, f4.up (by omega), f5, f6, by rw [f7, q8]; omega⟩
      · obtain ⟨F, rfl⟩ : ∃ F', F = F' + 1 := ⟨F - 1, by omega⟩
        show (dh_day_b65 r14 j M).bind _ = _
        unfold dh_day_b65
        rw [if_neg (by omega), f1, Option.bind_some]
        dsimp only
        rw [if_pos hb]
        rfl
      · obtain ⟨F, rfl⟩ : ∃ F', F = F' + 1 := ⟨F - 1, by omega⟩
        show (mo_day_b115 (n : Int) j N).bind _ = _
        unfold mo_day_b115
        rw [if_neg (by omega), wr_i (x := 4 * (j : Int)) (by omega) (by omega), show 4 * (j : Int) = ((4 * j : Nat) : Int) by omega, f2, Option.bind_some]
        dsimp only
        rw [if_pos hb]
        rfl
    · have rl1 : rlOk N1 := q2.cg (fun a k hr => f6.2.2 a k (by rw [hr]; decide))
      have hI1 : runI z n s0 (B + 600) M1 N1 := by
        refine ⟨f4, rl1, ?_, ?_, ?_, ?_, ?_, by rw [f7, q8]; omega⟩
        · rw [f6.1 21 (by decide) (by decide) (by decide) (by decide), f5.2.2.1]; exact q3
        · rw [f6.1 22 (by decide) (by decide) (by decide) (by decide), f5.2.1 22 (by omega)]; exact q4
        · rw [f5.1 29 (by decide)]; exact q5
        · exact q6.cg (fun a x y => f5.1 a (by omega))
        · exact q7.cg (f6.1 291 (by decide) (by decide) (by decide) (by decide))
      obtain ⟨c, M', N', g1, g2, g3, g4, g5, g6, g7⟩ := ih (j + 1) (B + 600) M1 N1 (by omega) (by omega) (by omega) hI1
      refine ⟨c, M', N', fun F hF => ?_, fun F hF => ?_, g3, by rw [show B + 600 * ((m + 1 : Nat) : Int) = B + 600 + 600 * (m : Int) by omega]; exact g4, f5.tr g5, f6.tr g6, g7⟩
      · obtain ⟨F, rfl⟩ : ∃ F', F = F' + 1 := ⟨F - 1, by omega⟩
        rw [← g1 F (by omega)]
        show (dh_day_b65 r14 j M).bind _ = _
        unfold dh_day_b65
        rw [if_neg (by omega), f1, Option.bind_some]
        dsimp only
        rw [if_neg hb, wr_i (x := (j : Int) + 1) (by omega) (by omega)]
        rfl
      · obtain ⟨F, rfl⟩ : ∃ F', F = F' + 1 := ⟨F - 1, by omega⟩
        rw [← g2 F (by omega)]
        show (mo_day_b115 (n : Int) j N).bind _ = _
        unfold mo_day_b115
        rw [if_neg (by omega), wr_i (x := 4 * (j : Int)) (by omega) (by omega), show 4 * (j : Int) = ((4 * j : Nat) : Int) by omega, f2, Option.bind_some]
        dsimp only
        rw [if_neg hb, wr_i (x := (j : Int) + 1) (by omega) (by omega)]
        rfl
