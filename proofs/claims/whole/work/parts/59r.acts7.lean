theorem rg_282 (k : Nat) : rg 282 k = 5 ∨ rg 282 k = 0 := by
  by_cases h : k < 40
  · left; show (if k < 40 then 5 else 0) = 5; rw [if_pos h]
  · right; show (if k < 40 then 5 else 0) = 0; rw [if_neg h]
theorem dayM.u282 {N : MEM} {k : Nat} {x : Int} : dayM N (up2 N 282 k x) := ⟨fun c a b d e => up2_ne d, fun k a b d e => rd_a (by decide), chg.up (by rcases rg_282 k with e | e <;> rw [e] <;> decide) chg.rf⟩
theorem dayM.u279 {N : MEM} {k : Nat} {x : Int} : dayM N (up2 N 279 k x) := ⟨fun c a b d e => up2_ne b, fun k a b d e => rd_a (by decide), chg.up (by decide : (4 : Nat) ∈ [0, 4, 5]) chg.rf⟩
theorem dayM.u278 {N : MEM} {k : Nat} {x : Int} (hk : k = 7 ∨ k = 13 ∨ k = 35) : dayM N (up2 N 278 k x) := ⟨fun c a b d e => up2_ne a, fun k' a b d e => rd_k (by omega), chg.up (by rcases hk with rfl | rfl | rfl <;> decide) chg.rf⟩
theorem layM {x1 x2 x3 x4 x5 : Int} {M : MEM} : Pc (mo_layCarrot x1 x2 x3 x4 x5 M) (fun r => dayM M r ∧ r 278 = M 278) := by
  unfold mo_layCarrot
  refine Pc_i (fun _ => Pc_b (fun M3 h3 => ?_)) (fun _ => Pc_0)
  injection h3 with h3
  refine Pc_i (fun _ => Pc_b (fun M5 h5 => ?_)) (fun _ => Pc_0)
  injection h5 with h5
  refine Pc_i (fun _ => Pc_b (fun M7 h7 => ?_)) (fun _ => Pc_0)
  injection h7 with h7
  refine Pc_i (fun _ => Pc_b (fun M9 h9 => Pc_s ?_)) (fun _ => Pc_0)
  injection h9 with h9
  rw [← h9, ← h7, ← h5, ← h3]
  exact ⟨dayM.u282.tr (dayM.u282.tr (dayM.u282.tr dayM.u282)), by rw [up2_ne (by decide), up2_ne (by decide), up2_ne (by decide), up2_ne (by decide)]⟩
theorem carrotM {x1 x2 x3 x4 : Int} {M : MEM} : Pc (mo_carrot x1 x2 x3 x4 M) (fun r => dayM M r.2 ∧ r.2 278 35 = M 278 35) := by
  unfold mo_carrot
  refine Pc_b (fun M1 h1 => ?_)
  injection h1 with h1
  have b1 : dayM M M1 ∧ M1 278 35 = M 278 35 := by rw [← h1]; exact ⟨dayM.u278 (by omega), rd_k (by decide)⟩
  have key : Pc (mo_carrot_j49 x1 x2 x3 x4 M1) (fun r => dayM M r.2 ∧ r.2 278 35 = M 278 35) := by
    unfold mo_carrot_j49
    refine Pc_i (fun _ => Pc_s b1) (fun _ => Pc_b (fun M17 h17 => Pc_b (fun M18 h18 => Pc_s ?_)))
    injection h18 with h18
    obtain ⟨l1, l2⟩ := layM _ h17
    dsimp only
    rw [← h18]
    exact ⟨b1.1.tr (l1.tr (dayM.u278 (by omega))), by rw [rd_k (by decide), l2]; exact b1.2⟩
  exact Pc_i (fun _ => Pc_s b1) (fun _ => Pc_i (fun _ => Pc_s b1) (fun _ => Pc_i (fun _ => Pc_s b1) (fun _ => Pc_i (fun _ => key) (fun _ => Pc_i (fun _ => key) (fun _ => Pc_s b1)))))
theorem sowM {x1 x2 x3 : Int} {M : MEM} : Pc (mo_sow x1 x2 x3 M) (fun r => dayM M r.2 ∧ r.2 278 35 = M 278 35) := by
  unfold mo_sow
  refine Pc_b (fun M1 h1 => ?_)
  injection h1 with h1
  have b1 : dayM M M1 ∧ M1 278 35 = M 278 35 := by rw [← h1]; exact ⟨dayM.u278 (by omega), rd_k (by decide)⟩
  refine Pc_b (fun r _ => Pc_i (fun _ => Pc_s b1) (fun _ => Pc_i (fun _ => Pc_s b1) (fun _ => Pc_i (fun _ => Pc_i (fun _ => Pc_b (fun M12 h12 => Pc_s ?_)) (fun _ => Pc_0)) (fun _ => Pc_0))))
  injection h12 with h12
  dsimp only
  rw [← h12]
  exact ⟨b1.1.tr dayM.u279, by rw [rd_a (by decide)]; exact b1.2⟩
theorem setM {x1 x3 : Int} {M : MEM} : Pc (mo_set x1 0 x3 M) (fun r => dayM M r.2 ∧ r.2 278 35 = M 278 35) := by
  unfold mo_set
  refine Pc_b (fun M1 h1 => ?_)
  injection h1 with h1
  have b1 : dayM M M1 ∧ M1 278 35 = M 278 35 := by rw [← h1]; exact ⟨dayM.u278 (by omega), rd_k (by decide)⟩
  have key : ∀ s0 s1 s2, Pc (mo_set_j41 x1 0 x3 s0 s1 s2 M1) (fun r => dayM M r.2 ∧ r.2 278 35 = M 278 35) := fun s0 s1 s2 => by
    unfold mo_set_j41
    refine Pc_i (fun _ => Pc_s b1) (fun _ => Pc_i (fun _ => Pc_i (fun _ => Pc_b (fun M16 h16 => Pc_s ?_)) (fun _ => Pc_0)) (fun _ => Pc_0))
    injection h16 with h16
    dsimp only
    rw [← h16]
    exact ⟨b1.1.tr dayM.u279, by rw [rd_a (by decide)]; exact b1.2⟩
  exact Pc_i (fun _ => Pc_s b1) (fun _ => Pc_i (fun _ => Pc_s b1) (fun _ => Pc_i (fun _ => key _ _ _) (fun _ => Pc_i (fun _ => key _ _ _) (fun _ => Pc_0))))
theorem offG.day {N N' : MEM} (h : offG 279 N N') : dayM N N' := ⟨fun c a b _ e => h.1 c b a e, fun k _ _ _ q => h.2 k q, h.chg.sub (by decide)⟩
theorem offW.day {M M' : MEM} (h : offW M M') : dayC M M' := ⟨fun c a => h.1 c (by omega) (by omega) (by omega) (by omega) (by omega), fun c a => h.1 c (by omega) (by omega) (by omega) (by omega) (by omega), h.2.1 3 (by decide), h.2.2.1 2 (by decide), h.chg.sub (by decide)⟩
/-- the reference's MINUTES of an ACT -/
theorem minsM {B : Int} {M N : MEM} {x : Nat} (l : lock B M N) (hB : B + x ≤ 199000000) (hx : x ≤ 600) (h35 : -1000000000 ≤ N 278 35 ∧ N 278 35 ≤ 1000000000) :
    ∃ z N', iter (fun s => mo_act_b80 (x : Int) s.1 s.2) FU (0, N) = some (z, N') ∧ lock (B + x) (passN M x) N' ∧ dayM N N' ∧ N' 278 35 = N 278 35 + (sS (passN M x) - sS M) ∧ chg [0, 4] N N' := by
  have hM := l.pass (by omega)
  obtain ⟨n, hn⟩ : ∃ n : Nat, M 3 2 = (n : Int) := ⟨(M 3 2).toNat, by have := hM.1.1; omega⟩
  have tn : ((n : Nat) : Int).toNat = n := Int.toNat_natCast n
  have h3 : n ≤ 3 := by have := hM.1.2.1; omega
  have hl : Tc (iter (fun s => mo_act_b80 (x : Int) s.1 s.2) FU (0, N)) (fun r => lock (B + x) (passN M x) r.2 ∧ dayM N r.2 ∧ r.2 278 35 = N 278 35 + (sS (passN M x) - sS M) ∧ chg [0, 4] N r.2) := by
    refine Tc_n (fun i s => s.1 = (i : Int) ∧ lock (B + i) (passN M i) s.2 ∧ dayM N s.2 ∧ s.2 278 35 = N 278 35 + (sS (passN M i) - sS M) ∧ 0 ≤ sS (passN M i) - sS M ∧ sS (passN M i) - sS M ≤ 3 * i ∧ chg [0, 4] N s.2) x ⟨rfl, ?_, dayM.rf, ?_, ?_, ?_, chg.rf⟩ (by omega) (fun i s hi hI => ?_) (fun s hI => ?_)
    · rw [show B + ((0 : Nat) : Int) = B by omega]; exact l
    · show N 278 35 = N 278 35 + (sS M - sS M); omega
    · show 0 ≤ sS M - sS M; omega
    · show sS M - sS M ≤ _; omega
    · obtain ⟨z, N1⟩ := s
      obtain ⟨rfl, q1, q2, q3, q4, q5, q6⟩ := hI
      dsimp only at q1 q2 q3 q6
      obtain ⟨M', N', A, S, K, p1, p2, p3, p4, p5, p6, p7, p8, p9, p10⟩ := q1.step (by omega)
      have ep := passN_S p1
      have ni : passN M i 3 2 = (n : Int) := by rw [(l.seq (x := x) (by omega) i (by omega)).2.1.2.2.1 2 (by decide)]; exact hn
      rw [ni, tn] at p8
      have ni' : M' 3 2 = (n : Int) := by rw [p4.2.2.1 2 (by decide)]; exact ni
      have e1 : sS M' = sS (passN M i) + sumN K n := by
        unfold sS
        rw [ni, ni', tn]
        exact sumN_add (fun d hd => (p10 d (by omega)).2.1)
      have b := sumN_bd (F := K) (a := 0) (b := 1) (n := n) (fun d hd => by have := p10 d (by omega); omega)
      have e35 : N' 278 35 = N1 278 35 := p5.2 35 (by omega)
      unfold mo_act_b80
      refine Tc_f (by dsimp only; omega) (Tc_e p2 (Tc_u (Tc_inl ⟨?_, ?_, ?_, ?_, ?_, ?_, q6.tr (chg.up (by decide) p5.chg)⟩)))
      · dsimp only; exact (wr_i (by omega) (by omega)).trans (by omega)
      · dsimp only
        rw [ep, show B + ((i + 1 : Nat) : Int) = B + i + 1 by omega]
        exact p3.cg35 (fun a ha => up2_ne ha) (fun k hk => rd_k hk)
      · exact q2.tr (p5.day.tr (dayM.u278 (by omega)))
      · dsimp only
        rw [rd_same, e35, p8, ep, e1, wr_i (by omega) (by omega)]
        omega
      · rw [ep, e1]; omega
      · rw [ep, e1]; omega
    · obtain ⟨z, N1⟩ := s
      obtain ⟨rfl, q1, q2, q3, q4, q5, q6⟩ := hI
      unfold mo_act_b80
      exact Tc_t (by dsimp only; omega) (Tc_inr ⟨q1, q2, q3, q6⟩)
  obtain ⟨⟨z, N'⟩, e, q⟩ := hl
  exact ⟨z, N', e, q⟩
theorem chg_mrg {L : List Nat} {M M' N N' : MEM} (h : chg L M M') (g : chg L N N') : chg L (mrg M N) (mrg M' N') := fun a k n => by
  by_cases e : a ≤ 277
  · rw [mrg_lo e, mrg_lo e]; exact h a k n
  · rw [mrg_hi (by omega), mrg_hi (by omega)]; exact g a k n
theorem ind2 {B : Int} {M N : MEM} {F G : MEM → Option (Int × MEM)} (hF : F (mrg M N) = mpC N (F M)) (hG : ∀ M', G (mrg M' N) = mpM M' (G N)) (l : Lk B (F (mrg M N)) G) : ∃ r M' N', F M = some (r, M') ∧ G N = some (r, N') ∧ Rel B (mrg M' N') := by
  obtain ⟨p, e1, q, e2, e3, e4⟩ := l
  rw [hF] at e1
  cases hf : F M with
  | none => rw [hf] at e1; cases e1
  | some a =>
    rw [hf] at e1
    injection e1 with e1
    rw [← e1] at e2
    dsimp only at e2
    rw [hG] at e2
    cases hg : G N with
    | none => rw [hg] at e2; cases e2
    | some b =>
      rw [hg] at e2
      injection e2 with e2
      refine ⟨a.1, a.2, b.2, rfl, ?_, ?_⟩
      · rw [show a.1 = b.1 from ?_]
        rw [← e1, ← e2] at e3
        exact e3.symm
      · rw [← e2] at e4; exact e4
