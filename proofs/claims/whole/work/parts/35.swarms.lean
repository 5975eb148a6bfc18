-- ===== swarms =====
theorem envC_sw {M : MEM} {f : Int} (hf : 0 ≤ f) : envC 224 (up2 M 224 6 f) = (fun _ => f, (envC 224 M).2) := by
  have e1 : plC 5 (up2 M 224 6 f) = plC 5 M := plC_cg (fun q hq => up2_ne (by omega))
  have e2 : plC (224 + 1) (up2 M 224 6 f) = plC (224 + 1) M := plC_cg (fun q hq => up2_ne (by omega))
  unfold envC
  rw [e1, e2, rd_same, up2_ne (show (21 : Nat) ≠ 224 by decide), up2_ne (show (22 : Nat) ≠ 224 by decide)]
  congr 1
  funext m
  rw [if_pos hf]
theorem envM_sw {M : MEM} {f : Int} (hf : 0 ≤ f) : envM (up2 M 278 5 f) = (fun _ => f, (envM M).2) := by
  unfold envM
  have e1 : flM (up2 M 278 5 f) = fun _ => f := by
    funext m
    unfold flM
    rw [rd_same, if_neg (by omega)]
  have e2 : hrM (up2 M 278 5 f) = hrM M := by
    unfold hrM hrF
    rw [rd_k (by decide), rd_k (by decide), up2_ne (show (282 : Nat) ≠ 278 by decide)]
  rw [e1, e2, up2_ne (show (21 : Nat) ≠ 278 by decide), up2_ne (show (22 : Nat) ≠ 278 by decide)]
/-- all is as it was but for scratch and the FLIES that are asked for -/
def offA (M M1 : MEM) : Prop := ∀ a k, rg a k ≠ 0 → (a ≠ 278 ∨ k ≠ 5) → M1 a k = M a k
theorem offA.tr {M M1 M2 : MEM} (h : offA M M1) (g : chg [0] M1 M2) : offA M M2 := fun a k x y => (g a k (by simpa using x)).trans (h a k x y)
theorem offA.chg {M M1 : MEM} (h : offA M M1) : chg [0, 11] M M1 := fun a k n => by
  refine h a k (fun e => n (by rw [e]; decide)) ?_
  by_cases e : a = 278
  · subst e
    by_cases e2 : k = 5
    · subst e2; exact absurd (by decide) n
    · exact Or.inr e2
  · exact Or.inl e
theorem c_swarms {B : Int} {M : MEM} (h : Rel B M) (hB : B ≤ 100000000) : Lk B (dh_swarms M) mo_swarms := by
  have nw := now_in h
  have hN := h.S.2.2.1
  have hN0 := h.S.2.1
  obtain ⟨e0, e0O⟩ := env_0 h (f := 224) (Or.inl rfl)
  obtain ⟨W, hW⟩ : ∃ W : Nat → Nat → Nat → DS, W = fun f i : Nat => trajD (fun _ => (f : Int), (envM M).2) (M 280 i) i (M 3 3) (dsC (10 + 3 * i) M) := ⟨_, rfl⟩
  obtain ⟨P, hP⟩ : ∃ P : Nat → Bool, P = fun f => allN (fun i => hdB M i (W f i)) (M 3 2).toNat := ⟨_, rfl⟩
  unfold Lk dh_swarms
  have l1 : Tc (iter (fun s => dh_swarms_b4 s.1 s.2.1 s.2.2) FU (0, 0, M)) (fun r => r.1 = bitsO P 10 ∧ offL 224 M r.2.2) := by
    refine Tc_n (fun f s => s.1 = bitsO P f ∧ s.2.1 = (f : Int) ∧ offL 224 M s.2.2) 10 ⟨rfl, rfl, offL.rf⟩ (by omega) (fun f s hf hI => ?_) (fun s hI => ?_)
    · obtain ⟨y, z, M1⟩ := s
      obtain ⟨rfl, rfl, q1⟩ := hI
      dsimp only at q1 ⊢
      have wf : wr ((f : Int) + 1) = ((f + 1 : Nat) : Int) := (wr_i (by omega) (by omega)).trans (by omega)
      have eF : envC 224 (up2 M1 224 6 (f : Int)) = (fun _ => (f : Int), (envM M).2) := by rw [envC_sw (by omega), q1.env (Or.inl rfl), e0]
      have eFO : eOk 224 (up2 M1 224 6 (f : Int)) := eOk_cells (fun c hc => up2_ne (by omega)) (rd_a (by decide)) (q1.eOk (Or.inl rfl) e0O)
      have cF : chg [0, 10, 11] M (up2 M1 224 6 (f : Int)) := ((q1.chg (Or.inl rfl)).sub (by decide) : chg [0, 10, 11] M M1).up (by decide)
      have inner : Tc (iter (fun s => dh_swarms_b23 (bitsO P f) f s.1 s.2.1 s.2.2) FU (1, 0, up2 M1 224 6 (f : Int))) (fun r => r.1 = (if P f = true then 1 else 0) ∧ offL 224 (up2 M1 224 6 (f : Int)) r.2.2) := by
        refine Tc_l (fun i s => s.1 = (if allN (fun i => hdB M i (W f i)) i = true then 1 else 0) ∧ s.2.1 = (i : Int) ∧ offL 224 (up2 M1 224 6 (f : Int)) s.2.2) _ (M 3 2).toNat ⟨rfl, rfl, offL.rf⟩ (by omega) (fun i s hi hI => ?_) (fun s hI => ?_)
        · obtain ⟨y, z, M2⟩ := s
          obtain ⟨rfl, rfl, q2⟩ := hI
          dsimp only at q2 ⊢
          have cc : chg [0, 10, 11] M M2 := cF.tr ((q2.chg (Or.inl rfl)).sub (by decide))
          have e32 : M2 3 2 = M 3 2 := cc 3 2 (by decide)
          have wi : wr ((i : Int) + 1) = ((i + 1 : Nat) : Int) := (wr_i (by omega) (by omega)).trans (by omega)
          unfold dh_swarms_b23
          refine Tc_f (by omega) ?_
          cases hA : allN (fun i => hdB M i (W f i)) i with
          | false =>
            refine Tc_t (by simp) (Tc_inrR ⟨?_, q2⟩)
            have : P f = false := by
              rw [hP]
              dsimp only
              have mono : ∀ n, i ≤ n → allN (fun i => hdB M i (W f i)) n = false := by
                intro n hn
                induction n with
                | zero => have : i = 0 := by omega
                          subst this; exact hA
                | succ n ih =>
                  by_cases e : i = n + 1
                  · subst e; exact hA
                  · rw [allN_S, ih (by omega), Bool.false_and]
              exact mono _ (by omega)
            rw [this]
            try rfl
          | true =>
            refine Tc_f (by simp) ?_
            obtain ⟨d1, d2, -, -⟩ := dnk h hB (show (i : Int) < M 3 2 by omega)
            obtain ⟨M3, e3, o3, f3⟩ := q_lookE (d := i) h (Or.inl rfl) (by omega) hB cc ((q2.env (Or.inl rfl)).trans eF) (q2.eOk (Or.inl rfl) eFO)
            obtain ⟨M4, j', e4, o4, -, -⟩ := fit_eq (M0 := M) h.H d1 d2 nw.1 (by omega) (fun M' o => by
              have c4 : chg [0, 10, 11] M M' := (cc.tr ((o3.chg (Or.inl rfl)).sub (by decide))).tr ((o.L.chg (Or.inl rfl)).sub (by decide))
              exact ⟨c4 41 3 (by decide), c4.row (fun k => (by decide : 7 ∉ [0, 10, 11])), c4.row (fun k => (by decide : 7 ∉ [0, 10, 11])), c4.row (fun k => (by decide : 7 ∉ [0, 10, 11]))⟩) f3
            refine Tc_e e3 (Tc_e e4 (Tc_inlL ⟨?_, wi, (q2.tr o3).tr o4.L⟩))
            dsimp only
            rw [allN_S, hA, Bool.true_and, hW]
        · obtain ⟨y, z, M2⟩ := s
          obtain ⟨rfl, rfl, q2⟩ := hI
          dsimp only at q2
          have cc : chg [0, 10, 11] M M2 := cF.tr ((q2.chg (Or.inl rfl)).sub (by decide))
          have e32 : M2 3 2 = M 3 2 := cc 3 2 (by decide)
          unfold dh_swarms_b23
          refine Tc_t (by show M2 3 2 ≤ (((M 3 2).toNat : Nat) : Int); omega) (Tc_inr ⟨?_, q2⟩)
          rw [hP]
      unfold dh_swarms_b4
      refine Tc_f (by omega) (Tc_u (Tc_c inner (fun r hr => ?_)))
      obtain ⟨v, w, M2⟩ := r
      obtain ⟨rfl, q2⟩ := hr
      dsimp only at q2 ⊢
      unfold dh_swarms_j67_4 dh_swarms_j85_4
      rw [wf, Option.bind_some]
      have oE : offL 224 M (up2 M2 224 6 (-1)) := by
        refine ⟨fun c a1 a2 a3 a4 a5 a6 a7 => ?_, fun k hk => ?_, fun k hk => ?_⟩
        · rw [up2_ne a1, q2.1 c a1 a2 a3 a4 a5 a6 a7, up2_ne a1]; exact q1.1 c a1 a2 a3 a4 a5 a6 a7
        · by_cases e : k = 6
          · subst e
            rw [rd_same]; exact h.N.1.symm
          · rw [rd_k e, q2.2.1 k hk, rd_k e]; exact q1.2.1 k hk
        · rw [rd_a (by decide), q2.2.2 k hk, rd_a (by decide)]; exact q1.2.2 k hk
      rw [bitsO_S]
      cases hPf : P f with
      | true => exact Tc_f (by simp) (Tc_inl ⟨by rw [if_pos rfl], rfl, oE⟩)
      | false => exact Tc_t (by simp) (Tc_inl ⟨by rw [if_neg (by decide)], rfl, oE⟩)
    · obtain ⟨y, z, M1⟩ := s
      obtain ⟨rfl, rfl, q1⟩ := hI
      unfold dh_swarms_b4
      exact Tc_t (by show (10 : Int) ≤ ((10 : Nat) : Int); omega) (Tc_inr ⟨rfl, q1⟩)
  refine Tc_c l1 (fun r hr => ?_)
  obtain ⟨bt, v, M1⟩ := r
  obtain ⟨rfl, o1⟩ := hr
  dsimp only at o1 ⊢
  refine Tc_some ?_
  dsimp only
  have c1 : chg [0] M (up2 M1 278 13 0) := (o1.chg (Or.inl rfl)).up (by decide)
  unfold mo_swarms
  refine Tc_u ?_
  generalize hM2 : up2 M1 278 13 0 = M2 at *
  have hC7 := h.C.2.2.1
  have h8 := h.N.2.2.2.2.2.1
  have hem : emOk M := em_of h.F h.C (th0 (Or.inl rfl) h.N)
  have l2 : Tc (iter (fun s => mo_swarms_b9 s.1 s.2.1 s.2.2) FU (0, 0, M2)) (fun r => r.1 = bitsO P 10 ∧ offA M2 r.2.2) := by
    refine Tc_n (fun f s => s.1 = bitsO P f ∧ s.2.1 = (f : Int) ∧ offA M2 s.2.2) 10 ⟨rfl, rfl, fun _ _ _ _ => rfl⟩ (by omega) (fun f s hf hI => ?_) (fun s hI => ?_)
    · obtain ⟨y, z, M3⟩ := s
      obtain ⟨rfl, rfl, q1⟩ := hI
      dsimp only at q1 ⊢
      have wf : wr ((f : Int) + 1) = ((f + 1 : Nat) : Int) := (wr_i (by omega) (by omega)).trans (by omega)
      have c3 : chg [0, 11] M M3 := (c1.sub (by decide)).tr q1.chg
      -- pull and rule are as in M
      have e2M : (envM M3).2 = (envM M).2 := by
        have hb : envM (up2 M3 278 5 (-1)) = envM M := chg_env (L := [0]) (M := M) (fun a k hn => by
          by_cases e : a = 278 ∧ k = 5
          · obtain ⟨rfl, rfl⟩ := e
            rw [rd_same]; exact h.N.2.2.2.2.1.symm
          · have hne : a ≠ 278 ∨ k ≠ 5 := by omega
            have : up2 M3 278 5 (-1) a k = M3 a k := by
              rcases hne with z | z
              · exact rd_a z
              · exact rd_k z
            rw [this, q1 a k (by simpa using hn) hne]
            exact c1 a k hn) (by decide) (by decide) (by decide) (by decide) h8 hC7
        have : (envM (up2 M3 278 5 (-1))).2 = (envM M3).2 := by
          unfold envM
          have e2 : hrM (up2 M3 278 5 (-1)) = hrM M3 := by
            unfold hrM hrF
            rw [rd_k (by decide), rd_k (by decide), up2_ne (show (282 : Nat) ≠ 278 by decide)]
          rw [e2, up2_ne (show (21 : Nat) ≠ 278 by decide), up2_ne (show (22 : Nat) ≠ 278 by decide)]
        rw [← this, hb]
      have eF : envM (up2 M3 278 5 (f : Int)) = (fun _ => (f : Int), (envM M).2) := by rw [envM_sw (by omega), e2M]
      have hemF : emOk (up2 M3 278 5 (f : Int)) := by
        have g8 : M3 278 8 = M 278 8 := (q1 278 8 (by decide) (Or.inr (by decide))).trans (c1 278 8 (by decide))
        have g7 : M3 278 7 = M 278 7 := (q1 278 7 (by decide) (Or.inr (by decide))).trans (c1 278 7 (by decide))
        have g4 : M3 278 4 = M 278 4 := (q1 278 4 (by decide) (Or.inr (by decide))).trans (c1 278 4 (by decide))
        unfold emOk howOkM at *
        rw [rd_k (by decide), rd_k (by decide), rd_k (by decide), up2_ne (show (282 : Nat) ≠ 278 by decide), g8, g7, g4]
        refine ⟨hem.1, hem.2.1, hem.2.2.1, fun i hi => ?_⟩
        rw [c3 282 _ (by rw [rg_car (by omega)]; decide)]
        exact hem.2.2.2 i hi
      have cF : chg [0, 10, 11] M (up2 M3 278 5 (f : Int)) := (c3.sub (by decide) : chg [0, 10, 11] M M3).up (by decide)
      have inner : Tc (iter (fun s => mo_swarms_b25 (bitsO P f) f s.1 s.2.1 s.2.2) FU (1, 0, up2 M3 278 5 (f : Int))) (fun r => r.1 = (if P f = true then 1 else 0) ∧ offQ (up2 M3 278 5 (f : Int)) r.2.2) := by
        refine Tc_l (fun i s => s.1 = (if allN (fun i => hdB M i (W f i)) i = true then 1 else 0) ∧ s.2.1 = (i : Int) ∧ offQ (up2 M3 278 5 (f : Int)) s.2.2) _ (M 3 2).toNat ⟨rfl, rfl, offQ.rf⟩ (by omega) (fun i s hi hI => ?_) (fun s hI => ?_)
        · obtain ⟨y, z, M4⟩ := s
          obtain ⟨rfl, rfl, q2⟩ := hI
          dsimp only at q2 ⊢
          have cc : chg [0, 10, 11] M M4 := cF.tr (q2.chg.sub (by decide))
          have e1 : M4 278 1 = M 3 2 := (cc 278 1 (by decide)).trans h.S.1
          have wi : wr ((i : Int) + 1) = ((i + 1 : Nat) : Int) := (wr_i (by omega) (by omega)).trans (by omega)
          unfold mo_swarms_b25
          refine Tc_f (by omega) ?_
          cases hA : allN (fun i => hdB M i (W f i)) i with
          | false =>
            refine Tc_t (by simp) (Tc_inrR ⟨?_, q2⟩)
            have : P f = false := by
              rw [hP]
              dsimp only
              have mono : ∀ n, i ≤ n → allN (fun i => hdB M i (W f i)) n = false := by
                intro n hn
                induction n with
                | zero => have : i = 0 := by omega
                          subst this; exact hA
                | succ n ih =>
                  by_cases e : i = n + 1
                  · subst e; exact hA
                  · rw [allN_S, ih (by omega), Bool.false_and]
              exact mono _ (by omega)
            rw [this]
            try rfl
          | true =>
            refine Tc_f (by simp) ?_
            obtain ⟨d1, d2, -, -⟩ := dnk h hB (show (i : Int) < M 3 2 by omega)
            obtain ⟨M5, e5, o5, -, -, tO, tA⟩ := q_thenE h hB cc (q2.env.trans eF) (q2.em hemF)
            obtain ⟨M6, e6, o6, f6, g6⟩ := find_times (d := i) tO (by omega) tA
            have hst : stk (W f i) 1000000 := by rw [hW]; exact traj_stk (fun g => codeV_in _ _ _) d1 (by omega)
            have eW : trajD (fun _ => (f : Int), (envM M).2) (M 280 i) i (M 3 3) (dsC (10 + 3 * i) M) = W f i := by rw [hW]
            rw [eW] at f6 g6
            have c6 : chg [0, 10, 11] M M6 := cc.tr ((o5.tr o6).chg.sub (by decide))
            have et : mo_timesNow i M4 = some M6 := by
              unfold mo_timesNow
              rw [e5, Option.bind_some, e6, Option.bind_some]
            refine Tc_e et (Tc_e (mo_isHeard_eq (M0 := M) h.H hst (c6 278 49 (by decide)) (c6.row (fun k => (by decide : 7 ∉ [0, 10, 11]))) f6 g6) (Tc_inlL ⟨?_, wi, (q2.tr o5).tr o6⟩))
            dsimp only
            rw [allN_S, hA, Bool.true_and]
        · obtain ⟨y, z, M4⟩ := s
          obtain ⟨rfl, rfl, q2⟩ := hI
          dsimp only at q2
          have cc : chg [0, 10, 11] M M4 := cF.tr (q2.chg.sub (by decide))
          have e1 : M4 278 1 = M 3 2 := (cc 278 1 (by decide)).trans h.S.1
          unfold mo_swarms_b25
          refine Tc_t (by show M4 278 1 ≤ (((M 3 2).toNat : Nat) : Int); omega) (Tc_inr ⟨?_, q2⟩)
          rw [hP]
      unfold mo_swarms_b9
      refine Tc_f (by omega) (Tc_u (Tc_c inner (fun r hr => ?_)))
      obtain ⟨v, w, M4⟩ := r
      obtain ⟨rfl, q2⟩ := hr
      dsimp only at q2 ⊢
      unfold mo_swarms_j57_9 mo_swarms_j69_9
      rw [wf]
      have oF : offA M2 (up2 M3 278 5 (f : Int)) := fun a k x y => by
        have : up2 M3 278 5 (f : Int) a k = M3 a k := by
          rcases y with z | z
          · exact rd_a z
          · exact rd_k z
        rw [this]
        exact q1 a k x y
      have oE : offA M2 M4 := oF.tr q2.chg
      rw [bitsO_S]
      cases hPf : P f with
      | true => exact Tc_f (by simp) (Tc_inl ⟨by rw [if_pos rfl], rfl, oE⟩)
      | false => exact Tc_t (by simp) (Tc_inl ⟨by rw [if_neg (by decide)]; exact or_z (bitsO_in _ _), rfl, oE⟩)
    · obtain ⟨y, z, M3⟩ := s
      obtain ⟨rfl, rfl, q1⟩ := hI
      unfold mo_swarms_b9
      exact Tc_t (by show (10 : Int) ≤ ((10 : Nat) : Int); omega) (Tc_inr ⟨rfl, q1⟩)
  refine Tc_c l2 (fun r hr => ?_)
  obtain ⟨bt, v, M3⟩ := r
  obtain ⟨rfl, o3⟩ := hr
  dsimp only at o3 ⊢
  refine Tc_u (Tc_some ⟨rfl, h.go0 (fun a k hn => ?_)⟩)
  dsimp only
  by_cases e : a = 278 ∧ k = 5
  · obtain ⟨rfl, rfl⟩ := e
    rw [rd_same]; exact h.N.2.2.2.2.1.symm
  · have hne : a ≠ 278 ∨ k ≠ 5 := by omega
    have : up2 M3 278 5 (-1) a k = M3 a k := by
      rcases hne with z | z
      · exact rd_a z
      · exact rd_k z
    rw [this, o3 a k (by simpa using hn) hne]
    exact c1 a k hn
