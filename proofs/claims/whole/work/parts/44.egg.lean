-- ===== egg =====
noncomputable def blN (T : Nat → DS) (j : Nat) : Int := tmN T ((j : Int) + 1) 600 - tmN T 1 600
theorem blN_ex : ∃ f : (Nat → DS) → Nat → Int, ∀ T j, f T j = blN T j := ⟨blN, fun _ _ => rfl⟩
/-- kept closed -/
noncomputable def blC : (Nat → DS) → Nat → Int := Classical.choose blN_ex
theorem blC_def (T : Nat → DS) (j : Nat) : blC T j = tmN T ((j : Int) + 1) 600 - tmN T 1 600 := Classical.choose_spec blN_ex T j
/-- the nearest of the first -/
noncomputable def egN (E : Nat → Int) : Nat → Nat
  | 0 => 1
  | i + 1 => if E (egN E i) ≤ E (i + 2) then egN E i else i + 2
theorem egN_S (E : Nat → Int) (i : Nat) : egN E (i + 1) = if E (egN E i) ≤ E (i + 2) then egN E i else i + 2 := rfl
theorem egN_in (E : Nat → Int) : ∀ i, 1 ≤ egN E i ∧ egN E i ≤ i + 1 := by
  intro i
  induction i with
  | zero => exact ⟨Nat.le_refl _, Nat.le_refl _⟩
  | succ i ih => rw [egN_S]; split <;> omega
theorem c_egg {B : Int} {M : MEM} (h : Rel B M) (hB : B ≤ 100000000) (x k v : Int) : Lk B (dh_egg x k v M) (mo_egg x k v) := by
  have nw := now_in h
  have c3 : chg [0] M (up2 M 278 13 0) := chg.rf.up (by decide)
  unfold Lk dh_egg
  by_cases hd : 0 ≤ x ∧ x < M 3 2
  · refine Tc_f (by rw [isDonkey_y h.S.2.2.1 hd.1 hd.2]; decide) ?_
    by_cases hk : 1 ≤ k ∧ k ≤ 12
    · refine Tc_f (by omega) (Tc_f (by omega) ?_)
      by_cases hv : 1 ≤ v ∧ v ≤ 600
      · refine Tc_f (by rw [far_y hv]; decide) ?_
        obtain ⟨d, rfl⟩ : ∃ d : Nat, x = (d : Int) := ⟨x.toNat, by omega⟩
        obtain ⟨k, rfl⟩ : ∃ k' : Nat, k = (k' : Int) := ⟨k.toNat, by omega⟩
        obtain ⟨d1, d2, -, -⟩ := dnk h hB hd.2
        have hst := q_stk h hd.2 hB
        obtain ⟨M1, e1, o1, f1⟩ := q_look0 h (Or.inl rfl) hd.2 hB
        obtain ⟨j', M2, e2, f2, o2, -, hj, hq, -⟩ := fut_run (till := 600) (most := 13) (Or.inl rfl) d1 d2 nw.1 (by omega) (Int.le_refl _) (by omega) f1
        have f2 : futAt 224 (envM M) (M 280 d) d (M 3 3) (qT M d) j' M2 := f2
        have hq : (600 : Int) ≤ j' ∨ 13 ≤ cnt (qT M d) j' := hq
        have h10 : M2 224 10 = cnt (qT M d) j' := f2.2.2.2.2.2.2.2.1
        have hj6 : j' ≤ 600 := by omega
        have hmo := (cnt_mono hst hj6 (by omega)).1
        have hC := cnt_le hst (show 600 ≤ 1000000 by omega)
        have hS := cnt_le hst (show j' ≤ 1000000 by omega)
        have hSC : cnt (qT M d) j' = cnt (qT M d) 600 ∨ 13 ≤ cnt (qT M d) j' := by
          rcases hq with q | q
          · have : j' = 600 := by omega
            subst this; exact Or.inl rfl
          · exact Or.inr q
        refine Tc_e e1 (Tc_e e2 ?_)
        have hboil : ∀ (M4 : MEM) (j : Nat), M4 224 = M2 224 → M4 233 = M2 233 → (j : Int) < cnt (qT M d) j' → fu_boiled 224 j M4 = some (blC (qT M d) j) ∧ -600 ≤ blC (qT M d) j ∧ blC (qT M d) j ≤ 600 := fun M4 j m1 m2 hj => by
          have hb : ∀ k, fu_strokeMinute 224 k M4 = fu_strokeMinute 224 k M2 := fun k => by unfold fu_strokeMinute; rw [m1, show 224 + 9 = 233 from rfl, m2]
          obtain ⟨a1, a2, a3, a4⟩ := stroke_eq (k := (j : Int) + 1) f2 (by omega) (by omega) (by omega)
          obtain ⟨b1, b2, b3, b4⟩ := stroke_eq (k := 1) f2 (by decide) (by omega) (by decide)
          have t2 := tmN_eq (k := (j : Int) + 1) hst (by omega) (Or.inl ⟨by omega, _, a2, a4, by omega, rfl⟩)
          have t1 := tmN_eq (k := 1) hst (by decide) (Or.inl ⟨by omega, _, b2, b4, by omega, rfl⟩)
          have e : blC (qT M d) j = M2 (224 + 9) ((j : Int) + 1 - 1).toNat - M2 (224 + 9) ((1 : Int) - 1).toNat := by rw [blC_def, ← t2, ← t1]; omega
          clear t1 t2
          refine ⟨?_, by omega, by omega⟩
          unfold fu_boiled
          rw [hb, hb, wr_i (x := (j : Int) + 1) (by omega) (by omega), a1, Option.bind_some, b1, Option.bind_some, wr_i (by omega) (by omega), e]
        obtain ⟨E, hE⟩ : ∃ E : Nat → Int, E = fun j => iabs (wr (blC (qT M d) j - v)) := ⟨_, rfl⟩
        have c2 : chg [0] M M2 := (o1.tr o2.L).chg (Or.inl rfl)
        -- the reference, up to the row
        have mo0 : ∀ M3 : MEM, chg [0, 10] M M3 → ∃ M5, mo_timesNow d (up2 M3 278 13 0) = some M5 ∧ chg [0] M3 M5 ∧ moF M3 M5 ∧ chg [0, 10] M M5 ∧ M5 278 38 = cnt (qT M d) 600 ∧ (∀ M6 : MEM, M6 293 = M5 293 → ∀ j : Nat, (j : Int) < cnt (qT M d) 600 → mo_boils j M6 = some (blC (qT M d) j)) ∧ mo_isDonkey d (up2 M3 278 13 0) = 1 := fun M3 c3 => by
          have c4 : chg [0, 10] M (up2 M3 278 13 0) := c3.up (by decide)
          obtain ⟨M5, g1, g2, g3, g4⟩ := q_times h hB c4 hd.2
          refine ⟨M5, g1, (chg.rf.up (by decide) : chg [0] M3 (up2 M3 278 13 0)).tr g2.chg, (moF.up (by decide)).tr g2.mo, c4.tr (g2.chg.sub (by decide)), g3, fun M6 e6 j hj => ?_, moDonkey_y h.S (c4 278 1 (by decide)) hd⟩
          have t2 := tmN_times (k := (j : Int) + 1) hst (by omega) g3 g4
          have t1 := tmN_times (k := 1) hst (by decide) g3 g4
          rw [g3] at t1 t2
          rcases t2 with ⟨-, t2, y2, y3⟩ | ⟨t2, -⟩
          · rcases t1 with ⟨-, t1, x2, x3⟩ | ⟨t1, -⟩
            · have e : blC (qT M d) j = M5 293 j - M5 293 0 := by
                rw [blC_def, t2, t1, show ((j : Int) + 1 - 1).toNat = j by omega, show ((1 : Int) - 1).toNat = 0 from rfl]
                omega
              rw [show ((j : Int) + 1 - 1).toNat = j by omega] at y2 y3
              rw [show ((1 : Int) - 1).toNat = 0 from rfl] at x2 x3
              clear t1 t2
              unfold mo_boils
              rw [if_pos (by omega), toNat_c, e6, e, wr_i (by omega) (by omega)]
            · omega
          · omega
        have wk1 : wr ((k : Int) + 1) = (k : Int) + 1 := wr_i (by omega) (by omega)
        rw [wk1]
        by_cases hc : (k : Int) + 1 ≤ cnt (qT M d) j'
        · refine Tc_t (by omega) ?_
          obtain ⟨N, hN⟩ : ∃ N : Nat, N = (min (cnt (qT M d) 600) 13 - 2).toNat := ⟨_, rfl⟩
          have eb := egN_in E
          have l1 : iter (fun s => dh_egg_b71 k v s.1 s.2 M2) FU (1, 2) = some (((egN E N : Nat) : Int), (N : Int) + 2) := by
            have := loop_traj (body := fun s => dh_egg_b71 k v s.1 s.2 M2) (e := (((egN E N : Nat) : Int), (N : Int) + 2)) (fun i => (((egN E i : Nat) : Int), (i : Int) + 2)) N (by omega) (fun i hi => by
              dsimp only
              have := eb i
              obtain ⟨a1, a2, a3⟩ := hboil M2 (i + 2) rfl rfl (by omega)
              obtain ⟨b1, b2, b3⟩ := hboil M2 (egN E i) rfl rfl (by omega)
              unfold dh_egg_b71 dh_egg_j125_71
              rw [if_neg (by omega), if_neg (by omega), show (i : Int) + 2 = ((i + 2 : Nat) : Int) by omega, a1, Option.bind_some, b1, Option.bind_some, wr_i (x := ((i + 2 : Nat) : Int) + 1) (by omega) (by omega), egN_S]
              have e1 : iabs (wr (blC (qT M d) (egN E i) - v)) = E (egN E i) := by rw [hE]
              have e2 : iabs (wr (blC (qT M d) (i + 2) - v)) = E (i + 2) := by rw [hE]
              rw [e1, e2]
              by_cases z : E (egN E i) ≤ E (i + 2)
              · rw [if_pos z, if_pos z]; congr 3
              · rw [if_neg z, if_neg z]; congr 3) (by
              dsimp only
              unfold dh_egg_b71
              by_cases z : M2 224 10 ≤ (N : Int) + 2
              · rw [if_pos z]
              · rw [if_neg z, if_pos (by omega)])
            exact this
          have hbN := eb N
          have hbS : ((egN E N : Nat) : Int) < cnt (qT M d) j' := by omega
          refine Tc_e l1 ?_
          dsimp only
          generalize hbst : egN E N = bst at *
          unfold dh_egg_j131
          obtain ⟨M3, n1, n2, n3⟩ := newRow_eq M2
          obtain ⟨M4, t1, t2, t3⟩ := tell_eq (bst : Int) n2 (by simp)
          have oC := n3.tr t3
          obtain ⟨a1, -⟩ := hboil M4 bst (oC.cell (by decide) (by decide)) (oC.cell (by decide) (by decide)) hbS
          obtain ⟨M5, u1, u2, u3⟩ := tell_eq (blC (qT M d) bst) t2 (by simp)
          have oC2 := oC.tr u3
          obtain ⟨b1, -⟩ := hboil M5 k (oC2.cell (by decide) (by decide)) (oC2.cell (by decide) (by decide)) (by omega)
          refine Tc_e n1 (Tc_e t1 (Tc_e a1 (Tc_e u1 (Tc_e b1 (Tc_some ?_)))))
          dsimp only
          obtain ⟨M6, g1, g2, g3, g4, g5, g6, g7⟩ := mo0 M5 ((c2.sub (by decide)).tr oC2.chg)
          unfold mo_egg
          refine Tc_u (Tc_f (by rw [g7]; decide) (Tc_f (by rw [moIn_y hk]; decide) (Tc_f (by rw [show mo_isMore v = 1 from moIn_y hv]; decide) (Tc_e g1 (Tc_t (by omega) ?_)))))
          have l2 : iter (fun s => mo_egg_b54 k v s.1 s.2 M6) FU (1, 2) = some ((bst : Int), (N : Int) + 2) := by
            have := loop_traj (body := fun s => mo_egg_b54 k v s.1 s.2 M6) (e := (((egN E N : Nat) : Int), (N : Int) + 2)) (fun i => (((egN E i : Nat) : Int), (i : Int) + 2)) N (by omega) (fun i hi => by
              dsimp only
              have := eb i
              have a1 := g6 M6 rfl (i + 2) (by omega)
              have b1 := g6 M6 rfl (egN E i) (by omega)
              unfold mo_egg_b54 mo_egg_j99_54
              rw [if_neg (by omega), if_neg (by omega), show (i : Int) + 2 = ((i + 2 : Nat) : Int) by omega, a1, Option.bind_some, b1, Option.bind_some, wr_i (x := ((i + 2 : Nat) : Int) + 1) (by omega) (by omega), egN_S]
              have e1 : iabs (wr (blC (qT M d) (egN E i) - v)) = E (egN E i) := by rw [hE]
              have e2 : iabs (wr (blC (qT M d) (i + 2) - v)) = E (i + 2) := by rw [hE]
              rw [e1, e2]
              by_cases z : E (egN E i) ≤ E (i + 2)
              · rw [if_pos z, if_pos z]; congr 3
              · rw [if_neg z, if_neg z]; congr 3) (by
              dsimp only
              unfold mo_egg_b54
              by_cases z : 12 < (N : Int) + 2
              · rw [if_pos z]
              · rw [if_neg z, if_pos (by omega)])
            rw [hbst] at this
            exact this
          refine Tc_e l2 ?_
          dsimp only
          unfold mo_egg_j105
          obtain ⟨x1, x2⟩ := moRow0 M6
          obtain ⟨M7, v1, v2, v3⟩ := moTell_eq (bst : Int) x1 (by simp)
          have oX := x2.tr v3
          have a2 := g6 M7 (oX.cell (by decide) (by decide)) bst (by omega)
          obtain ⟨M8, w1, w2, w3⟩ := moTell_eq (blC (qT M d) bst) v2 (by simp)
          have oX2 := oX.tr w3
          have b2 := g6 M8 (oX2.cell (by decide) (by decide)) k (by omega)
          exact Tc_u (Tc_e v1 (Tc_e a2 (Tc_e w1 (Tc_e b2 (Tc_some ⟨rfl, h.go10 (g4.tr oX2.chg) (u2.fin (g3.tr oX2.mo) w2 (by simp))⟩)))))
        · refine Tc_f (by omega) (Tc_some ?_)
          dsimp only
          obtain ⟨M6, g1, g2, g3, g4, g5, g6, g7⟩ := mo0 M2 (c2.sub (by decide))
          unfold mo_egg
          refine Tc_u (Tc_f (by rw [g7]; decide) (Tc_f (by rw [moIn_y hk]; decide) (Tc_f (by rw [show mo_isMore v = 1 from moIn_y hv]; decide) (Tc_e g1 (Tc_f (by omega) (Tc_some ⟨rfl, h.go0 (c2.tr g2)⟩))))))
      · refine Tc_t (far_n hv) (Tc_some ?_)
        unfold mo_egg
        exact Tc_u (Tc_f (by rw [moDonkey_y h.S (c3 278 1 (by decide)) hd]; decide) (Tc_f (by rw [moIn_y hk]; decide) (Tc_t (moIn_n hv) (Tc_some ⟨rfl, h.go0 c3⟩))))
    · have mo : Tc (mo_egg x k v M) (fun q => q.1 = -1 ∧ Rel B q.2) := by
        unfold mo_egg
        exact Tc_u (Tc_f (by rw [moDonkey_y h.S (c3 278 1 (by decide)) hd]; decide) (Tc_t (moIn_n hk) (Tc_some ⟨rfl, h.go0 c3⟩)))
      exact Tc_i (fun _ => Tc_some mo) (fun q => Tc_t (by omega) (Tc_some mo))
  · refine Tc_t (isDonkey_n h.S.2.2.1 hd) (Tc_some ?_)
    unfold mo_egg
    exact Tc_u (Tc_t (moDonkey_n h.S (c3 278 1 (by decide)) hd) (Tc_some ⟨rfl, h.go0 c3⟩))
