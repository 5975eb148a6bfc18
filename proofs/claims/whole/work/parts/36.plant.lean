-- ===== plant, egg =====
def sTh (s : DS) (p : Nat) (v : Int) : DS := (s.1, s.2.1, s.2.2.1, up1 s.2.2.2 p v)
theorem sTh_ok {n v : Int} {p : Nat} {s : DS} (hs : okD n s) (h0 : 0 ≤ v) (h9 : v ≤ 9) : okD n (sTh s p v) := by
  obtain ⟨q1, q2, q3, q4, q5, q6, q7, q8, q9⟩ := hs
  refine ⟨q1, q2, q3, q4, q5, q6, q7, q8, fun q hq => ?_⟩
  show 0 ≤ up1 s.2.2.2 p v q ∧ up1 s.2.2.2 p v q ≤ 9
  rw [up1_at]
  split
  · exact ⟨h0, h9⟩
  · exact q9 q hq
/-- the place of the latest, and how late -/
def pnN (V : Nat → Int) : Nat → Int × Int
  | 0 => (0, -1)
  | i + 1 => if V i ≤ (pnN V i).2 then pnN V i else ((i : Int), V i)
theorem pnN_S (V : Nat → Int) (i : Nat) : pnN V (i + 1) = if V i ≤ (pnN V i).2 then pnN V i else ((i : Int), V i) := rfl
theorem c_plant {B : Int} {M : MEM} (h : Rel B M) (hB : B ≤ 100000000) (x n k : Int) : Lk B (dh_plant x n k M) (mo_plant x n k) := by
  have nw := now_in h
  have c3 : chg [0] M (up2 M 278 13 0) := chg.rf.up (by decide)
  unfold Lk dh_plant
  by_cases hd : 0 ≤ x ∧ x < M 3 2
  · have hN := h.S.2.2.1
    refine Tc_f (by rw [isDonkey_y h.S.2.2.1 hd.1 hd.2]; decide) ?_
    by_cases hn : 1 ≤ n ∧ n ≤ 9
    · refine Tc_f (by omega) (Tc_f (by omega) ?_)
      by_cases hk : 1 ≤ k ∧ k ≤ 60
      · refine Tc_f (by rw [asked_y hk]; decide) ?_
        obtain ⟨d, rfl⟩ : ∃ d : Nat, x = (d : Int) := ⟨x.toNat, by omega⟩
        obtain ⟨d1, d2, d3, d4⟩ := dnk h hB hd.2
        obtain ⟨np, hnp⟩ : ∃ np : Nat, M 280 d = (np : Int) := ⟨(M 280 d).toNat, by have := d1.1; omega⟩
        have hnp12 : np ≤ 12 := by have := d1.2.1; omega
        have hnp4 : 4 ≤ np := by have := d1.1; omega
        have hth : ∀ p : Nat, p < np → 0 ≤ (dsC (10 + 3 * d) M).2.2.2 p ∧ (dsC (10 + 3 * d) M).2.2.2 p ≤ 9 := fun p hp => d1.2.2.2.2.2.2.2.2 p (by omega)
        obtain ⟨S, hS⟩ : ∃ S : Nat → DS, S = fun p => sTh (dsC (10 + 3 * d) M) p (min 9 ((dsC (10 + 3 * d) M).2.2.2 p + n)) := ⟨_, rfl⟩
        have hSo : ∀ p, p < np → okD (M 280 d) (S p) := fun p hp => by
          have := hth p hp
          rw [hS]; exact sTh_ok d1 (by omega) (by omega)
        have hSk : ∀ p, (S p).2.2.1 ≤ 100000000 := fun p => by rw [hS]; exact d2
        obtain ⟨V, hV⟩ : ∃ V : Nat → Int, V = fun p => if 0 ≤ tmN (qS M d (S p)) k 600 then tmN (qS M d (S p)) k 600 else 601 := ⟨_, rfl⟩
        have rb : ∀ {M1 : MEM}, cE M M1 → ∀ k, M1 (10 + 3 * d) k = M (10 + 3 * d) k := fun {M1} c k => c.1 _ _ (by rcases rg_D12 (a := 10 + 3 * d) (k := k) (by omega) (by omega) with q | q <;> rw [q] <;> decide)
        have hV0 : ∀ p, 0 ≤ V p ∧ V p ≤ 601 := fun p => by
          have := tmN_le (qS M d (S p)) k 600
          rw [hV]; dsimp only; split <;> omega
        have l1 : Tc (iter (fun s => dh_plant_b37 d n k s.1 s.2.1 s.2.2.1 s.2.2.2) FU (0, -1, 0, M)) (fun r => r.1 = (pnN V np).1 ∧ r.2.1 = (pnN V np).2 ∧ offL 224 M r.2.2.2) := by
          refine Tc_n (fun p s => s.1 = (pnN V p).1 ∧ s.2.1 = (pnN V p).2 ∧ s.2.2.1 = (p : Int) ∧ cE M s.2.2.2 ∧ offL 224 M s.2.2.2) np ⟨rfl, rfl, rfl, cE.rf h, offL.rf⟩ (by omega) (fun p s hp hI => ?_) (fun s hI => ?_)
          · obtain ⟨y, y', z, M1⟩ := s
            obtain ⟨rfl, rfl, rfl, q1, q2⟩ := hI
            dsimp only at q1 q2 ⊢
            have e2' : M1 (10 + 3 * d) 2 = (np : Int) := (rb q1 2).trans (d4.trans hnp)
            have wp : wr ((p : Int) + 1) = ((p + 1 : Nat) : Int) := (wr_i (by omega) (by omega)).trans (by omega)
            obtain ⟨M2, e2, o2, f2⟩ := q_lookE (e := envM M) h (Or.inl rfl) hd.2 hB (q1.1.sub (by decide)) (q1.2.1.trans (env_0 h (Or.inl rfl)).1) q1.2.2
            have hthp := hth p hp
            have e231 : M2 231 p = (dsC (10 + 3 * d) M).2.2.2 p := (f2.2.2.2.1.2.2.2 p (by omega)).symm
            have et : be_thistlesOn 230 (p : Int) M2 = some ((dsC (10 + 3 * d) M).2.2.2 p) := by
              unfold be_thistlesOn
              rw [if_neg (by omega), if_neg (by omega), if_pos (by omega), toNat_c, ← e231]
            have ep : be_put 230 (p : Int) (min 9 ((dsC (10 + 3 * d) M).2.2.2 p + n)) M2 = some (up2 M2 231 p (min 9 ((dsC (10 + 3 * d) M).2.2.2 p + n))) := by
              unfold be_put
              rw [if_neg (by omega), if_neg (by omega), if_pos (by omega), toNat_c]
              rfl
            have f3 := f2.mod (s' := S p) (M' := up2 M2 231 p (min 9 ((dsC (10 + 3 * d) M).2.2.2 p + n))) (Or.inl rfl) (fun c _ hc => up2_ne hc) (rd_a (by decide)) (by
              have q := f2.2.2.2.1
              rw [hS]
              refine ⟨?_, ?_, ?_, fun p' hp' => ?_⟩
              · show _ = up2 M2 231 p (min 9 ((dsC (10 + 3 * d) M).2.2.2 p + n)) 230 3
                rw [rd_a (by decide)]; exact q.1
              · show _ = up2 M2 231 p (min 9 ((dsC (10 + 3 * d) M).2.2.2 p + n)) 230 4
                rw [rd_a (by decide)]; exact q.2.1
              · show _ = up2 M2 231 p (min 9 ((dsC (10 + 3 * d) M).2.2.2 p + n)) 230 5
                rw [rd_a (by decide)]; exact q.2.2.1
              · show up1 (dsC (10 + 3 * d) M).2.2.2 p (min 9 ((dsC (10 + 3 * d) M).2.2.2 p + n)) p' = up2 M2 231 p (min 9 ((dsC (10 + 3 * d) M).2.2.2 p + n)) 231 p'
                rw [up1_at]
                by_cases e : p' = p
                · subst e
                  rw [if_pos rfl, rd_same]
                · rw [if_neg e, rd_k e]
                  exact q.2.2.2 p' hp')
            obtain ⟨r, M3, j', e3, o3, -, -, -, hr⟩ := after_eq (Or.inl rfl) (hSo p hp) (hSk p) nw.1 (by omega) (by omega) hk.1 (by omega) f3
            have er : r = tmN (qS M d (S p)) k 600 := tmN_eq (qS_stk (hSo p hp) (hSk p)) hk.1 hr
            have oh : offL 224 M2 (up2 M2 231 p (min 9 ((dsC (10 + 3 * d) M).2.2.2 p + n))) := ⟨fun c _ _ x _ _ _ _ => up2_ne x, fun k _ => rd_a (by decide), fun k _ => rd_a (by decide)⟩
            unfold dh_plant_b37
            rw [toNat_c]
            refine Tc_t (by omega) (Tc_f (by omega) (Tc_e e2 (Tc_e et ?_)))
            rw [wr_i (x := (dsC (10 + 3 * d) M).2.2.2 p + n) (by omega) (by omega)]
            refine Tc_e ep (Tc_e e3 ?_)
            dsimp only
            have tail : Tc (dh_plant_j117_37 d n k (pnN V p).1 (pnN V p).2 p (V p) M3) (fun r => ∃ s', r = .inl s' ∧ s'.1 = (pnN V (p + 1)).1 ∧ s'.2.1 = (pnN V (p + 1)).2 ∧ s'.2.2.1 = ((p + 1 : Nat) : Int) ∧ cE M s'.2.2.2 ∧ offL 224 M s'.2.2.2) := by
              unfold dh_plant_j117_37 dh_plant_j134_37
              rw [wp, pnN_S]
              have cM := ((q1.L o2).L oh).L o3.L
              have oM := ((q2.tr o2).tr oh).tr o3.L
              refine Tc_i (fun c => Tc_inl ⟨?_, ?_, rfl, cM, oM⟩) (fun c => Tc_inl ⟨?_, ?_, rfl, cM, oM⟩) <;> dsimp only
              · rw [if_pos c]
              · rw [if_pos c]
              · rw [if_neg c]
              · rw [if_neg c]
            have eVp : V p = if 0 ≤ tmN (qS M d (S p)) k 600 then tmN (qS M d (S p)) k 600 else 601 := by rw [hV]
            rw [← er] at eVp
            by_cases c : 0 ≤ r
            · refine Tc_t c ?_
              rw [if_pos c] at eVp
              rw [← eVp]; exact tail
            · refine Tc_f c ?_
              rw [if_neg c] at eVp
              rw [← eVp]; exact tail
          · obtain ⟨y, y', z, M1⟩ := s
            obtain ⟨rfl, rfl, rfl, q1, q2⟩ := hI
            have e2' : M1 (10 + 3 * d) 2 = (np : Int) := (rb q1 2).trans (d4.trans hnp)
            unfold dh_plant_b37
            dsimp only
            rw [toNat_c]
            exact Tc_t (by omega) (Tc_t (by omega) (Tc_inr ⟨rfl, rfl, q2⟩))
        obtain ⟨w1, e1, a1, a2, y1⟩ := l1
        obtain ⟨b1, b2, w1, M1⟩ := w1
        dsimp only at a1 a2 y1
        subst a1 a2
        refine Tc_e e1 ?_
        dsimp only
        obtain ⟨M2, n1, n2, n3⟩ := newRow_eq M1
        refine Tc_e n1 ?_
        have mo : ∀ M3 : MEM, chg [0, 10] M M3 → Tc (mo_plant d n k M3) (fun q => q.1 = (pnN V np).1 ∧ rowM [if (pnN V np).2 = 601 then -1 else (pnN V np).2] q.2 ∧ moF M3 q.2 ∧ chg [0, 10] M q.2) := fun M3 c3 => by
          unfold mo_plant
          have c4 : chg [0, 10] M (up2 M3 278 13 0) := c3.up (by decide)
          refine Tc_u (Tc_f (by rw [moDonkey_y h.S (c4 278 1 (by decide)) hd]; decide) (Tc_f (by rw [moIn_y hn]; decide) (Tc_f (by rw [moIn_y hk]; decide) ?_)))
          have l2 : Tc (iter (fun s => mo_plant_b44 d n k s.1 s.2.1 s.2.2.1 s.2.2.2) FU (-1, 0, 0, up2 M3 278 13 0)) (fun r => r.1 = (pnN V np).1 ∧ r.2.1 = (pnN V np).2 ∧ chg [0] (up2 M3 278 13 0) r.2.2.2 ∧ moF (up2 M3 278 13 0) r.2.2.2) := by
            refine Tc_n (fun p s => s.1 = (if p = 0 then -1 else (pnN V p).1) ∧ s.2.1 = (if p = 0 then 0 else (pnN V p).2) ∧ s.2.2.1 = (p : Int) ∧ chg [0] (up2 M3 278 13 0) s.2.2.2 ∧ moF (up2 M3 278 13 0) s.2.2.2 ∧ (p ≠ 0 → 0 ≤ (pnN V p).1)) np ⟨rfl, rfl, rfl, chg.rf, moF.rf, fun q => absurd rfl q⟩ (by omega) (fun p s hp hI => ?_) (fun s hI => ?_)
            · obtain ⟨y, y', z, M4⟩ := s
              obtain ⟨rfl, rfl, rfl, q1, q2, q3⟩ := hI
              dsimp only at q1 q2 ⊢
              have cM4 := c4.tr (q1.sub (by decide))
              have e280 : M4 280 d = (np : Int) := by rw [cM4 280 d (by decide : 12 ∉ [0, 10])]; exact hnp
              have wp : wr ((p : Int) + 1) = ((p + 1 : Nat) : Int) := (wr_i (by omega) (by omega)).trans (by omega)
              obtain ⟨M5, e5, o5, o5', o5'', tO, tA⟩ := q_then h hB cM4
              have hthp := hth p hp
              have eth : M5 292 (55 * d + 3 + p) = (dsC (10 + 3 * d) M).2.2.2 p := ((tA.2.2.2.2.2.2 d (by omega)).2.2.2 p (by show (p : Int) < M 280 d; omega)).symm
              have wi : wr (wr (wr (55 * (d : Int)) + 3) + (p : Int)) = ((55 * d + 3 + p : Nat) : Int) := by rw [w55 (by omega), wr_i (x := ((55 * d : Nat) : Int) + 3) (by omega) (by omega), wr_i (by omega) (by omega)]; omega
              have tA' := tA.mod (d := d) (s' := S p) (M' := up2 M5 292 (55 * d + 3 + p) (min 9 ((dsC (10 + 3 * d) M).2.2.2 p + n))) tO.1 (fun d hd => (tO.2.2.2 d hd).1.2.1) (fun c hc => up2_ne hc) (fun k hk => rd_k (by omega)) (by omega) (by
                have q := tA.2.2.2.2.2.2 d (by omega)
                rw [hS]
                refine ⟨?_, ?_, ?_, fun p' hp' => ?_⟩
                · show _ = up2 M5 292 (55 * d + 3 + p) (min 9 ((dsC (10 + 3 * d) M).2.2.2 p + n)) 292 (55 * d + 1)
                  rw [rd_k (by omega)]; exact q.1
                · show _ = up2 M5 292 (55 * d + 3 + p) (min 9 ((dsC (10 + 3 * d) M).2.2.2 p + n)) 292 (55 * d)
                  rw [rd_k (by omega)]; exact q.2.1
                · show _ = up2 M5 292 (55 * d + 3 + p) (min 9 ((dsC (10 + 3 * d) M).2.2.2 p + n)) 292 (55 * d + 2)
                  rw [rd_k (by omega)]; exact q.2.2.1
                · show up1 (dsC (10 + 3 * d) M).2.2.2 p (min 9 ((dsC (10 + 3 * d) M).2.2.2 p + n)) p' = up2 M5 292 (55 * d + 3 + p) (min 9 ((dsC (10 + 3 * d) M).2.2.2 p + n)) 292 (55 * d + 3 + p')
                  rw [up1_at]
                  by_cases e : p' = p
                  · subst e
                    rw [if_pos rfl, rd_same]
                  · rw [if_neg e, rd_k (by omega)]
                    exact q.2.2.2 p' hp')
              obtain ⟨M6, e6, o6, f6, g6⟩ := find_times (d := d) (tO.mod (d := d) (hSo p hp) (hSk p)) (by omega) tA'
              rw [updS_same] at f6 g6
              have ht := tmN_times (T := qS M d (S p)) (qS_stk (hSo p hp) (hSk p)) hk.1 f6 g6
              have cu : chg [0] M5 (up2 M5 292 (55 * d + 3 + p) (min 9 ((dsC (10 + 3 * d) M).2.2.2 p + n))) := chg.up (show rg 292 _ ∈ [0] from List.mem_singleton.mpr rfl) chg.rf
              have cM6 : chg [0] (up2 M3 278 13 0) M6 := (q1.tr o5.chg).tr (cu.tr o6.chg)
              have mM6 : moF (up2 M3 278 13 0) M6 := (q2.tr o5.mo).tr ((moF.up (by decide)).tr o6.mo)
              have eVp : V p = if 0 ≤ tmN (qS M d (S p)) k 600 then tmN (qS M d (S p)) k 600 else 601 := by rw [hV]
              have tail : Tc (mo_plant_j120_44 d n k (if p = 0 then -1 else (pnN V p).1) (if p = 0 then 0 else (pnN V p).2) p (V p) M6) (fun r => ∃ s', r = .inl s' ∧ s'.1 = (if p + 1 = 0 then -1 else (pnN V (p + 1)).1) ∧ s'.2.1 = (if p + 1 = 0 then 0 else (pnN V (p + 1)).2) ∧ s'.2.2.1 = ((p + 1 : Nat) : Int) ∧ chg [0] (up2 M3 278 13 0) s'.2.2.2 ∧ moF (up2 M3 278 13 0) s'.2.2.2 ∧ (p + 1 ≠ 0 → 0 ≤ (pnN V (p + 1)).1)) := by
                have hv := hV0 p
                unfold mo_plant_j120_44 mo_plant_j138_44 mo_plant_j146_44
                rw [wp, if_neg (show ¬ p + 1 = 0 by omega), if_neg (show ¬ p + 1 = 0 by omega), pnN_S]
                by_cases p0 : p = 0
                · subst p0
                  simp only [if_true]
                  have hcond : ¬ V 0 ≤ (pnN V 0).2 := by show ¬ V 0 ≤ -1; omega
                  rw [if_neg hcond]
                  refine Tc_inl ?_
                  exact ⟨rfl, rfl, rfl, cM6, mM6, fun _ => by dsimp only; omega⟩
                · rw [if_neg p0, if_neg p0]
                  have := q3 p0
                  refine Tc_f (by omega) (Tc_i (fun c => ?_) (fun c => ?_))
                  · rw [if_neg (by omega)]
                    exact Tc_inl ⟨rfl, rfl, rfl, cM6, mM6, fun _ => by dsimp only; omega⟩
                  · rw [if_pos (by omega)]
                    exact Tc_inl ⟨rfl, rfl, rfl, cM6, mM6, fun _ => this⟩
              unfold mo_plant_b44
              rw [wi]
              simp only [toNat_c]
              refine Tc_t (by omega) (Tc_f (by omega) (Tc_e e5 (Tc_t (by omega) (Tc_t (by omega) (Tc_u ?_)))))
              rw [eth, wr_i (x := (dsC (10 + 3 * d) M).2.2.2 p + n) (by omega) (by omega)]
              refine Tc_e e6 ?_
              rcases ht with ⟨z1, z2, z3, z4⟩ | ⟨z1, z2⟩
              · rw [if_pos (by omega)] at eVp
                rw [wr_i (x := k - 1) (by omega) (by omega), wr_i (x := M6 293 (k - 1).toNat + 1) (by omega) (by omega), ← z2, ← eVp]
                exact Tc_t z1 (Tc_t (by omega) tail)
              · rw [if_neg (by omega)] at eVp
                rw [← eVp]
                exact Tc_f (by omega) tail
            · obtain ⟨y, y', z, M4⟩ := s
              obtain ⟨rfl, rfl, rfl, q1, q2, q3⟩ := hI
              dsimp only at q1 q2 ⊢
              have e280 : M4 280 d = (np : Int) := by rw [(c4.tr (q1.sub (by decide))) 280 d (by decide : 12 ∉ [0, 10])]; exact hnp
              unfold mo_plant_b44
              rw [toNat_c, if_neg (show ¬ np = 0 by omega), if_neg (show ¬ np = 0 by omega)]
              exact Tc_t (by omega) (Tc_t (by omega) (Tc_inr ⟨rfl, rfl, q1, q2⟩))
          refine Tc_c l2 (fun r hr => ?_)
          obtain ⟨b1, b2, v, M4⟩ := r
          obtain ⟨rfl, rfl, q1, q2⟩ := hr
          dsimp only at q1 q2 ⊢
          obtain ⟨x1, x2⟩ := moRow0 M4
          refine Tc_u ?_
          unfold mo_plant_j172
          by_cases z : (pnN V np).2 = 601
          · refine Tc_t z ?_
            rw [if_pos z]
            obtain ⟨M5, t1, t2, t3⟩ := moTell_eq (-1) x1 (by simp)
            refine Tc_e t1 (Tc_some ?_)
            exact ⟨rfl, t2, ((moF.up (by decide)).tr q2).tr (x2.tr t3).mo, (c4.tr (q1.sub (by decide))).tr (x2.tr t3).chg⟩
          · refine Tc_f z ?_
            rw [if_neg z]
            obtain ⟨M5, t1, t2, t3⟩ := moTell_eq (pnN V np).2 x1 (by simp)
            refine Tc_e t1 (Tc_some ?_)
            exact ⟨rfl, t2, ((moF.up (by decide)).tr q2).tr (x2.tr t3).mo, (c4.tr (q1.sub (by decide))).tr (x2.tr t3).chg⟩
        unfold dh_plant_j159
        have c2 : chg [0, 10] M M2 := ((y1.chg (Or.inl rfl)).sub (by decide)).tr n3.chg
        by_cases z : (pnN V np).2 = 601
        · obtain ⟨M3, t1, t2, t3⟩ := tell_eq (-1) n2 (by simp)
          refine Tc_t z (Tc_e t1 (Tc_some (Tc_m (mo M3 (c2.tr t3.chg)) fun q hq => ?_)))
          rw [if_pos z] at hq
          exact ⟨hq.1, h.go10 hq.2.2.2 (t2.fin hq.2.2.1 hq.2.1 (by simp))⟩
        · obtain ⟨M3, t1, t2, t3⟩ := tell_eq (pnN V np).2 n2 (by simp)
          refine Tc_f z (Tc_e t1 (Tc_some (Tc_m (mo M3 (c2.tr t3.chg)) fun q hq => ?_)))
          rw [if_neg z] at hq
          exact ⟨hq.1, h.go10 hq.2.2.2 (t2.fin hq.2.2.1 hq.2.1 (by simp))⟩
      · refine Tc_t (asked_n hk) (Tc_some ?_)
        unfold mo_plant
        exact Tc_u (Tc_f (by rw [moDonkey_y h.S (c3 278 1 (by decide)) hd]; decide) (Tc_f (by rw [moIn_y hn]; decide) (Tc_t (moIn_n hk) (Tc_some ⟨rfl, h.go0 c3⟩))))
    · have mo : Tc (mo_plant x n k M) (fun q => q.1 = -1 ∧ Rel B q.2) := by
        unfold mo_plant
        exact Tc_u (Tc_f (by rw [moDonkey_y h.S (c3 278 1 (by decide)) hd]; decide) (Tc_t (moIn_n hn) (Tc_some ⟨rfl, h.go0 c3⟩)))
      exact Tc_i (fun _ => Tc_some mo) (fun q => Tc_t (by omega) (Tc_some mo))
  · refine Tc_t (isDonkey_n h.S.2.2.1 hd) (Tc_some ?_)
    unfold mo_plant
    exact Tc_u (Tc_t (moDonkey_n h.S (c3 278 1 (by decide)) hd) (Tc_some ⟨rfl, h.go0 c3⟩))
