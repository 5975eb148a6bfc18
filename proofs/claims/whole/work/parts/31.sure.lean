-- ===== sure =====
theorem envC_cells {f : Nat} {M M' : MEM} (hc : ∀ c, ((5 ≤ c ∧ c ≤ 9) ∨ c = 19 ∨ c = 20 ∨ c = 22 ∨ (f + 1 ≤ c ∧ c ≤ f + 5)) → M' c = M c) (h6 : M' f 6 = M f 6) (e21 : M' 21 3 = M 21 3) : envC f M' = envC f M := by
  unfold envC flC
  rw [plC_cg (c := 5) (fun q hq => hc _ (by omega)), plC_cg (c := f + 1) (fun q hq => hc _ (by omega)), h6, e21, hc 19 (by omega), hc 20 (by omega), hc 22 (by omega)]
theorem eOk_cells {f : Nat} {M M' : MEM} (hc : ∀ c, ((5 ≤ c ∧ c ≤ 9) ∨ c = 19 ∨ c = 20 ∨ c = 22 ∨ (f + 1 ≤ c ∧ c ≤ f + 5)) → M' c = M c) (e21 : M' 21 3 = M 21 3) (g : eOk f M) : eOk f M' := by
  obtain ⟨g1, ⟨g2, g3, g4⟩, ⟨g5, g6, g7⟩, g8⟩ := g
  refine ⟨?_, ⟨?_, ?_, howOk_cg (fun q hq => hc _ (by omega)) g4⟩, ⟨?_, ?_, howOk_cg (fun q hq => hc _ (by omega)) g7⟩, ?_⟩
  · rw [hc 19 (by omega)]; exact g1
  · rw [hc 5 (by omega)]; exact g2
  · rw [hc 5 (by omega)]; exact g3
  · rw [hc (f + 1) (by omega)]; exact g5
  · rw [hc (f + 1) (by omega)]; exact g6
  · rw [e21, hc 22 (by omega)]; exact g8
/-- what questions of the class change but for the ROW -/
def offT (M M' : MEM) : Prop := (∀ c, c ≠ 224 → c ≠ 230 → c ≠ 231 → c ≠ 233 → c ≠ 21 → c ≠ 23 → c ≠ 24 → c ≠ 244 → M' c = M c) ∧ (∀ k, (k < 7 ∨ 10 < k) → M' 224 k = M 224 k) ∧ (∀ k, k ≠ 4 → M' 21 k = M 21 k)
theorem offT.rf {M : MEM} : offT M M := ⟨fun _ _ _ _ _ _ _ _ _ => rfl, fun _ _ => rfl, fun _ _ => rfl⟩
theorem offT.tr {M M1 M2 : MEM} (h : offT M M1) (g : offT M1 M2) : offT M M2 :=
  ⟨fun c a1 a2 a3 a4 a5 a6 a7 a8 => (g.1 c a1 a2 a3 a4 a5 a6 a7 a8).trans (h.1 c a1 a2 a3 a4 a5 a6 a7 a8), fun k a1 => (g.2.1 k a1).trans (h.2.1 k a1), fun k a1 => (g.2.2 k a1).trans (h.2.2 k a1)⟩
theorem offL.T {M M' : MEM} (h : offL 224 M M') : offT M M' := ⟨fun c a1 a2 a3 a4 a5 a6 a7 _ => h.1 c a1 a2 a3 a4 a5 a6 a7, h.2.1, h.2.2⟩
theorem offT.env {M M' : MEM} (h : offT M M') : envC 224 M' = envC 224 M :=
  envC_cells (fun c hc => h.1 c (by omega) (by omega) (by omega) (by omega) (by omega) (by omega) (by omega) (by omega)) (h.2.1 6 (by omega)) (h.2.2 3 (by omega))
theorem offT.eOk {M M' : MEM} (h : offT M M') (g : eOk 224 M) : eOk 224 M' :=
  eOk_cells (fun c hc => h.1 c (by omega) (by omega) (by omega) (by omega) (by omega) (by omega) (by omega) (by omega)) (h.2.2 3 (by omega)) g
theorem offT.chg {M M' : MEM} (h : offT M M') : chg [0] M M' := fun a k hn => by
  by_cases h1 : a = 224
  · subst h1
    refine h.2.1 k ?_
    by_cases h6 : k = 6
    · omega
    · exact absurd (by unfold rg; simp [h6]) hn
  · by_cases h2 : a = 21
    · subst h2
      refine h.2.2 k (fun h4 => ?_)
      subst h4
      exact hn (by decide)
    · by_cases h3 : a = 230 ∨ a = 231 ∨ a = 233 ∨ a = 23 ∨ a = 24 ∨ a = 244
      · refine absurd ?_ hn
        rcases h3 with rfl | rfl | rfl | rfl | rfl | rfl <;> exact List.mem_singleton.mpr rfl
      · rw [h.1 a (by omega) (by omega) (by omega) (by omega) (by omega) (by omega) (by omega) (by omega)]
/-- with another HUNGER, another PLACE -/
def sHP (s : DS) (p h : Int) : DS := (p, h, s.2.2.1, s.2.2.2)
theorem sHP_ok {n p h : Int} {s : DS} (hs : okD n s) (h0 : 0 ≤ h) (h9 : h ≤ 9) (p0 : 0 ≤ p) (pn : p < n) : okD n (sHP s p h) := by
  obtain ⟨q1, q2, q3, q4, q5, q6, q7, q8, q9⟩ := hs
  exact ⟨q1, q2, p0, pn, h0, h9, q7, q8, q9⟩
/-- how many of ten are k or more -/
def nW (f : Nat → Int) (k : Int) : Int := sumN (fun h => if f h < k then 0 else 1) 10
theorem nW_bd (f : Nat → Int) (k : Int) (n : Nat) : 0 ≤ sumN (fun h => if f h < k then 0 else 1) n ∧ sumN (fun h => if f h < k then 0 else 1) n ≤ n := by
  have := sumN_bd (F := fun h => if f h < k then 0 else 1) (a := 0) (b := 1) (n := n) (fun i _ => by split <;> omega)
  omega
theorem nW_0 {f : Nat → Int} (h : ∀ i, i < 10 → 0 ≤ f i) : nW f 0 = 10 := by
  unfold nW
  rw [sumN_congr (G := fun _ => 1) (fun i hi => by rw [if_neg (by have := h i hi; omega)])]
  rfl
theorem nW_big {f : Nat → Int} {k : Int} (h : ∀ i, i < 10 → f i < k) : nW f k = 0 := by
  unfold nW
  rw [sumN_congr (G := fun _ => 0) (fun i hi => by rw [if_pos (h i hi)])]
  rfl
theorem nW_step {f : Nat → Int} {k : Int} (h : ∀ i, i < 10 → f i ≠ k) : nW f k = nW f (k + 1) := by
  unfold nW
  refine sumN_congr (fun i hi => ?_)
  try dsimp only
  have := h i hi
  by_cases q : f i < k
  · rw [if_pos q, if_pos (by omega)]
  · rw [if_neg q, if_neg (by omega)]
/-- beyond the best there are too few -/
theorem nW_top {f : Nat → Int} {t best : Int} (ht : 1 ≤ t) (hb : ∀ i, i < 10 → t ≤ nW f (f i) → f i ≤ best) (hf : ∀ i, i < 10 → f i ≤ 600) : ∀ (j : Nat) (k : Int), best < k → k + j = 601 → nW f k < t := by
  intro j
  induction j with
  | zero =>
    intro k _ hk
    rw [nW_big (fun i hi => by have := hf i hi; omega)]
    omega
  | succ j ih =>
    intro k h1 h2
    by_cases q : ∃ i, i < 10 ∧ f i = k
    · obtain ⟨i, hi, rfl⟩ := q
      by_cases z : t ≤ nW f (f i)
      · have := hb i hi z; omega
      · omega
    · rw [nW_step (fun i hi e => q ⟨i, hi, e⟩)]
      exact ih (k + 1) (by omega) (by omega)
theorem c_sure {B : Int} {M : MEM} (h : Rel B M) (hB : B ≤ 100000000) (x ferry w t : Int) : Lk B (dh_sure x ferry w t M) (mo_sure x ferry w t) := by
  have nw := now_in h
  have c3 : chg [0] M (up2 M 278 13 0) := chg.rf.up (by decide)
  unfold Lk dh_sure
  by_cases hd : 0 ≤ x ∧ x < M 3 2
  · refine Tc_f (by rw [isDonkey_y h.S.2.2.1 hd.1 hd.2]; decide) ?_
    by_cases h1 : 1 ≤ ferry ∧ ferry ≤ 600
    · refine Tc_f (by rw [far_y h1]; decide) ?_
      by_cases h2 : 0 ≤ w ∧ w ≤ 99
      · refine Tc_f (by rw [road_y h2]; decide) ?_
        by_cases h3 : 1 ≤ t ∧ t ≤ 10
        · refine Tc_f (by omega) (Tc_t h3.2 ?_)
          obtain ⟨d, rfl⟩ : ∃ d : Nat, x = (d : Int) := ⟨x.toNat, by omega⟩
          have hN := h.S.2.2.1
          obtain ⟨d1, d2, d3, d4⟩ := dnk h hB hd.2
          have hSo : ∀ hu : Nat, hu < 10 → okD (M 280 d) (sHP (dsC (10 + 3 * d) M) (dsC (10 + 3 * d) M).1 hu) := fun hu hh => sHP_ok d1 (by omega) (by omega) d1.2.2.1 d1.2.2.2.1
          obtain ⟨F, hF⟩ : ∃ F : Nat → Int, F = fun hu : Nat => cnt (qS M d (sHP (dsC (10 + 3 * d) M) (dsC (10 + 3 * d) M).1 hu)) (ferry - w).toNat := ⟨_, rfl⟩
          -- the reference's ten ways
          have mo0 : ∀ M3 : MEM, chg [0, 10] M M3 → Tc (iter (fun s => mo_sure_b46 d ferry w t s.1 s.2) FU (0, M3)) (fun r => chg [0] M3 r.2 ∧ moF M3 r.2 ∧ ∀ i : Nat, i < 10 → r.2 299 i = if w ≤ ferry then F i else -1) := fun M3 c3 => by
            refine Tc_n (fun i s => s.1 = (i : Int) ∧ chg [0] M3 s.2 ∧ moF M3 s.2 ∧ ∀ i' : Nat, i' < i → s.2 299 i' = if w ≤ ferry then F i' else -1) 10 ⟨rfl, chg.rf, moF.rf, fun i' hi' => by omega⟩ (by omega) (fun i s hi hI => ?_) (fun s hI => ?_)
            · obtain ⟨z, M4⟩ := s
              obtain ⟨rfl, q1, q2, q3⟩ := hI
              dsimp only at q1 q2 q3 ⊢
              have cM4 : chg [0, 10] M M4 := c3.tr (q1.sub (by decide))
              obtain ⟨M5, e5, o5, o5', o5'', tO, tA⟩ := q_then h hB cM4
              unfold mo_sure_b46
              refine Tc_f (by omega) (Tc_e e5 ?_)
              rw [w55 (by omega)]
              refine Tc_t (by omega) (Tc_u ?_)
              rw [toNat_c]
              have tA' := tA.mod (d := d) (s' := sHP (dsC (10 + 3 * d) M) (dsC (10 + 3 * d) M).1 (i : Int)) (M' := up2 M5 292 (55 * d) (i : Int)) tO.1 (fun d hd => (tO.2.2.2 d hd).1.2.1) (fun c hc => up2_ne hc) (fun k hk => rd_k (by omega)) (by omega) (by
                have q := tA.2.2.2.2.2.2 d (by omega)
                refine ⟨?_, ?_, ?_, fun p hp => ?_⟩
                · show _ = up2 M5 292 (55 * d) (i : Int) 292 (55 * d + 1)
                  rw [rd_k (by omega)]; exact q.1
                · show _ = up2 M5 292 (55 * d) (i : Int) 292 (55 * d)
                  rw [rd_same]; rfl
                · show _ = up2 M5 292 (55 * d) (i : Int) 292 (55 * d + 2)
                  rw [rd_k (by omega)]; exact q.2.2.1
                · show _ = up2 M5 292 (55 * d) (i : Int) 292 (55 * d + 3 + p)
                  rw [rd_k (by omega)]; exact q.2.2.2 p hp)
              obtain ⟨M6, e6, o6, f6, g6⟩ := find_times (d := d) (tO.mod (d := d) (hSo i hi) d2) (by omega) tA'
              rw [updS_same] at f6 g6
              refine Tc_e e6 ?_
              have hst := qS_stk (hSo i hi) d2
              refine Tc_e (mo_latest_eq (T := qS M d (sHP (dsC (10 + 3 * d) M) (dsC (10 + 3 * d) M).1 i)) hst h1 h2 f6 g6) (Tc_t (by omega) (Tc_u (Tc_inl ⟨(wr_i (by omega) (by omega)).trans (by omega), ?_, ?_, fun i' hi' => ?_⟩)))
              · exact ((q1.tr o5.chg).tr ((chg.rf.up (List.mem_singleton.mpr rfl) : chg [0] M5 (up2 M5 292 (55 * d) (i : Int))).tr o6.chg)).up (List.mem_singleton.mpr rfl)
              · exact ((q2.tr o5.mo).tr ((moF.up (by decide)).tr o6.mo)).tr (moF.up (by decide))
              · dsimp only
                rw [toNat_c]
                by_cases e : i' = i
                · subst e
                  rw [rd_same, hF]
                · rw [rd_k e, o6.1 299 (by decide) (by decide) (by decide) (by decide), up2_ne (by decide), o5' 299 (by decide)]
                  exact q3 i' (by omega)
            · obtain ⟨z, M4⟩ := s
              obtain ⟨rfl, q1, q2, q3⟩ := hI
              unfold mo_sure_b46
              exact Tc_t (by show (10 : Int) ≤ ((10 : Nat) : Int); omega) (Tc_inr ⟨q1, q2, q3⟩)
          have cntM : ∀ (M4 : MEM) (k : Int), iter (fun s => mo_sure_b119 t k 10 s.1 s.2 M4) FU (0, 0) = some (nW (fun i => M4 299 i) k, 10) := fun M4 k => by
            refine loop_traj (fun i => (sumN (fun h => if M4 299 h < k then 0 else 1) i, (i : Int))) 10 (by omega) (fun i hi => ?_) ?_
            · have hb := nW_bd (fun i => M4 299 i) k i
              dsimp only at hb ⊢
              unfold mo_sure_b119 mo_sure_j147_119
              rw [if_neg (by omega), if_pos (by omega), toNat_c, sumN_S, wr_i (x := (i : Int) + 1) (by omega) (by omega)]
              try dsimp only
              by_cases z : M4 299 i < k
              · rw [if_pos z, if_pos z, wr_i (by omega) (by omega)]; rfl
              · rw [if_neg z, if_neg z, wr_i (by omega) (by omega)]; rfl
            · unfold mo_sure_b119
              dsimp only
              rw [if_pos (by omega)]
              rfl
          by_cases hw : w ≤ ferry
          · refine Tc_t hw ?_
            have hFb : ∀ i, i < 10 → 0 ≤ F i ∧ F i ≤ 600 := fun i hi => by
              have hst := qS_stk (hSo i hi) d2
              have := cnt_le hst (show (ferry - w).toNat ≤ 1000000 by omega)
              rw [hF]; dsimp only; omega
            have l1 : Tc (iter (fun s => dh_sure_b48 d ferry w t s.1 s.2) FU (0, M)) (fun r => offT M r.2 ∧ ∀ i : Nat, i < 10 → r.2 244 i = F i) := by
              refine Tc_n (fun i s => s.1 = (i : Int) ∧ offT M s.2 ∧ ∀ i' : Nat, i' < i → s.2 244 i' = F i') 10 ⟨rfl, offT.rf, fun i' hi' => by omega⟩ (by omega) (fun i s hi hI => ?_) (fun s hI => ?_)
              · obtain ⟨z, M1⟩ := s
                obtain ⟨rfl, q1, q2⟩ := hI
                dsimp only at q1 q2 ⊢
                obtain ⟨M2, e2, o2, f2⟩ := q_look h (Or.inl rfl) hd.2 hB q1.chg q1.env (q1.eOk (env_0 h (Or.inl rfl)).2)
                unfold dh_sure_b48
                refine Tc_f (by omega) (Tc_e e2 (Tc_u ?_))
                have oh : offT M2 (up2 M2 230 4 (i : Int)) := ⟨fun c _ x _ _ _ _ _ _ => up2_ne x, fun k _ => rd_a (by decide), fun k _ => rd_a (by decide)⟩
                have f3 := f2.mod (s' := sHP (dsC (10 + 3 * d) M) (dsC (10 + 3 * d) M).1 (i : Int)) (M' := up2 M2 230 4 (i : Int)) (Or.inl rfl) (fun c hc _ => up2_ne hc) (rd_k (by decide)) (by
                  have q := f2.2.2.2.1
                  refine ⟨?_, ?_, ?_, fun p hp => ?_⟩
                  · show _ = up2 M2 230 4 (i : Int) 230 3
                    rw [rd_k (by decide)]; exact q.1
                  · show _ = up2 M2 230 4 (i : Int) 230 4
                    rw [rd_same]; rfl
                  · show _ = up2 M2 230 4 (i : Int) 230 5
                    rw [rd_k (by decide)]; exact q.2.2.1
                  · show _ = up2 M2 230 4 (i : Int) 231 p
                    rw [rd_a (by decide)]; exact q.2.2.2 p hp)
                obtain ⟨M3, e3, f4, o3⟩ := fu_latest_eq (Or.inl rfl) (hSo i hi) d2 nw.1 (by omega) h1 h2.1 hw f3
                refine Tc_e e3 (Tc_t (by omega) (Tc_u (Tc_inl ⟨(wr_i (by omega) (by omega)).trans (by omega), ?_, fun i' hi' => ?_⟩)))
                · refine ((q1.tr o2.T).tr (oh.tr o3.L.T)).tr ⟨fun c _ _ _ _ _ _ _ x => by dsimp only; exact up2_ne x, fun k _ => by dsimp only; exact rd_a (by decide), fun k _ => by dsimp only; exact rd_a (by decide)⟩
                · dsimp only
                  rw [toNat_c]
                  by_cases e : i' = i
                  · subst e
                    rw [rd_same, hF]
                    rfl
                  · rw [rd_k e, o3.1 244 (by decide) (by decide) (by decide) (by decide) (by decide) (by decide) (by decide), up2_ne (by decide), o2.1 244 (by decide) (by decide) (by decide) (by decide) (by decide) (by decide) (by decide)]
                    exact q2 i' (by omega)
              · obtain ⟨z, M1⟩ := s
                obtain ⟨rfl, q1, q2⟩ := hI
                unfold dh_sure_b48
                exact Tc_t (by show (10 : Int) ≤ ((10 : Nat) : Int); omega) (Tc_inr ⟨q1, q2⟩)
            obtain ⟨w1, e1, y1, y2⟩ := l1
            obtain ⟨w1, M1⟩ := w1
            dsimp only at y1 y2
            refine Tc_e e1 ?_
            dsimp only
            have cntC : ∀ (M4 : MEM) (k : Int), (∀ i : Nat, i < 10 → M4 244 i = F i) → dh_waysWithLatest k M4 = some (nW F k) := fun M4 k h4 => by
              have : iter (fun s => dh_waysWithLatest_b4 k s.1 s.2 M4) FU (0, 0) = some (nW F k, 10) := by
                refine loop_traj (fun i => (sumN (fun h => if F h < k then 0 else 1) i, (i : Int))) 10 (by omega) (fun i hi => ?_) ?_
                · have hb := nW_bd F k i
                  dsimp only at hb ⊢
                  unfold dh_waysWithLatest_b4 dh_waysWithLatest_j23_4
                  rw [if_neg (by omega), if_pos (by omega), toNat_c, h4 i hi, sumN_S, wr_i (x := (i : Int) + 1) (by omega) (by omega)]
                  try dsimp only
                  by_cases z : F i < k
                  · rw [if_pos z, if_pos z, Int.add_zero]; rfl
                  · rw [if_neg z, if_neg z, wr_i (by omega) (by omega)]; rfl
                · unfold dh_waysWithLatest_b4
                  dsimp only
                  rw [if_pos (by omega)]
                  rfl
              unfold dh_waysWithLatest
              rw [this]; rfl
            have l2 : Tc (iter (fun s => dh_sure_b104 t s.1 s.2 M1) FU (0, 0)) (fun r => t ≤ nW F r.1 ∧ 0 ≤ r.1 ∧ r.1 ≤ 600 ∧ ∀ i, i < 10 → t ≤ nW F (F i) → F i ≤ r.1) := by
              refine Tc_n (fun i s => s.2 = (i : Int) ∧ t ≤ nW F s.1 ∧ 0 ≤ s.1 ∧ s.1 ≤ 600 ∧ ∀ i', i' < i → t ≤ nW F (F i') → F i' ≤ s.1) 10 ⟨rfl, by rw [nW_0 (fun i hi => (hFb i hi).1)]; omega, Int.le_refl _, by decide, fun i' hi' => by omega⟩ (by omega) (fun i s hi hI => ?_) (fun s hI => ?_)
              · obtain ⟨y, z⟩ := s
                obtain ⟨rfl, q1, q2, q3, q4⟩ := hI
                dsimp only at q1 q2 q3 q4 ⊢
                have wi : wr ((i : Int) + 1) = ((i + 1 : Nat) : Int) := (wr_i (by omega) (by omega)).trans (by omega)
                have hb := hFb i hi
                unfold dh_sure_b104 dh_sure_j148_104
                refine Tc_f (by omega) (Tc_t (by omega) ?_)
                rw [toNat_c, y2 i hi, wi]
                refine Tc_i (fun c => Tc_inl ⟨rfl, q1, q2, q3, fun i' hi' ht' => ?_⟩) (fun c => Tc_t (by omega) (Tc_e (cntC M1 _ y2) (Tc_i (fun c2 => Tc_inl ⟨rfl, q1, q2, q3, fun i' hi' ht' => ?_⟩) (fun c2 => Tc_t (by omega) (Tc_inl ⟨rfl, ?_, hb.1, hb.2, fun i' hi' ht' => ?_⟩)))))
                · by_cases e : i' = i
                  · subst e; exact c
                  · exact q4 i' (by omega) ht'
                · by_cases e : i' = i
                  · subst e; omega
                  · exact q4 i' (by omega) ht'
                · dsimp only; omega
                · dsimp only
                  by_cases e : i' = i
                  · subst e; omega
                  · have := q4 i' (by omega) ht'; omega
              · obtain ⟨y, z⟩ := s
                obtain ⟨rfl, q1, q2, q3, q4⟩ := hI
                unfold dh_sure_b104
                exact Tc_t (by show (10 : Int) ≤ ((10 : Nat) : Int); omega) (Tc_inr ⟨q1, q2, q3, q4⟩)
            obtain ⟨w2, e2, b1, b2, b3, b4⟩ := l2
            obtain ⟨best, w2⟩ := w2
            dsimp only at b1 b2 b3 b4
            refine Tc_e e2 ?_
            dsimp only
            obtain ⟨M2, n1, n2, n3⟩ := newRow_eq M1
            refine Tc_e n1 ?_
            have e244 : M2 244 = M1 244 := n3.cell (by decide) (by decide)
            refine Tc_e (cntC M2 best (by rw [e244]; exact y2)) ?_
            obtain ⟨M3, t1, t2, t3⟩ := tell_eq (nW F best) n2 (by simp)
            refine Tc_e t1 (Tc_some ?_)
            dsimp only
            have c3' : chg [0, 10] M M3 := (y1.chg.sub (by decide)).tr (n3.tr t3).chg
            unfold mo_sure
            have c4 : chg [0, 10] M (up2 M3 278 13 0) := c3'.up (by decide)
            refine Tc_u (Tc_f (by rw [moDonkey_y h.S (c4 278 1 (by decide)) hd]; decide) (Tc_f (by rw [show mo_isMore ferry = 1 from moIn_y h1]; decide) (Tc_f (by rw [moIn_y h2]; decide) (Tc_f (by rw [moIn_y h3]; decide) ?_))))
            obtain ⟨w4, e4, x1, x2, x3⟩ := mo0 _ c4
            obtain ⟨w4, M4⟩ := w4
            dsimp only at x1 x2 x3
            refine Tc_e e4 ?_
            dsimp only
            have e299 : ∀ k, nW (fun i => M4 299 i) k = nW F k := fun k => by
              unfold nW
              refine sumN_congr (fun i hi => ?_)
              have e : M4 299 i = F i := by rw [x3 i hi, if_pos hw]
              simp only [e]
            have l3 : Tc (iter (fun s => mo_sure_b97 t s M4) FU 2400) (fun r => ∃ M5, r = .inl (best, M5) ∧ rowM [nW F best] M5 ∧ offX M4 M5) := by
              refine Tc_l (fun i s => s = 2400 - (i : Int)) _ (2400 - best).toNat (by omega) (by omega) (fun i s hi hI => ?_) (fun s hI => ?_)
              · subst hI
                unfold mo_sure_b97
                refine Tc_f (by omega) (Tc_e (cntM M4 _) (Tc_f ?_ (Tc_inlL ?_)))
                · rw [e299]
                  by_cases z : (2400 : Int) - i ≤ 601
                  · have := nW_top h3.1 b4 (fun i hi => (hFb i hi).2) (601 - (2400 - (i : Int))).toNat (2400 - (i : Int)) (by omega) (by omega)
                    omega
                  · rw [nW_big (fun i' hi' => by have := hFb i' hi'; omega)]; omega
                · show wr (2400 - (i : Int) + -1) = _
                  rw [wr_i (by omega) (by omega)]; omega
              · subst hI
                have eb : (2400 : Int) - ((2400 - best).toNat : Nat) = best := by omega
                rw [eb]
                unfold mo_sure_b97
                refine Tc_f (by omega) (Tc_e (cntM M4 _) (Tc_t ?_ (Tc_u ?_)))
                · rw [e299]; exact b1
                · obtain ⟨r1, r2⟩ := moRow0 M4
                  dsimp only
                  rw [e299]
                  obtain ⟨M5, s1, s2, s3⟩ := moTell_eq (nW F best) r1 (by simp)
                  exact Tc_e s1 (Tc_inr ⟨M5, rfl, s2, r2.tr s3⟩)
            refine Tc_c l3 (fun r hr => ?_)
            obtain ⟨M5, rfl, s2, s3⟩ := hr
            exact Tc_some ⟨rfl, h.go10 ((c4.tr (x1.sub (by decide))).tr s3.chg) (t2.fin (((moF.up (by decide)).tr x2).tr s3.mo) s2 (by simp))⟩
          · refine Tc_f hw (Tc_some ?_)
            dsimp only
            unfold mo_sure
            have c4 : chg [0] M (up2 M 278 13 0) := c3
            refine Tc_u (Tc_f (by rw [moDonkey_y h.S (c4 278 1 (by decide)) hd]; decide) (Tc_f (by rw [show mo_isMore ferry = 1 from moIn_y h1]; decide) (Tc_f (by rw [moIn_y h2]; decide) (Tc_f (by rw [moIn_y h3]; decide) ?_))))
            obtain ⟨w4, e4, x1, x2, x3⟩ := mo0 _ (c4.sub (by decide))
            obtain ⟨w4, M4⟩ := w4
            dsimp only at x1 x2 x3
            refine Tc_e e4 ?_
            dsimp only
            have l3 : Tc (iter (fun s => mo_sure_b97 t s M4) FU 2400) (fun r => ∃ z, r = .inr z) := by
              refine Tc_l (fun i s => s = 2400 - (i : Int)) _ 2401 (by omega) (by omega) (fun i s hi hI => ?_) (fun s hI => ?_)
              · subst hI
                unfold mo_sure_b97
                refine Tc_f (by omega) (Tc_e (cntM M4 _) (Tc_f ?_ (Tc_inlL ?_)))
                · rw [nW_big (fun i' hi' => by rw [x3 i' hi', if_neg hw]; omega)]; omega
                · show wr (2400 - (i : Int) + -1) = _
                  rw [wr_i (by omega) (by omega)]; omega
              · subst hI
                unfold mo_sure_b97
                exact Tc_t (by omega) (Tc_inr ⟨_, rfl⟩)
            refine Tc_c l3 (fun r hr => ?_)
            obtain ⟨z, rfl⟩ := hr
            exact Tc_some ⟨rfl, h.go0 (c4.tr x1)⟩
        · have mo : Tc (mo_sure x ferry w t M) (fun q => q.1 = -1 ∧ Rel B q.2) := by
            unfold mo_sure
            exact Tc_u (Tc_f (by rw [moDonkey_y h.S (c3 278 1 (by decide)) hd]; decide) (Tc_f (by rw [show mo_isMore ferry = 1 from moIn_y h1]; decide) (Tc_f (by rw [moIn_y h2]; decide) (Tc_t (moIn_n h3) (Tc_some ⟨rfl, h.go0 c3⟩)))))
          refine Tc_i (fun _ => Tc_some mo) (fun q => Tc_f (by omega) (Tc_some mo))
      · refine Tc_t (road_n h2) (Tc_some ?_)
        unfold mo_sure
        exact Tc_u (Tc_f (by rw [moDonkey_y h.S (c3 278 1 (by decide)) hd]; decide) (Tc_f (by rw [show mo_isMore ferry = 1 from moIn_y h1]; decide) (Tc_t (moIn_n h2) (Tc_some ⟨rfl, h.go0 c3⟩))))
    · refine Tc_t (far_n h1) (Tc_some ?_)
      unfold mo_sure
      exact Tc_u (Tc_f (by rw [moDonkey_y h.S (c3 278 1 (by decide)) hd]; decide) (Tc_t (moIn_n h1) (Tc_some ⟨rfl, h.go0 c3⟩)))
  · refine Tc_t (isDonkey_n h.S.2.2.1 hd) (Tc_some ?_)
    unfold mo_sure
    exact Tc_u (Tc_t (moDonkey_n h.S (c3 278 1 (by decide)) hd) (Tc_some ⟨rfl, h.go0 c3⟩))
