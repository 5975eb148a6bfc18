-- ===== other surroundings =====
theorem q_lookE {B : Int} {M M1 : MEM} {e : EN} (h : Rel B M) {f : Nat} (hf : f = 224 ∨ f = 234) {d : Nat} (hd : (d : Int) < M 3 2) (hB : B ≤ 100000000) (c : chg [0, 10, 11] M M1) (he : envC f M1 = e) (heO : eOk f M1) : ∃ M', dh_look f d M1 = some M' ∧ offL f M1 M' ∧ futAt f e (M 280 d) d (M 3 3) (trajD e (M 280 d) d (M 3 3) (dsC (10 + 3 * d) M)) 0 M' := by
  have h3 := h.S.2.2.1
  obtain ⟨d1, d2, d3, d4⟩ := dnk h hB hd
  have rD : ∀ a k, 10 ≤ a → a ≤ 18 → M1 a k = M a k := fun a k x y => c a k (by rcases rg_D12 (k := k) x y with q | q <;> rw [q] <;> decide)
  have e32 : M1 3 2 = M 3 2 := c 3 2 (by decide)
  have e33 : M1 3 3 = M 3 3 := c 3 3 (by decide)
  have eb : dsC (10 + 3 * d) M1 = dsC (10 + 3 * d) M := by
    unfold dsC
    rw [rD _ _ (by omega) (by omega), rD _ _ (by omega) (by omega), rD _ _ (by omega) (by omega)]
    congr 3
    funext p
    exact rD _ _ (by omega) (by omega)
  have e2 : M1 (10 + 3 * d) 2 = M 280 d := (rD _ _ (by omega) (by omega)).trans d4
  obtain ⟨M', g1, g2, g3, g4, g5, g6, g7, g8⟩ := look_eq (f := f) (d := (d : Int)) (M := M1) hf (by omega) (by omega) (by omega) (by rw [toNat_c, e2]; have := d1.1; have := d1.2.1; omega)
  rw [toNat_c, e2] at g3
  rw [toNat_c, e2, eb] at g4
  refine ⟨M', g1, g2, fut0 ?_ (g2.eOk hf heO) g3 g4 g5 (g6.trans e33) g7 g8⟩
  rw [g2.env hf, he]
theorem q_thenE {B : Int} {M M1 : MEM} {e : EN} (h : Rel B M) (hB : B ≤ 100000000) (c : chg [0, 10, 11] M M1) (he : envM M1 = e) (hem : emOk M1) : ∃ M2, mo_beginThen M1 = some M2 ∧ offQ M1 M2 ∧ (∀ c, c ≠ 292 → M2 c = M1 c) ∧ (∀ k : Nat, k < 166 → M2 292 k = M 279 k) ∧ thOk (M 3 2).toNat (fun d => M 280 d) (M 3 3) (fun d => dsC (10 + 3 * d) M) ∧ thenAt (M 3 2).toNat (fun d => M 280 d) e (M 3 3) (fun d => dsC (10 + 3 * d) M) 0 M2 := by
  obtain ⟨s1, s2, s3, s4⟩ := h.S
  have nw := now_in h
  obtain ⟨M2, g1, g2, g3⟩ := begin_then (M := M1)
  have e279 : M1 279 = M 279 := c.row (fun k => by rw [rg_279]; decide)
  rw [e279] at g3
  have oQ : offQ M1 M2 := ⟨fun c _ _ x _ => g2 c x, fun k _ _ => by rw [g2 278 (by omega)]⟩
  refine ⟨M2, g1, oQ, g2, g3, ⟨by omega, nw.1, by omega, fun d hd => ?_⟩, ⟨?_, fun d hd => ?_, ?_, oQ.em hem, ?_, ?_, fun d hd => ?_⟩⟩
  · have := dnk h hB (show (d : Int) < M 3 2 by omega)
    exact ⟨this.1, this.2.1⟩
  · rw [g2 278 (by omega), c 278 1 (by decide)]; omega
  · rw [g2 280 (by omega), c 280 d (by decide : 12 ∉ [0, 10, 11])]
  · rw [oQ.env, he]
  · exact oQ.rl (h.R.cg (fun a k hr => c a k (by rw [hr]; decide)))
  · rw [g3 165 (by omega), nw.2.2]; omega
  · have := dnk h hB (show (d : Int) < M 3 2 by omega)
    refine this.2.2.1.tr ⟨?_, ?_, ?_, fun p hp => ?_⟩
    · exact (g3 _ (by omega)).symm
    · exact (g3 _ (by omega)).symm
    · exact (g3 _ (by omega)).symm
    · have := this.1.2.1
      exact (g3 _ (by omega)).symm
-- ===== what was heard =====
def allN (P : Nat → Bool) : Nat → Bool
  | 0 => true
  | n + 1 => allN P n && P n
theorem allN_S (P : Nat → Bool) (n : Nat) : allN P (n + 1) = (allN P n && P n) := rfl
theorem allN_f {P : Nat → Bool} {i : Nat} : ∀ {n : Nat}, i < n → P i = false → allN P n = false := by
  intro n
  induction n with
  | zero => intro h; omega
  | succ n ih =>
    intro h hp
    rw [allN_S]
    by_cases e : i = n
    · subst e; rw [hp, Bool.and_false]
    · rw [ih (by omega) hp, Bool.false_and]
/-- heard i of the DONKEY d is so on the way T -/
def hd1 (M : MEM) (d : Int) (T : Nat → DS) (i : Nat) : Bool := !(decide (M 42 i = d)) || decide (cnt T (M 44 i).toNat = M 43 i)
def hdB (M : MEM) (d : Int) (T : Nat → DS) : Bool := allN (hd1 M d T) (M 41 3).toNat
theorem within_eq {f : Nat} {e : EN} {n d m0 w : Int} {T : Nat → DS} {j : Nat} {M : MEM} (hst : stk T 1000000) (hj : j ≤ 600) (hw0 : 0 ≤ w) (hw : w ≤ j) (h : futAt f e n d m0 T j M) : fu_strokesWithin f w M = some (cnt T w.toNat) := by
  have hcb := cnt_le hst (show w.toNat ≤ 1000000 by omega)
  have hmo := (cnt_mono hst (show w.toNat ≤ j by omega) (by omega)).1
  have hcj := cnt_le hst (show j ≤ 1000000 by omega)
  have h10 : M f 10 = cnt T j := h.2.2.2.2.2.2.2.1
  have hl : Tc (iter (fun s => fu_strokesWithin_b2 f w s M) FU 0) (fun r => r = cnt T w.toNat) := by
    refine Tc_l (fun i s => s = (i : Int)) _ (cnt T w.toNat).toNat rfl (by omega) (fun i s hi hI => ?_) (fun s hI => ?_)
    · subst hI
      unfold fu_strokesWithin_b2
      have wi : wr ((i : Int) + 1) = (i : Int) + 1 := wr_i (by omega) (by omega)
      rw [wi]
      obtain ⟨z1, z2, z3, z4⟩ := stroke_eq (k := (i : Int) + 1) h (by omega) (by omega) (by omega)
      rw [show ((i : Int) + 1 - 1).toNat = i by omega] at z1 z2 z3 z4
      have hlt := isT_lt hst (j := w.toNat) z2 (by omega) (by omega)
      refine Tc_f (by omega) (Tc_e z1 (Tc_f (by omega) (Tc_inlL (by omega))))
    · subst hI
      unfold fu_strokesWithin_b2
      have wi : wr (((cnt T w.toNat).toNat : Int) + 1) = cnt T w.toNat + 1 := (wr_i (by omega) (by omega)).trans (by omega)
      by_cases q : M f 10 ≤ ((cnt T w.toNat).toNat : Int)
      · exact Tc_t q (Tc_inr (by omega))
      · rw [wi]
        obtain ⟨z1, z2, z3, z4⟩ := stroke_eq (k := cnt T w.toNat + 1) h (by omega) (by omega) (by omega)
        rw [show (cnt T w.toNat + 1 - 1).toNat = (cnt T w.toNat).toNat by omega] at z1 z2 z3 z4
        have hlt := isT_lt hst (j := w.toNat) z2 (by omega) (by omega)
        exact Tc_f q (Tc_e z1 (Tc_t (by omega) (Tc_inr (by omega))))
  obtain ⟨r, e1, rfl⟩ := hl
  unfold fu_strokesWithin
  rw [e1]; rfl
theorem fit_eq {M0 : MEM} {e : EN} {n m0 : Int} {d : Nat} {s : DS} {M : MEM} (hH : C_H M0) (hs : okD n s) (hks : s.2.2.1 ≤ 100000000) (hm0 : 0 ≤ m0) (hm1 : m0 ≤ 100000000) (h41 : ∀ M' : MEM, offF 224 M M' → M' 41 3 = M0 41 3 ∧ M' 42 = M0 42 ∧ M' 43 = M0 43 ∧ M' 44 = M0 44) (h : futAt 224 e n d m0 (trajD e n d m0 s) 0 M) :
    ∃ M' j', rm_fit 224 M = some ((if hdB M0 d (trajD e n d m0 s) = true then 1 else 0), M') ∧ offF 224 M M' ∧ j' ≤ 600 ∧ futAt 224 e n d m0 (trajD e n d m0 s) j' M' := by
  obtain ⟨H1, H2, H3, H4⟩ := hH
  have hcl : clE e := by rw [← h.1]; exact envC_cl 224 M
  have hst := traj_stk (d := (d : Int)) (m0 := m0) hcl hs (by omega)
  have hl : Tc (iter (fun s => rm_fit_b2 224 s.1 s.2) FU (0, M)) (fun r => ∃ M' j', offF 224 M M' ∧ j' ≤ 600 ∧ futAt 224 e n d m0 (trajD e n d m0 s) j' M' ∧ ((r = .inl (0, M') ∧ hdB M0 d (trajD e n d m0 s) = false) ∨ (∃ z, r = .inr (z, M') ∧ hdB M0 d (trajD e n d m0 s) = true))) := by
    refine Tc_l (fun i q => q.1 = (i : Int) ∧ (∃ j, j ≤ 600 ∧ futAt 224 e n d m0 (trajD e n d m0 s) j q.2) ∧ offF 224 M q.2 ∧ allN (hd1 M0 d (trajD e n d m0 s)) i = true) _ (M0 41 3).toNat ⟨rfl, ⟨0, by decide, h⟩, offF.rf, rfl⟩ (by omega) (fun i q hi hI => ?_) (fun q hI => ?_)
    · obtain ⟨z, M1⟩ := q
      obtain ⟨rfl, ⟨j, hj, h1⟩, h2, h3⟩ := hI
      dsimp only at h1 h2
      obtain ⟨k1, k2, k3, k4⟩ := h41 M1 h2
      obtain ⟨-, -, -, ⟨w1, w2⟩, w3, w4⟩ := H4 i (by omega)
      have h7 : M1 224 7 = (d : Int) := h1.2.2.2.2.1
      have wi : wr ((i : Int) + 1) = ((i + 1 : Nat) : Int) := (wr_i (by omega) (by omega)).trans (by omega)
      unfold rm_fit_b2 rm_fit_j63_2
      dsimp only
      refine Tc_f (by omega) (Tc_f (by omega) (Tc_t (by omega) ?_))
      simp only [toNat_c]
      rw [k2, h7, wi]
      by_cases hw : M0 42 i = (d : Int)
      · refine Tc_t hw (Tc_t (by omega) ?_)
        rw [k4]
        obtain ⟨M2, e2, g2, o2⟩ := fut_run600 (till := M0 44 i) (Or.inl rfl) hs hks hm0 hm1 w4 hj h1
        obtain ⟨l1, l2, l3, l4⟩ := h41 M2 (h2.tr o2)
        refine Tc_e e2 (Tc_t (by omega) ?_)
        rw [l4]
        have hjj : max j (M0 44 i).toNat ≤ 600 := by omega
        refine Tc_e (within_eq hst hjj (by omega) (by omega) g2) (Tc_t (by omega) ?_)
        rw [l3]
        by_cases hq : cnt (trajD e n d m0 s) (M0 44 i).toNat = M0 43 i
        · refine Tc_t hq (Tc_inlL ⟨rfl, ⟨_, hjj, g2⟩, h2.tr o2, ?_⟩)
          rw [allN_S, h3, Bool.true_and]
          unfold hd1
          simp [hq]
        · refine Tc_f hq (Tc_inrR ⟨M2, _, h2.tr o2, hjj, g2, Or.inl ⟨rfl, allN_f hi ?_⟩⟩)
          unfold hd1
          simp [hq, hw]
      · refine Tc_f hw (Tc_inlL ⟨rfl, ⟨j, hj, h1⟩, h2, ?_⟩)
        rw [allN_S, h3, Bool.true_and]
        unfold hd1
        simp [hw]
    · obtain ⟨z, M1⟩ := q
      obtain ⟨rfl, ⟨j, hj, h1⟩, h2, h3⟩ := hI
      dsimp only at h1 h2
      obtain ⟨k1, k2, k3, k4⟩ := h41 M1 h2
      unfold rm_fit_b2
      exact Tc_t (by show M1 41 3 ≤ (((M0 41 3).toNat : Nat) : Int); omega) (Tc_inr ⟨M1, j, h2, hj, h1, Or.inr ⟨_, rfl, h3⟩⟩)
  obtain ⟨r, e1, M', j', g1, g2, g3, g4⟩ := hl
  refine ⟨M', j', ?_, g1, g2, g3⟩
  unfold rm_fit
  rw [e1, Option.bind_some]
  rcases g4 with ⟨rfl, q⟩ | ⟨z, rfl, q⟩
  · rw [q]; rfl
  · rw [q]; rfl
theorem mo_isHeard_eq {M0 : MEM} {T : Nat → DS} {d : Nat} {M : MEM} (hH : C_H M0) (hst : stk T 1000000) (e49 : M 278 49 = M0 278 49) (e302 : M 302 = M0 302) (g3 : M 278 38 = cnt T 600) (g4 : ∀ i : Nat, (i : Int) < cnt T 600 → isT T (M 293 i) i ∧ M 293 i < 600) : mo_isHeard d M = some (if hdB M0 d T = true then 1 else 0) := by
  obtain ⟨H1, H2, H3, H4⟩ := hH
  have hC := cnt_le hst (show 600 ≤ 1000000 by omega)
  have hin : ∀ i : Nat, (i : Int) < M0 41 3 → iter (fun s => mo_isHeard_b27 d i s M) FU 0 = some (cnt T (M0 44 i).toNat) := fun i hi => by
    obtain ⟨q1, q2, q3, ⟨w1, w2⟩, w3, w4⟩ := H4 i hi
    have hcb := cnt_le hst (show (M0 44 i).toNat ≤ 1000000 by omega)
    have hmo := (cnt_mono hst (show (M0 44 i).toNat ≤ 600 by omega) (by omega)).1
    have w32 : wr (wr (3 * (i : Int)) + 2) = ((3 * i + 2 : Nat) : Int) := by rw [wr_i (x := 3 * (i : Int)) (by omega) (by omega), wr_i (by omega) (by omega)]; omega
    have hl : Tc (iter (fun s => mo_isHeard_b27 d i s M) FU 0) (fun r => r = cnt T (M0 44 i).toNat) := by
      refine Tc_l (fun k s => s = (k : Int)) _ (cnt T (M0 44 i).toNat).toNat rfl (by omega) (fun k s hk hI => ?_) (fun s hI => ?_)
      · subst hI
        unfold mo_isHeard_b27
        rw [w32, toNat_c, toNat_c, e302, q3]
        have z := g4 k (by omega)
        have z0 := times_in g4 (i := k) (by omega)
        have hlt := isT_lt hst (j := (M0 44 i).toNat) z.1 (by omega) (by omega)
        exact Tc_f (by omega) (Tc_t (by omega) (Tc_t (by omega) (Tc_f (by omega) (Tc_inlL ((wr_i (by omega) (by omega)).trans (by omega))))))
      · subst hI
        unfold mo_isHeard_b27
        rw [w32, toNat_c, toNat_c, e302, q3]
        by_cases q : M 278 38 ≤ ((cnt T (M0 44 i).toNat).toNat : Int)
        · exact Tc_t q (Tc_inr (by omega))
        · have z := g4 (cnt T (M0 44 i).toNat).toNat (by omega)
          have z0 := times_in g4 (i := (cnt T (M0 44 i).toNat).toNat) (by omega)
          have hlt := isT_lt hst (j := (M0 44 i).toNat) z.1 (by omega) (by omega)
          exact Tc_f q (Tc_t (by omega) (Tc_t (by omega) (Tc_t (by omega) (Tc_inr (by omega)))))
    obtain ⟨r, e1, rfl⟩ := hl
    exact e1
  have hl : Tc (iter (fun s => mo_isHeard_b2 d s M) FU 0) (fun r => (r = .inl 0 ∧ hdB M0 d T = false) ∨ (∃ z, r = .inr z ∧ hdB M0 d T = true)) := by
    refine Tc_l (fun i q => q = (i : Int) ∧ allN (hd1 M0 d T) i = true) _ (M0 41 3).toNat ⟨rfl, rfl⟩ (by omega) (fun i q hi hI => ?_) (fun q hI => ?_)
    · obtain ⟨rfl, h3⟩ := hI
      obtain ⟨q1, q2, q3, ⟨w1, w2⟩, w3, w4⟩ := H4 i (by omega)
      have wi : wr ((i : Int) + 1) = ((i + 1 : Nat) : Int) := (wr_i (by omega) (by omega)).trans (by omega)
      have w30 : wr (3 * (i : Int)) = ((3 * i : Nat) : Int) := (wr_i (by omega) (by omega)).trans (by omega)
      have w31 : wr (((3 * i : Nat) : Int) + 1) = ((3 * i + 1 : Nat) : Int) := (wr_i (by omega) (by omega)).trans (by omega)
      unfold mo_isHeard_b2 mo_isHeard_j76_2 mo_isHeard_j60_2 mo_isHeard_j76_2
      rw [wi, w30, w31]
      simp only [toNat_c]
      refine Tc_f (by omega) (Tc_t (by omega) ?_)
      rw [e302, q1, q2]
      by_cases hw : M0 42 i = (d : Int)
      · refine Tc_t hw (Tc_e (hin i (by omega)) (Tc_t (by omega) ?_))
        by_cases hq : cnt T (M0 44 i).toNat = M0 43 i
        · refine Tc_t hq (Tc_inlL ⟨rfl, ?_⟩)
          rw [allN_S, h3, Bool.true_and]
          unfold hd1
          simp [hq]
        · refine Tc_f hq (Tc_inrR (Or.inl ⟨rfl, allN_f hi ?_⟩))
          unfold hd1
          simp [hq, hw]
      · refine Tc_f hw (Tc_inlL ⟨rfl, ?_⟩)
        rw [allN_S, h3, Bool.true_and]
        unfold hd1
        simp [hw]
    · obtain ⟨rfl, h3⟩ := hI
      unfold mo_isHeard_b2
      exact Tc_t (by omega) (Tc_inr (Or.inr ⟨_, rfl, h3⟩))
  obtain ⟨r, e1, g4⟩ := hl
  unfold mo_isHeard
  rw [e1, Option.bind_some]
  rcases g4 with ⟨rfl, q⟩ | ⟨z, rfl, q⟩
  · rw [q]; rfl
  · rw [q]; rfl
/-- the way of HUNGER hu and PLACE pl -/
noncomputable def qW (M : MEM) (d : Nat) (hu pl : Int) : Nat → DS := qS M d (sHP (dsC (10 + 3 * d) M) pl hu)
theorem qW_ok {B : Int} {M : MEM} (h : Rel B M) (hB : B ≤ 100000000) {d : Nat} (hd : (d : Int) < M 3 2) {hu pl : Int} (h0 : 0 ≤ hu) (h9 : hu ≤ 9) (p0 : 0 ≤ pl) (p9 : pl < M 280 d) : okD (M 280 d) (sHP (dsC (10 + 3 * d) M) pl hu) ∧ (sHP (dsC (10 + 3 * d) M) pl hu).2.2.1 ≤ 100000000 ∧ stk (qW M d hu pl) 1000000 := by
  obtain ⟨d1, d2, d3, d4⟩ := dnk h hB hd
  have := sHP_ok d1 h0 h9 p0 p9
  exact ⟨this, d2, qS_stk this d2⟩
theorem way_eq {B : Int} {M M1 : MEM} (h : Rel B M) (hB : B ≤ 100000000) {d : Nat} (hd : (d : Int) < M 3 2) {hu pl : Int} (h0 : 0 ≤ hu) (h9 : hu ≤ 9) (p0 : 0 ≤ pl) (p9 : pl < M 280 d) (c : chg [0, 10] M M1) (he : envC 224 M1 = envC 224 M) (heO : eOk 224 M1) :
    ∃ M' j', dh_isWayHeard d hu pl M1 = some ((if hdB M d (qW M d hu pl) = true then 1 else 0), M') ∧ offL 224 M1 M' ∧ j' ≤ 600 ∧ futAt 224 (envM M) (M 280 d) d (M 3 3) (qW M d hu pl) j' M' := by
  have nw := now_in h
  obtain ⟨s1, s2, s3⟩ := qW_ok h hB hd h0 h9 p0 p9
  obtain ⟨M2, e2, o2, f2⟩ := q_lookE (e := envM M) h (Or.inl rfl) hd hB (c.sub (by decide)) (he.trans (env_0 h (Or.inl rfl)).1) heO
  have f3 := f2.mod (s' := sHP (dsC (10 + 3 * d) M) pl hu) (M' := up2 (up2 M2 230 4 hu) 230 3 pl) (Or.inl rfl) (fun c hc _ => by rw [up2_ne hc, up2_ne hc]) (by rw [rd_k (by decide), rd_k (by decide)]) (by
    have q := f2.2.2.2.1
    refine ⟨?_, ?_, ?_, fun p hp => ?_⟩
    · show _ = up2 (up2 M2 230 4 hu) 230 3 pl 230 3
      rw [rd_same]; rfl
    · show _ = up2 (up2 M2 230 4 hu) 230 3 pl 230 4
      rw [rd_k (by decide), rd_same]; rfl
    · show _ = up2 (up2 M2 230 4 hu) 230 3 pl 230 5
      rw [rd_k (by decide), rd_k (by decide)]; exact q.2.2.1
    · show _ = up2 (up2 M2 230 4 hu) 230 3 pl 231 p
      rw [rd_a (by decide), rd_a (by decide)]; exact q.2.2.2 p hp)
  have oh : offL 224 M2 (up2 (up2 M2 230 4 hu) 230 3 pl) := ⟨fun c _ x _ _ _ _ _ => by rw [up2_ne x, up2_ne x], fun k _ => by rw [rd_a (by decide), rd_a (by decide)], fun k _ => by rw [rd_a (by decide), rd_a (by decide)]⟩
  have oh2 := o2.tr oh
  obtain ⟨M3, j', e3, o3, hj, f4⟩ := fit_eq (M0 := M) h.H s1 s2 nw.1 (by omega) (fun M' o => by
    have cc : chg [0, 10] M M' := (c.tr ((oh2.chg (Or.inl rfl)).sub (by decide))).tr ((o.L.chg (Or.inl rfl)).sub (by decide))
    exact ⟨cc 41 3 (by decide), cc.row (fun k => (by decide : 7 ∉ [0, 10])), cc.row (fun k => (by decide : 7 ∉ [0, 10])), cc.row (fun k => (by decide : 7 ∉ [0, 10]))⟩) f3
  refine ⟨M3, j', ?_, oh2.tr o3.L, hj, f4⟩
  unfold dh_isWayHeard
  rw [e2, Option.bind_some, Option.bind_some, Option.bind_some, e3]
  rfl
theorem mo_way_eq {B : Int} {M M1 : MEM} (h : Rel B M) (hB : B ≤ 100000000) {d : Nat} (hd : (d : Int) < M 3 2) {hu pl : Int} (h0 : 0 ≤ hu) (h9 : hu ≤ 9) (p0 : 0 ≤ pl) (p9 : pl < M 280 d) (c : chg [0, 10] M M1) :
    ∃ M', mo_isHeardWith d hu pl M1 = some ((if hdB M d (qW M d hu pl) = true then 1 else 0), M') ∧ chg [0] M1 M' ∧ moF M1 M' ∧ M' 278 38 = cnt (qW M d hu pl) 600 ∧ ∀ i : Nat, (i : Int) < cnt (qW M d hu pl) 600 → isT (qW M d hu pl) (M' 293 i) i ∧ M' 293 i < 600 := by
  obtain ⟨s1, s2, s3⟩ := qW_ok h hB hd h0 h9 p0 p9
  have hN := h.S.2.2.1
  obtain ⟨M5, e5, o5, o5', o5'', tO, tA⟩ := q_then h hB c
  have tA' := tA.mod (d := d) (s' := sHP (dsC (10 + 3 * d) M) pl hu) (M' := up2 (up2 M5 292 (55 * d) hu) 292 (55 * d + 1) pl) tO.1 (fun d hd => (tO.2.2.2 d hd).1.2.1) (fun c hc => by rw [up2_ne hc, up2_ne hc]) (fun k hk => by rw [rd_k (by omega), rd_k (by omega)]) (by omega) (by
    have q := tA.2.2.2.2.2.2 d (by omega)
    refine ⟨?_, ?_, ?_, fun p hp => ?_⟩
    · show _ = up2 (up2 M5 292 (55 * d) hu) 292 (55 * d + 1) pl 292 (55 * d + 1)
      rw [rd_same]; rfl
    · show _ = up2 (up2 M5 292 (55 * d) hu) 292 (55 * d + 1) pl 292 (55 * d)
      rw [rd_k (by omega), rd_same]; rfl
    · show _ = up2 (up2 M5 292 (55 * d) hu) 292 (55 * d + 1) pl 292 (55 * d + 2)
      rw [rd_k (by omega), rd_k (by omega)]; exact q.2.2.1
    · show _ = up2 (up2 M5 292 (55 * d) hu) 292 (55 * d + 1) pl 292 (55 * d + 3 + p)
      rw [rd_k (by omega), rd_k (by omega)]; exact q.2.2.2 p hp)
  obtain ⟨M6, e6, o6, f6, g6⟩ := find_times (d := d) (tO.mod (d := d) s1 s2) (by omega) tA'
  rw [updS_same] at f6 g6
  have cu : chg [0] M5 (up2 (up2 M5 292 (55 * d) hu) 292 (55 * d + 1) pl) := chg.up (show rg 292 (55 * d + 1) ∈ [0] from List.mem_singleton.mpr rfl) (chg.up (show rg 292 (55 * d) ∈ [0] from List.mem_singleton.mpr rfl) chg.rf)
  have c6 : chg [0] M1 M6 := (o5.chg.tr cu).tr o6.chg
  have cc := c.tr (c6.sub (by decide))
  refine ⟨M6, ?_, c6, (o5.mo.tr ((moF.up (by decide)).tr (moF.up (by decide)))).tr o6.mo, f6, g6⟩
  unfold mo_isHeardWith
  have w1 : wr (((55 * d : Nat) : Int) + 1) = ((55 * d + 1 : Nat) : Int) := (wr_i (by omega) (by omega)).trans (by omega)
  rw [e5, Option.bind_some, w55 (by omega), w1, if_pos (by omega), Option.bind_some, if_pos (by omega), Option.bind_some]
  simp only [toNat_c]
  rw [e6, Option.bind_some, mo_isHeard_eq (M0 := M) (T := qW M d hu pl) h.H s3 (cc 278 49 (by decide)) (cc.row (fun k => (by decide : 7 ∉ [0, 10]))) f6 g6]
  rfl
