-- ===== eats =====
theorem walkD_th {n : Int} (hn : 0 < n) : ∀ (j : Nat) (s : DS), 0 ≤ s.1 → s.1 < n → ((walkD n j s).2 = true → (walkD n j s).1.2.2.2 = up1 s.2.2.2 (walkD n j s).1.1.toNat (s.2.2.2 (walkD n j s).1.1.toNat - 1)) ∧ ((walkD n j s).2 = false → (walkD n j s).1.2.2.2 = s.2.2.2) ∧ 0 ≤ (walkD n j s).1.1 ∧ (walkD n j s).1.1 < n := by
  intro j
  induction j with
  | zero => intro s h0 h1; exact ⟨fun q => Bool.noConfusion q, fun _ => rfl, h0, h1⟩
  | succ j ih =>
    intro s h0 h1
    have hx := nxt_in hn h0
    have hp := oneD_place n s
    rw [walkD_S]
    by_cases e : (oneD n s).2 = true
    · rw [if_pos e, hp]
      refine ⟨fun _ => ?_, fun q => (by rw [e] at q; cases q), hx.1, hx.2⟩
      by_cases g : 0 < s.2.2.2 (nxt n s.1).toNat
      · rw [oneD_def, if_pos g]
      · rw [oneD_def, if_neg g] at e; cases e
    · rw [if_neg e]
      have hz : (oneD n s).1.2.2.2 = s.2.2.2 := by
        by_cases g : 0 < s.2.2.2 (nxt n s.1).toNat
        · rw [oneD_def, if_pos g] at e; exact absurd rfl e
        · rw [oneD_def, if_neg g]
      have := ih (oneD n s).1 (by rw [hp]; exact hx.1) (by rw [hp]; exact hx.2)
      rw [hz] at this
      exact this
/-- the place with the most, and the most -/
def bst (F : Nat → Int) : Nat → Int × Int
  | 0 => (-1, 0)
  | i + 1 => if (bst F i).2 < F i then ((i : Int), F i) else bst F i
theorem bst_S (F : Nat → Int) (i : Nat) : bst F (i + 1) = if (bst F i).2 < F i then ((i : Int), F i) else bst F i := rfl
theorem bst_nn (F : Nat → Int) : ∀ i, 0 ≤ (bst F i).2 := by
  intro i
  induction i with
  | zero => exact Int.le_refl 0
  | succ i ih =>
    rw [bst_S]
    by_cases h : (bst F i).2 < F i
    · rw [if_pos h]; dsimp only; omega
    · rw [if_neg h]; exact ih
theorem bst_tail {F : Nat → Int} {n : Nat} : ∀ k, (∀ i, n ≤ i → i < n + k → F i = 0) → bst F (n + k) = bst F n := by
  intro k
  induction k with
  | zero => intro _; rfl
  | succ k ih =>
    intro h
    have := bst_nn F (n + k)
    rw [show n + (k + 1) = (n + k) + 1 by omega, bst_S, if_neg (by rw [h (n + k) (by omega) (by omega)]; omega), ih (fun i a b => h i a (by omega))]
/-- what was eaten at a place -/
def atN (T : Nat → DS) (n : Int) (i : Nat) (p : Nat) : Int := if (p : Int) < n then (T 0).2.2.2 p - (T i).2.2.2 p else 0
theorem chg_29 {M1 N : MEM} {x y : Int} (c : chg [0] (up2 M1 278 29 x) N) (hy : M1 278 29 = y) : chg [0] M1 (up2 N 278 29 y) := fun a k hn => by
  rw [up2_at]
  by_cases e : a = 278 ∧ k = 29
  · obtain ⟨rfl, rfl⟩ := e
    rw [if_pos ⟨rfl, rfl⟩, hy]
  · rw [if_neg e, c a k hn, up2_at, if_neg e]
theorem thenAt.up29 {N : Nat} {ns : Nat → Int} {e : EN} {m0 : Int} {ss : Nat → DS} {j : Nat} {M : MEM} {x : Int} (h : thenAt N ns e m0 ss j M) : thenAt N ns e m0 ss j (up2 M 278 29 x) := by
  obtain ⟨p1, p2, p3, p4, p5, p6, p7⟩ := h
  have k1 : ∀ k, k ≠ 29 → up2 M 278 29 x 278 k = M 278 k := fun k hk => rd_k hk
  have a1 : ∀ a, a ≠ 278 → up2 M 278 29 x a = M a := fun a ha => up2_ne ha
  refine ⟨?_, fun d hd => ?_, ?_, ?_, p5.cg (fun a k hr => ?_), ?_, fun d hd => ?_⟩
  · rw [k1 1 (by decide)]; exact p1
  · rw [a1 280 (by decide)]; exact p2 d hd
  · rw [← p3]; unfold envM
    have : flM (up2 M 278 29 x) = flM M := by funext m; unfold flM; rw [k1 5 (by decide), k1 4 (by decide), a1 281 (by decide)]
    have g : hrM (up2 M 278 29 x) = hrM M := by funext d m; unfold hrM; refine sumN_congr (fun i _ => ?_); unfold hrF; rw [k1 7 (by decide), k1 8 (by decide), a1 282 (by decide)]
    rw [this, g, a1 21 (by decide), a1 22 (by decide)]
  · unfold emOk howOkM at *; rw [k1 4 (by decide), k1 7 (by decide), k1 8 (by decide), a1 282 (by decide)]; exact p4
  · rw [up2_at]
    by_cases e : a = 278 ∧ k = 29
    · obtain ⟨rfl, rfl⟩ := e
      exact absurd hr (by decide)
    · rw [if_neg e]
  · rw [a1 292 (by decide)]; exact p6
  · unfold dsM; rw [a1 292 (by decide)]; exact p7 d hd
theorem eats_clear {x1 x2 : Int} {M : MEM} : Tc (iter (fun s => mo_eats_b28 x1 x2 s.1 s.2) FU (0, M)) (fun r => chg [0] M r.2 ∧ moF M r.2 ∧ (∀ p : Nat, p < 12 → r.2 294 p = 0) ∧ ∀ a, a ≠ 294 → r.2 a = M a) := by
  refine Tc_n (fun i s => s.1 = (i : Int) ∧ chg [0] M s.2 ∧ moF M s.2 ∧ (∀ p : Nat, p < i → s.2 294 p = 0) ∧ ∀ a, a ≠ 294 → s.2 a = M a) 12 ⟨rfl, chg.rf, moF.rf, fun p hp => by omega, fun _ _ => rfl⟩ (by omega) (fun i s hi hI => ?_) (fun s hI => ?_)
  · obtain ⟨x, M1⟩ := s
    obtain ⟨rfl, h1, h2, h3, h4⟩ := hI
    dsimp only at h1 h2 h3 h4 ⊢
    unfold mo_eats_b28
    refine Tc_f (by omega) (Tc_t (by omega) (Tc_u (Tc_inl ⟨(wr_i (by omega) (by omega)).trans (by omega), ?_, ?_, fun p hp => ?_, fun a ha => ?_⟩)))
    · exact h1.up (by show 0 ∈ [0]; decide)
    · exact h2.tr (moF.up (by decide))
    · dsimp only
      rw [toNat_c]
      by_cases e : p = i
      · subst e; exact rd_same
      · rw [rd_k e]; exact h3 p (by omega)
    · dsimp only; rw [up2_ne ha]; exact h4 a ha
  · obtain ⟨x, M1⟩ := s
    obtain ⟨rfl, h1, h2, h3, h4⟩ := hI
    unfold mo_eats_b28
    exact Tc_t (by show (12 : Int) ≤ ((12 : Nat) : Int); omega) (Tc_inr ⟨h1, h2, h3, h4⟩)
theorem eats_loop {N : Nat} {ns : Nat → Int} {e : EN} {m0 : Int} {ss : Nat → DS} {d : Nat} {k : Int} {M : MEM} (hok : thOk N ns m0 ss) (hd : d < N) (hk0 : 0 ≤ k) (hk : k ≤ 600) (h : thenAt N ns e m0 ss 0 M) (h29 : M 278 29 = d) (hz : ∀ p : Nat, p < 12 → M 294 p = 0) :
    Tc (iter (fun s => mo_eats_b61 d k s.1 s.2.1 s.2.2) FU (0, 0, M)) (fun r => r.1 = leftN (trajD e (ns d) d m0 (ss d) 0).2.2.2 (ns d) - leftN (trajD e (ns d) d m0 (ss d) k.toNat).2.2.2 (ns d) ∧ chg [0] M r.2.2 ∧ moF M r.2.2 ∧ ∀ p : Nat, p < 12 → r.2.2 294 p = atN (trajD e (ns d) d m0 (ss d)) (ns d) k.toNat p) := by
  have hcl : clE e := by have h3 := h.2.2.1; rw [← h3]; exact fun g => codeV_in _ _ _
  have hN3 := hok.1
  have hT : ∀ j : Nat, j ≤ 1000000 → okD (ns d) (trajD e (ns d) d m0 (ss d) j) ∧ (ss d).2.2.1 ≤ (trajD e (ns d) d m0 (ss d) j).2.2.1 ∧ (trajD e (ns d) d m0 (ss d) j).2.2.1 ≤ (ss d).2.2.1 + j := fun j hj => traj_ok hcl (hok.2.2.2 d hd).1 (by have := (hok.2.2.2 d hd).2; omega) j hj
  have hss := (hok.2.2.2 d hd).2
  generalize hTT : trajD e (ns d) d m0 (ss d) = T at *
  generalize hn : ns d = n at *
  have hL : ∀ j : Nat, j ≤ 1000000 → 0 ≤ leftN (T j).2.2.2 n ∧ leftN (T j).2.2.2 n ≤ 108 := fun j hj => by
    have q := (hT j hj).1
    exact leftN_bd (by have := q.1; omega) q.2.1 q.2.2.2.2.2.2.2.2
  refine Tc_n (fun i s => s.1 = leftN (T 0).2.2.2 n - leftN (T i).2.2.2 n ∧ s.2.1 = (i : Int) ∧ thenAt N ns e m0 ss i s.2.2 ∧ s.2.2 278 29 = d ∧ chg [0] M s.2.2 ∧ moF M s.2.2 ∧ ∀ p : Nat, p < 12 → s.2.2 294 p = atN T n i p) k.toNat ⟨by dsimp only; omega, rfl, h, h29, chg.rf, moF.rf, fun p hp => ?_⟩ (by omega) (fun i s hi hI => ?_) (fun s hI => ?_)
  · dsimp only; rw [hz p hp]; unfold atN; split <;> omega
  · obtain ⟨x, z, M1⟩ := s
    obtain ⟨rfl, rfl, h3, h4, h5, h6, h7⟩ := hI
    dsimp only at h3 h4 h5 h6 h7 ⊢
    obtain ⟨M2, e1, g1, g2, -, g4, -, g6⟩ := then_step hok (by omega) h3
    have q := hT i (by omega)
    have q1 := hT (i + 1) (by omega)
    have l0 := hL 0 (by omega)
    have l1 := hL i (by omega)
    have wi : wr ((i : Int) + 1) = ((i + 1 : Nat) : Int) := (wr_i (by omega) (by omega)).trans (by omega)
    have g6' := g6 d hd
    rw [hn, hTT] at g6'
    have hbit : mo_has (M2 278 26) d = if (stepD e n d (m0 + i) (T i)).2 = true then 1 else 0 := by
      rw [g4, has_bit (P := fun d => (stepD e (ns d) d (m0 + i) (trajD e (ns d) d m0 (ss d) i)).2) hN3 hd, hn, hTT]
    have hS : T (i + 1) = (stepD e n d (m0 + i) (T i)).1 := by rw [← hTT, ← hn]; exact trajD_S _ _ _ _ _ _
    have hpa := hcl (gvD e d (m0 + i) (T i))
    have hth := walkD_th (n := n) (by have := q.1.1; omega) (paceD e d (m0 + i) (T i)).toNat (T i) q.1.2.2.1 q.1.2.2.2.1
    have hlf := walkD_left (n := n) (paceD e d (m0 + i) (T i)).toNat (T i) q.1 (by unfold paceD; omega)
    rw [show walkD n (paceD e d (m0 + i) (T i)).toNat (T i) = stepD e n d (m0 + i) (T i) from rfl, ← hS] at hth hlf
    have o294 : M2 294 = M1 294 := g2.1 294 (by decide) (by decide) (by decide)
    have o29 : M2 278 29 = d := (g2.2 29 (by omega)).trans h4
    have oc : chg [0] M M2 := h5.tr g2.Q.chg
    have om : moF M M2 := h6.tr g2.Q.mo
    unfold mo_eats_b61 mo_eats_j105_61
    refine Tc_f (by omega) (Tc_e e1 ?_)
    rw [hbit]
    cases hA : (stepD e n d (m0 + i) (T i)).2 with
    | false =>
      rw [hA] at hlf
      have ht := hth.2.1 hA
      refine Tc_t (by simp) (Tc_inl ⟨?_, wi, g1, o29, oc, om, fun p hp => ?_⟩)
      · dsimp only; rw [hlf, if_neg (by decide)]; omega
      · dsimp only; rw [o294, h7 p hp]; unfold atN; rw [ht]
    | true =>
      rw [hA] at hlf
      have ht := hth.1 hA
      obtain ⟨p0, hp0⟩ : ∃ p0 : Nat, (T (i + 1)).1 = (p0 : Int) := ⟨(T (i + 1)).1.toNat, by have := hth.2.2.1; omega⟩
      have hpn : (p0 : Int) < n := by have := hth.2.2.2; omega
      have hn12 := q.1.2.1
      have h28 : M2 278 28 = (p0 : Int) := (g6' hA (by rw [h4])).trans hp0
      rw [hp0, toNat_c] at ht
      rw [h28]
      have b0 := (hT 0 (by omega)).1.2.2.2.2.2.2.2.2 p0 hpn
      have b1 := q.1.2.2.2.2.2.2.2.2 p0 hpn
      refine Tc_f (by simp) (Tc_t (by omega) (Tc_t (by omega) (Tc_u ?_)))
      rw [toNat_c, o294, h7 p0 (by omega)]
      have ea : atN T n i p0 = (T 0).2.2.2 p0 - (T i).2.2.2 p0 := by unfold atN; rw [if_pos hpn]
      rw [ea, wr_i (x := (T 0).2.2.2 p0 - (T i).2.2.2 p0 + 1) (by omega) (by omega)]
      refine Tc_inl ⟨?_, wi, ?_, ?_, ?_, ?_, fun p hp => ?_⟩
      · dsimp only; rw [hlf, if_pos rfl, wr_i (by omega) (by omega)]; omega
      · dsimp only
        exact g1.cells (chg.rf.up (by show 0 ∈ [0]; decide)) (up2_ne (by decide)) (up2_ne (by decide)) (up2_ne (by decide))
      · dsimp only; rw [rd_a (by decide)]; exact o29
      · exact oc.up (by show 0 ∈ [0]; decide)
      · exact om.tr (moF.up (by decide))
      · dsimp only
        by_cases e : p = p0
        · subst e
          rw [rd_same]
          unfold atN
          rw [if_pos hpn, ht, up1_at, if_pos rfl]
          omega
        · rw [rd_k e, o294, h7 p hp]
          unfold atN
          rw [ht, up1_at, if_neg e]
  · obtain ⟨x, z, M1⟩ := s
    obtain ⟨rfl, rfl, h3, h4, h5, h6, h7⟩ := hI
    unfold mo_eats_b61
    exact Tc_t (by dsimp only; omega) (Tc_inr ⟨rfl, h5, h6, h7⟩)
theorem on_eq {b : Nat} {p : Nat} {M : MEM} (h : p < 12) : be_thistlesOn b p M = some (M (b + 1) p) := by
  unfold be_thistlesOn
  rw [if_neg (by omega), if_neg (by omega), if_pos (by omega), toNat_c]
theorem eats_best {b n : Nat} {F : Nat → Int} {M : MEM} (hn : M b 2 = (n : Int)) (h12 : n ≤ 12) (hb : ∀ p : Nat, p < n → 0 ≤ M (b + 1) p ∧ M (b + 1) p ≤ 9 ∧ 0 ≤ M 231 p ∧ M 231 p ≤ 9 ∧ F p = M (b + 1) p - M 231 p) :
    Tc (iter (fun s => dh_eats_b60 b s.1 s.2.1 s.2.2 M) FU (0, (-1), 0)) (fun r => r.1 = (bst F n).2 ∧ r.2.1 = (bst F n).1) := by
  refine Tc_n (fun i s => s.1 = (bst F i).2 ∧ s.2.1 = (bst F i).1 ∧ s.2.2 = (i : Int)) n ⟨rfl, rfl, rfl⟩ (by omega) (fun i s hi hI => ?_) (fun s hI => ?_)
  · obtain ⟨x, y, z⟩ := s
    obtain ⟨rfl, rfl, rfl⟩ := hI
    dsimp only
    obtain ⟨b1, b2, b3, b4, b5⟩ := hb i hi
    have wi : wr ((i : Int) + 1) = ((i + 1 : Nat) : Int) := (wr_i (by omega) (by omega)).trans (by omega)
    unfold dh_eats_b60 dh_eats_j105_60
    refine Tc_f (by omega) (Tc_e (on_eq (by omega)) (Tc_e (on_eq (by omega)) ?_))
    rw [show (230 : Nat) + 1 = 231 from rfl, wr_i (x := M (b + 1) i - M 231 i) (by omega) (by omega), ← b5, wi, bst_S]
    by_cases q : (bst F i).2 < F i
    · rw [if_pos q]; exact Tc_f (by omega) (Tc_inl ⟨rfl, rfl, rfl⟩)
    · rw [if_neg q]; exact Tc_t (by omega) (Tc_inl ⟨rfl, rfl, rfl⟩)
  · obtain ⟨x, y, z⟩ := s
    obtain ⟨rfl, rfl, rfl⟩ := hI
    unfold dh_eats_b60
    exact Tc_t (by rw [hn]; exact Int.le_refl _) (Tc_inr ⟨rfl, rfl⟩)
theorem eats_bestM {x3 : Int} {F : Nat → Int} {M : MEM} (hb : ∀ p : Nat, p < 12 → M 294 p = F p) :
    Tc (iter (fun s => mo_eats_b125 x3 s.1 s.2.1 s.2.2 M) FU ((-1), 0, 0)) (fun r => r.1 = (bst F 12).1 ∧ r.2.1 = (bst F 12).2) := by
  refine Tc_n (fun i s => s.1 = (bst F i).1 ∧ s.2.1 = (bst F i).2 ∧ s.2.2 = (i : Int)) 12 ⟨rfl, rfl, rfl⟩ (by omega) (fun i s hi hI => ?_) (fun s hI => ?_)
  · obtain ⟨x, y, z⟩ := s
    obtain ⟨rfl, rfl, rfl⟩ := hI
    dsimp only
    have wi : wr ((i : Int) + 1) = ((i + 1 : Nat) : Int) := (wr_i (by omega) (by omega)).trans (by omega)
    unfold mo_eats_b125 mo_eats_j160_125
    refine Tc_f (by omega) (Tc_t (by omega) ?_)
    rw [toNat_c, hb i hi, wi]
    by_cases q : (bst F i).2 < F i
    · exact Tc_t q (Tc_t (by omega) (Tc_inl ⟨by rw [bst_S, if_pos q], by rw [bst_S, if_pos q], rfl⟩))
    · exact Tc_f q (Tc_inl ⟨by rw [bst_S, if_neg q], by rw [bst_S, if_neg q], rfl⟩)
  · obtain ⟨x, y, z⟩ := s
    obtain ⟨rfl, rfl, rfl⟩ := hI
    unfold mo_eats_b125
    exact Tc_t (by show (12 : Int) ≤ ((12 : Nat) : Int); omega) (Tc_inr ⟨rfl, rfl⟩)
theorem c_eats {B : Int} {M : MEM} (h : Rel B M) (hB : B ≤ 100000000) (x k : Int) : Lk B (dh_eats x k M) (mo_eats x k) := by
  have nw := now_in h
  unfold Lk dh_eats
  by_cases hd : 0 ≤ x ∧ x < M 3 2
  · refine Tc_f (by rw [isDonkey_y h.S.2.2.1 hd.1 hd.2]; decide) ?_
    have c3 : chg [0] M (up2 M 278 13 0) := chg.rf.up (by decide)
    by_cases hk : 0 ≤ k ∧ k ≤ 600
    · refine Tc_f (by omega) (Tc_t hk.2 ?_)
      obtain ⟨d, rfl⟩ : ∃ d : Nat, x = (d : Int) := ⟨x.toNat, by omega⟩
      have hd3 : d < 3 := by have := h.S.2.2.1; omega
      obtain ⟨M1, e1, o1, f1⟩ := q_look0 h (Or.inl rfl) hd.2 hB
      obtain ⟨d1, d2, d3, d4⟩ := dnk h hB hd.2
      have hcl : clE (envM M) := fun g => codeV_in _ _ _
      have hTo : ∀ j : Nat, j ≤ 1000000 → okD (M 280 d) (qT M d j) := fun j hj => (traj_ok hcl d1 (by omega) j hj).1
      obtain ⟨M2, e2, f2, o2⟩ := fut_run600 (till := k) (Or.inl rfl) d1 d2 nw.1 (by omega) hk.2 (by omega) f1
      rw [show max 0 k.toNat = k.toNat by omega] at f2
      refine Tc_e e1 (Tc_t (by omega) (Tc_e e2 ?_))
      have c2 : chg [0] M M2 := (o1.tr o2.L).chg (Or.inl rfl)
      rw [toNat_c]
      obtain ⟨n, hn⟩ : ∃ n : Nat, M 280 d = (n : Int) := ⟨(M 280 d).toNat, by have := d1.1; omega⟩
      have hn12 : n ≤ 12 := by have := d1.2.1; omega
      have b2 : ∀ M' : MEM, chg [0, 10] M M' → M' (10 + 3 * d) 2 = (n : Int) := fun M' c => by
        rw [c (10 + 3 * d) 2 (by rw [rg_P (by omega)]; decide), d4, hn]
      have bT : ∀ M' : MEM, chg [0, 10] M M' → M' (10 + 3 * d + 1) = (qT M d 0).2.2.2 := fun M' c => by
        show M' (10 + 3 * d + 1) = M (10 + 3 * d + 1)
        exact funext fun p => c _ p (by rw [rg_D (by omega) (by omega) (Or.inr (by omega))]; decide)
      have t2 : M2 230 2 = (n : Int) := f2.2.2.1.trans hn
      have tT : ∀ p : Nat, p < n → M2 231 p = (qT M d k.toNat).2.2.2 p := fun p hp => (f2.2.2.2.1.2.2.2 p (by omega)).symm
      have c2' : chg [0, 10] M M2 := c2.sub (by decide)
      have q0 := hTo 0 (by omega)
      have qk := hTo k.toNat (by omega)
      rw [hn] at q0 qk
      have hbst := eats_best (F := atN (qT M d) n k.toNat) (b2 M2 c2') hn12 (fun p hp => by
        have z0 := q0.2.2.2.2.2.2.2.2 p (by omega)
        have zk := qk.2.2.2.2.2.2.2.2 p (by omega)
        rw [bT M2 c2', tT p hp]
        refine ⟨z0.1, z0.2, zk.1, zk.2, ?_⟩
        unfold atN
        rw [if_pos (by omega)])
      refine Tc_c hbst (fun w hw => ?_)
      obtain ⟨w1, w2, w3⟩ := w
      obtain ⟨rfl, rfl⟩ := hw
      dsimp only
      obtain ⟨M3, n1, n2, n3⟩ := newRow_eq M2
      refine Tc_e n1 ?_
      obtain ⟨M4, t1, t2', t3⟩ := tell_eq (bst (atN (qT M d) n k.toNat) n).1 n2 (by decide)
      refine Tc_e t1 ?_
      obtain ⟨M5, u1, u2, u3⟩ := tell_eq (bst (atN (qT M d) n k.toNat) n).2 t2' (by simp)
      refine Tc_e u1 ?_
      have oC : offC M2 M5 := (n3.tr t3).tr u3
      have c5 : chg [0, 10] M M5 := c2'.tr oC.chg
      have a1 := allTh_eq (b := 10 + 3 * d) (M := M5) (b2 M5 c5) (by omega) (by omega) (fun p hp => by rw [bT M5 c5]; exact q0.2.2.2.2.2.2.2.2 p hp)
      have a2 := allTh_eq (b := 230) (M := M5) (n := (n : Int)) (by rw [oC.cell (by decide) (by decide)]; exact t2) (by omega) (by omega) (fun p hp => by
        rw [oC.cell (by decide) (by decide), tT p (by omega)]; exact qk.2.2.2.2.2.2.2.2 p hp)
      rw [bT M5 c5] at a1
      have a3 : leftN (M5 (230 + 1)) n = leftN (qT M d k.toNat).2.2.2 n := by
        unfold leftN
        refine sumN_congr (fun p hp => ?_)
        rw [oC.cell (by decide) (by decide)]
        exact tT p (by omega)
      rw [a3] at a2
      refine Tc_e a1 (Tc_e a2 (Tc_some ?_))
      dsimp only
      have l0 := leftN_bd (f := (qT M d 0).2.2.2) (n := (n : Int)) (by omega) (by omega) q0.2.2.2.2.2.2.2.2
      have lk := leftN_bd (f := (qT M d k.toNat).2.2.2) (n := (n : Int)) (by omega) (by omega) qk.2.2.2.2.2.2.2.2
      rw [wr_i (x := leftN (qT M d 0).2.2.2 n - leftN (qT M d k.toNat).2.2.2 n) (by omega) (by omega)]
      unfold mo_eats
      have c6 : chg [0, 10] M (up2 M5 278 13 0) := c5.up (by decide)
      refine Tc_u (Tc_f (by rw [moDonkey_y h.S (c6 278 1 (by decide)) hd]; decide) (Tc_f (by rw [moIn_y hk]; decide) ?_))
      refine Tc_c eats_clear (fun w hw => ?_)
      obtain ⟨w1, M6⟩ := w
      obtain ⟨v1, v2, v3, v4⟩ := hw
      dsimp only at v1 v2 v3 v4 ⊢
      have c7 : chg [0, 10] M M6 := c6.tr (v1.sub (by decide))
      obtain ⟨M7, g1, g2, g3, -, g5, g6⟩ := q_then h hB c7
      refine Tc_e g1 (Tc_u ?_)
      have h29 : M7 278 29 = -1 := by
        rw [g3 278 (by decide), v4 278 (by decide), rd_k (by decide), c5 278 29 (by decide)]
        exact h.N.2.2.2.2.2.2
      have el := eats_loop (d := d) (k := k) (M := up2 M7 278 29 d) g5 (by omega) hk.1 hk.2 g6.up29 rd_same (fun p hp => by
        rw [rd_a (by decide), g3 294 (by decide)]; exact v3 p hp)
      refine Tc_c el (fun w hw => ?_)
      obtain ⟨w1, w2, M8⟩ := w
      obtain ⟨rfl, y2, y3, y4⟩ := hw
      dsimp only at y2 y3 y4 ⊢
      refine Tc_u ?_
      have c9 : chg [0] M7 (up2 M8 278 29 (-1)) := chg_29 y2 h29
      have hb2 := eats_bestM (x3 := leftN (qT M d 0).2.2.2 (M 280 d) - leftN (qT M d k.toNat).2.2.2 (M 280 d)) (F := atN (qT M d) n k.toNat) (M := up2 M8 278 29 (-1)) (fun p hp => by
        rw [rd_a (by decide), y4 p hp]; show atN (qT M d) (M 280 d) k.toNat p = _; rw [hn])
      refine Tc_c hb2 (fun w hw => ?_)
      obtain ⟨w1, w2, w3⟩ := w
      obtain ⟨rfl, rfl⟩ := hw
      dsimp only
      refine Tc_u ?_
      have e12 : bst (atN (qT M d) n k.toNat) 12 = bst (atN (qT M d) n k.toNat) n := by
        have := bst_tail (F := atN (qT M d) n k.toNat) (n := n) (12 - n) (fun i a b => by unfold atN; rw [if_neg (by omega)])
        rw [show n + (12 - n) = 12 by omega] at this
        exact this
      rw [e12]
      obtain ⟨x1, x2⟩ := moRow0 (up2 M8 278 29 (-1))
      obtain ⟨M9, p1, p2, p3⟩ := moTell_eq (bst (atN (qT M d) n k.toNat) n).1 x1 (by decide)
      refine Tc_e p1 ?_
      obtain ⟨M10, r1, r2, r3⟩ := moTell_eq (bst (atN (qT M d) n k.toNat) n).2 p2 (by simp)
      refine Tc_e r1 (Tc_some ?_)
      have oX := (x2.tr p3).tr r3
      have c10 : chg [0, 10] M M10 := ((c7.tr (g2.chg.sub (by decide))).tr (c9.sub (by decide))).tr oX.chg
      refine ⟨?_, h.go10 c10 (u2.fin ((((((moF.up (by decide)).tr v2).tr g2.mo).tr (moF.up (by decide))).tr y3).tr ((moF.up (by decide)).tr oX.mo)) r2 (by simp))⟩
      show leftN (qT M d 0).2.2.2 (M 280 d) - leftN (qT M d k.toNat).2.2.2 (M 280 d) = _
      rw [hn]
    · have mo : Tc (mo_eats x k M) (fun q => q.1 = -1 ∧ Rel B q.2) := by
        unfold mo_eats
        exact Tc_u (Tc_f (by rw [moDonkey_y h.S (c3 278 1 (by decide)) hd]; decide) (Tc_t (moIn_n hk) (Tc_some ⟨rfl, h.go0 c3⟩)))
      refine Tc_i (fun _ => Tc_some mo) (fun q => Tc_f (by omega) (Tc_some mo))
  · refine Tc_t (isDonkey_n h.S.2.2.1 hd) (Tc_some ?_)
    unfold mo_eats
    have c3 : chg [0] M (up2 M 278 13 0) := chg.rf.up (by decide)
    exact Tc_u (Tc_t (moDonkey_n h.S (c3 278 1 (by decide)) hd) (Tc_some ⟨rfl, h.go0 c3⟩))
