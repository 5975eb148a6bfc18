-- ===== MINUTES of both, side by side =====
/-- the class's cells out of M, the reference's out of N -/
def mrg (M N : MEM) : MEM := fun c => if c ≤ 277 then M c else N c
theorem mrg_lo {M N : MEM} {c : Nat} (h : c ≤ 277) : mrg M N c = M c := if_pos h
theorem mrg_hi {M N : MEM} {c : Nat} (h : 277 < c) : mrg M N c = N c := if_neg (by omega)
theorem snD.step {b d : Nat} {n t : Int} {e : EN} {M M' : MEM} (h : snD b 279 (55 * d) n t M) (he : clE e) (ht : 0 ≤ t) (ht1 : t ≤ 1000000000)
    (c1 : dsC b M' = (stepD e n d t (dsC b M)).1) (c2 : ∀ q : Nat, q < 40 → M' (b + 2) q = if (stepD e n d t (dsC b M)).1.2.2.1 ≠ M b 5 ∧ (q : Int) = (stepD e n d t (dsC b M)).1.2.2.1 % 40 then t else M (b + 2) q)
    (m1 : eqD n (dsM 279 (55 * d) M') (stepD e n d t (dsM 279 (55 * d) M)).1) (m2 : ∀ p : Nat, n ≤ (p : Int) → p < 12 → M' 279 (55 * d + 3 + p) = M 279 (55 * d + 3 + p))
    (m3 : ∀ q : Nat, q < 40 → M' 279 (55 * d + 15 + q) = if (stepD e n d t (dsM 279 (55 * d) M)).1.2.2.1 ≠ M 279 (55 * d + 2) ∧ (q : Int) = M 279 (55 * d + 2) % 40 then t else M 279 (55 * d + 15 + q)) :
    snD b 279 (55 * d) n (t + 1) M' := by
  obtain ⟨g1, g2, g3, g4, g5⟩ := h
  have hk0 : 0 ≤ M b 5 := g2.2.2.2.2.2.2.1
  have hcg := stepD_congr (e := e) (d := (d : Int)) (m := t) g2 g1
  have hok := stepD_ok (d := (d : Int)) (m := t) he g2 (by show M b 5 + 4 < _; omega)
  have hkk : (stepD e n d t (dsC b M)).1.2.2.1 = M b 5 ∨ (stepD e n d t (dsC b M)).1.2.2.1 = M b 5 + 1 := stepD_k he g2
  have ek : M b 5 = M 279 (55 * d + 2) := g1.2.2.1
  have ek' : (stepD e n d t (dsC b M)).1.2.2.1 = (stepD e n d t (dsM 279 (55 * d) M)).1.2.2.1 := hcg.1.2.2.1
  have k' : M' b 5 = (stepD e n d t (dsC b M)).1.2.2.1 := by rw [← c1]; rfl
  rw [← ek', ← ek] at m3
  refine ⟨?_, by rw [c1]; exact hok, fun p h1 h2 => by rw [m2 p h1 h2]; exact g3 p h1 h2, ?_, fun j hj1 hj2 hj3 => ?_⟩
  · rw [c1]
    obtain ⟨a1, a2, a3, a4⟩ := hcg.1
    obtain ⟨b1, b2, b3, b4⟩ := m1
    exact ⟨a1.trans b1.symm, a2.trans b2.symm, a3.trans b3.symm, fun p hp => (a4 p hp).trans (b4 p hp).symm⟩
  · rw [k']; omega
  · rw [k'] at hj2 hj3
    generalize (stepD e n d t (dsC b M)).1.2.2.1 = K at *
    rw [c2 (j % 40) (by omega), m3 ((j - 1) % 40) (by omega)]
    by_cases eq : K = M b 5
    · rw [if_neg (fun y => y.1 eq), if_neg (fun y => y.1 eq)]
      obtain ⟨q1, q2, q3⟩ := g5 j hj1 (by omega) (by omega)
      exact ⟨q1, q2, by omega⟩
    · by_cases ej : (j : Int) = K
      · rw [if_pos ⟨eq, by omega⟩, if_pos ⟨eq, by omega⟩]
        exact ⟨rfl, ht, by omega⟩
      · rw [if_neg (fun y => by have := y.2; omega), if_neg (fun y => by have := y.2; omega)]
        obtain ⟨q1, q2, q3⟩ := g5 j hj1 (by omega) (by omega)
        exact ⟨q1, q2, by omega⟩
/-- thistles left -/
def leftN (f : Nat → Int) (n : Int) : Int := sumN f n.toNat
theorem sumN_up1 {f : Nat → Int} {p : Nat} {x : Int} : ∀ {n : Nat}, p < n → sumN (up1 f p x) n = sumN f n + (x - f p) := by
  intro n
  induction n with
  | zero => intro h; omega
  | succ n ih =>
    intro h
    rw [sumN_S, sumN_S]
    by_cases e : p = n
    · subst e
      rw [sumN_congr (G := f) (fun i hi => by unfold up1; rw [if_neg (by omega)])]
      have : up1 f p x p = x := by unfold up1; rw [if_pos rfl]
      omega
    · rw [ih (by omega)]
      have : up1 f p x n = f n := by unfold up1; rw [if_neg (by omega)]
      omega
theorem oneD_left {n : Int} {s : DS} (h : okD n s) : leftN (oneD n s).1.2.2.2 n = leftN s.2.2.2 n - (if (oneD n s).2 = true then 1 else 0) := by
  have hx := nxt_in (n := n) (by have := h.1; omega) h.2.2.1 (p := s.1)
  rw [oneD_th, oneD_ate]
  unfold leftN
  by_cases e : 0 < s.2.2.2 (nxt n s.1).toNat
  · rw [if_pos e, if_pos (decide_eq_true e), sumN_up1 (by omega)]; omega
  · rw [if_neg e, if_neg (by simpa using e)]; omega
theorem walkD_left {n : Int} : ∀ (j : Nat) (s : DS), okD n s → s.2.2.1 + j < 1073741824 → leftN (walkD n j s).1.2.2.2 n = leftN s.2.2.2 n - (if (walkD n j s).2 = true then 1 else 0) := by
  intro j
  induction j with
  | zero => intro s _ _; show leftN s.2.2.2 n = leftN s.2.2.2 n - (if false = true then 1 else 0); rw [if_neg (by decide)]; omega
  | succ j ih =>
    intro s h hk
    have o := oneD_left h
    have hok := oneD_ok h (by omega)
    have hks := oneD_strokes n s
    rw [walkD_S]
    by_cases e : (oneD n s).2 = true
    · rw [if_pos e, o, if_pos e]
    · rw [if_neg e] at o
      rw [if_neg e, ih _ hok (by rw [hks]; split <;> omega), o]; omega
/-- both at the same MINUTE -/
def lock (B : Int) (M N : MEM) : Prop := pOk M ∧ rlOk N ∧ emOk N ∧ passE M = envM N ∧ C_D B (mrg M N) ∧ C_S (mrg M N)
theorem lock.pass {B : Int} {M N : MEM} (h : lock B M N) (hB : B ≤ 200000000) : passOk M ∧ goOk 279 N ∧ N 278 1 = M 3 2 ∧ N 279 165 = M 3 3 ∧ ∀ d : Nat, (d : Int) < M 3 2 → N 280 d = M (10 + 3 * d) 2 ∧ eqD (N 280 d) (dsC (10 + 3 * d) M) (dsM 279 (55 * d) N) ∧ okD (N 280 d) (dsC (10 + 3 * d) M) ∧ M (10 + 3 * d) 5 ≤ B := by
  obtain ⟨h1, h2, h3, h4, h5, h6⟩ := h
  obtain ⟨s1, s2, s3, s4, s5, s6⟩ := h6
  unfold C_D snS at h5
  rw [mrg_lo (c := 3) (by decide), mrg_hi (c := 279) (by decide), mrg_hi (c := 280) (by decide)] at h5
  rw [mrg_lo (c := 3) (by decide), mrg_hi (c := 278) (by decide)] at s1
  rw [mrg_lo (c := 3) (by decide)] at s2 s3 s6
  rw [mrg_hi (c := 280) (by decide)] at s6
  obtain ⟨t1, t2, t3, t4⟩ := h5
  rw [Nat.zero_add] at t1
  have all : ∀ d : Nat, (d : Int) < M 3 2 → N 280 d = M (10 + 3 * d) 2 ∧ eqD (N 280 d) (dsC (10 + 3 * d) M) (dsM 279 (55 * d) N) ∧ okD (N 280 d) (dsC (10 + 3 * d) M) ∧ M (10 + 3 * d) 5 ≤ B := fun d hd => by
    have hs := (s6 d hd).1
    rw [mrg_lo (by omega)] at hs
    obtain ⟨t5, t6⟩ := t4 d hd
    obtain ⟨g1, g2, g3, g4, g5⟩ := t6
    rw [show 3 + 7 + 3 * d = 10 + 3 * d by omega] at g1 g2 g4
    rw [Nat.zero_add] at g1
    have e1 : dsC (10 + 3 * d) (mrg M N) = dsC (10 + 3 * d) M := by unfold dsC; rw [mrg_lo (by omega), mrg_lo (by omega)]
    have e2 : dsM 279 (55 * d) (mrg M N) = dsM 279 (55 * d) N := by unfold dsM; rw [mrg_hi (by decide)]
    rw [e1, e2] at g1
    rw [e1] at g2
    rw [mrg_lo (by omega)] at g4
    exact ⟨hs, g1, g2, by omega⟩
  refine ⟨⟨s2, s3, h1, t2, by omega, fun d hd => ?_⟩, ⟨by omega, by omega, h2, h3, by omega, by omega, fun d hd => ?_⟩, s1, t1.symm, all⟩
  · obtain ⟨a1, a2, a3, a4⟩ := all d hd
    rw [← a1]
    exact ⟨a3, by omega⟩
  · obtain ⟨a1, a2, a3, a4⟩ := all d (by omega)
    refine ⟨okD_congr a2 a3, ?_⟩
    have : M (10 + 3 * d) 5 = N 279 (55 * d + 2) := a2.2.2.1
    omega
theorem lock.step {B : Int} {M N : MEM} (h : lock B M N) (hB : B ≤ 200000000) : ∃ (M' N' : MEM) (A S : Nat → Bool) (K : Nat → Int), dh_pass M = some (bitsP A S (M 3 2).toNat, M') ∧ mo_goMinute 279 N = some N' ∧ lock (B + 1) M' N' ∧ offW M M' ∧ offG 279 N N' ∧
    N' 278 26 = bitsI A (M 3 2).toNat ∧ N' 278 27 = bitsI S (M 3 2).toNat ∧ N' 278 24 = sumN K (M 3 2).toNat ∧ M' 3 3 = M 3 3 + 1 ∧
    ∀ d : Nat, (d : Int) < M 3 2 → N' 287 d = K d ∧ M' (10 + 3 * d) 5 = M (10 + 3 * d) 5 + K d ∧ 0 ≤ K d ∧ K d ≤ 1 ∧ leftN (M' (10 + 3 * d + 1)) (M (10 + 3 * d) 2) = leftN (M (10 + 3 * d + 1)) (M (10 + 3 * d) 2) - (if A d = true then 1 else 0) := by
  obtain ⟨p1, p2, p3, p4, hall⟩ := h.pass hB
  obtain ⟨M', e1, o1, t1, w1⟩ := pass_eq p1
  obtain ⟨N', e2, o2, t2, w2, w3, b26, b27, b24, -⟩ := mo_go (Or.inl rfl) p2
  obtain ⟨l1, l2, l3, l4, l5, l6⟩ := h
  obtain ⟨q1, q2, q3, q4, q5, q6⟩ := p1
  obtain ⟨s1, s2, s3, s4, s5, s6⟩ := l6
  have M32 : M' 3 2 = M 3 2 := o1.2.2.1 2 (by decide)
  have N280 : N' 280 = N 280 := o2.1 280 (by decide) (by decide) (by decide)
  -- both take the same step
  have same : ∀ d : Nat, (d : Int) < M 3 2 → eqD (N 280 d) (stepW M d).1 (rowR 279 (envM N) N d).1 ∧ (stepW M d).2 = (rowR 279 (envM N) N d).2 ∧ stoodW M d = stoodB 279 (envM N) N d ∧ ((stepW M d).1.2.2.1 = M (10 + 3 * d) 5 ∨ (stepW M d).1.2.2.1 = M (10 + 3 * d) 5 + 1) := fun d hd => by
    obtain ⟨a1, a2, a3, a4⟩ := hall d hd
    have hc := stepD_congr (e := passE M) (d := (d : Int)) (m := M 3 3) a3 a2
    have hk := stepD_k (e := passE M) (d := (d : Int)) (m := M 3 3) (passE_cl M) a3
    unfold stepW rowR stoodW stoodB
    rw [← a1, p4, ← l4]
    refine ⟨hc.1, hc.2, ?_, hk⟩
    unfold paceD
    rw [gvD_congr a3.2.2.1 a3.2.2.2.1 a2]
  have mk : ∀ d : Nat, (d : Int) < M 3 2 → M (10 + 3 * d) 5 = N 279 (55 * d + 2) := fun d hd => (hall d hd).2.1.2.2.1
  have M2 : ∀ d : Nat, (d : Int) < M 3 2 → M' (10 + 3 * d) 2 = M (10 + 3 * d) 2 := fun d hd => o1.2.2.2 d 2 (by omega) (by decide) (by decide) (by decide)
  refine ⟨M', N', fun d => (stepW M d).2, stoodW M, rowK 279 (envM N) N, e1, e2, ⟨o1.pOk l1, o2.rl (Or.inl rfl) l2, o2.em (Or.inl rfl) l3, by rw [o1.env, o2.env (Or.inl rfl)]; exact l4, ?_, ?_⟩, o1, o2, ?_, ?_, ?_, t1, fun d hd => ?_⟩
  · -- the DONKEYS
    unfold C_D snS at l5 ⊢
    rw [mrg_lo (c := 3) (by decide), mrg_hi (c := 279) (by decide), mrg_hi (c := 280) (by decide)] at l5 ⊢
    obtain ⟨c1, c2, c3, c4⟩ := l5
    rw [M32, N280, t1]
    rw [Nat.zero_add] at c1 ⊢
    refine ⟨by rw [t2, p4], by omega, by omega, fun d hd => ?_⟩
    obtain ⟨c5, c6⟩ := c4 d hd
    obtain ⟨r1, r2, r3, r4⟩ := w2 d (by omega)
    obtain ⟨v1, v2⟩ := w1 d hd
    obtain ⟨a1, a2, a3, a4⟩ := hall d hd
    rw [show 3 + 7 + 3 * d = 10 + 3 * d by omega] at c5 c6 ⊢
    rw [Nat.zero_add] at c6 ⊢
    rw [mrg_lo (by omega)] at c5 ⊢
    refine ⟨by rw [M2 d hd]; exact c5, ?_⟩
    have f1 : dsC (10 + 3 * d) (mrg M N) = dsC (10 + 3 * d) M := by unfold dsC; rw [mrg_lo (by omega), mrg_lo (by omega)]
    have f1' : dsC (10 + 3 * d) (mrg M' N') = dsC (10 + 3 * d) M' := by unfold dsC; rw [mrg_lo (by omega), mrg_lo (by omega)]
    have f2 : dsM 279 (55 * d) (mrg M N) = dsM 279 (55 * d) N := by unfold dsM; rw [mrg_hi (by decide)]
    have f2' : dsM 279 (55 * d) (mrg M' N') = dsM 279 (55 * d) N' := by unfold dsM; rw [mrg_hi (by decide)]
    have eW : stepD (passE M) (N 280 d) d (M 3 3) (dsC (10 + 3 * d) M) = stepW M d := by unfold stepW; rw [← a1]
    have eR : stepD (passE M) (N 280 d) d (M 3 3) (dsM 279 (55 * d) N) = rowR 279 (envM N) N d := by unfold rowR; rw [p4, l4]
    refine snD.step c6 (passE_cl M) c2 (by omega) ?_ (fun q hq => ?_) ?_ (fun p hp1 hp2 => ?_) (fun q hq => ?_)
    · rw [f1, f1', eW]; exact v1
    · rw [f1, eW, mrg_lo (by omega), mrg_lo (by omega), mrg_lo (by omega)]; exact v2 q hq
    · rw [f2, f2', eR]; exact r1
    · rw [mrg_hi (by decide), mrg_hi (by decide)]; exact r2 p hp1 hp2
    · rw [f2, eR, mrg_hi (by decide), mrg_hi (by decide), ← p4]; exact r3 q hq
  · unfold C_S
    rw [mrg_lo (c := 3) (by decide), mrg_hi (c := 278) (by decide)] at s1 ⊢
    rw [mrg_hi (c := 278) (by decide)] at s4 s5
    rw [mrg_lo (c := 3) (by decide)] at s2 s3 s5 s6
    rw [mrg_hi (c := 280) (by decide)] at s6 ⊢
    rw [o2.2 1 (by omega), o2.2 51 (by omega), M32, N280]
    refine ⟨s1, s2, s3, s4, s5, fun d hd => ?_⟩
    obtain ⟨a1, a2, a3⟩ := s6 d hd
    rw [mrg_lo (by omega)] at a1 ⊢
    rw [M2 d hd]
    exact ⟨a1, a2, a3⟩
  · rw [b26, p3]; exact (bitsI_congr (fun i hi => (same i (by omega)).2.1)).symm
  · rw [b27, p3]; exact (bitsI_congr (fun i hi => (same i (by omega)).2.2.1)).symm
  · rw [b24, p3]
  · obtain ⟨r1, r2, r3, r4⟩ := w2 d (by omega)
    obtain ⟨v1, v2⟩ := w1 d hd
    obtain ⟨y1, y2, y3, y4⟩ := same d hd
    obtain ⟨a1, a2, a3, a4⟩ := hall d hd
    have k5 : M' (10 + 3 * d) 5 = (stepW M d).1.2.2.1 := by rw [← v1]; rfl
    have kR : (stepW M d).1.2.2.1 = (rowR 279 (envM N) N d).1.2.2.1 := y1.2.2.1
    have hK : rowK 279 (envM N) N d = (stepW M d).1.2.2.1 - M (10 + 3 * d) 5 := by
      unfold rowK
      rw [← kR, ← mk d hd]
      split <;> omega
    refine ⟨r4, by rw [k5, hK]; omega, by rw [hK]; omega, by rw [hK]; omega, ?_⟩
    have hb := passE_cl M (gvD (passE M) d (M 3 3) (dsC (10 + 3 * d) M))
    have hb' : (paceD (passE M) d (M 3 3) (dsC (10 + 3 * d) M)) ≤ 4 := hb.2
    have := walkD_left (n := N 280 d) (paceD (passE M) d (M 3 3) (dsC (10 + 3 * d) M)).toNat (dsC (10 + 3 * d) M) a3 (by show M (10 + 3 * d) 5 + _ < _; omega)
    have e5 : M' (10 + 3 * d + 1) = (stepW M d).1.2.2.2 := by rw [← v1]; rfl
    rw [e5]
    have key : ∀ n, N 280 d = n → leftN (stepD (passE M) n d (M 3 3) (dsC (10 + 3 * d) M)).1.2.2.2 n = leftN (M (10 + 3 * d + 1)) n - (if (stepD (passE M) n d (M 3 3) (dsC (10 + 3 * d) M)).2 = true then 1 else 0) := by
      rintro _ rfl
      exact this
    exact key _ a1
