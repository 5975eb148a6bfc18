-- ===== hungers, ways =====
/-- the future's surroundings are as they were -/
def cE (M M1 : MEM) : Prop := chg [0, 10] M M1 ∧ envC 224 M1 = envC 224 M ∧ eOk 224 M1
theorem cE.rf {B : Int} {M : MEM} (h : Rel B M) : cE M M := ⟨chg.rf, rfl, (env_0 h (Or.inl rfl)).2⟩
theorem cE.L {M M1 M2 : MEM} (h : cE M M1) (o : offL 224 M1 M2) : cE M M2 := ⟨h.1.tr ((o.chg (Or.inl rfl)).sub (by decide)), (o.env (Or.inl rfl)).trans h.2.1, o.eOk (Or.inl rfl) h.2.2⟩
theorem cE.C {M M1 M2 : MEM} (h : cE M M1) (o : offC M1 M2) : cE M M2 :=
  ⟨h.1.tr o.chg, (envC_cells (f := 224) (M := M1) (M' := M2) (fun c hc => o.cell (by omega) (by omega)) (o 224 6 (by decide) (by decide)) (o 21 3 (by decide) (by decide))).trans h.2.1, eOk_cells (f := 224) (M := M1) (M' := M2) (fun c hc => o.cell (by omega) (by omega)) (o 21 3 (by decide) (by decide)) h.2.2⟩
noncomputable def bitsO (P : Nat → Bool) : Nat → Int
  | 0 => 0
  | j + 1 => if P j = true then ish i_or (bitsO P j) (ish i_shl 1 (j : Int)) else bitsO P j
theorem bitsO_S (P : Nat → Bool) (j : Nat) : bitsO P (j + 1) = if P j = true then ish i_or (bitsO P j) (ish i_shl 1 (j : Int)) else bitsO P j := rfl
theorem bitsO_in (P : Nat → Bool) : ∀ j, InR (bitsO P j) := by
  intro j
  induction j with
  | zero => show InR 0; unfold InR; omega
  | succ j ih =>
    rw [bitsO_S]
    split
    · exact ish_in _ _ _
    · exact ih
theorem or_z {x : Int} (h : InR x) : ish i_or x 0 = x := by
  rw [ish_def]
  show (Int32.ofInt x ||| Int32.ofInt 0).toInt = x
  rw [iI_0, Int32.or_zero, iI_toInt h]
theorem bit_if (b : Bool) : (if b = true then (1 : Int) else 0) = 0 ↔ b = false := by cases b <;> simp
theorem c_hungers {B : Int} {M : MEM} (h : Rel B M) (hB : B ≤ 100000000) (x : Int) : Lk B (dh_hungers x M) (mo_hungers x) := by
  have nw := now_in h
  have c3 : chg [0] M (up2 M 278 13 0) := chg.rf.up (by decide)
  unfold Lk dh_hungers
  by_cases hd : 0 ≤ x ∧ x < M 3 2
  · have hN := h.S.2.2.1
    refine Tc_f (by rw [isDonkey_y h.S.2.2.1 hd.1 hd.2]; decide) (Tc_t (by omega) ?_)
    obtain ⟨d, rfl⟩ : ∃ d : Nat, x = (d : Int) := ⟨x.toNat, by omega⟩
    obtain ⟨d1, d2, d3, d4⟩ := dnk h hB hd.2
    obtain ⟨P, hP⟩ : ∃ P : Nat → Bool, P = fun hu : Nat => hdB M d (qW M d (hu : Int) (dsC (10 + 3 * d) M).1) := ⟨_, rfl⟩
    obtain ⟨Q, hQ⟩ : ∃ Q : Nat → Bool, Q = fun pl : Nat => hdB M d (qW M d (dsC (10 + 3 * d) M).2.1 (pl : Int)) := ⟨_, rfl⟩
    obtain ⟨np, hnp⟩ : ∃ np : Nat, M 280 d = (np : Int) := ⟨(M 280 d).toNat, by have := d1.1; omega⟩
    have hnp12 : np ≤ 12 := by have := d1.2.1; omega
    have rb : ∀ {M1 : MEM}, cE M M1 → ∀ k, M1 (10 + 3 * d) k = M (10 + 3 * d) k := fun {M1} c k => c.1 _ _ (by rcases rg_D12 (a := 10 + 3 * d) (k := k) (by omega) (by omega) with q | q <;> rw [q] <;> decide)
    rw [toNat_c]
    have l1 : Tc (iter (fun s => dh_hungers_b25 d (10 + 3 * d) s.1 s.2.1 s.2.2) FU (0, 0, M)) (fun r => r.1 = bitsO P 10 ∧ cE M r.2.2 ∧ offL 224 M r.2.2) := by
      refine Tc_n (fun i s => s.1 = bitsO P i ∧ s.2.1 = (i : Int) ∧ cE M s.2.2 ∧ offL 224 M s.2.2) 10 ⟨rfl, rfl, cE.rf h, offL.rf⟩ (by omega) (fun i s hi hI => ?_) (fun s hI => ?_)
      · obtain ⟨y, z, M1⟩ := s
        obtain ⟨rfl, rfl, q1, q2⟩ := hI
        dsimp only at q1 q2 ⊢
        have e3 : M1 (10 + 3 * d) 3 = (dsC (10 + 3 * d) M).1 := rb q1 3
        obtain ⟨M2, j', e2, o2, -, -⟩ := way_eq (hu := (i : Int)) (pl := (dsC (10 + 3 * d) M).1) h hB hd.2 (by omega) (by omega) d1.2.2.1 d1.2.2.2.1 q1.1 q1.2.1 q1.2.2
        have wi : wr ((i : Int) + 1) = ((i + 1 : Nat) : Int) := (wr_i (by omega) (by omega)).trans (by omega)
        unfold dh_hungers_b25 dh_hungers_j53_25
        refine Tc_f (by omega) ?_
        rw [e3, wi]
        refine Tc_e e2 ?_
        dsimp only
        have ePi : P i = hdB M d (qW M d i (dsC (10 + 3 * d) M).1) := by rw [hP]
        rw [bitsO_S, ← ePi]
        cases hh : P i with
        | true => exact Tc_f (by simp) (Tc_inl ⟨by rw [if_pos rfl], rfl, q1.L o2, q2.tr o2⟩)
        | false => exact Tc_t (by simp) (Tc_inl ⟨by rw [if_neg (by decide)], rfl, q1.L o2, q2.tr o2⟩)
      · obtain ⟨y, z, M1⟩ := s
        obtain ⟨rfl, rfl, q1, q2⟩ := hI
        unfold dh_hungers_b25
        exact Tc_t (by show (10 : Int) ≤ ((10 : Nat) : Int); omega) (Tc_inr ⟨rfl, q1, q2⟩)
    obtain ⟨w1, e1, rfl', y1, y2⟩ := l1
    obtain ⟨bt, w1, M1⟩ := w1
    dsimp only at rfl' y1 y2
    subst rfl'
    refine Tc_e e1 ?_
    dsimp only
    have l2 : Tc (iter (fun s => dh_hungers_b65 d (10 + 3 * d) (bitsO P 10) s.1 s.2.1 s.2.2) FU (0, 0, M1)) (fun r => r.1 = bitsO Q np ∧ offL 224 M r.2.2) := by
      refine Tc_n (fun i s => s.1 = bitsO Q i ∧ s.2.1 = (i : Int) ∧ cE M s.2.2 ∧ offL 224 M s.2.2) np ⟨rfl, rfl, y1, y2⟩ (by omega) (fun i s hi hI => ?_) (fun s hI => ?_)
      · obtain ⟨y, z, M1⟩ := s
        obtain ⟨rfl, rfl, q1, q2⟩ := hI
        dsimp only at q1 q2 ⊢
        have e4 : M1 (10 + 3 * d) 4 = (dsC (10 + 3 * d) M).2.1 := rb q1 4
        have e2' : M1 (10 + 3 * d) 2 = (np : Int) := (rb q1 2).trans (d4.trans hnp)
        obtain ⟨M2, j', e2, o2, -, -⟩ := way_eq (hu := (dsC (10 + 3 * d) M).2.1) (pl := (i : Int)) h hB hd.2 d1.2.2.2.2.1 d1.2.2.2.2.2.1 (by omega) (by omega) q1.1 q1.2.1 q1.2.2
        have wi : wr ((i : Int) + 1) = ((i + 1 : Nat) : Int) := (wr_i (by omega) (by omega)).trans (by omega)
        unfold dh_hungers_b65 dh_hungers_j97_65
        rw [e2']
        refine Tc_f (by omega) ?_
        rw [e4, wi]
        refine Tc_e e2 ?_
        dsimp only
        have ePi : Q i = hdB M d (qW M d (dsC (10 + 3 * d) M).2.1 i) := by rw [hQ]
        rw [bitsO_S, ← ePi]
        cases hh : Q i with
        | true => exact Tc_f (by simp) (Tc_inl ⟨by rw [if_pos rfl], rfl, q1.L o2, q2.tr o2⟩)
        | false => exact Tc_t (by simp) (Tc_inl ⟨by rw [if_neg (by decide)], rfl, q1.L o2, q2.tr o2⟩)
      · obtain ⟨y, z, M1⟩ := s
        obtain ⟨rfl, rfl, q1, q2⟩ := hI
        have e2' : M1 (10 + 3 * d) 2 = (np : Int) := (rb q1 2).trans (d4.trans hnp)
        unfold dh_hungers_b65
        exact Tc_t (by show M1 (10 + 3 * d) 2 ≤ ((np : Nat) : Int); omega) (Tc_inr ⟨rfl, q2⟩)
    obtain ⟨w2, e2, rfl', y3⟩ := l2
    obtain ⟨bt, w2, M2⟩ := w2
    dsimp only at rfl' y3
    subst rfl'
    refine Tc_e e2 ?_
    dsimp only
    obtain ⟨M3, n1, n2, n3⟩ := newRow_eq M2
    obtain ⟨M4, t1, t2, t3⟩ := tell_eq (bitsO Q np) n2 (by simp)
    refine Tc_e n1 (Tc_e t1 (Tc_some ?_))
    dsimp only
    have c4 : chg [0, 10] M M4 := ((y3.chg (Or.inl rfl)).sub (by decide)).tr (n3.tr t3).chg
    unfold mo_hungers
    have c5 : chg [0, 10] M (up2 M4 278 13 0) := c4.up (by decide)
    refine Tc_u (Tc_f (by rw [moDonkey_y h.S (c5 278 1 (by decide)) hd]; decide) ?_)
    have w55d := w55 (d := d) (by omega)
    have w1 : wr (((55 * d : Nat) : Int) + 1) = ((55 * d + 1 : Nat) : Int) := (wr_i (by omega) (by omega)).trans (by omega)
    have r1 : ∀ {M1 : MEM}, chg [0] (up2 M4 278 13 0) M1 → M1 279 (55 * d + 1) = (dsC (10 + 3 * d) M).1 := fun {M1} c => by
      rw [c 279 _ (by rw [rg_279]; decide), c5 279 _ (by rw [rg_279]; decide)]; exact d3.1.symm
    have r2 : ∀ {M1 : MEM}, chg [0] (up2 M4 278 13 0) M1 → M1 279 (55 * d) = (dsC (10 + 3 * d) M).2.1 := fun {M1} c => by
      rw [c 279 _ (by rw [rg_279]; decide), c5 279 _ (by rw [rg_279]; decide)]; exact d3.2.1.symm
    have l3 : Tc (iter (fun s => mo_hungers_b22 d 0 s.1 s.2.1 s.2.2) FU (0, 0, up2 M4 278 13 0)) (fun r => r.1 = bitsO P 10 ∧ chg [0] (up2 M4 278 13 0) r.2.2 ∧ moF (up2 M4 278 13 0) r.2.2) := by
      refine Tc_n (fun i s => s.1 = bitsO P i ∧ s.2.1 = (i : Int) ∧ chg [0] (up2 M4 278 13 0) s.2.2 ∧ moF (up2 M4 278 13 0) s.2.2) 10 ⟨rfl, rfl, chg.rf, moF.rf⟩ (by omega) (fun i s hi hI => ?_) (fun s hI => ?_)
      · obtain ⟨y, z, M5⟩ := s
        obtain ⟨rfl, rfl, q1, q2⟩ := hI
        dsimp only at q1 q2 ⊢
        obtain ⟨M6, e6, o6, o6', -⟩ := mo_way_eq (hu := (i : Int)) (pl := (dsC (10 + 3 * d) M).1) h hB hd.2 (by omega) (by omega) d1.2.2.1 d1.2.2.2.1 (c5.tr (q1.sub (by decide)))
        have wi : wr ((i : Int) + 1) = ((i + 1 : Nat) : Int) := (wr_i (by omega) (by omega)).trans (by omega)
        unfold mo_hungers_b22 mo_hungers_j59_22
        rw [w55d, w1, toNat_c, r1 q1, wi]
        refine Tc_f (by omega) (Tc_t (by omega) (Tc_e e6 ?_))
        dsimp only
        have ePi : P i = hdB M d (qW M d i (dsC (10 + 3 * d) M).1) := by rw [hP]
        rw [bitsO_S, ← ePi]
        cases hh : P i with
        | true => exact Tc_f (by simp) (Tc_inl ⟨by rw [if_pos rfl], rfl, q1.tr o6, q2.tr o6'⟩)
        | false => exact Tc_t (by simp) (Tc_inl ⟨by rw [if_neg (by decide)]; exact or_z (bitsO_in _ _), rfl, q1.tr o6, q2.tr o6'⟩)
      · obtain ⟨y, z, M5⟩ := s
        obtain ⟨rfl, rfl, q1, q2⟩ := hI
        unfold mo_hungers_b22
        exact Tc_t (by show (10 : Int) ≤ ((10 : Nat) : Int); omega) (Tc_inr ⟨rfl, q1, q2⟩)
    obtain ⟨w3, e3, rfl', y4, y5⟩ := l3
    obtain ⟨bt, w3, M5⟩ := w3
    dsimp only at rfl' y4 y5
    subst rfl'
    refine Tc_e e3 ?_
    dsimp only
    have l4 : Tc (iter (fun s => mo_hungers_b70 d (bitsO P 10) s.1 s.2.1 s.2.2) FU (0, 0, M5)) (fun r => r.1 = bitsO Q np ∧ chg [0] (up2 M4 278 13 0) r.2.2 ∧ moF (up2 M4 278 13 0) r.2.2) := by
      refine Tc_n (fun i s => s.1 = bitsO Q i ∧ s.2.1 = (i : Int) ∧ chg [0] (up2 M4 278 13 0) s.2.2 ∧ moF (up2 M4 278 13 0) s.2.2) np ⟨rfl, rfl, y4, y5⟩ (by omega) (fun i s hi hI => ?_) (fun s hI => ?_)
      · obtain ⟨y, z, M5⟩ := s
        obtain ⟨rfl, rfl, q1, q2⟩ := hI
        dsimp only at q1 q2 ⊢
        obtain ⟨M6, e6, o6, o6', -⟩ := mo_way_eq (hu := (dsC (10 + 3 * d) M).2.1) (pl := (i : Int)) h hB hd.2 d1.2.2.2.2.1 d1.2.2.2.2.2.1 (by omega) (by omega) (c5.tr (q1.sub (by decide)))
        have wi : wr ((i : Int) + 1) = ((i + 1 : Nat) : Int) := (wr_i (by omega) (by omega)).trans (by omega)
        have e280 : M5 280 d = (np : Int) := by rw [(c5.tr (q1.sub (by decide))) 280 d (by decide : 12 ∉ [0, 10])]; exact hnp
        unfold mo_hungers_b70 mo_hungers_j109_70
        rw [w55d, toNat_c, toNat_c, r2 q1, wi, e280]
        refine Tc_t (by omega) (Tc_f (by omega) (Tc_t (by omega) (Tc_e e6 ?_)))
        dsimp only
        have ePi : Q i = hdB M d (qW M d (dsC (10 + 3 * d) M).2.1 i) := by rw [hQ]
        rw [bitsO_S, ← ePi]
        cases hh : Q i with
        | true => exact Tc_f (by simp) (Tc_inl ⟨by rw [if_pos rfl], rfl, q1.tr o6, q2.tr o6'⟩)
        | false => exact Tc_t (by simp) (Tc_inl ⟨by rw [if_neg (by decide)]; exact or_z (bitsO_in _ _), rfl, q1.tr o6, q2.tr o6'⟩)
      · obtain ⟨y, z, M5⟩ := s
        obtain ⟨rfl, rfl, q1, q2⟩ := hI
        dsimp only at q1 q2
        have e280 : M5 280 d = (np : Int) := by rw [(c5.tr (q1.sub (by decide))) 280 d (by decide : 12 ∉ [0, 10])]; exact hnp
        unfold mo_hungers_b70
        dsimp only
        rw [toNat_c]
        exact Tc_t (by omega) (Tc_t (by omega) (Tc_inr ⟨rfl, q1, q2⟩))
    obtain ⟨w4, e4, rfl', y6, y7⟩ := l4
    obtain ⟨bt, w4, M6⟩ := w4
    dsimp only at rfl' y6 y7
    subst rfl'
    refine Tc_e e4 (Tc_u ?_)
    dsimp only
    obtain ⟨r1, r2⟩ := moRow0 M6
    obtain ⟨M7, s1, s2, s3⟩ := moTell_eq (bitsO Q np) r1 (by simp)
    exact Tc_e s1 (Tc_some ⟨rfl, h.go10 ((c5.tr (y6.sub (by decide))).tr (r2.tr s3).chg) (t2.fin (((moF.up (by decide)).tr y7).tr (r2.tr s3).mo) s2 (by simp))⟩)
  · refine Tc_t (isDonkey_n h.S.2.2.1 hd) (Tc_some ?_)
    unfold mo_hungers
    exact Tc_u (Tc_t (moDonkey_n h.S (c3 278 1 (by decide)) hd) (Tc_some ⟨rfl, h.go0 c3⟩))
/-- one way more: how many, the first -/
def wyS (P : Nat → Nat → Bool) (hu pl : Nat) (s : Int × Int) : Int × Int := if P hu pl = true then (s.1 + 1, if s.1 = 0 then 12 * (hu : Int) + pl else s.2) else s
def wyI (P : Nat → Nat → Bool) (hu : Nat) : Nat → Int × Int → Int × Int
  | 0, s => s
  | p + 1, s => wyS P hu p (wyI P hu p s)
def wyO (P : Nat → Nat → Bool) (np : Nat) : Nat → Int × Int
  | 0 => (0, 0)
  | hu + 1 => wyI P hu np (wyO P np hu)
def wyOk (b : Int) (s : Int × Int) : Prop := 0 ≤ s.1 ∧ s.1 ≤ b ∧ 0 ≤ s.2 ∧ s.2 < 120
theorem wyS_ok {P : Nat → Nat → Bool} {hu pl : Nat} {s : Int × Int} {b : Int} (h1 : hu < 10) (h2 : pl < 12) (h : wyOk b s) : wyOk (b + 1) (wyS P hu pl s) := by
  obtain ⟨q1, q2, q3, q4⟩ := h
  unfold wyS
  split
  · refine ⟨?_, ?_, ?_, ?_⟩ <;> dsimp only
    · omega
    · omega
    · split <;> omega
    · split <;> omega
  · exact ⟨q1, by omega, q3, q4⟩
theorem wyI_ok {P : Nat → Nat → Bool} {hu : Nat} {s : Int × Int} {b : Int} (h1 : hu < 10) (h : wyOk b s) : ∀ p : Nat, p ≤ 12 → wyOk (b + p) (wyI P hu p s) := by
  intro p
  induction p with
  | zero => intro _; rw [show b + ((0 : Nat) : Int) = b by omega]; exact h
  | succ p ih =>
    intro hp
    have := wyS_ok (P := P) h1 (show p < 12 by omega) (ih (by omega))
    rw [show b + ((p + 1 : Nat) : Int) = b + p + 1 by omega]
    exact this
theorem wyO_ok {P : Nat → Nat → Bool} {np : Nat} (hnp : np ≤ 12) : ∀ hu : Nat, hu ≤ 10 → wyOk (12 * hu) (wyO P np hu) := by
  intro hu
  induction hu with
  | zero => intro _; exact ⟨Int.le_refl _, Int.le_refl _, Int.le_refl _, (by decide : (0 : Int) < 120)⟩
  | succ hu ih =>
    intro h
    have := wyI_ok (P := P) (show hu < 10 by omega) (ih (by omega)) np hnp
    obtain ⟨q1, q2, q3, q4⟩ := this
    exact ⟨q1, by show (wyI P hu np (wyO P np hu)).1 ≤ _; omega, q3, q4⟩
/-- the ROW of the ways -/
def wyR (s : Int × Int) : List Int := if s.1 = 0 then [] else [s.2 / 12, s.2 % 12]
theorem c_ways {B : Int} {M : MEM} (h : Rel B M) (hB : B ≤ 100000000) (x : Int) : Lk B (dh_ways x M) (mo_ways x) := by
  have nw := now_in h
  have c3 : chg [0] M (up2 M 278 13 0) := chg.rf.up (by decide)
  unfold Lk dh_ways
  by_cases hd : 0 ≤ x ∧ x < M 3 2
  · have hN := h.S.2.2.1
    refine Tc_f (by rw [isDonkey_y h.S.2.2.1 hd.1 hd.2]; decide) ?_
    obtain ⟨d, rfl⟩ : ∃ d : Nat, x = (d : Int) := ⟨x.toNat, by omega⟩
    obtain ⟨d1, d2, d3, d4⟩ := dnk h hB hd.2
    obtain ⟨P, hP⟩ : ∃ P : Nat → Nat → Bool, P = fun hu pl : Nat => hdB M d (qW M d (hu : Int) (pl : Int)) := ⟨_, rfl⟩
    obtain ⟨np, hnp⟩ : ∃ np : Nat, M 280 d = (np : Int) := ⟨(M 280 d).toNat, by have := d1.1; omega⟩
    have hnp12 : np ≤ 12 := by have := d1.2.1; omega
    have rb : ∀ {M1 : MEM}, cE M M1 → ∀ k, M1 (10 + 3 * d) k = M (10 + 3 * d) k := fun {M1} c k => c.1 _ _ (by rcases rg_D12 (a := 10 + 3 * d) (k := k) (by omega) (by omega) with q | q <;> rw [q] <;> decide)
    obtain ⟨M0, n1, n2, n3⟩ := newRow_eq M
    refine Tc_e n1 ?_
    have inner : ∀ (i : Nat) (s0 : Int × Int) (M1 : MEM), i < 10 → wyOk (12 * i) s0 → cE M M1 → rowC (wyR s0) M1 → Tc (iter (fun s => dh_ways_b27 d i s.1 s.2.1 s.2.2) FU (s0.1, 0, M1)) (fun r => r.1 = (wyI P i np s0).1 ∧ cE M r.2.2 ∧ rowC (wyR (wyI P i np s0)) r.2.2) := fun i s0 M1 hi hs0 hc hr => by
      refine Tc_n (fun p s => s.1 = (wyI P i p s0).1 ∧ s.2.1 = (p : Int) ∧ cE M s.2.2 ∧ rowC (wyR (wyI P i p s0)) s.2.2) np ⟨rfl, rfl, hc, hr⟩ (by omega) (fun p s hp hI => ?_) (fun s hI => ?_)
      · obtain ⟨y, z, M2⟩ := s
        obtain ⟨rfl, rfl, q1, q2⟩ := hI
        dsimp only at q1 q2 ⊢
        have hok := wyI_ok (P := P) hi hs0 p (by omega)
        obtain ⟨k1, k2, k3, k4⟩ := hok
        have e2' : M2 (10 + 3 * d) 2 = (np : Int) := (rb q1 2).trans (d4.trans hnp)
        obtain ⟨M3, j', e3, o3, -, -⟩ := way_eq (hu := (i : Int)) (pl := (p : Int)) h hB hd.2 (by omega) (by omega) (by omega) (by omega) q1.1 q1.2.1 q1.2.2
        have wp : wr ((p : Int) + 1) = ((p + 1 : Nat) : Int) := (wr_i (by omega) (by omega)).trans (by omega)
        have hS : wyI P i (p + 1) s0 = wyS P i p (wyI P i p s0) := rfl
        have q2' : rowC (wyR (wyI P i p s0)) M3 := q2.off (by rw [o3.1 0 (by decide) (by decide) (by decide) (by decide) (by decide) (by decide) (by decide)]) (o3.1 245 (by decide) (by decide) (by decide) (by decide) (by decide) (by decide) (by decide))
        have q1' := q1.L o3
        unfold dh_ways_b27 dh_ways_j70_27 dh_ways_j73_27
        rw [toNat_c, e2', wp, hS]
        refine Tc_t (by omega) (Tc_f (by omega) (Tc_e e3 ?_))
        dsimp only
        have ePi : P i p = hdB M d (qW M d i p) := by rw [hP]
        unfold wyS
        rw [← ePi]
        generalize wyI P i p s0 = s1 at *
        cases hh : P i p with
        | false =>
          refine Tc_t (by simp) (Tc_inl ⟨?_, rfl, q1', ?_⟩)
          · rw [if_neg (by decide)]
          · rw [if_neg (by decide)]; exact q2'
        | true =>
          refine Tc_f (by simp) ?_
          rw [if_pos rfl, wr_i (x := s1.1 + 1) (by omega) (by omega)]
          by_cases z : s1.1 = 0
          · refine Tc_t z ?_
            have el : wyR s1 = [] := by unfold wyR; rw [if_pos z]
            rw [el] at q2'
            obtain ⟨M4, t1, t2, t3⟩ := tell_eq (i : Int) q2' (by simp)
            obtain ⟨M5, u1, u2, u3⟩ := tell_eq (p : Int) t2 (by simp)
            refine Tc_e t1 (Tc_e u1 (Tc_inl ⟨rfl, rfl, (q1'.C t3).C u3, ?_⟩))
            dsimp only
            have : wyR (s1.1 + 1, if s1.1 = 0 then 12 * (i : Int) + (p : Int) else s1.2) = [] ++ [(i : Int)] ++ [(p : Int)] := by
              unfold wyR
              dsimp only
              rw [if_neg (by omega), if_pos z, show (12 * (i : Int) + p) / 12 = i by omega, show (12 * (i : Int) + p) % 12 = p by omega]
              rfl
            rw [this]
            exact u2
          · refine Tc_f z (Tc_inl ⟨rfl, rfl, q1', ?_⟩)
            dsimp only
            have : wyR (s1.1 + 1, if s1.1 = 0 then 12 * (i : Int) + (p : Int) else s1.2) = wyR s1 := by
              unfold wyR
              dsimp only
              rw [if_neg (by omega), if_neg z, if_neg z]
            rw [this]
            exact q2'
      · obtain ⟨y, z, M2⟩ := s
        obtain ⟨rfl, rfl, q1, q2⟩ := hI
        have e2' : M2 (10 + 3 * d) 2 = (np : Int) := (rb q1 2).trans (d4.trans hnp)
        unfold dh_ways_b27
        dsimp only
        rw [toNat_c]
        exact Tc_t (by omega) (Tc_t (by omega) (Tc_inr ⟨rfl, q1, q2⟩))
    have l1 : Tc (iter (fun s => dh_ways_b18 d s.1 s.2.1 s.2.2) FU (0, 0, M0)) (fun r => r.1 = (wyO P np 10).1 ∧ cE M r.2.2 ∧ rowC (wyR (wyO P np 10)) r.2.2) := by
      refine Tc_n (fun i s => s.1 = (wyO P np i).1 ∧ s.2.1 = (i : Int) ∧ cE M s.2.2 ∧ rowC (wyR (wyO P np i)) s.2.2) 10 ⟨rfl, rfl, (cE.rf h).C n3, n2⟩ (by omega) (fun i s hi hI => ?_) (fun s hI => ?_)
      · obtain ⟨y, z, M1⟩ := s
        obtain ⟨rfl, rfl, q1, q2⟩ := hI
        dsimp only at q1 q2 ⊢
        have wi : wr ((i : Int) + 1) = ((i + 1 : Nat) : Int) := (wr_i (by omega) (by omega)).trans (by omega)
        unfold dh_ways_b18
        refine Tc_f (by omega) (Tc_c (inner i _ M1 hi (wyO_ok hnp12 i (by omega)) q1 q2) (fun r hr => ?_))
        rw [wi]
        exact Tc_inl ⟨hr.1, rfl, hr.2.1, hr.2.2⟩
      · obtain ⟨y, z, M1⟩ := s
        obtain ⟨rfl, rfl, q1, q2⟩ := hI
        unfold dh_ways_b18
        exact Tc_t (by show (10 : Int) ≤ ((10 : Nat) : Int); omega) (Tc_inr ⟨rfl, q1, q2⟩)
    obtain ⟨w1, e1, rfl', y1, y2⟩ := l1
    obtain ⟨bt, w1, M1⟩ := w1
    dsimp only at rfl' y1 y2
    subst rfl'
    refine Tc_e e1 (Tc_some ?_)
    dsimp only
    have c4 := y1.1
    unfold mo_ways
    have c5 : chg [0, 10] M (up2 M1 278 13 0) := c4.up (by decide)
    refine Tc_u (Tc_f (by rw [moDonkey_y h.S (c5 278 1 (by decide)) hd]; decide) ?_)
    have inner2 : ∀ (i : Nat) (s0 : Int × Int) (M2 : MEM), i < 10 → wyOk (12 * i) s0 → chg [0] (up2 M1 278 13 0) M2 → moF (up2 M1 278 13 0) M2 → Tc (iter (fun s => mo_ways_b32 d i s.1 s.2.1 s.2.2.1 s.2.2.2) FU (s0.1, s0.2, 0, M2)) (fun r => r.1 = (wyI P i np s0).1 ∧ r.2.1 = (wyI P i np s0).2 ∧ chg [0] (up2 M1 278 13 0) r.2.2.2 ∧ moF (up2 M1 278 13 0) r.2.2.2) := fun i s0 M2 hi hs0 hc hm => by
      refine Tc_n (fun p s => s.1 = (wyI P i p s0).1 ∧ s.2.1 = (wyI P i p s0).2 ∧ s.2.2.1 = (p : Int) ∧ chg [0] (up2 M1 278 13 0) s.2.2.2 ∧ moF (up2 M1 278 13 0) s.2.2.2) np ⟨rfl, rfl, rfl, hc, hm⟩ (by omega) (fun p s hp hI => ?_) (fun s hI => ?_)
      · obtain ⟨y, y', z, M3⟩ := s
        obtain ⟨rfl, rfl, rfl, q1, q2⟩ := hI
        dsimp only at q1 q2 ⊢
        have hok := wyI_ok (P := P) hi hs0 p (by omega)
        obtain ⟨k1, k2, k3, k4⟩ := hok
        have cc := c5.tr (q1.sub (by decide))
        have e280 : M3 280 d = (np : Int) := by rw [cc 280 d (by decide : 12 ∉ [0, 10])]; exact hnp
        obtain ⟨M4, e4, o4, o4', -⟩ := mo_way_eq (hu := (i : Int)) (pl := (p : Int)) h hB hd.2 (by omega) (by omega) (by omega) (by omega) cc
        have wp : wr ((p : Int) + 1) = ((p + 1 : Nat) : Int) := (wr_i (by omega) (by omega)).trans (by omega)
        have hS : wyI P i (p + 1) s0 = wyS P i p (wyI P i p s0) := rfl
        unfold mo_ways_b32 mo_ways_j71_32 mo_ways_j74_32
        rw [toNat_c, e280, wp, hS]
        refine Tc_t (by omega) (Tc_f (by omega) (Tc_e e4 ?_))
        dsimp only
        have ePi : P i p = hdB M d (qW M d i p) := by rw [hP]
        unfold wyS
        rw [← ePi]
        generalize wyI P i p s0 = s1 at *
        cases hh : P i p with
        | false =>
          refine Tc_t (by simp) (Tc_inl ⟨?_, ?_, rfl, q1.tr o4, q2.tr o4'⟩)
          · rw [if_neg (by decide)]
          · rw [if_neg (by decide)]
        | true =>
          refine Tc_f (by simp) ?_
          rw [if_pos rfl, wr_i (x := s1.1 + 1) (by omega) (by omega), wr_i (x := 12 * (i : Int)) (by omega) (by omega), wr_i (x := 12 * (i : Int) + p) (by omega) (by omega)]
          by_cases z : s1.1 = 0
          · refine Tc_t z (Tc_inl ⟨rfl, ?_, rfl, q1.tr o4, q2.tr o4'⟩)
            dsimp only
            rw [if_pos z]
          · refine Tc_f z (Tc_inl ⟨rfl, ?_, rfl, q1.tr o4, q2.tr o4'⟩)
            dsimp only
            rw [if_neg z]
      · obtain ⟨y, y', z, M3⟩ := s
        obtain ⟨rfl, rfl, rfl, q1, q2⟩ := hI
        dsimp only at q1 q2
        have e280 : M3 280 d = (np : Int) := by rw [(c5.tr (q1.sub (by decide))) 280 d (by decide : 12 ∉ [0, 10])]; exact hnp
        unfold mo_ways_b32
        dsimp only
        rw [toNat_c]
        exact Tc_t (by omega) (Tc_t (by omega) (Tc_inr ⟨rfl, rfl, q1, q2⟩))
    have l2 : Tc (iter (fun s => mo_ways_b22 d s.1 s.2.1 s.2.2.1 s.2.2.2) FU (0, 0, 0, up2 M1 278 13 0)) (fun r => r.1 = (wyO P np 10).1 ∧ r.2.1 = (wyO P np 10).2 ∧ chg [0] (up2 M1 278 13 0) r.2.2.2 ∧ moF (up2 M1 278 13 0) r.2.2.2) := by
      refine Tc_n (fun i s => s.1 = (wyO P np i).1 ∧ s.2.1 = (wyO P np i).2 ∧ s.2.2.1 = (i : Int) ∧ chg [0] (up2 M1 278 13 0) s.2.2.2 ∧ moF (up2 M1 278 13 0) s.2.2.2) 10 ⟨rfl, rfl, rfl, chg.rf, moF.rf⟩ (by omega) (fun i s hi hI => ?_) (fun s hI => ?_)
      · obtain ⟨y, y', z, M2⟩ := s
        obtain ⟨rfl, rfl, rfl, q1, q2⟩ := hI
        dsimp only at q1 q2 ⊢
        have wi : wr ((i : Int) + 1) = ((i + 1 : Nat) : Int) := (wr_i (by omega) (by omega)).trans (by omega)
        unfold mo_ways_b22
        refine Tc_f (by omega) (Tc_c (inner2 i _ M2 hi (wyO_ok hnp12 i (by omega)) q1 q2) (fun r hr => ?_))
        rw [wi]
        exact Tc_inl ⟨hr.1, hr.2.1, rfl, hr.2.2.1, hr.2.2.2⟩
      · obtain ⟨y, y', z, M2⟩ := s
        obtain ⟨rfl, rfl, rfl, q1, q2⟩ := hI
        unfold mo_ways_b22
        exact Tc_t (by show (10 : Int) ≤ ((10 : Nat) : Int); omega) (Tc_inr ⟨rfl, rfl, q1, q2⟩)
    obtain ⟨w2, e2, rfl', rfl'', y3, y4⟩ := l2
    obtain ⟨bt, bo, w2, M2⟩ := w2
    dsimp only at rfl' rfl'' y3 y4
    subst rfl' rfl''
    refine Tc_e e2 (Tc_u ?_)
    dsimp only
    obtain ⟨r1, r2⟩ := moRow0 M2
    obtain ⟨k1, k2, k3, k4⟩ := wyO_ok (P := P) hnp12 10 (Nat.le_refl _)
    generalize wyO P np 10 = s1 at *
    have cc := c5.tr (y3.sub (by decide))
    have mm : moF M1 M2 := (moF.up (by decide)).tr y4
    by_cases z : s1.1 = 0
    · refine Tc_t (by omega) (Tc_some ⟨rfl, h.go10 (cc.tr r2.chg) (y2.fin (mm.tr r2.mo) ?_ ?_)⟩)
      · unfold wyR; rw [if_pos z]; exact r1
      · unfold wyR; rw [if_pos z]; simp
    · have w12 : wr (Int.tdiv s1.2 12) = s1.2 / 12 := by rw [Int.tdiv_eq_ediv_of_nonneg k3]; exact wr_i (by omega) (by omega)
      rw [w12, tmod_nn k3]
      obtain ⟨M3, t1, t2, t3⟩ := moTell_eq (s1.2 / 12) r1 (by simp)
      obtain ⟨M4, u1, u2, u3⟩ := moTell_eq (s1.2 % 12) t2 (by simp)
      refine Tc_f (by omega) (Tc_e t1 (Tc_e u1 (Tc_some ⟨rfl, h.go10 (cc.tr ((r2.tr t3).tr u3).chg) (y2.fin (mm.tr ((r2.tr t3).tr u3).mo) ?_ ?_)⟩)))
      · unfold wyR; rw [if_neg z]; exact u2
      · unfold wyR; rw [if_neg z]; simp
  · refine Tc_t (isDonkey_n h.S.2.2.1 hd) (Tc_some ?_)
    unfold mo_ways
    exact Tc_u (Tc_t (moDonkey_n h.S (c3 278 1 (by decide)) hd) (Tc_some ⟨rfl, h.go0 c3⟩))
