-- ===== span, swarms =====
/-- behind which MINUTE the k-th STROKE has come, of J; -1: in none -/
def tmN (T : Nat → DS) (k : Int) : Nat → Int
  | 0 => -1
  | j + 1 => if 0 ≤ tmN T k j then tmN T k j else if k ≤ cnt T (j + 1) then (j : Int) + 1 else -1
theorem tmN_S (T : Nat → DS) (k : Int) (j : Nat) : tmN T k (j + 1) = if 0 ≤ tmN T k j then tmN T k j else if k ≤ cnt T (j + 1) then (j : Int) + 1 else -1 := rfl
theorem tmN_none {T : Nat → DS} {k : Int} {J : Nat} (hst : stk T J) : ∀ j, j ≤ J → cnt T j < k → tmN T k j = -1 := by
  intro j
  induction j with
  | zero => intro _ _; rfl
  | succ j ih =>
    intro hj hk
    have := (cnt_mono hst (show j ≤ j + 1 by omega) hj).1
    rw [tmN_S, ih (by omega) (by omega), if_neg (by decide), if_neg (by omega)]
theorem tmN_at {T : Nat → DS} {k : Int} {J : Nat} {u : Nat} (hst : stk T J) (h1 : cnt T u < k) (h2 : k ≤ cnt T (u + 1)) : ∀ j, u < j → j ≤ J → tmN T k j = (u : Int) + 1 := by
  intro j
  induction j with
  | zero => intro h; omega
  | succ j ih =>
    intro h hj
    rw [tmN_S]
    by_cases e : u = j
    · subst e
      rw [tmN_none hst u (by omega) h1, if_neg (by decide), if_pos h2]
    · rw [ih (by omega) (by omega), if_pos (by omega)]
theorem tmN_eq {T : Nat → DS} {k r : Int} (hst : stk T 1000000) (hk : 1 ≤ k) (hr : (k ≤ cnt T 600 ∧ ∃ v, isT T v (k - 1).toNat ∧ 0 ≤ v ∧ v < 600 ∧ r = v + 1) ∨ (cnt T 600 < k ∧ r = -1)) : r = tmN T k 600 := by
  rcases hr with ⟨h1, v, ⟨u, rfl, u1, u2⟩, h3, h4, rfl⟩ | ⟨h1, rfl⟩
  · rw [tmN_at (u := u) hst (by omega) (by omega) 600 (by omega) (by omega)]
  · rw [tmN_none hst 600 (by omega) h1]
/-- by the MINUTES of the reference -/
theorem tmN_times {T : Nat → DS} {k : Int} {M : MEM} (hst : stk T 1000000) (hk : 1 ≤ k) (g3 : M 278 38 = cnt T 600) (g4 : ∀ i : Nat, (i : Int) < cnt T 600 → isT T (M 293 i) i ∧ M 293 i < 600) : (k ≤ M 278 38 ∧ tmN T k 600 = M 293 (k - 1).toNat + 1 ∧ 0 ≤ M 293 (k - 1).toNat ∧ M 293 (k - 1).toNat < 600) ∨ (M 278 38 < k ∧ tmN T k 600 = -1) := by
  rw [g3]
  by_cases h : k ≤ cnt T 600
  · obtain ⟨z1, z2⟩ := g4 (k - 1).toNat (by omega)
    have z0 := times_in g4 (i := (k - 1).toNat) (by omega)
    refine Or.inl ⟨h, (tmN_eq hst hk (Or.inl ⟨h, _, z1, z0.1, z2, rfl⟩)).symm, z0⟩
  · exact Or.inr ⟨by omega, tmN_none hst 600 (by omega) (by omega)⟩
/-- the earliest, the latest, how many -/
def spS (V : Nat → Nat → Int) (hu pl : Nat) (s : Int × Int × Int) : Int × Int × Int := if V hu pl < 0 then s else (min s.1 (V hu pl), max s.2.1 (V hu pl), s.2.2 + 1)
def spI (V : Nat → Nat → Int) (hu : Nat) : Nat → Int × Int × Int → Int × Int × Int
  | 0, s => s
  | p + 1, s => spS V hu p (spI V hu p s)
def spO (V : Nat → Nat → Int) (np : Nat) : Nat → Int × Int × Int
  | 0 => (1000000, 0, 0)
  | hu + 1 => spI V hu np (spO V np hu)
def spOk (b : Int) (s : Int × Int × Int) : Prop := 0 ≤ s.2.2 ∧ s.2.2 ≤ b ∧ (s.2.2 = 0 → s = (1000000, 0, 0)) ∧ 0 ≤ s.1 ∧ s.1 ≤ 1000000 ∧ 0 ≤ s.2.1 ∧ s.2.1 ≤ 600
theorem spS_ok {V : Nat → Nat → Int} {hu pl : Nat} {s : Int × Int × Int} {b : Int} (hV : V hu pl ≤ 600) (h : spOk b s) : spOk (b + 1) (spS V hu pl s) := by
  obtain ⟨q1, q2, q3, q4, q5, q6, q7⟩ := h
  unfold spS
  split
  · exact ⟨q1, by omega, q3, q4, q5, q6, q7⟩
  · refine ⟨?_, ?_, ?_, ?_, ?_, ?_, ?_⟩ <;> dsimp only <;> omega
theorem spI_ok {V : Nat → Nat → Int} (hV : ∀ a b, V a b ≤ 600) {hu : Nat} {s : Int × Int × Int} {b : Int} (h : spOk b s) : ∀ p : Nat, spOk (b + p) (spI V hu p s) := by
  intro p
  induction p with
  | zero => rw [show b + ((0 : Nat) : Int) = b by omega]; exact h
  | succ p ih =>
    have := spS_ok (hV hu p) ih
    rw [show b + ((p + 1 : Nat) : Int) = b + p + 1 by omega]
    exact this
theorem spO_ok {V : Nat → Nat → Int} (hV : ∀ a b, V a b ≤ 600) {np : Nat} (hnp : np ≤ 12) : ∀ hu : Nat, spOk (12 * hu) (spO V np hu) := by
  intro hu
  induction hu with
  | zero => exact ⟨Int.le_refl _, Int.le_refl _, fun _ => rfl, (by decide : (0 : Int) ≤ 1000000), (by decide : (1000000 : Int) ≤ 1000000), (by decide : (0 : Int) ≤ 0), (by decide : (0 : Int) ≤ 600)⟩
  | succ hu ih =>
    have := spI_ok hV (hu := hu) ih np
    obtain ⟨q1, q2, q3⟩ := this
    exact ⟨q1, by show (spI V hu np (spO V np hu)).2.2 ≤ _; omega, q3⟩
theorem tmN_le (T : Nat → DS) (k : Int) : ∀ j, -1 ≤ tmN T k j ∧ tmN T k j ≤ j := by
  intro j
  induction j with
  | zero => exact ⟨Int.le_refl _, by show (-1 : Int) ≤ _; omega⟩
  | succ j ih =>
    rw [tmN_S]
    split
    · omega
    · split <;> omega
/-- how the class holds it -/
def spC (s : Int × Int × Int) : Int × Int := if s.2.2 = 0 then (-1, -1) else (s.1, s.2.1)
theorem c_span {B : Int} {M : MEM} (h : Rel B M) (hB : B ≤ 100000000) (x k : Int) : Lk B (dh_span x k M) (mo_span x k) := by
  have nw := now_in h
  have c3 : chg [0] M (up2 M 278 13 0) := chg.rf.up (by decide)
  unfold Lk dh_span
  by_cases hd : 0 ≤ x ∧ x < M 3 2
  · have hN := h.S.2.2.1
    refine Tc_f (by rw [isDonkey_y h.S.2.2.1 hd.1 hd.2]; decide) ?_
    by_cases hk : 1 ≤ k ∧ k ≤ 60
    · refine Tc_f (by rw [asked_y hk]; decide) ?_
      obtain ⟨d, rfl⟩ : ∃ d : Nat, x = (d : Int) := ⟨x.toNat, by omega⟩
      obtain ⟨d1, d2, d3, d4⟩ := dnk h hB hd.2
      obtain ⟨V, hV⟩ : ∃ V : Nat → Nat → Int, V = fun hu pl : Nat => if hdB M d (qW M d (hu : Int) (pl : Int)) = true then tmN (qW M d (hu : Int) (pl : Int)) k 600 else -1 := ⟨_, rfl⟩
      have hVb : ∀ a b, -1 ≤ V a b ∧ V a b ≤ 600 := fun a b => by
        rw [hV]; dsimp only
        have := tmN_le (qW M d a b) k 600
        split <;> omega
      obtain ⟨np, hnp⟩ : ∃ np : Nat, M 280 d = (np : Int) := ⟨(M 280 d).toNat, by have := d1.1; omega⟩
      have hnp12 : np ≤ 12 := by have := d1.2.1; omega
      have rb : ∀ {M1 : MEM}, cE M M1 → ∀ k, M1 (10 + 3 * d) k = M (10 + 3 * d) k := fun {M1} c k => c.1 _ _ (by rcases rg_D12 (a := 10 + 3 * d) (k := k) (by omega) (by omega) with q | q <;> rw [q] <;> decide)
      have inner : ∀ (i : Nat) (s0 : Int × Int × Int) (M1 : MEM), i < 10 → spOk (12 * i) s0 → cE M M1 → offL 224 M M1 → Tc (iter (fun s => dh_span_b38 d k i s.1 s.2.1 s.2.2.1 s.2.2.2.1 s.2.2.2.2) FU ((spC s0).1, (spC s0).2, s0.2.2, 0, M1)) (fun r => r.1 = (spC (spI V i np s0)).1 ∧ r.2.1 = (spC (spI V i np s0)).2 ∧ r.2.2.1 = (spI V i np s0).2.2 ∧ cE M r.2.2.2.2 ∧ offL 224 M r.2.2.2.2) := fun i s0 M1 hi hs0 hc ho => by
        refine Tc_n (fun p s => s.1 = (spC (spI V i p s0)).1 ∧ s.2.1 = (spC (spI V i p s0)).2 ∧ s.2.2.1 = (spI V i p s0).2.2 ∧ s.2.2.2.1 = (p : Int) ∧ cE M s.2.2.2.2 ∧ offL 224 M s.2.2.2.2) np ⟨rfl, rfl, rfl, rfl, hc, ho⟩ (by omega) (fun p s hp hI => ?_) (fun s hI => ?_)
        · obtain ⟨y, y', y'', z, M2⟩ := s
          obtain ⟨rfl, rfl, rfl, rfl, q1, q2⟩ := hI
          dsimp only at q1 q2 ⊢
          have hok := spI_ok (fun a b => (hVb a b).2) (hu := i) hs0 p
          have e2' : M2 (10 + 3 * d) 2 = (np : Int) := (rb q1 2).trans (d4.trans hnp)
          obtain ⟨s1, s2, s3⟩ := qW_ok (hu := (i : Int)) (pl := (p : Int)) h hB hd.2 (by omega) (by omega) (by omega) (by omega)
          obtain ⟨M3, j', e3, o3, hj, f3⟩ := way_eq (hu := (i : Int)) (pl := (p : Int)) h hB hd.2 (by omega) (by omega) (by omega) (by omega) q1.1 q1.2.1 q1.2.2
          have wp : wr ((p : Int) + 1) = ((p + 1 : Nat) : Int) := (wr_i (by omega) (by omega)).trans (by omega)
          have hS : spI V i (p + 1) s0 = spS V i p (spI V i p s0) := rfl
          have eV : V i p = if hdB M d (qW M d i p) = true then tmN (qW M d i p) k 600 else -1 := by rw [hV]
          have hVp := hVb i p
          unfold dh_span_b38
          rw [toNat_c, e2', hS]
          refine Tc_t (by omega) (Tc_f (by omega) (Tc_e e3 ?_))
          dsimp only
          generalize spI V i p s0 = t1 at *
          obtain ⟨k1, k2, k3, k4, k5, k6, k7⟩ := hok
          have tail : ∀ M4 : MEM, offL 224 M3 M4 → Tc (dh_span_j79_38 d k (spC t1).1 (spC t1).2 t1.2.2 i p (V i p) M4) (fun r => ∃ s', r = .inl s' ∧ (s'.1 = (spC (spS V i p t1)).1 ∧ s'.2.1 = (spC (spS V i p t1)).2 ∧ s'.2.2.1 = (spS V i p t1).2.2 ∧ s'.2.2.2.1 = ((p + 1 : Nat) : Int) ∧ cE M s'.2.2.2.2 ∧ offL 224 M s'.2.2.2.2)) := fun M4 o4 => by
            unfold dh_span_j79_38 dh_span_j102_38 dh_span_j115_38 spS
            rw [wp]
            by_cases v : V i p < 0
            · refine Tc_t v (Tc_inl ⟨?_, ?_, ?_, rfl, (q1.L o3).L o4, (q2.tr o3).tr o4⟩) <;> dsimp only <;> rw [if_pos v]
            · rw [wr_i (x := t1.2.2 + 1) (by omega) (by omega)]
              refine Tc_f v ?_
              by_cases z : t1.2.2 = 0
              · have e1 := k3 z
                refine Tc_t z (Tc_inl ⟨?_, ?_, ?_, rfl, (q1.L o3).L o4, (q2.tr o3).tr o4⟩)
                · dsimp only
                  rw [if_neg v]
                  unfold spC
                  dsimp only
                  rw [if_neg (by omega), e1]
                  dsimp only
                  omega
                · dsimp only
                  rw [if_neg v]
                  unfold spC
                  dsimp only
                  rw [if_pos z, if_neg (by omega), e1]
                  dsimp only
                  omega
                · dsimp only
                  rw [if_neg v]
              · refine Tc_f z (Tc_inl ⟨?_, ?_, ?_, rfl, (q1.L o3).L o4, (q2.tr o3).tr o4⟩)
                · dsimp only
                  rw [if_neg v]
                  unfold spC
                  dsimp only
                  rw [if_neg z, if_neg (by omega)]
                · dsimp only
                  rw [if_neg v]
                  unfold spC
                  dsimp only
                  rw [if_neg z, if_neg (by omega)]
                · dsimp only
                  rw [if_neg v]
          cases hh : hdB M d (qW M d i p) with
          | false =>
            rw [hh, if_neg (by decide)] at eV
            refine Tc_t (by simp) ?_
            rw [← eV]
            exact tail M3 offL.rf
          | true =>
            rw [hh, if_pos rfl] at eV
            obtain ⟨r, M4, j'', e4, o4, -, -, -, hr⟩ := after_eq (Or.inl rfl) s1 s2 nw.1 (by omega) hj hk.1 (by omega) f3
            have er : r = V i p := (tmN_eq s3 hk.1 hr).trans eV.symm
            refine Tc_f (by simp) (Tc_e e4 ?_)
            dsimp only
            rw [er]
            exact tail M4 o4.L
        · obtain ⟨y, y', y'', z, M2⟩ := s
          obtain ⟨rfl, rfl, rfl, rfl, q1, q2⟩ := hI
          have e2' : M2 (10 + 3 * d) 2 = (np : Int) := (rb q1 2).trans (d4.trans hnp)
          unfold dh_span_b38
          dsimp only
          rw [toNat_c]
          exact Tc_t (by omega) (Tc_t (by omega) (Tc_inr ⟨rfl, rfl, rfl, q1, q2⟩))
      have l1 : Tc (iter (fun s => dh_span_b28 d k s.1 s.2.1 s.2.2.1 s.2.2.2.1 s.2.2.2.2) FU (-1, -1, 0, 0, M)) (fun r => r.1 = (spC (spO V np 10)).1 ∧ r.2.1 = (spC (spO V np 10)).2 ∧ r.2.2.1 = (spO V np 10).2.2 ∧ offL 224 M r.2.2.2.2) := by
        refine Tc_n (fun i s => s.1 = (spC (spO V np i)).1 ∧ s.2.1 = (spC (spO V np i)).2 ∧ s.2.2.1 = (spO V np i).2.2 ∧ s.2.2.2.1 = (i : Int) ∧ cE M s.2.2.2.2 ∧ offL 224 M s.2.2.2.2) 10 ⟨rfl, rfl, rfl, rfl, cE.rf h, offL.rf⟩ (by omega) (fun i s hi hI => ?_) (fun s hI => ?_)
        · obtain ⟨y, y', y'', z, M1⟩ := s
          obtain ⟨rfl, rfl, rfl, rfl, q1, q2⟩ := hI
          dsimp only at q1 q2 ⊢
          have wi : wr ((i : Int) + 1) = ((i + 1 : Nat) : Int) := (wr_i (by omega) (by omega)).trans (by omega)
          unfold dh_span_b28
          refine Tc_f (by omega) (Tc_c (inner i _ M1 hi (spO_ok (fun a b => (hVb a b).2) hnp12 i) q1 q2) (fun r hr => ?_))
          rw [wi]
          exact Tc_inl ⟨hr.1, hr.2.1, hr.2.2.1, rfl, hr.2.2.2.1, hr.2.2.2.2⟩
        · obtain ⟨y, y', y'', z, M1⟩ := s
          obtain ⟨rfl, rfl, rfl, rfl, q1, q2⟩ := hI
          unfold dh_span_b28
          exact Tc_t (by show (10 : Int) ≤ ((10 : Nat) : Int); omega) (Tc_inr ⟨rfl, rfl, rfl, q2⟩)
      -- the reference
      have mo : ∀ M1 : MEM, chg [0, 10] M M1 → Tc (iter (fun s => mo_span_b38 d k s.1 s.2.1 s.2.2.1 s.2.2.2.1 s.2.2.2.2) FU (1000000, 0, 0, 0, M1)) (fun r => r.1 = (spO V np 10).1 ∧ r.2.1 = (spO V np 10).2.1 ∧ r.2.2.1 = (spO V np 10).2.2 ∧ chg [0] M1 r.2.2.2.2 ∧ moF M1 r.2.2.2.2) := fun M1 c1 => by
        have inner2 : ∀ (i : Nat) (s0 : Int × Int × Int) (M2 : MEM), i < 10 → spOk (12 * i) s0 → chg [0] M1 M2 → moF M1 M2 → Tc (iter (fun s => mo_span_b48 d k i s.1 s.2.1 s.2.2.1 s.2.2.2.1 s.2.2.2.2) FU (s0.1, s0.2.1, s0.2.2, 0, M2)) (fun r => r.1 = (spI V i np s0).1 ∧ r.2.1 = (spI V i np s0).2.1 ∧ r.2.2.1 = (spI V i np s0).2.2 ∧ chg [0] M1 r.2.2.2.2 ∧ moF M1 r.2.2.2.2) := fun i s0 M2 hi hs0 hc hm => by
          refine Tc_n (fun p s => s.1 = (spI V i p s0).1 ∧ s.2.1 = (spI V i p s0).2.1 ∧ s.2.2.1 = (spI V i p s0).2.2 ∧ s.2.2.2.1 = (p : Int) ∧ chg [0] M1 s.2.2.2.2 ∧ moF M1 s.2.2.2.2) np ⟨rfl, rfl, rfl, rfl, hc, hm⟩ (by omega) (fun p s hp hI => ?_) (fun s hI => ?_)
          · obtain ⟨y, y', y'', z, M3⟩ := s
            obtain ⟨rfl, rfl, rfl, rfl, q1, q2⟩ := hI
            dsimp only at q1 q2 ⊢
            have hok := spI_ok (fun a b => (hVb a b).2) (hu := i) hs0 p
            have cc := c1.tr (q1.sub (by decide))
            have e280 : M3 280 d = (np : Int) := by rw [cc 280 d (by decide : 12 ∉ [0, 10])]; exact hnp
            obtain ⟨s1, s2, s3⟩ := qW_ok (hu := (i : Int)) (pl := (p : Int)) h hB hd.2 (by omega) (by omega) (by omega) (by omega)
            obtain ⟨M4, e4, o4, o4', g3, g4⟩ := mo_way_eq (hu := (i : Int)) (pl := (p : Int)) h hB hd.2 (by omega) (by omega) (by omega) (by omega) cc
            have wp : wr ((p : Int) + 1) = ((p + 1 : Nat) : Int) := (wr_i (by omega) (by omega)).trans (by omega)
            have hS : spI V i (p + 1) s0 = spS V i p (spI V i p s0) := rfl
            have eV : V i p = if hdB M d (qW M d i p) = true then tmN (qW M d i p) k 600 else -1 := by rw [hV]
            have ht := tmN_times s3 hk.1 g3 g4
            unfold mo_span_b48 mo_span_j117_48
            rw [toNat_c, wp, hS]
            refine Tc_t (by omega) (Tc_f (by omega) (Tc_e e4 ?_))
            dsimp only
            generalize spI V i p s0 = t1 at *
            obtain ⟨k1, k2, k3, k4, k5, k6, k7⟩ := hok
            unfold spS
            cases hh : hdB M d (qW M d i p) with
            | false =>
              rw [hh, if_neg (by decide)] at eV
              refine Tc_t (by simp) (Tc_inl ⟨?_, ?_, ?_, rfl, q1.tr o4, q2.tr o4'⟩) <;> dsimp only <;> rw [if_pos (by omega)]
            | true =>
              rw [hh, if_pos rfl] at eV
              refine Tc_f (by simp) ?_
              rcases ht with ⟨z1, z2, z3, z4⟩ | ⟨z1, z2⟩
              · rw [wr_i (x := k - 1) (by omega) (by omega), wr_i (x := M4 293 (k - 1).toNat + 1) (by omega) (by omega), wr_i (x := t1.2.2 + 1) (by omega) (by omega), ← z2, ← eV]
                refine Tc_t z1 (Tc_t (by omega) (Tc_t (by omega) (Tc_inl ⟨?_, ?_, ?_, rfl, q1.tr o4, q2.tr o4'⟩))) <;> dsimp only <;> rw [if_neg (by omega)]
              · refine Tc_f (by omega) (Tc_inl ⟨?_, ?_, ?_, rfl, q1.tr o4, q2.tr o4'⟩) <;> dsimp only <;> rw [if_pos (by omega)]
          · obtain ⟨y, y', y'', z, M3⟩ := s
            obtain ⟨rfl, rfl, rfl, rfl, q1, q2⟩ := hI
            dsimp only at q1 q2
            have e280 : M3 280 d = (np : Int) := by rw [(c1.tr (q1.sub (by decide))) 280 d (by decide : 12 ∉ [0, 10])]; exact hnp
            unfold mo_span_b48
            dsimp only
            rw [toNat_c]
            exact Tc_t (by omega) (Tc_t (by omega) (Tc_inr ⟨rfl, rfl, rfl, q1, q2⟩))
        refine Tc_n (fun i s => s.1 = (spO V np i).1 ∧ s.2.1 = (spO V np i).2.1 ∧ s.2.2.1 = (spO V np i).2.2 ∧ s.2.2.2.1 = (i : Int) ∧ chg [0] M1 s.2.2.2.2 ∧ moF M1 s.2.2.2.2) 10 ⟨rfl, rfl, rfl, rfl, chg.rf, moF.rf⟩ (by omega) (fun i s hi hI => ?_) (fun s hI => ?_)
        · obtain ⟨y, y', y'', z, M2⟩ := s
          obtain ⟨rfl, rfl, rfl, rfl, q1, q2⟩ := hI
          dsimp only at q1 q2 ⊢
          have wi : wr ((i : Int) + 1) = ((i + 1 : Nat) : Int) := (wr_i (by omega) (by omega)).trans (by omega)
          unfold mo_span_b38
          refine Tc_f (by omega) (Tc_c (inner2 i _ M2 hi (spO_ok (fun a b => (hVb a b).2) hnp12 i) q1 q2) (fun r hr => ?_))
          rw [wi]
          exact Tc_inl ⟨hr.1, hr.2.1, hr.2.2.1, rfl, hr.2.2.2.1, hr.2.2.2.2⟩
        · obtain ⟨y, y', y'', z, M2⟩ := s
          obtain ⟨rfl, rfl, rfl, rfl, q1, q2⟩ := hI
          unfold mo_span_b38
          exact Tc_t (by show (10 : Int) ≤ ((10 : Nat) : Int); omega) (Tc_inr ⟨rfl, rfl, rfl, q1, q2⟩)
      obtain ⟨w1, e1, a1, a2, a3, y1⟩ := l1
      obtain ⟨b1, b2, b3, w1, M1⟩ := w1
      dsimp only at a1 a2 a3 y1
      subst a1 a2 a3
      refine Tc_e e1 ?_
      dsimp only
      have hok := spO_ok (fun a b => (hVb a b).2) hnp12 10
      obtain ⟨k1, k2, k3, k4, k5, k6, k7⟩ := hok
      by_cases z : (spO V np 10).2.2 = 0
      · refine Tc_t z (Tc_some ?_)
        dsimp only
        unfold mo_span
        have c4 : chg [0] M (up2 M1 278 13 0) := (y1.chg (Or.inl rfl)).up (by decide)
        refine Tc_u (Tc_f (by rw [moDonkey_y h.S (c4 278 1 (by decide)) hd]; decide) (Tc_f (by rw [moIn_y hk]; decide) ?_))
        rw [show (1000000 : Int) - 0 = 1000000 from rfl]
        refine Tc_c (mo _ (c4.sub (by decide))) (fun r hr => ?_)
        obtain ⟨r1, r2, r3, r4, r5⟩ := hr
        exact Tc_t (by omega) (Tc_some ⟨rfl, h.go0 (c4.tr r4)⟩)
      · refine Tc_f z ?_
        have eC : spC (spO V np 10) = ((spO V np 10).1, (spO V np 10).2.1) := by unfold spC; rw [if_neg z]
        rw [eC]
        obtain ⟨M2, n1, n2, n3⟩ := newRow_eq M1
        obtain ⟨M3, t1, t2, t3⟩ := tell_eq (spO V np 10).2.1 n2 (by simp)
        obtain ⟨M4, u1, u2, u3⟩ := tell_eq (spO V np 10).2.2 t2 (by simp)
        refine Tc_e n1 (Tc_e t1 (Tc_e u1 (Tc_some ?_)))
        dsimp only
        unfold mo_span
        have c4 : chg [0, 10] M (up2 M4 278 13 0) := (((y1.chg (Or.inl rfl)).sub (by decide)).tr ((n3.tr t3).tr u3).chg).up (by decide)
        refine Tc_u (Tc_f (by rw [moDonkey_y h.S (c4 278 1 (by decide)) hd]; decide) (Tc_f (by rw [moIn_y hk]; decide) ?_))
        rw [show (1000000 : Int) - 0 = 1000000 from rfl]
        refine Tc_c (mo _ c4) (fun r hr => ?_)
        obtain ⟨g1, g2, g3, g4, M5⟩ := r
        obtain ⟨r1, r2, r3, r4, r5⟩ := hr
        dsimp only at r1 r2 r3 r4 r5
        subst r1 r2 r3
        refine Tc_f z (Tc_u ?_)
        dsimp only
        obtain ⟨x1, x2⟩ := moRow0 M5
        obtain ⟨M6, v1, v2, v3⟩ := moTell_eq (spO V np 10).2.1 x1 (by simp)
        obtain ⟨M7, w1, w2, w3⟩ := moTell_eq (spO V np 10).2.2 v2 (by simp)
        exact Tc_e v1 (Tc_e w1 (Tc_some ⟨rfl, h.go10 ((c4.tr (r4.sub (by decide))).tr ((x2.tr v3).tr w3).chg) (u2.fin (((moF.up (by decide)).tr r5).tr ((x2.tr v3).tr w3).mo) w2 (by simp))⟩))
    · refine Tc_t (asked_n hk) (Tc_some ?_)
      unfold mo_span
      exact Tc_u (Tc_f (by rw [moDonkey_y h.S (c3 278 1 (by decide)) hd]; decide) (Tc_t (moIn_n hk) (Tc_some ⟨rfl, h.go0 c3⟩)))
  · refine Tc_t (isDonkey_n h.S.2.2.1 hd) (Tc_some ?_)
    unfold mo_span
    exact Tc_u (Tc_t (moDonkey_n h.S (c3 278 1 (by decide)) hd) (Tc_some ⟨rfl, h.go0 c3⟩))
