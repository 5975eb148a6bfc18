-- ===== a CONTRACT's HOUR in a DAY: how often, first, last =====
def hit (T : Nat → DS) (hr : Int) (u : Nat) : Bool := decide (cnt T (u + 1) ≠ cnt T u) && decide ((T (u + 1)).2.2.1 % 12 = hr)
def ofN (T : Nat → DS) (hr : Int) : Nat → Int
  | 0 => 0
  | u + 1 => ofN T hr u + (if hit T hr u = true then 1 else 0)
def fiN (T : Nat → DS) (hr : Int) : Nat → Int
  | 0 => -1
  | u + 1 => if fiN T hr u = -1 ∧ hit T hr u = true then (u : Int) else fiN T hr u
def laN (T : Nat → DS) (hr : Int) : Nat → Int
  | 0 => -1
  | u + 1 => if hit T hr u = true then (u : Int) else laN T hr u
theorem ofN_S (T : Nat → DS) (hr : Int) (u : Nat) : ofN T hr (u + 1) = ofN T hr u + (if hit T hr u = true then 1 else 0) := rfl
theorem fiN_S (T : Nat → DS) (hr : Int) (u : Nat) : fiN T hr (u + 1) = if fiN T hr u = -1 ∧ hit T hr u = true then (u : Int) else fiN T hr u := rfl
theorem laN_S (T : Nat → DS) (hr : Int) (u : Nat) : laN T hr (u + 1) = if hit T hr u = true then (u : Int) else laN T hr u := rfl
theorem ofN_bd (T : Nat → DS) (hr : Int) : ∀ n, 0 ≤ ofN T hr n ∧ ofN T hr n ≤ n := by
  intro n
  induction n with
  | zero => exact ⟨Int.le_refl _, Int.le_refl _⟩
  | succ n ih => rw [ofN_S]; split <;> omega
theorem fiN_none {T : Nat → DS} {hr : Int} : ∀ {n : Nat}, (∀ u, u < n → hit T hr u = false) → fiN T hr n = -1 := by
  intro n
  induction n with
  | zero => intro _; rfl
  | succ n ih =>
    intro h
    rw [fiN_S, h n (by omega), if_neg (fun q => Bool.false_ne_true q.2)]
    exact ih (fun u hu => h u (by omega))
theorem fiN_at {T : Nat → DS} {hr : Int} {v : Nat} (h1 : hit T hr v = true) (h2 : ∀ u, u < v → hit T hr u = false) : ∀ n, v < n → fiN T hr n = (v : Int) := by
  intro n
  induction n with
  | zero => intro h; omega
  | succ n ih =>
    intro h
    rw [fiN_S]
    by_cases e : v = n
    · subst e
      rw [if_pos ⟨fiN_none h2, h1⟩]
    · rw [ih (by omega), if_neg (by omega)]
theorem laN_at {T : Nat → DS} {hr : Int} {v : Nat} (h1 : hit T hr v = true) : ∀ n, v < n → (∀ u, v < u → u < n → hit T hr u = false) → laN T hr n = (v : Int) := by
  intro n
  induction n with
  | zero => intro h; omega
  | succ n ih =>
    intro h h2
    rw [laN_S]
    by_cases e : v = n
    · subst e
      rw [if_pos h1]
    · rw [h2 n (by omega) (by omega), if_neg (by decide)]
      exact ih (by omega) (fun u a b => h2 u a (by omega))
/-- by STROKES: how many of c come on the HOUR -/
def ocN (K hr : Int) : Nat → Int
  | 0 => 0
  | c + 1 => ocN K hr c + (if (K + (c : Int) + 1) % 12 = hr then 1 else 0)
theorem ocN_S (K hr : Int) (c : Nat) : ocN K hr (c + 1) = ocN K hr c + (if (K + (c : Int) + 1) % 12 = hr then 1 else 0) := rfl
theorem ocN_bd (K hr : Int) : ∀ n, 0 ≤ ocN K hr n ∧ ocN K hr n ≤ n := by
  intro n
  induction n with
  | zero => exact ⟨Int.le_refl _, Int.le_refl _⟩
  | succ n ih => rw [ocN_S]; split <;> omega
theorem hit_eq {T : Nat → DS} {hr : Int} {u : Nat} : hit T hr u = true ↔ (cnt T (u + 1) ≠ cnt T u ∧ ((T 0).2.2.1 + cnt T (u + 1)) % 12 = hr) := by
  unfold hit
  rw [Bool.and_eq_true, decide_eq_true_eq, decide_eq_true_eq]
  have : (T (u + 1)).2.2.1 = (T 0).2.2.1 + cnt T (u + 1) := by unfold cnt; omega
  rw [this]
theorem of_oc {T : Nat → DS} {hr : Int} (hst : stk T 1000000) : ∀ n : Nat, n ≤ 600 → ofN T hr n = ocN (T 0).2.2.1 hr (cnt T n).toNat := by
  intro n
  induction n with
  | zero => intro _; rw [cnt_0]; rfl
  | succ n ih =>
    intro hn
    have hb := cnt_le hst (show n ≤ 1000000 by omega)
    rw [ofN_S, ih (by omega)]
    rcases hst n (by omega) with q | q
    · have : ¬ hit T hr n = true := by rw [hit_eq]; exact fun z => z.1 q
      rw [if_neg this, q, Int.add_zero]
    · rw [show (cnt T (n + 1)).toNat = (cnt T n).toNat + 1 by omega, ocN_S]
      congr 1
      have e1 : (T 0).2.2.1 + (((cnt T n).toNat : Nat) : Int) + 1 = (T 0).2.2.1 + cnt T (n + 1) := by omega
      rw [e1]
      by_cases z : ((T 0).2.2.1 + cnt T (n + 1)) % 12 = hr
      · rw [if_pos z, if_pos (hit_eq.mpr ⟨by omega, z⟩)]
      · rw [if_neg z, if_neg (fun y => z (hit_eq.mp y).2)]
section CLASS
variable {e : EN} {n d m0 hr : Int} {T : Nat → DS} {j : Nat} {M : MEM}
theorem isHour_eq {k : Int} (h : futAt 224 e n d m0 T j M) (hk0 : 0 ≤ (T 0).2.2.1) (hk1 : (T 0).2.2.1 ≤ 100000000) (k0 : 0 ≤ k) (k1 : k ≤ 600) (hst : stk T 1000000) (hj : j ≤ 600) : fu_isHour 224 k hr M = some (if ((T 0).2.2.1 + k) % 12 = hr then 1 else 0) := by
  obtain ⟨-, -, -, h4, -, -, -, h8, -⟩ := h
  have hc := cnt_le hst (show j ≤ 1000000 by omega)
  have e5 : M (224 + 6) 5 = (T 0).2.2.1 + cnt T j := by
    have : (T j).2.2.1 = M (224 + 6) 5 := h4.2.2.1
    unfold cnt; omega
  unfold fu_isHour
  rw [e5, h8, wr_i (x := (T 0).2.2.1 + cnt T j - cnt T j) (by omega) (by omega), wr_i (x := (T 0).2.2.1 + cnt T j - cnt T j + k) (by omega) (by omega), floorMod_eq (by unfold InR; omega) (by decide) (by decide), Option.bind_some, show (T 0).2.2.1 + cnt T j - cnt T j + k = (T 0).2.2.1 + k by omega]
  split <;> rfl
theorem timesStruck_eq (h : futAt 224 e n d m0 T j M) (hk0 : 0 ≤ (T 0).2.2.1) (hk1 : (T 0).2.2.1 ≤ 100000000) (hst : stk T 1000000) (hj : j ≤ 600) : fu_timesStruck 224 hr M = some (ofN T hr j) := by
  have hc := cnt_le hst (show j ≤ 1000000 by omega)
  have h10 : M 224 10 = cnt T j := h.2.2.2.2.2.2.2.1
  have hl : iter (fun s => fu_timesStruck_b4 224 hr s.1 s.2 M) FU (0, 1) = some (ocN (T 0).2.2.1 hr (cnt T j).toNat, ((cnt T j).toNat : Int) + 1) := by
    refine loop_traj (fun i => (ocN (T 0).2.2.1 hr i, (i : Int) + 1)) (cnt T j).toNat (by omega) (fun k hk => ?_) ?_
    · have hb := ocN_bd (T 0).2.2.1 hr k
      dsimp only
      unfold fu_timesStruck_b4 fu_timesStruck_j24_4
      rw [if_neg (by omega), isHour_eq h hk0 hk1 (by omega) (by omega) hst hj, Option.bind_some, ocN_S, wr_i (x := (k : Int) + 1 + 1) (by omega) (by omega), show (T 0).2.2.1 + ((k : Int) + 1) = (T 0).2.2.1 + (k : Int) + 1 by omega]
      by_cases z : ((T 0).2.2.1 + (k : Int) + 1) % 12 = hr
      · rw [if_pos z, if_neg (by decide), wr_i (by omega) (by omega)]
        rfl
      · rw [if_neg z, if_pos rfl, Int.add_zero]
        rfl
    · dsimp only
      unfold fu_timesStruck_b4
      rw [if_pos (by omega)]
  unfold fu_timesStruck
  rw [hl, Option.bind_some, of_oc hst j hj]
theorem stroke_hit {k : Int} (h : futAt 224 e n d m0 T j M) (hst : stk T 1000000) (hj : j ≤ 600) (k1 : 1 ≤ k) (k2 : k ≤ cnt T j) (hk : ((T 0).2.2.1 + k) % 12 = hr) : ∃ v : Nat, fu_strokeMinute 224 k M = some (v : Int) ∧ v < j ∧ hit T hr v = true ∧ cnt T v = k - 1 ∧ cnt T (v + 1) = k := by
  have hc := cnt_le hst (show j ≤ 1000000 by omega)
  obtain ⟨z1, z2, z3, z4⟩ := stroke_eq h k1 k2 (by omega)
  obtain ⟨u, hu, u1, u2⟩ := z2
  have e1 : cnt T u = k - 1 := by omega
  have e2 : cnt T (u + 1) = k := by omega
  exact ⟨u, by rw [z1, hu], by omega, hit_eq.mpr ⟨by omega, by rw [e2]; exact hk⟩, e1, e2⟩
theorem firstStruck_eq (h : futAt 224 e n d m0 T j M) (hk0 : 0 ≤ (T 0).2.2.1) (hk1 : (T 0).2.2.1 ≤ 100000000) (hst : stk T 1000000) (hj : j ≤ 600) (ho : 0 < ofN T hr j) : fu_firstStruck 224 hr M = some (fiN T hr j) := by
  have hc := cnt_le hst (show j ≤ 1000000 by omega)
  have h10 : M 224 10 = cnt T j := h.2.2.2.2.2.2.2.1
  have hl : Tc (iter (fun s => fu_firstStruck_b2 224 hr s M) FU 1) (fun r => r = .inl (fiN T hr j)) := by
    refine Tc_l (fun i s => s = (i : Int) + 1 ∧ ocN (T 0).2.2.1 hr i = 0) _ (cnt T j).toNat ⟨rfl, rfl⟩ (by omega) (fun i s hi hI => ?_) (fun s hI => ?_)
    · obtain ⟨rfl, h0⟩ := hI
      unfold fu_firstStruck_b2
      refine Tc_f (by omega) ?_
      by_cases z : ((T 0).2.2.1 + ((i : Int) + 1)) % 12 = hr
      · obtain ⟨v, v1, v2, v3, v4, v5⟩ := stroke_hit (k := (i : Int) + 1) h hst hj (by omega) (by omega) z
        refine Tc_e (isHour_eq h hk0 hk1 (by omega) (by omega) hst hj) ?_
        rw [if_pos z]
        refine Tc_f (by decide) (Tc_e v1 (Tc_inrR ?_))
        rw [fiN_at v3 (fun u hu => ?_) j v2]
        -- no stroke before
        cases hh : hit T hr u with
        | false => rfl
        | true =>
          exfalso
          have hm := (cnt_mono hst (show u + 1 ≤ v by omega) (by omega)).1
          have ho : 0 < ofN T hr (u + 1) := by
            have := ofN_bd T hr u
            rw [ofN_S, hh, if_pos rfl]; omega
          rw [of_oc hst (u + 1) (by omega)] at ho
          have hmono : ∀ a b : Nat, a ≤ b → ocN (T 0).2.2.1 hr a ≤ ocN (T 0).2.2.1 hr b := by
            intro a b hab
            induction b with
            | zero => have : a = 0 := by omega
                      subst this; exact Int.le_refl _
            | succ b ih =>
              by_cases e : a = b + 1
              · subst e; exact Int.le_refl _
              · have := ih (by omega)
                rw [ocN_S]; split <;> omega
          have := hmono (cnt T (u + 1)).toNat i (by omega)
          omega
      · refine Tc_e (isHour_eq h hk0 hk1 (by omega) (by omega) hst hj) ?_
        rw [if_neg z]
        refine Tc_t rfl (Tc_inlL ⟨(wr_i (by omega) (by omega)).trans (by omega), ?_⟩)
        rw [ocN_S, h0, show (T 0).2.2.1 + (i : Int) + 1 = (T 0).2.2.1 + ((i : Int) + 1) by omega, if_neg z]
        rfl
    · obtain ⟨rfl, h0⟩ := hI
      rw [of_oc hst j hj, h0] at ho
      omega
  obtain ⟨r, e1, rfl⟩ := hl
  unfold fu_firstStruck
  rw [e1]; rfl
theorem lastStruck_eq (h : futAt 224 e n d m0 T j M) (hk0 : 0 ≤ (T 0).2.2.1) (hk1 : (T 0).2.2.1 ≤ 100000000) (hst : stk T 1000000) (hj : j ≤ 600) (ho : 0 < ofN T hr j) : fu_lastStruck 224 hr M = some (laN T hr j) := by
  have hc := cnt_le hst (show j ≤ 1000000 by omega)
  have h10 : M 224 10 = cnt T j := h.2.2.2.2.2.2.2.1
  have hl : Tc (iter (fun s => fu_lastStruck_b5 224 hr s M) FU (M 224 10)) (fun r => r = .inl (laN T hr j)) := by
    refine Tc_l (fun i s => s = cnt T j - (i : Int) ∧ ∀ k : Int, cnt T j - (i : Int) < k → k ≤ cnt T j → ¬ ((T 0).2.2.1 + k) % 12 = hr) _ (cnt T j).toNat ⟨by rw [h10]; omega, fun k a b => by omega⟩ (by omega) (fun i s hi hI => ?_) (fun s hI => ?_)
    · obtain ⟨rfl, h0⟩ := hI
      unfold fu_lastStruck_b5
      refine Tc_f (by omega) ?_
      by_cases z : ((T 0).2.2.1 + (cnt T j - (i : Int))) % 12 = hr
      · obtain ⟨v, v1, v2, v3, v4, v5⟩ := stroke_hit (k := cnt T j - (i : Int)) h hst hj (by omega) (by omega) z
        refine Tc_e (isHour_eq h hk0 hk1 (by omega) (by omega) hst hj) ?_
        rw [if_pos z]
        refine Tc_f (by decide) (Tc_e v1 (Tc_inrR ?_))
        rw [laN_at v3 j v2 (fun u hu1 hu2 => ?_)]
        cases hh : hit T hr u with
        | false => rfl
        | true =>
          exfalso
          obtain ⟨y1, y2⟩ := hit_eq.mp hh
          have hm := (cnt_mono hst (show v + 1 ≤ u by omega) (by omega)).1
          have hm2 := (cnt_mono hst (show u + 1 ≤ j by omega) (by omega)).1
          have hs := hst u (by omega)
          exact h0 (cnt T (u + 1)) (by omega) hm2 y2
      · refine Tc_e (isHour_eq h hk0 hk1 (by omega) (by omega) hst hj) ?_
        rw [if_neg z]
        refine Tc_t rfl (Tc_inlL ⟨?_, fun k a b => ?_⟩)
        · show wr (cnt T j - (i : Int) + -1) = _
          rw [wr_i (by omega) (by omega)]; omega
        · by_cases e : k = cnt T j - (i : Int)
          · rw [e]; exact z
          · exact h0 k (by omega) b
    · obtain ⟨rfl, h0⟩ := hI
      exfalso
      have zero : ∀ c : Nat, (c : Int) ≤ cnt T j → ocN (T 0).2.2.1 hr c = 0 := by
        intro c
        induction c with
        | zero => intro _; rfl
        | succ c ih =>
          intro hc2
          rw [ocN_S, ih (by omega), show (T 0).2.2.1 + (c : Int) + 1 = (T 0).2.2.1 + ((c : Int) + 1) by omega, if_neg (h0 ((c : Int) + 1) (by omega) (by omega))]
          rfl
      rw [of_oc hst j hj, zero _ (by omega)] at ho
      omega
  obtain ⟨r, e1, rfl⟩ := hl
  unfold fu_lastStruck
  rw [e1]; rfl
end CLASS
/-- the way of the clock of CONTRACT i -/
noncomputable def coT (M : MEM) (i : Nat) : Nat → DS := qT M (M 38 i).toNat
noncomputable def coO (M : MEM) (n : Int) (i : Nat) : Int := ofN (coT M i) (M 39 i) n.toNat
theorem find_hours {B : Int} {M M1 : MEM} {n : Int} (h : Rel B M) (hB : B ≤ 100000000) (c : chg [0, 10] M M1) (hn : 1 ≤ n ∧ n ≤ 600) :
    ∃ M2, mo_findHours n M1 = some M2 ∧ chg [0] M1 M2 ∧ moF M1 M2 ∧ ∀ i : Nat, (i : Int) < M 34 6 → M2 296 i = coO M n i ∧ (0 < coO M n i → M2 297 i = fiN (coT M i) (M 39 i) n.toNat ∧ M2 298 i = laN (coT M i) (M 39 i) n.toNat) := by
  obtain ⟨o1, o2, o3, o4⟩ := h.O
  have hN := h.S.2.2.1
  obtain ⟨sz, hsz⟩ : ∃ sz : Nat, M 34 6 = (sz : Int) := ⟨(M 34 6).toNat, by omega⟩
  have e41 : ∀ {M' : MEM}, chg [0, 10] M M' → M' 278 41 = (sz : Int) := fun {M'} c => by rw [c 278 41 (by decide)]; omega
  have e295 : ∀ {M' : MEM}, chg [0, 10] M M' → M' 295 = M 295 := fun {M'} c => c.row (fun k => (by decide : 6 ∉ [0, 10]))
  have l1 : Tc (iter (fun s => mo_findHours_b2 n s.1 s.2) FU (0, M1)) (fun r => (∀ c, c ≠ 296 → r.2 c = M1 c) ∧ ∀ i, i < sz → r.2 296 i = 0) := by
    refine Tc_n (fun i s => s.1 = (i : Int) ∧ (∀ c, c ≠ 296 → s.2 c = M1 c) ∧ ∀ k : Nat, k < i → s.2 296 k = 0) sz ⟨rfl, fun _ _ => rfl, fun k hk => by omega⟩ (by omega) (fun i s hi hI => ?_) (fun s hI => ?_)
    · obtain ⟨z, M2⟩ := s
      obtain ⟨rfl, q1, q2⟩ := hI
      dsimp only at q1 q2 ⊢
      have : M2 278 41 = (sz : Int) := by rw [q1 278 (by decide)]; exact e41 c
      unfold mo_findHours_b2
      refine Tc_f (by omega) (Tc_t (by omega) (Tc_u (Tc_inl ⟨(wr_i (by omega) (by omega)).trans (by omega), fun c hc => ?_, fun k hk => ?_⟩)))
      · dsimp only; rw [up2_ne hc]; exact q1 c hc
      · dsimp only
        rw [toNat_c]
        by_cases e : k = i
        · subst e; exact rd_same
        · rw [rd_k e]; exact q2 k (by omega)
    · obtain ⟨z, M2⟩ := s
      obtain ⟨rfl, q1, q2⟩ := hI
      dsimp only at q1 q2
      have : M2 278 41 = (sz : Int) := by rw [q1 278 (by decide)]; exact e41 c
      unfold mo_findHours_b2
      exact Tc_t (by show M2 278 41 ≤ _; omega) (Tc_inr ⟨q1, q2⟩)
  obtain ⟨w1, e1, y1, y2⟩ := l1
  obtain ⟨w1, M2⟩ := w1
  dsimp only at y1 y2
  have c2 : chg [0] M1 M2 := fun c k hn => by
    by_cases e : c = 296
    · subst e; exact absurd (show rg 296 k ∈ [0] from List.mem_singleton.mpr rfl) hn
    · rw [y1 c e]
  obtain ⟨M3, e3, o5, o5', -, tO, tA⟩ := q_then h hB (c.tr (c2.sub (by decide)))
  have l2 : Tc (iter (fun s => mo_findHours_b29 n s.1 s.2) FU (0, M3)) (fun r => chg [0] M3 r.2 ∧ moF M3 r.2 ∧ ∀ i : Nat, i < sz → r.2 296 i = coO M n i ∧ (0 < coO M n i → r.2 297 i = fiN (coT M i) (M 39 i) n.toNat ∧ r.2 298 i = laN (coT M i) (M 39 i) n.toNat)) := by
    refine Tc_n (fun u s => s.1 = (u : Int) ∧ thenAt (M 3 2).toNat (fun d => M 280 d) (envM M) (M 3 3) (fun d => dsC (10 + 3 * d) M) u s.2 ∧ chg [0] M3 s.2 ∧ moF M3 s.2 ∧ ∀ i : Nat, i < sz → s.2 296 i = ofN (coT M i) (M 39 i) u ∧ (0 < ofN (coT M i) (M 39 i) u → s.2 297 i = fiN (coT M i) (M 39 i) u ∧ s.2 298 i = laN (coT M i) (M 39 i) u)) n.toNat ⟨rfl, tA, chg.rf, moF.rf, fun i hi => ⟨by dsimp only; rw [o5' 296 (by decide), y2 i hi]; rfl, fun q => absurd q (Int.lt_irrefl 0)⟩⟩ (by omega) (fun u s hu hI => ?_) (fun s hI => ?_)
    · obtain ⟨z, M4⟩ := s
      obtain ⟨rfl, q1, q2, q3, q4⟩ := hI
      dsimp only at q1 q2 q3 q4 ⊢
      obtain ⟨M5, k1, k2, k3, k4, -⟩ := then_step tO (by omega) q1
      have wu : wr ((u : Int) + 1) = ((u + 1 : Nat) : Int) := (wr_i (by omega) (by omega)).trans (by omega)
      have cM5 : chg [0] M3 M5 := q2.tr k3.Q.chg
      have mM5 : moF M3 M5 := q3.tr k3.Q.mo
      have cc0 : chg [0, 10] M M3 := (c.tr (c2.sub (by decide))).tr (o5.chg.sub (by decide))
      have inner : Tc (iter (fun s => mo_findHours_b44 n u s.1 s.2) FU (0, M5)) (fun r => (∀ c, c ≠ 296 → c ≠ 297 → c ≠ 298 → r.2 c = M5 c) ∧ ∀ i : Nat, i < sz → r.2 296 i = ofN (coT M i) (M 39 i) (u + 1) ∧ (0 < ofN (coT M i) (M 39 i) (u + 1) → r.2 297 i = fiN (coT M i) (M 39 i) (u + 1) ∧ r.2 298 i = laN (coT M i) (M 39 i) (u + 1))) := by
        refine Tc_n (fun i s => s.1 = (i : Int) ∧ (∀ c, c ≠ 296 → c ≠ 297 → c ≠ 298 → s.2 c = M5 c) ∧ (∀ i' : Nat, i' < i → s.2 296 i' = ofN (coT M i') (M 39 i') (u + 1) ∧ (0 < ofN (coT M i') (M 39 i') (u + 1) → s.2 297 i' = fiN (coT M i') (M 39 i') (u + 1) ∧ s.2 298 i' = laN (coT M i') (M 39 i') (u + 1))) ∧ ∀ i' : Nat, i ≤ i' → s.2 296 i' = M4 296 i' ∧ s.2 297 i' = M4 297 i' ∧ s.2 298 i' = M4 298 i') sz ⟨rfl, fun _ _ _ _ => rfl, fun i' hi' => by omega, fun i' _ => ⟨by dsimp only; rw [k3.1 296 (by decide) (by decide) (by decide)], by dsimp only; rw [k3.1 297 (by decide) (by decide) (by decide)], by dsimp only; rw [k3.1 298 (by decide) (by decide) (by decide)]⟩⟩ (by omega) (fun i s hi hI => ?_) (fun s hI => ?_)
        · obtain ⟨z, M6⟩ := s
          obtain ⟨rfl, p1, p2, p3⟩ := hI
          dsimp only at p1 p2 p3 ⊢
          obtain ⟨z1, z2, z3, z4, z5, z6, z7, z8⟩ := o4 i (by omega)
          have wi : wr ((i : Int) + 1) = ((i + 1 : Nat) : Int) := (wr_i (by omega) (by omega)).trans (by omega)
          have w5 : wr (5 * (i : Int)) = ((5 * i : Nat) : Int) := (wr_i (by omega) (by omega)).trans (by omega)
          have w53 : wr (((5 * i : Nat) : Int) + 3) = ((5 * i + 3 : Nat) : Int) := (wr_i (by omega) (by omega)).trans (by omega)
          have w54 : wr (((5 * i : Nat) : Int) + 4) = ((5 * i + 4 : Nat) : Int) := (wr_i (by omega) (by omega)).trans (by omega)
          have e41' : M6 278 41 = (sz : Int) := by rw [p1 278 (by decide) (by decide) (by decide)]; exact e41 (cc0.tr (cM5.sub (by decide)))
          have e295' : M6 295 = M 295 := by rw [p1 295 (by decide) (by decide) (by decide)]; exact e295 (cc0.tr (cM5.sub (by decide)))
          obtain ⟨d, hd⟩ : ∃ d : Nat, M 38 i = (d : Int) := ⟨(M 38 i).toNat, by omega⟩
          have hdl : (d : Int) < M 3 2 := by omega
          have eT : coT M i = qT M d := by unfold coT; rw [hd, toNat_c]
          have hst := q_stk h hdl hB
          have hs := hst u (by omega)
          have e287 : M6 287 d = cnt (qT M d) (u + 1) - cnt (qT M d) u := by rw [p1 287 (by decide) (by decide) (by decide)]; exact k4 d (by omega)
          have e292 : (qT M d (u + 1)).2.2.1 = M6 292 (55 * d + 2) := by rw [p1 292 (by decide) (by decide) (by decide)]; exact (k2.2.2.2.2.2.2 d (by omega)).2.2.1
          have hk0 : 0 ≤ (qT M d (u + 1)).2.2.1 ∧ (qT M d (u + 1)).2.2.1 ≤ 1000000000 := by
            obtain ⟨d1, d2, -, -⟩ := dnk h hB hdl
            have := traj_ok (e := envM M) (d := (d : Int)) (m0 := M 3 3) (fun g => codeV_in _ _ _) d1 (by omega) (u + 1) (by omega)
            exact ⟨this.1.2.2.2.2.2.2.1, by have := this.2.2; unfold qT; omega⟩
          have w55d := w55 (d := d) (by omega)
          have w552 : wr (((55 * d : Nat) : Int) + 2) = ((55 * d + 2 : Nat) : Int) := (wr_i (by omega) (by omega)).trans (by omega)
          obtain ⟨a1, a2, a3⟩ := p3 i (Nat.le_refl _)
          obtain ⟨b1, b2⟩ := q4 i hi
          have hob := ofN_bd (coT M i) (M 39 i) u
          have hfin : ∀ M7 : MEM, (∀ c, c ≠ 296 → c ≠ 297 → c ≠ 298 → M7 c = M6 c) → (∀ i', i' ≠ i → M7 296 i' = M6 296 i' ∧ M7 297 i' = M6 297 i' ∧ M7 298 i' = M6 298 i') → (M7 296 i = ofN (coT M i) (M 39 i) (u + 1) ∧ (0 < ofN (coT M i) (M 39 i) (u + 1) → M7 297 i = fiN (coT M i) (M 39 i) (u + 1) ∧ M7 298 i = laN (coT M i) (M 39 i) (u + 1))) → (∀ c, c ≠ 296 → c ≠ 297 → c ≠ 298 → M7 c = M5 c) ∧ (∀ i' : Nat, i' < i + 1 → M7 296 i' = ofN (coT M i') (M 39 i') (u + 1) ∧ (0 < ofN (coT M i') (M 39 i') (u + 1) → M7 297 i' = fiN (coT M i') (M 39 i') (u + 1) ∧ M7 298 i' = laN (coT M i') (M 39 i') (u + 1))) ∧ ∀ i' : Nat, i + 1 ≤ i' → M7 296 i' = M4 296 i' ∧ M7 297 i' = M4 297 i' ∧ M7 298 i' = M4 298 i' := fun M7 f1 f2 f3 => by
            refine ⟨fun c x1 x2 x3 => (f1 c x1 x2 x3).trans (p1 c x1 x2 x3), fun i' hi' => ?_, fun i' hi' => ?_⟩
            · by_cases e : i' = i
              · subst e; exact f3
              · obtain ⟨g1, g2, g3⟩ := f2 i' e
                rw [g1, g2, g3]; exact p2 i' (by omega)
            · obtain ⟨g1, g2, g3⟩ := f2 i' (by omega)
              rw [g1, g2, g3]; exact p3 i' (by omega)
          unfold mo_findHours_b44
          rw [w5, w53, e295', toNat_c, z4, hd, wi]
          refine Tc_f (by omega) (Tc_t (by omega) ?_)
          rcases hs with hs | hs
          · have hnh : hit (coT M i) (M 39 i) u = false := by
              cases hh : hit (coT M i) (M 39 i) u with
              | false => rfl
              | true => rw [eT] at hh; exact absurd hs (hit_eq.mp hh).1
            have : iter (fun s => mo_findHours_b67 n u i d s.1 s.2) FU (0, M6) = some (0, M6) := by
              apply iter_exit
              show mo_findHours_b67 n u i d 0 M6 = _
              unfold mo_findHours_b67
              rw [if_pos (by omega), toNat_c, if_pos (by omega)]
            refine Tc_e this (Tc_inl ⟨rfl, hfin M6 (fun _ _ _ _ => rfl) (fun _ _ => ⟨rfl, rfl, rfl⟩) ⟨?_, fun hp => ?_⟩⟩)
            · rw [ofN_S, hnh, if_neg (by decide), Int.add_zero, a1]; exact b1
            · rw [ofN_S, hnh, if_neg (by decide), Int.add_zero] at hp
              rw [fiN_S, laN_S, hnh, if_neg (fun q => Bool.false_ne_true q.2), if_neg (by decide), a2, a3]
              exact b2 hp
          · by_cases hm : (qT M d (u + 1)).2.2.1 % 12 = M 39 i
            · have hyh : hit (coT M i) (M 39 i) u = true := by
                rw [eT]; unfold hit
                rw [Bool.and_eq_true, decide_eq_true_eq, decide_eq_true_eq]
                exact ⟨by omega, hm⟩
              have hrun : ∃ M7, iter (fun s => mo_findHours_b67 n u i d s.1 s.2) FU (0, M6) = some (1, M7) ∧ (∀ c, c ≠ 296 → c ≠ 297 → c ≠ 298 → M7 c = M6 c) ∧ (∀ i', i' ≠ i → M7 296 i' = M6 296 i' ∧ M7 297 i' = M6 297 i' ∧ M7 298 i' = M6 298 i') ∧ M7 296 i = M6 296 i + 1 ∧ M7 298 i = (u : Int) ∧ M7 297 i = (if M6 296 i = 0 then (u : Int) else M6 297 i) := by
                have tl : ∀ M7 : MEM, M7 287 d = 1 → mo_findHours_b67 n u i d 1 M7 = some (.inr (1, M7)) := fun M7 h7 => by
                  unfold mo_findHours_b67
                  rw [if_pos (by omega), toNat_c, if_pos (by omega)]
                have s1 : wr ((0 : Int) + 1) = 1 := wr_i (by omega) (by omega)
                by_cases z0 : M6 296 i = 0
                · refine ⟨up2 (up2 (up2 M6 297 i u) 298 i u) 296 i (M6 296 i + 1), ?_, fun c x1 x2 x3 => ?_, fun i' hi' => ⟨?_, ?_, ?_⟩, ?_, ?_, ?_⟩
                  · refine loop_traj (fun k => if k = 0 then (0, M6) else (1, up2 (up2 (up2 M6 297 i u) 298 i u) 296 i (M6 296 i + 1))) 1 (by omega) (fun k hk => ?_) ?_
                    · have : k = 0 := by omega
                      subst this
                      show mo_findHours_b67 n u i d 0 M6 = some (.inl (1, _))
                      unfold mo_findHours_b67 mo_findHours_j129_67 mo_findHours_j146_67
                      rw [w55d, w552, w5, w54, s1]
                      simp only [toNat_c]
                      rw [if_pos (by omega), if_neg (by omega), if_pos (by omega), if_pos (by omega), e295', z5, ← e292, wr_i (x := (qT M d (u + 1)).2.2.1 - 0) (by omega) (by omega), show (qT M d (u + 1)).2.2.1 - 0 = (qT M d (u + 1)).2.2.1 by omega, tmod_nn hk0.1, if_pos hm, if_pos (by omega), if_pos z0, if_pos (by omega), Option.bind_some, if_pos (by omega), Option.bind_some, if_pos (by omega), if_pos (by omega), Option.bind_some]
                      have r : up2 (up2 M6 297 i u) 298 i u 296 i = M6 296 i := by rw [rd_a (by decide), rd_a (by decide)]
                      rw [r, wr_i (by omega) (by omega)]
                      try rfl
                    · show mo_findHours_b67 n u i d 1 _ = some (.inr (1, _))
                      exact tl (up2 (up2 (up2 M6 297 i u) 298 i u) 296 i (M6 296 i + 1)) (by rw [rd_a (by decide), rd_a (by decide), rd_a (by decide)]; omega)
                  · rw [up2_ne x1, up2_ne x3, up2_ne x2]
                  · rw [rd_k hi', rd_a (by decide), rd_a (by decide)]
                  · rw [rd_a (by decide), rd_a (by decide), rd_k hi']
                  · rw [rd_a (by decide), rd_k hi', rd_a (by decide)]
                  · rw [rd_same]
                  · rw [rd_a (by decide), rd_same]
                  · rw [rd_a (by decide), rd_a (by decide), rd_same, if_pos z0]
                · refine ⟨up2 (up2 M6 298 i u) 296 i (M6 296 i + 1), ?_, fun c x1 x2 x3 => ?_, fun i' hi' => ⟨?_, ?_, ?_⟩, ?_, ?_, ?_⟩
                  · refine loop_traj (fun k => if k = 0 then (0, M6) else (1, up2 (up2 M6 298 i u) 296 i (M6 296 i + 1))) 1 (by omega) (fun k hk => ?_) ?_
                    · have : k = 0 := by omega
                      subst this
                      show mo_findHours_b67 n u i d 0 M6 = some (.inl (1, _))
                      unfold mo_findHours_b67 mo_findHours_j129_67 mo_findHours_j146_67
                      rw [w55d, w552, w5, w54, s1]
                      simp only [toNat_c]
                      rw [if_pos (by omega), if_neg (by omega), if_pos (by omega), if_pos (by omega), e295', z5, ← e292, wr_i (x := (qT M d (u + 1)).2.2.1 - 0) (by omega) (by omega), show (qT M d (u + 1)).2.2.1 - 0 = (qT M d (u + 1)).2.2.1 by omega, tmod_nn hk0.1, if_pos hm, if_pos (by omega), if_neg z0, if_pos (by omega), Option.bind_some, if_pos (by omega), if_pos (by omega), Option.bind_some]
                      have r : up2 M6 298 i u 296 i = M6 296 i := by rw [rd_a (by decide)]
                      rw [r, wr_i (by omega) (by omega)]
                      try rfl
                    · show mo_findHours_b67 n u i d 1 _ = some (.inr (1, _))
                      exact tl (up2 (up2 M6 298 i u) 296 i (M6 296 i + 1)) (by rw [rd_a (by decide), rd_a (by decide)]; omega)
                  · rw [up2_ne x1, up2_ne x3]
                  · rw [rd_k hi', rd_a (by decide)]
                  · rw [rd_a (by decide), rd_a (by decide)]
                  · rw [rd_a (by decide), rd_k hi']
                  · rw [rd_same]
                  · rw [rd_a (by decide), rd_same]
                  · rw [rd_a (by decide), rd_a (by decide), if_neg z0]
              obtain ⟨M7, e7, f1, f2, f3, f4, f5⟩ := hrun
              refine Tc_e e7 (Tc_inl ⟨rfl, hfin M7 f1 f2 ⟨?_, fun _ => ⟨?_, ?_⟩⟩⟩)
              · rw [ofN_S, hyh, if_pos rfl, f3, a1, b1]
              · rw [f5, fiN_S, hyh, a1, b1, a2]
                by_cases z0 : ofN (coT M i) (M 39 i) u = 0
                · have hno : ∀ v, v < u → hit (coT M i) (M 39 i) v = false := fun v hv => by
                    cases hh : hit (coT M i) (M 39 i) v with
                    | false => rfl
                    | true =>
                      exfalso
                      have mono : ∀ b : Nat, v + 1 ≤ b → 0 < ofN (coT M i) (M 39 i) b := by
                        intro b hb
                        induction b with
                        | zero => omega
                        | succ b ih =>
                          have hbb := ofN_bd (coT M i) (M 39 i) b
                          rw [ofN_S]
                          by_cases e : v = b
                          · subst e; rw [hh, if_pos rfl]; omega
                          · have := ih (by omega)
                            split <;> omega
                      have := mono u (by omega)
                      omega
                  rw [if_pos z0, if_pos ⟨fiN_none hno, rfl⟩]
                · have hb3 := b2 (by omega)
                  have hfi : fiN (coT M i) (M 39 i) u ≠ -1 := by
                    intro hneg
                    have hno : ∀ b : Nat, fiN (coT M i) (M 39 i) b = -1 → ofN (coT M i) (M 39 i) b = 0 := by
                      intro b
                      induction b with
                      | zero => intro _; rfl
                      | succ b ih =>
                        rw [fiN_S, ofN_S]
                        by_cases e : fiN (coT M i) (M 39 i) b = -1 ∧ hit (coT M i) (M 39 i) b = true
                        · rw [if_pos e]; intro q; omega
                        · rw [if_neg e]
                          intro q
                          have : ¬ hit (coT M i) (M 39 i) b = true := fun y => e ⟨q, y⟩
                          rw [ih q, if_neg this]; rfl
                    exact z0 (hno u hneg)
                  rw [if_neg z0, if_neg (fun q => hfi q.1)]
                  exact hb3.1
              · rw [f4, laN_S, hyh, if_pos rfl]
            · have hnh : hit (coT M i) (M 39 i) u = false := by
                cases hh : hit (coT M i) (M 39 i) u with
                | false => rfl
                | true =>
                  rw [eT] at hh; unfold hit at hh
                  rw [Bool.and_eq_true, decide_eq_true_eq, decide_eq_true_eq] at hh
                  exact absurd hh.2 hm
              have : iter (fun s => mo_findHours_b67 n u i d s.1 s.2) FU (0, M6) = some (1, M6) := by
                refine loop_traj (fun k => ((k : Int), M6)) 1 (by omega) (fun k hk => ?_) ?_
                · have : k = 0 := by omega
                  subst this
                  show mo_findHours_b67 n u i d 0 M6 = some (.inl (1, M6))
                  unfold mo_findHours_b67 mo_findHours_j146_67
                  have s1 : wr ((0 : Int) + 1) = 1 := wr_i (by omega) (by omega)
                  rw [w55d, w552, w5, w54, s1]
                  simp only [toNat_c]
                  rw [if_pos (by omega), if_neg (by omega), if_pos (by omega), if_pos (by omega), e295', z5, ← e292, wr_i (x := (qT M d (u + 1)).2.2.1 - 0) (by omega) (by omega), show (qT M d (u + 1)).2.2.1 - 0 = (qT M d (u + 1)).2.2.1 by omega, tmod_nn hk0.1, if_neg hm]
                · show mo_findHours_b67 n u i d 1 M6 = some (.inr (1, M6))
                  unfold mo_findHours_b67
                  rw [if_pos (by omega), toNat_c, if_pos (by omega)]
              refine Tc_e this (Tc_inl ⟨rfl, hfin M6 (fun _ _ _ _ => rfl) (fun _ _ => ⟨rfl, rfl, rfl⟩) ⟨?_, fun hp => ?_⟩⟩)
              · rw [ofN_S, hnh, if_neg (by decide), Int.add_zero, a1]; exact b1
              · rw [ofN_S, hnh, if_neg (by decide), Int.add_zero] at hp
                rw [fiN_S, laN_S, hnh, if_neg (fun q => Bool.false_ne_true q.2), if_neg (by decide), a2, a3]
                exact b2 hp
        · obtain ⟨z, M6⟩ := s
          obtain ⟨rfl, p1, p2, p3⟩ := hI
          dsimp only at p1 p2 p3
          have e41' : M6 278 41 = (sz : Int) := by rw [p1 278 (by decide) (by decide) (by decide)]; exact e41 (cc0.tr (cM5.sub (by decide)))
          unfold mo_findHours_b44
          exact Tc_t (by show M6 278 41 ≤ _; omega) (Tc_inr ⟨p1, p2⟩)
      unfold mo_findHours_b29
      refine Tc_f (by omega) (Tc_e k1 (Tc_c inner (fun r hr => ?_)))
      obtain ⟨w, M6⟩ := r
      obtain ⟨p1, p2⟩ := hr
      dsimp only at p1 p2 ⊢
      rw [wu]
      have c56 : chg [0] M5 M6 := fun c k hn => by
        by_cases x1 : c = 296
        · subst x1; exact absurd (show rg 296 k ∈ [0] from List.mem_singleton.mpr rfl) hn
        · by_cases x2 : c = 297
          · subst x2; exact absurd (show rg 297 k ∈ [0] from List.mem_singleton.mpr rfl) hn
          · by_cases x3 : c = 298
            · subst x3; exact absurd (show rg 298 k ∈ [0] from List.mem_singleton.mpr rfl) hn
            · rw [p1 c x1 x2 x3]
      exact Tc_inl ⟨rfl, k2.cells c56 (p1 278 (by decide) (by decide) (by decide)) (p1 282 (by decide) (by decide) (by decide)) (p1 292 (by decide) (by decide) (by decide)), cM5.tr c56, mM5.tr (fun c hc => p1 c (by omega) (by omega) (by omega)), p2⟩
    · obtain ⟨z, M4⟩ := s
      obtain ⟨rfl, q1, q2, q3, q4⟩ := hI
      unfold mo_findHours_b29
      exact Tc_t (by show n ≤ ((n.toNat : Nat) : Int); omega) (Tc_inr ⟨q2, q3, q4⟩)
  obtain ⟨w2, e4, g1, g2, g3⟩ := l2
  have m12 : moF M1 M2 := fun c hc => y1 c (by omega)
  refine ⟨w2.2, ?_, (c2.tr o5.chg).tr g1, (m12.tr o5.mo).tr g2, fun i hi => g3 i (by omega)⟩
  unfold mo_findHours
  rw [e1, Option.bind_some, e3, Option.bind_some, e4]
  rfl
