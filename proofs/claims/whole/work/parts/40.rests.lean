-- ===== rests =====
noncomputable def hbN (M : MEM) (d : Nat) (n a b : Int) : Int := hrN (qL M d ([] ++ [mkC M d a n (-1)] ++ [mkC M d b n 1]))
theorem okL_2 {M : MEM} {d : Nat} {a b n : Int} : okL ([] ++ [mkC M d a n (-1)] ++ [mkC M d b n 1]) := ⟨by simp, fun c hc => by
  have : c = mkC M d a n (-1) ∨ c = mkC M d b n 1 := by simpa using hc
  rcases this with rfl | rfl
  · exact Or.inr rfl
  · exact Or.inl rfl⟩
theorem boys_eq {B : Int} {M M1 : MEM} {d : Nat} {n a b : Int} (hR : Rel B M) (hB : B ≤ 100000000) (hd : (d : Int) < M 3 2) (h : offTh M M1) (ht : thC [] M1) (hn : 1 ≤ n ∧ n ≤ 10) (ha : 0 ≤ a ∧ a ≤ 30) (hb : 0 ≤ b ∧ b ≤ 30) :
    ∃ M2, dh_hourOfBoys d n a b M1 = some (hbN M d n a b, M2) ∧ offTh M M2 ∧ thC [] M2 ∧ offT0 M1 M2 := by
  obtain ⟨M2, e2, k1, k2, k3⟩ := think_eq (d := d) (fr := a) (n := n) (how := -1) hR hB h (by simp) ht (by omega) (by omega)
  obtain ⟨M3, e3, k4, k5, k6⟩ := think_eq (d := d) (fr := b) (n := n) (how := 1) hR hB k1 (by simp) k2 (by omega) (by omega)
  obtain ⟨M4, M5, e4, e5, k7, k8, k9, k10⟩ := run2 hR hB hd k4 okL_2 k5
  obtain ⟨g1, g2⟩ := th_clr k7
  refine ⟨up2 M5 225 4 0, ?_, g1, g2, fun a k x z => ?_⟩
  · unfold dh_hourOfBoys
    rw [e2, Option.bind_some, e3, Option.bind_some, e4, Option.bind_some, e5, Option.bind_some, Option.bind_some, k10 _ (up2_ne (by decide)) (up2_ne (by decide)), Option.bind_some]
    rfl
  · have : up2 M5 225 4 0 a k = M5 a k := by
      rcases z with z | z
      · exact rd_a z
      · exact rd_k z
    rw [this, k9 a k (by simpa using x), k6 a k x z, k3 a k x z]
theorem moBoys_eq {B : Int} {M M0 M1 : MEM} {d : Nat} {n a b : Int} (hR : Rel B M) (hB : B ≤ 100000000) (hd : (d : Int) < M 3 2) (c0 : chg [0, 10] M M0) (h : offThM M0 M1) (ht : thM [] M1) (hn : 1 ≤ n ∧ n ≤ 10) (ha : 0 ≤ a ∧ a ≤ 30) (hb : 0 ≤ b ∧ b ≤ 30) (h0 : M1 301 0 = a) (h1 : M1 301 1 = b) :
    ∃ M2, mo_hourBy d n M1 = some (hbN M d n a b, M2) ∧ offThM M0 M2 ∧ thM [] M2 ∧ moF M1 M2 ∧ M2 301 = M1 301 := by
  obtain ⟨M2, e2, k1, k1', k2, k3⟩ := moThink_eq (l := []) (d := d) (fr := a) (n := n) (how := -1) hR hB c0 h (by simp) ht (by omega) (by omega)
  obtain ⟨M3, e3, k4, k4', k5, k6⟩ := moThink_eq (l := [] ++ [mkC M d a n (-1)]) (d := d) (fr := b) (n := n) (how := 1) hR hB c0 k1 (by simp) k2 (by omega) (by omega)
  obtain ⟨M4, e4, k7, k8, k9, k10⟩ := moHour_eq hR hB hd c0 k4 okL_2 k5
  obtain ⟨g1, g2⟩ := thM_clr k7
  have e2 : mo_think 0 d a n (-1) M1 = some M2 := e2
  have e3 : mo_think 1 d b n 1 M2 = some M3 := e3
  refine ⟨up2 M4 278 8 0, ?_, g1, g2, ((k1'.tr k4').tr k9).tr (moF.up (by decide)), ?_⟩
  · unfold mo_hourBy
    rw [h0, e2, Option.bind_some, k3, h1, e3, Option.bind_some, e4, Option.bind_some, Option.bind_some]
    rfl
  · rw [up2_ne (by decide), k10, k6, k3]
/-- the best of 31, by how long -/
def boN (V : Nat → Int) (gt : Bool) (s0 : Int × Int) : Nat → Int × Int
  | 0 => s0
  | i + 1 => if (if gt = true then (boN V gt s0 i).2 < V i else V i < (boN V gt s0 i).2) then ((i : Int), V i) else boN V gt s0 i
theorem boN_S (V : Nat → Int) (gt : Bool) (s0 : Int × Int) (i : Nat) : boN V gt s0 (i + 1) = if (if gt = true then (boN V gt s0 i).2 < V i else V i < (boN V gt s0 i).2) then ((i : Int), V i) else boN V gt s0 i := rfl
theorem boN_in {V : Nat → Int} {gt : Bool} {s0 : Int × Int} (h : 0 ≤ s0.1 ∧ s0.1 ≤ 30) : ∀ i, i ≤ 31 → 0 ≤ (boN V gt s0 i).1 ∧ (boN V gt s0 i).1 ≤ 30 := by
  intro i
  induction i with
  | zero => intro _; exact h
  | succ i ih =>
    intro hi
    rw [boN_S]
    by_cases c : (if gt = true then (boN V gt s0 i).2 < V i else V i < (boN V gt s0 i).2)
    · rw [if_pos c]; dsimp only; omega
    · rw [if_neg c]; exact ih (by omega)
noncomputable def boV (M : MEM) (d : Nat) (n a b : Int) (gt : Bool) : Nat → Int := fun i => if gt = true then hbN M d n i b else hbN M d n a i
theorem boB_ex : ∃ f : MEM → Nat → Int → Int → Int → Bool → Int, ∀ M d n a b gt, f M d n a b gt = (boN (boV M d n a b gt) gt (if gt = true then a else b, hbN M d n a b) 31).1 := ⟨fun M d n a b gt => (boN (boV M d n a b gt) gt (if gt = true then a else b, hbN M d n a b) 31).1, fun _ _ _ _ _ _ => rfl⟩
/-- kept closed -/
noncomputable def boB : MEM → Nat → Int → Int → Int → Bool → Int := Classical.choose boB_ex
theorem boB_def (M : MEM) (d : Nat) (n a b : Int) (gt : Bool) : boB M d n a b gt = (boN (boV M d n a b gt) gt (if gt = true then a else b, hbN M d n a b) 31).1 := Classical.choose_spec boB_ex M d n a b gt
theorem boB_in {M : MEM} {d : Nat} {n a b : Int} {gt : Bool} (ha : 0 ≤ a ∧ a ≤ 30) (hb : 0 ≤ b ∧ b ≤ 30) : 0 ≤ boB M d n a b gt ∧ boB M d n a b gt ≤ 30 := by
  rw [boB_def]
  exact boN_in (by dsimp only; split <;> omega) 31 (Nat.le_refl _)
theorem better_m (v t : Int) : dh_isBetter (-1) v t = if t < v then 1 else 0 := by
  unfold dh_isBetter
  rw [if_neg (by decide)]
  by_cases c : t < v
  · rw [if_neg (by omega), if_pos c]
  · rw [if_pos (by omega), if_neg c]
theorem better_p (v t : Int) : dh_isBetter 1 v t = if v < t then 1 else 0 := by
  unfold dh_isBetter
  rw [if_pos (by decide)]
  by_cases c : v < t
  · rw [if_neg (by omega), if_pos c]
  · rw [if_pos (by omega), if_neg c]
theorem best_eq {B : Int} {M M1 : MEM} {d : Nat} {n a b boy : Int} {gt : Bool} (hR : Rel B M) (hB : B ≤ 100000000) (hd : (d : Int) < M 3 2) (h : offTh M M1) (ht : thC [] M1) (hn : 1 ≤ n ∧ n ≤ 10) (ha : 0 ≤ a ∧ a ≤ 30) (hb : 0 ≤ b ∧ b ≤ 30) (hboy : (boy = 0 ∧ gt = true) ∨ (boy = 1 ∧ gt = false)) :
    ∃ M2, dh_bestOfBoy d n boy a b M1 = some (boB M d n a b gt, M2) ∧ offTh M M2 ∧ thC [] M2 := by
  obtain ⟨M2, e2, k1, k2, -⟩ := boys_eq hR hB hd h ht hn ha hb
  have l1 : Tc (iter (fun s => dh_bestOfBoy_b28 d n boy a b s.1 s.2.1 s.2.2.1 s.2.2.2) FU ((if gt = true then a else b), hbN M d n a b, 0, M2)) (fun r => r.1 = boB M d n a b gt ∧ offTh M r.2.2.2 ∧ thC [] r.2.2.2) := by
    refine Tc_n (fun i s => s.1 = (boN (boV M d n a b gt) gt (if gt = true then a else b, hbN M d n a b) i).1 ∧ s.2.1 = (boN (boV M d n a b gt) gt (if gt = true then a else b, hbN M d n a b) i).2 ∧ s.2.2.1 = (i : Int) ∧ offTh M s.2.2.2 ∧ thC [] s.2.2.2) 31 ⟨rfl, rfl, rfl, k1, k2⟩ (by omega) (fun i s hi hI => ?_) (fun s hI => ?_)
    · obtain ⟨y, y', z, M3⟩ := s
      obtain ⟨rfl, rfl, rfl, q1, q2⟩ := hI
      dsimp only at q1 q2 ⊢
      have wi : wr ((i : Int) + 1) = ((i + 1 : Nat) : Int) := (wr_i (by omega) (by omega)).trans (by omega)
      generalize hs : boN (boV M d n a b gt) gt (if gt = true then a else b, hbN M d n a b) i = s1 at *
      have hS := boN_S (boV M d n a b gt) gt (if gt = true then a else b, hbN M d n a b) i
      rw [hs] at hS
      unfold dh_bestOfBoy_b28
      refine Tc_f (by omega) ?_
      have fin : ∀ (v : Int) (M4 : MEM), v = boV M d n a b gt i → offTh M M4 → thC [] M4 → Tc (dh_bestOfBoy_j62_28 d n boy a b s1.1 s1.2 i v M4) (fun r => ∃ s', r = .inl s' ∧ s'.1 = (boN (boV M d n a b gt) gt (if gt = true then a else b, hbN M d n a b) (i + 1)).1 ∧ s'.2.1 = (boN (boV M d n a b gt) gt (if gt = true then a else b, hbN M d n a b) (i + 1)).2 ∧ s'.2.2.1 = ((i + 1 : Nat) : Int) ∧ offTh M s'.2.2.2 ∧ thC [] s'.2.2.2) := fun v M4 hv g1 g2 => by
        unfold dh_bestOfBoy_j62_28 dh_bestOfBoy_j73_28 dh_bestOfBoy_j91_28
        rw [wi, hS, ← hv]
        rcases hboy with ⟨rfl, rfl⟩ | ⟨rfl, rfl⟩
        · refine Tc_t rfl ?_
          have hbt := better_m v s1.2
          by_cases c : s1.2 < v
          · rw [if_pos c] at hbt
            have hc : (if (true : Bool) = true then s1.2 < v else v < s1.2) := c
            rw [if_pos hc]
            exact Tc_f (by rw [hbt]; decide) (Tc_inl ⟨rfl, rfl, rfl, g1, g2⟩)
          · rw [if_neg c] at hbt
            have hc : ¬ (if (true : Bool) = true then s1.2 < v else v < s1.2) := c
            rw [if_neg hc]
            exact Tc_t hbt (Tc_inl ⟨rfl, rfl, rfl, g1, g2⟩)
        · refine Tc_f (by decide) ?_
          have hbt := better_p v s1.2
          by_cases c : v < s1.2
          · rw [if_pos c] at hbt
            have hc : (if (false : Bool) = true then s1.2 < v else v < s1.2) := c
            rw [if_pos hc]
            exact Tc_f (by rw [hbt]; decide) (Tc_inl ⟨rfl, rfl, rfl, g1, g2⟩)
          · rw [if_neg c] at hbt
            have hc : ¬ (if (false : Bool) = true then s1.2 < v else v < s1.2) := c
            rw [if_neg hc]
            exact Tc_t hbt (Tc_inl ⟨rfl, rfl, rfl, g1, g2⟩)
      rcases hboy with ⟨rfl, rfl⟩ | ⟨rfl, rfl⟩
      · obtain ⟨M4, e4, g1, g2, -⟩ := boys_eq (a := (i : Int)) (b := b) hR hB hd q1 q2 hn (by omega) hb
        exact Tc_t rfl (Tc_e e4 (fin _ _ rfl g1 g2))
      · obtain ⟨M4, e4, g1, g2, -⟩ := boys_eq (a := a) (b := (i : Int)) hR hB hd q1 q2 hn ha (by omega)
        exact Tc_f (by decide) (Tc_e e4 (fin _ _ rfl g1 g2))
    · obtain ⟨y, y', z, M3⟩ := s
      obtain ⟨rfl, rfl, rfl, q1, q2⟩ := hI
      unfold dh_bestOfBoy_b28
      exact Tc_t (by show (30 : Int) < ((31 : Nat) : Int); omega) (Tc_inr ⟨(boB_def _ _ _ _ _ _).symm, q1, q2⟩)
  obtain ⟨r, e3, g1, g2, g3⟩ := l1
  refine ⟨r.2.2.2, ?_, g2, g3⟩
  unfold dh_bestOfBoy dh_bestOfBoy_j11
  rcases hboy with ⟨rfl, rfl⟩ | ⟨rfl, rfl⟩
  · rw [if_pos rfl, e2, Option.bind_some]
    rw [if_pos rfl] at e3
    rw [e3, Option.bind_some, g1]
  · rw [if_neg (by decide), e2, Option.bind_some]
    rw [if_neg (by decide)] at e3
    rw [e3, Option.bind_some, g1]
/-- behind j turns: both MINUTES, how many changed nothing -/
noncomputable def rsN (M : MEM) (d : Nat) (n : Int) : Nat → Int × Int × Int
  | 0 => (0, 0, 0)
  | j + 1 => if j % 2 = 0 then (boB M d n (rsN M d n j).1 (rsN M d n j).2.1 true, (rsN M d n j).2.1, if boB M d n (rsN M d n j).1 (rsN M d n j).2.1 true = (rsN M d n j).1 then (rsN M d n j).2.2 + 1 else 0)
    else ((rsN M d n j).1, boB M d n (rsN M d n j).1 (rsN M d n j).2.1 false, if boB M d n (rsN M d n j).1 (rsN M d n j).2.1 false = (rsN M d n j).2.1 then (rsN M d n j).2.2 + 1 else 0)
theorem rsN_S (M : MEM) (d : Nat) (n : Int) (j : Nat) : rsN M d n (j + 1) = if j % 2 = 0 then (boB M d n (rsN M d n j).1 (rsN M d n j).2.1 true, (rsN M d n j).2.1, if boB M d n (rsN M d n j).1 (rsN M d n j).2.1 true = (rsN M d n j).1 then (rsN M d n j).2.2 + 1 else 0)
    else ((rsN M d n j).1, boB M d n (rsN M d n j).1 (rsN M d n j).2.1 false, if boB M d n (rsN M d n j).1 (rsN M d n j).2.1 false = (rsN M d n j).2.1 then (rsN M d n j).2.2 + 1 else 0) := rfl
theorem rsN_in (M : MEM) (d : Nat) (n : Int) : ∀ j : Nat, (0 ≤ (rsN M d n j).1 ∧ (rsN M d n j).1 ≤ 30) ∧ (0 ≤ (rsN M d n j).2.1 ∧ (rsN M d n j).2.1 ≤ 30) ∧ 0 ≤ (rsN M d n j).2.2 ∧ (rsN M d n j).2.2 ≤ j := by
  intro j
  induction j with
  | zero => exact ⟨⟨Int.le_refl _, (by decide : (0 : Int) ≤ 30)⟩, ⟨Int.le_refl _, (by decide : (0 : Int) ≤ 30)⟩, Int.le_refl _, Int.le_refl _⟩
  | succ j ih =>
    obtain ⟨h1, h2, h3, h4⟩ := ih
    rw [rsN_S]
    split
    · refine ⟨boB_in h1 h2, h2, ?_, ?_⟩ <;> dsimp only <;> split <;> omega
    · refine ⟨h1, boB_in h1 h2, ?_, ?_⟩ <;> dsimp only <;> split <;> omega
/-- so many turns it takes -/
def rsE (M : MEM) (d : Nat) (n m : Int) (J : Nat) : Prop := (J : Int) ≤ m ∧ ((J : Int) = m ∨ 2 ≤ (rsN M d n J).2.2) ∧ ∀ j, j < J → (rsN M d n j).2.2 < 2
theorem rsE_uniq {M : MEM} {d : Nat} {n m : Int} {J K : Nat} (h : rsE M d n m J) (g : rsE M d n m K) : J = K := by
  obtain ⟨h1, h2, h3⟩ := h
  obtain ⟨g1, g2, g3⟩ := g
  rcases Nat.lt_trichotomy J K with q | q | q
  · have := g3 J q
    omega
  · exact q
  · have := h3 K q
    omega
theorem c_rests {B : Int} {M : MEM} (h : Rel B M) (hB : B ≤ 100000000) (x n m : Int) : Lk B (dh_rests x n m M) (mo_rests x n m) := by
  have nw := now_in h
  have c3 : chg [0] M (up2 M 278 13 0) := chg.rf.up (by decide)
  unfold Lk dh_rests
  by_cases hd : 0 ≤ x ∧ x < M 3 2
  · have hN := h.S.2.2.1
    refine Tc_f (by rw [isDonkey_y h.S.2.2.1 hd.1 hd.2]; decide) ?_
    by_cases hn : 1 ≤ n ∧ n ≤ 10
    · refine Tc_f (by omega) (Tc_f (by omega) ?_)
      by_cases hm : 0 ≤ m ∧ m ≤ 20
      · refine Tc_f (by omega) (Tc_t hm.2 ?_)
        obtain ⟨d, rfl⟩ : ∃ d : Nat, x = (d : Int) := ⟨x.toNat, by omega⟩
        have l1 : Tc (iter (fun s => dh_rests_b43 d n m s.1 s.2.1 s.2.2.1 s.2.2.2.1 s.2.2.2.2) FU (0, 0, 0, 0, M)) (fun r => ∃ J : Nat, rsE M d n m J ∧ r.1 = (rsN M d n J).1 ∧ r.2.1 = (rsN M d n J).2.1 ∧ r.2.2.1 = (J : Int) ∧ r.2.2.2.1 = (rsN M d n J).2.2 ∧ offTh M r.2.2.2.2 ∧ thC [] r.2.2.2.2) := by
          refine Tc_l (fun j s => s.1 = (rsN M d n j).1 ∧ s.2.1 = (rsN M d n j).2.1 ∧ s.2.2.1 = (j : Int) ∧ s.2.2.2.1 = (rsN M d n j).2.2 ∧ offTh M s.2.2.2.2 ∧ thC [] s.2.2.2.2 ∧ ∀ j', j' < j → (rsN M d n j').2.2 < 2) _ m.toNat ⟨rfl, rfl, rfl, rfl, (th_0 h).1, (th_0 h).2, fun j' q => by omega⟩ (by omega) (fun j s hj hI => ?_) (fun s hI => ?_)
          · obtain ⟨y1, y2, y3, y4, M1⟩ := s
            obtain ⟨rfl, rfl, rfl, rfl, q1, q2, q3⟩ := hI
            dsimp only at q1 q2 q3 ⊢
            have wj : wr ((j : Int) + 1) = ((j + 1 : Nat) : Int) := (wr_i (by omega) (by omega)).trans (by omega)
            obtain ⟨i1, i2, i3, i4⟩ := rsN_in M d n j
            have hS := rsN_S M d n j
            have htm : Int.tmod (j : Int) 2 = ((j % 2 : Nat) : Int) := by rw [tmod_nn (by omega)]; omega
            unfold dh_rests_b43
            refine Tc_f (by omega) (Tc_i (fun c => Tc_inrR ⟨j, ⟨by omega, Or.inr c, q3⟩, rfl, rfl, rfl, rfl, q1, q2⟩) (fun c => ?_))
            rw [htm]
            have q3' : ∀ j', j' < j + 1 → (rsN M d n j').2.2 < 2 := fun j' hj' => by
              by_cases e : j' = j
              · subst e; omega
              · exact q3 j' (by omega)
            unfold dh_rests_j73_43 dh_rests_j101_43 dh_rests_j116_43 dh_rests_j133_43
            rw [wj]
            by_cases p : j % 2 = 0
            · rw [p]
              rw [if_pos p] at hS
              obtain ⟨M2, e2, k1, k2⟩ := best_eq (boy := 0) (gt := true) h hB hd.2 q1 q2 hn i1 i2 (Or.inl ⟨rfl, rfl⟩)
              refine Tc_t rfl (Tc_e e2 (Tc_t rfl (Tc_f (by decide) ?_)))
              dsimp only
              refine Tc_i (fun z => Tc_inlL ⟨by rw [hS], by rw [hS], rfl, ?_, k1, k2, q3'⟩) (fun z => Tc_inlL ⟨by rw [hS], by rw [hS], rfl, ?_, k1, k2, q3'⟩)
              · dsimp only; rw [hS]; dsimp only; rw [if_pos z]; exact wr_i (by omega) (by omega)
              · dsimp only; rw [hS]; dsimp only; rw [if_neg z]
            · have p1 : j % 2 = 1 := by omega
              rw [p1]
              rw [if_neg p] at hS
              obtain ⟨M2, e2, k1, k2⟩ := best_eq (boy := 1) (gt := false) h hB hd.2 q1 q2 hn i1 i2 (Or.inr ⟨rfl, rfl⟩)
              refine Tc_f (by decide) (Tc_e e2 (Tc_f (by decide) (Tc_t rfl ?_)))
              dsimp only
              refine Tc_i (fun z => Tc_inlL ⟨by rw [hS], by rw [hS], rfl, ?_, k1, k2, q3'⟩) (fun z => Tc_inlL ⟨by rw [hS], by rw [hS], rfl, ?_, k1, k2, q3'⟩)
              · dsimp only; rw [hS]; dsimp only; rw [if_pos z]; exact wr_i (by omega) (by omega)
              · dsimp only; rw [hS]; dsimp only; rw [if_neg z]
          · obtain ⟨y1, y2, y3, y4, M1⟩ := s
            obtain ⟨rfl, rfl, rfl, rfl, q1, q2, q3⟩ := hI
            unfold dh_rests_b43
            exact Tc_t (by show m ≤ ((m.toNat : Nat) : Int); omega) (Tc_inr ⟨m.toNat, ⟨by omega, Or.inl (by omega), q3⟩, rfl, rfl, rfl, rfl, q1, q2⟩)
        refine Tc_c l1 (fun r hr => ?_)
        obtain ⟨y1, y2, y3, y4, M1⟩ := r
        obtain ⟨J, hJ, rfl, rfl, rfl, rfl, q1, q2⟩ := hr
        dsimp only at q1 q2 ⊢
        obtain ⟨i1, i2, i3, i4⟩ := rsN_in M d n J
        -- the reference
        have mo : ∀ M2 : MEM, chg [0, 10] M M2 → Tc (mo_rests d n m M2) (fun q => q.1 = (J : Int) ∧ rowM [if (rsN M d n J).2.2 = 2 then 1 else 0, (rsN M d n J).1, (rsN M d n J).2.1, hbN M d n (rsN M d n J).1 (rsN M d n J).2.1] q.2 ∧ moF M2 q.2 ∧ chg [0, 10] M q.2) := fun M2 c2 => by
          unfold mo_rests
          have c4 : chg [0, 10] M (up2 M2 278 13 0) := c2.up (by decide)
          refine Tc_u (Tc_f (by rw [moDonkey_y h.S (c4 278 1 (by decide)) hd]; decide) (Tc_f (by rw [moIn_y hn]; decide) (Tc_f (by rw [moIn_y hm]; decide) (Tc_u (Tc_u ?_)))))
          have c5 : chg [0, 10] M (up2 (up2 (up2 M2 278 13 0) 301 0 0) 301 1 0) := (c4.up (by decide)).up (by decide)
          have m5 : moF M2 (up2 (up2 (up2 M2 278 13 0) 301 0 0) 301 1 0) := ((moF.up (by decide)).tr (moF.up (by decide))).tr (moF.up (by decide))
          have b0 : up2 (up2 (up2 M2 278 13 0) 301 0 0) 301 1 0 301 0 = 0 := by rw [rd_k (by decide), rd_same]
          have b1 : up2 (up2 (up2 M2 278 13 0) 301 0 0) 301 1 0 301 1 = 0 := rd_same
          generalize up2 (up2 (up2 M2 278 13 0) 301 0 0) 301 1 0 = M3 at *
          have h8 : M3 278 8 = 0 := (c5 278 8 (by decide)).trans h.N.2.2.2.2.2.1
          have l2 : Tc (iter (fun s => mo_rests_b55 d n m s.1 s.2.1 s.2.2) FU (0, 0, M3)) (fun r => ∃ K : Nat, rsE M d n m K ∧ r.1 = (K : Int) ∧ r.2.1 = (rsN M d n K).2.2 ∧ r.2.2 301 0 = (rsN M d n K).1 ∧ r.2.2 301 1 = (rsN M d n K).2.1 ∧ offThM M3 r.2.2 ∧ thM [] r.2.2 ∧ moF M3 r.2.2) := by
            refine Tc_l (fun j s => s.1 = (j : Int) ∧ s.2.1 = (rsN M d n j).2.2 ∧ s.2.2 301 0 = (rsN M d n j).1 ∧ s.2.2 301 1 = (rsN M d n j).2.1 ∧ offThM M3 s.2.2 ∧ thM [] s.2.2 ∧ moF M3 s.2.2 ∧ ∀ j', j' < j → (rsN M d n j').2.2 < 2) _ m.toNat ⟨rfl, rfl, b0, b1, (thM_0 h8).1, (thM_0 h8).2, moF.rf, fun j' q => by omega⟩ (by omega) (fun j s hj hI => ?_) (fun s hI => ?_)
            · obtain ⟨y1, y2, M4⟩ := s
              obtain ⟨rfl, rfl, q1, q2, q3, q4, q5, q6⟩ := hI
              dsimp only at q1 q2 q3 q4 q5 q6 ⊢
              have wj : wr ((j : Int) + 1) = ((j + 1 : Nat) : Int) := (wr_i (by omega) (by omega)).trans (by omega)
              obtain ⟨i1, i2, i3, i4⟩ := rsN_in M d n j
              have hS := rsN_S M d n j
              have htm : Int.tmod (j : Int) 2 = ((j % 2 : Nat) : Int) := by rw [tmod_nn (by omega)]; omega
              have q6' : (rsN M d n j).2.2 < 2 → ∀ j', j' < j + 1 → (rsN M d n j').2.2 < 2 := fun c j' hj' => by
                by_cases e : j' = j
                · subst e; exact c
                · exact q6 j' (by omega)
              unfold mo_rests_b55
              refine Tc_f (by omega) (Tc_i (fun c => Tc_inrR ⟨j, ⟨by omega, Or.inr c, q6⟩, rfl, rfl, q1, q2, q3, q4, q5⟩) (fun c => ?_))
              rw [htm]
              simp only [toNat_c]
              have c : (rsN M d n j).2.2 < 2 := by omega
              obtain ⟨M5, e5, g1, g2, g3, g4⟩ := moBoys_eq h hB hd.2 c5 q3 q4 hn i1 i2 q1 q2
              refine Tc_t (by omega) (Tc_e e5 ?_)
              dsimp only
              generalize hA : (rsN M d n j).1 = A at *
              generalize hC : (rsN M d n j).2.1 = C at *
              -- the best of one boy
              have inner : ∀ (by' : Nat) (gt : Bool) (had : Int), ((by' = 0 ∧ gt = true ∧ had = A) ∨ (by' = 1 ∧ gt = false ∧ had = C)) → Tc (iter (fun s => mo_rests_b97 d n m j (rsN M d n j).2.2 by' had s.1 s.2.1 s.2.2.1 s.2.2.2) FU (had, hbN M d n A C, 0, M5)) (fun r => r.1 = boB M d n A C gt ∧ offThM M3 r.2.2.2 ∧ thM [] r.2.2.2 ∧ moF M3 r.2.2.2 ∧ r.2.2.2 301 (1 - by') = (if gt = true then C else A)) := fun by' gt had hby => by
                have hini : (had, hbN M d n A C) = ((if gt = true then A else C), hbN M d n A C) := by
                  rcases hby with ⟨-, rfl, rfl⟩ | ⟨-, rfl, rfl⟩ <;> rfl
                refine Tc_n (fun i s => s.1 = (boN (boV M d n A C gt) gt (had, hbN M d n A C) i).1 ∧ s.2.1 = (boN (boV M d n A C gt) gt (had, hbN M d n A C) i).2 ∧ s.2.2.1 = (i : Int) ∧ offThM M3 s.2.2.2 ∧ thM [] s.2.2.2 ∧ moF M3 s.2.2.2 ∧ s.2.2.2 301 (1 - by') = (if gt = true then C else A)) 31 ⟨rfl, rfl, rfl, g1, g2, q5.tr g3, ?_⟩ (by omega) (fun i s hi hI => ?_) (fun s hI => ?_)
                · dsimp only
                  rw [g4]
                  rcases hby with ⟨rfl, rfl, rfl⟩ | ⟨rfl, rfl, rfl⟩
                  · exact q2
                  · exact q1
                · obtain ⟨y, y', z, M6⟩ := s
                  obtain ⟨rfl, rfl, rfl, k1, k2, k3, k4⟩ := hI
                  dsimp only at k1 k2 k3 k4 ⊢
                  have wi : wr ((i : Int) + 1) = ((i + 1 : Nat) : Int) := (wr_i (by omega) (by omega)).trans (by omega)
                  generalize hs : boN (boV M d n A C gt) gt (had, hbN M d n A C) i = s1 at *
                  have hS1 := boN_S (boV M d n A C gt) gt (had, hbN M d n A C) i
                  rw [hs] at hS1
                  have k1' : offThM M3 (up2 M6 301 by' (i : Int)) := k1.tr (chg.rf.up (show rg 301 by' ∈ [0] from List.mem_singleton.mpr rfl))
                  have k2' : thM [] (up2 M6 301 by' (i : Int)) := ⟨by rw [rd_a (by decide)]; exact k2.1, fun i c hc => by cases hc⟩
                  have hv : ∃ M7, mo_hourBy d n (up2 M6 301 by' (i : Int)) = some (boV M d n A C gt i, M7) ∧ offThM M3 M7 ∧ thM [] M7 ∧ moF (up2 M6 301 by' (i : Int)) M7 ∧ M7 301 = up2 M6 301 by' (i : Int) 301 := by
                    rcases hby with ⟨rfl, rfl, rfl⟩ | ⟨rfl, rfl, rfl⟩
                    · exact moBoys_eq h hB hd.2 c5 k1' k2' hn (by omega) i2 rd_same ((rd_k (by decide)).trans k4)
                    · exact moBoys_eq h hB hd.2 c5 k1' k2' hn i1 (by omega) ((rd_k (by decide)).trans k4) rd_same
                  obtain ⟨M7, e7, v1, v2, v3, v4⟩ := hv
                  have k5 : moF M3 M7 := (k3.tr (moF.up (by decide))).tr v3
                  have k6 : M7 301 (1 - by') = (if gt = true then C else A) := by
                    rw [v4, rd_k (by rcases hby with ⟨rfl, -⟩ | ⟨rfl, -⟩ <;> decide)]; exact k4
                  unfold mo_rests_b97 mo_rests_j146_97 mo_rests_j154_97
                  rw [toNat_c, wi, hS1]
                  refine Tc_f (by omega) (Tc_t (by rcases hby with ⟨rfl, -⟩ | ⟨rfl, -⟩ <;> decide) (Tc_u (Tc_e e7 ?_)))
                  dsimp only
                  generalize boV M d n A C gt i = v at *
                  rcases hby with ⟨rfl, rfl, rfl⟩ | ⟨rfl, rfl, rfl⟩
                  · refine Tc_t rfl ?_
                    by_cases z : s1.2 < v
                    · have hc : (if (true : Bool) = true then s1.2 < v else v < s1.2) := z
                      rw [if_pos hc]
                      exact Tc_t z (Tc_inl ⟨rfl, rfl, rfl, v1, v2, k5, k6⟩)
                    · have hc : ¬ (if (true : Bool) = true then s1.2 < v else v < s1.2) := z
                      rw [if_neg hc]
                      exact Tc_f z (Tc_inl ⟨rfl, rfl, rfl, v1, v2, k5, k6⟩)
                  · refine Tc_f (by decide) ?_
                    by_cases z : v < s1.2
                    · have hc : (if (false : Bool) = true then s1.2 < v else v < s1.2) := z
                      rw [if_pos hc]
                      exact Tc_t z (Tc_inl ⟨rfl, rfl, rfl, v1, v2, k5, k6⟩)
                    · have hc : ¬ (if (false : Bool) = true then s1.2 < v else v < s1.2) := z
                      rw [if_neg hc]
                      exact Tc_f z (Tc_inl ⟨rfl, rfl, rfl, v1, v2, k5, k6⟩)
                · obtain ⟨y, y', z, M6⟩ := s
                  obtain ⟨rfl, rfl, rfl, k1, k2, k3, k4⟩ := hI
                  unfold mo_rests_b97
                  refine Tc_t (by show (30 : Int) < ((31 : Nat) : Int); omega) (Tc_inr ⟨?_, k1, k2, k3, k4⟩)
                  dsimp only
                  rw [hini, boB_def]
              have close : ∀ (by' : Nat) (bst had : Int) (M6 : MEM), by' < 2 → offThM M3 M6 → thM [] M6 → moF M3 M6 → (rsN M d n (j + 1)).2.2 = (if bst = had then (rsN M d n j).2.2 + 1 else 0) → (rsN M d n (j + 1)).1 = (if by' = 0 then bst else M6 301 0) → (rsN M d n (j + 1)).2.1 = (if by' = 1 then bst else M6 301 1) → Tc (if 0 ≤ (by' : Int) ∧ (by' : Int) < 2 then (some (up2 M6 301 by' bst)).bind fun M34 => if bst = had then mo_rests_j184_55 d n m j (wr ((rsN M d n j).2.2 + 1)) M34 else mo_rests_j184_55 d n m j 0 M34 else none) (fun r => (∃ s', r = .inl s' ∧ (s'.1 = ((j + 1 : Nat) : Int) ∧ s'.2.1 = (rsN M d n (j + 1)).2.2 ∧ s'.2.2 301 0 = (rsN M d n (j + 1)).1 ∧ s'.2.2 301 1 = (rsN M d n (j + 1)).2.1 ∧ offThM M3 s'.2.2 ∧ thM [] s'.2.2 ∧ moF M3 s'.2.2 ∧ ∀ j', j' < j + 1 → (rsN M d n j').2.2 < 2)) ∨ ∃ e, r = .inr e ∧ ∃ K : Nat, rsE M d n m K ∧ e.1 = (K : Int) ∧ e.2.1 = (rsN M d n K).2.2 ∧ e.2.2 301 0 = (rsN M d n K).1 ∧ e.2.2 301 1 = (rsN M d n K).2.1 ∧ offThM M3 e.2.2 ∧ thM [] e.2.2 ∧ moF M3 e.2.2) := fun by' bst had M6 hb2 k1 k2 k3 k4 k5 k6 => by
                have k1' : offThM M3 (up2 M6 301 by' bst) := k1.tr (chg.rf.up (show rg 301 by' ∈ [0] from List.mem_singleton.mpr rfl))
                have k2' : thM [] (up2 M6 301 by' bst) := ⟨by rw [rd_a (by decide)]; exact k2.1, fun i c hc => by cases hc⟩
                have k3' : moF M3 (up2 M6 301 by' bst) := k3.tr (moF.up (by decide))
                have a0 : up2 M6 301 by' bst 301 0 = (rsN M d n (j + 1)).1 := by
                  rw [k5]
                  by_cases e : by' = 0
                  · subst e; rw [if_pos rfl, rd_same]
                  · rw [if_neg e, rd_k (by omega)]
                have a1 : up2 M6 301 by' bst 301 1 = (rsN M d n (j + 1)).2.1 := by
                  rw [k6]
                  by_cases e : by' = 1
                  · subst e; rw [if_pos rfl, rd_same]
                  · rw [if_neg e, rd_k (by omega)]
                unfold mo_rests_j184_55
                rw [wj]
                refine Tc_t (by omega) (Tc_u (Tc_i (fun z => Tc_inlL ⟨rfl, ?_, a0, a1, k1', k2', k3', q6' c⟩) (fun z => Tc_inlL ⟨rfl, ?_, a0, a1, k1', k2', k3', q6' c⟩)))
                · dsimp only; rw [k4, if_pos z]; exact wr_i (by omega) (by omega)
                · dsimp only; rw [k4, if_neg z]
              by_cases p : j % 2 = 0
              · rw [p, q1]
                rw [if_pos p] at hS
                refine Tc_c (inner 0 true A (Or.inl ⟨rfl, rfl, rfl⟩)) (fun r hr => ?_)
                obtain ⟨r1, r2, r3, r4, r5⟩ := hr
                rw [r1]
                refine close 0 _ A r.2.2.2 (by decide) r2 r3 r4 ?_ ?_ ?_
                · rw [hS]
                · rw [hS, if_pos rfl]
                · rw [hS, if_neg (show ¬ (0 : Nat) = 1 by decide)]; exact r5.symm
              · have p1 : j % 2 = 1 := by omega
                rw [p1, q2]
                rw [if_neg p] at hS
                refine Tc_c (inner 1 false C (Or.inr ⟨rfl, rfl, rfl⟩)) (fun r hr => ?_)
                obtain ⟨r1, r2, r3, r4, r5⟩ := hr
                rw [r1]
                refine close 1 _ C r.2.2.2 (by decide) r2 r3 r4 ?_ ?_ ?_
                · rw [hS]
                · rw [hS, if_neg (show ¬ (1 : Nat) = 0 by decide)]; exact r5.symm
                · rw [hS, if_pos rfl]
            · obtain ⟨y1, y2, M4⟩ := s
              obtain ⟨rfl, rfl, q1, q2, q3, q4, q5, q6⟩ := hI
              unfold mo_rests_b55
              exact Tc_t (by show m ≤ ((m.toNat : Nat) : Int); omega) (Tc_inr ⟨m.toNat, ⟨by omega, Or.inl (by omega), q6⟩, rfl, rfl, q1, q2, q3, q4, q5⟩)
          refine Tc_c l2 (fun r hr => ?_)
          obtain ⟨y1, y2, M4⟩ := r
          obtain ⟨K, hK, rfl, rfl, q1, q2, q3, q4, q5⟩ := hr
          dsimp only at q1 q2 q3 q4 q5 ⊢
          have := rsE_uniq hK hJ
          subst this
          obtain ⟨M5, e5, g1, g2, g3, g4⟩ := moBoys_eq h hB hd.2 c5 q3 q4 hn i1 i2 q1 q2
          unfold mo_rests_j192 mo_rests_j217
          refine Tc_e e5 (Tc_u ?_)
          dsimp only
          obtain ⟨x1, x2⟩ := moRow0 M5
          have c6 : chg [0, 10] M M5 := c5.tr ((g1.fin h8 g2).sub (by decide))
          have fin : ∀ u : Int, u = (if (rsN M d n K).2.2 = 2 then 1 else 0) → Tc ((mo_tell u (up2 M5 278 12 0)).bind fun M45 => (mo_tell (M45 301 0) M45).bind fun M47 => (mo_tell (M47 301 1) M47).bind fun M49 => (mo_tell (hbN M d n (rsN M d n K).1 (rsN M d n K).2.1) M49).bind fun M51 => some ((K : Int), M51)) (fun q => q.1 = (K : Int) ∧ rowM [if (rsN M d n K).2.2 = 2 then 1 else 0, (rsN M d n K).1, (rsN M d n K).2.1, hbN M d n (rsN M d n K).1 (rsN M d n K).2.1] q.2 ∧ moF M2 q.2 ∧ chg [0, 10] M q.2) := fun u hu => by
            obtain ⟨M6, t1, t2, t3⟩ := moTell_eq u x1 (by simp)
            have b0 : M6 301 0 = (rsN M d n K).1 := by rw [(x2.tr t3).cell (by decide) (by decide), g4]; exact q1
            obtain ⟨M7, u1, u2, u3⟩ := moTell_eq (rsN M d n K).1 t2 (by simp)
            have b1 : M7 301 1 = (rsN M d n K).2.1 := by rw [((x2.tr t3).tr u3).cell (by decide) (by decide), g4]; exact q2
            obtain ⟨M8, v1, v2, v3⟩ := moTell_eq (rsN M d n K).2.1 u2 (by simp)
            obtain ⟨M9, w1, w2, w3⟩ := moTell_eq (hbN M d n (rsN M d n K).1 (rsN M d n K).2.1) v2 (by simp)
            refine Tc_e t1 ?_
            rw [b0]
            refine Tc_e u1 ?_
            rw [b1]
            refine Tc_e v1 (Tc_e w1 (Tc_some ⟨rfl, ?_, ?_, ?_⟩))
            · rw [← hu]; exact w2
            · exact ((m5.tr q5).tr g3).tr (((x2.tr t3).tr u3).tr (v3.tr w3)).mo
            · exact c6.tr (((x2.tr t3).tr u3).tr (v3.tr w3)).chg
          by_cases z : (rsN M d n K).2.2 = 2
          · exact Tc_t z (fin 1 (by rw [if_pos z]))
          · exact Tc_f z (fin 0 (by rw [if_neg z]))
        unfold dh_rests_j141 dh_rests_j157
        obtain ⟨M2, n1, n2, n3⟩ := newRow_eq M1
        refine Tc_e n1 ?_
        have offTh_C : ∀ {N N' : MEM}, offTh M N → thC [] N → offC N N' → offTh M N' ∧ thC [] N' := fun {N N'} a b o => ⟨fun c k x y z => (o c k (by
            by_cases e : c = 0
            · subst e
              refine Or.inr (fun e => y ?_)
              subst e; rfl
            · exact Or.inl e) (fun e => y (by subst e; rfl))).trans (a c k x y z), by rw [o 225 4 (by decide) (by decide)]; exact b.1, fun i c hc => by cases hc⟩
        have fin : ∀ u : Int, u = (if (rsN M d n J).2.2 = 2 then 1 else 0) → Tc ((dh_tell u M2).bind fun M24 => (dh_tell (rsN M d n J).1 M24).bind fun M26 => (dh_tell (rsN M d n J).2.1 M26).bind fun M28 => (dh_hourOfBoys d n (rsN M d n J).1 (rsN M d n J).2.1 M28).bind fun p30 => (dh_tell p30.1 p30.2).bind fun M34 => some ((J : Int), M34)) (fun p => Tc (mo_rests d n m p.2) (fun q => q.1 = p.1 ∧ Rel B q.2)) := fun u hu => by
          obtain ⟨M3, t1, t2, t3⟩ := tell_eq u n2 (by simp)
          obtain ⟨M4, u1, u2, u3⟩ := tell_eq (rsN M d n J).1 t2 (by simp)
          obtain ⟨M5, v1, v2, v3⟩ := tell_eq (rsN M d n J).2.1 u2 (by simp)
          have oC : offC M1 M5 := ((n3.tr t3).tr u3).tr v3
          obtain ⟨o5, o5'⟩ := offTh_C q1 q2 oC
          obtain ⟨M6, e6, k1, k2, k3⟩ := boys_eq h hB hd.2 o5 o5' hn i1 i2
          have v2' : rowC ([] ++ [u] ++ [(rsN M d n J).1] ++ [(rsN M d n J).2.1]) M6 := v2.off (k3 0 14 (by decide) (Or.inl (by decide))) (funext fun k => k3 245 k (by decide : (10 : Nat) ≠ 0) (Or.inl (by decide)))
          obtain ⟨M7, w1, w2, w3⟩ := tell_eq (hbN M d n (rsN M d n J).1 (rsN M d n J).2.1) v2' (by simp)
          obtain ⟨o7, o7'⟩ := offTh_C k1 k2 w3
          refine Tc_e t1 (Tc_e u1 (Tc_e v1 (Tc_e e6 (Tc_e w1 (Tc_some (Tc_m (mo M7 (o7.fin h o7')) fun q hq => ?_))))))
          rw [← hu] at hq
          exact ⟨hq.1, h.go10 hq.2.2.2 (w2.fin hq.2.2.1 hq.2.1 (by simp))⟩
        by_cases z : (rsN M d n J).2.2 = 2
        · exact Tc_t z (fin 1 (by rw [if_pos z]))
        · exact Tc_f z (fin 0 (by rw [if_neg z]))
      · have mo : Tc (mo_rests x n m M) (fun q => q.1 = -1 ∧ Rel B q.2) := by
          unfold mo_rests
          exact Tc_u (Tc_f (by rw [moDonkey_y h.S (c3 278 1 (by decide)) hd]; decide) (Tc_f (by rw [moIn_y hn]; decide) (Tc_t (moIn_n hm) (Tc_some ⟨rfl, h.go0 c3⟩))))
        exact Tc_i (fun _ => Tc_some mo) (fun q => Tc_f (by omega) (Tc_some mo))
    · have mo : Tc (mo_rests x n m M) (fun q => q.1 = -1 ∧ Rel B q.2) := by
        unfold mo_rests
        exact Tc_u (Tc_f (by rw [moDonkey_y h.S (c3 278 1 (by decide)) hd]; decide) (Tc_t (moIn_n hn) (Tc_some ⟨rfl, h.go0 c3⟩)))
      exact Tc_i (fun _ => Tc_some mo) (fun q => Tc_t (by omega) (Tc_some mo))
  · refine Tc_t (isDonkey_n h.S.2.2.1 hd) (Tc_some ?_)
    unfold mo_rests
    exact Tc_u (Tc_t (moDonkey_n h.S (c3 278 1 (by decide)) hd) (Tc_some ⟨rfl, h.go0 c3⟩))
