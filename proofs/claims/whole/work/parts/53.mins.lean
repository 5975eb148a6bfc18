-- ===== minutes, the call =====
def lstN (e : Int) (f : Nat → Int) (i : Nat) : List Int := e :: (List.range i).map f
theorem lstN_S (e : Int) (f : Nat → Int) (i : Nat) : lstN e f i ++ [f i] = lstN e f (i + 1) := by simp [lstN, List.range_succ]
theorem lstN_len (e : Int) (f : Nat → Int) (i : Nat) : (lstN e f i).length = i + 1 := by simp [lstN]
theorem tally_eq {M : MEM} {n : Nat} {x1 x2 x3 : Int} (hn : M 3 2 = (n : Int)) (h3 : n ≤ 3) : ∃ M' z, iter (fun s => dh_minutes_b55 x1 x2 x3 s.1 s.2) FU (0, M) = some (z, M') ∧ (∀ c, c ≠ 244 → M' c = M c) ∧ ∀ d, d < n → M' 244 d = M (10 + 3 * d) 5 := by
  have hl : Tc (iter (fun s => dh_minutes_b55 x1 x2 x3 s.1 s.2) FU (0, M)) (fun r => (∀ c, c ≠ 244 → r.2 c = M c) ∧ ∀ d, d < n → r.2 244 d = M (10 + 3 * d) 5) := by
    refine Tc_n (fun i s => s.1 = (i : Int) ∧ (∀ c, c ≠ 244 → s.2 c = M c) ∧ ∀ d, d < i → s.2 244 d = M (10 + 3 * d) 5) n ⟨rfl, fun _ _ => rfl, fun d hd => by omega⟩ (by omega) (fun i s hi hI => ?_) (fun s hI => ?_)
    · obtain ⟨z, M1⟩ := s
      obtain ⟨rfl, q1, q2⟩ := hI
      dsimp only at q1 q2 ⊢
      have e32 : M1 3 2 = (n : Int) := by rw [q1 3 (by decide)]; exact hn
      unfold dh_minutes_b55
      rw [toNat_c]
      refine Tc_f (by omega) (Tc_f (by omega) (Tc_t (by omega) (Tc_t (by omega) (Tc_u (Tc_inl ⟨(wr_i (by omega) (by omega)).trans (by omega), fun c hc => ?_, fun d hd => ?_⟩)))))
      · dsimp only; rw [up2_ne hc]; exact q1 c hc
      · dsimp only
        rw [q1 (10 + 3 * i) (by omega)]
        by_cases e : d = i
        · subst e; exact rd_same
        · rw [rd_k e]; exact q2 d (by omega)
    · obtain ⟨z, M1⟩ := s
      obtain ⟨rfl, q1, q2⟩ := hI
      dsimp only at q1 q2
      unfold dh_minutes_b55
      exact Tc_t (by show M1 3 2 ≤ (n : Int); rw [q1 3 (by decide), hn]; exact Int.le_refl _) (Tc_inr ⟨q1, q2⟩)
  obtain ⟨r, e, q1, q2⟩ := hl
  exact ⟨r.2, r.1, e, q1, q2⟩
theorem tells_eq {M : MEM} {n : Nat} {x2 e : Int} {f : Nat → Int} (hn : M 3 2 = (n : Int)) (h3 : n ≤ 3) (hw : rowC [e] M) (hf : ∀ d, d < n → wr (M (10 + 3 * d) 5 - M 244 d) = f d) : ∃ M' z, iter (fun s => dh_minutes_b124 x2 s.1 s.2) FU (0, M) = some (z, M') ∧ rowC (lstN e f n) M' ∧ offC M M' := by
  have hl : Tc (iter (fun s => dh_minutes_b124 x2 s.1 s.2) FU (0, M)) (fun r => rowC (lstN e f n) r.2 ∧ offC M r.2) := by
    refine Tc_n (fun i s => s.1 = (i : Int) ∧ rowC (lstN e f i) s.2 ∧ offC M s.2) n ⟨rfl, hw, fun _ _ _ _ => rfl⟩ (by omega) (fun i s hi hI => ?_) (fun s hI => ?_)
    · obtain ⟨z, M1⟩ := s
      obtain ⟨rfl, q1, q2⟩ := hI
      dsimp only at q1 q2 ⊢
      have e32 : M1 3 2 = (n : Int) := by rw [q2.cell (by decide) (by decide)]; exact hn
      obtain ⟨M2, e2, w2, o2⟩ := tell_eq (f i) q1 (by rw [lstN_len]; omega)
      unfold dh_minutes_b124
      rw [toNat_c, q2.cell (a := 10 + 3 * i) (by omega) (by omega), q2.cell (a := 244) (by decide) (by decide), hf i hi]
      exact Tc_f (by omega) (Tc_f (by omega) (Tc_t (by omega) (Tc_t (by omega) (Tc_e e2 (Tc_inl ⟨(wr_i (by omega) (by omega)).trans (by omega), by rw [← lstN_S]; exact w2, q2.tr o2⟩)))))
    · obtain ⟨z, M1⟩ := s
      obtain ⟨rfl, q1, q2⟩ := hI
      dsimp only at q1 q2
      unfold dh_minutes_b124
      exact Tc_t (by show M1 3 2 ≤ (n : Int); rw [q2.cell (by decide) (by decide), hn]; exact Int.le_refl _) (Tc_inr ⟨q1, q2⟩)
  obtain ⟨r, e, q1, q2⟩ := hl
  exact ⟨r.2, r.1, e, q1, q2⟩
theorem moTells_eq {N : MEM} {n : Nat} {x2 e : Int} {f : Nat → Int} (hn : N 278 1 = (n : Int)) (h3 : n ≤ 3) (hw : rowM [e] N) (hf : ∀ d, d < n → N 290 d = f d) : ∃ M' z, iter (fun s => mo_minutes_b146 x2 s.1 s.2) FU (0, N) = some (z, M') ∧ rowM (lstN e f n) M' ∧ offX N M' := by
  have hl : Tc (iter (fun s => mo_minutes_b146 x2 s.1 s.2) FU (0, N)) (fun r => rowM (lstN e f n) r.2 ∧ offX N r.2) := by
    refine Tc_n (fun i s => s.1 = (i : Int) ∧ rowM (lstN e f i) s.2 ∧ offX N s.2) n ⟨rfl, hw, fun _ _ _ _ => rfl⟩ (by omega) (fun i s hi hI => ?_) (fun s hI => ?_)
    · obtain ⟨z, M1⟩ := s
      obtain ⟨rfl, q1, q2⟩ := hI
      dsimp only at q1 q2 ⊢
      have e1 : M1 278 1 = (n : Int) := by rw [q2 278 1 (Or.inr (by decide)) (by decide)]; exact hn
      obtain ⟨M2, e2, w2, o2⟩ := moTell_eq (f i) q1 (by rw [lstN_len]; omega)
      unfold mo_minutes_b146
      rw [toNat_c, q2.cell (a := 290) (by decide) (by decide), hf i hi]
      exact Tc_f (by omega) (Tc_t (by omega) (Tc_e e2 (Tc_inl ⟨(wr_i (by omega) (by omega)).trans (by omega), by rw [← lstN_S]; exact w2, q2.tr o2⟩)))
    · obtain ⟨z, M1⟩ := s
      obtain ⟨rfl, q1, q2⟩ := hI
      dsimp only at q1 q2
      unfold mo_minutes_b146
      exact Tc_t (by show M1 278 1 ≤ (n : Int); rw [q2 278 1 (Or.inr (by decide)) (by decide), hn]; exact Int.le_refl _) (Tc_inr ⟨q1, q2⟩)
  obtain ⟨r, e, q1, q2⟩ := hl
  exact ⟨r.2, r.1, e, q1, q2⟩
theorem clear290 {N : MEM} {x1 x2 x3 : Int} : ∃ N' z, iter (fun s => mo_minutes_b38 x1 x2 x3 s.1 s.2) FU (0, N) = some (z, N') ∧ (∀ c, c ≠ 290 → N' c = N c) ∧ ∀ d, d < 3 → N' 290 d = 0 := by
  have hl : Tc (iter (fun s => mo_minutes_b38 x1 x2 x3 s.1 s.2) FU (0, N)) (fun r => (∀ c, c ≠ 290 → r.2 c = N c) ∧ ∀ d, d < 3 → r.2 290 d = 0) := by
    refine Tc_n (fun i s => s.1 = (i : Int) ∧ (∀ c, c ≠ 290 → s.2 c = N c) ∧ ∀ d, d < i → s.2 290 d = 0) 3 ⟨rfl, fun _ _ => rfl, fun d hd => by omega⟩ (by omega) (fun i s hi hI => ?_) (fun s hI => ?_)
    · obtain ⟨z, M1⟩ := s
      obtain ⟨rfl, q1, q2⟩ := hI
      dsimp only at q1 q2 ⊢
      unfold mo_minutes_b38
      rw [toNat_c]
      refine Tc_f (by omega) (Tc_t (by omega) (Tc_u (Tc_inl ⟨(wr_i (by omega) (by omega)).trans (by omega), fun c hc => ?_, fun d hd => ?_⟩)))
      · dsimp only; rw [up2_ne hc]; exact q1 c hc
      · dsimp only
        by_cases e : d = i
        · subst e; exact rd_same
        · rw [rd_k e]; exact q2 d (by omega)
    · obtain ⟨z, M1⟩ := s
      obtain ⟨rfl, q1, q2⟩ := hI
      unfold mo_minutes_b38
      exact Tc_t (by show (3 : Int) ≤ ((3 : Nat) : Int); decide) (Tc_inr ⟨q1, q2⟩)
  obtain ⟨r, e, q1, q2⟩ := hl
  exact ⟨r.2, r.1, e, q1, q2⟩
theorem mins_core {B : Int} {M M1 : MEM} {x : Nat} (h : Rel B M) (hB : B ≤ 100000000) (hx : x ≤ 600) (c1 : chg [0, 8, 10] M M1) (M1c : ∀ c, (c < 45 ∨ 222 < c) → M1 c = M c) :
    ∃ (rs : Int) (M18 : MEM), dh_minutes_j36 x M1 = some (rs, M18) ∧ (∀ c, 277 < c → M18 c = M c) ∧ chg [0, 4, 8, 10] M M18 ∧ (∀ c, 45 ≤ c → c ≤ 222 → M18 c = M1 c) ∧
      ∀ N5 : MEM, (∀ c, c ≤ 277 → N5 c = M18 c) → chg [0, 4, 8, 10] M N5 → (∀ a k, 277 < a → rg a k = 4 → N5 a k = M a k) → ∃ N', mo_minutes_j31 x N5 = some (rs, N') ∧ (∀ c, c ≤ 277 → N' c = M18 c) ∧ C_D (B + 600) N' ∧ C_W N' ∧ chg [0, 4, 8, 10] N5 N' ∧ N' 288 = N5 288 ∧ N' 278 31 = N5 278 31 := by
  obtain ⟨s1, s2, s3, s3a, s3b, s4⟩ := h.S
  obtain ⟨n, hn⟩ : ∃ n : Nat, M 3 2 = (n : Int) := ⟨(M 3 2).toNat, by omega⟩
  have h3 : n ≤ 3 := by omega
  have hn1 : M1 3 2 = (n : Int) := by rw [M1c 3 (by omega)]; exact hn
  have tn : ((n : Nat) : Int).toNat = n := Int.toNat_natCast n
  have lk1 : lock B M1 M := lock_of h c1 chg.rf (fun _ _ _ _ => rfl)
  have pk1 := (lk1.pass (by omega)).1
  obtain ⟨Mt, z, et, q1, q2⟩ := tally_eq (M := M1) (x1 := (x : Int)) (x2 := sumN (fun d => M1 (10 + 3 * d) 5) n) (x3 := allL M1 n) hn1 h3
  have cT : chg [0, 8, 10] M Mt := fun a k hr => by
    by_cases e : a = 244
    · subst e; exact absurd (by decide : (0 : Nat) ∈ [0, 8, 10]) hr
    · rw [q1 a e]; exact c1 a k hr
  have lkT : lock B Mt M := lock_of h cT chg.rf (fun _ _ _ _ => rfl)
  have hnt : Mt 3 2 = (n : Int) := by rw [q1 3 (by decide)]; exact hn1
  have kb : ∀ d : Nat, d < n → 0 ≤ M1 (10 + 3 * d) 5 ∧ M1 (10 + 3 * d) 5 ≤ 200000000 := fun d hd => by
    obtain ⟨a1, a2, a3, a4⟩ := (lk1.pass (by omega)).2.2.2.2 d (by omega)
    have : 0 ≤ M1 (10 + 3 * d) 5 := a3.2.2.2.2.2.2.1
    omega
  obtain ⟨⟨Nx, lkx⟩, ox, -⟩ := lkT.seq (x := x) (by omega) x (Nat.le_refl _)
  have pm := passMany_eq (x := x) lkT (by omega) (by omega)
  have hnx : passN Mt x 3 2 = (n : Int) := by rw [ox.2.2.1 2 (by decide)]; exact hnt
  -- what the reference counts, from any memory that fits
  have run : ∀ N0 : MEM, lock B Mt N0 → (∀ d, d < n → N0 290 d = 0) → ∀ j : Nat, j ≤ x → ∃ x2 x3 N, minsAt B Mt N0 n j x2 x3 N ∧ (0 ≤ allL Mt n ∧ allL Mt n ≤ 324) ∧ offW Mt (passN Mt j) := fun N0 hl h0 j hj => by
    have hT := (thistles_eq (M := Mt) (by omega) (by omega) (fun d hd => ((hl.pass (by omega)).1.2.2.2.2.2 d hd).1)).2
    rw [hnt, tn] at hT
    have ho : ∀ j, j ≤ x → offW Mt (passN Mt j) := fun j hj => (hl.seq (x := x) (by omega) j hj).2.1
    refine (?_ : ∃ x2 x3 N, minsAt B Mt N0 n j x2 x3 N).elim (fun x2 q => q.elim (fun x3 q => q.elim (fun N q => ⟨x2, x3, N, q, hT, ho j hj⟩)))
    induction j with
    | zero =>
      refine ⟨0, 0, N0, by rw [show B + ((0 : Nat) : Int) = B by omega]; exact hl, offO.rf, ?_, ?_, fun d hd => ?_⟩
      · rw [sumN_congr (G := fun _ => 0) (fun i hi => by unfold dif; show Mt _ 5 - Mt _ 5 = 0; omega)]
        have := sumN_bd (F := fun _ => 0) (a := 0) (b := 0) (n := n) (fun i hi => by omega)
        omega
      · show (0 : Int) = allL Mt n - allL Mt n; omega
      · have : dif Mt 0 d = 0 := by unfold dif; show Mt _ 5 - Mt _ 5 = 0; omega
        rw [h0 d hd, this]; omega
    | succ j ih =>
      obtain ⟨x2, x3, N, q⟩ := ih (by omega)
      obtain ⟨y2, y3, N', -, q'⟩ := mins_step (x := (x : Int)) hnt h3 (by omega) (by omega) (by omega) (ho j (by omega)) hT q
      exact ⟨y2, y3, N', q'⟩
  have bnd : (0 ≤ allL Mt n ∧ allL Mt n ≤ 324) ∧ ∀ d, d < n → 0 ≤ dif Mt x d ∧ dif Mt x d ≤ x := by
    have c290 : ∀ a, a ≠ 290 → (fun c => if c = 290 then fun _ => (0 : Int) else M c : MEM) a = M a := fun a ha => if_neg ha
    obtain ⟨x2, x3, N, q, hT, -⟩ := run _ (lkT.cgN c290) (fun d _ => by show (if (290 : Nat) = 290 then fun _ => (0 : Int) else M 290) d = 0; rw [if_pos rfl]) x (Nat.le_refl _)
    exact ⟨hT, fun d hd => (q.2.2.2.2 d hd).2⟩
  obtain ⟨hT, hdb⟩ := bnd
  have eT1 : allL M1 n = allL Mt n := by
    unfold allL
    exact sumN_congr (fun d hd => by rw [q1 _ (by omega), q1 _ (by omega)])
  have kt : ∀ d : Nat, d < n → Mt (10 + 3 * d) 5 = M1 (10 + 3 * d) 5 := fun d hd => by rw [q1 _ (by omega)]
  have r1 : sc_allStrokes 3 M1 = some (sumN (fun d => M1 (10 + 3 * d) 5) n) := by
    have := strokes_eq (M := M1) (by omega) (by omega) (fun d hd => by have := kb d (by omega); omega)
    rw [hn1, tn] at this
    exact this
  have r2 : sc_allThistles 3 M1 = some (allL M1 n) := by
    have := (thistles_eq (M := M1) (by omega) (by omega) (fun d hd => (pk1.2.2.2.2.2 d hd).1)).1
    rw [hn1, tn] at this
    exact this
  have pkx := (lkx.pass (by omega)).1
  generalize hMx : passN Mt x = Mx at *
  have hdif : ∀ d, dif Mt x d = Mx (10 + 3 * d) 5 - Mt (10 + 3 * d) 5 := fun d => by unfold dif; rw [hMx]
  obtain ⟨Ma, ea, wa, oa⟩ := newRow_eq Mx
  have r3 : sc_allThistles 3 Ma = some (allL Mx n) ∧ 0 ≤ allL Mx n ∧ allL Mx n ≤ 324 := by
    have e3 : Ma 3 2 = (n : Int) := by rw [oa.cell (by decide) (by decide)]; exact hnx
    have := thistles_eq (M := Ma) (by omega) (by omega) (fun d hd => by
      have e : dsC (10 + 3 * d) Ma = dsC (10 + 3 * d) Mx := by unfold dsC; rw [oa.cell (by omega) (by omega), oa.cell (by omega) (by omega)]
      rw [e, oa.cell (by omega) (by omega)]
      exact (pkx.2.2.2.2.2 d (by omega)).1)
    rw [e3, tn] at this
    have eL : allL Ma n = allL Mx n := by
      unfold allL
      exact sumN_congr (fun d hd => by rw [oa.cell (a := 10 + 3 * d + 1) (by omega) (by omega), oa.cell (a := 10 + 3 * d) (by omega) (by omega)])
    rw [eL] at this
    exact this
  obtain ⟨Mb, eb, wb, ob⟩ := tell_eq (allL Mt n - allL Mx n) wa (by decide)
  have oab := oa.tr ob
  obtain ⟨Mc, z2, ec, wc, oc⟩ := tells_eq (M := Mb) (x2 := sumN (fun d => M1 (10 + 3 * d) 5) n) (e := allL Mt n - allL Mx n) (f := dif Mt x) (n := n) (by rw [oab.cell (by decide) (by decide)]; exact hnx) h3 wb (fun d hd => by
    have a := hdb d hd
    rw [oab.cell (a := 10 + 3 * d) (by omega) (by omega), oab.cell (a := 244) (by decide) (by decide), ox.1 244 (by decide) (by decide) (by decide) (by decide) (by decide), q2 d hd, ← kt d hd, ← hdif d]
    exact wr_i (by omega) (by omega))
  have oall := oab.tr oc
  have b1 := sumN_bd (F := fun d => M1 (10 + 3 * d) 5) (a := 0) (b := 200000000) (n := n) (fun j hj => kb j hj)
  have b2 := sumN_bd (F := dif Mt x) (a := 0) (b := 600) (n := n) (fun j hj => by have := hdb j hj; omega)
  have kc : ∀ d, d < n → Mc (10 + 3 * d) 5 = M1 (10 + 3 * d) 5 + dif Mt x d := fun d hd => by
    rw [oall.cell (a := 10 + 3 * d) (by omega) (by omega), hdif d, kt d hd]; omega
  have r4 : sc_allStrokes 3 Mc = some (sumN (fun d => M1 (10 + 3 * d) 5) n + sumN (dif Mt x) n) := by
    have e3 : Mc 3 2 = (n : Int) := by rw [oall.cell (by decide) (by decide)]; exact hnx
    have := strokes_eq (M := Mc) (by omega) (by omega) (fun d hd => by have := kb d (by omega); have := hdb d (by omega); have := kc d (by omega); omega)
    rw [e3, tn, sumN_add (F := fun d => M1 (10 + 3 * d) 5) (K := dif Mt x) kc] at this
    exact this
  have cMx : chg [0, 4, 8, 10] M Mx := (cT.sub (by decide)).tr (ox.chg.sub (by decide))
  refine ⟨sumN (dif Mt x) n, Mc, ?_, fun c hc => ?_, cMx.tr (oall.chg.sub (by decide)), fun c ha hb => ?_, fun N5 n1 n2 n3 => ?_⟩
  · unfold dh_minutes_j36
    rw [r1, Option.bind_some, r2, Option.bind_some, et, Option.bind_some]
    unfold dh_minutes_j99
    rw [pm, Option.bind_some, ea, Option.bind_some, r3.1, Option.bind_some, eT1, wr_i (by omega) (by omega), eb, Option.bind_some, ec, Option.bind_some]
    unfold dh_minutes_j173
    rw [r4, Option.bind_some, wr_i (by omega) (by omega)]
    congr 2
    omega
  · rw [oall.cell (by omega) (by omega), ox.1 c (by omega) (by omega) (by omega) (by omega) (by omega), q1 c (by omega), M1c c (by omega)]
  · rw [oall.cell (by omega) (by omega), ox.1 c (by omega) (by omega) (by omega) (by omega) (by omega), q1 c (by omega)]
  · -- the reference
    have lkN : lock B Mt N5 := lock_of h cT n2 n3
    obtain ⟨N6, z3, e6, p1, p2⟩ := clear290 (N := N5) (x1 := (x : Int)) (x2 := 0) (x3 := 0)
    have lk6 := lkN.cgN p1
    have hl : Tc (iter (fun s => mo_minutes_b61 (x : Int) s.1 s.2.1 s.2.2.1 s.2.2.2) FU (0, 0, 0, N6)) (fun r => minsAt B Mt N6 n x r.1 r.2.1 r.2.2.2) := by
      refine Tc_n (fun i s => s.2.2.1 = (i : Int) ∧ minsAt B Mt N6 n i s.1 s.2.1 s.2.2.2) x ⟨rfl, ?_⟩ (by omega) (fun i s hi hI => ?_) (fun s hI => ?_)
      · obtain ⟨x2, x3, N, ⟨a1, a2, a3, a4, a5⟩, -⟩ := run N6 lk6 (fun d hd => p2 d (by omega)) 0 (by omega)
        refine ⟨by rw [show B + ((0 : Nat) : Int) = B by omega]; exact lk6, offO.rf, ?_, ?_, fun d hd => ?_⟩
        · rw [sumN_congr (G := fun _ => 0) (fun i hi => by unfold dif; show Mt _ 5 - Mt _ 5 = 0; omega)]
          have := sumN_bd (F := fun _ => 0) (a := 0) (b := 0) (n := n) (fun i hi => by omega)
          show (0 : Int) = _
          omega
        · show (0 : Int) = allL Mt n - allL Mt n; omega
        · have : dif Mt 0 d = 0 := by unfold dif; show Mt _ 5 - Mt _ 5 = 0; omega
          show N6 290 d = _ ∧ _
          rw [p2 d (by omega), this]; omega
      · obtain ⟨x2, x3, z, N⟩ := s
        obtain ⟨rfl, q⟩ := hI
        dsimp only at q ⊢
        obtain ⟨-, -, -, -, hT', ho⟩ := run N6 lk6 (fun d hd => p2 d (by omega)) i (by omega)
        obtain ⟨y2, y3, N', e, q'⟩ := mins_step (x := (x : Int)) hnt h3 (by omega) (by omega) (by omega) ho hT' q
        rw [e]
        exact Tc_inl ⟨rfl, q'⟩
      · obtain ⟨x2, x3, z, N⟩ := s
        obtain ⟨rfl, q⟩ := hI
        dsimp only at q ⊢
        unfold mo_minutes_b61
        exact Tc_t (Int.le_refl _) (Tc_inr q)
    obtain ⟨r, er, q⟩ := hl
    obtain ⟨x2, x3, z4, N⟩ := r
    dsimp only at q er
    obtain ⟨a1, a2, a3, a4, a5⟩ := q
    rw [hMx] at a1 a4
    obtain ⟨x8, o8⟩ := moRow0 N
    obtain ⟨N10, e10, x10, o10⟩ := moTell_eq x3 x8 (by decide)
    have e278 : N10 278 1 = (n : Int) := by
      obtain ⟨l1, l2, l3, l4, l5, l6⟩ := a1
      have := l6.1
      rw [mrg_hi (by decide), mrg_lo (by decide)] at this
      rw [o10 278 1 (Or.inr (by decide)) (by decide), rd_k (by decide), this]; exact hnx
    obtain ⟨N12, z5, e12, x12, o12⟩ := moTells_eq (N := N10) (n := n) (x2 := x2) (e := x3) (f := dif Mt x) e278 h3 x10 (fun d hd => by
      rw [o10.cell (by decide) (by decide), up2_ne (by decide)]; exact (a5 d hd).1)
    have oN := (o8.tr o10).tr o12
    have cNN : chg [0, 4, 8, 10] N5 N12 := (((off290 p1).chg.sub (by decide)).tr (a2.chg.sub (by decide))).tr (oN.chg.sub (by decide))
    have lo : ∀ c, c ≤ 277 → N12 c = Mc c := fun c hcc => by rw [oN.cell (by omega) (by omega), a2.1 c (by omega) (by omega) (by omega) (by omega), p1 c (by omega), n1 c hcc]
    refine ⟨N12, ?_, lo, ?_, ?_, cNN, ?_, ?_⟩
    · unfold mo_minutes_j31
      rw [e6, Option.bind_some, er, Option.bind_some, Option.bind_some, e10, Option.bind_some, e12, Option.bind_some, a3]
    · have hD : C_D (B + x) N12 := by
        refine a1.out (fun a k ha hr => ?_) (fun a k ha hr => ?_)
        · rw [lo a ha]
          exact oall a k (rgW hr (by decide)) (fun z => by subst z; revert hr; rw [show rg 245 k = 10 from rfl]; decide)
        · exact oN a k (rgW hr (by decide)) (fun z => by subst z; revert hr; rw [show rg 284 k = 10 from rfl]; decide)
      unfold C_D at hD ⊢
      exact hD.mono (by omega)
    · rw [a4] at x12
      exact W_of (wc.off (by rw [lo 0 (by decide)]) (lo 245 (by decide))) x12 (by rw [lstN_len]; omega)
    · rw [oN.cell (by decide) (by decide), a2.1 288 (by decide) (by decide) (by decide) (by decide), p1 288 (by decide)]
    · rw [oN 278 31 (Or.inr (by decide)) (by decide), a2.2 31 (by omega), p1 278 (by decide)]
