-- ===== minute =====
theorem sumN_add {F G K : Nat → Int} : ∀ {n : Nat}, (∀ i, i < n → G i = F i + K i) → sumN G n = sumN F n + sumN K n := by
  intro n
  induction n with
  | zero => intro _; rfl
  | succ n ih =>
    intro h
    rw [sumN_S, sumN_S, sumN_S, ih (fun i hi => h i (by omega)), h n (by omega)]
    omega
theorem strokes_eq {M : MEM} (h0 : 0 ≤ M 3 2) (h1 : M 3 2 ≤ 3) (hb : ∀ d : Nat, (d : Int) < M 3 2 → 0 ≤ M (10 + 3 * d) 5 ∧ M (10 + 3 * d) 5 ≤ 300000000) :
    sc_allStrokes 3 M = some (sumN (fun d => M (10 + 3 * d) 5) (M 3 2).toNat) := by
  obtain ⟨N, hN⟩ : ∃ N : Nat, M 3 2 = (N : Int) := ⟨(M 3 2).toNat, by omega⟩
  have hl : Tc (iter (fun s => sc_allStrokes_b4 3 s.1 s.2 M) FU (0, 0)) (fun r => r.1 = sumN (fun d => M (10 + 3 * d) 5) N) := by
    refine Tc_n (fun i s => s.1 = sumN (fun d => M (10 + 3 * d) 5) i ∧ s.2 = (i : Int)) N ⟨rfl, rfl⟩ (by omega) (fun i s hi hI => ?_) (fun s hI => ?_)
    · obtain ⟨x, z⟩ := s
      obtain ⟨rfl, rfl⟩ := hI
      dsimp only
      have b := sumN_bd (F := fun d => M (10 + 3 * d) 5) (a := 0) (b := 300000000) (n := i) (fun j hj => hb j (by omega))
      have b1 := hb i (by omega)
      have w : wr (sumN (fun d => M (10 + 3 * d) 5) i + M (10 + 3 * i) 5) = sumN (fun d => M (10 + 3 * d) 5) (i + 1) := by rw [sumN_S]; exact wr_i (by omega) (by omega)
      unfold sc_allStrokes_b4
      rw [toNat_c, show 3 + 7 + 3 * i = 10 + 3 * i by omega, w]
      exact Tc_f (by omega) (Tc_f (by omega) (Tc_t (by omega) (Tc_inl ⟨rfl, (wr_i (by omega) (by omega)).trans (by omega)⟩)))
    · obtain ⟨x, z⟩ := s
      obtain ⟨rfl, rfl⟩ := hI
      unfold sc_allStrokes_b4
      exact Tc_t (by rw [hN]; exact Int.le_refl _) (Tc_inr rfl)
  obtain ⟨r, e, h⟩ := hl
  unfold sc_allStrokes
  rw [e, Option.bind_some, h, hN]
  rfl
/-- what can be undone, laid by: class -/
def hC (wc : Int) (M M8 : MEM) : Prop := copyS (usc M (M 45 2).toNat) 3 M8 M ∧ copyC (usc M (M 45 2).toNat + 2) 5 M8 M ∧ M8 (usc M (M 45 2).toNat) 5 = wc ∧
  (∀ c, c ≠ 45 → (c < usc M (M 45 2).toNat ∨ usc M (M 45 2).toNat + 16 ≤ c) → M8 c = M c) ∧ M8 45 2 = (if M 45 2 = 10 then 10 else M 45 2 + 1) ∧ M8 45 1 = (if M 45 2 = 10 then (M 45 1 + 1) % 11 else M 45 1)
theorem hist_class {B : Int} {M : MEM} {wc : Int} (h : Rel B M) (hw : wc = 0 ∨ wc = 1) : ∃ M6 M8, hi_prepare 3 wc M = some M6 ∧ hi_commit M6 = some M8 ∧ hC wc M M8 := by
  obtain ⟨s1, s2, s3, s3a, s3b, s4⟩ := h.S
  obtain ⟨u1, u2, u3, u4, u5, u6⟩ := h.U
  have hu := usc_in (i := (M 45 2).toNat) u1 u2 (by omega)
  obtain ⟨M6, e6, k1, k2, k3, k4⟩ := prepare_eq (wc := wc) u1 u2 u4 u5 s2 s3 hw
  have e45 : M6 45 = M 45 := k4 45 (by omega)
  obtain ⟨M8, e8, g1, g2, g3⟩ := commit_eq (M := M6) (by rw [e45]; exact u1) (by rw [e45]; exact u2) (by rw [e45]; exact u4) (by rw [e45]; exact u5)
  rw [e45] at g1 g2
  refine ⟨M6, M8, e6, e8, ?_, ?_, ?_, fun c c1 c2 => by rw [g3 c c1, k4 c c2], g1, g2⟩
  · refine ⟨by rw [g3 _ (by omega)]; exact k1.1, by rw [g3 _ (by omega)]; exact k1.2.1, fun d hd => ?_⟩
    rw [g3 _ (by omega), g3 _ (by omega), g3 _ (by omega)]
    exact k1.2.2 d hd
  · refine ⟨by rw [g3 _ (by omega)]; exact k2.1, fun q i x1 x2 hi => ?_⟩
    rw [g3 _ (by omega)]
    exact k2.2 q i x1 x2 hi
  · rw [g3 _ (by omega)]; exact k3
theorem hC.chg {wc : Int} {M M8 : MEM} (h : hC wc M M8) (u1 : 0 ≤ M 45 1) (u2 : M 45 1 < 11) (u4 : M 45 2 ≤ 10) : chg [8] M M8 := fun a k n => by
  have hu := usc_in (i := (M 45 2).toNat) u1 u2 (by omega)
  by_cases e : 45 ≤ a ∧ a ≤ 222
  · exact absurd (by rw [rg_U e.1 e.2]; decide) n
  · rw [h.2.2.2.1 a (by omega) (by omega)]
/-- the same: reference -/
def hM (wc : Int) (N N5 : MEM) : Prop := N5 278 31 = (if N 278 31 = 10 then 10 else N 278 31 + 1) ∧ (∀ c, c ≠ 278 → c ≠ 288 → c ≠ 289 → N5 c = N c) ∧ (∀ k, k ≠ 31 → N5 278 k = N 278 k) ∧
  ∀ j : Nat, (j : Int) = (if N 278 31 = 10 then 9 else N 278 31) → ((∀ i, i < 166 → N5 288 (208 * j + i) = N 279 i) ∧ N5 288 (208 * j + 166) = N 278 7 ∧ (∀ i, i < 40 → N5 288 (208 * j + 167 + i) = N 282 i) ∧ N5 288 (208 * j + 207) = wc) ∧
    ∀ i' : Nat, i' < j → ∀ q, q < 208 → N5 288 (208 * i' + q) = N 288 (208 * (if N 278 31 = 10 then i' + 1 else i') + q)
theorem aside_eq {N : MEM} {wc : Int} (hw : wc = 0 ∨ wc = 1) : ∃ N3, mo_layAside wc N = some N3 ∧ (∀ c, c ≠ 289 → N3 c = N c) ∧ (∀ i, i < 166 → N3 289 i = N 279 i) ∧ N3 289 166 = N 278 7 ∧ (∀ i, i < 40 → N3 289 (167 + i) = N 282 i) ∧ N3 289 207 = wc := by
  obtain ⟨N2, e2, ⟨l1, l2, l3⟩, l4, l5⟩ := layAll_eq (a := 289) (k := 0) (M := N) (Or.inl rfl) (by show 0 + 207 ≤ 208; decide)
  have e2' : mo_layAll 289 0 N = some N2 := e2
  have go : mo_layAside wc N = some (up2 N2 289 207 wc) := by
    unfold mo_layAside mo_layAside_j25
    rw [e2', Option.bind_some]
    rcases hw with rfl | rfl
    · rw [if_pos rfl, if_pos (by decide)]; rfl
    · rw [if_neg (by decide), if_pos (by decide)]; rfl
  refine ⟨_, go, fun c hc => by rw [up2_ne hc]; exact l4 c hc, fun i hi => ?_, ?_, fun i hi => ?_, rd_same⟩
  · rw [rd_k (by omega)]; have := l1 i hi; rw [Nat.zero_add] at this; exact this
  · rw [rd_k (by omega)]; exact l2
  · rw [rd_k (by omega)]; have := l3 i hi; rw [Nat.zero_add] at this; exact this
theorem hM_of {wc : Int} {N N3 : MEM} (h0 : 0 ≤ N 278 31) (h1 : N 278 31 ≤ 10) (a1 : ∀ c, c ≠ 278 → c ≠ 289 → N3 c = N c) (a1' : ∀ k, N3 278 k = N 278 k) (a2 : ∀ i, i < 166 → N3 289 i = N 279 i) (a3 : N3 289 166 = N 278 7) (a4 : ∀ i, i < 40 → N3 289 (167 + i) = N 282 i) (a5 : N3 289 207 = wc) : ∃ N5, mo_remember N3 = some N5 ∧ hM wc N N5 := by
  obtain ⟨N5, e5, r1, r2, r3, r4⟩ := remember_eq (M := N3) (by rw [a1']; exact h0) (by rw [a1']; exact h1)
  rw [a1'] at r1 r4
  refine ⟨N5, e5, r1, fun c c1 c2 c3 => by rw [r2 c c1 c2, a1 c c1 c3], fun k hk => by rw [r3 k hk, a1'], fun j hj => ?_⟩
  obtain ⟨q1, q2⟩ := r4 j hj
  refine ⟨⟨fun i hi => by rw [q1 i (by omega), a2 i hi], by rw [q1 166 (by omega), a3], fun i hi => ?_, by rw [q1 207 (by omega), a5]⟩, fun i' hi' q hq => by rw [q2 i' hi' q hq, a1 288 (by decide) (by decide)]⟩
  rw [Nat.add_assoc, q1 _ (by omega), a4 i hi]
theorem hist_mo {wc : Int} {N : MEM} (h0 : 0 ≤ N 278 31) (h1 : N 278 31 ≤ 10) (hw : wc = 0 ∨ wc = 1) : ∃ N3 N5, mo_layAside wc N = some N3 ∧ mo_remember N3 = some N5 ∧ hM wc N N5 := by
  obtain ⟨N3, e3, a1, a2, a3, a4, a5⟩ := aside_eq (N := N) hw
  obtain ⟨N5, e5, h⟩ := hM_of (N3 := N3) h0 h1 (fun c _ c2 => a1 c c2) (fun k => by rw [a1 278 (by decide)]) a2 a3 a4 a5
  exact ⟨N3, N5, e3, e5, h⟩
theorem rg_288 (k : Nat) : rg 288 k = 8 := rfl
theorem rg_289 (k : Nat) : rg 289 k = 0 := rfl
theorem hM.chg {wc : Int} {N N5 : MEM} (h : hM wc N N5) : chg [0, 8] N N5 := fun a k n => by
  by_cases e1 : a = 288
  · subst e1; exact absurd (by rw [rg_288]; decide) n
  · by_cases e2 : a = 289
    · subst e2; exact absurd (by rw [rg_289]; decide) n
    · by_cases e3 : a = 278
      · subst e3
        refine h.2.2.1 k (fun e => n ?_)
        subst e; decide
      · rw [h.2.1 a e3 e1 e2]
theorem hist_U {B : Int} {M M8 N N5 M' : MEM} {wc : Int} (h : Rel B M) (hw : wc = 0 ∨ wc = 1) (hc : hC wc M M8) (hm : hM wc N N5) (n1 : N 279 = M 279) (n2 : N 282 = M 282) (n3 : N 278 7 = M 278 7) (n4 : N 278 31 = M 278 31) (n5 : N 288 = M 288)
    (f1 : M' 45 = M8 45) (f2 : ∀ c, 47 ≤ c → c ≤ 222 → M' c = M8 c) (f3 : M' 288 = N5 288) (f4 : M' 278 31 = N5 278 31) (f5 : M' 3 2 = M 3 2) (f6 : M' 280 = M 280) : C_U B M' := by
  obtain ⟨s1, s2, s3, s3a, s3b, s4⟩ := h.S
  obtain ⟨u1, u2, u3, u4, u5, u6⟩ := h.U
  have hu := usc_in (i := (M 45 2).toNat) u1 u2 (by omega)
  obtain ⟨c1, c2, c3, c4, c5, c6⟩ := hc
  obtain ⟨m1, m2, m3, m4⟩ := hm
  rw [n4] at m1 m4
  refine U_more (wc := wc) h.U h.D h.C s3 hw ?_ ?_ ?_ (fun c a b d => by rw [f2 c a b, c4 c (by omega) d]) (by rw [f1]; exact c5) (by rw [f1]; exact c6) f5 f6 (by rw [f4]; exact m1) (fun j hj => ?_)
  · refine ⟨by rw [f2 _ (by omega) (by omega)]; exact c1.1, by rw [f2 _ (by omega) (by omega)]; exact c1.2.1, fun d hd => ?_⟩
    rw [f2 _ (by omega) (by omega), f2 _ (by omega) (by omega), f2 _ (by omega) (by omega)]
    exact c1.2.2 d hd
  · refine ⟨by rw [f2 _ (by omega) (by omega)]; exact c2.1, fun q i x1 x2 hi => ?_⟩
    rw [f2 _ (by omega) (by omega)]
    exact c2.2 q i x1 x2 hi
  · rw [f2 _ (by omega) (by omega)]; exact c3
  · rw [f3]
    have := m4 j hj
    rw [n1, n2, n3, n5] at this
    exact this
theorem lock_of {B : Int} {M M1 N : MEM} (h : Rel B M) (c1 : chg [0, 8, 10] M M1) (c2 : chg [0, 4, 8, 10] M N) (c3 : ∀ a k, 277 < a → rg a k = 4 → N a k = M a k) : lock B M1 N := by
  have nC : ∀ {M2 : MEM}, chg [0, 4, 8, 10] M M2 → C_F M2 ∧ C_C M2 ∧ C_N M2 ∧ rlOk M2 := fun {M2} c => ⟨h.F.cg (c.same fun x hx => by rw [hx]; decide), h.C.cg (c.same fun x hx => by rw [hx]; decide), h.N.cg (c.same fun x hx => by rw [hx]; decide), h.R.cg (fun a k hr => c a k (by rw [hr]; decide))⟩
  obtain ⟨a1, a2, a3, a4⟩ := nC (c1.sub (by decide))
  obtain ⟨b1, b2, b3, b4⟩ := nC c2
  obtain ⟨d1, d2, d3, d4⟩ := eOk_of (f := 224) a1 a2 (th0 (Or.inl rfl) a3) a4
  have m8 : M 278 8 = 0 := h.N.2.2.2.2.2.1
  have m7 : M 278 7 ≤ 10 := h.C.2.2.1
  have hs : ∀ a k, (rg a k = 4 ∨ rg a k = 12) → mrg M1 N a k = M a k := fun a k hr => by
    have hn : rg a k ∉ [0, 8, 10] := by rcases hr with e | e <;> rw [e] <;> decide
    by_cases e : a ≤ 277
    · rw [mrg_lo e]; exact c1 a k hn
    · rw [mrg_hi (by omega)]
      rcases hr with e' | e'
      · exact c3 a k (by omega) e'
      · exact c2 a k (by rw [e']; decide)
  refine ⟨⟨d1, d2, d4⟩, b4, em_of (f := 224) b1 b2 (th0 (Or.inl rfl) b3), ?_, h.D.cg h.S.2.2.1 hs, h.S.cg (fun a k e => hs a k (Or.inr e))⟩
  rw [passE_alike a1 a2 a3 a4, chg_env c1 (by decide) (by decide) (by decide) (by decide) m8 m7, chg_env c2 (by decide) (by decide) (by decide) (by decide) m8 m7]
theorem offW.chg {M M' : MEM} (h : offW M M') : chg [0, 4] M M' := fun a k n => by
  by_cases e3 : a = 3
  · subst e3
    refine h.2.2.1 k (fun e => n ?_)
    subst e; decide
  · by_cases e10 : 10 ≤ a ∧ a ≤ 18
    · by_cases e2 : k ≠ 2 ∨ (a ≠ 10 ∧ a ≠ 13 ∧ a ≠ 16)
      · exact absurd (by rw [rg_D e10.1 e10.2 e2]; decide) n
      · have : k = 2 := by omega
        subst this
        obtain ⟨d, rfl⟩ : ∃ d, a = 10 + 3 * d := ⟨(a - 10) / 3, by omega⟩
        exact h.2.2.2 d 2 (by omega) (by decide) (by decide) (by decide)
    · by_cases e21 : a = 21
      · subst e21
        refine h.2.1 k (fun e => n ?_)
        subst e; decide
      · by_cases e23 : a = 23
        · subst e23; exact absurd (by decide : (0 : Nat) ∈ [0, 4]) n
        · by_cases e24 : a = 24
          · subst e24; exact absurd (by decide : (0 : Nat) ∈ [0, 4]) n
          · rw [h.1 a e3 (by omega) e21 e23 e24]
theorem offG.chg {M M' : MEM} (h : offG 279 M M') : chg [0, 4] M M' := fun a k n => by
  by_cases e1 : a = 279
  · subst e1; exact absurd (by rw [rg_279]; decide) n
  · by_cases e2 : a = 278
    · subst e2
      by_cases z : (14 ≤ k ∧ k ≤ 28 ∧ k ≠ 21) ∨ k = 38
      · exact absurd (by rw [rg278 z]; decide) n
      · exact h.2 k (by omega)
    · by_cases e3 : a = 287
      · subst e3; exact absurd (by decide : (0 : Nat) ∈ [0, 4]) n
      · rw [h.1 a e1 e2 e3]
/-- what stands in lock is alike, behind the row too -/
theorem lock.out {B : Int} {M N M' : MEM} (h : lock B M N) (h1 : ∀ a k, a ≤ 277 → (rg a k = 4 ∨ rg a k = 12) → M' a k = M a k) (h2 : ∀ a k, 277 < a → (rg a k = 4 ∨ rg a k = 12) → M' a k = N a k) : C_D B M' := by
  obtain ⟨l1, l2, l3, l4, l5, l6⟩ := h
  refine l5.cg l6.2.2.1 (fun a k hr => ?_)
  by_cases e : a ≤ 277
  · rw [mrg_lo e]; exact h1 a k e hr
  · rw [mrg_hi (by omega)]; exact h2 a k (by omega) hr
theorem Rel.up {B B' : Int} {M : MEM} (h : Rel B M) (hB : B ≤ B') : Rel B' M := h.go hB (L := []) chg.rf (by decide) (fun q => absurd q (by decide)) (fun q => absurd q (by decide)) (fun q => absurd q (by decide)) (fun q => absurd q (by decide)) (fun q => absurd q (by decide)) (fun q => absurd q (by decide)) (fun q => absurd q (by decide)) (fun q => absurd q (by decide)) (fun q => absurd q (by decide)) (fun q => absurd q (by decide)) (fun q => absurd q (by decide))
theorem rgW {a k b j : Nat} (h : rg a k = 4 ∨ rg a k = 12) (g : ¬ (rg b j = 4 ∨ rg b j = 12)) : a ≠ b ∨ k ≠ j := by
  by_cases e : a = b
  · by_cases e2 : k = j
    · subst e e2; exact absurd h g
    · exact Or.inr e2
  · exact Or.inl e
theorem c_minute {B : Int} {M : MEM} (h : Rel B M) (hB : B ≤ 100000000) : Lk (B + 1) (dh_minute M) mo_minute := by
  obtain ⟨s1, s2, s3, s3a, s3b, s4⟩ := h.S
  obtain ⟨u1, u2, u3, u4, u5, u6⟩ := h.U
  have hu := usc_in (i := (M 45 2).toNat) u1 u2 (by omega)
  obtain ⟨M6, M8, e6, e8, hc⟩ := hist_class (wc := 0) h (Or.inl rfl)
  have cC := hc.chg u1 u2 u5
  have M8c : ∀ c, (c < 45 ∨ 222 < c) → M8 c = M c := fun c hcc => hc.2.2.2.1 c (by omega) (by omega)
  have lk0 : lock B M8 M := lock_of h (cC.sub (by decide)) chg.rf (fun _ _ _ _ => rfl)
  obtain ⟨p0, -, -, -, hall⟩ := lk0.pass (by omega)
  have M832 : M8 3 = M 3 := M8c 3 (by omega)
  have hB0 : ∀ d : Nat, (d : Int) < M 3 2 → 0 ≤ M (10 + 3 * d) 5 ∧ M (10 + 3 * d) 5 ≤ 200000000 := fun d hd => by
    obtain ⟨a1, a2, a3, a4⟩ := hall d (by rw [M832]; exact hd)
    have e : M8 (10 + 3 * d) = M (10 + 3 * d) := M8c _ (by omega)
    rw [e] at a4
    have : 0 ≤ M8 (10 + 3 * d) 5 := a3.2.2.2.2.2.2.1
    rw [e] at this
    omega
  obtain ⟨M9, N9, A, S, K, p1, -, lk1, p4, -, -, -, -, p9, p10⟩ := lk0.step (by omega)
  rw [M832] at p1 p10
  have M932 : M9 3 2 = M 3 2 := by rw [p4.2.2.1 2 (by decide), M832]
  have hN3 : (M 3 2).toNat ≤ 3 := by omega
  have hbe := bits_end (A := A) (S := S) hN3
  obtain ⟨M14, e14, w14, o14⟩ := newRow_eq M9
  obtain ⟨M16, e16, w16, o16⟩ := tell_eq (bitsI A (M 3 2).toNat) w14 (by decide)
  obtain ⟨M18, e18, w18, o18⟩ := tell_eq (bitsI S (M 3 2).toNat) w16 (by simp)
  have o9 : offC M9 M18 := (o14.tr o16).tr o18
  have M18c : ∀ c, c ≠ 0 → c ≠ 245 → M18 c = M9 c := fun c c1 c2 => o9.cell c1 c2
  have hk : ∀ d : Nat, (d : Int) < M 3 2 → M18 (10 + 3 * d) 5 = M (10 + 3 * d) 5 + K d ∧ 0 ≤ K d ∧ K d ≤ 1 := fun d hd => by
    obtain ⟨a1, a2, a3, a4, a5⟩ := p10 d hd
    rw [M18c _ (by omega) (by omega), a2, M8c _ (by omega)]
    exact ⟨rfl, a3, a4⟩
  unfold Lk dh_minute
  have r2 := strokes_eq s2 s3 (fun d hd => by have := hB0 d hd; omega)
  have r20 : sc_allStrokes 3 M18 = some (sumN (fun d => M18 (10 + 3 * d) 5) (M 3 2).toNat) := by
    have e3 : M18 3 2 = M 3 2 := by rw [M18c 3 (by decide) (by decide)]; exact M932
    have := strokes_eq (M := M18) (by rw [e3]; exact s2) (by rw [e3]; exact s3) (fun d hd => by rw [e3] at hd; have := hB0 d hd; have := hk d hd; omega)
    rw [e3] at this
    exact this
  refine Tc_e r2 (Tc_e e6 (Tc_e e8 (Tc_e p1 (Tc_e e14 ?_))))
  dsimp only
  rw [hbe.1, hbe.2]
  refine Tc_e e16 (Tc_e e18 (Tc_e r20 (Tc_some ?_)))
  dsimp only
  -- the reference
  have Mhi : ∀ c, 277 < c → M18 c = M c := fun c hcc => by rw [M18c c (by omega) (by omega), p4.1 c (by omega) (by omega) (by omega) (by omega) (by omega), M8c c (by omega)]
  have e31 : up2 M18 278 13 0 278 31 = M 278 31 := by rw [rd_k (by decide), Mhi 278 (by omega)]
  obtain ⟨N3, N5, f3, f5, hm⟩ := hist_mo (wc := 0) (N := up2 M18 278 13 0) (by rw [e31]; omega) (by rw [e31]; omega) (Or.inl rfl)
  have cN : chg [0, 4, 8, 10] M N5 := ((((cC.sub (by decide)).tr (p4.chg.sub (by decide))).tr (o9.chg.sub (by decide))).up (by decide)).tr (hm.chg.sub (by decide))
  have N5hi : ∀ c, 277 < c → c ≠ 278 → c ≠ 288 → c ≠ 289 → N5 c = M c := fun c a1 a2 a3 a4 => by rw [hm.2.1 c a2 a3 a4, up2_ne a2, Mhi c a1]
  have lkr : lock B M8 N5 := lock_of h (cC.sub (by decide)) cN (fun a k ha hr => by
    by_cases e : a = 278
    · subst e
      rw [hm.2.2.1 k (fun z => by subst z; revert hr; decide), rd_k (fun z => by subst z; revert hr; decide), Mhi 278 ha]
    · rw [N5hi a ha e (fun z => by subst z; revert hr; rw [rg_288]; decide) (fun z => by subst z; revert hr; rw [rg_289]; decide)])
  obtain ⟨M9', N7, A', S', K', y1, y2, lk2, y4, y5, y6, y7, y8, y9, y10⟩ := lkr.step (by omega)
  rw [M832] at y1 y6 y7 y8 y10
  have eqp : (bitsP A S (M 3 2).toNat, M9) = (bitsP A' S' (M 3 2).toNat, M9') := Option.some.inj (p1.symm.trans y1)
  have eM9 : M9 = M9' := congrArg Prod.snd eqp
  have eb : bitsP A S (M 3 2).toNat = bitsP A' S' (M 3 2).toNat := congrArg Prod.fst eqp
  subst eM9
  have hbe' := bits_end (A := A') (S := S') hN3
  rw [← eb, hbe.1, hbe.2] at hbe'
  rw [← hbe'.1] at y6
  rw [← hbe'.2] at y7
  have eK : ∀ d, d < (M 3 2).toNat → K' d = K d := fun d hd => by
    have a := (p10 d (by omega)).2.1
    have b := (y10 d (by omega)).2.1
    omega
  rw [sumN_congr eK] at y8
  obtain ⟨x8, o8⟩ := moRow0 N7
  have r26 : up2 N7 278 12 0 278 26 = bitsI A (M 3 2).toNat := by rw [rd_k (by decide)]; exact y6
  obtain ⟨N10, e10, x10, o10⟩ := moTell_eq (bitsI A (M 3 2).toNat) x8 (by decide)
  have r27 : N10 278 27 = bitsI S (M 3 2).toNat := by rw [o10 278 27 (Or.inr (by decide)) (by decide), rd_k (by decide)]; exact y7
  obtain ⟨N12, e12, x12, o12⟩ := moTell_eq (bitsI S (M 3 2).toNat) x10 (by simp)
  have oN : offX N7 N12 := (o8.tr o10).tr o12
  have r24 : N12 278 24 = sumN K (M 3 2).toNat := by rw [oN 278 24 (Or.inr (by decide)) (by decide)]; exact y8
  unfold mo_minute
  refine Tc_u (Tc_e f3 (Tc_e f5 (Tc_e y2 (Tc_u ?_))))
  rw [r26]
  refine Tc_e e10 ?_
  rw [r27]
  refine Tc_e e12 (Tc_some ⟨?_, ?_⟩)
  · dsimp only
    have b1 := sumN_bd (F := fun d => M (10 + 3 * d) 5) (a := 0) (b := 200000000) (n := (M 3 2).toNat) (fun j hj => hB0 j (by omega))
    have b2 := sumN_bd (F := K) (a := 0) (b := 1) (n := (M 3 2).toNat) (fun j hj => by have := hk j (by omega); omega)
    rw [r24, sumN_add (F := fun d => M (10 + 3 * d) 5) (K := K) (fun d hd => (hk d (by omega)).1)]
    rw [wr_i (by omega) (by omega)]
    omega
  · dsimp only
    have cF : chg [0, 4, 8, 10] M N12 := (cN.tr (y5.chg.sub (by decide))).tr (oN.chg.sub (by decide))
    have lo : ∀ c, c ≤ 277 → N12 c = M18 c := fun c hcc => by rw [oN.cell (by omega) (by omega), y5.1 c (by omega) (by omega) (by omega), hm.2.1 c (by omega) (by omega) (by omega), up2_ne (by omega)]
    refine h.go (by omega) cF (by decide) (fun q => absurd q (by decide)) (fun q => absurd q (by decide)) (fun q => absurd q (by decide)) (fun _ => ?_) (fun q => absurd q (by decide)) (fun q => absurd q (by decide)) (fun q => absurd q (by decide)) (fun _ => ?_) (fun q => absurd q (by decide)) (fun _ => ?_) (fun q => absurd q (by decide))
    · refine lk2.out (fun a k ha hr => ?_) (fun a k ha hr => ?_)
      · rw [lo a ha]
        exact o9 a k (rgW hr (by decide)) (fun z => by subst z; revert hr; rw [show rg 245 k = 10 from rfl]; decide)
      · refine oN a k (rgW hr (by decide)) (fun z => by subst z; revert hr; rw [show rg 284 k = 10 from rfl]; decide)
    · have hU : C_U B N12 := hist_U h (Or.inl rfl) hc hm (by rw [up2_ne (by decide), Mhi 279 (by decide)]) (by rw [up2_ne (by decide), Mhi 282 (by decide)]) (by rw [rd_k (by decide), Mhi 278 (by decide)]) e31 (by rw [up2_ne (by decide), Mhi 288 (by decide)])
        (by rw [lo 45 (by decide), M18c 45 (by decide) (by decide), p4.1 45 (by decide) (by decide) (by decide) (by decide) (by decide)]) (fun c a b => by rw [lo c (by omega), M18c c (by omega) (by omega), p4.1 c (by omega) (by omega) (by omega) (by omega) (by omega)])
        (by rw [oN.cell (by decide) (by decide), y5.1 288 (by decide) (by decide) (by decide)]) (by rw [oN 278 31 (Or.inr (by decide)) (by decide), y5.2 31 (by omega)]) (by rw [cF 3 2 (by decide)]) (cF.row (fun k => (by decide : 12 ∉ [0, 4, 8, 10])))
      exact hU.cg (by omega) (by rw [cF 3 2 (by decide)]; exact s3) (fun _ _ _ => rfl)
    · exact W_of (w18.off (by rw [lo 0 (by decide)]) (lo 245 (by decide))) x12 (by simp)
