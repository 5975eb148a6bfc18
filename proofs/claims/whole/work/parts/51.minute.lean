-- ===== minute =====
theorem sumN_add {F G K : Nat → Int} : ∀ {n : Nat}, (∀ i, i < n → G i = F i + K i) → sumN G n = sumN F n + sumN K n := by
  intro n
  induction n with
  | zero => intro _; rfl
  | succ n ih =>
    intro h
    rw [sumN_S, sumN_S, sumN_S, ih (fun i hi => h i (by omega)), h n (by omega)]
    omega
theorem strokes_eq {M : MEM} (h0 : 0 ≤ M 3 2) (h1 : M 3 2 ≤ 3) (hb : ∀ d : Nat, (d : Int) < M 3 2 → 0 ≤ M (10 + 3 * d) 5 ∧ M (10 + 3 * d) 5 ≤ 300000000) :
    sc_allStrokes 3 M = some (sumN (fun d => M (10 + 3 * d) 5) (M 3 2).toNat) := by
  obtain ⟨N, hN⟩ : ∃ N : Nat, M 3 2 = (N : Int) := ⟨(M 3 2).toNat, by omega⟩
  have hl : Tc (iter (fun s => sc_allStrokes_b4 3 s.1 s.2 M) FU (0, 0)) (fun r => r.1 = sumN (fun d => M (10 + 3 * d) 5) N) := by
    refine Tc_n (fun i s => s.1 = sumN (fun d => M (10 + 3 * d) 5) i ∧ s.2 = (i : Int)) N ⟨rfl, rfl⟩ (by omega) (fun i s hi hI => ?_) (fun s hI => ?_)
    · obtain ⟨x, z⟩ := s
      obtain ⟨rfl, rfl⟩ := hI
      dsimp only
      have b := sumN_bd (F := fun d => M (10 + 3 * d) 5) (a := 0) (b := 300000000) (n := i) (fun j hj => hb j (by omega))
      have b1 := hb i (by omega)
      have w : wr (sumN (fun d => M (10 + 3 * d) 5) i + M (10 + 3 * i) 5) = sumN (fun d => M (10 + 3 * d) 5) (i + 1) := by rw [sumN_S]; exact wr_i (by omega) (by omega)
      unfold sc_allStrokes_b4
      rw [toNat_c, show 3 + 7 + 3 * i = 10 + 3 * i by omega, w]
      exact Tc_f (by omega) (Tc_f (by omega) (Tc_t (by omega) (Tc_inl ⟨rfl, (wr_i (by omega) (by omega)).trans (by omega)⟩)))
    · obtain ⟨x, z⟩ := s
      obtain ⟨rfl, rfl⟩ := hI
      unfold sc_allStrokes_b4
      exact Tc_t (by rw [hN]; exact Int.le_refl _) (Tc_inr rfl)
  obtain ⟨r, e, h⟩ := hl
  unfold sc_allStrokes
  rw [e, Option.bind_some, h, hN]
  rfl
/-- what can be undone, laid by: class -/
def hC (wc : Int) (M M8 : MEM) : Prop := copyS (usc M (M 45 2).toNat) 3 M8 M ∧ copyC (usc M (M 45 2).toNat + 2) 5 M8 M ∧ M8 (usc M (M 45 2).toNat) 5 = wc ∧
  (∀ c, c ≠ 45 → (c < usc M (M 45 2).toNat ∨ usc M (M 45 2).toNat + 16 ≤ c) → M8 c = M c) ∧ M8 45 2 = (if M 45 2 = 10 then 10 else M 45 2 + 1) ∧ M8 45 1 = (if M 45 2 = 10 then (M 45 1 + 1) % 11 else M 45 1)
theorem hist_class {B : Int} {M : MEM} {wc : Int} (h : Rel B M) (hw : wc = 0 ∨ wc = 1) : ∃ M6 M8, hi_prepare 3 wc M = some M6 ∧ hi_commit M6 = some M8 ∧ hC wc M M8 := by
  obtain ⟨s1, s2, s3, s3a, s3b, s4⟩ := h.S
  obtain ⟨u1, u2, u3, u4, u5, u6⟩ := h.U
  have hu := usc_in (i := (M 45 2).toNat) u1 u2 (by omega)
  obtain ⟨M6, e6, k1, k2, k3, k4⟩ := prepare_eq (wc := wc) u1 u2 u4 u5 s2 s3 hw
  have e45 : M6 45 = M 45 := k4 45 (by omega)
  obtain ⟨M8, e8, g1, g2, g3⟩ := commit_eq (M := M6) (by rw [e45]; exact u1) (by rw [e45]; exact u2) (by rw [e45]; exact u4) (by rw [e45]; exact u5)
  rw [e45] at g1 g2
  refine ⟨M6, M8, e6, e8, ?_, ?_, ?_, fun c c1 c2 => by rw [g3 c c1, k4 c c2], g1, g2⟩
  · refine ⟨by rw [g3 _ (by omega)]; exact k1.1, by rw [g3 _ (by omega)]; exact k1.2.1, fun d hd => ?_⟩
    rw [g3 _ (by omega), g3 _ (by omega), g3 _ (by omega)]
    exact k1.2.2 d hd
  · refine ⟨by rw [g3 _ (by omega)]; exact k2.1, fun q i x1 x2 hi => ?_⟩
    rw [g3 _ (by omega)]
    exact k2.2 q i x1 x2 hi
  · rw [g3 _ (by omega)]; exact k3
theorem hC.chg {wc : Int} {M M8 : MEM} (h : hC wc M M8) (u1 : 0 ≤ M 45 1) (u2 : M 45 1 < 11) (u4 : M 45 2 ≤ 10) : chg [8] M M8 := fun a k n => by
  have hu := usc_in (i := (M 45 2).toNat) u1 u2 (by omega)
  by_cases e : 45 ≤ a ∧ a ≤ 222
  · exact absurd (by rw [rg_U e.1 e.2]; decide) n
  · rw [h.2.2.2.1 a (by omega) (by omega)]
/-- the same: reference -/
def hM (wc : Int) (N N5 : MEM) : Prop := N5 278 31 = (if N 278 31 = 10 then 10 else N 278 31 + 1) ∧ (∀ c, c ≠ 278 → c ≠ 288 → c ≠ 289 → N5 c = N c) ∧ (∀ k, k ≠ 31 → N5 278 k = N 278 k) ∧
  ∀ j : Nat, (j : Int) = (if N 278 31 = 10 then 9 else N 278 31) → ((∀ i, i < 166 → N5 288 (208 * j + i) = N 279 i) ∧ N5 288 (208 * j + 166) = N 278 7 ∧ (∀ i, i < 40 → N5 288 (208 * j + 167 + i) = N 282 i) ∧ N5 288 (208 * j + 207) = wc) ∧
    ∀ i' : Nat, i' < j → ∀ q, q < 208 → N5 288 (208 * i' + q) = N 288 (208 * (if N 278 31 = 10 then i' + 1 else i') + q)
theorem aside_eq {N : MEM} {wc : Int} (hw : wc = 0 ∨ wc = 1) : ∃ N3, mo_layAside wc N = some N3 ∧ (∀ c, c ≠ 289 → N3 c = N c) ∧ (∀ i, i < 166 → N3 289 i = N 279 i) ∧ N3 289 166 = N 278 7 ∧ (∀ i, i < 40 → N3 289 (167 + i) = N 282 i) ∧ N3 289 207 = wc := by
  obtain ⟨N2, e2, ⟨l1, l2, l3⟩, l4, l5⟩ := layAll_eq (a := 289) (k := 0) (M := N) (Or.inl rfl) (by show 0 + 207 ≤ 208; decide)
  have e2' : mo_layAll 289 0 N = some N2 := e2
  have go : mo_layAside wc N = some (up2 N2 289 207 wc) := by
    unfold mo_layAside mo_layAside_j25
    rw [e2', Option.bind_some]
    rcases hw with rfl | rfl
    · rw [if_pos rfl, if_pos (by decide)]; rfl
    · rw [if_neg (by decide), if_pos (by decide)]; rfl
  refine ⟨_, go, fun c hc => by rw [up2_ne hc]; exact l4 c hc, fun i hi => ?_, ?_, fun i hi => ?_, rd_same⟩
  · rw [rd_k (by omega)]; have := l1 i hi; rw [Nat.zero_add] at this; exact this
  · rw [rd_k (by omega)]; exact l2
  · rw [rd_k (by omega)]; have := l3 i hi; rw [Nat.zero_add] at this; exact this
theorem hM_of {wc : Int} {N N3 : MEM} (h0 : 0 ≤ N 278 31) (h1 : N 278 31 ≤ 10) (a1 : ∀ c, c ≠ 278 → c ≠ 289 → N3 c = N c) (a1' : ∀ k, N3 278 k = N 278 k) (a2 : ∀ i, i < 166 → N3 289 i = N 279 i) (a3 : N3 289 166 = N 278 7) (a4 : ∀ i, i < 40 → N3 289 (167 + i) = N 282 i) (a5 : N3 289 207 = wc) : ∃ N5, mo_remember N3 = some N5 ∧ hM wc N N5 := by
  obtain ⟨N5, e5, r1, r2, r3, r4⟩ := remember_eq (M := N3) (by rw [a1']; exact h0) (by rw [a1']; exact h1)
  rw [a1'] at r1 r4
  refine ⟨N5, e5, r1, fun c c1 c2 c3 => by rw [r2 c c1 c2, a1 c c1 c3], fun k hk => by rw [r3 k hk, a1'], fun j hj => ?_⟩
  obtain ⟨q1, q2⟩ := r4 j hj
  refine ⟨⟨fun i hi => by rw [q1 i (by omega), a2 i hi], by rw [q1 166 (by omega), a3], fun i hi => ?_, by rw [q1 207 (by omega), a5]⟩, fun i' hi' q hq => by rw [q2 i' hi' q hq, a1 288 (by decide) (by decide)]⟩
  rw [Nat.add_assoc, q1 _ (by omega), a4 i hi]
theorem hist_mo {wc : Int} {N : MEM} (h0 : 0 ≤ N 278 31) (h1 : N 278 31 ≤ 10) (hw : wc = 0 ∨ wc = 1) : ∃ N3 N5, mo_layAside wc N = some N3 ∧ mo_remember N3 = some N5 ∧ hM wc N N5 := by
  obtain ⟨N3, e3, a1, a2, a3, a4, a5⟩ := aside_eq (N := N) hw
  obtain ⟨N5, e5, h⟩ := hM_of (N3 := N3) h0 h1 (fun c _ c2 => a1 c c2) (fun k => by rw [a1 278 (by decide)]) a2 a3 a4 a5
  exact ⟨N3, N5, e3, e5, h⟩
theorem rg_288 (k : Nat) : rg 288 k = 8 := rfl
theorem rg_289 (k : Nat) : rg 289 k = 0 := rfl
theorem hM.chg {wc : Int} {N N5 : MEM} (h : hM wc N N5) : chg [0, 8] N N5 := fun a k n => by
  by_cases e1 : a = 288
  · subst e1; exact absurd (by rw [rg_288]; decide) n
  · by_cases e2 : a = 289
    · subst e2; exact absurd (by rw [rg_289]; decide) n
    · by_cases e3 : a = 278
      · subst e3
        refine h.2.2.1 k (fun e => n ?_)
        subst e; decide
      · rw [h.2.1 a e3 e1 e2]
theorem hist_U {B : Int} {M M8 N N5 M' : MEM} {wc : Int} (h : Rel B M) (hw : wc = 0 ∨ wc = 1) (hc : hC wc M M8) (hm : hM wc N N5) (n1 : N 279 = M 279) (n2 : N 282 = M 282) (n3 : N 278 7 = M 278 7) (n4 : N 278 31 = M 278 31) (n5 : N 288 = M 288)
    (f1 : M' 45 = M8 45) (f2 : ∀ c, 47 ≤ c → c ≤ 222 → M' c = M8 c) (f3 : M' 288 = N5 288) (f4 : M' 278 31 = N5 278 31) (f5 : M' 3 2 = M 3 2) (f6 : M' 280 = M 280) : C_U B M' := by
  obtain ⟨s1, s2, s3, s3a, s3b, s4⟩ := h.S
  obtain ⟨u1, u2, u3, u4, u5, u6⟩ := h.U
  have hu := usc_in (i := (M 45 2).toNat) u1 u2 (by omega)
  obtain ⟨c1, c2, c3, c4, c5, c6⟩ := hc
  obtain ⟨m1, m2, m3, m4⟩ := hm
  rw [n4] at m1 m4
  refine U_more (wc := wc) h.U h.D h.C s3 hw ?_ ?_ ?_ (fun c a b d => by rw [f2 c a b, c4 c (by omega) d]) (by rw [f1]; exact c5) (by rw [f1]; exact c6) f5 f6 (by rw [f4]; exact m1) (fun j hj => ?_)
  · refine ⟨by rw [f2 _ (by omega) (by omega)]; exact c1.1, by rw [f2 _ (by omega) (by omega)]; exact c1.2.1, fun d hd => ?_⟩
    rw [f2 _ (by omega) (by omega), f2 _ (by omega) (by omega), f2 _ (by omega) (by omega)]
    exact c1.2.2 d hd
  · refine ⟨by rw [f2 _ (by omega) (by omega)]; exact c2.1, fun q i x1 x2 hi => ?_⟩
    rw [f2 _ (by omega) (by omega)]
    exact c2.2 q i x1 x2 hi
  · rw [f2 _ (by omega) (by omega)]; exact c3
  · rw [f3]
    have := m4 j hj
    rw [n1, n2, n3, n5] at this
    exact this
theorem lock_of {B : Int} {M M1 N : MEM} (h : Rel B M) (c1 : chg [0, 8, 10] M M1) (c2 : chg [0, 8, 10] M N) : lock B M1 N := by
  have nC : ∀ {M2 : MEM}, chg [0, 8, 10] M M2 → C_F M2 ∧ C_C M2 ∧ C_N M2 ∧ rlOk M2 := fun {M2} c => ⟨h.F.cg (c.same fun x hx => by rw [hx]; decide), h.C.cg (c.same fun x hx => by rw [hx]; decide), h.N.cg (c.same fun x hx => by rw [hx]; decide), h.R.cg (fun a k hr => c a k (by rw [hr]; decide))⟩
  obtain ⟨a1, a2, a3, a4⟩ := nC c1
  obtain ⟨b1, b2, b3, b4⟩ := nC c2
  obtain ⟨d1, d2, d3, d4⟩ := eOk_of (f := 224) a1 a2 (th0 (Or.inl rfl) a3) a4
  have m8 : M 278 8 = 0 := h.N.2.2.2.2.2.1
  have m7 : M 278 7 ≤ 10 := h.C.2.2.1
  have hs : ∀ a k, (rg a k = 4 ∨ rg a k = 12) → mrg M1 N a k = M a k := fun a k hr => by
    have hn : rg a k ∉ [0, 8, 10] := by rcases hr with e | e <;> rw [e] <;> decide
    by_cases e : a ≤ 277
    · rw [mrg_lo e]; exact c1 a k hn
    · rw [mrg_hi (by omega)]; exact c2 a k hn
  refine ⟨⟨d1, d2, d4⟩, b4, em_of (f := 224) b1 b2 (th0 (Or.inl rfl) b3), ?_, h.D.cg h.S.2.2.1 hs, h.S.cg (fun a k e => hs a k (Or.inr e))⟩
  rw [passE_alike a1 a2 a3 a4, chg_env c1 (by decide) (by decide) (by decide) (by decide) m8 m7, chg_env c2 (by decide) (by decide) (by decide) (by decide) m8 m7]
theorem offW.chg {M M' : MEM} (h : offW M M') : chg [0, 4] M M' := fun a k n => by
  by_cases e3 : a = 3
  · subst e3
    refine h.2.2.1 k (fun e => n ?_)
    subst e; decide
  · by_cases e10 : 10 ≤ a ∧ a ≤ 18
    · by_cases e2 : k ≠ 2 ∨ (a ≠ 10 ∧ a ≠ 13 ∧ a ≠ 16)
      · exact absurd (by rw [rg_D e10.1 e10.2 e2]; decide) n
      · have : k = 2 := by omega
        subst this
        obtain ⟨d, rfl⟩ : ∃ d, a = 10 + 3 * d := ⟨(a - 10) / 3, by omega⟩
        exact h.2.2.2 d 2 (by omega) (by decide) (by decide) (by decide)
    · by_cases e21 : a = 21
      · subst e21
        refine h.2.1 k (fun e => n ?_)
        subst e; decide
      · by_cases e23 : a = 23
        · subst e23; exact absurd (by decide : (0 : Nat) ∈ [0, 4]) n
        · by_cases e24 : a = 24
          · subst e24; exact absurd (by decide : (0 : Nat) ∈ [0, 4]) n
          · rw [h.1 a e3 (by omega) e21 e23 e24]
theorem offG.chg {M M' : MEM} (h : offG 279 M M') : chg [0, 4] M M' := fun a k n => by
  by_cases e1 : a = 279
  · subst e1; exact absurd (by rw [rg_279]; decide) n
  · by_cases e2 : a = 278
    · subst e2
      by_cases z : (14 ≤ k ∧ k ≤ 28 ∧ k ≠ 21) ∨ k = 38
      · exact absurd (by rw [rg278 z]; decide) n
      · exact h.2 k (by omega)
    · by_cases e3 : a = 287
      · subst e3; exact absurd (by decide : (0 : Nat) ∈ [0, 4]) n
      · rw [h.1 a e1 e2 e3]
