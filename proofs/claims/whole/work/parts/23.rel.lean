-- ===== what class and reference hold alike, region by region =====
/-- THE TEXT -/
def C_T (M : MEM) : Prop := M 278 10 = M 1 1 ∧ 0 ≤ M 1 1 ∧ M 1 1 ≤ 80 ∧ ∀ i : Nat, (i : Int) < M 1 1 → 0 ≤ M 2 i ∧ M 2 i ≤ 255 ∧ M 283 i = sx8 (M 2 i)
/-- FLIES -/
def C_F (M : MEM) : Prop := M 278 4 = M 19 1 ∧ 0 ≤ M 19 1 ∧ M 19 1 ≤ 40 ∧ ∀ i : Nat, (i : Int) < M 19 1 → M 281 i = M 20 i
/-- how many DONKEYS, PLACES -/
def C_S (M : MEM) : Prop := M 278 1 = M 3 2 ∧ 0 ≤ M 3 2 ∧ M 3 2 ≤ 3 ∧ 0 ≤ M 278 51 ∧ M 278 51 ≤ M 3 2 ∧ ∀ d : Nat, (d : Int) < M 3 2 → M 280 d = M (10 + 3 * d) 2 ∧ 4 ≤ M 280 d ∧ M 280 d ≤ 12
/-- a DONKEY's cells of the class (b) and its row of the reference (a, from o on), n PLACES, as of MINUTE t -/
def snD (b a o : Nat) (n t : Int) (M : MEM) : Prop :=
  eqD n (dsC b M) (dsM a o M) ∧ okD n (dsC b M) ∧ (∀ p : Nat, n ≤ (p : Int) → p < 12 → M a (o + 3 + p) = 0) ∧ M b 5 ≤ t ∧
  ∀ j : Nat, 1 ≤ j → (j : Int) ≤ M b 5 → M b 5 < (j : Int) + 40 → M (b + 2) (j % 40) = M a (o + 15 + (j - 1) % 40) ∧ 0 ≤ M (b + 2) (j % 40) ∧ M (b + 2) (j % 40) < t
/-- a scene of the class (s) and a picture of the reference (a, from k on), of N DONKEYS -/
def snS (s a k : Nat) (N B : Int) (M : MEM) : Prop :=
  M s 3 = M a (k + 165) ∧ 0 ≤ M s 3 ∧ M s 3 ≤ B ∧ ∀ d : Nat, (d : Int) < N → M (s + 7 + 3 * d) 2 = M 280 d ∧ snD (s + 7 + 3 * d) a (k + 55 * d) (M 280 d) (M s 3) M
/-- CARROTS of the class (c) and of the reference (how many, the cells) -/
def snC (c : Nat) (mm : Int) (cf : Nat → Int) (M : MEM) : Prop :=
  M c 4 = mm ∧ 0 ≤ mm ∧ mm ≤ 10 ∧ ∀ i : Nat, (i : Int) < mm → M (c + 1) i = cf (4 * i) ∧ M (c + 2) i = cf (4 * i + 1) ∧ M (c + 3) i = cf (4 * i + 2) ∧ M (c + 4) i = cf (4 * i + 3) ∧ (M (c + 4) i = 1 ∨ M (c + 4) i = -1)
def C_D (B : Int) (M : MEM) : Prop := snS 3 279 0 (M 3 2) B M
def C_C (M : MEM) : Prop := snC 5 (M 278 7) (M 282) M
/-- CONTRACTS -/
def C_O (M : MEM) : Prop := M 278 41 = M 34 6 ∧ 0 ≤ M 34 6 ∧ M 34 6 ≤ 10 ∧ ∀ i : Nat, (i : Int) < M 34 6 →
  M 295 (5 * i) = M 35 i ∧ M 295 (5 * i + 1) = M 36 i ∧ M 295 (5 * i + 2) = M 37 i ∧ M 295 (5 * i + 3) = M 38 i ∧ M 295 (5 * i + 4) = M 39 i ∧ (1 ≤ M 37 i ∧ M 37 i ≤ 99) ∧ (0 ≤ M 38 i ∧ M 38 i < M 3 2) ∧ (0 ≤ M 39 i ∧ M 39 i < 12)
/-- what was heard -/
def C_H (M : MEM) : Prop := M 278 49 = M 41 3 ∧ 0 ≤ M 41 3 ∧ M 41 3 ≤ 8 ∧ ∀ i : Nat, (i : Int) < M 41 3 →
  M 302 (3 * i) = M 42 i ∧ M 302 (3 * i + 1) = M 43 i ∧ M 302 (3 * i + 2) = M 44 i ∧ (0 ≤ M 43 i ∧ M 43 i ≤ 60) ∧ (1 ≤ M 44 i ∧ M 44 i ≤ 600)
def usc (M : MEM) (i : Nat) : Nat := 47 + 16 * (if (M 45 1).toNat + i < 11 then (M 45 1).toNat + i else (M 45 1).toNat + i - 11)
/-- what can be undone -/
def C_U (B : Int) (M : MEM) : Prop := 0 ≤ M 45 1 ∧ M 45 1 < 11 ∧ M 278 31 = M 45 2 ∧ 0 ≤ M 45 2 ∧ M 45 2 ≤ 10 ∧ ∀ i : Nat, (i : Int) < M 45 2 →
  M (usc M i) 2 = M 3 2 ∧ snS (usc M i) 288 (208 * i) (M 3 2) B M ∧ snC (usc M i + 2) (M 288 (208 * i + 166)) (fun q => M 288 (208 * i + 167 + q)) M ∧ M (usc M i) 5 = M 288 (208 * i + 207) ∧ (M (usc M i) 5 = 0 ∨ M (usc M i) 5 = 1)
/-- what is kept -/
def C_K (B : Int) (M : MEM) : Prop := ∀ i : Nat, i < 2 → M 305 i = M (246 + 16 * i) 4 ∧ (M 305 i = 0 ∨ M 305 i = 1) ∧ (M 305 i = 1 →
  M 306 i ≤ M 278 51 ∧ M (246 + 16 * i) 2 ≤ M 3 2 ∧ (M 306 i = M 278 51 ↔ M (246 + 16 * i) 2 = M 3 2) ∧
  (M (246 + 16 * i) 2 = M 3 2 → snS (246 + 16 * i) 304 (207 * i) (M 3 2) B M ∧ snC (246 + 16 * i + 2) (M 304 (207 * i + 166)) (fun q => M 304 (207 * i + 167 + q)) M))
/-- THE ROW -/
def C_W (M : MEM) : Prop := M 278 12 = M 0 14 ∧ 0 ≤ M 0 14 ∧ M 0 14 ≤ 4 ∧ ∀ i : Nat, (i : Int) < M 0 14 → M 284 i = M 245 i
/-- at rest: nothing is thought of -/
def C_N (M : MEM) : Prop := M 224 6 = -1 ∧ M 234 6 = -1 ∧ M 225 4 = 0 ∧ M 235 4 = 0 ∧ M 278 5 = -1 ∧ M 278 8 = 0 ∧ M 278 29 = -1
/-- as many MINUTES as B at most have gone by -/
def Rel (B : Int) (M : MEM) : Prop := C_T M ∧ C_F M ∧ rlOk M ∧ C_D B M ∧ C_C M ∧ C_O M ∧ C_H M ∧ C_U B M ∧ C_K B M ∧ C_W M ∧ C_N M ∧ C_S M
theorem Rel.T {B : Int} {M : MEM} (h : Rel B M) : C_T M := h.1
theorem Rel.F {B : Int} {M : MEM} (h : Rel B M) : C_F M := h.2.1
theorem Rel.R {B : Int} {M : MEM} (h : Rel B M) : rlOk M := h.2.2.1
theorem Rel.D {B : Int} {M : MEM} (h : Rel B M) : C_D B M := h.2.2.2.1
theorem Rel.C {B : Int} {M : MEM} (h : Rel B M) : C_C M := h.2.2.2.2.1
theorem Rel.O {B : Int} {M : MEM} (h : Rel B M) : C_O M := h.2.2.2.2.2.1
theorem Rel.H {B : Int} {M : MEM} (h : Rel B M) : C_H M := h.2.2.2.2.2.2.1
theorem Rel.U {B : Int} {M : MEM} (h : Rel B M) : C_U B M := h.2.2.2.2.2.2.2.1
theorem Rel.K {B : Int} {M : MEM} (h : Rel B M) : C_K B M := h.2.2.2.2.2.2.2.2.1
theorem Rel.W {B : Int} {M : MEM} (h : Rel B M) : C_W M := h.2.2.2.2.2.2.2.2.2.1
theorem Rel.N {B : Int} {M : MEM} (h : Rel B M) : C_N M := h.2.2.2.2.2.2.2.2.2.2.1
theorem Rel.S {B : Int} {M : MEM} (h : Rel B M) : C_S M := h.2.2.2.2.2.2.2.2.2.2.2
/-- the regions r are as they were -/
def same (r : Nat → Prop) (M M' : MEM) : Prop := ∀ a k, r (rg a k) → M' a k = M a k
theorem same.row {r : Nat → Prop} {M M' : MEM} (h : same r M M') {a : Nat} (g : ∀ k, r (rg a k)) : M' a = M a := funext fun k => h a k (g k)
theorem C_T.cg {M M' : MEM} (h : same (· = 1) M M') (g : C_T M) : C_T M' := by
  unfold C_T at *
  rw [h 278 10 rfl, h 1 1 rfl, h.row (a := 2) (fun k => rfl), h.row (a := 283) (fun k => rfl)]
  exact g
theorem C_F.cg {M M' : MEM} (h : same (· = 2) M M') (g : C_F M) : C_F M' := by
  unfold C_F at *
  rw [h 278 4 rfl, h 19 1 rfl, h.row (a := 20) (fun k => rfl), h.row (a := 281) (fun k => rfl)]
  exact g
theorem C_S.cg {M M' : MEM} (h : same (· = 12) M M') (g : C_S M) : C_S M' := by
  obtain ⟨g1, g2, g3, g5, g6, g4⟩ := g
  unfold C_S
  rw [h 278 1 rfl, h 3 2 rfl, h 278 51 rfl, h.row (a := 280) (fun k => rfl)]
  refine ⟨g1, g2, g3, g5, g6, fun d hd => ?_⟩
  rw [h (10 + 3 * d) 2 (rg_P (by omega))]
  exact g4 d hd
theorem snD.cg {b a o : Nat} {n t t' : Int} {M M' : MEM} (ht : t ≤ t') (h1 : M' (b + 1) = M (b + 1)) (h2 : M' (b + 2) = M (b + 2)) (h3 : ∀ k, k = 3 ∨ k = 4 ∨ k = 5 → M' b k = M b k) (h4 : ∀ k, o ≤ k → k < o + 55 → M' a k = M a k) (g : snD b a o n t M) : snD b a o n t' M' := by
  obtain ⟨g1, g2, g3, g4, g5⟩ := g
  have e1 : dsC b M' = dsC b M := by unfold dsC; rw [h1, h3 3 (by omega), h3 4 (by omega), h3 5 (by omega)]
  have e2 : eqD n (dsM a o M) (dsM a o M') := by
    refine ⟨?_, ?_, ?_, fun p hp => ?_⟩
    · exact (h4 _ (by omega) (by omega)).symm
    · exact (h4 _ (by omega) (by omega)).symm
    · exact (h4 _ (by omega) (by omega)).symm
    · have := g2.2.1
      exact (h4 _ (by omega) (by omega)).symm
  refine ⟨?_, ?_, fun p h h' => ?_, ?_, fun j hj1 hj2 hj3 => ?_⟩
  · rw [e1]; exact g1.tr e2
  · rw [e1]; exact g2
  · rw [h4 _ (by omega) (by omega)]; exact g3 p h h'
  · rw [h3 5 (by omega)]; omega
  · rw [h3 5 (by omega)] at hj2 hj3
    rw [h2, h4 _ (by omega) (by omega)]
    have := g5 j hj1 hj2 hj3
    exact ⟨this.1, this.2.1, by omega⟩
theorem snS.cg {s a k : Nat} {N B : Int} {M M' : MEM} (hN : N ≤ 3) (h0 : M' s 3 = M s 3) (h1 : ∀ c q, s + 7 ≤ c → c < s + 16 → M' c q = M c q) (h2 : ∀ q, k ≤ q → q < k + 166 → M' a q = M a q) (h3 : ∀ d : Nat, (d : Int) < N → M' 280 d = M 280 d) (g : snS s a k N B M) : snS s a k N B M' := by
  obtain ⟨g1, g2, g3, g4⟩ := g
  unfold snS
  rw [h0, h2 _ (by omega) (by omega)]
  refine ⟨g1, g2, g3, fun d hd => ?_⟩
  rw [h3 d hd, h1 _ _ (by omega) (by omega)]
  exact ⟨(g4 d hd).1, (g4 d hd).2.cg (Int.le_refl _) (funext fun q => h1 _ q (by omega) (by omega)) (funext fun q => h1 _ q (by omega) (by omega)) (fun q _ => h1 _ q (by omega) (by omega)) (fun q _ _ => h2 q (by omega) (by omega))⟩
theorem snS.mono {s a k : Nat} {N B B' : Int} {M : MEM} (h : B ≤ B') (g : snS s a k N B M) : snS s a k N B' M := ⟨g.1, g.2.1, by have := g.2.2.1; omega, g.2.2.2⟩
theorem snC.cg {c : Nat} {mm : Int} {cf cf' : Nat → Int} {M M' : MEM} (h : ∀ q k, q ≤ 4 → (q ≠ 0 ∨ k = 4) → M' (c + q) k = M (c + q) k) (h2 : ∀ k, k < 40 → cf' k = cf k) (g : snC c mm cf M) : snC c mm cf' M' := by
  obtain ⟨g1, g2, g3, g4⟩ := g
  have h0 := h 0 4 (by omega) (by omega)
  rw [Nat.add_zero] at h0
  refine ⟨h0.trans g1, g2, g3, fun i hi => ?_⟩
  rw [h 1 i (by omega) (by omega), h 2 i (by omega) (by omega), h 3 i (by omega) (by omega), h 4 i (by omega) (by omega), h2 _ (by omega), h2 _ (by omega), h2 _ (by omega), h2 _ (by omega)]
  exact g4 i hi
theorem rg_279 (k : Nat) : rg 279 k = 4 := rfl
theorem rg_D12 {a k : Nat} (h1 : 10 ≤ a) (h2 : a ≤ 18) : rg a k = 4 ∨ rg a k = 12 := by
  by_cases h : k ≠ 2 ∨ (a ≠ 10 ∧ a ≠ 13 ∧ a ≠ 16)
  · exact Or.inl (rg_D h1 h2 h)
  · have : k = 2 := by omega
    subst this
    exact Or.inr (rg_P (by omega))
theorem C_D.cg {B : Int} {M M' : MEM} (hN : M 3 2 ≤ 3) (h : same (fun r => r = 4 ∨ r = 12) M M') (g : C_D B M) : C_D B M' := by
  unfold C_D at *
  rw [h 3 2 (by decide)]
  exact g.cg hN (h 3 3 (by decide)) (fun c q h1 h2 => h c q (rg_D12 h1 (by omega))) (fun q _ _ => h 279 q (Or.inl rfl)) (fun d _ => h 280 d (Or.inr rfl))
theorem C_C.cg {M M' : MEM} (h : same (· = 5) M M') (g : C_C M) : C_C M' := by
  unfold C_C at *
  rw [h 278 7 rfl]
  refine g.cg (fun q k h1 h2 => ?_) (fun k hk => h 282 k (rg_car hk))
  have : q = 0 ∨ q = 1 ∨ q = 2 ∨ q = 3 ∨ q = 4 := by omega
  rcases this with rfl | rfl | rfl | rfl | rfl
  · have : k = 4 := by omega
    subst this
    exact h 5 4 rfl
  · exact h 6 k rfl
  · exact h 7 k rfl
  · exact h 8 k rfl
  · exact h 9 k rfl
theorem C_O.cg {M M' : MEM} (hN : M 3 2 ≤ M' 3 2) (h : same (· = 6) M M') (g : C_O M) : C_O M' := by
  obtain ⟨g1, g2, g3, g4⟩ := g
  unfold C_O
  rw [h 278 41 rfl, h 34 6 rfl, h.row (a := 35) (fun k => rfl), h.row (a := 36) (fun k => rfl), h.row (a := 37) (fun k => rfl), h.row (a := 38) (fun k => rfl), h.row (a := 39) (fun k => rfl), h.row (a := 295) (fun k => rfl)]
  refine ⟨g1, g2, g3, fun i hi => ?_⟩
  obtain ⟨q1, q2, q3, q4, q5, q6, q7, q8⟩ := g4 i hi
  exact ⟨q1, q2, q3, q4, q5, q6, ⟨q7.1, by omega⟩, q8⟩
theorem C_H.cg {M M' : MEM} (h : same (· = 7) M M') (g : C_H M) : C_H M' := by
  unfold C_H at *
  rw [h 278 49 rfl, h 41 3 rfl, h.row (a := 42) (fun k => rfl), h.row (a := 43) (fun k => rfl), h.row (a := 44) (fun k => rfl), h.row (a := 302) (fun k => rfl)]
  exact g
theorem usc_in {M : MEM} {i : Nat} (h0 : 0 ≤ M 45 1) (h1 : M 45 1 < 11) (hi : i < 11) : 47 ≤ usc M i ∧ usc M i + 15 ≤ 222 := by
  unfold usc
  split <;> omega
theorem C_U.cg {B B' : Int} {M M' : MEM} (hB : B ≤ B') (hN : M 3 2 ≤ 3) (h : same (fun r => r = 8 ∨ r = 12) M M') (g : C_U B M) : C_U B' M' := by
  obtain ⟨g1, g2, g3, g4, g5, g6⟩ := g
  have e45 : M' 45 = M 45 := h.row (fun k => Or.inl rfl)
  have e288 : M' 288 = M 288 := h.row (fun k => Or.inl rfl)
  have eu : ∀ i, usc M' i = usc M i := fun i => by unfold usc; rw [e45]
  unfold C_U
  rw [e45, e288, h 278 31 (Or.inl rfl), h 3 2 (Or.inr rfl)]
  refine ⟨g1, g2, g3, g4, g5, fun i hi => ?_⟩
  have hu := usc_in (i := i) g1 g2 (by omega)
  rw [eu]
  have hr : ∀ c q, 47 ≤ c → c ≤ 222 → M' c q = M c q := fun c q h1 h2 => h c q (Or.inl (rg_U (by omega) h2))
  obtain ⟨q1, q2, q3, q4, q5⟩ := g6 i hi
  rw [hr _ _ hu.1 (by omega), hr (usc M i) 5 hu.1 (by omega)]
  exact ⟨q1, (q2.mono hB).cg hN (hr _ _ hu.1 (by omega)) (fun c q h1 h2 => hr c q (by omega) (by omega)) (fun q _ _ => by rw [e288]) (fun d _ => h 280 d (Or.inr rfl)), q3.cg (fun q k h1 h2 => hr _ _ (by omega) (by omega)) (fun k _ => rfl), q4, q5⟩
theorem C_K.cg {B B' : Int} {M M' : MEM} (hB : B ≤ B') (hN : M 3 2 ≤ 3) (h : same (fun r => r = 9 ∨ r = 12) M M') (g : C_K B M) : C_K B' M' := by
  have e304 : M' 304 = M 304 := h.row (fun k => Or.inl rfl)
  have e305 : M' 305 = M 305 := h.row (fun k => Or.inl rfl)
  have e306 : M' 306 = M 306 := h.row (fun k => Or.inl rfl)
  have hr : ∀ c q, 246 ≤ c → c ≤ 277 → M' c q = M c q := fun c q h1 h2 => h c q (Or.inl (rg_K (by omega) h2))
  intro i hi
  rw [e305, e306, h 278 51 (Or.inr rfl), h 3 2 (Or.inr rfl), hr _ _ (by omega) (by omega), hr _ 2 (by omega) (by omega), e304]
  obtain ⟨q1, q2, q3⟩ := g i hi
  refine ⟨q1, q2, fun h1 => ?_⟩
  obtain ⟨q4, q5, q6, q7⟩ := q3 h1
  refine ⟨q4, q5, q6, fun h2 => ?_⟩
  obtain ⟨q8, q9⟩ := q7 h2
  exact ⟨(q8.mono hB).cg hN (hr _ _ (by omega) (by omega)) (fun c q h1 h2 => hr c q (by omega) (by omega)) (fun q _ _ => by rw [e304]) (fun d _ => h 280 d (Or.inr rfl)), q9.cg (fun q k h1 h2 => hr _ _ (by omega) (by omega)) (fun k _ => rfl)⟩
theorem C_W.cg {M M' : MEM} (h : same (· = 10) M M') (g : C_W M) : C_W M' := by
  unfold C_W at *
  rw [h 278 12 rfl, h 0 14 rfl, h.row (a := 245) (fun k => rfl), h.row (a := 284) (fun k => rfl)]
  exact g
theorem C_N.cg {M M' : MEM} (h : same (· = 11) M M') (g : C_N M) : C_N M' := by
  unfold C_N at *
  rw [h 224 6 rfl, h 234 6 rfl, h 225 4 rfl, h 235 4 rfl, h 278 5 rfl, h 278 8 rfl, h 278 29 rfl]
  exact g
theorem chg.same {L : List Nat} {r : Nat → Prop} {M M' : MEM} (h : chg L M M') (d : ∀ x, r x → x ∉ L) : same r M M' := fun a k g => h a k (d _ g)
/-- what isn't touched goes on being alike; what is must be shown -/
theorem Rel.go {B B' : Int} {L : List Nat} {M M' : MEM} (h : Rel B M) (hB : B ≤ B') (c : chg L M M') (h12 : 12 ∉ L) (q1 : 1 ∈ L → C_T M') (q2 : 2 ∈ L → C_F M') (q3 : 3 ∈ L → rlOk M') (q4 : 4 ∈ L → C_D B' M') (q5 : 5 ∈ L → C_C M') (q6 : 6 ∈ L → C_O M') (q7 : 7 ∈ L → C_H M') (q8 : 8 ∈ L → C_U B' M') (q9 : 9 ∈ L → C_K B' M') (q10 : 10 ∈ L → C_W M') (q11 : 11 ∈ L → C_N M') : Rel B' M' := by
  have hS3 : M 3 2 ≤ 3 := h.S.2.2.1
  refine ⟨?_, ?_, ?_, ?_, ?_, ?_, ?_, ?_, ?_, ?_, ?_, h.S.cg (c.same fun x hx => by rw [hx]; exact h12)⟩
  · by_cases e : 1 ∈ L
    · exact q1 e
    · exact h.T.cg (c.same fun x hx => by rw [hx]; exact e)
  · by_cases e : 2 ∈ L
    · exact q2 e
    · exact h.F.cg (c.same fun x hx => by rw [hx]; exact e)
  · by_cases e : 3 ∈ L
    · exact q3 e
    · exact h.R.cg (fun a k hr => c a k (by rw [hr]; exact e))
  · by_cases e : 4 ∈ L
    · exact q4 e
    · have g := h.D.cg hS3 (c.same fun x hx => by rcases hx with hx | hx <;> rw [hx]; exact e; exact h12)
      exact g.mono hB
  · by_cases e : 5 ∈ L
    · exact q5 e
    · exact h.C.cg (c.same fun x hx => by rw [hx]; exact e)
  · by_cases e : 6 ∈ L
    · exact q6 e
    · exact h.O.cg (by rw [c 3 2 h12]; exact Int.le_refl _) (c.same fun x hx => by rw [hx]; exact e)
  · by_cases e : 7 ∈ L
    · exact q7 e
    · exact h.H.cg (c.same fun x hx => by rw [hx]; exact e)
  · by_cases e : 8 ∈ L
    · exact q8 e
    · exact h.U.cg hB hS3 (c.same fun x hx => by rcases hx with hx | hx <;> rw [hx]; exact e; exact h12)
  · by_cases e : 9 ∈ L
    · exact q9 e
    · exact h.K.cg hB hS3 (c.same fun x hx => by rcases hx with hx | hx <;> rw [hx]; exact e; exact h12)
  · by_cases e : 10 ∈ L
    · exact q10 e
    · exact h.W.cg (c.same fun x hx => by rw [hx]; exact e)
  · by_cases e : 11 ∈ L
    · exact q11 e
    · exact h.N.cg (c.same fun x hx => by rw [hx]; exact e)
theorem Rel.go0 {B : Int} {M M' : MEM} (h : Rel B M) (c : chg [0] M M') : Rel B M' :=
  h.go (Int.le_refl _) c (by decide) (fun q => absurd q (by decide)) (fun q => absurd q (by decide)) (fun q => absurd q (by decide)) (fun q => absurd q (by decide)) (fun q => absurd q (by decide)) (fun q => absurd q (by decide)) (fun q => absurd q (by decide)) (fun q => absurd q (by decide)) (fun q => absurd q (by decide)) (fun q => absurd q (by decide)) (fun q => absurd q (by decide))
theorem Rel.go10 {B : Int} {M M' : MEM} (h : Rel B M) (c : chg [0, 10] M M') (w : C_W M') : Rel B M' :=
  h.go (Int.le_refl _) c (by decide) (fun q => absurd q (by decide)) (fun q => absurd q (by decide)) (fun q => absurd q (by decide)) (fun q => absurd q (by decide)) (fun q => absurd q (by decide)) (fun q => absurd q (by decide)) (fun q => absurd q (by decide)) (fun q => absurd q (by decide)) (fun q => absurd q (by decide)) (fun _ => w) (fun q => absurd q (by decide))
