-- ===== questions: what they have in common =====
/-- class and reference answer alike, and are alike again -/
def Lk (B : Int) (o : Option (Int × MEM)) (f : MEM → Option (Int × MEM)) : Prop := Tc o (fun p => Tc (f p.2) (fun q => q.1 = p.1 ∧ Rel B q.2))
/-- the way of the DONKEY d from now on, as it is -/
noncomputable def qT (M : MEM) (d : Nat) : Nat → DS := trajD (envM M) (M 280 d) d (M 3 3) (dsC (10 + 3 * d) M)
theorem dnk {B : Int} {M : MEM} (h : Rel B M) (hB : B ≤ 100000000) {d : Nat} (hd : (d : Int) < M 3 2) : okD (M 280 d) (dsC (10 + 3 * d) M) ∧ (dsC (10 + 3 * d) M).2.2.1 ≤ 100000000 ∧ eqD (M 280 d) (dsC (10 + 3 * d) M) (dsM 279 (55 * d) M) ∧ M (10 + 3 * d) 2 = M 280 d := by
  obtain ⟨h1, h2, h3, h4⟩ := h.D
  obtain ⟨q1, q2, q3, -, q4, -⟩ := h4 d hd
  rw [Nat.zero_add] at q2
  have q4 : M (3 + 7 + 3 * d) 5 ≤ M 3 3 := q4
  refine ⟨q3, ?_, q2, q1⟩
  show M (3 + 7 + 3 * d) 5 ≤ _
  omega
theorem now_in {B : Int} {M : MEM} (h : Rel B M) : 0 ≤ M 3 3 ∧ M 3 3 ≤ B ∧ M 279 165 = M 3 3 := by
  obtain ⟨h1, h2, h3, h4⟩ := h.D
  exact ⟨h2, h3, h1.symm⟩
theorem chg_env {L : List Nat} {M M1 : MEM} (c : chg L M M1) (h2 : 2 ∉ L) (h3 : 3 ∉ L) (h5 : 5 ∉ L) (h11 : 11 ∉ L) (h8 : M 278 8 = 0) (h7 : M 278 7 ≤ 10) : envM M1 = envM M := by
  have e22 : M1 22 = M 22 := c.row (fun k => h3)
  have e281 : M1 281 = M 281 := c.row (fun k => h2)
  have e1 : flM M1 = flM M := by
    funext m
    unfold flM
    rw [c 278 5 h11, c 278 4 h2, e281]
  have e2 : hrM M1 = hrM M := by
    funext d m
    unfold hrM
    refine sumN_congr (fun i hi => ?_)
    unfold hrF
    rw [c 278 7 h5, c 278 8 h11]
    by_cases q : (i : Int) < M 278 7 ∨ (10 ≤ i ∧ (i : Int) < 10 + M 278 8)
    · rw [if_pos q, if_pos q]
      have q2 : i < 10 := by omega
      rw [c 282 _ (by rw [rg_car (by omega)]; exact h5), c 282 _ (by rw [rg_car (by omega)]; exact h5), c 282 _ (by rw [rg_car (by omega)]; exact h5), c 282 _ (by rw [rg_car (by omega)]; exact h5)]
    · rw [if_neg q, if_neg q]
  unfold envM
  rw [e1, e2, e22, c 21 3 h3]
theorem chg_em {L : List Nat} {M M1 : MEM} (c : chg L M M1) (h2 : 2 ∉ L) (h5 : 5 ∉ L) (h11 : 11 ∉ L) (h8 : M 278 8 = 0) (g : emOk M) : emOk M1 := by
  unfold emOk howOkM at *
  rw [c 278 4 h2, c 278 7 h5, c 278 8 h11]
  refine ⟨g.1, g.2.1, g.2.2.1, fun i hi => ?_⟩
  have q2 : i < 10 := by omega
  rw [c 282 _ (by rw [rg_car (by omega)]; exact h5)]
  exact g.2.2.2 i hi
theorem env_0 {B : Int} {M : MEM} (h : Rel B M) {f : Nat} (hf : f = 224 ∨ f = 234) : envC f M = envM M ∧ eOk f M := ⟨env_alike h.F h.C (th0 hf h.N) (sw0 hf h.N), eOk_of h.F h.C (th0 hf h.N) h.R⟩
/-- a future of the DONKEY d is begun as it is -/
theorem q_look {B : Int} {M M1 : MEM} (h : Rel B M) {f : Nat} (hf : f = 224 ∨ f = 234) {d : Nat} (hd : (d : Int) < M 3 2) (hB : B ≤ 100000000) (c : chg [0] M M1) (he : envC f M1 = envC f M) (heO : eOk f M1) : ∃ M', dh_look f d M1 = some M' ∧ offL f M1 M' ∧ futAt f (envM M) (M 280 d) d (M 3 3) (qT M d) 0 M' := by
  have h3 := h.S.2.2.1
  obtain ⟨d1, d2, d3, d4⟩ := dnk h hB hd
  have rD : ∀ a k, 10 ≤ a → a ≤ 18 → M1 a k = M a k := fun a k x y => c a k (by rcases rg_D12 (k := k) x y with q | q <;> rw [q] <;> decide)
  have e32 : M1 3 2 = M 3 2 := c 3 2 (by decide)
  have e33 : M1 3 3 = M 3 3 := c 3 3 (by decide)
  have eb : dsC (10 + 3 * d) M1 = dsC (10 + 3 * d) M := by
    unfold dsC
    rw [rD _ _ (by omega) (by omega), rD _ _ (by omega) (by omega), rD _ _ (by omega) (by omega)]
    congr 3
    funext p
    exact rD _ _ (by omega) (by omega)
  have e2 : M1 (10 + 3 * d) 2 = M 280 d := (rD _ _ (by omega) (by omega)).trans d4
  obtain ⟨M', g1, g2, g3, g4, g5, g6, g7, g8⟩ := look_eq (f := f) (d := (d : Int)) (M := M1) hf (by omega) (by omega) (by omega) (by rw [toNat_c, e2]; have := d1.1; have := d1.2.1; omega)
  rw [toNat_c, e2] at g3
  rw [toNat_c, e2, eb] at g4
  refine ⟨M', g1, g2, fut0 ?_ (g2.eOk hf heO) g3 g4 g5 (g6.trans e33) g7 g8⟩
  rw [g2.env hf, he]
  exact (env_0 h hf).1
theorem q_look0 {B : Int} {M : MEM} (h : Rel B M) {f : Nat} (hf : f = 224 ∨ f = 234) {d : Nat} (hd : (d : Int) < M 3 2) (hB : B ≤ 100000000) : ∃ M', dh_look f d M = some M' ∧ offL f M M' ∧ futAt f (envM M) (M 280 d) d (M 3 3) (qT M d) 0 M' :=
  q_look h hf hd hB chg.rf rfl (env_0 h hf).2
theorem q_stk {B : Int} {M : MEM} (h : Rel B M) {d : Nat} (hd : (d : Int) < M 3 2) (hB : B ≤ 100000000) : stk (qT M d) 1000000 := by
  obtain ⟨d1, d2, d3, d4⟩ := dnk h hB hd
  exact traj_stk (fun g => codeV_in _ _ _) d1 (by omega)
/-- the reference's row is laid aside -/
theorem q_then {B : Int} {M M1 : MEM} (h : Rel B M) (hB : B ≤ 100000000) (c : chg [0, 10] M M1) : ∃ M2, mo_beginThen M1 = some M2 ∧ offQ M1 M2 ∧ (∀ c, c ≠ 292 → M2 c = M1 c) ∧ (∀ k : Nat, k < 166 → M2 292 k = M 279 k) ∧ thOk (M 3 2).toNat (fun d => M 280 d) (M 3 3) (fun d => dsC (10 + 3 * d) M) ∧ thenAt (M 3 2).toNat (fun d => M 280 d) (envM M) (M 3 3) (fun d => dsC (10 + 3 * d) M) 0 M2 := by
  obtain ⟨s1, s2, s3, s4⟩ := h.S
  have nw := now_in h
  obtain ⟨M2, g1, g2, g3⟩ := begin_then (M := M1)
  have e279 : M1 279 = M 279 := c.row (fun k => by rw [rg_279]; decide)
  rw [e279] at g3
  have oQ : offQ M1 M2 := ⟨fun c _ _ x _ => g2 c x, fun k _ _ => by rw [g2 278 (by omega)]⟩
  have c7 : M 278 7 ≤ 10 := h.C.2.2.1
  have hem : emOk M := em_of h.F h.C (th0 (Or.inl rfl) h.N)
  refine ⟨M2, g1, oQ, g2, g3, ⟨by omega, nw.1, by omega, fun d hd => ?_⟩, ⟨?_, fun d hd => ?_, ?_, ?_, ?_, ?_, fun d hd => ?_⟩⟩
  · have := dnk h hB (show (d : Int) < M 3 2 by omega)
    exact ⟨this.1, this.2.1⟩
  · rw [g2 278 (by omega), c 278 1 (by decide)]; omega
  · rw [g2 280 (by omega), c 280 d (by decide : 12 ∉ [0, 10])]
  · rw [oQ.env, chg_env c (by decide) (by decide) (by decide) (by decide) h.N.2.2.2.2.2.1 c7]
  · exact oQ.em (chg_em c (by decide) (by decide) (by decide) h.N.2.2.2.2.2.1 hem)
  · exact oQ.rl (h.R.cg (fun a k hr => c a k (by rw [hr]; decide)))
  · rw [g3 165 (by omega), nw.2.2]; omega
  · have := dnk h hB (show (d : Int) < M 3 2 by omega)
    refine this.2.2.1.tr ⟨?_, ?_, ?_, fun p hp => ?_⟩
    · exact (g3 _ (by omega)).symm
    · exact (g3 _ (by omega)).symm
    · exact (g3 _ (by omega)).symm
    · have := this.1.2.1
      exact (g3 _ (by omega)).symm
/-- the MINUTES of all STROKES to come -/
theorem q_times {B : Int} {M M1 : MEM} (h : Rel B M) (hB : B ≤ 100000000) (c : chg [0, 10] M M1) {d : Nat} (hd : (d : Int) < M 3 2) : ∃ M2, mo_timesNow d M1 = some M2 ∧ offQ M1 M2 ∧ M2 278 38 = cnt (qT M d) 600 ∧ ∀ i : Nat, (i : Int) < cnt (qT M d) 600 → isT (qT M d) (M2 293 i) i ∧ M2 293 i < 600 := by
  obtain ⟨M2, g1, g2, -, -, g5, g6⟩ := q_then h hB c
  obtain ⟨M3, f1, f2, f3⟩ := find_times (d := d) g5 (by omega) g6
  refine ⟨M3, ?_, g2.tr f2, f3⟩
  unfold mo_timesNow
  rw [g1, Option.bind_some, f1, Option.bind_some]
theorem moDonkey_eq {M M1 : MEM} (h : C_S M) (h1 : M1 278 1 = M 278 1) (x : Int) : mo_isDonkey x M1 = if 0 ≤ x ∧ x < M 3 2 then 1 else 0 := by
  obtain ⟨s1, s2, s3, s4⟩ := h
  unfold mo_isDonkey
  rw [h1, s1, wr_i (by omega) (by omega), mo_in_eq]
  by_cases q : 0 ≤ x ∧ x < M 3 2
  · rw [if_pos q, if_pos (by omega)]
  · rw [if_neg q, if_neg (by omega)]
theorem moDonkey_y {M M1 : MEM} (h : C_S M) (h1 : M1 278 1 = M 278 1) {x : Int} (q : 0 ≤ x ∧ x < M 3 2) : mo_isDonkey x M1 = 1 := by rw [moDonkey_eq h h1, if_pos q]
theorem moDonkey_n {M M1 : MEM} (h : C_S M) (h1 : M1 278 1 = M 278 1) {x : Int} (q : ¬ (0 ≤ x ∧ x < M 3 2)) : mo_isDonkey x M1 = 0 := by rw [moDonkey_eq h h1, if_neg q]
theorem chg_13 {L : List Nat} {M M1 : MEM} {x : Int} (h : 0 ∈ L) (c : chg L M M1) : chg L M (up2 M1 278 13 x) := c.up h
-- ===== the ROW =====
def rowC (l : List Int) (M : MEM) : Prop := M 0 14 = (l.length : Int) ∧ ∀ (i : Nat) (x : Int), l[i]? = some x → M 245 i = x
def rowM (l : List Int) (M : MEM) : Prop := M 278 12 = (l.length : Int) ∧ ∀ (i : Nat) (x : Int), l[i]? = some x → M 284 i = x
def offC (M M' : MEM) : Prop := ∀ a k, (a ≠ 0 ∨ k ≠ 14) → a ≠ 245 → M' a k = M a k
def offX (M M' : MEM) : Prop := ∀ a k, (a ≠ 278 ∨ k ≠ 12) → a ≠ 284 → M' a k = M a k
theorem offC.tr {M M1 M2 : MEM} (h : offC M M1) (g : offC M1 M2) : offC M M2 := fun a k x y => (g a k x y).trans (h a k x y)
theorem offX.tr {M M1 M2 : MEM} (h : offX M M1) (g : offX M1 M2) : offX M M2 := fun a k x y => (g a k x y).trans (h a k x y)
theorem offC.chg {M M' : MEM} (h : offC M M') : chg [0, 10] M M' := fun a k n => by
  by_cases e : a = 245
  · subst e; exact absurd (show rg 245 k ∈ [0, 10] by rw [show rg 245 k = 10 from rfl]; decide) n
  · by_cases e2 : a = 0 ∧ k = 14
    · obtain ⟨rfl, rfl⟩ := e2; exact absurd (by decide) n
    · exact h a k (by omega) e
theorem offX.chg {M M' : MEM} (h : offX M M') : chg [0, 10] M M' := fun a k n => by
  by_cases e : a = 284
  · subst e; exact absurd (show rg 284 k ∈ [0, 10] by rw [show rg 284 k = 10 from rfl]; decide) n
  · by_cases e2 : a = 278 ∧ k = 12
    · obtain ⟨rfl, rfl⟩ := e2; exact absurd (by decide) n
    · exact h a k (by omega) e
theorem W_of {l : List Int} {M : MEM} (h : rowC l M) (g : rowM l M) (hl : l.length ≤ 4) : C_W M := by
  refine ⟨by rw [h.1, g.1], by rw [h.1]; omega, by rw [h.1]; omega, fun i hi => ?_⟩
  rw [h.1] at hi
  have hi : i < l.length := by omega
  rw [h.2 i l[i] (List.getElem?_eq_getElem hi), g.2 i l[i] (List.getElem?_eq_getElem hi)]
theorem newRow_eq (M : MEM) : ∃ M', dh_newRow M = some M' ∧ rowC [] M' ∧ offC M M' := by
  refine ⟨up2 M 0 14 0, rfl, ⟨rd_same, fun i x h => by cases h⟩, fun a k h1 h2 => ?_⟩
  rcases h1 with h1 | h1
  · exact rd_a h1
  · exact rd_k h1
theorem snoc_get {l : List Int} {x y : Int} {i : Nat} (h : (l ++ [x])[i]? = some y) : (i < l.length ∧ l[i]? = some y) ∨ (i = l.length ∧ x = y) := by
  by_cases hi : i < l.length
  · rw [List.getElem?_append_left hi] at h
    exact Or.inl ⟨hi, h⟩
  · rw [List.getElem?_append_right (by omega)] at h
    have hz : i - l.length < 1 := (List.getElem?_eq_some_iff.mp h).1
    have : i = l.length := by omega
    subst this
    rw [Nat.sub_self] at h
    exact Or.inr ⟨rfl, Option.some.inj h⟩
theorem tell_eq {l : List Int} {M : MEM} (x : Int) (h : rowC l M) (hl : l.length < 4) : ∃ M', dh_tell x M = some M' ∧ rowC (l ++ [x]) M' ∧ offC M M' := by
  obtain ⟨h1, h2⟩ := h
  unfold dh_tell
  have w : wr ((l.length : Int) + 1) = (l.length : Int) + 1 := wr_i (by omega) (by omega)
  rw [if_neg (by omega), if_pos (by omega), h1, toNat_c, Option.bind_some, rd_a (by omega), h1, w, Option.bind_some]
  refine ⟨_, rfl, ⟨?_, fun i y hy => ?_⟩, fun a k q1 q2 => ?_⟩
  · rw [rd_same, List.length_append]; rfl
  · rw [rd_a (by omega)]
    rcases snoc_get hy with ⟨hi, hy⟩ | ⟨rfl, rfl⟩
    · rw [rd_k (by omega)]; exact h2 i y hy
    · exact rd_same
  · rcases q1 with q1 | q1
    · rw [rd_a q1, rd_a q2]
    · rw [rd_k q1, rd_a q2]
theorem moRow0 (M : MEM) : rowM [] (up2 M 278 12 0) ∧ offX M (up2 M 278 12 0) := by
  refine ⟨⟨rd_same, fun i x h => by cases h⟩, fun a k h1 h2 => ?_⟩
  rcases h1 with h1 | h1
  · exact rd_a h1
  · exact rd_k h1
theorem moTell_eq {l : List Int} {M : MEM} (x : Int) (h : rowM l M) (hl : l.length < 16) : ∃ M', mo_tell x M = some M' ∧ rowM (l ++ [x]) M' ∧ offX M M' := by
  obtain ⟨h1, h2⟩ := h
  unfold mo_tell
  have w : wr ((l.length : Int) + 1) = (l.length : Int) + 1 := wr_i (by omega) (by omega)
  rw [if_pos (by omega), h1, toNat_c, Option.bind_some, rd_a (by omega), h1, w, Option.bind_some]
  refine ⟨_, rfl, ⟨?_, fun i y hy => ?_⟩, fun a k q1 q2 => ?_⟩
  · rw [rd_same, List.length_append]; rfl
  · rw [rd_a (by omega)]
    rcases snoc_get hy with ⟨hi, hy⟩ | ⟨rfl, rfl⟩
    · rw [rd_k (by omega)]; exact h2 i y hy
    · exact rd_same
  · rcases q1 with q1 | q1
    · rw [rd_a q1, rd_a q2]
    · rw [rd_k q1, rd_a q2]
theorem rowC.off {l : List Int} {M M' : MEM} (h : rowC l M) (e0 : M' 0 14 = M 0 14) (e1 : M' 245 = M 245) : rowC l M' := by
  unfold rowC
  rw [e0, e1]
  exact h
