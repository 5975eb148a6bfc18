-- ===== THE RULE: the class's reader is the machine =====
def lstAt (a : Nat) (l : List Int) (M : MEM) : Prop := ∀ (i : Nat) (x : Int), l[i]? = some x → M a i = x
theorem lst_snoc {a : Nat} {l : List Int} {x : Int} {M : MEM} (h : lstAt a l M) : lstAt a (l ++ [x]) (up2 M a l.length x) := fun i y hy => by
  by_cases hi : i < l.length
  · rw [List.getElem?_append_left hi] at hy
    rw [rd_k (by omega)]
    exact h i y hy
  · rw [List.getElem?_append_right (by omega)] at hy
    have hz : i - l.length < 1 := (List.getElem?_eq_some_iff.mp hy).1
    have : i = l.length := by omega
    subst this
    rw [Nat.sub_self] at hy
    have hy : some x = some y := hy
    cases hy
    exact rd_same
theorem lstAt.cg {a : Nat} {l : List Int} {M M' : MEM} (h : lstAt a l M) (e : M' a = M a) : lstAt a l M' := fun i x hx => by rw [e]; exact h i x hx
theorem lst_init {a : Nat} {l : List Int} {x : Int} {M : MEM} (h : lstAt a (l ++ [x]) M) : lstAt a l M ∧ M a l.length = x := by
  refine ⟨fun i y hy => h i y ?_, h _ x ?_⟩
  · rw [List.getElem?_append_left (List.getElem?_eq_some_iff.mp hy).1]; exact hy
  · rw [List.getElem?_append_right (Nat.le_refl _), Nat.sub_self]; rfl
def okO (o : Int) : Prop := o = 40 ∨ o = 256 ∨ arO o ∨ cmO o
theorem okO.bd {o : Int} (h : okO o) : 0 ≤ o ∧ o ≤ 256 := by unfold okO at h; omega
def cs (C S : List Int) (M : MEM) : Prop := M 25 3 = (C.length : Int) ∧ lstAt 26 C M ∧ M 25 4 = (S.length : Int) ∧ lstAt 27 S.reverse M ∧ C.length + S.length ≤ 40 ∧ (∀ o, o ∈ S → okO o) ∧ ∀ x, x ∈ C → 0 ≤ x ∧ x ≤ 3000
def ofS (M M' : MEM) : Prop := (∀ c, c ≠ 25 → c ≠ 26 → c ≠ 27 → M' c = M c) ∧ M' 25 5 = M 25 5
theorem ofS.rf {M : MEM} : ofS M M := ⟨fun _ _ _ _ => rfl, rfl⟩
theorem ofS.tr {M M1 M2 : MEM} (h : ofS M M1) (g : ofS M1 M2) : ofS M M2 := ⟨fun c a b d => (g.1 c a b d).trans (h.1 c a b d), g.2.trans h.2⟩
theorem cs.cg {C S : List Int} {M M' : MEM} (h : cs C S M) (e3 : M' 25 3 = M 25 3) (e4 : M' 25 4 = M 25 4) (e26 : M' 26 = M 26) (e27 : M' 27 = M 27) : cs C S M' := by
  obtain ⟨h1, h2, h3, h4, h5, h6, h7⟩ := h
  exact ⟨by rw [e3]; exact h1, h2.cg e26, by rw [e4]; exact h3, h4.cg e27, h5, h6, h7⟩
theorem push_s {C S : List Int} {M : MEM} {x : Int} (h : cs C S M) (hl : C.length + S.length < 40) (hx : okO x) : ∃ M', ru_push 25 x M = some M' ∧ cs C (x :: S) M' ∧ ofS M M' := by
  obtain ⟨h1, h2, h3, h4, h5, h6, h7⟩ := h
  unfold ru_push
  rw [if_neg (by omega), if_neg (by omega), if_pos (by omega), h3, Option.bind_some, toNat_c]
  have r1 : up2 M (25 + 2) S.length x 25 4 = (S.length : Int) := by rw [rd_a (by omega), h3]
  rw [r1, wr_i (by omega) (by omega), Option.bind_some]
  refine ⟨_, rfl, ⟨?_, ?_, ?_, ?_, ?_, fun o ho => ?_, h7⟩, ⟨fun c c1 c2 c3 => ?_, ?_⟩⟩
  · rw [rd_k (by decide), rd_a (by decide)]; exact h1
  · exact h2.cg (by rw [up2_ne (by decide), up2_ne (by decide)])
  · rw [rd_same, List.length_cons]; omega
  · rw [List.reverse_cons]
    have := lst_snoc (x := x) h4
    rw [List.length_reverse] at this
    exact this.cg (up2_ne (by decide))
  · rw [List.length_cons]; omega
  · rcases List.mem_cons.1 ho with e | e
    · rw [e]; exact hx
    · exact h6 o e
  · rw [up2_ne c1, up2_ne c3]
  · rw [rd_k (by decide), rd_a (by decide)]
theorem pop_s {C S : List Int} {M : MEM} {x : Int} (h : cs C (x :: S) M) : ∃ M', ru_pop 25 M = some (x, M') ∧ cs C S M' ∧ ofS M M' := by
  obtain ⟨h1, h2, h3, h4, h5, h6, h7⟩ := h
  rw [List.length_cons] at h3 h5
  rw [List.reverse_cons] at h4
  obtain ⟨k1, k2⟩ := lst_init h4
  rw [List.length_reverse] at k2
  unfold ru_pop
  rw [if_neg (by omega), if_pos (by omega), h3, wr_i (by omega) (by omega), Option.bind_some, rd_same, if_pos (by omega), show (((S.length + 1 : Nat) : Int) - 1).toNat = S.length by omega]
  have e : up2 M 25 4 (((S.length + 1 : Nat) : Int) - 1) (25 + 2) S.length = x := by rw [rd_a (by omega)]; exact k2
  rw [e]
  refine ⟨_, rfl, ⟨?_, h2.cg (up2_ne (by decide)), ?_, k1.cg (up2_ne (by decide)), by omega, fun o ho => h6 o (List.mem_cons_of_mem _ ho), h7⟩, ⟨fun c c1 c2 c3 => up2_ne c1, rd_k (by decide)⟩⟩
  · rw [rd_k (by decide)]; exact h1
  · rw [rd_same]; omega
theorem emit_s {C S : List Int} {M : MEM} {x : Int} (h : cs C S M) (hl : C.length + S.length < 40) (hx : 0 ≤ x ∧ x ≤ 3000) : ∃ M', ru_emit 25 x M = some M' ∧ cs (C ++ [x]) S M' ∧ ofS M M' := by
  obtain ⟨h1, h2, h3, h4, h5, h6, h7⟩ := h
  unfold ru_emit
  rw [if_neg (by omega), if_pos (by omega), h1, Option.bind_some, toNat_c]
  have r1 : up2 M (25 + 1) C.length x 25 3 = (C.length : Int) := by rw [rd_a (by omega), h1]
  rw [r1, wr_i (by omega) (by omega), Option.bind_some]
  refine ⟨_, rfl, ⟨?_, ?_, ?_, h4.cg ?_, ?_, h6, fun y hy => ?_⟩, ⟨fun c c1 c2 c3 => ?_, ?_⟩⟩
  · rw [rd_same, List.length_append]; show _ = ((C.length + 1 : Nat) : Int); omega
  · exact (lst_snoc (x := x) h2).cg (up2_ne (by decide))
  · rw [rd_k (by decide), rd_a (by decide)]; exact h3
  · rw [up2_ne (by decide), up2_ne (by decide)]
  · rw [List.length_append]; show C.length + 1 + S.length ≤ 40; omega
  · rcases List.mem_append.1 hy with e | e
    · exact h7 y e
    · rw [List.mem_singleton.1 e]; exact hx
  · rw [up2_ne c1, up2_ne c2]
  · rw [rd_k (by decide), rd_a (by decide)]
theorem wait_s {C S : List Int} {M : MEM} (h : cs C S M) : ru_waiting 25 M = some (topB S) := by
  obtain ⟨h1, h2, h3, h4, h5, h6, h7⟩ := h
  unfold ru_waiting
  cases S with
  | nil => rw [if_pos (by rw [h3]; decide)]; rfl
  | cons x S =>
    rw [List.length_cons] at h3 h5
    rw [List.reverse_cons] at h4
    obtain ⟨k1, k2⟩ := lst_init h4
    rw [List.length_reverse] at k2
    rw [if_neg (by omega), if_neg (by omega), h3, wr_i (by omega) (by omega), if_pos (by omega), show (((S.length + 1 : Nat) : Int) - 1).toNat = S.length by omega, show 25 + 2 = 27 from rfl, k2]
    rfl
theorem unw_len {l : Int} : ∀ S C : List Int, (unw l S C).1.length + (unw l S C).2.length = C.length + S.length := by
  intro S
  induction S with
  | nil => intro C; rfl
  | cons o S ih =>
    intro C
    by_cases h : l ≤ ru_binding o
    · rw [unw_y h, ih]
      simp only [List.length_append, List.length_cons, List.length_nil]
      omega
    · rw [unw_n h]
theorem unw_hd {l o : Int} {S' : List Int} : ∀ S C : List Int, (unw l S C).2 = o :: S' → ru_binding o < l ∧ o ∈ S := by
  intro S
  induction S with
  | nil => intro C h; cases h
  | cons x S ih =>
    intro C h
    by_cases q : l ≤ ru_binding x
    · rw [unw_y q] at h
      obtain ⟨a, b⟩ := ih _ h
      exact ⟨a, List.mem_cons_of_mem _ b⟩
    · rw [unw_n q] at h
      have : x = o := (List.cons.inj h).1
      rw [← this]
      exact ⟨by omega, List.mem_cons_self⟩
theorem unwind_s {l : Int} (hl : 1 ≤ l) {C S : List Int} {M : MEM} (h : cs C S M) : ∃ M', ru_unwind 25 l M = some M' ∧ cs (unw l S C).1 (unw l S C).2 M' ∧ ofS M M' := by
  have key : ∀ (S C : List Int) (M : MEM) (n : Nat), S.length < n → cs C S M → Tc (iter (fun s => ru_unwind_b5 25 l s.1 s.2) n ((S.length : Int), M)) (fun r => cs (unw l S C).1 (unw l S C).2 r.2 ∧ ofS M r.2) := by
    intro S
    induction S with
    | nil =>
      intro C M n hn h
      obtain ⟨n, rfl⟩ : ∃ m, n = m + 1 := ⟨n - 1, by omega⟩
      refine ⟨(0, M), ?_, h, ofS.rf⟩
      show (ru_unwind_b5 25 l 0 M).bind _ = _
      unfold ru_unwind_b5
      rw [if_pos (by decide)]
      rfl
    | cons x S ih =>
      intro C M n hn h
      rw [List.length_cons] at hn
      obtain ⟨n, rfl⟩ : ∃ m, n = m + 1 := ⟨n - 1, by omega⟩
      by_cases q : l ≤ ru_binding x
      · obtain ⟨M1, e1, c1, o1⟩ := pop_s h
        have hx := h.2.2.2.2.2.1 x List.mem_cons_self
        have hb := hx.bd
        have h5 := h.2.2.2.2.1
        rw [List.length_cons] at h5
        obtain ⟨M2, e2, c2, o2⟩ := emit_s (x := 2000 + x) c1 (by omega) (by omega)
        obtain ⟨r, er, r1, r2⟩ := ih _ M2 n (by omega) c2
        rw [unw_y q]
        refine ⟨r, ?_, r1, (o1.tr o2).tr r2⟩
        rw [← er]
        show (ru_unwind_b5 25 l (((x :: S).length : Nat) : Int) M).bind _ = _
        rw [List.length_cons]
        unfold ru_unwind_b5
        rw [if_neg (by omega), wait_s h, Option.bind_some, if_neg (by show ¬ ru_binding x < l; omega), e1, Option.bind_some]
        dsimp only
        rw [wr_i (x := 2000 + x) (by omega) (by omega), e2, Option.bind_some, wr_i (x := ((S.length + 1 : Nat) : Int) + -1) (by omega) (by omega), show ((S.length + 1 : Nat) : Int) + -1 = (S.length : Int) by omega]
        rfl
      · rw [unw_n q]
        refine ⟨((((x :: S).length : Nat) : Int), M), ?_, h, ofS.rf⟩
        show (ru_unwind_b5 25 l (((x :: S).length : Nat) : Int) M).bind _ = _
        unfold ru_unwind_b5
        rw [if_neg (by rw [List.length_cons]; omega), wait_s h, Option.bind_some, if_pos (by show ru_binding x < l; omega)]
        rfl
  have h3 := h.2.2.1
  have h5 := h.2.2.2.2.1
  obtain ⟨r, er, r1, r2⟩ := key S C M FU (by unfold FU; omega) h
  refine ⟨r.2, ?_, r1, r2⟩
  unfold ru_unwind
  rw [h3, er]
  rfl
/-- the reader at p -/
def st (z : Nat → Int) (L p : Nat) (C S : List Int) (M : MEM) : Prop := rdC z L p M ∧ cs C S M ∧ M 25 5 = (brk S : Int) ∧ C.length + S.length ≤ p ∧ ∀ i : Nat, (i : Int) < M 1 3 → M 2 i ≤ 255
def ofQ (M M' : MEM) : Prop := (∀ c, c ≠ 1 → c ≠ 25 → c ≠ 26 → c ≠ 27 → M' c = M c) ∧ ∀ k, k ≠ 2 → M' 1 k = M 1 k
theorem ofQ.rf {M : MEM} : ofQ M M := ⟨fun _ _ _ _ _ => rfl, fun _ _ => rfl⟩
theorem ofQ.tr {M M1 M2 : MEM} (h : ofQ M M1) (g : ofQ M1 M2) : ofQ M M2 := ⟨fun c a b d e => (g.1 c a b d e).trans (h.1 c a b d e), fun k a => (g.2 k a).trans (h.2 k a)⟩
theorem ofS.Q {M M' : MEM} (h : ofS M M') : ofQ M M' := ⟨fun c _ b d e => h.1 c b d e, fun k _ => by rw [h.1 1 (by decide) (by decide) (by decide)]⟩
theorem ofR.Q {M M' : MEM} (h : ofR M M') : ofQ M M' := ⟨fun c a _ _ _ => h.1 c a, h.2⟩
theorem cs.R {C S : List Int} {M M' : MEM} (h : cs C S M) (o : ofR M M') : cs C S M' := h.cg (by rw [o.1 25 (by decide)]) (by rw [o.1 25 (by decide)]) (o.1 26 (by decide)) (o.1 27 (by decide))
theorem rdC.S {z : Nat → Int} {L p : Nat} {M M' : MEM} (h : rdC z L p M) (o : ofS M M') : rdC z L p M' := h.off (o.1 1 (by decide) (by decide) (by decide)) (o.1 2 (by decide) (by decide) (by decide))
theorem sgn_cg {M M' : MEM} (h : ∀ i : Nat, (i : Int) < M 1 3 → M 2 i ≤ 255) (o : ofQ M M') : ∀ i : Nat, (i : Int) < M' 1 3 → M' 2 i ≤ 255 := by
  rw [o.2 3 (by decide), o.1 2 (by decide) (by decide) (by decide) (by decide)]
  exact h
