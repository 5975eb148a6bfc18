-- ===== reading a text =====
theorem moIn_y {x a b : Int} (q : a ≤ x ∧ x ≤ b) : mo_in x a b = 1 := by rw [mo_in_eq, if_pos q]
theorem moIn_n {x a b : Int} (q : ¬ (a ≤ x ∧ x ≤ b)) : mo_in x a b = 0 := by rw [mo_in_eq, if_neg q]
theorem next_eq {M : MEM} {i : Nat} (h : M 1 2 = (i : Int)) (h3 : M 1 3 ≤ 80) : tx_next M = some (if (i : Int) < M 1 3 then M 2 i else -1) := by
  unfold tx_next
  rw [h, if_neg (by omega)]
  by_cases q : M 1 3 ≤ (i : Int)
  · rw [if_pos q, if_neg (by omega)]
  · rw [if_neg q, if_neg (by omega), if_pos (by omega), if_pos (by omega), toNat_c]
/-- a sign as a reader has it (r), as it counts (z: -1 for none) -/
def sq (r z : Int) : Prop := (0 ≤ z ∧ z ≤ 127 ∧ r = z) ∨ (z = -1 ∧ (r < 0 ∨ 127 < r))
abbrev dg (z : Int) : Prop := 48 ≤ z ∧ z ≤ 57
/-- up to k digits from p on: behind them, their number -/
def num (z : Nat → Int) : Nat → Nat → Int → Nat × Int
  | 0, p, a => (p, a)
  | k + 1, p, a => if dg (z p) then num z k (p + 1) (a * 10 + (z p - 48)) else (p, a)
theorem num_S (z : Nat → Int) (k p : Nat) (a : Int) : num z (k + 1) p a = if dg (z p) then num z k (p + 1) (a * 10 + (z p - 48)) else (p, a) := rfl
theorem num_1 (z : Nat → Int) (k p : Nat) (h : dg (z p)) : num z (k + 1) p 0 = num z k (p + 1) (z p - 48) := by rw [num_S, if_pos h, show (0 : Int) * 10 + (z p - 48) = z p - 48 by omega]
theorem num_bd (z : Nat → Int) : ∀ (k p : Nat) (a : Int), 0 ≤ a → p ≤ (num z k p a).1 ∧ (num z k p a).1 ≤ p + k ∧ 0 ≤ (num z k p a).2 := by
  intro k
  induction k with
  | zero => intro p a h; exact ⟨Nat.le_refl _, Nat.le_refl _, h⟩
  | succ k ih =>
    intro p a h
    rw [num_S]
    by_cases q : dg (z p)
    · rw [if_pos q]
      have := ih (p + 1) (a * 10 + (z p - 48)) (by omega)
      omega
    · rw [if_neg q]
      dsimp only
      omega
-- the class's
def rdC (z : Nat → Int) (L p : Nat) (M : MEM) : Prop := M 1 1 = (L : Int) ∧ M 1 2 = (p : Int) ∧ p ≤ 80 ∧ M 1 3 ≤ 80 ∧ ∀ i : Nat, ((i : Int) < M 1 3 → sq (M 2 i) (z i)) ∧ (¬ (i : Int) < M 1 3 → z i = -1)
/-- only the reader has moved -/
def ofR (M M' : MEM) : Prop := (∀ c, c ≠ 1 → M' c = M c) ∧ ∀ k, k ≠ 2 → M' 1 k = M 1 k
theorem ofR.rf {M : MEM} : ofR M M := ⟨fun _ _ => rfl, fun _ _ => rfl⟩
theorem ofR.tr {M M1 M2 : MEM} (h : ofR M M1) (g : ofR M1 M2) : ofR M M2 := ⟨fun c a => (g.1 c a).trans (h.1 c a), fun k a => (g.2 k a).trans (h.2 k a)⟩
theorem ofR.up {M : MEM} {x : Int} : ofR M (up2 M 1 2 x) := ⟨fun c a => up2_ne a, fun k a => rd_k a⟩
theorem rdC.next {z : Nat → Int} {L p : Nat} {M : MEM} (h : rdC z L p M) : ∃ r, tx_next M = some r ∧ sq r (z p) ∧ r = (if (p : Int) < M 1 3 then M 2 p else -1) := by
  obtain ⟨h1, h2, h3, h4, h5⟩ := h
  refine ⟨_, next_eq h2 h4, ?_, rfl⟩
  by_cases q : (p : Int) < M 1 3
  · rw [if_pos q]; exact (h5 p).1 q
  · rw [if_neg q, (h5 p).2 q]; exact Or.inr ⟨rfl, by omega⟩
theorem rdC.mv {z : Nat → Int} {L p : Nat} {M : MEM} (h : rdC z L p M) (hz : z p ≠ -1) : rdC z L (p + 1) (up2 M 1 2 ((p + 1 : Nat) : Int)) := by
  obtain ⟨h1, h2, h3, h4, h5⟩ := h
  have hp : (p : Int) < M 1 3 := Classical.byContradiction fun y => hz ((h5 p).2 y)
  refine ⟨by rw [rd_k (by decide)]; exact h1, rd_same, by omega, by rw [rd_k (by decide)]; exact h4, fun i => ?_⟩
  rw [rd_k (by decide), rd_a (by decide)]
  exact h5 i
theorem rdC.off {z : Nat → Int} {L p : Nat} {M M' : MEM} (h : rdC z L p M) (e1 : M' 1 = M 1) (e2 : M' 2 = M 2) : rdC z L p M' := by
  unfold rdC
  rw [e1, e2]
  exact h
theorem takes_y {z : Nat → Int} {L p : Nat} {M : MEM} (h : rdC z L p M) {c : Int} (h0 : 0 ≤ c) (h1 : c ≤ 127) (q : z p = c) : ∃ M', tx_takes c M = some (1, M') ∧ rdC z L (p + 1) M' ∧ ofR M M' := by
  obtain ⟨r, e, s, -⟩ := h.next
  refine ⟨up2 M 1 2 ((p + 1 : Nat) : Int), ?_, h.mv (by omega), ofR.up⟩
  have : p ≤ 80 := h.2.2.1
  unfold tx_takes
  rw [e, Option.bind_some, if_pos (by unfold sq at s; omega), h.2.1, wr_i (by omega) (by omega)]
  rfl
theorem takes_n {z : Nat → Int} {L p : Nat} {M : MEM} (h : rdC z L p M) {c : Int} (h0 : 0 ≤ c) (h1 : c ≤ 127) (q : z p ≠ c) : tx_takes c M = some (0, M) := by
  obtain ⟨r, e, s, -⟩ := h.next
  unfold tx_takes
  rw [e, Option.bind_some, if_neg (by unfold sq at s; omega)]
/-- what was seen is taken -/
theorem takes_same {z : Nat → Int} {L p : Nat} {M : MEM} (h : rdC z L p M) (hz : z p ≠ -1) {r : Int} (hr : tx_next M = some r) : ∃ M', tx_takes r M = some (1, M') ∧ rdC z L (p + 1) M' ∧ ofR M M' := by
  refine ⟨up2 M 1 2 ((p + 1 : Nat) : Int), ?_, h.mv hz, ofR.up⟩
  have : p ≤ 80 := h.2.2.1
  unfold tx_takes
  rw [hr, Option.bind_some, if_pos rfl, h.2.1, wr_i (by omega) (by omega)]
  rfl
theorem dig_y {z : Nat → Int} {L p : Nat} {M : MEM} (h : rdC z L p M) (q : dg (z p)) : ∃ M', tx_digit M = some (z p - 48, M') ∧ rdC z L (p + 1) M' ∧ ofR M M' := by
  obtain ⟨r, e, s, -⟩ := h.next
  refine ⟨up2 M 1 2 ((p + 1 : Nat) : Int), ?_, h.mv (by omega), ofR.up⟩
  have : p ≤ 80 := h.2.2.1
  have er : r = z p := by unfold sq at s; omega
  unfold tx_digit
  rw [e, Option.bind_some, er, if_neg (by omega), if_pos (by omega), h.2.1, wr_i (by omega) (by omega), wr_i (by omega) (by omega)]
  rfl
theorem dig_n {z : Nat → Int} {L p : Nat} {M : MEM} (h : rdC z L p M) (q : ¬ dg (z p)) : tx_digit M = some (-1, M) := by
  obtain ⟨r, e, s, -⟩ := h.next
  unfold tx_digit
  rw [e, Option.bind_some]
  by_cases q1 : r < 48
  · rw [if_pos q1]
  · rw [if_neg q1, if_neg (by unfold sq at s; omega)]
/-- the end of THE TEXT -/
theorem over_eq {z : Nat → Int} {L p : Nat} {M : MEM} (h : rdC z L p M) : tx_isOver M = if p = L then 1 else 0 := by
  unfold tx_isOver
  rw [h.1, h.2.1]
  by_cases e : p = L
  · rw [if_pos e, if_pos (by omega)]
  · rw [if_neg e, if_neg (by omega)]
theorem wrong_eq {z : Nat → Int} {L p : Nat} {M : MEM} (h : rdC z L p M) : tx_wrong M = -1 - (p : Int) := by
  have := h.2.2.1
  unfold tx_wrong
  rw [h.2.1]
  exact wr_i (by omega) (by omega)
theorem numC_loop {z : Nat → Int} {L k : Nat} (hk : k ≤ 3) : ∀ (j n i : Nat) (a : Int) (p : Nat) (M : MEM), i + j = k → j < n → 1 ≤ i → 0 ≤ a → (i = 1 → a ≤ 9) → (i = 2 → a ≤ 99) → rdC z L p M →
    Tc (iter (fun s => tx_number_b7 (k : Int) s.1 s.2.1 s.2.2) n (a, (i : Int), M)) (fun r => ∃ M', (Sum.elim (fun r => some r) (fun w12 => some (w12.1, w12.2.2)) r : Option (Int × MEM)) = some ((num z j p a).2, M') ∧ rdC z L (num z j p a).1 M' ∧ ofR M M') := by
  intro j
  induction j with
  | zero =>
    intro n i a p M hi hn hi1 ha h9 h99 h
    obtain ⟨n, rfl⟩ : ∃ m, n = m + 1 := ⟨n - 1, by omega⟩
    refine ⟨.inr (a, (i : Int), M), ?_, M, rfl, h, ofR.rf⟩
    show (tx_number_b7 (k : Int) a i M).bind _ = _
    unfold tx_number_b7
    rw [if_pos (by omega)]
    rfl
  | succ j ih =>
    intro n i a p M hi hn hi1 ha h9 h99 h
    obtain ⟨n, rfl⟩ : ∃ m, n = m + 1 := ⟨n - 1, by omega⟩
    rw [num_S]
    by_cases q : dg (z p)
    · rw [if_pos q]
      obtain ⟨M1, e1, h1, o1⟩ := dig_y h q
      obtain ⟨r, er, M', g1, g2, g3⟩ := ih n (i + 1) (a * 10 + (z p - 48)) (p + 1) M1 (by omega) (by omega) (by omega) (by omega) (by omega) (by omega) h1
      refine ⟨r, ?_, M', g1, g2, o1.tr g3⟩
      rw [← er]
      show (tx_number_b7 (k : Int) a i M).bind _ = _
      unfold tx_number_b7
      rw [if_neg (by omega), if_neg (by omega), e1, Option.bind_some]
      dsimp only
      rw [if_pos (by omega), wr_i (x := a * 10) (by omega) (by omega), wr_i (x := a * 10 + (z p - 48)) (by omega) (by omega), wr_i (x := (i : Int) + 1) (by omega) (by omega)]
      rfl
    · rw [if_neg q]
      refine ⟨.inl (a, M), ?_, M, rfl, h, ofR.rf⟩
      show (tx_number_b7 (k : Int) a i M).bind _ = _
      unfold tx_number_b7
      rw [if_neg (by omega), if_neg (by omega), dig_n h q, Option.bind_some]
      rfl
theorem number_y {z : Nat → Int} {L p k : Nat} {M : MEM} (h : rdC z L p M) (hk : k < 3) (q : dg (z p)) : ∃ M', tx_number ((k + 1 : Nat) : Int) M = some ((num z (k + 1) p 0).2, M') ∧ rdC z L (num z (k + 1) p 0).1 M' ∧ ofR M M' := by
  obtain ⟨M1, e1, h1, o1⟩ := dig_y h q
  obtain ⟨r, er, M', g1, g2, g3⟩ := numC_loop (z := z) (L := L) (k := k + 1) (by omega) k FU 1 (z p - 48) (p + 1) M1 (by omega) (by unfold FU; omega) (by omega) (by omega) (by omega) (by omega) h1
  rw [num_1 z k p q]
  refine ⟨M', ?_, g2, o1.tr g3⟩
  unfold tx_number
  rw [e1, Option.bind_some]
  have er' : iter (fun s => tx_number_b7 ((k + 1 : Nat) : Int) s.1 s.2.1 s.2.2) FU (z p - 48, 1, M1) = some r := er
  dsimp only
  rw [er', Option.bind_some]
  exact g1
theorem number_n {z : Nat → Int} {L p : Nat} {k : Int} {M : MEM} (h : rdC z L p M) (q : ¬ dg (z p)) : tx_number k M = some (-1, M) := by
  unfold tx_number
  rw [dig_n h q, Option.bind_some]
  dsimp only
  have : iter (fun s => tx_number_b7 k s.1 s.2.1 s.2.2) FU (-1, 1, M) = some (.inr (-1, 1, M)) := by
    refine iter_exit ?_
    unfold tx_number_b7
    by_cases e : k ≤ 1
    · rw [if_pos e]
    · rw [if_neg e, if_pos (by show (-1 : Int) < 0; decide)]
  rw [this]
  rfl
-- the reference's
def rdM (z : Nat → Int) (L p : Nat) (M : MEM) : Prop := M 278 14 = 284 ∧ M 278 15 = (L : Int) ∧ M 278 17 = (p : Int) ∧ M 278 18 = -1 ∧ (p ≤ L ∧ p ≤ 80) ∧ L ≤ 80 ∧ ∀ i : Nat, ((i : Int) < L ∧ (i : Int) < M 278 16 → sq (M 283 i) (z i)) ∧ (¬ ((i : Int) < L ∧ (i : Int) < M 278 16) → z i = -1)
/-- a fault has been found, at q -/
def fltM (q : Nat) (M : MEM) : Prop := M 278 18 = (q : Int)
def ofM (M M' : MEM) : Prop := (∀ c, c ≠ 278 → M' c = M c) ∧ ∀ k, k ≠ 17 → k ≠ 18 → M' 278 k = M 278 k
theorem ofM.rf {M : MEM} : ofM M M := ⟨fun _ _ => rfl, fun _ _ _ => rfl⟩
theorem ofM.tr {M M1 M2 : MEM} (h : ofM M M1) (g : ofM M1 M2) : ofM M M2 := ⟨fun c a => (g.1 c a).trans (h.1 c a), fun k a b => (g.2 k a b).trans (h.2 k a b)⟩
theorem ofM.up17 {M : MEM} {x : Int} : ofM M (up2 M 278 17 x) := ⟨fun c a => up2_ne a, fun k a _ => rd_k a⟩
theorem ofM.up18 {M : MEM} {x : Int} : ofM M (up2 M 278 18 x) := ⟨fun c a => up2_ne a, fun k _ a => rd_k a⟩
theorem rdM.fine {z : Nat → Int} {L p : Nat} {M : MEM} (h : rdM z L p M) : mo_fine M = 1 := by
  unfold mo_fine
  rw [h.2.2.2.1, if_pos rfl]
theorem fltM.fine {q : Nat} {M : MEM} (h : fltM q M) : mo_fine M = 0 := by
  unfold fltM at h
  unfold mo_fine
  rw [h, if_neg (by omega)]
theorem rdM.here {z : Nat → Int} {L p : Nat} {M : MEM} (h : rdM z L p M) : ∃ r, mo_here M = some r ∧ sq r (z p) := by
  obtain ⟨h1, h2, h3, h4, h5, h6, h7⟩ := h
  unfold mo_here
  rw [h1, h2, h3]
  by_cases q1 : (L : Int) ≤ (p : Int)
  · rw [if_pos q1, (h7 p).2 (by omega)]; exact ⟨-1, rfl, Or.inr ⟨rfl, by omega⟩⟩
  · rw [if_neg q1]
    by_cases q2 : M 278 16 ≤ (p : Int)
    · rw [if_pos q2, (h7 p).2 (by omega)]; exact ⟨-1, rfl, Or.inr ⟨rfl, by omega⟩⟩
    · rw [if_neg q2, if_pos (by decide), if_pos ⟨by omega, by show (p : Int) < ((80 : Nat) : Int); omega⟩, toNat_c]
      exact ⟨_, rfl, (h7 p).1 ⟨by omega, by omega⟩⟩
/-- behind any moves it sees or says that nothing is there -/
theorem here_any {M : MEM} (h1 : M 278 14 = 284) (h2 : M 278 15 ≤ 80) (h3 : 0 ≤ M 278 17) : ∃ r, mo_here M = some r := by
  unfold mo_here
  rw [h1]
  by_cases q1 : M 278 15 ≤ M 278 17
  · rw [if_pos q1]; exact ⟨_, rfl⟩
  · rw [if_neg q1]
    by_cases q2 : M 278 16 ≤ M 278 17
    · rw [if_pos q2]; exact ⟨_, rfl⟩
    · rw [if_neg q2, if_pos (by decide), if_pos ⟨by omega, by show M 278 17 < ((80 : Nat) : Int); omega⟩]
      exact ⟨_, rfl⟩
theorem rdM.mv {z : Nat → Int} {L p : Nat} {M : MEM} (h : rdM z L p M) (hz : z p ≠ -1) : rdM z L (p + 1) (up2 M 278 17 ((p + 1 : Nat) : Int)) := by
  obtain ⟨h1, h2, h3, h4, h5, h6, h7⟩ := h
  have hp : (p : Int) < L ∧ (p : Int) < M 278 16 := Classical.byContradiction fun y => hz ((h7 p).2 y)
  refine ⟨by rw [rd_k (by decide)]; exact h1, by rw [rd_k (by decide)]; exact h2, rd_same, by rw [rd_k (by decide)]; exact h4, by omega, h6, fun i => ?_⟩
  rw [rd_k (by decide), rd_a (by decide)]
  exact h7 i
theorem rdM.off {z : Nat → Int} {L p : Nat} {M M' : MEM} (h : rdM z L p M) (e1 : M' 278 = M 278) (e2 : M' 283 = M 283) : rdM z L p M' := by
  unfold rdM
  rw [e1, e2]
  exact h
theorem rdM.fault {z : Nat → Int} {L p : Nat} {M : MEM} (h : rdM z L p M) : ∃ M', mo_fault (M 278 17) M = some M' ∧ fltM p M' ∧ ofM M M' ∧ M' 278 17 = (p : Int) := by
  refine ⟨up2 M 278 18 (M 278 17), ?_, ?_, ofM.up18, by rw [rd_k (by decide)]; exact h.2.2.1⟩
  · unfold mo_fault
    rw [h.fine, if_neg (by decide)]
    rfl
  · unfold fltM
    rw [rd_same]; exact h.2.2.1
theorem fltM.fault {q : Nat} {M : MEM} (h : fltM q M) (x : Int) : mo_fault x M = some M := by
  unfold mo_fault
  rw [h.fine, if_pos rfl]
theorem passes_y {z : Nat → Int} {L p : Nat} {M : MEM} (h : rdM z L p M) {c : Int} (h0 : 0 ≤ c) (h1 : c ≤ 127) (q : z p = c) : ∃ M', mo_passes c M = some (1, M') ∧ rdM z L (p + 1) M' ∧ ofM M M' := by
  obtain ⟨r, e, s⟩ := h.here
  refine ⟨up2 M 278 17 ((p + 1 : Nat) : Int), ?_, h.mv (by omega), ofM.up17⟩
  have : p ≤ 80 := h.2.2.2.2.1.2
  unfold mo_passes
  rw [h.fine, if_neg (by decide), e, Option.bind_some, if_pos (by unfold sq at s; omega), h.2.2.1, wr_i (by omega) (by omega)]
  rfl
theorem passes_n {z : Nat → Int} {L p : Nat} {M : MEM} (h : rdM z L p M) {c : Int} (h0 : 0 ≤ c) (h1 : c ≤ 127) (q : z p ≠ c) : mo_passes c M = some (0, M) := by
  obtain ⟨r, e, s⟩ := h.here
  unfold mo_passes
  rw [h.fine, if_neg (by decide), e, Option.bind_some, if_neg (by unfold sq at s; omega)]
theorem passes_f {q : Nat} {M : MEM} (h : fltM q M) (c : Int) : mo_passes c M = some (0, M) := by
  unfold mo_passes
  rw [h.fine, if_pos rfl]
theorem need_y {z : Nat → Int} {L p : Nat} {M : MEM} (h : rdM z L p M) {c : Int} (h0 : 0 ≤ c) (h1 : c ≤ 127) (q : z p = c) : ∃ M', mo_need c M = some M' ∧ rdM z L (p + 1) M' ∧ ofM M M' := by
  obtain ⟨M', e, g1, g2⟩ := passes_y h h0 h1 q
  refine ⟨M', ?_, g1, g2⟩
  unfold mo_need
  rw [e]
  rfl
theorem need_n {z : Nat → Int} {L p : Nat} {M : MEM} (h : rdM z L p M) {c : Int} (h0 : 0 ≤ c) (h1 : c ≤ 127) (q : z p ≠ c) : ∃ M', mo_need c M = some M' ∧ fltM p M' ∧ ofM M M' ∧ M' 278 17 = (p : Int) := by
  obtain ⟨M', e, g1, g2, g3⟩ := h.fault
  refine ⟨M', ?_, g1, g2, g3⟩
  unfold mo_need
  rw [passes_n h h0 h1 q, Option.bind_some]
  dsimp only
  rw [if_pos rfl, e]
  rfl
theorem need_f {q : Nat} {M : MEM} (h : fltM q M) (c : Int) : mo_need c M = some M := by
  unfold mo_need
  rw [passes_f h, Option.bind_some]
  dsimp only
  rw [if_pos rfl, h.fault]
  rfl
theorem numM_loop {z : Nat → Int} {L k p0 : Nat} (hk : k ≤ 3) (hp0 : p0 ≤ 80) : ∀ (j n i : Nat) (a : Int) (p : Nat) (M : MEM), i + j = k → p = p0 + i → j < n → 0 ≤ a → (i = 0 → a = 0) → (i = 1 → a ≤ 9) → (i = 2 → a ≤ 99) → rdM z L p M →
    Tc (iter (fun s => mo_number_b16 (k : Int) (p0 : Int) s.1 s.2) n (a, M)) (fun r => r.1 = (num z j p a).2 ∧ rdM z L (num z j p a).1 r.2 ∧ ofM M r.2) := by
  intro j
  induction j with
  | zero =>
    intro n i a p M hi hp hn ha h0 h9 h99 h
    obtain ⟨n, rfl⟩ : ∃ m, n = m + 1 := ⟨n - 1, by omega⟩
    refine ⟨(a, M), ?_, rfl, h, ofM.rf⟩
    show (mo_number_b16 (k : Int) p0 a M).bind _ = _
    unfold mo_number_b16
    rw [wr_i (by omega) (by omega), if_pos (by have := h.2.2.1; omega)]
    rfl
  | succ j ih =>
    intro n i a p M hi hp hn ha h0 h9 h99 h
    obtain ⟨n, rfl⟩ : ∃ m, n = m + 1 := ⟨n - 1, by omega⟩
    obtain ⟨r0, er0, sr0⟩ := h.here
    have h17 := h.2.2.1
    rw [num_S]
    by_cases q : dg (z p)
    · rw [if_pos q]
      have e0 : r0 = z p := by unfold sq at sr0; omega
      obtain ⟨r, er, g1, g2, g3⟩ := ih n (i + 1) (a * 10 + (z p - 48)) (p + 1) _ (by omega) (by omega) (by omega) (by omega) (by omega) (by omega) (by omega) (h.mv (by omega))
      refine ⟨r, ?_, g1, g2, ofM.up17.tr g3⟩
      rw [← er]
      show (mo_number_b16 (k : Int) p0 a M).bind _ = _
      unfold mo_number_b16
      rw [wr_i (x := (p0 : Int) + (k : Int)) (by omega) (by omega), if_neg (by omega), er0, Option.bind_some, e0, moIn_y q, if_neg (by decide), Option.bind_some, Option.bind_some, h17, wr_i (x := 10 * a) (by omega) (by omega), wr_i (x := 10 * a + z p) (by omega) (by omega), wr_i (x := 10 * a + z p - 48) (by omega) (by omega), wr_i (x := (p : Int) + 1) (by omega) (by omega), show 10 * a + z p - 48 = a * 10 + (z p - 48) by omega]
      rfl
    · rw [if_neg q]
      refine ⟨(a, M), ?_, rfl, h, ofM.rf⟩
      show (mo_number_b16 (k : Int) p0 a M).bind _ = _
      unfold mo_number_b16
      rw [wr_i (by omega) (by omega), if_neg (by omega), er0, Option.bind_some, moIn_n (by unfold sq at sr0; omega), if_pos rfl]
      rfl
theorem moNumber_y {z : Nat → Int} {L p k : Nat} {M : MEM} (h : rdM z L p M) (hk : k < 3) (q : dg (z p)) : ∃ M', mo_number ((k + 1 : Nat) : Int) M = some ((num z (k + 1) p 0).2, M') ∧ rdM z L (num z (k + 1) p 0).1 M' ∧ ofM M M' := by
  have h17 := h.2.2.1
  obtain ⟨r, er, g1, g2, g3⟩ := numM_loop (z := z) (L := L) (k := k + 1) (p0 := p) (by omega) h.2.2.2.2.1.2 (k + 1) FU 0 0 p M (by omega) (by omega) (by unfold FU; omega) (by omega) (by omega) (by omega) (by omega) h
  obtain ⟨r1, r2⟩ := r
  dsimp only at g1 g2 g3
  refine ⟨r2, ?_, g2, g3⟩
  have hb : p + 1 ≤ (num z (k + 1) p 0).1 := by rw [num_1 z k p q]; exact (num_bd z k (p + 1) (z p - 48) (by omega)).1
  unfold mo_number
  rw [h.fine, if_neg (by decide), h17, er, Option.bind_some]
  unfold mo_number_j66
  rw [if_neg (by have := g2.2.2.1; dsimp only; omega), g1]
theorem moNumber_n {z : Nat → Int} {L p k : Nat} {M : MEM} (h : rdM z L p M) (hk : k < 3) (q : ¬ dg (z p)) : ∃ M', mo_number ((k + 1 : Nat) : Int) M = some (0, M') ∧ fltM p M' ∧ ofM M M' ∧ M' 278 17 = (p : Int) := by
  have h17 := h.2.2.1
  obtain ⟨M', e, f1, f2, f3⟩ := h.fault
  obtain ⟨r, er, g1, g2, g3⟩ := numM_loop (z := z) (L := L) (k := k + 1) (p0 := p) (by omega) h.2.2.2.2.1.2 (k + 1) FU 0 0 p M (by omega) (by omega) (by unfold FU; omega) (by omega) (by omega) (by omega) (by omega) h
  obtain ⟨r0, er0, sr0⟩ := h.here
  have hp := h.2.2.2.2.1
  refine ⟨M', ?_, f1, f2, f3⟩
  have ex : iter (fun s => mo_number_b16 ((k + 1 : Nat) : Int) (M 278 17) s.1 s.2) FU (0, M) = some (0, M) := by
    refine iter_exit ?_
    unfold mo_number_b16
    dsimp only
    rw [wr_i (x := M 278 17 + ((k + 1 : Nat) : Int)) (by omega) (by omega), if_neg (by omega), er0, Option.bind_some, moIn_n (by unfold sq at sr0; omega), if_pos rfl]
  unfold mo_number
  rw [h.fine, if_neg (by decide), ex, Option.bind_some]
  unfold mo_number_j66
  rw [if_pos rfl, e]
  rfl
theorem moNumber_f {q : Nat} {M : MEM} (h : fltM q M) (k : Int) : mo_number k M = some (0, M) := by
  unfold mo_number
  rw [h.fine, if_pos rfl]
theorem num_le (z : Nat → Int) : ∀ (k p : Nat) (a : Int), 0 ≤ a → (k = 0 → (num z k p a).2 ≤ a) ∧ (k = 1 → (num z k p a).2 ≤ 10 * a + 9) ∧ (k = 2 → (num z k p a).2 ≤ 100 * a + 99) ∧ (k = 3 → (num z k p a).2 ≤ 1000 * a + 999) := by
  intro k
  induction k with
  | zero => intro p a h; exact ⟨fun _ => Int.le_refl _, fun q => by omega, fun q => by omega, fun q => by omega⟩
  | succ k ih =>
    intro p a h
    rw [num_S]
    by_cases q : dg (z p)
    · rw [if_pos q]
      obtain ⟨a0, a1, a2, -⟩ := ih (p + 1) (a * 10 + (z p - 48)) (by omega)
      refine ⟨fun y => by omega, fun y => ?_, fun y => ?_, fun y => ?_⟩
      · have := a0 (by omega); omega
      · have := a1 (by omega); omega
      · have := a2 (by omega); omega
    · rw [if_neg q]
      dsimp only
      omega
