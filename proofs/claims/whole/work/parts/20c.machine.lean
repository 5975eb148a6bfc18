-- ===== THE RULE: the reference's reader, of THE TEXT (283) or of THE RULE (286) =====
def rdT (t : Nat) (z : Nat → Int) (L p : Nat) (M : MEM) : Prop := (t = 283 ∨ t = 286) ∧ M 278 14 = ((t + 1 : Nat) : Int) ∧ M 278 15 = (L : Int) ∧ M 278 17 = (p : Int) ∧ M 278 18 = -1 ∧ (p ≤ L ∧ p ≤ 80) ∧ (L ≤ 80 ∧ (t = 286 → L ≤ 40)) ∧ ∀ i : Nat, ((i : Int) < L ∧ (i : Int) < M 278 16 → sq (M t i) (z i)) ∧ (¬ ((i : Int) < L ∧ (i : Int) < M 278 16) → z i = -1)
section
variable {t : Nat} {z : Nat → Int} {L p : Nat} {M : MEM}
theorem rdT.fine (h : rdT t z L p M) : mo_fine M = 1 := by
  unfold mo_fine
  rw [h.2.2.2.2.1, if_pos rfl]
theorem rdT.here (h : rdT t z L p M) : ∃ r, mo_here M = some r ∧ sq r (z p) := by
  obtain ⟨h0, h1, h2, h3, h4, h5, ⟨h6, h6'⟩, h7⟩ := h
  unfold mo_here
  rw [h1, h2, h3]
  by_cases q1 : (L : Int) ≤ (p : Int)
  · rw [if_pos q1, (h7 p).2 (by omega)]; exact ⟨-1, rfl, Or.inr ⟨rfl, by omega⟩⟩
  · rw [if_neg q1]
    by_cases q2 : M 278 16 ≤ (p : Int)
    · rw [if_pos q2, (h7 p).2 (by omega)]; exact ⟨-1, rfl, Or.inr ⟨rfl, by omega⟩⟩
    · rw [if_neg q2]
      rcases h0 with rfl | rfl
      · rw [if_pos (by decide), if_pos ⟨by omega, by show (p : Int) < ((80 : Nat) : Int); omega⟩, toNat_c]
        exact ⟨_, rfl, (h7 p).1 ⟨by omega, by omega⟩⟩
      · have := h6' rfl
        rw [if_pos (by decide), if_pos ⟨by omega, by show (p : Int) < ((40 : Nat) : Int); omega⟩, toNat_c]
        exact ⟨_, rfl, (h7 p).1 ⟨by omega, by omega⟩⟩
theorem rdT.mv (h : rdT t z L p M) (hz : z p ≠ -1) : rdT t z L (p + 1) (up2 M 278 17 ((p + 1 : Nat) : Int)) := by
  obtain ⟨h0, h1, h2, h3, h4, h5, h6, h7⟩ := h
  have hp : (p : Int) < L ∧ (p : Int) < M 278 16 := Classical.byContradiction fun y => hz ((h7 p).2 y)
  refine ⟨h0, by rw [rd_k (by decide)]; exact h1, by rw [rd_k (by decide)]; exact h2, rd_same, by rw [rd_k (by decide)]; exact h4, by omega, h6, fun i => ?_⟩
  rw [rd_k (by decide), rd_a (by omega)]
  exact h7 i
theorem rdT.fault (h : rdT t z L p M) : ∃ M', mo_fault (M 278 17) M = some M' ∧ fltM p M' ∧ ofM M M' ∧ M' 278 17 = (p : Int) := by
  refine ⟨up2 M 278 18 (M 278 17), ?_, ?_, ofM.up18, by rw [rd_k (by decide)]; exact h.2.2.2.1⟩
  · unfold mo_fault
    rw [h.fine, if_neg (by decide)]
    rfl
  · unfold fltM
    rw [rd_same]; exact h.2.2.2.1
theorem passT_y (h : rdT t z L p M) {c : Int} (h0 : 0 ≤ c) (h1 : c ≤ 127) (q : z p = c) : ∃ M', mo_passes c M = some (1, M') ∧ rdT t z L (p + 1) M' ∧ ofM M M' := by
  obtain ⟨r, e, s⟩ := h.here
  refine ⟨up2 M 278 17 ((p + 1 : Nat) : Int), ?_, h.mv (by omega), ofM.up17⟩
  have : p ≤ 80 := h.2.2.2.2.2.1.2
  unfold mo_passes
  rw [h.fine, if_neg (by decide), e, Option.bind_some, if_pos (by unfold sq at s; omega), h.2.2.2.1, wr_i (by omega) (by omega)]
  rfl
theorem passT_n (h : rdT t z L p M) {c : Int} (h0 : 0 ≤ c) (h1 : c ≤ 127) (q : z p ≠ c) : mo_passes c M = some (0, M) := by
  obtain ⟨r, e, s⟩ := h.here
  unfold mo_passes
  rw [h.fine, if_neg (by decide), e, Option.bind_some, if_neg (by unfold sq at s; omega)]
theorem needT_y (h : rdT t z L p M) {c : Int} (h0 : 0 ≤ c) (h1 : c ≤ 127) (q : z p = c) : ∃ M', mo_need c M = some M' ∧ rdT t z L (p + 1) M' ∧ ofM M M' := by
  obtain ⟨M', e, g1, g2⟩ := passT_y h h0 h1 q
  refine ⟨M', ?_, g1, g2⟩
  unfold mo_need
  rw [e]
  rfl
theorem needT_n (h : rdT t z L p M) {c : Int} (h0 : 0 ≤ c) (h1 : c ≤ 127) (q : z p ≠ c) : ∃ M', mo_need c M = some M' ∧ fltM p M' ∧ ofM M M' := by
  obtain ⟨M', e, g1, g2, g3⟩ := h.fault
  refine ⟨M', ?_, g1, g2⟩
  unfold mo_need
  rw [passT_n h h0 h1 q, Option.bind_some]
  dsimp only
  rw [if_pos rfl, e]
  rfl
end
theorem numT_loop {t : Nat} {z : Nat → Int} {L k p0 : Nat} (hk : k ≤ 3) (hp0 : p0 ≤ 80) : ∀ (j n i : Nat) (a : Int) (p : Nat) (M : MEM), i + j = k → p = p0 + i → j < n → 0 ≤ a → (i = 0 → a = 0) → (i = 1 → a ≤ 9) → (i = 2 → a ≤ 99) → rdT t z L p M →
    Tc (iter (fun s => mo_number_b16 (k : Int) (p0 : Int) s.1 s.2) n (a, M)) (fun r => r.1 = (num z j p a).2 ∧ rdT t z L (num z j p a).1 r.2 ∧ ofM M r.2) := by
  intro j
  induction j with
  | zero =>
    intro n i a p M hi hp hn ha h0 h9 h99 h
    obtain ⟨n, rfl⟩ : ∃ m, n = m + 1 := ⟨n - 1, by omega⟩
    refine ⟨(a, M), ?_, rfl, h, ofM.rf⟩
    show (mo_number_b16 (k : Int) p0 a M).bind _ = _
    unfold mo_number_b16
    rw [wr_i (by omega) (by omega), if_pos (by have := h.2.2.2.1; omega)]
    rfl
  | succ j ih =>
    intro n i a p M hi hp hn ha h0 h9 h99 h
    obtain ⟨n, rfl⟩ : ∃ m, n = m + 1 := ⟨n - 1, by omega⟩
    obtain ⟨r0, er0, sr0⟩ := h.here
    have h17 := h.2.2.2.1
    rw [num_S]
    by_cases q : dg (z p)
    · rw [if_pos q]
      have e0 : r0 = z p := by unfold sq at sr0; omega
      obtain ⟨r, er, g1, g2, g3⟩ := ih n (i + 1) (a * 10 + (z p - 48)) (p + 1) _ (by omega) (by omega) (by omega) (by omega) (by omega) (by omega) (by omega) (h.mv (by omega))
      refine ⟨r, ?_, g1, g2, ofM.up17.tr g3⟩
      rw [← er]
      show (mo_number_b16 (k : Int) p0 a M).bind _ = _
      unfold mo_number_b16
      rw [wr_i (x := (p0 : Int) + (k : Int)) (by omega) (by omega), if_neg (by omega), er0, Option.bind_some, e0, moIn_y q, if_neg (by decide), Option.bind_some, Option.bind_some, h17, wr_i (x := 10 * a) (by omega) (by omega), wr_i (x := 10 * a + z p) (by omega) (by omega), wr_i (x := 10 * a + z p - 48) (by omega) (by omega), wr_i (x := (p : Int) + 1) (by omega) (by omega), show 10 * a + z p - 48 = a * 10 + (z p - 48) by omega]
      rfl
    · rw [if_neg q]
      refine ⟨(a, M), ?_, rfl, h, ofM.rf⟩
      show (mo_number_b16 (k : Int) p0 a M).bind _ = _
      unfold mo_number_b16
      rw [wr_i (by omega) (by omega), if_neg (by omega), er0, Option.bind_some, moIn_n (by unfold sq at sr0; omega), if_pos rfl]
      rfl
theorem numT_y {t : Nat} {z : Nat → Int} {L p k : Nat} {M : MEM} (h : rdT t z L p M) (hk : k < 3) (q : dg (z p)) : ∃ M', mo_number ((k + 1 : Nat) : Int) M = some ((num z (k + 1) p 0).2, M') ∧ rdT t z L (num z (k + 1) p 0).1 M' ∧ ofM M M' := by
  have h17 := h.2.2.2.1
  obtain ⟨r, er, g1, g2, g3⟩ := numT_loop (z := z) (L := L) (k := k + 1) (p0 := p) (by omega) h.2.2.2.2.2.1.2 (k + 1) FU 0 0 p M (by omega) (by omega) (by unfold FU; omega) (by omega) (by omega) (by omega) (by omega) h
  obtain ⟨r1, r2⟩ := r
  dsimp only at g1 g2 g3
  refine ⟨r2, ?_, g2, g3⟩
  have hb : p + 1 ≤ (num z (k + 1) p 0).1 := by rw [num_1 z k p q]; exact (num_bd z k (p + 1) (z p - 48) (by omega)).1
  unfold mo_number
  rw [h.fine, if_neg (by decide), h17, er, Option.bind_some]
  unfold mo_number_j66
  rw [if_neg (by have := g2.2.2.2.1; dsimp only; omega), g1]
-- ===== the class's reader as a machine: at p, code C, what waits S; true: ahead of a thing =====
def brk : List Int → Nat
  | [] => 0
  | o :: S => (if o = 40 then 1 else 0) + brk S
noncomputable def unw (l : Int) : List Int → List Int → List Int × List Int
  | [], C => (C, [])
  | o :: S, C => if l ≤ ru_binding o then unw l S (C ++ [2000 + o]) else (C, o :: S)
noncomputable def topB : List Int → Int
  | [] => 0
  | o :: _ => ru_binding o
abbrev ltr (x : Int) : Prop := x = 104 ∨ x = 112 ∨ x = 116 ∨ x = 102 ∨ x = 99 ∨ x = 109 ∨ x = 107 ∨ x = 105
abbrev arO (x : Int) : Prop := x = 42 ∨ x = 47 ∨ x = 43 ∨ x = 45
abbrev cmO (x : Int) : Prop := x = 60 ∨ x = 61 ∨ x = 62
noncomputable def outF (z : Nat → Int) (L : Nat) : Nat → Bool → Nat → List Int → List Int → Option (Nat ⊕ List Int)
  | 0, _, _, _, _ => none
  | n + 1, true, p, C, S =>
    if z p = 45 then outF z L n true (p + 1) C (256 :: S)
    else if z p = 40 ∧ brk S < 4 then outF z L n true (p + 1) C (40 :: S)
    else if dg (z p) then outF z L n false (num z 3 p 0).1 (C ++ [(num z 3 p 0).2]) S
    else if ltr (z p) then outF z L n false (p + 1) (C ++ [1000 + ixOf (z p)]) S
    else some (.inl p)
  | n + 1, false, p, C, S =>
    if 0 < brk S ∧ z p = 41 then outF z L n false (p + 1) (unw 1 S C).1 (unw 1 S C).2.tail
    else if p = L then (if brk S = 0 then some (.inr (unw 1 S C).1) else some (.inl p))
    else if arO (z p) ∨ cmO (z p) then
      (if cmO (z p) ∧ topB (unw 2 S C).2 = 1 then some (.inl p) else outF z L n true (p + 1) (unw (max 2 (ru_binding (z p))) S C).1 (z p :: (unw (max 2 (ru_binding (z p))) S C).2))
    else some (.inl p)
def Out (z : Nat → Int) (L : Nat) (m : Bool) (p : Nat) (C S : List Int) (o : Nat ⊕ List Int) : Prop := ∃ n, outF z L n m p C S = some o
theorem outF_mono (z : Nat → Int) (L : Nat) : ∀ (n : Nat) (m : Bool) (p : Nat) (C S : List Int) (o : Nat ⊕ List Int), outF z L n m p C S = some o → outF z L (n + 1) m p C S = some o := by
  intro n
  induction n with
  | zero => intro m p C S o h; cases h
  | succ n ih =>
    intro m p C S o h
    cases m with
    | true =>
      unfold outF at h ⊢
      by_cases a1 : z p = 45
      · rw [if_pos a1] at h ⊢; exact ih _ _ _ _ _ h
      rw [if_neg a1] at h ⊢
      by_cases a2 : z p = 40 ∧ brk S < 4
      · rw [if_pos a2] at h ⊢; exact ih _ _ _ _ _ h
      rw [if_neg a2] at h ⊢
      by_cases a3 : dg (z p)
      · rw [if_pos a3] at h ⊢; exact ih _ _ _ _ _ h
      rw [if_neg a3] at h ⊢
      by_cases a4 : ltr (z p)
      · rw [if_pos a4] at h ⊢; exact ih _ _ _ _ _ h
      rw [if_neg a4] at h ⊢
      exact h
    | false =>
      unfold outF at h ⊢
      by_cases a1 : 0 < brk S ∧ z p = 41
      · rw [if_pos a1] at h ⊢; exact ih _ _ _ _ _ h
      rw [if_neg a1] at h ⊢
      by_cases a2 : p = L
      · rw [if_pos a2] at h ⊢; exact h
      rw [if_neg a2] at h ⊢
      by_cases a3 : arO (z p) ∨ cmO (z p)
      · rw [if_pos a3] at h ⊢
        by_cases a4 : cmO (z p) ∧ topB (unw 2 S C).2 = 1
        · rw [if_pos a4] at h ⊢; exact h
        · rw [if_neg a4] at h ⊢; exact ih _ _ _ _ _ h
      · rw [if_neg a3] at h ⊢; exact h
theorem Out.det {z : Nat → Int} {L : Nat} {m : Bool} {p : Nat} {C S : List Int} {o o' : Nat ⊕ List Int} (h : Out z L m p C S o) (g : Out z L m p C S o') : o = o' := by
  obtain ⟨n, h⟩ := h
  obtain ⟨k, g⟩ := g
  have mono : ∀ (j n : Nat) (o : Nat ⊕ List Int), outF z L n m p C S = some o → outF z L (n + j) m p C S = some o := fun j => by
    induction j with
    | zero => intro n o h; exact h
    | succ j ih => intro n o h; exact outF_mono _ _ _ _ _ _ _ _ (ih n o h)
  have a := mono k n o h
  have b := mono n k o' g
  rw [Nat.add_comm k n, a] at b
  exact Option.some.inj b
section
variable {z : Nat → Int} {L p : Nat} {C S : List Int} {o : Nat ⊕ List Int}
theorem Out.neg (a : z p = 45) (h : Out z L true (p + 1) C (256 :: S) o) : Out z L true p C S o := by
  obtain ⟨n, h⟩ := h
  exact ⟨n + 1, by unfold outF; rw [if_pos a]; exact h⟩
theorem Out.opn (a : z p = 40) (b : brk S < 4) (h : Out z L true (p + 1) C (40 :: S) o) : Out z L true p C S o := by
  obtain ⟨n, h⟩ := h
  exact ⟨n + 1, by unfold outF; rw [if_neg (by omega), if_pos ⟨a, b⟩]; exact h⟩
theorem Out.dig (a : dg (z p)) (h : Out z L false (num z 3 p 0).1 (C ++ [(num z 3 p 0).2]) S o) : Out z L true p C S o := by
  obtain ⟨n, h⟩ := h
  exact ⟨n + 1, by unfold outF; rw [if_neg (by omega), if_neg (by omega), if_pos a]; exact h⟩
theorem Out.lett (a : ltr (z p)) (h : Out z L false (p + 1) (C ++ [1000 + ixOf (z p)]) S o) : Out z L true p C S o := by
  obtain ⟨n, h⟩ := h
  exact ⟨n + 1, by unfold outF; rw [if_neg (by omega), if_neg (by omega), if_neg (by omega), if_pos a]; exact h⟩
theorem Out.bad (a1 : z p ≠ 45) (a2 : ¬ (z p = 40 ∧ brk S < 4)) (a3 : ¬ dg (z p)) (a4 : ¬ ltr (z p)) : Out z L true p C S (.inl p) :=
  ⟨1, by unfold outF; rw [if_neg a1, if_neg a2, if_neg a3, if_neg a4]⟩
theorem Out.cls (a : 0 < brk S) (b : z p = 41) (h : Out z L false (p + 1) (unw 1 S C).1 (unw 1 S C).2.tail o) : Out z L false p C S o := by
  obtain ⟨n, h⟩ := h
  exact ⟨n + 1, by unfold outF; rw [if_pos ⟨a, b⟩]; exact h⟩
theorem Out.fin (a : ¬ (0 < brk S ∧ z p = 41)) (b : p = L) (c : brk S = 0) : Out z L false p C S (.inr (unw 1 S C).1) :=
  ⟨1, by unfold outF; rw [if_neg a, if_pos b, if_pos c]⟩
theorem Out.opb (a : ¬ (0 < brk S ∧ z p = 41)) (b : p = L) (c : brk S ≠ 0) : Out z L false p C S (.inl p) :=
  ⟨1, by unfold outF; rw [if_neg a, if_pos b, if_neg c]⟩
theorem Out.two (a : p ≠ L) (b : cmO (z p)) (c : topB (unw 2 S C).2 = 1) : Out z L false p C S (.inl p) :=
  ⟨1, by unfold outF; rw [if_neg (by omega), if_neg a, if_pos (Or.inr b), if_pos ⟨b, c⟩]⟩
theorem Out.op (a : p ≠ L) (b : arO (z p) ∨ cmO (z p)) (c : ¬ (cmO (z p) ∧ topB (unw 2 S C).2 = 1)) (h : Out z L true (p + 1) (unw (max 2 (ru_binding (z p))) S C).1 (z p :: (unw (max 2 (ru_binding (z p))) S C).2) o) : Out z L false p C S o := by
  obtain ⟨n, h⟩ := h
  exact ⟨n + 1, by unfold outF; rw [if_neg (by omega), if_neg a, if_pos b, if_neg c]; exact h⟩
theorem Out.non (a : ¬ (0 < brk S ∧ z p = 41)) (b : p ≠ L) (c : ¬ (arO (z p) ∨ cmO (z p))) : Out z L false p C S (.inl p) :=
  ⟨1, by unfold outF; rw [if_neg a, if_neg b, if_neg c]⟩
end
