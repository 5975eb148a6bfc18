-- ===== stable: a LINE, read by both =====
/-- how many digits stand from p on, m at most -/
def dcn (z : Nat → Int) : Nat → Nat → Nat
  | 0, _ => 0
  | m + 1, p => if dg (z p) then dcn z m (p + 1) + 1 else 0
theorem dcn_S (z : Nat → Int) (m p : Nat) : dcn z (m + 1) p = if dg (z p) then dcn z m (p + 1) + 1 else 0 := rfl
theorem dcn_le (z : Nat → Int) : ∀ m p : Nat, dcn z m p ≤ m ∧ (∀ i, i < dcn z m p → dg (z (p + i))) ∧ (dcn z m p < m → ¬ dg (z (p + dcn z m p))) := by
  intro m
  induction m with
  | zero => intro p; exact ⟨Nat.le_refl _, fun i hi => absurd hi (Nat.not_lt_zero i), fun h => absurd h (Nat.not_lt_zero _)⟩
  | succ m ih =>
    intro p
    obtain ⟨a1, a2, a3⟩ := ih (p + 1)
    rw [dcn_S]
    by_cases q : dg (z p)
    · rw [if_pos q]
      refine ⟨by omega, fun i hi => ?_, fun h => ?_⟩
      · cases i with
        | zero => exact q
        | succ i => rw [show p + (i + 1) = p + 1 + i by omega]; exact a2 i (by omega)
      · rw [show p + (dcn z m (p + 1) + 1) = p + 1 + dcn z m (p + 1) by omega]; exact a3 (by omega)
    · rw [if_neg q]
      exact ⟨by omega, fun i hi => absurd hi (Nat.not_lt_zero i), fun _ => q⟩
/-- a LINE from p on: where it can't go on, or its end, HUNGER, how many PLACES -/
def rline (z : Nat → Int) (p : Nat) : Nat ⊕ (Nat × Int × Nat) :=
  if dg (z p) then
    if z (p + 1) = 58 then
      if 4 ≤ dcn z 12 (p + 2) then .inr (p + 2 + dcn z 12 (p + 2), z p - 48, dcn z 12 (p + 2)) else .inl (p + 2 + dcn z 12 (p + 2))
    else .inl (p + 1)
  else .inl p
-- ----- the class -----
def onB (b : Nat) (M M' : MEM) : Prop := (∀ c, c ≠ 1 → c ≠ b → c ≠ b + 1 → M' c = M c) ∧ ∀ k, k ≠ 2 → M' 1 k = M 1 k
theorem onB.tr {b : Nat} {M M1 M2 : MEM} (h : onB b M M1) (g : onB b M1 M2) : onB b M M2 := ⟨fun c a d e => (g.1 c a d e).trans (h.1 c a d e), fun k a => (g.2 k a).trans (h.2 k a)⟩
theorem ofR.onB {b : Nat} {M M' : MEM} (h : ofR M M') : onB b M M' := ⟨fun c a _ _ => h.1 c a, h.2⟩
theorem onB.up {b c k : Nat} {M : MEM} {x : Int} (hb : 10 ≤ b) (hc : c = b ∨ c = b + 1) : onB b M (up2 M c k x) := ⟨fun d _ e f => up2_ne (by omega), fun k _ => rd_a (by omega)⟩
theorem rdC.upB {z : Nat → Int} {L p c k : Nat} {M : MEM} {x : Int} (h : rdC z L p M) (hc : 10 ≤ c) : rdC z L p (up2 M c k x) := h.off (up2_ne (by omega)) (up2_ne (by omega))
/-- the DONKEY of a LINE -/
def stC (z : Nat → Int) (b : Nat) (h : Int) (k p : Nat) (M : MEM) : Prop := M b 4 = h ∧ M b 2 = (k : Int) ∧ M b 3 = 0 ∧ M b 5 = 0 ∧ ∀ i, i < k → M (b + 1) i = z (p + 2 + i) - 48
def goodL (z : Nat → Int) (L b p : Nat) (M : MEM) : Nat ⊕ (Nat × Int × Nat) → Int × MEM → Prop
  | .inl f, r => r.1 = 0 ∧ rdC z L f r.2 ∧ onB b M r.2
  | .inr (e, h, k), r => r.1 = 1 ∧ rdC z L e r.2 ∧ stC z b h k p r.2 ∧ onB b M r.2
theorem readLineC {z : Nat → Int} {L p b : Nat} {M : MEM} (hb : 10 ≤ b) (h : rdC z L p M) : Tc (dh_readLine b M) (goodL z L b p M (rline z p)) := by
  unfold dh_readLine rline
  by_cases d : dg (z p)
  · rw [if_pos d]
    obtain ⟨M1, e1, h1, o1⟩ := dig_y h d
    refine Tc_e e1 ?_
    dsimp only
    refine Tc_f (by omega) ?_
    by_cases a : z (p + 1) = 58
    · rw [if_pos a]
      obtain ⟨M2, e2, h2, o2⟩ := takes_y h1 (c := 58) (by omega) (by omega) a
      refine Tc_e e2 ?_
      dsimp only
      refine Tc_f (by decide) ?_
      unfold be_stall
      refine Tc_u ?_
      generalize hM3 : up2 (up2 (up2 (up2 M2 b 4 (z p - 48)) b 2 0) b 3 0) b 5 0 = M3
      have h3 : rdC z L (p + 2) M3 := by rw [← hM3]; exact (((h2.upB hb).upB hb).upB hb).upB hb
      have o3 : onB b M M3 := by rw [← hM3]; exact o1.onB.tr (o2.onB.tr ((onB.up hb (Or.inl rfl)).tr ((onB.up hb (Or.inl rfl)).tr ((onB.up hb (Or.inl rfl)).tr (onB.up hb (Or.inl rfl))))))
      have b2 : M3 b 2 = 0 := by rw [← hM3, rd_k (by decide), rd_k (by decide), rd_same]
      have b3 : M3 b 3 = 0 := by rw [← hM3, rd_k (by decide), rd_same]
      have b4 : M3 b 4 = z p - 48 := by rw [← hM3, rd_k (by decide), rd_k (by decide), rd_k (by decide), rd_same]
      have b5 : M3 b 5 = 0 := by rw [← hM3, rd_same]
      obtain ⟨k1, k2, k3⟩ := dcn_le z 12 (p + 2)
      generalize dcn z 12 (p + 2) = K at *
      refine Tc_c (Tc_n (E := fun e => goodL z L b p M (if 4 ≤ K then .inr (p + 2 + K, z p - 48, K) else .inl (p + 2 + K)) (Sum.elim (fun r => r) (fun w => (1, w.2)) e)) (fun i s => s.1 = (i : Int) ∧ rdC z L (p + 2 + i) s.2 ∧ stC z b (z p - 48) i p s.2 ∧ onB b M s.2) K ⟨rfl, h3, ⟨b4, b2, b3, b5, fun i hi => absurd hi (Nat.not_lt_zero i)⟩, o3⟩ (by omega) ?_ ?_) (fun e he => ?_)
      · rintro i ⟨x3, N⟩ hi ⟨rfl, q1, ⟨s1, s2, s3, s4, s5⟩, q3⟩
        dsimp only at q1 s1 s2 s3 s4 s5 q3
        obtain ⟨N1, f1, r1, p1⟩ := dig_y q1 (k2 i hi)
        have dgi : dg (z (p + 2 + i)) := k2 i hi
        unfold dh_readLine_b33
        refine Tc_f (by dsimp only; omega) (Tc_e f1 ?_)
        dsimp only
        refine Tc_t (by omega) ?_
        have e2 : N1 b 2 = (i : Int) := by rw [p1.1 b (by omega)]; exact s2
        unfold be_addPlace
        rw [e2, if_neg (by omega), if_pos (by omega), Option.bind_some, toNat_c, rd_a (a' := b) (by omega), e2, wr_i (x := (i : Int) + 1) (by omega) (by omega)]
        refine Tc_u (Tc_inl ⟨?_, (r1.upB (by omega)).upB hb, ⟨?_, ?_, ?_, ?_, fun j hj => ?_⟩, q3.tr (p1.onB.tr ((onB.up hb (Or.inr rfl)).tr (onB.up hb (Or.inl rfl))))⟩)
        · omega
        all_goals dsimp only
        · rw [rd_k (by decide), rd_a (by omega), p1.1 b (by omega)]; exact s1
        · rw [rd_same]; omega
        · rw [rd_k (by decide), rd_a (by omega), p1.1 b (by omega)]; exact s3
        · rw [rd_k (by decide), rd_a (by omega), p1.1 b (by omega)]; exact s4
        · rw [rd_a (by omega)]
          by_cases e : j = i
          · subst e; rw [rd_same]
          · rw [rd_k e, p1.1 (b + 1) (by omega)]; exact s5 j (by omega)
      · rintro ⟨x3, N⟩ ⟨rfl, q1, q2, q3⟩
        dsimp only at q1 q2 q3
        unfold dh_readLine_b33
        by_cases e12 : K = 12
        · refine Tc_t (by dsimp only; omega) (Tc_inr ?_)
          rw [if_pos (by omega)]
          exact ⟨rfl, q1, q2, q3⟩
        · refine Tc_f (by dsimp only; omega) (Tc_e (dig_n q1 (k3 (by omega))) ?_)
          dsimp only
          refine Tc_f (by decide) ?_
          by_cases e4 : 4 ≤ K
          · rw [if_pos e4]
            exact Tc_f (by omega) (Tc_inr ⟨rfl, q1, q2, q3⟩)
          · rw [if_neg e4]
            exact Tc_t (by omega) (Tc_inr ⟨rfl, q1, q3⟩)
      · cases e with
        | inl r => exact Tc_some he
        | inr w => exact Tc_some he
    · rw [if_neg a]
      refine Tc_e (takes_n h1 (c := 58) (by omega) (by omega) a) ?_
      exact Tc_t rfl (Tc_some ⟨rfl, h1, o1.onB⟩)
  · rw [if_neg d]
    refine Tc_e (dig_n h d) ?_
    exact Tc_t (by show (-1 : Int) < 0; decide) (Tc_some ⟨rfl, h, ofR.rf.onB⟩)
-- ----- the reference -----
def onD (i : Nat) (M M' : MEM) : Prop := (∀ c, c ≠ 278 → c ≠ 285 → M' c = M c) ∧ (∀ k, k ≠ 17 → k ≠ 18 → M' 278 k = M 278 k) ∧ ∀ k, ¬ (14 * i ≤ k ∧ k < 14 * i + 14) → M' 285 k = M 285 k
theorem onD.tr {q : Nat} {M M1 M2 : MEM} (h : onD q M M1) (g : onD q M1 M2) : onD q M M2 := ⟨fun c a b => (g.1 c a b).trans (h.1 c a b), fun k a b => (g.2.1 k a b).trans (h.2.1 k a b), fun k a => (g.2.2 k a).trans (h.2.2 k a)⟩
theorem ofM.onD {q : Nat} {M M' : MEM} (h : ofM M M') : onD q M M' := ⟨fun c a _ => h.1 c a, h.2, fun k _ => by rw [h.1 285 (by decide)]⟩
theorem onD.up {q k : Nat} {M : MEM} {x : Int} (hk : 14 * q ≤ k ∧ k < 14 * q + 14) : onD q M (up2 M 285 k x) := ⟨fun d a b => up2_ne b, fun k a b => rd_a (by decide), fun d a => rd_k (by omega)⟩
theorem rdM.upD {z : Nat → Int} {L p k : Nat} {M : MEM} {x : Int} (h : rdM z L p M) : rdM z L p (up2 M 285 k x) := h.off (up2_ne (by decide)) (up2_ne (by decide))
theorem fltM.upD {q k : Nat} {M : MEM} {x : Int} (h : fltM q M) : fltM q (up2 M 285 k x) := by
  unfold fltM
  rw [rd_a (by decide)]; exact h
/-- the numbers of a LINE -/
def stM (z : Nat → Int) (i : Nat) (h : Int) (k p : Nat) (N : MEM) : Prop := N 285 (14 * i) = h ∧ N 285 (14 * i + 1) = (k : Int) ∧ ∀ j, j < k → N 285 (14 * i + 2 + j) = z (p + 2 + j) - 48
def goodD (z : Nat → Int) (L i p : Nat) (M : MEM) : Nat ⊕ (Nat × Int × Nat) → MEM → Prop
  | .inl f, N => fltM f N ∧ onD i M N
  | .inr (e, h, k), N => ((dg (z e) ∧ fltM e N) ∨ (¬ dg (z e) ∧ rdM z L e N ∧ stM z i h k p N)) ∧ onD i M N
theorem rD_f {z : Nat → Int} {L i p f : Nat} {x1 : Int} {M0 M : MEM} (hi : i < 3) (hx : x1 = ((14 * i : Nat) : Int)) (h : fltM f M) (o : onD i M0 M) : Tc ((iter (fun s => mo_readDonkey_b19 x1 s.1 s.2) FU (0, M)).bind fun w31 => mo_readDonkey_j90 x1 w31.1 w31.2) (goodD z L i p M0 (.inl f)) := by
  rw [iter_exit (e := (0, M)) (by unfold mo_readDonkey_b19; rw [show mo_fine (0, M).2 = 0 from h.fine, if_pos rfl]), Option.bind_some]
  unfold mo_readDonkey_j90
  refine Tc_f (by show ¬ (4 : Int) ≤ 0; decide) ?_
  rw [h.fault, Option.bind_some]
  unfold mo_readDonkey_j103
  rw [wr_i (x := x1 + 1) (by omega) (by omega), if_pos (by omega)]
  exact Tc_u (Tc_some ⟨h.upD, o.tr (onD.up (by omega))⟩)
theorem readLineM {z : Nat → Int} {L p i : Nat} {x1 : Int} {M : MEM} (hi : i < 3) (hx : x1 = ((14 * i : Nat) : Int)) (h : rdM z L p M) : Tc (mo_readDonkey x1 M) (goodD z L i p M (rline z p)) := by
  have hp := h.2.2.2.2.1
  have hL := h.2.2.2.2.2.1
  unfold mo_readDonkey rline
  by_cases d : dg (z p)
  · rw [if_pos d]
    obtain ⟨M1, e1, h1, o1⟩ := moNumber_y (k := 0) h (by omega) d
    rw [num_1 z 0 p d] at e1 h1
    refine Tc_e e1 (Tc_t (by omega) (Tc_u ?_))
    dsimp only
    rw [show x1.toNat = 14 * i by omega]
    have h1' : rdM z L (p + 1) (up2 M1 285 (14 * i) (num z 0 (p + 1) (z p - 48)).2) := h1.upD
    have o1' : onD i M (up2 M1 285 (14 * i) (num z 0 (p + 1) (z p - 48)).2) := o1.onD.tr (onD.up (by omega))
    have v0 : up2 M1 285 (14 * i) (num z 0 (p + 1) (z p - 48)).2 285 (14 * i) = z p - 48 := rd_same
    generalize up2 M1 285 (14 * i) (num z 0 (p + 1) (z p - 48)).2 = M5 at *
    by_cases a : z (p + 1) = 58
    · rw [if_pos a]
      obtain ⟨M8, e8, h8, o8⟩ := need_y h1' (c := 58) (by omega) (by omega) a
      refine Tc_e e8 ?_
      have o8' := o1'.tr (o8.onD (q := i))
      have v8 : M8 285 (14 * i) = z p - 48 := by rw [o8.1 285 (by decide)]; exact v0
      obtain ⟨k1, k2, k3⟩ := dcn_le z 12 (p + 2)
      generalize dcn z 12 (p + 2) = K at *
      -- up to the last PLACE
      have hl : Tc (iter (fun s => mo_readDonkey_b19 x1 s.1 s.2) FU (0, M8)) (fun s => s.1 = (K : Int) ∧ onD i M s.2 ∧ ((K = 12 ∧ dg (z (p + 2 + K)) ∧ fltM (p + 2 + K) s.2) ∨ (¬ (K = 12 ∧ dg (z (p + 2 + K))) ∧ rdM z L (p + 2 + K) s.2 ∧ s.2 285 (14 * i) = z p - 48 ∧ ∀ j, j < K → s.2 285 (14 * i + 2 + j) = z (p + 2 + j) - 48))) := by
        refine Tc_n (fun c s => (c ≤ K ∧ s.1 = (c : Int) ∧ onD i M s.2 ∧ rdM z L (p + 2 + c) s.2 ∧ s.2 285 (14 * i) = z p - 48 ∧ ∀ j, j < c → s.2 285 (14 * i + 2 + j) = z (p + 2 + j) - 48) ∨ (c = 13 ∧ K = 12 ∧ dg (z (p + 2 + K)) ∧ s.1 = 12 ∧ onD i M s.2 ∧ fltM (p + 2 + K) s.2)) (if K = 12 ∧ dg (z (p + 2 + K)) then 13 else K) (Or.inl ⟨by omega, rfl, o8', h8, v8, fun j hj => absurd hj (Nat.not_lt_zero j)⟩) (by split <;> omega) ?_ ?_
        · rintro c ⟨x2, N⟩ hc hI
          rcases hI with ⟨c1, c2, c3, c4, c5, c6⟩ | ⟨c1, -⟩
          · dsimp only at c2 c3 c4 c5 c6
            subst c2
            have c4' := c4.2.2.1
            have c4p := c4.2.2.2.2.1
            obtain ⟨r, er, sr⟩ := c4.here
            unfold mo_readDonkey_b19
            refine Tc_f (by rw [c4.fine]; decide) (Tc_e er ?_)
            dsimp only
            by_cases cK : c < K
            · have dd : dg (z (p + 2 + c)) := k2 c cK
              have er2 : r = z (p + 2 + c) := by unfold sq at sr; omega
              refine Tc_f (by rw [er2, moIn_y dd]; decide) (Tc_f (by omega) (Tc_e er (Tc_t ?_ (Tc_u (Tc_u (Tc_inl (Or.inl ⟨by omega, ?_, ?_, ?_, ?_, fun j hj => ?_⟩)))))))
              · rw [wr_i (x := x1 + 2) (by omega) (by omega), wr_i (x := x1 + 2 + (c : Int)) (by omega) (by omega)]; omega
              · dsimp only; exact (wr_i (by omega) (by omega)).trans (by omega)
              all_goals dsimp only
              all_goals rw [wr_i (x := x1 + 2) (by omega) (by omega), wr_i (x := x1 + 2 + (c : Int)) (by omega) (by omega), show (x1 + 2 + (c : Int)).toNat = 14 * i + 2 + c by omega, er2, wr_i (x := z (p + 2 + c) - 48) (by omega) (by omega)]
              · exact c3.tr ((onD.up (by omega)).tr ofM.up17.onD)
              · have := (c4.upD (k := 14 * i + 2 + c) (x := z (p + 2 + c) - 48)).mv (by omega)
                rw [rd_a (by decide), c4', wr_i (x := ((p + 2 + c : Nat) : Int) + 1) (by omega) (by omega), show ((p + 2 + c : Nat) : Int) + 1 = ((p + 2 + c + 1 : Nat) : Int) by omega]
                exact this
              · rw [rd_a (by decide), rd_k (by omega)]; exact c5
              · rw [rd_a (by decide)]
                by_cases e : j = c
                · subst e; rw [rd_same]
                · rw [rd_k (by omega)]; exact c6 j (by omega)
            · have ecK : c = K := by omega
              subst ecK
              by_cases q : c = 12 ∧ dg (z (p + 2 + c))
              · have er2 : r = z (p + 2 + c) := by unfold sq at sr; have := q.2; omega
                obtain ⟨M9, e9, f9, o9, -⟩ := c4.fault
                refine Tc_f (by rw [er2, moIn_y q.2]; decide) (Tc_t (by omega) (Tc_e e9 (Tc_inl (Or.inr ⟨by omega, q.1, q.2, ?_, c3.tr o9.onD, f9⟩))))
                dsimp only; omega
              · rw [if_neg q] at hc; omega
          · split at hc <;> omega
        · rintro ⟨x2, N⟩ hI
          by_cases q : K = 12 ∧ dg (z (p + 2 + K))
          · rw [if_pos q] at hI
            rcases hI with ⟨c1, -⟩ | ⟨-, c2, c3, c4, c5, c6⟩
            · omega
            · dsimp only at c4 c5 c6
              unfold mo_readDonkey_b19
              exact Tc_t (by exact c6.fine) (Tc_inr ⟨by dsimp only; omega, c5, Or.inl ⟨c2, c3, c6⟩⟩)
          · rw [if_neg q] at hI
            rcases hI with ⟨c1, c2, c3, c4, c5, c6⟩ | ⟨c1, -⟩
            · dsimp only at c2 c3 c4 c5 c6
              obtain ⟨r, er, sr⟩ := c4.here
              unfold mo_readDonkey_b19
              refine Tc_f (by rw [c4.fine]; decide) (Tc_e er (Tc_t ?_ (Tc_inr ⟨c2, c3, Or.inr ⟨q, c4, c5, c6⟩⟩)))
              have nd : ¬ dg (z (p + 2 + K)) := by
                by_cases e : K = 12
                · exact fun y => q ⟨e, y⟩
                · exact k3 (by omega)
              exact moIn_n (by unfold sq at sr; omega)
            · omega
      obtain ⟨⟨x2, N⟩, eN, n1, n2, n3⟩ := hl
      dsimp only at n1 n2 n3
      subst n1
      refine Tc_e eN ?_
      unfold mo_readDonkey_j90
      dsimp only
      have fin : ∀ N' : MEM, mo_readDonkey_j103 x1 (K : Int) N' = some (up2 N' 285 (14 * i + 1) (K : Int)) := fun N' => by
        unfold mo_readDonkey_j103
        rw [wr_i (x := x1 + 1) (by omega) (by omega), if_pos (by omega), show (x1 + 1).toNat = 14 * i + 1 by omega]
        rfl
      by_cases e4 : 4 ≤ K
      · rw [if_pos e4]
        refine Tc_t (by omega) ?_
        rw [fin]
        refine Tc_some ⟨?_, n2.tr (onD.up (by omega))⟩
        rcases n3 with ⟨q1, q2, q3⟩ | ⟨q1, q2, q3, q4⟩
        · exact Or.inl ⟨q2, q3.upD⟩
        · refine Or.inr ⟨?_, q2.upD, ?_, rd_same, fun j hj => ?_⟩
          · by_cases e : K = 12
            · exact fun y => q1 ⟨e, y⟩
            · exact k3 (by omega)
          · rw [rd_k (by omega)]; exact q3
          · rw [rd_k (by omega)]; exact q4 j hj
      · rw [if_neg e4]
        refine Tc_f (by omega) ?_
        rcases n3 with ⟨q1, -⟩ | ⟨-, q2, -⟩
        · omega
        · obtain ⟨M9, e9, f9, o9, -⟩ := q2.fault
          refine Tc_e e9 ?_
          rw [fin]
          exact Tc_some ⟨f9.upD, n2.tr (o9.onD.tr (onD.up (by omega)))⟩
    · rw [if_neg a]
      obtain ⟨M8, e8, f8, o8, -⟩ := need_n h1' (c := 58) (by omega) (by omega) a
      exact Tc_e e8 (rD_f hi hx f8 (o1'.tr o8.onD))
  · rw [if_neg d]
    obtain ⟨M1, e1, f1, o1, -⟩ := moNumber_n (k := 0) h (by omega) d
    refine Tc_e e1 (Tc_t (by omega) (Tc_u ?_))
    dsimp only
    rw [show x1.toNat = 14 * i by omega, need_f f1.upD, Option.bind_some]
    exact rD_f hi hx f1.upD (o1.onD.tr (onD.up (by omega)))
