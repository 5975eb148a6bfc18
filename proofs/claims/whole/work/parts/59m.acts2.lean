-- ----- the reference -----
def onM (q : Nat) (M M' : MEM) : Prop := (∀ c, c ≠ 278 → c ≠ 291 → M' c = M c) ∧ (∀ k, k ≠ 17 → k ≠ 18 → M' 278 k = M 278 k) ∧ ∀ k, ¬ (4 * q ≤ k ∧ k ≤ 4 * q + 3) → M' 291 k = M 291 k
theorem onM.tr {q : Nat} {M M1 M2 : MEM} (h : onM q M M1) (g : onM q M1 M2) : onM q M M2 := ⟨fun c a b => (g.1 c a b).trans (h.1 c a b), fun k a b => (g.2.1 k a b).trans (h.2.1 k a b), fun k a => (g.2.2 k a).trans (h.2.2 k a)⟩
theorem ofM.on {q : Nat} {M M' : MEM} (h : ofM M M') : onM q M M' := ⟨fun c a _ => h.1 c a, h.2, fun k _ => by rw [h.1 291 (by decide)]⟩
theorem onM.up {q k : Nat} {M : MEM} {x : Int} (hk : 4 * q ≤ k ∧ k ≤ 4 * q + 3) : onM q M (up2 M 291 k x) := ⟨fun d a b => up2_ne b, fun k a b => rd_a (by decide), fun d a => rd_k (by omega)⟩
theorem rdM.up {z : Nat → Int} {L p k : Nat} {M : MEM} {x : Int} (h : rdM z L p M) : rdM z L p (up2 M 291 k x) := h.off (up2_ne (by decide)) (up2_ne (by decide))
theorem fltM.up {q k : Nat} {M : MEM} {x : Int} (h : fltM q M) : fltM q (up2 M 291 k x) := by
  unfold fltM
  rw [rd_a (by decide)]; exact h
theorem fltM.up17 {q : Nat} {M : MEM} {x : Int} (h : fltM q M) : fltM q (up2 M 278 17 x) := by
  unfold fltM
  rw [rd_k (by decide)]; exact h
def goodM (z : Nat → Int) (L q : Nat) (M : MEM) : Nat ⊕ (Nat × Int × Int × Int × Int) → MEM → Prop
  | .inl f, N => fltM f N ∧ onM q M N
  | .inr (e, k, w, h, v), N => rdM z L e N ∧ (N 291 (4 * q) = k ∧ N 291 (4 * q + 1) = (if k = 109 then v else w) ∧ (k ≠ 109 → N 291 (4 * q + 2) = v) ∧ (k = 99 ∨ k = 115 → N 291 (4 * q + 3) = h)) ∧ onM q M N
theorem jM_191e {q : Nat} {x1 : Int} (hq : q < 21) (hx : x1 = ((4 * q : Nat) : Int)) (M : MEM) : mo_readAct_j191 x1 M = (mo_need 61 M).bind fun M61 => (mo_number 1 M61).bind fun p => some (up2 p.2 291 (4 * q + 2) p.1) := by
  unfold mo_readAct_j191
  congr 1; funext M61
  congr 1; funext p
  rw [wr_i (by omega) (by omega), if_pos (by omega), show (x1 + 2).toNat = 4 * q + 2 by omega]
  rfl
theorem jM_148e {q : Nat} {x1 : Int} (hq : q < 21) (hx : x1 = ((4 * q : Nat) : Int)) (M : MEM) : mo_readAct_j148 x1 M = (mo_number 2 (up2 M 278 17 (wr (M 278 17 + 1)))).bind fun p => some (up2 p.2 291 (4 * q + 2) p.1) := by
  unfold mo_readAct_j148
  rw [Option.bind_some]
  congr 1; funext p
  rw [wr_i (x := x1 + 2) (by omega) (by omega), if_pos (by omega), show (x1 + 2).toNat = 4 * q + 2 by omega]
  rfl
theorem jM_191f {z : Nat → Int} {L q f : Nat} {x1 : Int} {M0 M : MEM} (hq : q < 21) (hx : x1 = ((4 * q : Nat) : Int)) (h : fltM f M) (o : onM q M0 M) : Tc (mo_readAct_j191 x1 M) (goodM z L q M0 (.inl f)) := by
  rw [jM_191e hq hx, need_f h, Option.bind_some, moNumber_f h, Option.bind_some]
  exact Tc_some ⟨h.up, o.tr (onM.up (by omega))⟩
theorem jM_148f {z : Nat → Int} {L q f : Nat} {x1 : Int} {M0 M : MEM} (hq : q < 21) (hx : x1 = ((4 * q : Nat) : Int)) (h : fltM f M) (o : onM q M0 M) : Tc (mo_readAct_j148 x1 M) (goodM z L q M0 (.inl f)) := by
  rw [jM_148e hq hx, moNumber_f h.up17, Option.bind_some]
  exact Tc_some ⟨h.up17.up, o.tr (ofM.up17.on.tr (onM.up (by omega)))⟩
theorem jM_191 {z : Nat → Int} {L q n : Nat} {x1 k w s : Int} {M0 M : MEM} (hq : q < 21) (hx : x1 = ((4 * q : Nat) : Int)) (h : rdM z L n M) (o : onM q M0 M) (k1 : k ≠ 109) (m0 : M 291 (4 * q) = k) (m1 : M 291 (4 * q + 1) = w) (m3 : k = 99 ∨ k = 115 → M 291 (4 * q + 3) = s) : Tc (mo_readAct_j191 x1 M) (goodM z L q M0 (if z n = 61 then if dg (z (n + 1)) then .inr (n + 2, k, w, s, z (n + 1) - 48) else .inl (n + 1) else .inl n)) := by
  rw [jM_191e hq hx]
  by_cases a : z n = 61
  · rw [if_pos a]
    obtain ⟨M1, e1, h1, o1⟩ := need_y h (c := 61) (by omega) (by omega) a
    refine Tc_e e1 ?_
    by_cases d : dg (z (n + 1))
    · rw [if_pos d]
      obtain ⟨M2, e2, h2, o2⟩ := moNumber_y (k := 0) h1 (by omega) d
      rw [num_1 z 0 (n + 1) d] at e2 h2
      refine Tc_e e2 (Tc_some ⟨h2.up, ⟨?_, ?_, fun _ => rd_same, fun y => ?_⟩, o.tr (o1.on.tr (o2.on.tr (onM.up (by omega))))⟩)
      · dsimp only; rw [rd_k (by omega), o2.1 291 (by decide), o1.1 291 (by decide)]; exact m0
      · dsimp only; rw [rd_k (by omega), o2.1 291 (by decide), o1.1 291 (by decide), if_neg k1]; exact m1
      · dsimp only; rw [rd_k (by omega), o2.1 291 (by decide), o1.1 291 (by decide)]; exact m3 y
    · rw [if_neg d]
      obtain ⟨M2, e2, f2, o2, -⟩ := moNumber_n (k := 0) h1 (by omega) d
      exact Tc_e e2 (Tc_some ⟨f2.up, o.tr (o1.on.tr (o2.on.tr (onM.up (by omega))))⟩)
  · rw [if_neg a]
    obtain ⟨M1, e1, f1, o1, -⟩ := need_n h (c := 61) (by omega) (by omega) a
    refine Tc_e e1 ?_
    rw [moNumber_f f1, Option.bind_some]
    exact Tc_some ⟨f1.up, o.tr (o1.on.tr (onM.up (by omega)))⟩
/-- what follows the DONKEY -/
noncomputable def jM_t (x1 x2 : Int) (q : Nat) (M20 : MEM) : Option MEM :=
  if x2 = 99 then (mo_here M20).bind fun r24 => if r24 = 45 then mo_readAct_j114 x1 (wr (x1 + 3)) (-1) M20 else mo_readAct_j114 x1 (wr (x1 + 3)) 1 M20
  else if x2 = 115 then (mo_number 2 M20).bind fun p55 => mo_readAct_j191 x1 (up2 p55.2 291 (4 * q + 3) p55.1)
  else mo_readAct_j191 x1 M20
theorem jM_37m {q : Nat} {x1 : Int} (hq : q < 21) (hx : x1 = ((4 * q : Nat) : Int)) (M : MEM) : mo_readAct_j37 x1 109 M = (mo_number 3 (up2 (up2 M 278 17 (wr (M 278 17 + 1))) 291 (4 * q) 109)).bind fun p => some (up2 p.2 291 (4 * q + 1) p.1) := by
  unfold mo_readAct_j37
  rw [Option.bind_some, if_pos (by omega), Option.bind_some, if_pos rfl, show x1.toNat = 4 * q by omega]
  congr 1; funext p
  rw [wr_i (x := x1 + 1) (by omega) (by omega), if_pos (by omega), show (x1 + 1).toNat = 4 * q + 1 by omega]
  rfl
theorem jM_37 {q : Nat} {x1 x2 : Int} (hq : q < 21) (hx : x1 = ((4 * q : Nat) : Int)) (h2 : x2 ≠ 109) (M : MEM) : mo_readAct_j37 x1 x2 M = (mo_number 1 (up2 (up2 M 278 17 (wr (M 278 17 + 1))) 291 (4 * q) x2)).bind fun p => jM_t x1 x2 q (up2 p.2 291 (4 * q + 1) p.1) := by
  unfold mo_readAct_j37
  rw [Option.bind_some, if_pos (by omega), Option.bind_some, if_neg h2, show x1.toNat = 4 * q by omega]
  congr 1; funext p
  rw [wr_i (x := x1 + 1) (by omega) (by omega), if_pos (by omega), show (x1 + 1).toNat = 4 * q + 1 by omega, Option.bind_some]
  unfold jM_t
  by_cases a : x2 = 99
  · rw [if_pos a, if_pos a]
  · rw [if_neg a, if_neg a]
    by_cases b : x2 = 115
    · rw [if_pos b, if_pos b]
      congr 1; funext r
      rw [wr_i (x := x1 + 3) (by omega) (by omega), if_pos (by omega), show (x1 + 3).toNat = 4 * q + 3 by omega]
      rfl
    · rw [if_neg b, if_neg b]
theorem jM_114e {q : Nat} {x1 s2 : Int} (hq : q < 21) (hx : x1 = ((4 * q : Nat) : Int)) (M : MEM) : mo_readAct_j114 x1 (wr (x1 + 3)) s2 M = if (mo_fine (up2 M 291 (4 * q + 3) s2)) = 0 then mo_readAct_j148 x1 (up2 M 291 (4 * q + 3) s2) else (mo_here (up2 M 291 (4 * q + 3) s2)).bind fun r42 => if r42 = 43 then mo_readAct_j148 x1 (up2 M 291 (4 * q + 3) s2) else (mo_here (up2 M 291 (4 * q + 3) s2)).bind fun r47 => if r47 = 45 then mo_readAct_j148 x1 (up2 M 291 (4 * q + 3) s2) else (mo_fault ((up2 M 291 (4 * q + 3) s2) 278 17) (up2 M 291 (4 * q + 3) s2)).bind fun M52 => mo_readAct_j148 x1 M52 := by
  unfold mo_readAct_j114
  rw [wr_i (x := x1 + 3) (by omega) (by omega), if_pos (by omega), show (x1 + 3).toNat = 4 * q + 3 by omega, Option.bind_some]
theorem jM_114f {z : Nat → Int} {L q f : Nat} {x1 s2 : Int} {M0 M : MEM} (hq : q < 21) (hx : x1 = ((4 * q : Nat) : Int)) (h : fltM f M) (o : onM q M0 M) : Tc (mo_readAct_j114 x1 (wr (x1 + 3)) s2 M) (goodM z L q M0 (.inl f)) := by
  rw [jM_114e hq hx]
  exact Tc_t h.up.fine (jM_148f hq hx h.up (o.tr (onM.up (by omega))))
theorem jM_148 {z : Nat → Int} {L q n : Nat} {x1 w s : Int} {M0 M : MEM} (hq : q < 21) (hx : x1 = ((4 * q : Nat) : Int)) (h : rdM z L n M) (hz : z n ≠ -1) (o : onM q M0 M) (m0 : M 291 (4 * q) = 99) (m1 : M 291 (4 * q + 1) = w) (m3 : M 291 (4 * q + 3) = s) : Tc (mo_readAct_j148 x1 M) (goodM z L q M0 (if dg (z (n + 1)) then .inr ((num z 2 (n + 1) 0).1, 99, w, s, (num z 2 (n + 1) 0).2) else .inl (n + 1))) := by
  have hn := h.2.2.2.2.1
  rw [jM_148e hq hx, h.2.2.1, wr_i (x := (n : Int) + 1) (by omega) (by omega)]
  have h1 := h.mv hz
  have o1 : ofM M (up2 M 278 17 ((n + 1 : Nat) : Int)) := ofM.up17
  rw [show ((n + 1 : Nat) : Int) = (n : Int) + 1 by omega] at h1 o1
  by_cases d : dg (z (n + 1))
  · rw [if_pos d]
    obtain ⟨M2, e2, h2, o2⟩ := moNumber_y (k := 1) h1 (by omega) d
    refine Tc_e e2 (Tc_some ⟨h2.up, ⟨?_, ?_, fun _ => rd_same, fun y => ?_⟩, o.tr (o1.on.tr (o2.on.tr (onM.up (by omega))))⟩)
    · dsimp only; rw [rd_k (by omega), o2.1 291 (by decide), o1.1 291 (by decide)]; exact m0
    · dsimp only; rw [rd_k (by omega), o2.1 291 (by decide), o1.1 291 (by decide), if_neg (by decide)]; exact m1
    · dsimp only; rw [rd_k (by omega), o2.1 291 (by decide), o1.1 291 (by decide)]; exact m3
  · rw [if_neg d]
    obtain ⟨M2, e2, f2, o2, -⟩ := moNumber_n (k := 1) h1 (by omega) d
    exact Tc_e e2 (Tc_some ⟨f2.up, o.tr (o1.on.tr (o2.on.tr (onM.up (by omega))))⟩)
/-- the kind and the DONKEY -/
theorem jM_w {z : Nat → Int} {L p q : Nat} {x1 x2 : Int} {M : MEM} {P : MEM → Prop} (hq : q < 21) (hx : x1 = ((4 * q : Nat) : Int)) (h : rdM z L p M) (hz : z p ≠ -1) (h2 : x2 ≠ 109)
    (k1 : dg (z (p + 1)) → ∀ N : MEM, rdM z L (p + 2) N → onM q M N → N 291 (4 * q) = x2 → N 291 (4 * q + 1) = z (p + 1) - 48 → Tc (jM_t x1 x2 q N) P)
    (k2 : ¬ dg (z (p + 1)) → ∀ N : MEM, fltM (p + 1) N → N 278 14 = 284 → N 278 15 ≤ 80 → 0 ≤ N 278 17 → onM q M N → Tc (jM_t x1 x2 q N) P) : Tc (mo_readAct_j37 x1 x2 M) P := by
  have hn := h.2.2.2.2.1
  rw [jM_37 hq hx h2, h.2.2.1, wr_i (x := (p : Int) + 1) (by omega) (by omega)]
  have h1 := h.mv hz
  have o1 : ofM M (up2 M 278 17 ((p + 1 : Nat) : Int)) := ofM.up17
  rw [show ((p + 1 : Nat) : Int) = (p : Int) + 1 by omega] at h1 o1
  have o1' : onM q M (up2 (up2 M 278 17 ((p : Int) + 1)) 291 (4 * q) x2) := o1.on.tr (onM.up (by omega))
  by_cases d : dg (z (p + 1))
  · obtain ⟨M2, e2, h2, o2⟩ := moNumber_y (k := 0) (h1.up (k := 4 * q) (x := x2)) (by omega) d
    rw [num_1 z 0 (p + 1) d] at e2 h2
    refine Tc_e e2 (k1 d _ h2.up (o1'.tr (o2.on.tr (onM.up (by omega)))) ?_ rd_same)
    dsimp only; rw [rd_k (by omega), o2.1 291 (by decide)]; exact rd_same
  · have h1' := h1.up (k := 4 * q) (x := x2)
    obtain ⟨M2, e2, f2, o2, e17⟩ := moNumber_n (k := 0) h1' (by omega) d
    have a14 := h1'.1
    have a15 := h1'.2.1
    have a15' := h.2.2.2.2.2.1
    refine Tc_e e2 (k2 d _ f2.up ?_ ?_ ?_ (o1'.tr (o2.on.tr (onM.up (by omega)))))
    · dsimp only; rw [rd_a (by decide), o2.2 14 (by decide) (by decide)]; exact a14
    · dsimp only; rw [rd_a (by decide), o2.2 15 (by decide) (by decide), a15]; omega
    · dsimp only; rw [rd_a (by decide), e17]; omega
theorem readActM {z : Nat → Int} {L p q : Nat} {x1 : Int} {M : MEM} (hq : q < 21) (hx : x1 = ((4 * q : Nat) : Int)) (h : rdM z L p M) : Tc (mo_readAct x1 M) (goodM z L q M (ract z p)) := by
  obtain ⟨r, e, s⟩ := h.here
  have hn := h.2.2.2.2.1
  unfold mo_readAct
  refine Tc_e e ?_
  by_cases a1 : z p = 109
  · have er : r = 109 := by unfold sq at s; omega
    refine Tc_t er ?_
    have h1 := h.mv (z := z) (p := p) (by omega)
    have o1 : ofM M (up2 M 278 17 ((p + 1 : Nat) : Int)) := ofM.up17
    rw [er, jM_37m hq hx, h.2.2.1, wr_i (x := (p : Int) + 1) (by omega) (by omega)]
    rw [show ((p + 1 : Nat) : Int) = (p : Int) + 1 by omega] at h1 o1
    unfold ract
    rw [if_pos a1]
    by_cases d : dg (z (p + 1))
    · rw [if_pos d]
      obtain ⟨M2, e2, h2, o2⟩ := moNumber_y (k := 2) (h1.up (k := 4 * q) (x := 109)) (by omega) d
      refine Tc_e e2 (Tc_some ⟨h2.up, ⟨?_, ?_, fun y => by omega, fun y => by omega⟩, o1.on.tr ((onM.up (by omega)).tr (o2.on.tr (onM.up (by omega))))⟩)
      · dsimp only; rw [rd_k (by omega), o2.1 291 (by decide)]; exact rd_same
      · rw [if_pos rfl]; exact rd_same
    · rw [if_neg d]
      obtain ⟨M2, e2, f2, o2, -⟩ := moNumber_n (k := 2) (h1.up (k := 4 * q) (x := 109)) (by omega) d
      exact Tc_e e2 (Tc_some ⟨f2.up, o1.on.tr ((onM.up (by omega)).tr (o2.on.tr (onM.up (by omega))))⟩)
  refine Tc_f (by unfold sq at s; omega) ?_
  by_cases a2 : z p = 99
  · have er : r = 99 := by unfold sq at s; omega
    refine Tc_t er ?_
    unfold ract
    rw [if_neg a1, if_pos a2, er]
    refine jM_w hq hx h (by omega) (by decide) (fun d N hN oN n0 n1 => ?_) (fun d N fN n14 n15 n17 oN => ?_)
    · rw [if_pos d]
      unfold jM_t
      rw [if_pos rfl]
      obtain ⟨r2, e2, s2⟩ := hN.here
      refine Tc_e e2 ?_
      have key : ∀ t : Int, (z (p + 2) = 43 ∨ z (p + 2) = 45 → t = if z (p + 2) = 43 then 1 else -1) → Tc (mo_readAct_j114 x1 (wr (x1 + 3)) t N) (goodM z L q M (if z (p + 2) = 43 ∨ z (p + 2) = 45 then if dg (z (p + 3)) then .inr ((num z 2 (p + 3) 0).1, 99, z (p + 1) - 48, if z (p + 2) = 43 then 1 else -1, (num z 2 (p + 3) 0).2) else .inl (p + 3) else .inl (p + 2))) := by
        intro t ht
        have hN' := hN.up (k := 4 * q + 3) (x := t)
        have oN' : onM q M (up2 N 291 (4 * q + 3) t) := oN.tr (onM.up (by omega))
        obtain ⟨r3, e3, s3⟩ := hN'.here
        rw [jM_114e hq hx]
        refine Tc_f (by rw [hN'.fine]; decide) ?_
        have go : z (p + 2) = 43 ∨ z (p + 2) = 45 → Tc (mo_readAct_j148 x1 (up2 N 291 (4 * q + 3) t)) (goodM z L q M (if z (p + 2) = 43 ∨ z (p + 2) = 45 then if dg (z (p + 3)) then .inr ((num z 2 (p + 3) 0).1, 99, z (p + 1) - 48, if z (p + 2) = 43 then 1 else -1, (num z 2 (p + 3) 0).2) else .inl (p + 3) else .inl (p + 2))) := by
          intro y
          rw [if_pos y]
          exact jM_148 hq hx hN' (by omega) oN' (by rw [rd_k (by omega)]; exact n0) (by rw [rd_k (by omega)]; exact n1) (by rw [rd_same]; exact ht y)
        refine Tc_e e3 (Tc_i (fun y => go (by unfold sq at s3; omega)) (fun y => Tc_e e3 (Tc_i (fun y' => go (by unfold sq at s3; omega)) (fun y' => ?_))))
        rw [if_neg (by unfold sq at s3; omega)]
        obtain ⟨M5, e5, f5, o5, -⟩ := hN'.fault
        exact Tc_e e5 (jM_148f hq hx f5 (oN'.tr o5.on))
      refine Tc_i (fun y => key (-1) (fun y' => ?_)) (fun y => key 1 (fun y' => ?_))
      · rw [if_neg (by unfold sq at s2; omega)]
      · rw [if_pos (by unfold sq at s2; omega)]
    · rw [if_neg d]
      unfold jM_t
      rw [if_pos rfl]
      obtain ⟨r2, e2⟩ := here_any n14 n15 n17
      exact Tc_e e2 (Tc_i (fun _ => jM_114f hq hx fN oN) (fun _ => jM_114f hq hx fN oN))
  refine Tc_f (by unfold sq at s; omega) ?_
  by_cases a3 : z p = 115
  · have er : r = 115 := by unfold sq at s; omega
    refine Tc_t er ?_
    unfold ract
    rw [if_neg a1, if_neg a2, if_pos a3, er]
    refine jM_w hq hx h (by omega) (by decide) (fun d N hN oN n0 n1 => ?_) (fun d N fN n14 n15 n17 oN => ?_)
    · rw [if_pos d]
      unfold jM_t
      rw [if_neg (by decide), if_pos rfl]
      by_cases d2 : dg (z (p + 2))
      · rw [if_pos d2]
        obtain ⟨M2, e2, h2, o2⟩ := moNumber_y (k := 1) hN (by omega) d2
        refine Tc_e e2 ?_
        exact jM_191 hq hx h2.up (oN.tr (o2.on.tr (onM.up (by omega)))) (by decide) (by dsimp only; rw [rd_k (by omega), o2.1 291 (by decide)]; exact n0) (by dsimp only; rw [rd_k (by omega), o2.1 291 (by decide)]; exact n1) (fun _ => rd_same)
      · rw [if_neg d2]
        obtain ⟨M2, e2, f2, o2, -⟩ := moNumber_n (k := 1) hN (by omega) d2
        exact Tc_e e2 (jM_191f hq hx f2.up (oN.tr (o2.on.tr (onM.up (by omega)))))
    · rw [if_neg d]
      unfold jM_t
      rw [if_neg (by decide), if_pos rfl, moNumber_f fN, Option.bind_some]
      exact jM_191f hq hx fN.up (oN.tr (onM.up (by omega)))
  refine Tc_f (by unfold sq at s; omega) ?_
  by_cases a4 : z p = 104
  · have er : r = 104 := by unfold sq at s; omega
    refine Tc_t er ?_
    unfold ract
    rw [if_neg a1, if_neg a2, if_neg a3, if_pos a4, er]
    refine jM_w hq hx h (by omega) (by decide) (fun d N hN oN n0 n1 => ?_) (fun d N fN n14 n15 n17 oN => ?_)
    · rw [if_pos d]
      unfold jM_t
      rw [if_neg (by decide), if_neg (by decide)]
      exact jM_191 hq hx hN oN (by decide) n0 n1 (fun y => by omega)
    · rw [if_neg d]
      unfold jM_t
      rw [if_neg (by decide), if_neg (by decide)]
      exact jM_191f hq hx fN oN
  refine Tc_f (by unfold sq at s; omega) ?_
  unfold ract
  rw [if_neg a1, if_neg a2, if_neg a3, if_neg a4]
  obtain ⟨M1, e1, f1, o1, -⟩ := h.fault
  refine Tc_e e1 ?_
  rw [jM_37 hq hx (by unfold sq at s; omega)]
  have f2 : fltM p (up2 (up2 M1 278 17 (wr (M1 278 17 + 1))) 291 (4 * q) r) := f1.up17.up
  rw [moNumber_f f2, Option.bind_some]
  unfold jM_t
  rw [if_neg (by unfold sq at s; omega), if_neg (by unfold sq at s; omega)]
  exact jM_191f hq hx f2.up (o1.on.tr (ofM.up17.on.tr ((onM.up (by omega)).tr (onM.up (by omega)))))
