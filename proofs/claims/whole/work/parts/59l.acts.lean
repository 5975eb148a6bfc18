-- ===== an ACT as told, read by both =====
/-- an ACT told from p on: where it can't go on, or its end, kind, whose, how or place, value -/
noncomputable def ract (z : Nat → Int) (p : Nat) : Nat ⊕ (Nat × Int × Int × Int × Int) :=
  if z p = 109 then
    if dg (z (p + 1)) then .inr ((num z 3 (p + 1) 0).1, 109, 0, 0, (num z 3 (p + 1) 0).2) else .inl (p + 1)
  else if z p = 99 then
    if dg (z (p + 1)) then
      if z (p + 2) = 43 ∨ z (p + 2) = 45 then
        if dg (z (p + 3)) then .inr ((num z 2 (p + 3) 0).1, 99, z (p + 1) - 48, if z (p + 2) = 43 then 1 else -1, (num z 2 (p + 3) 0).2) else .inl (p + 3)
      else .inl (p + 2)
    else .inl (p + 1)
  else if z p = 115 then
    if dg (z (p + 1)) then
      if dg (z (p + 2)) then
        if z ((num z 2 (p + 2) 0).1) = 61 then
          if dg (z ((num z 2 (p + 2) 0).1 + 1)) then .inr ((num z 2 (p + 2) 0).1 + 2, 115, z (p + 1) - 48, (num z 2 (p + 2) 0).2, z ((num z 2 (p + 2) 0).1 + 1) - 48) else .inl ((num z 2 (p + 2) 0).1 + 1)
        else .inl (num z 2 (p + 2) 0).1
      else .inl (p + 2)
    else .inl (p + 1)
  else if z p = 104 then
    if dg (z (p + 1)) then
      if z (p + 2) = 61 then
        if dg (z (p + 3)) then .inr (p + 4, 104, z (p + 1) - 48, 0, z (p + 3) - 48) else .inl (p + 3)
      else .inl (p + 2)
    else .inl (p + 1)
  else .inl p
-- ----- the class -----
def onA (q : Nat) (M M' : MEM) : Prop := (∀ c, c ≠ 1 → ¬ (30 ≤ c ∧ c ≤ 33) → M' c = M c) ∧ (∀ k, k ≠ 2 → M' 1 k = M 1 k) ∧ ∀ c k, 30 ≤ c ∧ c ≤ 33 → k ≠ q → M' c k = M c k
theorem onA.tr {q : Nat} {M M1 M2 : MEM} (h : onA q M M1) (g : onA q M1 M2) : onA q M M2 := ⟨fun c a b => (g.1 c a b).trans (h.1 c a b), fun k a => (g.2.1 k a).trans (h.2.1 k a), fun c k a b => (g.2.2 c k a b).trans (h.2.2 c k a b)⟩
theorem ofR.on {q : Nat} {M M' : MEM} (h : ofR M M') : onA q M M' := ⟨fun c a _ => h.1 c a, h.2, fun c k a _ => by rw [h.1 c (by omega)]⟩
theorem onA.up {q c : Nat} {M : MEM} {x : Int} (hc : 30 ≤ c ∧ c ≤ 33) : onA q M (up2 M c q x) := ⟨fun d a b => up2_ne (by omega), fun k a => rd_a (by omega), fun d k a b => rd_k b⟩
theorem rdC.up {z : Nat → Int} {L p q c : Nat} {M : MEM} {x : Int} (h : rdC z L p M) (hc : 30 ≤ c ∧ c ≤ 33) : rdC z L p (up2 M c q x) := h.off (up2_ne (by omega)) (up2_ne (by omega))
/-- the four numbers of an ACT -/
def inA (q : Nat) (k w h v : Int) (M : MEM) : Prop := M 30 q = k ∧ M 31 q = w ∧ M 32 q = h ∧ M 33 q = v
def goodC (z : Nat → Int) (L q : Nat) (M : MEM) : Nat ⊕ (Nat × Int × Int × Int × Int) → Int × MEM → Prop
  | .inl f, r => r.1 = 0 ∧ rdC z L f r.2 ∧ onA q M r.2
  | .inr (e, k, w, h, v), r => r.1 = 1 ∧ rdC z L e r.2 ∧ inA q k w h v r.2 ∧ onA q M r.2
theorem rA_151 {q : Nat} (hq : q < 20) (s2 : Int) (M : MEM) : ac_readAct_j151 q q s2 M = some (if s2 < 0 then 0 else 1, up2 M 33 q s2) := by
  unfold ac_readAct_j151
  rw [if_pos (by omega), Option.bind_some, if_pos (by omega), toNat_c, rd_same]
  by_cases h : s2 < 0
  · rw [if_pos h, if_pos h]
  · rw [if_neg h, if_neg h]
theorem rA_100b {q : Nat} (hq : q < 20) (x3 : Int) (M : MEM) : ac_readAct_j100 q x3 q (-2) M = some (0, up2 M 32 q (-2)) := by
  unfold ac_readAct_j100
  rw [if_pos (by omega), Option.bind_some, if_pos (by omega), toNat_c, rd_same, if_pos rfl]
theorem rA_100 {q : Nat} (hq : q < 20) (x3 : Int) {s2 : Int} (h2 : s2 ≠ -2) (M : MEM) : ac_readAct_j100 q x3 q s2 M = (if x3 = 109 then tx_number 3 (up2 M 32 q s2) else if x3 = 99 then tx_number 2 (up2 M 32 q s2) else tx_digit (up2 M 32 q s2)).bind fun p => some (if p.1 < 0 then 0 else 1, up2 p.2 33 q p.1) := by
  unfold ac_readAct_j100
  rw [if_pos (by omega), Option.bind_some, if_pos (by omega), toNat_c, rd_same, if_neg h2]
  by_cases a : x3 = 109
  · rw [if_pos a, if_pos a]; congr 1; funext p; exact rA_151 hq _ _
  · rw [if_neg a, if_neg a]
    by_cases b : x3 = 99
    · rw [if_pos b, if_pos b]; congr 1; funext p; exact rA_151 hq _ _
    · rw [if_neg b, if_neg b]; congr 1; funext p; exact rA_151 hq _ _
theorem rA_75 {q : Nat} (hq : q < 20) (x3 : Int) {s2 : Int} (M : MEM) : ac_readAct_j75 q x3 q s2 M = if 0 ≤ s2 then (ac_readBetween x3 (up2 M 31 q s2)).bind fun p => ac_readAct_j100 q x3 q p.1 p.2 else ac_readAct_j100 q x3 q (-2) (up2 M 31 q s2) := by
  unfold ac_readAct_j75
  rw [if_pos (by omega), Option.bind_some, if_pos (by omega), toNat_c, rd_same]
theorem rA_end {z : Nat → Int} {L p q : Nat} {k w h v : Int} {M0 M M5 : MEM} (hq : q < 20) (hv : 0 ≤ v) (m1 : M 30 q = k) (m2 : M 31 q = w) (o0 : onA q M0 M) (g : rdC z L p M5) (o : ofR (up2 M 32 q h) M5) : goodC z L q M0 (.inr (p, k, w, h, v)) (if v < 0 then 0 else 1, up2 M5 33 q v) := by
  refine ⟨(by dsimp only; rw [if_neg (by omega)]), g.up (by omega), ⟨?_, ?_, ?_, rd_same⟩, o0.tr ((onA.up (c := 32) (x := h) (by omega)).tr (o.on.tr (onA.up (by omega))))⟩
  · dsimp only; rw [up2_ne (by decide), o.1 30 (by decide), up2_ne (by decide)]; exact m1
  · dsimp only; rw [up2_ne (by decide), o.1 31 (by decide), up2_ne (by decide)]; exact m2
  · dsimp only; rw [up2_ne (by decide), o.1 32 (by decide)]; exact rd_same
theorem rA_bad {z : Nat → Int} {L p q : Nat} {h : Int} {M0 M M5 : MEM} (o0 : onA q M0 M) (g : rdC z L p M5) (o : ofR (up2 M 32 q h) M5) : goodC z L q M0 (.inl p) (if (-1 : Int) < 0 then 0 else 1, up2 M5 33 q (-1)) :=
  ⟨rfl, g.up (by omega), o0.tr ((onA.up (c := 32) (x := h) (by omega)).tr (o.on.tr (onA.up (by omega))))⟩
theorem rA_bad2 {z : Nat → Int} {L p q : Nat} {M0 M : MEM} (o0 : onA q M0 M) (g : rdC z L p M) : goodC z L q M0 (.inl p) (0, up2 M 32 q (-2)) :=
  ⟨rfl, g.up (by omega), o0.tr (onA.up (by omega))⟩
theorem rA_43m {z : Nat → Int} {L p q : Nat} {M : MEM} (hq : q < 20) (h : rdC z L p M) (hz : z p = 109) {r : Int} (hr : tx_next M = some r) (e : r = 109) : Tc (ac_readAct_j43 q r M) (goodC z L q M (ract z p)) := by
  obtain ⟨M1, e1, h1, o1⟩ := takes_same h (by omega) hr
  unfold ac_readAct_j43
  refine Tc_e e1 ?_
  dsimp only
  refine Tc_t (by omega) (Tc_u (Tc_t e ?_))
  rw [toNat_c, e, rA_75 hq, if_pos (by decide)]
  unfold ac_readBetween
  rw [if_neg (by decide), if_neg (by decide), if_neg (by decide), Option.bind_some]
  dsimp only
  rw [rA_100 hq _ (by decide), if_pos rfl]
  have h3 : rdC z L (p + 1) (up2 (up2 (up2 M1 30 q 109) 31 q 0) 32 q 0) := ((h1.up (by omega)).up (by omega)).up (by omega)
  have o3 : onA q M (up2 (up2 M1 30 q 109) 31 q 0) := o1.on.tr ((onA.up (by omega)).tr (onA.up (by omega)))
  unfold ract
  rw [if_pos hz]
  by_cases d : dg (z (p + 1))
  · rw [if_pos d]
    obtain ⟨M5, e5, h5, o5⟩ := number_y (k := 2) h3 (by omega) d
    refine Tc_e e5 (Tc_some ?_)
    exact rA_end hq (num_bd z 3 (p + 1) 0 (by omega)).2.2 (by rw [up2_ne (by decide)]; exact rd_same) rd_same o3 h5 o5
  · rw [if_neg d]
    refine Tc_e (number_n h3 d) (Tc_some ?_)
    exact rA_bad o3 h3 ofR.rf
/-- the DONKEY of an ACT -/
theorem rA_43 {z : Nat → Int} {L p q : Nat} {M : MEM} {P : Int × MEM → Prop} (hq : q < 20) (h : rdC z L p M) (hz : z p ≠ -1) {r : Int} (hr : tx_next M = some r) (e : r ≠ 109)
    (k1 : dg (z (p + 1)) → ∀ M3 : MEM, rdC z L (p + 2) M3 → onA q M M3 → M3 30 q = r → M3 31 q = z (p + 1) - 48 → Tc ((ac_readBetween r M3).bind fun p => ac_readAct_j100 q r q p.1 p.2) P)
    (k2 : ¬ dg (z (p + 1)) → ∀ M3 : MEM, rdC z L (p + 1) M3 → onA q M M3 → P (0, up2 M3 32 q (-2))) : Tc (ac_readAct_j43 q r M) P := by
  obtain ⟨M1, e1, h1, o1⟩ := takes_same h hz hr
  unfold ac_readAct_j43
  refine Tc_e e1 ?_
  dsimp only
  refine Tc_t (by omega) (Tc_u (Tc_f e ?_))
  rw [toNat_c]
  have h2 : rdC z L (p + 1) (up2 M1 30 q r) := h1.up (by omega)
  have o2 : onA q M (up2 M1 30 q r) := o1.on.tr (onA.up (by omega))
  by_cases d : dg (z (p + 1))
  · obtain ⟨M2, e2, h2', o2'⟩ := dig_y h2 d
    refine Tc_e e2 ?_
    dsimp only
    rw [rA_75 hq, if_pos (by omega)]
    exact k1 d _ (h2'.up (by omega)) (o2.tr (o2'.on.tr (onA.up (by omega)))) (by rw [up2_ne (by decide), o2'.1 30 (by decide)]; exact rd_same) rd_same
  · refine Tc_e (dig_n h2 d) ?_
    dsimp only
    rw [rA_75 hq, if_neg (by omega), rA_100b hq]
    exact Tc_some (k2 d _ (h2.up (by omega)) (o2.tr (onA.up (by omega))))
theorem rA_43c {z : Nat → Int} {L p q : Nat} {M : MEM} (hq : q < 20) (h : rdC z L p M) (hz : z p = 99) {r : Int} (hr : tx_next M = some r) (e : r = 99) : Tc (ac_readAct_j43 q r M) (goodC z L q M (ract z p)) := by
  unfold ract
  rw [if_neg (by omega), if_pos hz]
  refine rA_43 hq h (by omega) hr (by omega) (fun d M3 h3 o3 m1 m2 => ?_) (fun d M3 h3 o3 => ?_)
  · rw [if_pos d, e]
    have fin : ∀ (M4 : MEM) (s : Int), s ≠ -2 → rdC z L (p + 3) M4 → ofR M3 M4 → Tc (ac_readAct_j100 q 99 q s M4) (goodC z L q M (if dg (z (p + 3)) then .inr ((num z 2 (p + 3) 0).1, 99, z (p + 1) - 48, s, (num z 2 (p + 3) 0).2) else .inl (p + 3))) := by
      intro M4 s hs h4 o4
      rw [rA_100 hq _ hs, if_neg (by decide), if_pos rfl]
      have h5 : rdC z L (p + 3) (up2 M4 32 q s) := h4.up (by omega)
      by_cases d3 : dg (z (p + 3))
      · rw [if_pos d3]
        obtain ⟨M5, e5, h5', o5⟩ := number_y (k := 1) h5 (by omega) d3
        refine Tc_e e5 (Tc_some ?_)
        exact rA_end hq (num_bd z 2 (p + 3) 0 (by omega)).2.2 (by rw [o4.1 30 (by decide), m1, e]) (by rw [o4.1 31 (by decide), m2]) (o3.tr o4.on) h5' o5
      · rw [if_neg d3]
        refine Tc_e (number_n h5 d3) (Tc_some ?_)
        exact rA_bad (o3.tr o4.on) h5 ofR.rf
    unfold ac_readBetween
    rw [if_pos rfl]
    by_cases a : z (p + 2) = 43
    · rw [if_pos (Or.inl a), if_pos a]
      obtain ⟨M4, e4, h4, o4⟩ := takes_y h3 (c := 43) (by omega) (by omega) a
      rw [e4, Option.bind_some]
      dsimp only
      rw [if_neg (by decide), Option.bind_some]
      exact fin M4 1 (by decide) h4 o4
    · rw [takes_n h3 (c := 43) (by omega) (by omega) a, Option.bind_some]
      dsimp only
      rw [if_pos rfl]
      by_cases b : z (p + 2) = 45
      · rw [if_pos (Or.inr b), if_neg a]
        obtain ⟨M4, e4, h4, o4⟩ := takes_y h3 (c := 45) (by omega) (by omega) b
        rw [e4, Option.bind_some]
        dsimp only
        rw [if_neg (by decide), Option.bind_some]
        exact fin M4 (-1) (by decide) h4 o4
      · rw [if_neg (by omega), takes_n h3 (c := 45) (by omega) (by omega) b, Option.bind_some]
        dsimp only
        rw [if_pos rfl, Option.bind_some]
        dsimp only
        rw [rA_100b hq]
        exact Tc_some (rA_bad2 o3 h3)
  · rw [if_neg d]
    exact rA_bad2 o3 h3
/-- the last digit of an ACT -/
theorem rA_dig {z : Nat → Int} {L p q : Nat} {M M3 M4 : MEM} {k w s : Int} {e' : Nat} (hq : q < 20) (k1 : k ≠ 109) (k2 : k ≠ 99) (hs : s ≠ -2) (h4 : rdC z L p M4) (o3 : onA q M M3) (m1 : M3 30 q = k) (m2 : M3 31 q = w) (o4 : ofR M3 M4) (he : e' = p + 1) : Tc (ac_readAct_j100 q k q s M4) (goodC z L q M (if dg (z p) then .inr (e', k, w, s, z p - 48) else .inl p)) := by
  rw [rA_100 hq _ hs, if_neg k1, if_neg k2, he]
  have h5 : rdC z L p (up2 M4 32 q s) := h4.up (by omega)
  by_cases d3 : dg (z p)
  · rw [if_pos d3]
    obtain ⟨M5, e5, h5', o5⟩ := dig_y h5 d3
    refine Tc_e e5 (Tc_some ?_)
    exact rA_end hq (by omega) (by rw [o4.1 30 (by decide), m1]) (by rw [o4.1 31 (by decide), m2]) (o3.tr o4.on) h5' o5
  · rw [if_neg d3]
    refine Tc_e (dig_n h5 d3) (Tc_some ?_)
    exact rA_bad (o3.tr o4.on) h5 ofR.rf
theorem rA_43h {z : Nat → Int} {L p q : Nat} {M : MEM} (hq : q < 20) (h : rdC z L p M) (hz : z p = 104) {r : Int} (hr : tx_next M = some r) (e : r = 104) : Tc (ac_readAct_j43 q r M) (goodC z L q M (ract z p)) := by
  unfold ract
  rw [if_neg (by omega), if_neg (by omega), if_neg (by omega), if_pos hz]
  refine rA_43 hq h (by omega) hr (by omega) (fun d M3 h3 o3 m1 m2 => ?_) (fun d M3 h3 o3 => ?_)
  · rw [if_pos d, e]
    unfold ac_readBetween
    rw [if_neg (by decide), if_pos rfl]
    by_cases a : z (p + 2) = 61
    · rw [if_pos a]
      obtain ⟨M4, e4, h4, o4⟩ := takes_y h3 (c := 61) (by omega) (by omega) a
      rw [e4, Option.bind_some]
      dsimp only
      rw [if_neg (by decide), Option.bind_some]
      exact rA_dig hq (by decide) (by decide) (by show (0 : Int) ≠ -2; decide) h4 o3 (m1.trans e) m2 o4 rfl
    · rw [if_neg a, takes_n h3 (c := 61) (by omega) (by omega) a, Option.bind_some]
      dsimp only
      rw [if_pos rfl, Option.bind_some]
      dsimp only
      rw [rA_100b hq]
      exact Tc_some (rA_bad2 o3 h3)
  · rw [if_neg d]
    exact rA_bad2 o3 h3
theorem rA_43s {z : Nat → Int} {L p q : Nat} {M : MEM} (hq : q < 20) (h : rdC z L p M) (hz : z p = 115) {r : Int} (hr : tx_next M = some r) (e : r = 115) : Tc (ac_readAct_j43 q r M) (goodC z L q M (ract z p)) := by
  unfold ract
  rw [if_neg (by omega), if_neg (by omega), if_pos hz]
  refine rA_43 hq h (by omega) hr (by omega) (fun d M3 h3 o3 m1 m2 => ?_) (fun d M3 h3 o3 => ?_)
  · rw [if_pos d, e]
    unfold ac_readBetween
    rw [if_neg (by decide), if_neg (by decide), if_pos rfl]
    by_cases d2 : dg (z (p + 2))
    · rw [if_pos d2]
      obtain ⟨M4, e4, h4, o4⟩ := number_y (k := 1) h3 (by omega) d2
      have hb : 0 ≤ (num z (1 + 1) (p + 2) 0).2 := (num_bd z 2 (p + 2) 0 (by omega)).2.2
      rw [show ((1 + 1 : Nat) : Int) = 2 by rfl] at e4
      rw [e4, Option.bind_some]
      dsimp only
      rw [if_neg (by omega)]
      by_cases a : z ((num z 2 (p + 2) 0).1) = 61
      · rw [if_pos a]
        obtain ⟨M6, e6, h6, o6⟩ := takes_y h4 (c := 61) (by omega) (by omega) a
        rw [e6, Option.bind_some]
        dsimp only
        rw [if_neg (by decide), Option.bind_some]
        exact rA_dig hq (by decide) (by decide) (by show (num z (1 + 1) (p + 2) 0).2 ≠ -2; omega) h6 o3 (m1.trans e) m2 (o4.tr o6) rfl
      · rw [if_neg a, takes_n h4 (c := 61) (by omega) (by omega) a, Option.bind_some]
        dsimp only
        rw [if_pos rfl, Option.bind_some]
        dsimp only
        rw [rA_100b hq]
        exact Tc_some (rA_bad2 (o3.tr o4.on) h4)
    · rw [if_neg d2, number_n h3 d2, Option.bind_some]
      dsimp only
      rw [if_pos (by decide), Option.bind_some]
      dsimp only
      rw [rA_100b hq]
      exact Tc_some (rA_bad2 o3 h3)
  · rw [if_neg d]
    exact rA_bad2 o3 h3
theorem readActC {z : Nat → Int} {L p q : Nat} {M : MEM} (hq : q < 20) (h : rdC z L p M) : Tc (ac_readAct q M) (goodC z L q M (ract z p)) := by
  obtain ⟨r, e, s, -⟩ := h.next
  unfold ac_readAct
  refine Tc_f (by omega) (Tc_t (by omega) (Tc_e e ?_))
  by_cases a1 : z p = 109
  · exact Tc_t (by unfold sq at s; omega) (rA_43m hq h a1 e (by unfold sq at s; omega))
  by_cases a2 : z p = 99
  · exact Tc_f (by unfold sq at s; omega) (Tc_t (by unfold sq at s; omega) (rA_43c hq h a2 e (by unfold sq at s; omega)))
  by_cases a3 : z p = 115
  · exact Tc_f (by unfold sq at s; omega) (Tc_f (by unfold sq at s; omega) (Tc_t (by unfold sq at s; omega) (rA_43s hq h a3 e (by unfold sq at s; omega))))
  by_cases a4 : z p = 104
  · exact Tc_f (by unfold sq at s; omega) (Tc_f (by unfold sq at s; omega) (Tc_f (by unfold sq at s; omega) (Tc_t (by unfold sq at s; omega) (rA_43h hq h a4 e (by unfold sq at s; omega)))))
  · refine Tc_f (by unfold sq at s; omega) (Tc_f (by unfold sq at s; omega) (Tc_f (by unfold sq at s; omega) (Tc_f (by unfold sq at s; omega) (Tc_some ?_))))
    unfold ract
    rw [if_neg a1, if_neg a2, if_neg a3, if_neg a4]
    exact ⟨rfl, h, ofR.rf.on⟩
