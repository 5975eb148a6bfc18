-- ----- one ACT done, by both -----
theorem mrg_self (M : MEM) : mrg M M = M := by
  funext a
  by_cases e : a ≤ 277
  · rw [mrg_lo e]
  · rw [mrg_hi (by omega)]
theorem lock_mrg {B : Int} {M N : MEM} (h : Rel B (mrg M N)) (rl : rlOk N) (e21 : N 21 3 = M 21 3) (e22 : N 22 = M 22) : lock B M N := by
  obtain ⟨l1, l2, l3, l4, l5, l6⟩ := lock_of h chg.rf chg.rf (fun _ _ _ _ => rfl)
  rw [mrg_self] at l5 l6
  refine ⟨?_, rl, ?_, ?_, l5, l6⟩
  · unfold pOk howOk at *
    rw [mrg_lo (by decide), mrg_lo (by decide), mrg_lo (by decide), mrg_lo (by decide), mrg_lo (by decide)] at l1
    exact l1
  · unfold emOk howOkM at *
    rw [mrg_hi (by decide), mrg_hi (by decide)] at l3
    exact l3
  · have e1 : passE (mrg M N) = passE M := by
      unfold passE flC
      rw [plC_cg (c := 5) (M := M) (M' := mrg M N) (fun q hq => mrg_lo (by omega)), mrg_lo (by decide), mrg_lo (by decide), mrg_lo (by decide), mrg_lo (by decide)]
    have e2 : envM (mrg M N) = envM N := by
      unfold envM flM hrM hrF
      rw [mrg_hi (by decide), mrg_hi (by decide), mrg_hi (by decide), mrg_lo (by decide), mrg_lo (by decide), e21, e22]
    rw [← e1, l4, e2]
theorem lock.cg35 {B : Int} {M N N' : MEM} (h : lock B M N) (c : ∀ a, a ≠ 278 → N' a = N a) (c' : ∀ k, k ≠ 35 → N' 278 k = N 278 k) : lock B M N' := by
  obtain ⟨l1, l2, l3, l4, l5, l6⟩ := h
  have hs : ∀ a k, rg a k ≠ 0 → mrg M N' a k = mrg M N a k := fun a k hr => by
    by_cases e : a ≤ 277
    · rw [mrg_lo e, mrg_lo e]
    · rw [mrg_hi (by omega), mrg_hi (by omega)]
      by_cases e2 : a = 278
      · subst e2; exact c' k (fun y => hr (by subst y; rfl))
      · rw [c a e2]
  refine ⟨l1, l2.cg (fun a k hr => ?_), ?_, ?_, l5.cg l6.2.2.1 (fun a k hr => hs a k (by rcases hr with e | e <;> rw [e] <;> decide)), l6.cg (fun a k hr => hs a k (by rw [hr]; decide))⟩
  · by_cases e2 : a = 278
    · subst e2; exact c' k (fun y => by subst y; exact absurd hr (by decide))
    · rw [c a e2]
  · unfold emOk howOkM at *
    rw [c 282 (by decide), c' 4 (by decide), c' 7 (by decide), c' 8 (by decide)]
    exact l3
  · rw [l4]
    unfold envM flM hrM hrF
    rw [c 21 (by decide), c 22 (by decide), c 281 (by decide), c 282 (by decide), c' 5 (by decide), c' 4 (by decide), c' 7 (by decide), c' 8 (by decide)]
/-- all STROKES -/
def sS (M : MEM) : Int := sumN (fun d => M (10 + 3 * d) 5) (M 3 2).toNat
def dayC (M M' : MEM) : Prop := (∀ c, 25 ≤ c → M' c = M c) ∧ (∀ c, c = 1 ∨ c = 2 ∨ c = 19 ∨ c = 20 ∨ c = 22 → M' c = M c) ∧ M' 21 3 = M 21 3 ∧ M' 3 2 = M 3 2 ∧ chg [0, 4, 5] M M'
def dayM (N N' : MEM) : Prop := (∀ c, c ≠ 278 → c ≠ 279 → c ≠ 282 → c ≠ 287 → N' c = N c) ∧ (∀ k, k ≠ 7 → k ≠ 13 → k ≠ 35 → (k < 14 ∨ 28 < k ∨ (19 ≤ k ∧ k ≤ 21)) → N' 278 k = N 278 k) ∧ chg [0, 4, 5] N N'
theorem dayC.rf {M : MEM} : dayC M M := ⟨fun _ _ => rfl, fun _ _ => rfl, rfl, rfl, chg.rf⟩
theorem dayC.tr {M M1 M2 : MEM} (h : dayC M M1) (g : dayC M1 M2) : dayC M M2 := ⟨fun c a => (g.1 c a).trans (h.1 c a), fun c a => (g.2.1 c a).trans (h.2.1 c a), g.2.2.1.trans h.2.2.1, g.2.2.2.1.trans h.2.2.2.1, h.2.2.2.2.tr g.2.2.2.2⟩
theorem dayM.rf {M : MEM} : dayM M M := ⟨fun _ _ _ _ _ => rfl, fun _ _ _ _ _ => rfl, chg.rf⟩
theorem dayM.tr {M M1 M2 : MEM} (h : dayM M M1) (g : dayM M1 M2) : dayM M M2 := ⟨fun c a b d e => (g.1 c a b d e).trans (h.1 c a b d e), fun k a b d e => (g.2.1 k a b d e).trans (h.2.1 k a b d e), h.2.2.tr g.2.2⟩
theorem dayC.up {M : MEM} {c k : Nat} {x : Int} (hc : (5 ≤ c ∧ c ≤ 9) ∨ (10 ≤ c ∧ c ≤ 18 ∧ k ≠ 2)) (hr : rg c k ∈ [0, 4, 5]) : dayC M (up2 M c k x) := ⟨fun c' a => up2_ne (by omega), fun c' a => up2_ne (by omega), rd_a (by omega), rd_a (by omega), chg.up hr chg.rf⟩
theorem dayC.u5 {M : MEM} {c k : Nat} {x : Int} (hc : c = 6 ∨ c = 7 ∨ c = 8 ∨ c = 9) : dayC M (up2 M c k x) := dayC.up (by omega) (by rcases hc with rfl | rfl | rfl | rfl <;> exact (by decide : (5 : Nat) ∈ [0, 4, 5]))
/-- what o gives, if it gives anything -/
def Pc {α : Type} (o : Option α) (P : α → Prop) : Prop := ∀ a, o = some a → P a
theorem Pc_i {α : Type} {c : Prop} [Decidable c] {a b : Option α} {P : α → Prop} (h1 : c → Pc a P) (h2 : ¬ c → Pc b P) : Pc (if c then a else b) P := by
  by_cases h : c
  · rw [if_pos h]; exact h1 h
  · rw [if_neg h]; exact h2 h
theorem Pc_s {α : Type} {a : α} {P : α → Prop} (h : P a) : Pc (some a) P := fun b e => by injection e with e; rw [← e]; exact h
theorem Pc_0 {α : Type} {P : α → Prop} : Pc (none : Option α) P := fun b e => by cases e
theorem Pc_b {α β : Type} {o : Option β} {f : β → Option α} {P : α → Prop} (h : ∀ b, o = some b → Pc (f b) P) : Pc (o.bind f) P := by
  cases o with
  | none => exact Pc_0
  | some b => exact h b rfl
theorem carrotC {x1 x2 x3 x4 : Int} {M : MEM} : Pc (dh_carrot x1 x2 x3 x4 M) (fun r => dayC M r.2 ∧ sS r.2 = sS M) := by
  unfold dh_carrot
  have id : dayC M M ∧ sS M = sS M := ⟨dayC.rf, rfl⟩
  have key : Pc (ca_add 5 x1 x2 x3 x4 M) (fun r => dayC M r.2 ∧ sS r.2 = sS M) := by
    unfold ca_add
    refine Pc_i (fun _ => Pc_s id) (fun _ => Pc_i (fun _ => Pc_i (fun _ => Pc_b (fun M3 h3 => ?_)) (fun _ => Pc_0)) (fun _ => Pc_s id))
    injection h3 with h3
    refine Pc_i (fun _ => Pc_b (fun M5 h5 => ?_)) (fun _ => Pc_0)
    injection h5 with h5
    refine Pc_i (fun _ => Pc_b (fun M7 h7 => ?_)) (fun _ => Pc_0)
    injection h7 with h7
    refine Pc_i (fun _ => Pc_b (fun M9 h9 => Pc_b (fun M11 h11 => Pc_s ?_))) (fun _ => Pc_0)
    injection h9 with h9
    injection h11 with h11
    dsimp only
    refine ⟨?_, ?_⟩
    · rw [← h11, ← h9, ← h7, ← h5, ← h3]
      exact (dayC.u5 (by omega)).tr ((dayC.u5 (by omega)).tr ((dayC.u5 (by omega)).tr ((dayC.u5 (by omega)).tr (dayC.up (by omega) (by decide)))))
    · have e : ∀ c, (c = 3 ∨ 10 ≤ c) → M11 c = M c := fun c hc => by
        rw [← h11, ← h9, ← h7, ← h5, ← h3, up2_ne (by omega), up2_ne (by omega), up2_ne (by omega), up2_ne (by omega), up2_ne (by omega)]
      unfold sS
      rw [e 3 (by omega)]
      exact sumN_congr (fun d hd => by rw [e _ (by omega)])
  refine Pc_i (fun _ => Pc_s id) (fun _ => Pc_i (fun _ => Pc_s id) (fun _ => Pc_i (fun _ => Pc_s id) (fun _ => Pc_i (fun _ => Pc_s id) (fun _ => Pc_i (fun _ => Pc_b (fun p hp => ?_)) (fun _ => Pc_s id)))))
  exact Pc_i (fun _ => Pc_s (key p hp)) (fun _ => Pc_s (key p hp))
theorem sS_up {M : MEM} {c k : Nat} {x : Int} (h : c ≠ 3) (h2 : k ≠ 5 ∨ c = 11 ∨ c = 14 ∨ c = 17 ∨ c < 10) : sS (up2 M c k x) = sS M := by
  unfold sS
  rw [rd_a (a' := 3) (by omega)]
  refine sumN_congr (fun d hd => ?_)
  by_cases e : k = 5
  · rw [rd_a (by omega)]
  · rw [rd_k (by omega)]
theorem sowC {x1 x2 x3 : Int} {M : MEM} : Pc (dh_sow x1 x2 x3 M) (fun r => dayC M r.2 ∧ sS r.2 = sS M) := by
  unfold dh_sow
  have id : dayC M M ∧ sS M = sS M := ⟨dayC.rf, rfl⟩
  refine Pc_b (fun r _ => Pc_i (fun _ => Pc_s id) (fun _ => Pc_i (fun _ => Pc_s id) (fun _ => Pc_i (fun _ => Pc_i (fun h => Pc_b (fun _ _ => Pc_b (fun M14 h14 => Pc_s ?_))) (fun _ => Pc_0)) (fun _ => Pc_s id))))
  have key : Pc (be_put (10 + 3 * x1.toNat) x2 x3 M) (fun r => dayC M r ∧ sS r = sS M) := by
    unfold be_put
    refine Pc_i (fun _ => Pc_s id) (fun _ => Pc_i (fun _ => Pc_s id) (fun _ => Pc_i (fun _ => Pc_b (fun M3 h3 => Pc_s ?_)) (fun _ => Pc_0)))
    injection h3 with h3
    rw [← h3]
    have : x1.toNat = 0 ∨ x1.toNat = 1 ∨ x1.toNat = 2 := by omega
    refine ⟨⟨fun c' a => up2_ne (by omega), fun c' a => up2_ne (by omega), rd_a (by omega), rd_a (by omega), chg.up ?_ chg.rf⟩, sS_up (by omega) (by omega)⟩
    rcases this with e | e | e <;> rw [e] <;> exact (by decide : (4 : Nat) ∈ [0, 4, 5])
  exact key _ h14
theorem setHC {x1 x2 : Int} {M : MEM} : Pc (dh_setHunger x1 x2 M) (fun r => dayC M r.2 ∧ sS r.2 = sS M) := by
  unfold dh_setHunger
  have id : dayC M M ∧ sS M = sS M := ⟨dayC.rf, rfl⟩
  refine Pc_i (fun _ => Pc_s id) (fun _ => Pc_i (fun _ => Pc_s id) (fun _ => Pc_i (fun _ => Pc_i (fun h => Pc_b (fun M8 h8 => Pc_s ?_)) (fun _ => Pc_0)) (fun _ => Pc_s id)))
  injection h8 with h8
  dsimp only
  rw [← h8]
  have : x1.toNat = 0 ∨ x1.toNat = 1 ∨ x1.toNat = 2 := by omega
  refine ⟨dayC.up (by omega) ?_, sS_up (by omega) (by omega)⟩
  rcases this with e | e | e <;> rw [e] <;> decide
