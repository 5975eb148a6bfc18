theorem day_run {B : Int} {M Mr M18 N N1 : MEM} {n : Nat} {r14 : Int} (h : Rel B M) (hB0 : 0 ≤ B) (hB : B ≤ 99900000) (hn : n ≤ 20) (hw : ∀ j, j < n → ∃ e k w h v, ract (zT 60 M) (aP (zT 60 M) j) = .inr (e, k, w, h, v))
    (fr1 : ∀ c, c ≠ 1 → ¬ (29 ≤ c ∧ c ≤ 33) → Mr c = M c) (m29 : Mr 29 4 = (n : Int)) (dC : datC (zT 60 M) n Mr)
    (hp : ∀ c, (c < usc M (M 45 2).toNat ∨ usc M (M 45 2).toNat + 16 ≤ c) → M18 c = up2 Mr 1 1 0 c)
    (Nhi : ∀ c, 277 < c → N c = M c) (N3r : ∀ a k, rg a k = 3 → N a k = M a k) (f : frT N N1) (dM : datM (zT 60 M) n N1) :
    ∃ (N3 : MEM) (c : Nat) (M' N' : MEM), mo_layAside 1 N1 = some N3 ∧ ((∀ c, c ≠ 289 → N3 c = N1 c) ∧ (∀ i, i < 166 → N3 289 i = N1 279 i) ∧ N3 289 166 = N1 278 7 ∧ (∀ i, i < 40 → N3 289 (167 + i) = N1 282 i) ∧ N3 289 207 = 1) ∧
      iter (fun s => dh_day_b65 r14 s.1 s.2) FU (0, M18) = some ((c : Int), M') ∧ iter (fun s => mo_day_b115 (n : Int) s.1 s.2) FU (0, up2 N3 278 35 0) = some ((c : Int), N') ∧
      c ≤ n ∧ Rel (B + 12000) (mrg M' N') ∧ dayC M18 M' ∧ dayM (up2 N3 278 35 0) N' ∧ N' 278 35 = sS M' - sS M18 := by
  obtain ⟨N3, e3, a1, a2, a3, a4, a5⟩ := aside_eq (N := N1) (wc := 1) (Or.inr rfl)
  obtain ⟨u1, u2, u3, u4, u5, u6⟩ := h.U
  obtain ⟨s1, s2, s3, -⟩ := h.S
  have hu := usc_in (i := (M 45 2).toNat) u1 u2 (by omega)
  have lo : ∀ c, c ≠ 1 → ¬ (29 ≤ c ∧ c ≤ 33) → (c < 47 ∨ 222 < c) → M18 c = M c := fun c x y w => by rw [hp c (by omega), up2_ne x, fr1 c x y]
  have lo2 : ∀ c, 29 ≤ c ∧ c ≤ 33 → M18 c = Mr c := fun c x => by rw [hp c (by omega), up2_ne (by omega)]
  have hi : ∀ c, 277 < c → c ≠ 278 → c ≠ 289 → c ≠ 291 → up2 N3 278 35 0 c = M c := fun c x y w v => by rw [up2_ne y, a1 c w, f.1 c y v, Nhi c x]
  have hi2 : ∀ k, k ≠ 10 → k ≠ 13 → ¬ (14 ≤ k ∧ k ≤ 18) → k ≠ 35 → up2 N3 278 35 0 278 k = M 278 k := fun k x y w v => by rw [rd_k v, a1 278 (by decide), f.2.1 k x y w, Nhi 278 (by decide)]
  have cc : chg [0, 1, 8] M (mrg M18 (up2 N3 278 35 0)) := fun a k nn => by
    by_cases g : a ≤ 277
    · rw [mrg_lo g]
      by_cases q1 : a = 1
      · subst q1
        refine absurd ?_ nn
        by_cases z : k = 1
        · subst z; decide
        · rw [show rg 1 k = (if k = 1 then 1 else 0) from rfl, if_neg z]; decide
      by_cases q2 : 29 ≤ a ∧ a ≤ 33
      · have : a = 29 ∨ a = 30 ∨ a = 31 ∨ a = 32 ∨ a = 33 := by omega
        rcases this with rfl | rfl | rfl | rfl | rfl <;> exact absurd (by decide : (0 : Nat) ∈ [0, 1, 8]) nn
      by_cases q3 : 47 ≤ a ∧ a ≤ 222
      · exact absurd (by rw [rg_U (by omega) q3.2]; decide) nn
      · rw [lo a q1 q2 (by omega)]
    · rw [mrg_hi (by omega)]
      by_cases q1 : a = 278
      · subst q1
        by_cases q2 : k ≠ 10 ∧ k ≠ 13 ∧ ¬ (14 ≤ k ∧ k ≤ 18) ∧ k ≠ 35
        · exact hi2 k q2.1 q2.2.1 q2.2.2.1 q2.2.2.2
        · have : k = 10 ∨ k = 13 ∨ k = 14 ∨ k = 15 ∨ k = 16 ∨ k = 17 ∨ k = 18 ∨ k = 35 := by omega
          rcases this with rfl | rfl | rfl | rfl | rfl | rfl | rfl | rfl <;> exact absurd (by decide) nn
      by_cases q2 : a = 289
      · subst q2; exact absurd (by decide : (0 : Nat) ∈ [0, 1, 8]) nn
      by_cases q3 : a = 291
      · subst q3; exact absurd (by decide : (0 : Nat) ∈ [0, 1, 8]) nn
      · rw [hi a (by omega) q1 q2 q3]
  have R0 : Rel B (mrg M18 (up2 N3 278 35 0)) := by
    refine h.go (Int.le_refl _) cc (by decide) (fun _ => ?_) (fun q => absurd q (by decide)) (fun q => absurd q (by decide)) (fun q => absurd q (by decide)) (fun q => absurd q (by decide)) (fun q => absurd q (by decide)) (fun q => absurd q (by decide)) (fun _ => ?_) (fun q => absurd q (by decide)) (fun q => absurd q (by decide)) (fun q => absurd q (by decide))
    · unfold C_T
      rw [mrg_hi (by decide), mrg_lo (by decide), rd_k (by decide), a1 278 (by decide), f.2.2, hp 1 (by omega), rd_same]
      exact ⟨rfl, by decide, by decide, fun i hi => by omega⟩
    · refine C_U.keep h.U s3 ?_ (fun c x y w => ?_) ?_ ?_ ?_ ?_
      · rw [mrg_lo (by decide)]; exact lo 45 (by decide) (by decide) (by decide)
      · rw [mrg_lo (by omega), hp c w, up2_ne (by omega), fr1 c (by omega) (by omega)]
      · rw [mrg_hi (by decide)]; exact hi 288 (by decide) (by decide) (by decide) (by decide)
      · rw [mrg_hi (by decide)]; exact hi2 31 (by decide) (by decide) (by decide) (by decide)
      · rw [mrg_lo (by decide), lo 3 (by decide) (by decide) (by decide)]
      · rw [mrg_hi (by decide)]; exact hi 280 (by decide) (by decide) (by decide) (by decide)
  have n3 : ∀ a k, rg a k = 3 → up2 N3 278 35 0 a k = M a k := fun a k hr => by
    by_cases q1 : a = 278
    · subst q1
      exact hi2 k (fun y => by subst y; revert hr; decide) (fun y => by subst y; revert hr; decide) (fun y => by
        have : k = 14 ∨ k = 15 ∨ k = 16 ∨ k = 17 ∨ k = 18 := by omega
        rcases this with rfl | rfl | rfl | rfl | rfl <;> revert hr <;> decide) (fun y => by subst y; revert hr; decide)
    · rw [up2_ne q1, a1 a (fun y => by subst y; revert hr; rw [rg_289]; decide), f.1 a q1 (fun y => by subst y; revert hr; rw [show rg 291 k = 0 from rfl]; decide)]
      exact N3r a k hr
  have s0 := sS_bd R0 hB0
  rw [sS_mrg (by rw [lo 3 (by decide) (by decide) (by decide)]; exact s3)] at s0
  have I0 : runI (zT 60 M) n (sS M18) B M18 (up2 N3 278 35 0) := by
    refine ⟨R0, h.R.cg n3, ?_, ?_, ?_, ?_, ?_, by rw [rd_same]; omega⟩
    · rw [n3 21 3 rfl, lo 21 (by decide) (by decide) (by decide)]
    · rw [lo 22 (by decide) (by decide) (by decide)]; exact funext fun k => n3 22 k rfl
    · rw [lo2 29 (by decide)]; exact m29
    · exact dC.cg (fun a x y => lo2 a (by omega))
    · exact dM.cg (by rw [up2_ne (by decide), a1 291 (by decide)])
  obtain ⟨c, M', N', g1, g2, g3, g4, g5, g6, g7⟩ := acts_run (r14 := r14) hn (by omega) hw n 0 B M18 _ (by omega) hB0 (by omega) I0
  exact ⟨N3, c, M', N', e3, ⟨a1, a2, a3, a4, a5⟩, g1 FU (by unfold FU; omega), g2 FU (by unfold FU; omega), g3, g4.up (by omega), g5, g6, g7⟩
