-- ===== minutes, with what can be undone =====
theorem rg_8 {a k : Nat} (h : rg a k = 8) : (45 ≤ a ∧ a ≤ 222) ∨ (a = 278 ∧ k = 31) ∨ a = 288 := by
  apply Classical.byContradiction
  intro n
  refine absurd h ?_
  unfold rg
  repeat' (refine ite_ne (fun _ => ?_) (fun _ => ?_))
  all_goals first | decide | (exfalso; omega)
theorem U_same {B B' : Int} {M M' : MEM} (h : Rel B M) (hB : B ≤ B') (f1 : ∀ c, 45 ≤ c → c ≤ 222 → M' c = M c) (f2 : M' 288 = M 288) (f3 : M' 278 31 = M 278 31) (c : chg [0, 4, 8, 10] M M') : C_U B' M' := by
  refine h.U.cg hB h.S.2.2.1 (fun a k hr => ?_)
  rcases hr with e | e
  · rcases rg_8 e with ⟨h1, h2⟩ | ⟨rfl, rfl⟩ | rfl
    · rw [f1 a h1 h2]
    · exact f3
    · rw [f2]
  · exact c a k (by rw [e]; decide)
theorem c_minutes {B : Int} {M : MEM} (h : Rel B M) (hB : B ≤ 100000000) (x : Int) : Lk (B + 600) (dh_minutes x M) (mo_minutes x) := by
  have c3 : chg [0] M (up2 M 278 13 0) := chg.rf.up (by decide)
  obtain ⟨s1, s2, s3, s3a, s3b, s4⟩ := h.S
  obtain ⟨u1, u2, u3, u4, u5, u6⟩ := h.U
  unfold Lk dh_minutes
  by_cases hx : 0 ≤ x ∧ x ≤ 600
  · obtain ⟨i, rfl⟩ : ∃ i : Nat, x = (i : Int) := ⟨x.toNat, by omega⟩
    have hin : mo_in (i : Int) 0 600 ≠ 0 := by rw [moIn_y (by omega)]; decide
    refine Tc_f (by omega) (Tc_t (by omega) ?_)
    by_cases h0 : i = 0
    · subst h0
      obtain ⟨rs, M18, e, hi, cc, lo, ref⟩ := mins_core (x := 0) h hB (by omega) chg.rf (fun _ _ => rfl)
      refine Tc_t (by omega) ⟨_, e, ?_⟩
      dsimp only
      obtain ⟨N', e2, l2, d2, w2, cN, f1, f2⟩ := ref (up2 M18 278 13 0) (fun c hc => up2_ne (by omega)) (cc.up (by decide)) (fun a k ha hr => by
        by_cases z : a = 278
        · subst z; rw [rd_k (fun y => by subst y; revert hr; decide), hi 278 ha]
        · rw [up2_ne z, hi a ha])
      unfold mo_minutes
      refine Tc_u (Tc_f hin (Tc_t (by omega) ⟨_, e2, rfl, ?_⟩))
      dsimp only
      have cF : chg [0, 4, 8, 10] M N' := (cc.up (by decide)).tr cN
      refine h.go (by omega) cF (by decide) (fun q => absurd q (by decide)) (fun q => absurd q (by decide)) (fun q => absurd q (by decide)) (fun _ => d2) (fun q => absurd q (by decide)) (fun q => absurd q (by decide)) (fun q => absurd q (by decide)) (fun _ => ?_) (fun q => absurd q (by decide)) (fun _ => w2) (fun q => absurd q (by decide))
      exact U_same h (by omega) (fun c a b => by rw [l2 c (by omega), lo c a b]) (by rw [f1, up2_ne (by decide), hi 288 (by decide)]) (by rw [f2, rd_k (by decide), hi 278 (by decide)]) cF
    · obtain ⟨M6, M8, e6, e8, hc⟩ := hist_class (wc := 0) h (Or.inl rfl)
      have hu := usc_in (i := (M 45 2).toNat) u1 u2 (by omega)
      have cC := hc.chg u1 u2 u5
      have M8c : ∀ c, (c < 45 ∨ 222 < c) → M8 c = M c := fun c hcc => hc.2.2.2.1 c (by omega) (by omega)
      obtain ⟨rs, M18, e, hi, cc, lo, ref⟩ := mins_core (x := i) h hB (by omega) (cC.sub (by decide)) M8c
      refine Tc_f (by omega) (Tc_e e6 (Tc_e e8 ⟨_, e, ?_⟩))
      dsimp only
      have e31 : up2 M18 278 13 0 278 31 = M 278 31 := by rw [rd_k (by decide), hi 278 (by omega)]
      obtain ⟨N3, N5, f3, f5, hm⟩ := hist_mo (wc := 0) (N := up2 M18 278 13 0) (by rw [e31]; omega) (by rw [e31]; omega) (Or.inl rfl)
      have c5 : chg [0, 4, 8, 10] M N5 := (cc.up (by decide)).tr (hm.chg.sub (by decide))
      obtain ⟨N', e2, l2, d2, w2, cN, f1, f2⟩ := ref N5 (fun c hc => by rw [hm.2.1 c (by omega) (by omega) (by omega), up2_ne (by omega)]) c5 (fun a k ha hr => by
        by_cases z : a = 278
        · subst z; rw [hm.2.2.1 k (fun y => by subst y; revert hr; decide), rd_k (fun y => by subst y; revert hr; decide), hi 278 ha]
        · rw [hm.2.1 a z (fun y => by subst y; revert hr; rw [rg_288]; decide) (fun y => by subst y; revert hr; rw [rg_289]; decide), up2_ne z, hi a ha])
      unfold mo_minutes
      refine Tc_u (Tc_f hin (Tc_f (by omega) (Tc_e f3 (Tc_e f5 ⟨_, e2, rfl, ?_⟩))))
      dsimp only
      have cF : chg [0, 4, 8, 10] M N' := c5.tr cN
      refine h.go (by omega) cF (by decide) (fun q => absurd q (by decide)) (fun q => absurd q (by decide)) (fun q => absurd q (by decide)) (fun _ => d2) (fun q => absurd q (by decide)) (fun q => absurd q (by decide)) (fun q => absurd q (by decide)) (fun _ => ?_) (fun q => absurd q (by decide)) (fun _ => w2) (fun q => absurd q (by decide))
      have hU : C_U B N' := hist_U h (Or.inl rfl) hc hm (by rw [up2_ne (by decide), hi 279 (by decide)]) (by rw [up2_ne (by decide), hi 282 (by decide)]) (by rw [rd_k (by decide), hi 278 (by decide)]) e31 (by rw [up2_ne (by decide), hi 288 (by decide)])
        (by rw [l2 45 (by decide), lo 45 (by decide) (by decide)]) (fun c a b => by rw [l2 c (by omega), lo c (by omega) (by omega)]) f1 f2 (by rw [cF 3 2 (by decide)]) (cF.row (fun k => (by decide : 12 ∉ [0, 4, 8, 10])))
      exact hU.cg (by omega) (by rw [cF 3 2 (by decide)]; exact s3) (fun _ _ _ => rfl)
  · have mo : Tc (mo_minutes x M) (fun q => q.1 = -1 ∧ Rel (B + 600) q.2) := by
      unfold mo_minutes
      exact Tc_u (Tc_t (moIn_n (by omega)) (Tc_some ⟨rfl, (h.go0 c3).up (by omega)⟩))
    exact Tc_i (fun _ => Tc_some mo) (fun q => Tc_f (by omega) (Tc_some mo))
