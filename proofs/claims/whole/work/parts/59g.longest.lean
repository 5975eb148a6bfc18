-- ===== longest =====
noncomputable def spn (M : MEM) (d : Nat) (k : Int) : Int := wr (lnV M d (k + 1) - lnV M d k)
def pk (c : Prop) [Decidable c] (u i : Int) : Int := if u = -1 then i else if c then u else i
theorem pkI_in {c : Prop} [Decidable c] {u i : Int} (hu : u = -1 ∨ (1 ≤ u ∧ u < i)) (hi : 1 ≤ i) : 1 ≤ pk c u i ∧ pk c u i < i + 1 := by
  unfold pk
  by_cases h : u = -1
  · rw [if_pos h]; omega
  · rw [if_neg h]
    by_cases h2 : c
    · rw [if_pos h2]; omega
    · rw [if_neg h2]; omega
noncomputable def scn (f : Int → Int) (i0 : Nat) : Nat → Int × Int
  | 0 => (-1, -1)
  | j + 1 => (pk (f ((i0 + j : Nat) : Int) ≤ f (scn f i0 j).1) (scn f i0 j).1 ((i0 + j : Nat) : Int), pk (f (scn f i0 j).2 ≤ f ((i0 + j : Nat) : Int)) (scn f i0 j).2 ((i0 + j : Nat) : Int))
theorem scn_in (f : Int → Int) {i0 : Nat} (h : 1 ≤ i0) : ∀ j, (j = 0 ∧ scn f i0 j = (-1, -1)) ∨ ((1 ≤ (scn f i0 j).1 ∧ (scn f i0 j).1 < ((i0 + j : Nat) : Int)) ∧ (1 ≤ (scn f i0 j).2 ∧ (scn f i0 j).2 < ((i0 + j : Nat) : Int))) := by
  intro j
  induction j with
  | zero => exact Or.inl ⟨rfl, rfl⟩
  | succ j ih =>
    right
    have a : (scn f i0 j).1 = -1 ∨ (1 ≤ (scn f i0 j).1 ∧ (scn f i0 j).1 < ((i0 + j : Nat) : Int)) := by
      rcases ih with ⟨-, e⟩ | e
      · rw [e]; exact Or.inl rfl
      · exact Or.inr e.1
    have b : (scn f i0 j).2 = -1 ∨ (1 ≤ (scn f i0 j).2 ∧ (scn f i0 j).2 < ((i0 + j : Nat) : Int)) := by
      rcases ih with ⟨-, e⟩ | e
      · rw [e]; exact Or.inl rfl
      · exact Or.inr e.2
    have e : ((i0 + (j + 1) : Nat) : Int) = ((i0 + j : Nat) : Int) + 1 := by omega
    rw [e]
    exact ⟨pkI_in a (by omega), pkI_in b (by omega)⟩
theorem longC_eq {M : MEM} {d s i0 : Nat} (hs : M (10 + 3 * d) 5 = (s : Int)) (hb : s ≤ 100000000) (h1 : 1 ≤ i0) (h2 : i0 ≤ s ∨ i0 = 1) (h3 : s ≤ i0 + 100) :
    ∃ r, iter (fun t => dh_longest_b49 (10 + 3 * d) t.1 t.2.1 t.2.2.1 t.2.2.2.1 t.2.2.2.2 M) FU (-1, 0, -1, 0, (i0 : Int)) = some r ∧ r.1 = (scn (spn M d) i0 (s - i0)).1 ∧ r.2.2.1 = (scn (spn M d) i0 (s - i0)).2 ∧ (r.1 ≠ -1 → r.2.1 = spn M d r.1 ∧ r.2.2.2.1 = spn M d r.2.2.1) := by
  refine (?_ : Tc (iter (fun t => dh_longest_b49 (10 + 3 * d) t.1 t.2.1 t.2.2.1 t.2.2.2.1 t.2.2.2.2 M) FU (-1, 0, -1, 0, (i0 : Int))) (fun r => r.1 = (scn (spn M d) i0 (s - i0)).1 ∧ r.2.2.1 = (scn (spn M d) i0 (s - i0)).2 ∧ (r.1 ≠ -1 → r.2.1 = spn M d r.1 ∧ r.2.2.2.1 = spn M d r.2.2.1)))
  refine Tc_n (fun j t => t.1 = (scn (spn M d) i0 j).1 ∧ t.2.2.1 = (scn (spn M d) i0 j).2 ∧ (t.1 ≠ -1 → t.2.1 = spn M d t.1) ∧ (t.2.2.1 ≠ -1 → t.2.2.2.1 = spn M d t.2.2.1) ∧ t.2.2.2.2 = ((i0 + j : Nat) : Int)) (s - i0) ⟨rfl, rfl, fun q => absurd rfl q, fun q => absurd rfl q, rfl⟩ (by omega) (fun j t hj hI => ?_) (fun t hI => ?_)
  · obtain ⟨u, su, v, sv, z⟩ := t
    obtain ⟨q1, q2, q3, q4, rfl⟩ := hI
    dsimp only at q1 q2 q3 q4 ⊢
    have w : wr (((i0 + j : Nat) : Int) + 1) = ((i0 + j : Nat) : Int) + 1 := wr_i (by omega) (by omega)
    have m1 := minuteOf_eq (M := M) (d := d) (k := ((i0 + j : Nat) : Int)) (by omega) (by omega) (by omega)
    have m2 := minuteOf_eq (M := M) (d := d) (k := ((i0 + j : Nat) : Int) + 1) (by omega) (by omega) (by omega)
    have hin := scn_in (spn M d) h1 j
    have eS : wr (lnV M d (((i0 + j : Nat) : Int) + 1) - lnV M d ((i0 + j : Nat) : Int)) = spn M d ((i0 + j : Nat) : Int) := rfl
    unfold dh_longest_b49
    rw [w]
    refine Tc_f (by omega) (Tc_e m2 (Tc_e m1 ?_))
    rw [eS]
    have e1 : (scn (spn M d) i0 (j + 1)).1 = pk (spn M d ((i0 + j : Nat) : Int) ≤ spn M d u) u ((i0 + j : Nat) : Int) := by rw [q1]; rfl
    have e2 : (scn (spn M d) i0 (j + 1)).2 = pk (spn M d v ≤ spn M d ((i0 + j : Nat) : Int)) v ((i0 + j : Nat) : Int) := by rw [q2]; rfl
    have ej : wr (((i0 + j : Nat) : Int) + 1) = ((i0 + (j + 1) : Nat) : Int) := w.trans (by omega)
    have hI : ((i0 + j : Nat) : Int) ≠ -1 := by omega
    generalize ((i0 + j : Nat) : Int) = I at *
    generalize spn M d = f at *
    have j96 : ∀ u' su', u' = (scn f i0 (j + 1)).1 → (u' ≠ -1 → su' = f u') → Tc (dh_longest_j96_49 (10 + 3 * d) u' su' v sv I (f I) M) (fun r => ∃ s', r = .inl s' ∧ s'.1 = (scn f i0 (j + 1)).1 ∧ s'.2.2.1 = (scn f i0 (j + 1)).2 ∧ (s'.1 ≠ -1 → s'.2.1 = f s'.1) ∧ (s'.2.2.1 ≠ -1 → s'.2.2.2.1 = f s'.2.2.1) ∧ s'.2.2.2.2 = ((i0 + (j + 1) : Nat) : Int)) := fun u' su' hu hsu => by
      unfold dh_longest_j96_49 dh_longest_j109_49 dh_longest_j117_49
      refine Tc_i (fun y => Tc_inl ⟨hu, ?_, hsu, fun _ => rfl, ej⟩) (fun y => Tc_i (fun y2 => Tc_inl ⟨hu, ?_, hsu, q4, ej⟩) (fun y2 => Tc_inl ⟨hu, ?_, hsu, fun _ => rfl, ej⟩))
      · dsimp only; rw [e2]; unfold pk; rw [if_pos y]
      · dsimp only; rw [e2]; unfold pk; rw [if_neg y, if_pos (by rw [← q4 y]; exact y2)]
      · dsimp only; rw [e2]; unfold pk; rw [if_neg y, if_neg (by rw [← q4 y]; exact y2)]
    have j88 : (I = (scn f i0 (j + 1)).1) → Tc (dh_longest_j88_49 (10 + 3 * d) v sv I (f I) M) (fun r => ∃ s', r = .inl s' ∧ s'.1 = (scn f i0 (j + 1)).1 ∧ s'.2.2.1 = (scn f i0 (j + 1)).2 ∧ (s'.1 ≠ -1 → s'.2.1 = f s'.1) ∧ (s'.2.2.1 ≠ -1 → s'.2.2.2.1 = f s'.2.2.1) ∧ s'.2.2.2.2 = ((i0 + (j + 1) : Nat) : Int)) := fun hu => by
      unfold dh_longest_j88_49
      exact j96 I (f I) hu (fun _ => rfl)
    refine Tc_i (fun y => j88 (by rw [e1]; unfold pk; rw [if_pos y])) (fun y => Tc_i (fun y2 => j96 u su ?_ q3) (fun y2 => j88 ?_))
    · rw [e1]; unfold pk; rw [if_neg y, if_pos (by rw [← q3 y]; exact y2)]
    · rw [e1]; unfold pk; rw [if_neg y, if_neg (by rw [← q3 y]; exact y2)]
  · obtain ⟨u, su, v, sv, z⟩ := t
    obtain ⟨q1, q2, q3, q4, rfl⟩ := hI
    dsimp only at q1 q2 q3 q4 ⊢
    have hin := scn_in (spn M d) h1 (s - i0)
    unfold dh_longest_b49
    refine Tc_t (by omega) (Tc_inr ⟨q1, q2, fun y => ⟨q3 y, q4 ?_⟩⟩)
    show v ≠ -1
    rw [q2]
    have y' : u ≠ -1 := y
    rw [q1] at y'
    rcases hin with ⟨-, e⟩ | e
    · rw [e] at y'; exact absurd rfl y'
    · omega
theorem longM_eq {B : Int} {M M1 : MEM} (h : Rel B M) (hB : B ≤ 100000000) (e279 : M1 279 = M 279) {d s i0 : Nat} (hd : (d : Int) < M 3 2) (hs : M (10 + 3 * d) 5 = (s : Int)) (hb : s ≤ 100000000) (h1 : 1 ≤ i0) (h3 : s ≤ i0 + 100) :
    ∃ r, iter (fun t => mo_longest_b35 (d : Int) t.1 t.2.1 t.2.2 M1) FU (-1, -1, (i0 : Int)) = some r ∧ r.1 = (scn (spn M d) i0 (s - i0)).1 ∧ r.2.1 = (scn (spn M d) i0 (s - i0)).2 := by
  have hn := h.S.2.2.1
  have ek : M1 279 (55 * d + 2) = (s : Int) := by rw [e279, ← hs]; exact (dnk h hB hd).2.2.1.2.2.1.symm
  refine (?_ : Tc (iter (fun t => mo_longest_b35 (d : Int) t.1 t.2.1 t.2.2 M1) FU (-1, -1, (i0 : Int))) (fun r => r.1 = (scn (spn M d) i0 (s - i0)).1 ∧ r.2.1 = (scn (spn M d) i0 (s - i0)).2))
  refine Tc_n (fun j t => t.1 = (scn (spn M d) i0 j).1 ∧ t.2.1 = (scn (spn M d) i0 j).2 ∧ t.2.2 = ((i0 + j : Nat) : Int)) (s - i0) ⟨rfl, rfl, rfl⟩ (by omega) (fun j t hj hI => ?_) (fun t hI => ?_)
  · obtain ⟨u, v, z⟩ := t
    obtain ⟨q1, q2, rfl⟩ := hI
    dsimp only at q1 q2 ⊢
    have hin := scn_in (spn M d) h1 j
    have w : wr (((i0 + j : Nat) : Int) + 1) = ((i0 + j : Nat) : Int) + 1 := wr_i (by omega) (by omega)
    have ej : wr (((i0 + j : Nat) : Int) + 1) = ((i0 + (j + 1) : Nat) : Int) := w.trans (by omega)
    have line : ∀ k : Int, 1 ≤ k → mo_line (d : Int) k M1 = some (lnV M d k) := fun k hk => line_eq h hB e279 hd hk
    have eS : ∀ k : Int, wr (lnV M d (k + 1) - lnV M d k) = spn M d k := fun _ => rfl
    have e1 : (scn (spn M d) i0 (j + 1)).1 = pk (spn M d ((i0 + j : Nat) : Int) ≤ spn M d u) u ((i0 + j : Nat) : Int) := by rw [q1]; rfl
    have e2 : (scn (spn M d) i0 (j + 1)).2 = pk (spn M d v ≤ spn M d ((i0 + j : Nat) : Int)) v ((i0 + j : Nat) : Int) := by rw [q2]; rfl
    have hu : u ≠ -1 → 1 ≤ u ∧ u < ((i0 + j : Nat) : Int) := fun y => by
      rw [q1] at y ⊢
      rcases hin with ⟨-, e⟩ | e
      · rw [e] at y; exact absurd rfl y
      · exact e.1
    have hv : v ≠ -1 → 1 ≤ v ∧ v < ((i0 + j : Nat) : Int) := fun y => by
      rw [q2] at y ⊢
      rcases hin with ⟨-, e⟩ | e
      · rw [e] at y; exact absurd rfl y
      · exact e.2
    have hI1 : 1 ≤ ((i0 + j : Nat) : Int) ∧ ((i0 + j : Nat) : Int) < (s : Int) := by omega
    have l1 := line (((i0 + j : Nat) : Int) + 1) (by omega)
    have l0 := line ((i0 + j : Nat) : Int) (by omega)
    unfold mo_longest_b35
    rw [w]
    refine Tc_e (strokesM_eq (by omega)) (Tc_f (by rw [ek]; omega) (Tc_e l1 (Tc_e l0 ?_)))
    rw [eS]
    generalize ((i0 + j : Nat) : Int) = I at *
    have j92 : ∀ u', u' = (scn (spn M d) i0 (j + 1)).1 → Tc (mo_longest_j92_35 (d : Int) u' v I (spn M d I) M1) (fun r => ∃ s', r = .inl s' ∧ s'.1 = (scn (spn M d) i0 (j + 1)).1 ∧ s'.2.1 = (scn (spn M d) i0 (j + 1)).2 ∧ s'.2.2 = ((i0 + (j + 1) : Nat) : Int)) := fun u' hu' => by
      unfold mo_longest_j92_35 mo_longest_j117_35 mo_longest_j120_35
      by_cases y : v = -1
      · refine Tc_t y (Tc_inl ⟨hu', ?_, ej⟩)
        dsimp only; rw [e2]; unfold pk; rw [if_pos y]
      · have b := hv y
        rw [wr_i (x := v + 1) (by omega) (by omega)]
        refine Tc_f y (Tc_e (line (v + 1) (by omega)) (Tc_e (line v (by omega)) ?_))
        rw [eS]
        refine Tc_i (fun y2 => Tc_inl ⟨hu', ?_, ej⟩) (fun y2 => Tc_inl ⟨hu', ?_, ej⟩)
        · dsimp only; rw [e2]; unfold pk; rw [if_neg y, if_pos y2]
        · dsimp only; rw [e2]; unfold pk; rw [if_neg y, if_neg y2]
    unfold mo_longest_j89_35
    by_cases y : u = -1
    · exact Tc_t y (j92 I (by rw [e1]; unfold pk; rw [if_pos y]))
    · have b := hu y
      rw [wr_i (x := u + 1) (by omega) (by omega)]
      refine Tc_f y (Tc_e (line (u + 1) (by omega)) (Tc_e (line u (by omega)) ?_))
      rw [eS]
      refine Tc_i (fun y2 => j92 u ?_) (fun y2 => j92 I ?_)
      · rw [e1]; unfold pk; rw [if_neg y, if_pos y2]
      · rw [e1]; unfold pk; rw [if_neg y, if_neg y2]
  · obtain ⟨u, v, z⟩ := t
    obtain ⟨q1, q2, rfl⟩ := hI
    dsimp only at q1 q2 ⊢
    unfold mo_longest_b35
    exact Tc_e (strokesM_eq (by omega)) (Tc_t (by rw [ek]; omega) (Tc_inr ⟨q1, q2⟩))
theorem c_longest {B : Int} {M : MEM} (h : Rel B M) (hB : B ≤ 100000000) (x : Int) : Lk B (dh_longest x M) (mo_longest x) := by
  have c3 : chg [0] M (up2 M 278 13 0) := chg.rf.up (by decide)
  have k1 : up2 M 278 13 0 278 1 = M 278 1 := rd_k (by decide)
  have hn := h.S.2.2.1
  unfold Lk dh_longest
  by_cases hd : 0 ≤ x ∧ x < M 3 2
  · obtain ⟨d, rfl⟩ : ∃ d : Nat, x = (d : Int) := ⟨x.toNat, by omega⟩
    obtain ⟨w1, w2, w3, w4⟩ := dnk h hB hd.2
    have k0 : 0 ≤ M (10 + 3 * d) 5 := w1.2.2.2.2.2.2.1
    have k100 : M (10 + 3 * d) 5 ≤ 100000000 := w2
    have ek : M 279 (55 * d + 2) = M (10 + 3 * d) 5 := w3.2.2.1.symm
    obtain ⟨s, hs⟩ : ∃ s : Nat, M (10 + 3 * d) 5 = (s : Int) := ⟨(M (10 + 3 * d) 5).toNat, by omega⟩
    obtain ⟨i0, hi0, hi1, hi3⟩ : ∃ i0 : Nat, (max 1 (wr (wr ((s : Int) - 40) + 1)) : Int) = (i0 : Int) ∧ 1 ≤ i0 ∧ (s ≤ i0 + 100 ∧ (i0 ≤ s ∨ i0 = 1)) := by
      refine ⟨max 1 (s - 39), ?_, by omega, by omega, by omega⟩
      rw [wr_i (x := (s : Int) - 40) (by omega) (by omega), wr_i (by omega) (by omega)]
      omega
    obtain ⟨r, e, p1, p2, p3⟩ := longC_eq (M := M) (d := d) hs (by omega) hi1 hi3.2 hi3.1
    obtain ⟨u, su, v, sv, z⟩ := r
    dsimp only at p1 p2 p3
    have hin := scn_in (spn M d) hi1 (s - i0)
    refine Tc_f (by rw [isDonkey_y hn hd.1 hd.2]; decide) (Tc_t (by omega) ?_)
    rw [toNat_c, hs, hi0]
    refine Tc_e e ?_
    dsimp only
    by_cases hu : u = -1
    · refine Tc_t hu (Tc_some ?_)
      dsimp only
      obtain ⟨rm, em, m1, m2⟩ := longM_eq (M1 := up2 M 278 13 0) h hB (up2_ne (by decide)) hd.2 hs (by omega) hi1 hi3.1
      unfold mo_longest
      refine Tc_u (Tc_f (by rw [moDonkey_y h.S k1 hd]; decide) (Tc_e (strokesM_eq (by omega)) ?_))
      rw [show up2 M 278 13 0 279 (55 * d + 2) = (s : Int) by rw [rd_a (by decide), ek, hs], hi0]
      exact Tc_e em (Tc_t (by rw [m1, ← p1]; exact hu) (Tc_some ⟨rfl, h.go0 c3⟩))
    · have hb : (1 ≤ u ∧ u < (s : Int)) ∧ (1 ≤ v ∧ v < (s : Int)) := by
        rw [p1] at hu ⊢
        rw [p2]
        rcases hin with ⟨-, e⟩ | e
        · rw [e] at hu; exact absurd rfl hu
        · have hj : i0 ≤ s := by
            by_cases q : i0 ≤ s
            · exact q
            · exfalso
              rw [show s - i0 = 0 by omega] at hu
              exact hu rfl
          refine ⟨⟨e.1.1, ?_⟩, ⟨e.2.1, ?_⟩⟩ <;> omega
      obtain ⟨p5, p6⟩ := p3 hu
      obtain ⟨Ma, ea, wa, oa⟩ := newRow_eq M
      obtain ⟨Mb, eb, wb, ob⟩ := tell_eq su wa (by decide)
      obtain ⟨Mc, ec, wc, oc⟩ := tell_eq v wb (by simp)
      obtain ⟨Md, ed, wd, od⟩ := tell_eq sv wc (by simp)
      have oall := ((oa.tr ob).tr oc).tr od
      refine Tc_f hu (Tc_e ea (Tc_e eb (Tc_e ec (Tc_e ed (Tc_some ?_)))))
      dsimp only
      have e279 : up2 Md 278 13 0 279 = M 279 := by rw [up2_ne (by decide), oall.cell (by decide) (by decide)]
      obtain ⟨rm, em, m1, m2⟩ := longM_eq (M1 := up2 Md 278 13 0) h hB e279 hd.2 hs (by omega) hi1 hi3.1
      obtain ⟨u', v', z'⟩ := rm
      dsimp only at m1 m2
      rw [← p1] at m1
      rw [← p2] at m2
      subst m1 m2
      have wu : wr (u' + 1) = u' + 1 := wr_i (by omega) (by omega)
      have wv : wr (v' + 1) = v' + 1 := wr_i (by omega) (by omega)
      obtain ⟨x0, o0⟩ := moRow0 (up2 Md 278 13 0)
      obtain ⟨N1, f1, x1, o1⟩ := moTell_eq (wr (lnV M d (u' + 1) - lnV M d u')) x0 (by decide)
      obtain ⟨N2, f2, x2, o2⟩ := moTell_eq v' x1 (by simp)
      obtain ⟨N3, f3, x3, o3⟩ := moTell_eq (wr (lnV M d (v' + 1) - lnV M d v')) x2 (by simp)
      have l279 : ∀ {N : MEM}, offX (up2 Md 278 13 0) N → N 279 = M 279 := fun o => by rw [o.cell (by decide) (by decide)]; exact e279
      have line : ∀ {N : MEM}, offX (up2 Md 278 13 0) N → ∀ k : Int, 1 ≤ k → mo_line (d : Int) k N = some (lnV M d k) := fun o k hk => line_eq h hB (l279 o) hd.2 hk
      unfold mo_longest
      refine Tc_u (Tc_f (by rw [moDonkey_y h.S (by rw [rd_k (by decide), oall.cell (by decide) (by decide)]) hd]; decide) (Tc_e (strokesM_eq (by omega)) ?_))
      rw [show up2 Md 278 13 0 279 (55 * d + 2) = (s : Int) by rw [e279, ek, hs], hi0]
      refine Tc_e em (Tc_f hu (Tc_u ?_))
      dsimp only
      rw [wu, wv]
      refine Tc_e (line o0 _ (by omega)) (Tc_e (line o0 _ (by omega)) (Tc_e f1 (Tc_e f2 (Tc_e (line ((o0.tr o1).tr o2) _ (by omega)) (Tc_e (line ((o0.tr o1).tr o2) _ (by omega)) (Tc_e f3 (Tc_some ⟨rfl, ?_⟩)))))))
      dsimp only
      have oN := ((o0.tr o1).tr o2).tr o3
      have cF : chg [0, 10] M N3 := (oall.chg.up (by decide)).tr oN.chg
      refine h.go10 cF (W_of (wd.off ?_ ?_) (l := [] ++ [su] ++ [v'] ++ [sv]) ?_ (by simp))
      · rw [oN.cell (by decide) (by decide), up2_ne (by decide)]
      · rw [oN.cell (by decide) (by decide), up2_ne (by decide)]
      · rw [p5, p6]; exact x3
  · have mo : Tc (mo_longest x M) (fun q => q.1 = -1 ∧ Rel B q.2) := by
      unfold mo_longest
      exact Tc_u (Tc_t (moDonkey_n h.S k1 hd) (Tc_some ⟨rfl, h.go0 c3⟩))
    exact Tc_t (isDonkey_n hn hd) (Tc_some mo)
