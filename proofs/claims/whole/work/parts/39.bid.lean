-- ===== bid =====
def fstB (P : Nat → Prop) (r : Int) : Prop := (∃ j : Nat, j < 61 ∧ P j ∧ (∀ i, i < j → ¬ P i) ∧ r = (j : Int)) ∨ ((∀ i : Nat, i < 61 → ¬ P i) ∧ r = -2)
theorem fstB_uniq {P : Nat → Prop} {r r' : Int} (h : fstB P r) (g : fstB P r') : r = r' := by
  rcases h with ⟨j, h1, h2, h3, h4⟩ | ⟨h1, h2⟩ <;> rcases g with ⟨i, g1, g2, g3, g4⟩ | ⟨g1, g2⟩
  · have : i = j := by
      rcases Nat.lt_trichotomy i j with q | q | q
      · exact absurd g2 (h3 i q)
      · exact q
      · exact absurd h2 (g3 j q)
    subst this
    omega
  · exact absurd h2 (g1 j h1)
  · exact absurd g2 (h1 i g1)
  · omega
theorem after1 {B : Int} {M M1 : MEM} {l : List CA} {d : Nat} (hR : Rel B M) (hB : B ≤ 100000000) (hd : (d : Int) < M 3 2) (h : offTh M M1) (hl : okL l) (ht : thC l M1) :
    ∃ M2 M3, dh_look 224 d M1 = some M2 ∧ fu_afterStroke 224 1 M2 = some (tmN (qL M d l) 1 600, M3) ∧ offTh M M3 ∧ chg [0] M1 M3 := by
  have nw := now_in hR
  obtain ⟨d1, d2, -, -⟩ := dnk hR hB hd
  have hst := qL_ok hR hB hd l
  obtain ⟨eE, eO⟩ := envC_th hR h hl ht
  obtain ⟨M2, e2, o2, f2⟩ := q_lookE hR (Or.inl rfl) hd hB h.cc eE eO
  obtain ⟨r, M3, j', e3, o3, -, -, -, hr⟩ := after_eq (k := 1) (Or.inl rfl) d1 d2 nw.1 (by omega) (by omega) (by decide) (by decide) f2
  have er : r = tmN (qL M d l) 1 600 := tmN_eq hst (by decide) hr
  rw [er] at e3
  exact ⟨M2, M3, e2, e3, h.tr ((o2.tr o3.L).chg (Or.inl rfl)), (o2.tr o3.L).chg (Or.inl rfl)⟩
def offT0 (M M1 : MEM) : Prop := ∀ a k, rg a k ≠ 0 → (a ≠ 225 ∨ k ≠ 4) → M1 a k = M a k
theorem offT0.fin {B : Int} {M M1 : MEM} (h : offT0 M M1) (hR : Rel B M) (h0 : thC [] M1) : chg [0] M M1 := fun a k n => by
  by_cases e : a = 225 ∧ k = 4
  · obtain ⟨rfl, rfl⟩ := e
    rw [h0.1]; exact hR.N.2.2.1.symm
  · exact h a k (by simpa using n) (by omega)
theorem c_bid {B : Int} {M : MEM} (h : Rel B M) (hB : B ≤ 100000000) (x how v : Int) : Lk B (dh_bid x how v M) (mo_bid x how v) := by
  have nw := now_in h
  have c3 : chg [0] M (up2 M 278 13 0) := chg.rf.up (by decide)
  unfold Lk dh_bid
  by_cases hd : 0 ≤ x ∧ x < M 3 2
  · have hN := h.S.2.2.1
    refine Tc_f (by rw [isDonkey_y h.S.2.2.1 hd.1 hd.2]; decide) ?_
    by_cases hw : how = 1 ∨ how = -1
    · refine Tc_f (by rw [isWay_y hw]; decide) ?_
      have hbid : ∀ N : MEM, chg [0] M (up2 N 278 13 0) → mo_bid x how v N = mo_bid_j23 x how v (up2 N 278 13 0) := fun N c => by
        unfold mo_bid
        rw [Option.bind_some, moDonkey_y h.S (c 278 1 (by decide)) hd, if_neg (by decide)]
        by_cases q : how = 1
        · rw [if_pos q]
        · rw [if_neg q, if_pos (by omega)]
      by_cases hv : 1 ≤ v ∧ v ≤ 600
      · refine Tc_f (by rw [far_y hv]; decide) ?_
        obtain ⟨d, rfl⟩ : ∃ d : Nat, x = (d : Int) := ⟨x.toNat, by omega⟩
        obtain ⟨L, hL⟩ : ∃ L : Nat → List CA, L = fun n : Nat => if n = 0 then [] else [] ++ [mkC M d 0 n how] := ⟨_, rfl⟩
        have hLo : ∀ n, okL (L n) := fun n => by
          rw [hL]; dsimp only
          by_cases z : n = 0
          · rw [if_pos z]; exact okL_0
          · rw [if_neg z]; exact okL_1 hw
        obtain ⟨A, hA⟩ : ∃ A : Nat → Int, A = fun n => tmN (qL M d (L n)) 1 600 := ⟨_, rfl⟩
        have hAb : ∀ n, -1 ≤ A n ∧ A n ≤ 600 := fun n => by rw [hA]; exact tmN_le (qL M d (L n)) 1 600
        obtain ⟨P, hP⟩ : ∃ P : Nat → Prop, P = fun n => if how < 0 then (A n < 0 ∨ v ≤ A n) else (0 ≤ A n ∧ A n ≤ v) := ⟨_, rfl⟩
        have hPn : ∀ n, P n ↔ ((how = -1 ∧ (A n < 0 ∨ v ≤ A n)) ∨ (how = 1 ∧ 0 ≤ A n ∧ A n ≤ v)) := fun n => by
          rw [hP]; dsimp only
          rcases hw with rfl | rfl
          · rw [if_neg (by decide)]; omega
          · rw [if_pos (by decide)]; omega
        have l1 : Tc (iter (fun s => dh_bid_b27 d how v s.1 s.2) FU (0, M)) (fun e => ∃ r M2, fstB P r ∧ chg [0] M M2 ∧ (e = .inl (r, M2) ∨ (r = -2 ∧ ∃ w, e = .inr (w, M2)))) := by
          refine Tc_l (fun i s => s.1 = (i : Int) ∧ offTh M s.2 ∧ thC [] s.2 ∧ (∀ i', i' < i → ¬ P i') ∧ offT0 M s.2) _ 61 ⟨rfl, (th_0 h).1, (th_0 h).2, fun i' q => by omega, fun _ _ _ _ => rfl⟩ (by omega) (fun i s hi hI => ?_) (fun s hI => ?_)
          · obtain ⟨z, M1⟩ := s
            obtain ⟨rfl, q1, q2, q3, q4⟩ := hI
            dsimp only at q1 q2 q4 ⊢
            have wi : wr ((i : Int) + 1) = ((i + 1 : Nat) : Int) := (wr_i (by omega) (by omega)).trans (by omega)
            have run : ∀ M2 : MEM, offTh M M2 → thC (L i) M2 → offT0 M M2 → Tc (dh_bid_j48_27 d how v i M2) (fun r => (∃ s', r = .inl s' ∧ (s'.1 = ((i + 1 : Nat) : Int) ∧ offTh M s'.2 ∧ thC [] s'.2 ∧ (∀ i', i' < i + 1 → ¬ P i') ∧ offT0 M s'.2)) ∨ ∃ e, r = .inr e ∧ ∃ r M2, fstB P r ∧ chg [0] M M2 ∧ (e = .inl (r, M2) ∨ (r = -2 ∧ ∃ w, e = .inr (w, M2)))) := fun M2 k1 k2 k3 => by
              obtain ⟨M3, M4, e3, e4, k4, k4'⟩ := after1 h hB hd.2 k1 (hLo i) k2
              have eA : tmN (qL M d (L i)) 1 600 = A i := by rw [hA]
              rw [eA] at e4
              obtain ⟨k5, k6⟩ := th_clr k4
              have k8 : offT0 M (up2 M4 225 4 0) := fun a k x z => by
                have : up2 M4 225 4 0 a k = M4 a k := by
                  rcases z with z | z
                  · exact rd_a z
                  · exact rd_k z
                rw [this, k4' a k (by simpa using x)]
                exact k3 a k x z
              have k7 : chg [0] M (up2 M4 225 4 0) := k8.fin h k6
              have hb := hAb i
              have hPi := hPn i
              have yes : P i → Tc (some (.inr (.inl ((i : Int), up2 M4 225 4 0))) : Option ((Int × MEM) ⊕ ((Int × MEM) ⊕ (Int × MEM)))) (fun r => (∃ s', r = .inl s' ∧ (s'.1 = ((i + 1 : Nat) : Int) ∧ offTh M s'.2 ∧ thC [] s'.2 ∧ (∀ i', i' < i + 1 → ¬ P i') ∧ offT0 M s'.2)) ∨ ∃ e, r = .inr e ∧ ∃ r M2, fstB P r ∧ chg [0] M M2 ∧ (e = .inl (r, M2) ∨ (r = -2 ∧ ∃ w, e = .inr (w, M2)))) := fun p => Tc_inrR ⟨_, _, Or.inl ⟨i, hi, p, q3, rfl⟩, k7, Or.inl rfl⟩
              have no : ¬ P i → Tc (some (.inl (wr ((i : Int) + 1), up2 M4 225 4 0)) : Option ((Int × MEM) ⊕ ((Int × MEM) ⊕ (Int × MEM)))) (fun r => (∃ s', r = .inl s' ∧ (s'.1 = ((i + 1 : Nat) : Int) ∧ offTh M s'.2 ∧ thC [] s'.2 ∧ (∀ i', i' < i + 1 → ¬ P i') ∧ offT0 M s'.2)) ∨ ∃ e, r = .inr e ∧ ∃ r M2, fstB P r ∧ chg [0] M M2 ∧ (e = .inl (r, M2) ∨ (r = -2 ∧ ∃ w, e = .inr (w, M2)))) := fun p => Tc_inlL ⟨wi, k5, k6, fun i' hi' => by
                by_cases e : i' = i
                · subst e; exact p
                · exact q3 i' (by omega), k8⟩
              unfold dh_bid_j48_27 dh_bid_j89_27 dh_bid_j94_27 dh_bid_j111_27 dh_bid_j112_27 dh_bid_j134_27
              refine Tc_e e3 (Tc_e e4 (Tc_u ?_))
              dsimp only
              generalize A i = a at *
              rcases hw with rfl | rfl
              · by_cases a0 : a < 0
                · exact Tc_t a0 (Tc_t a0 (Tc_t (by decide) (Tc_t rfl (no (fun p => by have := hPi.mp p; omega)))))
                · refine Tc_f a0 (Tc_i (fun c => Tc_f a0 (Tc_i (fun c2 => Tc_t (by decide) (Tc_t rfl (no (fun p => by have := hPi.mp p; omega)))) (fun c2 => Tc_t (by decide) (Tc_f (by decide) (yes (hPi.mpr (by omega))))))) (fun c => Tc_f a0 (Tc_i (fun c2 => Tc_t (by decide) (Tc_t rfl (no (fun p => by have := hPi.mp p; omega)))) (fun c2 => Tc_t (by decide) (Tc_f (by decide) (yes (hPi.mpr (by omega))))))))
              · by_cases a0 : a < 0
                · exact Tc_t a0 (Tc_t a0 (Tc_f (by decide) (Tc_f (by decide) (yes (hPi.mpr (by omega))))))
                · refine Tc_f a0 (Tc_i (fun c => Tc_f a0 (Tc_i (fun c2 => Tc_f (by decide) (Tc_t rfl (no (fun p => by have := hPi.mp p; omega)))) (fun c2 => Tc_f (by decide) (Tc_t rfl (no (fun p => by have := hPi.mp p; omega)))))) (fun c => Tc_f a0 (Tc_i (fun c2 => Tc_f (by decide) (Tc_f (by decide) (yes (hPi.mpr (by omega))))) (fun c2 => Tc_f (by decide) (Tc_f (by decide) (yes (hPi.mpr (by omega))))))))
            unfold dh_bid_b27
            refine Tc_f (by omega) ?_
            by_cases z : i = 0
            · refine Tc_t (by omega) (run M1 q1 ?_ q4)
              rw [hL]; dsimp only; rw [if_pos z]; exact q2
            · obtain ⟨M2, e2, k1, k2, k3⟩ := think_eq (d := d) (fr := 0) (n := (i : Int)) (how := how) h hB q1 (by simp) q2 (by omega) (by omega)
              refine Tc_f (by omega) (Tc_e e2 (run M2 k1 ?_ ?_))
              · rw [hL]; dsimp only; rw [if_neg z]; exact k2
              · exact fun a k x z => (k3 a k x z).trans (q4 a k x z)
          · obtain ⟨z, M1⟩ := s
            obtain ⟨rfl, q1, q2, q3, q4⟩ := hI
            unfold dh_bid_b27
            exact Tc_t (by show (60 : Int) < ((61 : Nat) : Int); omega) (Tc_inr ⟨-2, M1, Or.inr ⟨q3, rfl⟩, q4.fin h q2, Or.inr ⟨rfl, _, rfl⟩⟩)
        refine Tc_c l1 (fun e he => ?_)
        obtain ⟨r, M2, hr, c2, he⟩ := he
        have mo : Tc (mo_bid d how v M2) (fun q => q.1 = r ∧ Rel B q.2) := by
          have c4 : chg [0] M (up2 M2 278 13 0) := c2.up (by decide)
          rw [hbid M2 c4]
          generalize up2 M2 278 13 0 = M3 at *
          have h8 : M3 278 8 = 0 := (c4 278 8 (by decide)).trans h.N.2.2.2.2.2.1
          unfold mo_bid_j23
          refine Tc_f (by rw [show mo_isMore v = 1 from moIn_y hv]; decide) ?_
          have l2 : Tc (iter (fun s => mo_bid_b39 d how v s.1 s.2.1 s.2.2) FU (-2, 0, M3)) (fun e => fstB P e.1 ∧ offThM M3 e.2.2 ∧ thM [] e.2.2) := by
            refine Tc_l (fun i s => s.2.1 = (i : Int) ∧ offThM M3 s.2.2 ∧ thM [] s.2.2 ∧ ((s.1 = -2 ∧ ∀ i', i' < i → ¬ P i') ∨ ∃ j : Nat, j < i ∧ j < 61 ∧ P j ∧ (∀ i, i < j → ¬ P i) ∧ s.1 = (j : Int))) _ 61 ⟨rfl, (thM_0 h8).1, (thM_0 h8).2, Or.inl ⟨rfl, fun i' q => by omega⟩⟩ (by omega) (fun i s hi hI => ?_) (fun s hI => ?_)
            · obtain ⟨y, z, M4⟩ := s
              obtain ⟨rfl, q1, q2, q3⟩ := hI
              dsimp only at q1 q2 q3 ⊢
              have wi : wr ((i : Int) + 1) = ((i + 1 : Nat) : Int) := (wr_i (by omega) (by omega)).trans (by omega)
              unfold mo_bid_b39
              refine Tc_f (by omega) ?_
              rcases q3 with ⟨rfl, q3⟩ | ⟨j, j1, j2, j3, j4, rfl⟩
              · refine Tc_f (by decide) ?_
                have run : ∀ M5 : MEM, offThM M3 M5 → thM (L i) M5 → Tc (mo_bid_j66_39 d how v (-2) i M5) (fun r => (∃ s', r = .inl s' ∧ (s'.2.1 = ((i + 1 : Nat) : Int) ∧ offThM M3 s'.2.2 ∧ thM [] s'.2.2 ∧ ((s'.1 = -2 ∧ ∀ i', i' < i + 1 → ¬ P i') ∨ ∃ j : Nat, j < i + 1 ∧ j < 61 ∧ P j ∧ (∀ i, i < j → ¬ P i) ∧ s'.1 = (j : Int)))) ∨ ∃ e, r = .inr e ∧ (fstB P e.1 ∧ offThM M3 e.2.2 ∧ thM [] e.2.2)) := fun M5 k1 k2 => by
                  obtain ⟨M6, e6, k3, k4, -, -, g3, g4⟩ := times_E h hB hd.2 (c4.sub (by decide)) k1 (hLo i) k2
                  obtain ⟨k5, k6⟩ := thM_clr k3
                  have hst := qL_ok h hB hd.2 (L i)
                  have ht := tmN_times (k := 1) hst (by decide) g3 g4
                  have eA : tmN (qL M d (L i)) 1 600 = A i := by rw [hA]
                  rw [eA] at ht
                  have hC := cnt_le hst (show 600 ≤ 1000000 by omega)
                  have hb := hAb i
                  have hPi := hPn i
                  have e38 : up2 M6 278 8 0 278 38 = M6 278 38 := rd_k (by decide)
                  have e293 : up2 M6 278 8 0 293 0 = M6 293 0 := rd_a (by decide)
                  have yes : P i → Tc (some (.inl ((i : Int), wr ((i : Int) + 1), up2 M6 278 8 0)) : Option ((Int × Int × MEM) ⊕ (Int × Int × MEM))) (fun r => (∃ s', r = .inl s' ∧ (s'.2.1 = ((i + 1 : Nat) : Int) ∧ offThM M3 s'.2.2 ∧ thM [] s'.2.2 ∧ ((s'.1 = -2 ∧ ∀ i', i' < i + 1 → ¬ P i') ∨ ∃ j : Nat, j < i + 1 ∧ j < 61 ∧ P j ∧ (∀ i, i < j → ¬ P i) ∧ s'.1 = (j : Int)))) ∨ ∃ e, r = .inr e ∧ (fstB P e.1 ∧ offThM M3 e.2.2 ∧ thM [] e.2.2)) := fun p => Tc_inlL ⟨wi, k5, k6, Or.inr ⟨i, by omega, hi, p, q3, rfl⟩⟩
                  have no : ¬ P i → Tc (some (.inl (-2, wr ((i : Int) + 1), up2 M6 278 8 0)) : Option ((Int × Int × MEM) ⊕ (Int × Int × MEM))) (fun r => (∃ s', r = .inl s' ∧ (s'.2.1 = ((i + 1 : Nat) : Int) ∧ offThM M3 s'.2.2 ∧ thM [] s'.2.2 ∧ ((s'.1 = -2 ∧ ∀ i', i' < i + 1 → ¬ P i') ∨ ∃ j : Nat, j < i + 1 ∧ j < 61 ∧ P j ∧ (∀ i, i < j → ¬ P i) ∧ s'.1 = (j : Int)))) ∨ ∃ e, r = .inr e ∧ (fstB P e.1 ∧ offThM M3 e.2.2 ∧ thM [] e.2.2)) := fun p => Tc_inlL ⟨wi, k5, k6, Or.inl ⟨rfl, fun i' hi' => by
                    by_cases e : i' = i
                    · subst e; exact p
                    · exact q3 i' (by omega)⟩⟩
                  have fin : ∀ nx, nx = (if A i < 0 then 601 else A i) → Tc (mo_bid_j97_39 d how v (-2) i nx (up2 M6 278 8 0)) (fun r => (∃ s', r = .inl s' ∧ (s'.2.1 = ((i + 1 : Nat) : Int) ∧ offThM M3 s'.2.2 ∧ thM [] s'.2.2 ∧ ((s'.1 = -2 ∧ ∀ i', i' < i + 1 → ¬ P i') ∨ ∃ j : Nat, j < i + 1 ∧ j < 61 ∧ P j ∧ (∀ i, i < j → ¬ P i) ∧ s'.1 = (j : Int)))) ∨ ∃ e, r = .inr e ∧ (fstB P e.1 ∧ offThM M3 e.2.2 ∧ thM [] e.2.2)) := fun nx hnx => by
                    unfold mo_bid_j97_39 mo_bid_j119_39 mo_bid_j123_39
                    generalize A i = a at *
                    rcases hw with rfl | rfl
                    · refine Tc_t rfl (Tc_i (fun c => no (fun p => ?_)) (fun c => yes (hPi.mpr ?_)))
                      · have := hPi.mp p
                        split at hnx <;> omega
                      · split at hnx <;> omega
                    · refine Tc_f (by decide) (Tc_i (fun c => no (fun p => ?_)) (fun c => yes (hPi.mpr ?_)))
                      · have := hPi.mp p
                        split at hnx <;> omega
                      · split at hnx <;> omega
                  unfold mo_bid_j66_39
                  refine Tc_e e6 (Tc_u ?_)
                  rw [e38, e293]
                  rw [show ((1 : Int) - 1).toNat = 0 from rfl] at ht
                  rcases ht with ⟨t1, t2, t3, t4⟩ | ⟨t1, t2⟩
                  · rw [wr_i (x := M6 293 0 + 1) (by omega) (by omega)]
                    refine Tc_f (by omega) (fin _ ?_)
                    rw [if_neg (by omega)]; omega
                  · refine Tc_t (by omega) (fin _ ?_)
                    rw [if_pos (by omega)]
                by_cases z : i = 0
                · refine Tc_t (by omega) (run M4 q1 ?_)
                  rw [hL]; dsimp only; rw [if_pos z]; exact q2
                · obtain ⟨M5, e5, k1, -, k2, -⟩ := moThink_eq (l := []) (d := d) (fr := 0) (n := (i : Int)) (how := how) h hB (c4.sub (by decide)) q1 (by simp) q2 (by omega) (by omega)
                  have e5 : mo_think 0 d 0 i how M4 = some M5 := e5
                  refine Tc_f (by omega) (Tc_e e5 (run M5 k1 ?_))
                  rw [hL]; dsimp only; rw [if_neg z]; exact k2
              · exact Tc_t (by omega) (Tc_inrR ⟨Or.inl ⟨j, j2, j3, j4, rfl⟩, q1, q2⟩)
            · obtain ⟨y, z, M4⟩ := s
              obtain ⟨rfl, q1, q2, q3⟩ := hI
              dsimp only at q1 q2 q3 ⊢
              unfold mo_bid_b39
              refine Tc_t (by omega) (Tc_inr ⟨?_, q1, q2⟩)
              rcases q3 with ⟨rfl, q3⟩ | ⟨j, j1, j2, j3, j4, rfl⟩
              · exact Or.inr ⟨q3, rfl⟩
              · exact Or.inl ⟨j, j2, j3, j4, rfl⟩
          refine Tc_c l2 (fun e he => Tc_some ⟨fstB_uniq he.1 hr, h.go0 (c4.tr (he.2.1.fin h8 he.2.2))⟩)
        rcases he with rfl | ⟨rfl, w, rfl⟩
        · exact Tc_some mo
        · exact Tc_some mo
      · refine Tc_t (far_n hv) (Tc_some ?_)
        dsimp only
        rw [hbid M c3]
        unfold mo_bid_j23
        exact Tc_t (moIn_n hv) (Tc_some ⟨rfl, h.go0 c3⟩)
    · refine Tc_t (isWay_n hw) (Tc_some ?_)
      unfold mo_bid
      exact Tc_u (Tc_f (by rw [moDonkey_y h.S (c3 278 1 (by decide)) hd]; decide) (Tc_f (by omega) (Tc_f (by omega) (Tc_some ⟨rfl, h.go0 c3⟩))))
  · refine Tc_t (isDonkey_n h.S.2.2.1 hd) (Tc_some ?_)
    unfold mo_bid
    exact Tc_u (Tc_t (moDonkey_n h.S (c3 278 1 (by decide)) hd) (Tc_some ⟨rfl, h.go0 c3⟩))
