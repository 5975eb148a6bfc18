abbrev HD_mo_goMinute_b17 (Δ : DT) (Γ : FT) (d : Nat) (a1 : Nat) (s : Int × MEM) : Prop := WAt Δ Γ false m_mo_goMinute (d + 1) 17 [vR (278), vR (a1), vI (s.1), vN] [] (NG, S0, s.2) 0 0
abbrev X_mo_goMinute_b17 (Δ : DT) (Γ : FT) (d : Nat) (a1 : Nat) (s : Int × MEM) : Prop := WAt Δ Γ false m_mo_goMinute (d + 1) 83 [vN, vR (a1), vN, vN] [] (NG, S0, s.2) 0 0
noncomputable def mo_goMinute_j55_17 (a1 : Nat) (x2 : Int) (x3 : Int) (M : MEM) : Option ((Int × MEM) ⊕ (Int × MEM)) :=
(mo_goSteps a1 x2 x3 M).bind fun M14 =>
if 0 ≤ x2 ∧ x2 < 3 then
(some (up2 M14 278 24 (wr ((M14 278 24) + (M14 287 (x2).toNat))))).bind fun M16 =>
some (.inl ((wr (x2 + 1)), M16))
else none
set_option maxRecDepth 20000 in
set_option maxHeartbeats 4000000 in
theorem J_mo_goMinute_j55_17 {Δ : DT} {Γ : FT} {d : Nat} (hd : 75 ≤ d + 1) {a1 : Nat} {x2 : Int} {x3 : Int} (h_a1 : isArr 0 (lenA a1) a1) {M : MEM} : J (mo_goMinute_j55_17 a1 x2 x3 M) (Sum.elim (HD_mo_goMinute_b17 Δ Γ d a1) (X_mo_goMinute_b17 Δ Γ d a1)) (WAt Δ Γ false m_mo_goMinute (d + 1) 55 [vR (278), vR (a1), vI (x2), vI (x3)] [] (NG, S0, M) 0 0) := by
  unfold mo_goMinute_j55_17
  refine J.mono (fun k => w_aload_n rfl rfl (w_aload_n rfl rfl (w_iload_n rfl rfl (w_iload_n rfl rfl k)))) ?_
  refine J_c (fun M14 e13 => ?_)
  refine J.mono (fun k => c_vv3 rfl (fun ho hM => cal_mo_goSteps (by omega) h_a1 e13 ho hM) v_mo_goSteps (Nat.le_of_ble_eq_true rfl) S_278 rfl (Nat.le_of_ble_eq_true rfl) (w_aload_n rfl rfl (w_dup rfl (fun _ h => by cases h) (w_getI rfl (Nat.le_of_ble_eq_true rfl) S_278 rfl (w_aload_n rfl rfl (w_getR (r := 287) rfl (Nat.le_of_ble_eq_true rfl) S_278 rfl (w_iload_n rfl rfl k))))))) ?_
  refine J_chk (fun hi15 => ?_)
  refine J.mono (fun k => w_iald rfl A_287.1 A_287.2 hi15.1 hi15.2 (w_iadd rfl k)) ?_
  refine J_b ?_
  refine J.mono (fun k => w_putI rfl (Nat.le_of_ble_eq_true rfl) S_278 rfl rfl (s_iinc2 rfl (Nat.le_of_ble_eq_true rfl) (w_goto rfl k))) ?_
  exact J_some (fun k => w_forget (wk_k (wk_k (wk_k (wk_d wk_0)))) k)
noncomputable def mo_goMinute_b17 (a1 : Nat) (x2 : Int) (M : MEM) : Option ((Int × MEM) ⊕ (Int × MEM)) :=
if (M 278 1) ≤ x2 then
some (.inr (x2, M))
else
if 0 ≤ x2 ∧ x2 < 3 then
(some (up2 M 287 (x2).toNat 0)).bind fun M5 =>
(mo_pace a1 x2 M5).bind fun p8 =>
if p8.1 = 0 then
(some (up2 p8.2 278 27 (ish i_or (p8.2 278 27) (ish i_shl 1 x2)))).bind fun M12 =>
mo_goMinute_j55_17 a1 x2 p8.1 M12
else
mo_goMinute_j55_17 a1 x2 p8.1 p8.2
else none
set_option maxRecDepth 20000 in
set_option maxHeartbeats 4000000 in
theorem Jb_mo_goMinute_b17 {Δ : DT} {Γ : FT} {d : Nat} (hd : 75 ≤ d + 1) {a1 : Nat} (h_a1 : isArr 0 (lenA a1) a1) {x2 : Int} {M : MEM} : J (mo_goMinute_b17 a1 x2 M) (Sum.elim (HD_mo_goMinute_b17 Δ Γ d a1) (X_mo_goMinute_b17 Δ Γ d a1)) (WAt Δ Γ false m_mo_goMinute (d + 1) 17 [vR (278), vR (a1), vI (x2), vN] [] (NG, S0, M) 0 0) := by
  unfold mo_goMinute_b17
  refine J.mono (fun k => w_iload_n rfl rfl (w_aload_n rfl rfl (w_getI rfl (Nat.le_of_ble_eq_true rfl) S_278 rfl k))) ?_
  refine J_ite (fun hc4 => ?_) (fun hc4 => ?_)
  · refine J.mono (fun k => s_icmp_ge_t rfl hc4 k) ?_
    exact J_some (fun k => w_forget (wk_d (wk_k (wk_d (wk_d wk_0)))) k)
  · refine J.mono (fun k => s_icmp_ge_f rfl hc4 (w_aload_n rfl rfl (w_getR (r := 287) rfl (Nat.le_of_ble_eq_true rfl) S_278 rfl (w_iload_n rfl rfl (w_iconst rfl (inR_c rfl) k))))) ?_
    refine J_chk (fun hi6 => ?_)
    refine J_b ?_
    refine J.mono (fun k => w_iast rfl A_287.1 A_287.2 hi6.1 hi6.2 rfl (w_aload_n rfl rfl (w_aload_n rfl rfl (w_iload_n rfl rfl k)))) ?_
    refine J_c (fun p8 e7 => ?_)
    refine J_hyp (fun k => c_vi2 rfl (fun ho hM => cal_mo_pace (by omega) h_a1 e7 ho hM) v_mo_pace (Nat.le_of_ble_eq_true rfl) S_278 rfl (Nat.le_of_ble_eq_true rfl) k) (fun hr9 hb10 => ?_)
    refine J.mono (fun k => s_istore3 rfl (Nat.le_of_ble_eq_true rfl) (w_iload_n rfl rfl k)) ?_
    refine J_ite (fun hc11 => ?_) (fun hc11 => ?_)
    · refine J.mono (fun k => s_if_ne_f rfl hc11 (w_aload_n rfl rfl (w_dup rfl (fun _ h => by cases h) (w_getI rfl (Nat.le_of_ble_eq_true rfl) S_278 rfl (w_iconst rfl (inR_c rfl) (w_iload_n rfl rfl (w_ishl rfl (w_ior rfl k)))))))) ?_
      refine J_b ?_
      refine J.mono (fun k => w_putI rfl (Nat.le_of_ble_eq_true rfl) S_278 rfl rfl k) ?_
      exact J.mono (fun k => w_forget (wk_k (wk_k (wk_k (wk_k wk_0)))) k) (J_mo_goMinute_j55_17 hd h_a1)
    · refine J.mono (fun k => s_if_ne_t rfl hc11 k) ?_
      exact J.mono (fun k => w_forget (wk_k (wk_k (wk_k (wk_k wk_0)))) k) (J_mo_goMinute_j55_17 hd h_a1)
set_option maxRecDepth 20000 in
set_option maxHeartbeats 4000000 in
theorem Jl_mo_goMinute_b17 {Δ : DT} {Γ : FT} {d : Nat} (hd : 75 ≤ d + 1) {a1 : Nat} (h_a1 : isArr 0 (lenA a1) a1)  : ∀ (n : Nat) (s : Int × MEM), J (iter (fun s => mo_goMinute_b17 a1 s.1 s.2) n s) (X_mo_goMinute_b17 Δ Γ d a1) (HD_mo_goMinute_b17 Δ Γ d a1 s) := J_iter (fun s => Jb_mo_goMinute_b17 hd h_a1)
noncomputable def mo_goMinute (a1 : Nat) (M : MEM) : Option (MEM) :=
(some (up2 M 278 24 0)).bind fun M1 =>
(some (up2 M1 278 26 0)).bind fun M2 =>
(some (up2 M2 278 27 0)).bind fun M3 =>
(iter (fun s => mo_goMinute_b17 a1 s.1 s.2) FU (0, M3)).bind fun w17 =>
if 0 ≤ (165 : Int) ∧ (165 : Int) < (lenA a1) then
if 0 ≤ (165 : Int) ∧ (165 : Int) < (lenA a1) then
(some (up2 w17.2 a1 ((165 : Int)).toNat (wr ((w17.2 a1 ((165 : Int)).toNat) + 1)))).bind fun M19 =>
some M19
else none
else none
set_option maxRecDepth 20000 in
set_option maxHeartbeats 4000000 in
theorem J_mo_goMinute {Δ : DT} {Γ : FT} {d : Nat} (hd : 75 ≤ d + 1) {a1 : Nat} (h_a1 : isArr 0 (lenA a1) a1) {M : MEM} : J (mo_goMinute a1 M) (K_M Δ Γ m_mo_goMinute) (WAt Δ Γ false m_mo_goMinute (d + 1) 0 [vR (278), vR (a1), vN, vN] [] (NG, S0, M) 0 0) := by
  unfold mo_goMinute
  refine J.mono (fun k => w_aload_n rfl rfl (w_iconst rfl (inR_c rfl) k)) ?_
  refine J_b ?_
  refine J.mono (fun k => w_putI rfl (Nat.le_of_ble_eq_true rfl) S_278 rfl rfl (w_aload_n rfl rfl (w_iconst rfl (inR_c rfl) k))) ?_
  refine J_b ?_
  refine J.mono (fun k => w_putI rfl (Nat.le_of_ble_eq_true rfl) S_278 rfl rfl (w_aload_n rfl rfl (w_iconst rfl (inR_c rfl) k))) ?_
  refine J_b ?_
  refine J.mono (fun k => w_putI rfl (Nat.le_of_ble_eq_true rfl) S_278 rfl rfl (w_iconst rfl (inR_c rfl) (s_istore2 rfl (Nat.le_of_ble_eq_true rfl) k))) ?_
  refine J.mono (fun k => w_forget (wk_k (wk_k (wk_k (wk_d wk_0)))) k) ?_
  refine J_loop (Jl_mo_goMinute_b17 hd h_a1 _ _) (fun w17 => ?_)
  refine J.mono (fun k => w_aload_n rfl rfl (w_sipush rfl (sip_c rfl) (w_dup2 rfl (fun _ h => by cases h) (fun _ h => by cases h) k))) ?_
  refine J_chk (fun hi18 => ?_)
  refine J.mono (fun k => w_iald rfl h_a1.1 h_a1.2 hi18.1 hi18.2 (w_iconst rfl (inR_c rfl) (w_iadd rfl k))) ?_
  refine J_chk (fun hi20 => ?_)
  refine J_b ?_
  refine J.mono (fun k => w_iast rfl h_a1.1 h_a1.2 hi20.1 hi20.2 rfl k) ?_
  exact J_some (fun k => w_return rfl rfl k)
set_option maxRecDepth 20000 in
set_option maxHeartbeats 4000000 in
theorem cal_mo_goMinute {Δ : DT} {d : Nat} (hd : 75 ≤ d) {a1 : Nat} (h_a1 : isArr 0 (lenA a1) a1) {M : MEM} {M1 : MEM} (h : mo_goMinute a1 M = some M1) (ho : okVs [vR 278, vR a1]) (hM : okM M) : Cal Δ false m_mo_goMinute d [vR 278, vR a1] (NG, S0, M) none (NG, S0, M1) 0 0 := by
  obtain ⟨d, rfl⟩ : ∃ e, d = e + 1 := ⟨d - 1, by omega⟩
  exact cal_of g_mo_goMinute p_mo_goMinute (fun v hv => by simp only [List.mem_cons, List.not_mem_nil, or_false] at hv; rcases hv with rfl | rfl <;> first | exact Or.inl ⟨_, rfl⟩ | exact Or.inr ⟨_, rfl⟩) ho hM (Nat.le_of_ble_eq_true rfl) (fun Γ _ k => J_mo_goMinute hd h_a1 _ h k)
abbrev HD_mo_layAll_b2 (Δ : DT) (Γ : FT) (d : Nat) (a1 : Nat) (x2 : Int) (s : Int × MEM) : Prop := WAt Δ Γ false m_mo_layAll d 2 [vR (278), vR (a1), vI (x2), vI (s.1)] [] (NG, S0, s.2) 0 0
abbrev X_mo_layAll_b2 (Δ : DT) (Γ : FT) (d : Nat) (a1 : Nat) (x2 : Int) (s : Int × MEM) : Prop := WAt Δ Γ false m_mo_layAll d 26 [vR (278), vR (a1), vI (x2), vN] [] (NG, S0, s.2) 0 0
noncomputable def mo_layAll_b2 (a1 : Nat) (x2 : Int) (x3 : Int) (M : MEM) : Option ((Int × MEM) ⊕ (Int × MEM)) :=
if 166 ≤ x3 then
some (.inr (x3, M))
else
if 0 ≤ x3 ∧ x3 < 166 then
if 0 ≤ (wr (x2 + x3)) ∧ (wr (x2 + x3)) < (lenA a1) then
(some (up2 M a1 ((wr (x2 + x3))).toNat (M 279 (x3).toNat))).bind fun M3 =>
some (.inl ((wr (x3 + 1)), M3))
else none
else none
set_option maxRecDepth 20000 in
set_option maxHeartbeats 4000000 in
theorem Jb_mo_layAll_b2 {Δ : DT} {Γ : FT} {d : Nat} {a1 : Nat} {x2 : Int} (h_a1 : isArr 0 (lenA a1) a1) {x3 : Int} {M : MEM} : J (mo_layAll_b2 a1 x2 x3 M) (Sum.elim (HD_mo_layAll_b2 Δ Γ d a1 x2) (X_mo_layAll_b2 Δ Γ d a1 x2)) (WAt Δ Γ false m_mo_layAll d 2 [vR (278), vR (a1), vI (x2), vI (x3)] [] (NG, S0, M) 0 0) := by
  unfold mo_layAll_b2
  refine J.mono (fun k => w_iload_n rfl rfl (w_sipush rfl (sip_c rfl) k)) ?_
  refine J_ite (fun hc1 => ?_) (fun hc1 => ?_)
  · refine J.mono (fun k => s_icmp_ge_t rfl hc1 k) ?_
    exact J_some (fun k => w_forget (wk_k (wk_k (wk_k (wk_d wk_0)))) k)
  · refine J.mono (fun k => s_icmp_ge_f rfl hc1 (w_aload_n rfl rfl (w_iload_n rfl rfl (w_iload_n rfl rfl (w_iadd rfl (w_aload_n rfl rfl (w_getR (r := 279) rfl (Nat.le_of_ble_eq_true rfl) S_278 rfl (w_iload_n rfl rfl k)))))))) ?_
    refine J_chk (fun hi2 => ?_)
    refine J.mono (fun k => w_iald rfl A_279.1 A_279.2 hi2.1 hi2.2 k) ?_
    refine J_chk (fun hi4 => ?_)
    refine J_b ?_
    refine J.mono (fun k => w_iast rfl h_a1.1 h_a1.2 hi4.1 hi4.2 rfl (s_iinc3 rfl (Nat.le_of_ble_eq_true rfl) (w_goto rfl k))) ?_
    exact J_some (fun k => w_forget (wk_k (wk_k (wk_k (wk_k wk_0)))) k)
set_option maxRecDepth 20000 in
set_option maxHeartbeats 4000000 in
theorem Jl_mo_layAll_b2 {Δ : DT} {Γ : FT} {d : Nat} {a1 : Nat} {x2 : Int} (h_a1 : isArr 0 (lenA a1) a1)  : ∀ (n : Nat) (s : Int × MEM), J (iter (fun s => mo_layAll_b2 a1 x2 s.1 s.2) n s) (X_mo_layAll_b2 Δ Γ d a1 x2) (HD_mo_layAll_b2 Δ Γ d a1 x2 s) := J_iter (fun s => Jb_mo_layAll_b2 h_a1)
abbrev HD_mo_layAll_b39 (Δ : DT) (Γ : FT) (d : Nat) (a1 : Nat) (x2 : Int) (s : Int × MEM) : Prop := WAt Δ Γ false m_mo_layAll d 39 [vR (278), vR (a1), vI (x2), vI (s.1)] [] (NG, S0, s.2) 0 0
abbrev X_mo_layAll_b39 (Δ : DT) (Γ : FT) (d : Nat) (a1 : Nat) (x2 : Int) (s : Int × MEM) : Prop := WAt Δ Γ false m_mo_layAll d 68 [vN, vN, vN, vN] [] (NG, S0, s.2) 0 0
noncomputable def mo_layAll_b39 (a1 : Nat) (x2 : Int) (x3 : Int) (M : MEM) : Option ((Int × MEM) ⊕ (Int × MEM)) :=
if 40 ≤ x3 then
some (.inr (x3, M))
else
if 0 ≤ x3 ∧ x3 < 48 then
if 0 ≤ (wr ((wr ((wr (x2 + 166)) + 1)) + x3)) ∧ (wr ((wr ((wr (x2 + 166)) + 1)) + x3)) < (lenA a1) then
(some (up2 M a1 ((wr ((wr ((wr (x2 + 166)) + 1)) + x3))).toNat (M 282 (x3).toNat))).bind fun M10 =>
some (.inl ((wr (x3 + 1)), M10))
else none
else none
set_option maxRecDepth 20000 in
set_option maxHeartbeats 4000000 in
theorem Jb_mo_layAll_b39 {Δ : DT} {Γ : FT} {d : Nat} {a1 : Nat} {x2 : Int} (h_a1 : isArr 0 (lenA a1) a1) {x3 : Int} {M : MEM} : J (mo_layAll_b39 a1 x2 x3 M) (Sum.elim (HD_mo_layAll_b39 Δ Γ d a1 x2) (X_mo_layAll_b39 Δ Γ d a1 x2)) (WAt Δ Γ false m_mo_layAll d 39 [vR (278), vR (a1), vI (x2), vI (x3)] [] (NG, S0, M) 0 0) := by
  unfold mo_layAll_b39
  refine J.mono (fun k => w_iload_n rfl rfl (w_bipush rfl (bip_c rfl) k)) ?_
  refine J_ite (fun hc8 => ?_) (fun hc8 => ?_)
  · refine J.mono (fun k => s_icmp_ge_t rfl hc8 k) ?_
    exact J_some (fun k => w_forget (wk_d (wk_d (wk_d (wk_d wk_0)))) k)
  · refine J.mono (fun k => s_icmp_ge_f rfl hc8 (w_aload_n rfl rfl (w_iload_n rfl rfl (w_sipush rfl (sip_c rfl) (w_iadd rfl (w_iconst rfl (inR_c rfl) (w_iadd rfl (w_iload_n rfl rfl (w_iadd rfl (w_aload_n rfl rfl (w_getR (r := 282) rfl (Nat.le_of_ble_eq_true rfl) S_278 rfl (w_iload_n rfl rfl k)))))))))))) ?_
    refine J_chk (fun hi9 => ?_)
    refine J.mono (fun k => w_iald rfl A_282.1 A_282.2 hi9.1 hi9.2 k) ?_
    refine J_chk (fun hi11 => ?_)
    refine J_b ?_
    refine J.mono (fun k => w_iast rfl h_a1.1 h_a1.2 hi11.1 hi11.2 rfl (s_iinc3 rfl (Nat.le_of_ble_eq_true rfl) (w_goto rfl k))) ?_
    exact J_some (fun k => w_forget (wk_k (wk_k (wk_k (wk_k wk_0)))) k)
set_option maxRecDepth 20000 in
set_option maxHeartbeats 4000000 in
theorem Jl_mo_layAll_b39 {Δ : DT} {Γ : FT} {d : Nat} {a1 : Nat} {x2 : Int} (h_a1 : isArr 0 (lenA a1) a1)  : ∀ (n : Nat) (s : Int × MEM), J (iter (fun s => mo_layAll_b39 a1 x2 s.1 s.2) n s) (X_mo_layAll_b39 Δ Γ d a1 x2) (HD_mo_layAll_b39 Δ Γ d a1 x2 s) := J_iter (fun s => Jb_mo_layAll_b39 h_a1)
noncomputable def mo_layAll (a1 : Nat) (x2 : Int) (M : MEM) : Option (MEM) :=
(iter (fun s => mo_layAll_b2 a1 x2 s.1 s.2) FU (0, M)).bind fun w5 =>
if 0 ≤ (wr (x2 + 166)) ∧ (wr (x2 + 166)) < (lenA a1) then
(some (up2 w5.2 a1 ((wr (x2 + 166))).toNat (w5.2 278 7))).bind fun M6 =>
(iter (fun s => mo_layAll_b39 a1 x2 s.1 s.2) FU (0, M6)).bind fun w12 =>
some w12.2
else none
set_option maxRecDepth 20000 in
set_option maxHeartbeats 4000000 in
theorem J_mo_layAll {Δ : DT} {Γ : FT} {d : Nat} {a1 : Nat} {x2 : Int} (h_a1 : isArr 0 (lenA a1) a1) {M : MEM} : J (mo_layAll a1 x2 M) (K_M Δ Γ m_mo_layAll) (WAt Δ Γ false m_mo_layAll d 0 [vR (278), vR (a1), vI (x2), vN] [] (NG, S0, M) 0 0) := by
  unfold mo_layAll
  refine J.mono (fun k => w_iconst rfl (inR_c rfl) (s_istore3 rfl (Nat.le_of_ble_eq_true rfl) k)) ?_
  refine J.mono (fun k => w_forget (wk_k (wk_k (wk_k (wk_k wk_0)))) k) ?_
  refine J_loop (Jl_mo_layAll_b2 h_a1 _ _) (fun w5 => ?_)
  refine J.mono (fun k => w_aload_n rfl rfl (w_iload_n rfl rfl (w_sipush rfl (sip_c rfl) (w_iadd rfl (w_aload_n rfl rfl (w_getI rfl (Nat.le_of_ble_eq_true rfl) S_278 rfl k)))))) ?_
  refine J_chk (fun hi7 => ?_)
  refine J_b ?_
  refine J.mono (fun k => w_iast rfl h_a1.1 h_a1.2 hi7.1 hi7.2 rfl (w_iconst rfl (inR_c rfl) (s_istore3 rfl (Nat.le_of_ble_eq_true rfl) k))) ?_
  refine J.mono (fun k => w_forget (wk_k (wk_k (wk_k (wk_k wk_0)))) k) ?_
  refine J_loop (Jl_mo_layAll_b39 h_a1 _ _) (fun w12 => ?_)
  exact J_some (fun k => w_return rfl rfl k)
set_option maxRecDepth 20000 in
set_option maxHeartbeats 4000000 in
theorem cal_mo_layAll {Δ : DT} {d : Nat} (hd : 0 ≤ d) {a1 : Nat} {x2 : Int} (h_a1 : isArr 0 (lenA a1) a1) {M : MEM} {M1 : MEM} (h : mo_layAll a1 x2 M = some M1) (ho : okVs [vR 278, vR a1, vI x2]) (hM : okM M) : Cal Δ false m_mo_layAll d [vR 278, vR a1, vI x2] (NG, S0, M) none (NG, S0, M1) 0 0 := by
  exact cal_of g_mo_layAll p_mo_layAll (fun v hv => by simp only [List.mem_cons, List.not_mem_nil, or_false] at hv; rcases hv with rfl | rfl | rfl <;> first | exact Or.inl ⟨_, rfl⟩ | exact Or.inr ⟨_, rfl⟩) ho hM (Nat.le_of_ble_eq_true rfl) (fun Γ _ k => J_mo_layAll h_a1 _ h k)
noncomputable def mo_layAside_j25 (s1 : Int) (s2 : Int) (M : MEM) : Option (MEM) :=
if 0 ≤ s1 ∧ s1 < 208 then
(some (up2 M 289 (s1).toNat s2)).bind fun M4 =>
some M4
else none
set_option maxRecDepth 20000 in
set_option maxHeartbeats 4000000 in
theorem J_mo_layAside_j25 {Δ : DT} {Γ : FT} {d : Nat} (hd : 1 ≤ d + 1) {s1 : Int} {s2 : Int}  {M : MEM} : J (mo_layAside_j25 s1 s2 M) (K_M Δ Γ m_mo_layAside) (WAt Δ Γ false m_mo_layAside (d + 1) 25 [vN, vN] [vI (s2), vI (s1), vR (289)] (NG, S0, M) 0 0) := by
  unfold mo_layAside_j25
  refine J_chk (fun hi5 => ?_)
  refine J_b ?_
  refine J.mono (fun k => w_iast rfl A_289.1 A_289.2 hi5.1 hi5.2 rfl k) ?_
  exact J_some (fun k => w_return rfl rfl k)
noncomputable def mo_layAside (x1 : Int) (M : MEM) : Option (MEM) :=
(mo_layAll 289 0 M).bind fun M2 =>
if x1 = 0 then
mo_layAside_j25 207 0 M2
else
mo_layAside_j25 207 1 M2
set_option maxRecDepth 20000 in
set_option maxHeartbeats 4000000 in
theorem J_mo_layAside {Δ : DT} {Γ : FT} {d : Nat} (hd : 1 ≤ d + 1) {x1 : Int}  {M : MEM} : J (mo_layAside x1 M) (K_M Δ Γ m_mo_layAside) (WAt Δ Γ false m_mo_layAside (d + 1) 0 [vR (278), vI (x1)] [] (NG, S0, M) 0 0) := by
  unfold mo_layAside
  refine J.mono (fun k => w_aload_n rfl rfl (w_aload_n rfl rfl (w_getR (r := 289) rfl (Nat.le_of_ble_eq_true rfl) S_278 rfl (w_iconst rfl (inR_c rfl) k)))) ?_
  refine J_c (fun M2 e1 => ?_)
  refine J.mono (fun k => c_vv2 rfl (fun ho hM => cal_mo_layAll (by omega) (isArr_len A_289) e1 ho hM) v_mo_layAll (Nat.le_of_ble_eq_true rfl) S_278 rfl (Nat.le_of_ble_eq_true rfl) (w_aload_n rfl rfl (w_getR (r := 289) rfl (Nat.le_of_ble_eq_true rfl) S_278 rfl (w_sipush rfl (sip_c rfl) (w_iload_n rfl rfl k))))) ?_
  refine J_ite (fun hc3 => ?_) (fun hc3 => ?_)
  · refine J.mono (fun k => s_if_eq_t rfl hc3 (w_iconst rfl (inR_c rfl) k)) ?_
    exact J.mono (fun k => w_forget (wk_d (wk_d wk_0)) k) (J_mo_layAside_j25 hd )
  · refine J.mono (fun k => s_if_eq_f rfl hc3 (w_iconst rfl (inR_c rfl) (w_goto rfl k))) ?_
    exact J.mono (fun k => w_forget (wk_d (wk_d wk_0)) k) (J_mo_layAside_j25 hd )
set_option maxRecDepth 20000 in
set_option maxHeartbeats 4000000 in
theorem cal_mo_layAside {Δ : DT} {d : Nat} (hd : 1 ≤ d) {x1 : Int}  {M : MEM} {M1 : MEM} (h : mo_layAside x1 M = some M1) (ho : okVs [vR 278, vI x1]) (hM : okM M) : Cal Δ false m_mo_layAside d [vR 278, vI x1] (NG, S0, M) none (NG, S0, M1) 0 0 := by
  obtain ⟨d, rfl⟩ : ∃ e, d = e + 1 := ⟨d - 1, by omega⟩
  exact cal_of g_mo_layAside p_mo_layAside (fun v hv => by simp only [List.mem_cons, List.not_mem_nil, or_false] at hv; rcases hv with rfl | rfl <;> first | exact Or.inl ⟨_, rfl⟩ | exact Or.inr ⟨_, rfl⟩) ho hM (Nat.le_of_ble_eq_true rfl) (fun Γ _ k => J_mo_layAside hd  _ h k)
abbrev HD_mo_remember_b15 (Δ : DT) (Γ : FT) (d : Nat) (x1 : Int) (s : Int × MEM) : Prop := WAt Δ Γ false m_mo_remember d 15 [vR (278), vI (x1), vI (s.1)] [] (NG, S0, s.2) 0 0
abbrev X_mo_remember_b15 (Δ : DT) (Γ : FT) (d : Nat) (x1 : Int) (s : Int × MEM) : Prop := WAt Δ Γ false m_mo_remember d 43 [vR (278), vI (x1), vN] [] (NG, S0, s.2) 0 0
noncomputable def mo_remember_b15 (x1 : Int) (x2 : Int) (M : MEM) : Option ((Int × MEM) ⊕ (Int × MEM)) :=
if (wr (x1 * 9)) ≤ x2 then
some (.inr (x2, M))
else
if 0 ≤ (wr (x2 + x1)) ∧ (wr (x2 + x1)) < 2080 then
if 0 ≤ x2 ∧ x2 < 2080 then
(some (up2 M 288 (x2).toNat (M 288 ((wr (x2 + x1))).toNat))).bind fun M4 =>
some (.inl ((wr (x2 + 1)), M4))
else none
else none
set_option maxRecDepth 20000 in
set_option maxHeartbeats 4000000 in
theorem Jb_mo_remember_b15 {Δ : DT} {Γ : FT} {d : Nat} {x1 : Int}  {x2 : Int} {M : MEM} : J (mo_remember_b15 x1 x2 M) (Sum.elim (HD_mo_remember_b15 Δ Γ d x1) (X_mo_remember_b15 Δ Γ d x1)) (WAt Δ Γ false m_mo_remember d 15 [vR (278), vI (x1), vI (x2)] [] (NG, S0, M) 0 0) := by
  unfold mo_remember_b15
  refine J.mono (fun k => w_iload_n rfl rfl (w_iload_n rfl rfl (w_bipush rfl (bip_c rfl) (w_imul rfl k)))) ?_
  refine J_ite (fun hc2 => ?_) (fun hc2 => ?_)
  · refine J.mono (fun k => s_icmp_ge_t rfl hc2 k) ?_
    exact J_some (fun k => w_forget (wk_k (wk_k (wk_d wk_0))) k)
  · refine J.mono (fun k => s_icmp_ge_f rfl hc2 (w_aload_n rfl rfl (w_getR (r := 288) rfl (Nat.le_of_ble_eq_true rfl) S_278 rfl (w_iload_n rfl rfl (w_aload_n rfl rfl (w_getR (r := 288) rfl (Nat.le_of_ble_eq_true rfl) S_278 rfl (w_iload_n rfl rfl (w_iload_n rfl rfl (w_iadd rfl k))))))))) ?_
    refine J_chk (fun hi3 => ?_)
    refine J.mono (fun k => w_iald rfl A_288.1 A_288.2 hi3.1 hi3.2 k) ?_
    refine J_chk (fun hi5 => ?_)
    refine J_b ?_
    refine J.mono (fun k => w_iast rfl A_288.1 A_288.2 hi5.1 hi5.2 rfl (s_iinc2 rfl (Nat.le_of_ble_eq_true rfl) (w_goto rfl k))) ?_
    exact J_some (fun k => w_forget (wk_k (wk_k (wk_k wk_0))) k)
set_option maxRecDepth 20000 in
set_option maxHeartbeats 4000000 in
theorem Jl_mo_remember_b15 {Δ : DT} {Γ : FT} {d : Nat} {x1 : Int}   : ∀ (n : Nat) (s : Int × MEM), J (iter (fun s => mo_remember_b15 x1 s.1 s.2) n s) (X_mo_remember_b15 Δ Γ d x1) (HD_mo_remember_b15 Δ Γ d x1 s) := J_iter (fun s => Jb_mo_remember_b15 )
abbrev HD_mo_remember_b55 (Δ : DT) (Γ : FT) (d : Nat) (x1 : Int) (s : Int × MEM) : Prop := WAt Δ Γ false m_mo_remember d 55 [vR (278), vI (x1), vI (s.1)] [] (NG, S0, s.2) 0 0
abbrev X_mo_remember_b55 (Δ : DT) (Γ : FT) (d : Nat) (x1 : Int) (s : Int × MEM) : Prop := WAt Δ Γ false m_mo_remember d 85 [vR (278), vN, vN] [] (NG, S0, s.2) 0 0
noncomputable def mo_remember_b55 (x1 : Int) (x2 : Int) (M : MEM) : Option ((Int × MEM) ⊕ (Int × MEM)) :=
if x1 ≤ x2 then
some (.inr (x2, M))
else
if 0 ≤ x2 ∧ x2 < 208 then
if 0 ≤ (wr ((wr (x1 * (M 278 31))) + x2)) ∧ (wr ((wr (x1 * (M 278 31))) + x2)) < 2080 then
(some (up2 M 288 ((wr ((wr (x1 * (M 278 31))) + x2))).toNat (M 289 (x2).toNat))).bind fun M10 =>
some (.inl ((wr (x2 + 1)), M10))
else none
else none
set_option maxRecDepth 20000 in
set_option maxHeartbeats 4000000 in
theorem Jb_mo_remember_b55 {Δ : DT} {Γ : FT} {d : Nat} {x1 : Int}  {x2 : Int} {M : MEM} : J (mo_remember_b55 x1 x2 M) (Sum.elim (HD_mo_remember_b55 Δ Γ d x1) (X_mo_remember_b55 Δ Γ d x1)) (WAt Δ Γ false m_mo_remember d 55 [vR (278), vI (x1), vI (x2)] [] (NG, S0, M) 0 0) := by
  unfold mo_remember_b55
  refine J.mono (fun k => w_iload_n rfl rfl (w_iload_n rfl rfl k)) ?_
  refine J_ite (fun hc8 => ?_) (fun hc8 => ?_)
  · refine J.mono (fun k => s_icmp_ge_t rfl hc8 k) ?_
    exact J_some (fun k => w_forget (wk_k (wk_d (wk_d wk_0))) k)
  · refine J.mono (fun k => s_icmp_ge_f rfl hc8 (w_aload_n rfl rfl (w_getR (r := 288) rfl (Nat.le_of_ble_eq_true rfl) S_278 rfl (w_iload_n rfl rfl (w_aload_n rfl rfl (w_getI rfl (Nat.le_of_ble_eq_true rfl) S_278 rfl (w_imul rfl (w_iload_n rfl rfl (w_iadd rfl (w_aload_n rfl rfl (w_getR (r := 289) rfl (Nat.le_of_ble_eq_true rfl) S_278 rfl (w_iload_n rfl rfl k)))))))))))) ?_
    refine J_chk (fun hi9 => ?_)
    refine J.mono (fun k => w_iald rfl A_289.1 A_289.2 hi9.1 hi9.2 k) ?_
    refine J_chk (fun hi11 => ?_)
    refine J_b ?_
    refine J.mono (fun k => w_iast rfl A_288.1 A_288.2 hi11.1 hi11.2 rfl (s_iinc2 rfl (Nat.le_of_ble_eq_true rfl) (w_goto rfl k))) ?_
    exact J_some (fun k => w_forget (wk_k (wk_k (wk_k wk_0))) k)
set_option maxRecDepth 20000 in
set_option maxHeartbeats 4000000 in
theorem Jl_mo_remember_b55 {Δ : DT} {Γ : FT} {d : Nat} {x1 : Int}   : ∀ (n : Nat) (s : Int × MEM), J (iter (fun s => mo_remember_b55 x1 s.1 s.2) n s) (X_mo_remember_b55 Δ Γ d x1) (HD_mo_remember_b55 Δ Γ d x1 s) := J_iter (fun s => Jb_mo_remember_b55 )
noncomputable def mo_remember_j53 (x1 : Int) (M : MEM) : Option (MEM) :=
(iter (fun s => mo_remember_b55 x1 s.1 s.2) FU (0, M)).bind fun w12 =>
(some (up2 w12.2 278 31 (wr ((w12.2 278 31) + 1)))).bind fun M13 =>
some M13
set_option maxRecDepth 20000 in
set_option maxHeartbeats 4000000 in
theorem J_mo_remember_j53 {Δ : DT} {Γ : FT} {d : Nat} {x1 : Int}  {M : MEM} : J (mo_remember_j53 x1 M) (K_M Δ Γ m_mo_remember) (WAt Δ Γ false m_mo_remember d 53 [vR (278), vI (x1), vN] [] (NG, S0, M) 0 0) := by
  unfold mo_remember_j53
  refine J.mono (fun k => w_iconst rfl (inR_c rfl) (s_istore2 rfl (Nat.le_of_ble_eq_true rfl) k)) ?_
  refine J.mono (fun k => w_forget (wk_k (wk_k (wk_k wk_0))) k) ?_
  refine J_loop (Jl_mo_remember_b55  _ _) (fun w12 => ?_)
  refine J.mono (fun k => w_aload_n rfl rfl (w_dup rfl (fun _ h => by cases h) (w_getI rfl (Nat.le_of_ble_eq_true rfl) S_278 rfl (w_iconst rfl (inR_c rfl) (w_iadd rfl k))))) ?_
  refine J_b ?_
  refine J.mono (fun k => w_putI rfl (Nat.le_of_ble_eq_true rfl) S_278 rfl rfl k) ?_
  exact J_some (fun k => w_return rfl rfl k)
noncomputable def mo_remember  (M : MEM) : Option (MEM) :=
if (M 278 31) = 10 then
(iter (fun s => mo_remember_b15 208 s.1 s.2) FU (0, M)).bind fun w6 =>
(some (up2 w6.2 278 31 (wr ((w6.2 278 31) - 1)))).bind fun M7 =>
mo_remember_j53 208 M7
else
mo_remember_j53 208 M
set_option maxRecDepth 20000 in
set_option maxHeartbeats 4000000 in
theorem J_mo_remember {Δ : DT} {Γ : FT} {d : Nat}   {M : MEM} : J (mo_remember M) (K_M Δ Γ m_mo_remember) (WAt Δ Γ false m_mo_remember d 0 [vR (278), vN, vN] [] (NG, S0, M) 0 0) := by
  unfold mo_remember
  refine J.mono (fun k => w_sipush rfl (sip_c rfl) (s_istore1 rfl (Nat.le_of_ble_eq_true rfl) (w_aload_n rfl rfl (w_getI rfl (Nat.le_of_ble_eq_true rfl) S_278 rfl (w_bipush rfl (bip_c rfl) k))))) ?_
  refine J_ite (fun hc1 => ?_) (fun hc1 => ?_)
  · refine J.mono (fun k => s_icmp_ne_f rfl hc1 (w_iconst rfl (inR_c rfl) (s_istore2 rfl (Nat.le_of_ble_eq_true rfl) k))) ?_
    refine J.mono (fun k => w_forget (wk_k (wk_k (wk_k wk_0))) k) ?_
    refine J_loop (Jl_mo_remember_b15  _ _) (fun w6 => ?_)
    refine J.mono (fun k => w_aload_n rfl rfl (w_dup rfl (fun _ h => by cases h) (w_getI rfl (Nat.le_of_ble_eq_true rfl) S_278 rfl (w_iconst rfl (inR_c rfl) (w_isub rfl k))))) ?_
    refine J_b ?_
    refine J.mono (fun k => w_putI rfl (Nat.le_of_ble_eq_true rfl) S_278 rfl rfl k) ?_
    exact J.mono (fun k => w_forget (wk_k (wk_k (wk_d wk_0))) k) (J_mo_remember_j53 )
  · refine J.mono (fun k => s_icmp_ne_t rfl hc1 k) ?_
    exact J.mono (fun k => w_forget (wk_k (wk_k (wk_d wk_0))) k) (J_mo_remember_j53 )
set_option maxRecDepth 20000 in
set_option maxHeartbeats 4000000 in
theorem cal_mo_remember {Δ : DT} {d : Nat} (hd : 0 ≤ d)   {M : MEM} {M1 : MEM} (h : mo_remember M = some M1) (ho : okVs [vR 278]) (hM : okM M) : Cal Δ false m_mo_remember d [vR 278] (NG, S0, M) none (NG, S0, M1) 0 0 := by
  exact cal_of g_mo_remember p_mo_remember (fun v hv => by simp only [List.mem_cons, List.not_mem_nil, or_false] at hv; rcases hv with rfl <;> first | exact Or.inl ⟨_, rfl⟩ | exact Or.inr ⟨_, rfl⟩) ho hM (Nat.le_of_ble_eq_true rfl) (fun Γ _ k => J_mo_remember  _ h k)
noncomputable def mo_tell (x1 : Int) (M : MEM) : Option (MEM) :=
if 0 ≤ (M 278 12) ∧ (M 278 12) < 16 then
(some (up2 M 284 ((M 278 12)).toNat x1)).bind fun M1 =>
(some (up2 M1 278 12 (wr ((M1 278 12) + 1)))).bind fun M3 =>
some M3
else none
set_option maxRecDepth 20000 in
set_option maxHeartbeats 4000000 in
theorem J_mo_tell {Δ : DT} {Γ : FT} {d : Nat} {x1 : Int}  {M : MEM} : J (mo_tell x1 M) (K_M Δ Γ m_mo_tell) (WAt Δ Γ false m_mo_tell d 0 [vR (278), vI (x1)] [] (NG, S0, M) 0 0) := by
  unfold mo_tell
  refine J.mono (fun k => w_aload_n rfl rfl (w_getR (r := 284) rfl (Nat.le_of_ble_eq_true rfl) S_278 rfl (w_aload_n rfl rfl (w_getI rfl (Nat.le_of_ble_eq_true rfl) S_278 rfl (w_iload_n rfl rfl k))))) ?_
  refine J_chk (fun hi2 => ?_)
  refine J_b ?_
  refine J.mono (fun k => w_iast rfl A_284.1 A_284.2 hi2.1 hi2.2 rfl (w_aload_n rfl rfl (w_dup rfl (fun _ h => by cases h) (w_getI rfl (Nat.le_of_ble_eq_true rfl) S_278 rfl (w_iconst rfl (inR_c rfl) (w_iadd rfl k)))))) ?_
  refine J_b ?_
  refine J.mono (fun k => w_putI rfl (Nat.le_of_ble_eq_true rfl) S_278 rfl rfl k) ?_
  exact J_some (fun k => w_return rfl rfl k)
set_option maxRecDepth 20000 in
set_option maxHeartbeats 4000000 in
theorem cal_mo_tell {Δ : DT} {d : Nat} (hd : 0 ≤ d) {x1 : Int}  {M : MEM} {M1 : MEM} (h : mo_tell x1 M = some M1) (ho : okVs [vR 278, vI x1]) (hM : okM M) : Cal Δ false m_mo_tell d [vR 278, vI x1] (NG, S0, M) none (NG, S0, M1) 0 0 := by
  exact cal_of g_mo_tell p_mo_tell (fun v hv => by simp only [List.mem_cons, List.not_mem_nil, or_false] at hv; rcases hv with rfl | rfl <;> first | exact Or.inl ⟨_, rfl⟩ | exact Or.inr ⟨_, rfl⟩) ho hM (Nat.le_of_ble_eq_true rfl) (fun Γ _ k => J_mo_tell  _ h k)
noncomputable def mo_minute  (M : MEM) : Option (Int × MEM) :=
(some (up2 M 278 13 0)).bind fun M1 =>
(mo_layAside 0 M1).bind fun M3 =>
(mo_remember M3).bind fun M5 =>
(mo_goMinute 279 M5).bind fun M7 =>
(some (up2 M7 278 12 0)).bind fun M8 =>
(mo_tell (M8 278 26) M8).bind fun M10 =>
(mo_tell (M10 278 27) M10).bind fun M12 =>
some ((M12 278 24), M12)
set_option maxRecDepth 20000 in
set_option maxHeartbeats 4000000 in
theorem J_mo_minute {Δ : DT} {Γ : FT} {d : Nat} (hd : 76 ≤ d + 1)   {M : MEM} : J (mo_minute M) (K_IM Δ Γ m_mo_minute) (WAt Δ Γ false m_mo_minute (d + 1) 0 [vR (278)] [] (NG, S0, M) 0 0) := by
  unfold mo_minute
  refine J.mono (fun k => w_aload_n rfl rfl (w_iconst rfl (inR_c rfl) k)) ?_
  refine J_b ?_
  refine J.mono (fun k => w_putI rfl (Nat.le_of_ble_eq_true rfl) S_278 rfl rfl (w_aload_n rfl rfl (w_iconst rfl (inR_c rfl) k))) ?_
  refine J_c (fun M3 e2 => ?_)
  refine J.mono (fun k => c_vv1 rfl (fun ho hM => cal_mo_layAside (by omega)  e2 ho hM) v_mo_layAside (Nat.le_of_ble_eq_true rfl) S_278 rfl (Nat.le_of_ble_eq_true rfl) (w_aload_n rfl rfl k)) ?_
  refine J_c (fun M5 e4 => ?_)
  refine J.mono (fun k => c_vv0 rfl (fun ho hM => cal_mo_remember (by omega)  e4 ho hM) v_mo_remember (Nat.le_of_ble_eq_true rfl) S_278 rfl (Nat.le_of_ble_eq_true rfl) (w_aload_n rfl rfl (w_aload_n rfl rfl (w_getR (r := 279) rfl (Nat.le_of_ble_eq_true rfl) S_278 rfl k)))) ?_
  refine J_c (fun M7 e6 => ?_)
  refine J.mono (fun k => c_vv1 rfl (fun ho hM => cal_mo_goMinute (by omega) (isArr_len A_279) e6 ho hM) v_mo_goMinute (Nat.le_of_ble_eq_true rfl) S_278 rfl (Nat.le_of_ble_eq_true rfl) (w_aload_n rfl rfl (w_iconst rfl (inR_c rfl) k))) ?_
  refine J_b ?_
  refine J.mono (fun k => w_putI rfl (Nat.le_of_ble_eq_true rfl) S_278 rfl rfl (w_aload_n rfl rfl (w_aload_n rfl rfl (w_getI rfl (Nat.le_of_ble_eq_true rfl) S_278 rfl k)))) ?_
  refine J_c (fun M10 e9 => ?_)
  refine J.mono (fun k => c_vv1 rfl (fun ho hM => cal_mo_tell (by omega)  e9 ho hM) v_mo_tell (Nat.le_of_ble_eq_true rfl) S_278 rfl (Nat.le_of_ble_eq_true rfl) (w_aload_n rfl rfl (w_aload_n rfl rfl (w_getI rfl (Nat.le_of_ble_eq_true rfl) S_278 rfl k)))) ?_
  refine J_c (fun M12 e11 => ?_)
  refine J.mono (fun k => c_vv1 rfl (fun ho hM => cal_mo_tell (by omega)  e11 ho hM) v_mo_tell (Nat.le_of_ble_eq_true rfl) S_278 rfl (Nat.le_of_ble_eq_true rfl) (w_aload_n rfl rfl (w_getI rfl (Nat.le_of_ble_eq_true rfl) S_278 rfl k))) ?_
  exact J_some (fun k => w_ireturn rfl rfl k)
set_option maxRecDepth 20000 in
set_option maxHeartbeats 4000000 in
theorem cal_mo_minute {Δ : DT} {d : Nat} (hd : 76 ≤ d)   {M : MEM} {p : Int × MEM} (h : mo_minute M = some p) (ho : okVs [vR 278]) (hM : okM M) : Cal Δ false m_mo_minute d [vR 278] (NG, S0, M) (some p.1) (NG, S0, p.2) 0 0 := by
  obtain ⟨d, rfl⟩ : ∃ e, d = e + 1 := ⟨d - 1, by omega⟩
  exact cal_of g_mo_minute p_mo_minute (fun v hv => by simp only [List.mem_cons, List.not_mem_nil, or_false] at hv; rcases hv with rfl <;> first | exact Or.inl ⟨_, rfl⟩ | exact Or.inr ⟨_, rfl⟩) ho hM (Nat.le_of_ble_eq_true rfl) (fun Γ _ k => J_mo_minute hd  _ h k)
noncomputable def ji_bitCount (x0 : Int) : Int :=
(ish i_and (wr ((wr ((ish i_and (wr ((wr ((ish i_and (wr (x0 - (ish i_and (ish i_ushr x0 1) (1431655765 - 0)))) (858993459 - 0)) + (ish i_and (ish i_ushr (wr (x0 - (ish i_and (ish i_ushr x0 1) (1431655765 - 0)))) 2) (858993459 - 0)))) + (ish i_ushr (wr ((ish i_and (wr (x0 - (ish i_and (ish i_ushr x0 1) (1431655765 - 0)))) (858993459 - 0)) + (ish i_and (ish i_ushr (wr (x0 - (ish i_and (ish i_ushr x0 1) (1431655765 - 0)))) 2) (858993459 - 0)))) 4))) (252645135 - 0)) + (ish i_ushr (ish i_and (wr ((wr ((ish i_and (wr (x0 - (ish i_and (ish i_ushr x0 1) (1431655765 - 0)))) (858993459 - 0)) + (ish i_and (ish i_ushr (wr (x0 - (ish i_and (ish i_ushr x0 1) (1431655765 - 0)))) 2) (858993459 - 0)))) + (ish i_ushr (wr ((ish i_and (wr (x0 - (ish i_and (ish i_ushr x0 1) (1431655765 - 0)))) (858993459 - 0)) + (ish i_and (ish i_ushr (wr (x0 - (ish i_and (ish i_ushr x0 1) (1431655765 - 0)))) 2) (858993459 - 0)))) 4))) (252645135 - 0)) 8))) + (ish i_ushr (wr ((ish i_and (wr ((wr ((ish i_and (wr (x0 - (ish i_and (ish i_ushr x0 1) (1431655765 - 0)))) (858993459 - 0)) + (ish i_and (ish i_ushr (wr (x0 - (ish i_and (ish i_ushr x0 1) (1431655765 - 0)))) 2) (858993459 - 0)))) + (ish i_ushr (wr ((ish i_and (wr (x0 - (ish i_and (ish i_ushr x0 1) (1431655765 - 0)))) (858993459 - 0)) + (ish i_and (ish i_ushr (wr (x0 - (ish i_and (ish i_ushr x0 1) (1431655765 - 0)))) 2) (858993459 - 0)))) 4))) (252645135 - 0)) + (ish i_ushr (ish i_and (wr ((wr ((ish i_and (wr (x0 - (ish i_and (ish i_ushr x0 1) (1431655765 - 0)))) (858993459 - 0)) + (ish i_and (ish i_ushr (wr (x0 - (ish i_and (ish i_ushr x0 1) (1431655765 - 0)))) 2) (858993459 - 0)))) + (ish i_ushr (wr ((ish i_and (wr (x0 - (ish i_and (ish i_ushr x0 1) (1431655765 - 0)))) (858993459 - 0)) + (ish i_and (ish i_ushr (wr (x0 - (ish i_and (ish i_ushr x0 1) (1431655765 - 0)))) 2) (858993459 - 0)))) 4))) (252645135 - 0)) 8))) 16))) 63)
set_option maxRecDepth 20000 in
set_option maxHeartbeats 4000000 in
theorem J_ji_bitCount {Δ : DT} {Γ : FT} {d : Nat} {x0 : Int}  {M : MEM} : J (some (ji_bitCount x0)) (K_I Δ Γ m_ji_bitCount M) (WAt Δ Γ false m_ji_bitCount d 0 [vI (x0)] [] (NG, S0, M) 0 0) := by
  unfold ji_bitCount
  refine J.mono (fun k => w_iload_n rfl rfl (w_iload_n rfl rfl (w_iconst rfl (inR_c rfl) (w_iushr rfl (w_ldcw rfl (inR_c rfl) (w_iand rfl (w_isub rfl (s_istore0 rfl (Nat.le_of_ble_eq_true rfl) (w_iload_n rfl rfl (w_ldcw rfl (inR_c rfl) (w_iand rfl (w_iload_n rfl rfl (w_iconst rfl (inR_c rfl) (w_iushr rfl (w_ldcw rfl (inR_c rfl) (w_iand rfl (w_iadd rfl (s_istore0 rfl (Nat.le_of_ble_eq_true rfl) (w_iload_n rfl rfl (w_iload_n rfl rfl (w_iconst rfl (inR_c rfl) (w_iushr rfl (w_iadd rfl (w_ldcw rfl (inR_c rfl) (w_iand rfl (s_istore0 rfl (Nat.le_of_ble_eq_true rfl) (w_iload_n rfl rfl (w_iload_n rfl rfl (w_bipush rfl (bip_c rfl) (w_iushr rfl (w_iadd rfl (s_istore0 rfl (Nat.le_of_ble_eq_true rfl) (w_iload_n rfl rfl (w_iload_n rfl rfl (w_bipush rfl (bip_c rfl) (w_iushr rfl (w_iadd rfl (s_istore0 rfl (Nat.le_of_ble_eq_true rfl) (w_iload_n rfl rfl (w_bipush rfl (bip_c rfl) (w_iand rfl k))))))))))))))))))))))))))))))))))))))))) ?_
  exact J_some (fun k => w_ireturn rfl rfl k)
set_option maxRecDepth 20000 in
set_option maxHeartbeats 4000000 in
theorem cal_ji_bitCount {Δ : DT} {d : Nat} (hd : 0 ≤ d) {x0 : Int}  {M : MEM} (ho : okVs [vI x0]) (hM : okM M) : Cal Δ false m_ji_bitCount d [vI x0] (NG, S0, M) (some (ji_bitCount x0)) (NG, S0, M) 0 0 := by
  exact cal_of g_ji_bitCount p_ji_bitCount (fun v hv => by simp only [List.mem_cons, List.not_mem_nil, or_false] at hv; rcases hv with rfl <;> first | exact Or.inl ⟨_, rfl⟩ | exact Or.inr ⟨_, rfl⟩) ho hM (Nat.le_of_ble_eq_true rfl) (fun Γ _ k => J_ji_bitCount  _ rfl k)
abbrev HD_mo_minutes_b38 (Δ : DT) (Γ : FT) (d : Nat) (x1 : Int) (x2 : Int) (x3 : Int) (s : Int × MEM) : Prop := WAt Δ Γ false m_mo_minutes (d + 1) 38 [vR (278), vI (x1), vI (x2), vI (x3), vI (s.1), vN] [] (NG, S0, s.2) 0 0
abbrev X_mo_minutes_b38 (Δ : DT) (Γ : FT) (d : Nat) (x1 : Int) (x2 : Int) (x3 : Int) (s : Int × MEM) : Prop := WAt Δ Γ false m_mo_minutes (d + 1) 58 [vR (278), vI (x1), vI (x2), vI (x3), vN, vN] [] (NG, S0, s.2) 0 0
noncomputable def mo_minutes_b38 (x1 : Int) (x2 : Int) (x3 : Int) (x4 : Int) (M : MEM) : Option ((Int × MEM) ⊕ (Int × MEM)) :=
if 3 ≤ x4 then
some (.inr (x4, M))
else
if 0 ≤ x4 ∧ x4 < 3 then
(some (up2 M 290 (x4).toNat 0)).bind fun M8 =>
some (.inl ((wr (x4 + 1)), M8))
else none
set_option maxRecDepth 20000 in
set_option maxHeartbeats 4000000 in
theorem Jb_mo_minutes_b38 {Δ : DT} {Γ : FT} {d : Nat} (hd : 76 ≤ d + 1) {x1 : Int} {x2 : Int} {x3 : Int}  {x4 : Int} {M : MEM} : J (mo_minutes_b38 x1 x2 x3 x4 M) (Sum.elim (HD_mo_minutes_b38 Δ Γ d x1 x2 x3) (X_mo_minutes_b38 Δ Γ d x1 x2 x3)) (WAt Δ Γ false m_mo_minutes (d + 1) 38 [vR (278), vI (x1), vI (x2), vI (x3), vI (x4), vN] [] (NG, S0, M) 0 0) := by
  unfold mo_minutes_b38
  refine J.mono (fun k => w_iload rfl rfl (w_iconst rfl (inR_c rfl) k)) ?_
  refine J_ite (fun hc7 => ?_) (fun hc7 => ?_)
  · refine J.mono (fun k => s_icmp_ge_t rfl hc7 k) ?_
    exact J_some (fun k => w_forget (wk_k (wk_k (wk_k (wk_k (wk_d (wk_d wk_0)))))) k)
  · refine J.mono (fun k => s_icmp_ge_f rfl hc7 (w_aload_n rfl rfl (w_getR (r := 290) rfl (Nat.le_of_ble_eq_true rfl) S_278 rfl (w_iload rfl rfl (w_iconst rfl (inR_c rfl) k))))) ?_
    refine J_chk (fun hi9 => ?_)
    refine J_b ?_
    refine J.mono (fun k => w_iast rfl A_290.1 A_290.2 hi9.1 hi9.2 rfl (s_iinc4 rfl (Nat.le_of_ble_eq_true rfl) (w_goto rfl k))) ?_
    exact J_some (fun k => w_forget (wk_k (wk_k (wk_k (wk_k (wk_k (wk_d wk_0)))))) k)
set_option maxRecDepth 20000 in
set_option maxHeartbeats 4000000 in
theorem Jl_mo_minutes_b38 {Δ : DT} {Γ : FT} {d : Nat} (hd : 76 ≤ d + 1) {x1 : Int} {x2 : Int} {x3 : Int}   : ∀ (n : Nat) (s : Int × MEM), J (iter (fun s => mo_minutes_b38 x1 x2 x3 s.1 s.2) n s) (X_mo_minutes_b38 Δ Γ d x1 x2 x3) (HD_mo_minutes_b38 Δ Γ d x1 x2 x3 s) := J_iter (fun s => Jb_mo_minutes_b38 hd )
abbrev HD_mo_minutes_b61 (Δ : DT) (Γ : FT) (d : Nat) (x1 : Int) (s : Int × Int × Int × MEM) : Prop := WAt Δ Γ false m_mo_minutes (d + 1) 61 [vR (278), vI (x1), vI (s.1), vI (s.2.1), vI (s.2.2.1), vN] [] (NG, S0, s.2.2.2) 0 0
abbrev X_mo_minutes_b61 (Δ : DT) (Γ : FT) (d : Nat) (x1 : Int) (s : Int × Int × Int × MEM) : Prop := WAt Δ Γ false m_mo_minutes (d + 1) 133 [vR (278), vN, vI (s.1), vI (s.2.1), vN, vN] [] (NG, S0, s.2.2.2) 0 0
abbrev HD_mo_minutes_b95 (Δ : DT) (Γ : FT) (d : Nat) (x1 : Int) (x2 : Int) (x3 : Int) (x4 : Int) (s : Int × MEM) : Prop := WAt Δ Γ false m_mo_minutes (d + 1) 95 [vR (278), vI (x1), vI (x2), vI (x3), vI (x4), vI (s.1)] [] (NG, S0, s.2) 0 0
abbrev X_mo_minutes_b95 (Δ : DT) (Γ : FT) (d : Nat) (x1 : Int) (x2 : Int) (x3 : Int) (x4 : Int) (s : Int × MEM) : Prop := WAt Δ Γ false m_mo_minutes (d + 1) 127 [vR (278), vI (x1), vI (x2), vI (x3), vI (x4), vN] [] (NG, S0, s.2) 0 0
noncomputable def mo_minutes_b95 (x1 : Int) (x2 : Int) (x3 : Int) (x4 : Int) (x5 : Int) (M : MEM) : Option ((Int × MEM) ⊕ (Int × MEM)) :=
if (M 278 1) ≤ x5 then
some (.inr (x5, M))
else
if 0 ≤ x5 ∧ x5 < 3 then
if 0 ≤ x5 ∧ x5 < 3 then
if 0 ≤ x5 ∧ x5 < 3 then
(some (up2 M 290 (x5).toNat (wr ((M 290 (x5).toNat) + (M 287 (x5).toNat))))).bind fun M20 =>
some (.inl ((wr (x5 + 1)), M20))
else none
else none
else none
set_option maxRecDepth 20000 in
set_option maxHeartbeats 4000000 in
theorem Jb_mo_minutes_b95 {Δ : DT} {Γ : FT} {d : Nat} (hd : 76 ≤ d + 1) {x1 : Int} {x2 : Int} {x3 : Int} {x4 : Int}  {x5 : Int} {M : MEM} : J (mo_minutes_b95 x1 x2 x3 x4 x5 M) (Sum.elim (HD_mo_minutes_b95 Δ Γ d x1 x2 x3 x4) (X_mo_minutes_b95 Δ Γ d x1 x2 x3 x4)) (WAt Δ Γ false m_mo_minutes (d + 1) 95 [vR (278), vI (x1), vI (x2), vI (x3), vI (x4), vI (x5)] [] (NG, S0, M) 0 0) := by
  unfold mo_minutes_b95
  refine J.mono (fun k => w_iload rfl rfl (w_aload_n rfl rfl (w_getI rfl (Nat.le_of_ble_eq_true rfl) S_278 rfl k))) ?_
  refine J_ite (fun hc17 => ?_) (fun hc17 => ?_)
  · refine J.mono (fun k => s_icmp_ge_t rfl hc17 k) ?_
    exact J_some (fun k => w_forget (wk_k (wk_k (wk_k (wk_k (wk_k (wk_d wk_0)))))) k)
  · refine J.mono (fun k => s_icmp_ge_f rfl hc17 (w_aload_n rfl rfl (w_getR (r := 290) rfl (Nat.le_of_ble_eq_true rfl) S_278 rfl (w_iload rfl rfl (w_dup2 rfl (fun _ h => by cases h) (fun _ h => by cases h) k))))) ?_
    refine J_chk (fun hi18 => ?_)
    refine J.mono (fun k => w_iald rfl A_290.1 A_290.2 hi18.1 hi18.2 (w_aload_n rfl rfl (w_getR (r := 287) rfl (Nat.le_of_ble_eq_true rfl) S_278 rfl (w_iload rfl rfl k)))) ?_
    refine J_chk (fun hi19 => ?_)
    refine J.mono (fun k => w_iald rfl A_287.1 A_287.2 hi19.1 hi19.2 (w_iadd rfl k)) ?_
    refine J_chk (fun hi21 => ?_)
    refine J_b ?_
    refine J.mono (fun k => w_iast rfl A_290.1 A_290.2 hi21.1 hi21.2 rfl (s_iinc5 rfl (Nat.le_of_ble_eq_true rfl) (w_goto rfl k))) ?_
    exact J_some (fun k => w_forget (wk_k (wk_k (wk_k (wk_k (wk_k (wk_k wk_0)))))) k)
set_option maxRecDepth 20000 in
set_option maxHeartbeats 4000000 in
theorem Jl_mo_minutes_b95 {Δ : DT} {Γ : FT} {d : Nat} (hd : 76 ≤ d + 1) {x1 : Int} {x2 : Int} {x3 : Int} {x4 : Int}   : ∀ (n : Nat) (s : Int × MEM), J (iter (fun s => mo_minutes_b95 x1 x2 x3 x4 s.1 s.2) n s) (X_mo_minutes_b95 Δ Γ d x1 x2 x3 x4) (HD_mo_minutes_b95 Δ Γ d x1 x2 x3 x4 s) := J_iter (fun s => Jb_mo_minutes_b95 hd )
noncomputable def mo_minutes_b61 (x1 : Int) (x2 : Int) (x3 : Int) (x4 : Int) (M : MEM) : Option ((Int × Int × Int × MEM) ⊕ (Int × Int × Int × MEM)) :=
if x1 ≤ x4 then
some (.inr (x2, x3, x4, M))
else
(mo_goMinute 279 M).bind fun M13 =>
(iter (fun s => mo_minutes_b95 x1 (wr (x2 + (M13 278 24))) (wr (x3 + (ji_bitCount (M13 278 26)))) x4 s.1 s.2) FU (0, M13)).bind fun w22 =>
some (.inl ((wr (x2 + (M13 278 24))), (wr (x3 + (ji_bitCount (M13 278 26)))), (wr (x4 + 1)), w22.2))
set_option maxRecDepth 20000 in
set_option maxHeartbeats 4000000 in
theorem Jb_mo_minutes_b61 {Δ : DT} {Γ : FT} {d : Nat} (hd : 76 ≤ d + 1) {x1 : Int}  {x2 : Int} {x3 : Int} {x4 : Int} {M : MEM} : J (mo_minutes_b61 x1 x2 x3 x4 M) (Sum.elim (HD_mo_minutes_b61 Δ Γ d x1) (X_mo_minutes_b61 Δ Γ d x1)) (WAt Δ Γ false m_mo_minutes (d + 1) 61 [vR (278), vI (x1), vI (x2), vI (x3), vI (x4), vN] [] (NG, S0, M) 0 0) := by
  unfold mo_minutes_b61
  refine J.mono (fun k => w_iload rfl rfl (w_iload_n rfl rfl k)) ?_
  refine J_ite (fun hc11 => ?_) (fun hc11 => ?_)
  · refine J.mono (fun k => s_icmp_ge_t rfl hc11 k) ?_
    exact J_some (fun k => w_forget (wk_k (wk_d (wk_k (wk_k (wk_d (wk_d wk_0)))))) k)
  · refine J.mono (fun k => s_icmp_ge_f rfl hc11 (w_aload_n rfl rfl (w_aload_n rfl rfl (w_getR (r := 279) rfl (Nat.le_of_ble_eq_true rfl) S_278 rfl k)))) ?_
    refine J_c (fun M13 e12 => ?_)
    refine J.mono (fun k => c_vv1 rfl (fun ho hM => cal_mo_goMinute (by omega) (isArr_len A_279) e12 ho hM) v_mo_goMinute (Nat.le_of_ble_eq_true rfl) S_278 rfl (Nat.le_of_ble_eq_true rfl) (w_iload_n rfl rfl (w_aload_n rfl rfl (w_getI rfl (Nat.le_of_ble_eq_true rfl) S_278 rfl (w_iadd rfl (s_istore2 rfl (Nat.le_of_ble_eq_true rfl) (w_iload_n rfl rfl (w_aload_n rfl rfl (w_getI rfl (Nat.le_of_ble_eq_true rfl) S_278 rfl k))))))))) ?_
    refine J_hyp (fun k => c_si1 rfl rfl (fun ho hM => cal_ji_bitCount (by omega)   ho hM) v_ji_bitCount (Nat.le_of_ble_eq_true rfl) k) (fun hr15 hb16 => ?_)
    refine J.mono (fun k => w_iadd rfl (s_istore3 rfl (Nat.le_of_ble_eq_true rfl) (w_iconst rfl (inR_c rfl) (s_istore5 rfl (Nat.le_of_ble_eq_true rfl) k)))) ?_
    refine J.mono (fun k => w_forget (wk_k (wk_k (wk_k (wk_k (wk_k (wk_k wk_0)))))) k) ?_
    refine J_loop (Jl_mo_minutes_b95 hd  _ _) (fun w22 => ?_)
    refine J.mono (fun k => s_iinc4 rfl (Nat.le_of_ble_eq_true rfl) (w_goto rfl k)) ?_
    exact J_some (fun k => w_forget (wk_k (wk_k (wk_k (wk_k (wk_k (wk_d wk_0)))))) k)
set_option maxRecDepth 20000 in
set_option maxHeartbeats 4000000 in
theorem Jl_mo_minutes_b61 {Δ : DT} {Γ : FT} {d : Nat} (hd : 76 ≤ d + 1) {x1 : Int}   : ∀ (n : Nat) (s : Int × Int × Int × MEM), J (iter (fun s => mo_minutes_b61 x1 s.1 s.2.1 s.2.2.1 s.2.2.2) n s) (X_mo_minutes_b61 Δ Γ d x1) (HD_mo_minutes_b61 Δ Γ d x1 s) := J_iter (fun s => Jb_mo_minutes_b61 hd )
abbrev HD_mo_minutes_b146 (Δ : DT) (Γ : FT) (d : Nat) (x2 : Int) (s : Int × MEM) : Prop := WAt Δ Γ false m_mo_minutes (d + 1) 146 [vR (278), vN, vI (x2), vN, vI (s.1), vN] [] (NG, S0, s.2) 0 0
abbrev X_mo_minutes_b146 (Δ : DT) (Γ : FT) (d : Nat) (x2 : Int) (s : Int × MEM) : Prop := WAt Δ Γ false m_mo_minutes (d + 1) 172 [vN, vN, vI (x2), vN, vN, vN] [] (NG, S0, s.2) 0 0
noncomputable def mo_minutes_b146 (x2 : Int) (x4 : Int) (M : MEM) : Option ((Int × MEM) ⊕ (Int × MEM)) :=
if (M 278 1) ≤ x4 then
some (.inr (x4, M))
else
if 0 ≤ x4 ∧ x4 < 3 then
(mo_tell (M 290 (x4).toNat) M).bind fun M30 =>
some (.inl ((wr (x4 + 1)), M30))
else none
set_option maxRecDepth 20000 in
set_option maxHeartbeats 4000000 in
theorem Jb_mo_minutes_b146 {Δ : DT} {Γ : FT} {d : Nat} (hd : 76 ≤ d + 1) {x2 : Int}  {x4 : Int} {M : MEM} : J (mo_minutes_b146 x2 x4 M) (Sum.elim (HD_mo_minutes_b146 Δ Γ d x2) (X_mo_minutes_b146 Δ Γ d x2)) (WAt Δ Γ false m_mo_minutes (d + 1) 146 [vR (278), vN, vI (x2), vN, vI (x4), vN] [] (NG, S0, M) 0 0) := by
  unfold mo_minutes_b146
  refine J.mono (fun k => w_iload rfl rfl (w_aload_n rfl rfl (w_getI rfl (Nat.le_of_ble_eq_true rfl) S_278 rfl k))) ?_
  refine J_ite (fun hc27 => ?_) (fun hc27 => ?_)
  · refine J.mono (fun k => s_icmp_ge_t rfl hc27 k) ?_
    exact J_some (fun k => w_forget (wk_d (wk_d (wk_k (wk_d (wk_d (wk_d wk_0)))))) k)
  · refine J.mono (fun k => s_icmp_ge_f rfl hc27 (w_aload_n rfl rfl (w_aload_n rfl rfl (w_getR (r := 290) rfl (Nat.le_of_ble_eq_true rfl) S_278 rfl (w_iload rfl rfl k))))) ?_
    refine J_chk (fun hi28 => ?_)
    refine J.mono (fun k => w_iald rfl A_290.1 A_290.2 hi28.1 hi28.2 k) ?_
    refine J_c (fun M30 e29 => ?_)
    refine J.mono (fun k => c_vv1 rfl (fun ho hM => cal_mo_tell (by omega)  e29 ho hM) v_mo_tell (Nat.le_of_ble_eq_true rfl) S_278 rfl (Nat.le_of_ble_eq_true rfl) (s_iinc4 rfl (Nat.le_of_ble_eq_true rfl) (w_goto rfl k))) ?_
    exact J_some (fun k => w_forget (wk_k (wk_d (wk_k (wk_d (wk_k (wk_d wk_0)))))) k)
set_option maxRecDepth 20000 in
set_option maxHeartbeats 4000000 in
theorem Jl_mo_minutes_b146 {Δ : DT} {Γ : FT} {d : Nat} (hd : 76 ≤ d + 1) {x2 : Int}   : ∀ (n : Nat) (s : Int × MEM), J (iter (fun s => mo_minutes_b146 x2 s.1 s.2) n s) (X_mo_minutes_b146 Δ Γ d x2) (HD_mo_minutes_b146 Δ Γ d x2 s) := J_iter (fun s => Jb_mo_minutes_b146 hd )
noncomputable def mo_minutes_j31 (x1 : Int) (M : MEM) : Option (Int × MEM) :=
(iter (fun s => mo_minutes_b38 x1 0 0 s.1 s.2) FU (0, M)).bind fun w10 =>
(iter (fun s => mo_minutes_b61 x1 s.1 s.2.1 s.2.2.1 s.2.2.2) FU (0, 0, 0, w10.2)).bind fun w23 =>
(some (up2 w23.2.2.2 278 12 0)).bind fun M24 =>
(mo_tell w23.2.1 M24).bind fun M26 =>
(iter (fun s => mo_minutes_b146 w23.1 s.1 s.2) FU (0, M26)).bind fun w31 =>
some (w23.1, w31.2)
set_option maxRecDepth 20000 in
set_option maxHeartbeats 4000000 in
theorem J_mo_minutes_j31 {Δ : DT} {Γ : FT} {d : Nat} (hd : 76 ≤ d + 1) {x1 : Int}  {M : MEM} : J (mo_minutes_j31 x1 M) (K_IM Δ Γ m_mo_minutes) (WAt Δ Γ false m_mo_minutes (d + 1) 31 [vR (278), vI (x1), vN, vN, vN, vN] [] (NG, S0, M) 0 0) := by
  unfold mo_minutes_j31
  refine J.mono (fun k => w_iconst rfl (inR_c rfl) (s_istore2 rfl (Nat.le_of_ble_eq_true rfl) (w_iconst rfl (inR_c rfl) (s_istore3 rfl (Nat.le_of_ble_eq_true rfl) (w_iconst rfl (inR_c rfl) (s_istore4 rfl (Nat.le_of_ble_eq_true rfl) k)))))) ?_
  refine J.mono (fun k => w_forget (wk_k (wk_k (wk_k (wk_k (wk_k (wk_d wk_0)))))) k) ?_
  refine J_loop (Jl_mo_minutes_b38 hd  _ _) (fun w10 => ?_)
  refine J.mono (fun k => w_iconst rfl (inR_c rfl) (s_istore4 rfl (Nat.le_of_ble_eq_true rfl) k)) ?_
  refine J.mono (fun k => w_forget (wk_k (wk_k (wk_k (wk_k (wk_k (wk_d wk_0)))))) k) ?_
  refine J_loop (Jl_mo_minutes_b61 hd  _ _) (fun w23 => ?_)
  refine J.mono (fun k => w_aload_n rfl rfl (w_iconst rfl (inR_c rfl) k)) ?_
  refine J_b ?_
  refine J.mono (fun k => w_putI rfl (Nat.le_of_ble_eq_true rfl) S_278 rfl rfl (w_aload_n rfl rfl (w_iload_n rfl rfl k))) ?_
  refine J_c (fun M26 e25 => ?_)
  refine J.mono (fun k => c_vv1 rfl (fun ho hM => cal_mo_tell (by omega)  e25 ho hM) v_mo_tell (Nat.le_of_ble_eq_true rfl) S_278 rfl (Nat.le_of_ble_eq_true rfl) (w_iconst rfl (inR_c rfl) (s_istore4 rfl (Nat.le_of_ble_eq_true rfl) k))) ?_
  refine J.mono (fun k => w_forget (wk_k (wk_d (wk_k (wk_d (wk_k (wk_d wk_0)))))) k) ?_
  refine J_loop (Jl_mo_minutes_b146 hd  _ _) (fun w31 => ?_)
  refine J.mono (fun k => w_iload_n rfl rfl k) ?_
  exact J_some (fun k => w_ireturn rfl rfl k)
noncomputable def mo_minutes (x1 : Int) (M : MEM) : Option (Int × MEM) :=
(some (up2 M 278 13 0)).bind fun M1 =>
if (mo_in x1 0 600) = 0 then
some ((-1), M1)
else
if x1 ≤ 0 then
mo_minutes_j31 x1 M1
else
(mo_layAside 0 M1).bind fun M33 =>
(mo_remember M33).bind fun M35 =>
mo_minutes_j31 x1 M35
set_option maxRecDepth 20000 in
set_option maxHeartbeats 4000000 in
theorem J_mo_minutes {Δ : DT} {Γ : FT} {d : Nat} (hd : 76 ≤ d + 1) {x1 : Int}  {M : MEM} : J (mo_minutes x1 M) (K_IM Δ Γ m_mo_minutes) (WAt Δ Γ false m_mo_minutes (d + 1) 0 [vR (278), vI (x1), vN, vN, vN, vN] [] (NG, S0, M) 0 0) := by
  unfold mo_minutes
  refine J.mono (fun k => w_aload_n rfl rfl (w_iconst rfl (inR_c rfl) k)) ?_
  refine J_b ?_
  refine J.mono (fun k => w_putI rfl (Nat.le_of_ble_eq_true rfl) S_278 rfl rfl (w_iload_n rfl rfl (w_iconst rfl (inR_c rfl) (w_sipush rfl (sip_c rfl) k)))) ?_
  refine J_hyp (fun k => c_si3 rfl rfl (fun ho hM => cal_mo_in (by omega)   ho hM) v_mo_in (Nat.le_of_ble_eq_true rfl) k) (fun hr3 hb4 => ?_)
  refine J_ite (fun hc5 => ?_) (fun hc5 => ?_)
  · refine J.mono (fun k => s_if_ne_f rfl hc5 (w_iconst rfl (inR_c rfl) k)) ?_
    exact J_some (fun k => w_ireturn rfl rfl k)
  · refine J.mono (fun k => s_if_ne_t rfl hc5 (w_iload_n rfl rfl k)) ?_
    refine J_ite (fun hc6 => ?_) (fun hc6 => ?_)
    · refine J.mono (fun k => s_if_le_t rfl hc6 k) ?_
      exact J.mono (fun k => w_forget (wk_k (wk_k (wk_d (wk_d (wk_d (wk_d wk_0)))))) k) (J_mo_minutes_j31 hd )
    · refine J.mono (fun k => s_if_le_f rfl hc6 (w_aload_n rfl rfl (w_iconst rfl (inR_c rfl) k))) ?_
      refine J_c (fun M33 e32 => ?_)
      refine J.mono (fun k => c_vv1 rfl (fun ho hM => cal_mo_layAside (by omega)  e32 ho hM) v_mo_layAside (Nat.le_of_ble_eq_true rfl) S_278 rfl (Nat.le_of_ble_eq_true rfl) (w_aload_n rfl rfl k)) ?_
      refine J_c (fun M35 e34 => ?_)
      refine J.mono (fun k => c_vv0 rfl (fun ho hM => cal_mo_remember (by omega)  e34 ho hM) v_mo_remember (Nat.le_of_ble_eq_true rfl) S_278 rfl (Nat.le_of_ble_eq_true rfl) k) ?_
      exact J.mono (fun k => w_forget (wk_k (wk_k (wk_d (wk_d (wk_d (wk_d wk_0)))))) k) (J_mo_minutes_j31 hd )
set_option maxRecDepth 20000 in
set_option maxHeartbeats 4000000 in
theorem cal_mo_minutes {Δ : DT} {d : Nat} (hd : 76 ≤ d) {x1 : Int}  {M : MEM} {p : Int × MEM} (h : mo_minutes x1 M = some p) (ho : okVs [vR 278, vI x1]) (hM : okM M) : Cal Δ false m_mo_minutes d [vR 278, vI x1] (NG, S0, M) (some p.1) (NG, S0, p.2) 0 0 := by
  obtain ⟨d, rfl⟩ : ∃ e, d = e + 1 := ⟨d - 1, by omega⟩
  exact cal_of g_mo_minutes p_mo_minutes (fun v hv => by simp only [List.mem_cons, List.not_mem_nil, or_false] at hv; rcases hv with rfl | rfl <;> first | exact Or.inl ⟨_, rfl⟩ | exact Or.inr ⟨_, rfl⟩) ho hM (Nat.le_of_ble_eq_true rfl) (fun Γ _ k => J_mo_minutes hd  _ h k)
abbrev HD_mo_act_b80 (Δ : DT) (Γ : FT) (d : Nat) (x2 : Int) (s : Int × MEM) : Prop := WAt Δ Γ false m_mo_act (d + 1) 80 [vR (278), vN, vI (x2), vN, vN, vI (s.1)] [] (NG, S0, s.2) 0 0
abbrev X_mo_act_b80 (Δ : DT) (Γ : FT) (d : Nat) (x2 : Int) (s : Int × MEM) : Prop := WAt Δ Γ false m_mo_act (d + 1) 113 [vN, vN, vN, vN, vN, vN] [] (NG, S0, s.2) 0 0
noncomputable def mo_act_b80 (x2 : Int) (x5 : Int) (M : MEM) : Option ((Int × MEM) ⊕ (Int × MEM)) :=
if x2 ≤ x5 then
some (.inr (x5, M))
else
(mo_goMinute 279 M).bind fun M16 =>
(some (up2 M16 278 35 (wr ((M16 278 35) + (M16 278 24))))).bind fun M17 =>
some (.inl ((wr (x5 + 1)), M17))
set_option maxRecDepth 20000 in
set_option maxHeartbeats 4000000 in
theorem Jb_mo_act_b80 {Δ : DT} {Γ : FT} {d : Nat} (hd : 76 ≤ d + 1) {x2 : Int}  {x5 : Int} {M : MEM} : J (mo_act_b80 x2 x5 M) (Sum.elim (HD_mo_act_b80 Δ Γ d x2) (X_mo_act_b80 Δ Γ d x2)) (WAt Δ Γ false m_mo_act (d + 1) 80 [vR (278), vN, vI (x2), vN, vN, vI (x5)] [] (NG, S0, M) 0 0) := by
  unfold mo_act_b80
  refine J.mono (fun k => w_iload rfl rfl (w_iload_n rfl rfl k)) ?_
  refine J_ite (fun hc14 => ?_) (fun hc14 => ?_)
  · refine J.mono (fun k => s_icmp_ge_t rfl hc14 k) ?_
    exact J_some (fun k => w_forget (wk_d (wk_d (wk_d (wk_d (wk_d (wk_d wk_0)))))) k)
  · refine J.mono (fun k => s_icmp_ge_f rfl hc14 (w_aload_n rfl rfl (w_aload_n rfl rfl (w_getR (r := 279) rfl (Nat.le_of_ble_eq_true rfl) S_278 rfl k)))) ?_
    refine J_c (fun M16 e15 => ?_)
    refine J.mono (fun k => c_vv1 rfl (fun ho hM => cal_mo_goMinute (by omega) (isArr_len A_279) e15 ho hM) v_mo_goMinute (Nat.le_of_ble_eq_true rfl) S_278 rfl (Nat.le_of_ble_eq_true rfl) (w_aload_n rfl rfl (w_dup rfl (fun _ h => by cases h) (w_getI rfl (Nat.le_of_ble_eq_true rfl) S_278 rfl (w_aload_n rfl rfl (w_getI rfl (Nat.le_of_ble_eq_true rfl) S_278 rfl (w_iadd rfl k))))))) ?_
    refine J_b ?_
    refine J.mono (fun k => w_putI rfl (Nat.le_of_ble_eq_true rfl) S_278 rfl rfl (s_iinc5 rfl (Nat.le_of_ble_eq_true rfl) (w_goto rfl k))) ?_
    exact J_some (fun k => w_forget (wk_k (wk_d (wk_k (wk_d (wk_d (wk_k wk_0)))))) k)
set_option maxRecDepth 20000 in
set_option maxHeartbeats 4000000 in
theorem Jl_mo_act_b80 {Δ : DT} {Γ : FT} {d : Nat} (hd : 76 ≤ d + 1) {x2 : Int}   : ∀ (n : Nat) (s : Int × MEM), J (iter (fun s => mo_act_b80 x2 s.1 s.2) n s) (X_mo_act_b80 Δ Γ d x2) (HD_mo_act_b80 Δ Γ d x2 s) := J_iter (fun s => Jb_mo_act_b80 hd )
noncomputable def mo_act (x1 : Int) (M : MEM) : Option (Int × MEM) :=
if 0 ≤ (wr (x1 + 1)) ∧ (wr (x1 + 1)) < 320 then
if 0 ≤ (wr (x1 + 2)) ∧ (wr (x1 + 2)) < 320 then
if 0 ≤ (wr (x1 + 3)) ∧ (wr (x1 + 3)) < 320 then
if 0 ≤ x1 ∧ x1 < 320 then
if (M 291 (x1).toNat) = 99 then
if (M 291 ((wr (x1 + 2))).toNat) ≤ 0 then
some (0, M)
else
(mo_carrot (M 291 ((wr (x1 + 1))).toNat) (M 279 165) (wr ((wr ((M 279 165) + (M 291 ((wr (x1 + 2))).toNat))) - 1)) (M 291 ((wr (x1 + 3))).toNat) M).bind fun p8 =>
if p8.1 < 0 then
some (0, p8.2)
else
some (1, p8.2)
else
if (M 291 (x1).toNat) = 109 then
if (M 291 ((wr (x1 + 1))).toNat) ≤ 600 then
(iter (fun s => mo_act_b80 (M 291 ((wr (x1 + 1))).toNat) s.1 s.2) FU (0, M)).bind fun w18 =>
some (1, w18.2)
else
some (0, M)
else
if (M 291 (x1).toNat) = 115 then
(mo_sow (M 291 ((wr (x1 + 1))).toNat) (M 291 ((wr (x1 + 3))).toNat) (M 291 ((wr (x1 + 2))).toNat) M).bind fun p21 =>
if p21.1 < 0 then
some (0, p21.2)
else
some (1, p21.2)
else
(mo_set (M 291 ((wr (x1 + 1))).toNat) 0 (M 291 ((wr (x1 + 2))).toNat) M).bind fun p26 =>
if p26.1 < 0 then
some (0, p26.2)
else
some (1, p26.2)
else none
else none
else none
else none
set_option maxRecDepth 20000 in
set_option maxHeartbeats 4000000 in
theorem J_mo_act {Δ : DT} {Γ : FT} {d : Nat} (hd : 76 ≤ d + 1) {x1 : Int}  {M : MEM} : J (mo_act x1 M) (K_IM Δ Γ m_mo_act) (WAt Δ Γ false m_mo_act (d + 1) 0 [vR (278), vI (x1), vN, vN, vN, vN] [] (NG, S0, M) 0 0) := by
  unfold mo_act
  refine J.mono (fun k => w_aload_n rfl rfl (w_getR (r := 291) rfl (Nat.le_of_ble_eq_true rfl) S_278 rfl (w_iload_n rfl rfl (w_iconst rfl (inR_c rfl) (w_iadd rfl k))))) ?_
  refine J_chk (fun hi1 => ?_)
  refine J.mono (fun k => w_iald rfl A_291.1 A_291.2 hi1.1 hi1.2 (s_istore2 rfl (Nat.le_of_ble_eq_true rfl) (w_aload_n rfl rfl (w_getR (r := 291) rfl (Nat.le_of_ble_eq_true rfl) S_278 rfl (w_iload_n rfl rfl (w_iconst rfl (inR_c rfl) (w_iadd rfl k))))))) ?_
  refine J_chk (fun hi2 => ?_)
  refine J.mono (fun k => w_iald rfl A_291.1 A_291.2 hi2.1 hi2.2 (s_istore3 rfl (Nat.le_of_ble_eq_true rfl) (w_aload_n rfl rfl (w_getR (r := 291) rfl (Nat.le_of_ble_eq_true rfl) S_278 rfl (w_iload_n rfl rfl (w_iconst rfl (inR_c rfl) (w_iadd rfl k))))))) ?_
  refine J_chk (fun hi3 => ?_)
  refine J.mono (fun k => w_iald rfl A_291.1 A_291.2 hi3.1 hi3.2 (s_istore4 rfl (Nat.le_of_ble_eq_true rfl) (w_aload_n rfl rfl (w_getR (r := 291) rfl (Nat.le_of_ble_eq_true rfl) S_278 rfl (w_iload_n rfl rfl k))))) ?_
  refine J_chk (fun hi4 => ?_)
  refine J.mono (fun k => w_iald rfl A_291.1 A_291.2 hi4.1 hi4.2 k) ?_
  refine J_ite (fun hk5 => ?_) (fun hk5 => ?_)
  · refine J.mono (fun k => w_lookup (off := 81) (tgt := 115) rfl (by decide) (by rw [hk5] <;> rfl) (by decide) (w_iload_n rfl rfl k)) ?_
    refine J_ite (fun hc6 => ?_) (fun hc6 => ?_)
    · refine J.mono (fun k => s_if_le_t rfl hc6 (w_iconst rfl (inR_c rfl) k)) ?_
      exact J_some (fun k => w_zreturn rfl rfl (Or.inl rfl) k)
    · refine J.mono (fun k => s_if_le_f rfl hc6 (w_aload_n rfl rfl (w_iload_n rfl rfl (w_aload_n rfl rfl (w_getR (r := 279) rfl (Nat.le_of_ble_eq_true rfl) S_278 rfl (w_sipush rfl (sip_c rfl) (w_iald rfl A_279.1 A_279.2 (by decide) (by decide) (w_aload_n rfl rfl (w_getR (r := 279) rfl (Nat.le_of_ble_eq_true rfl) S_278 rfl (w_sipush rfl (sip_c rfl) (w_iald rfl A_279.1 A_279.2 (by decide) (by decide) (w_iload_n rfl rfl (w_iadd rfl (w_iconst rfl (inR_c rfl) (w_isub rfl (w_iload rfl rfl k)))))))))))))))) ?_
      refine J_c (fun p8 e7 => ?_)
      refine J_hyp (fun k => c_vi4 rfl (fun ho hM => cal_mo_carrot (by omega)  e7 ho hM) v_mo_carrot (Nat.le_of_ble_eq_true rfl) S_278 rfl (Nat.le_of_ble_eq_true rfl) k) (fun hr9 hb10 => ?_)
      refine J_ite (fun hc11 => ?_) (fun hc11 => ?_)
      · refine J.mono (fun k => s_if_lt_t rfl hc11 (w_iconst rfl (inR_c rfl) k)) ?_
        exact J_some (fun k => w_zreturn rfl rfl (Or.inl rfl) k)
      · refine J.mono (fun k => s_if_lt_f rfl hc11 (w_iconst rfl (inR_c rfl) (w_goto rfl k))) ?_
        exact J_some (fun k => w_zreturn rfl rfl (Or.inr rfl) k)
  · refine J_ite (fun hk12 => ?_) (fun hk12 => ?_)
    · refine J.mono (fun k => w_lookup (off := 34) (tgt := 68) rfl (by decide) (by rw [hk12] <;> rfl) (by decide) (w_iload_n rfl rfl (w_sipush rfl (sip_c rfl) k))) ?_
      refine J_ite (fun hc13 => ?_) (fun hc13 => ?_)
      · refine J.mono (fun k => s_icmp_le_t rfl hc13 (w_iconst rfl (inR_c rfl) (s_istore5 rfl (Nat.le_of_ble_eq_true rfl) k))) ?_
        refine J.mono (fun k => w_forget (wk_k (wk_d (wk_k (wk_d (wk_d (wk_k wk_0)))))) k) ?_
        refine J_loop (Jl_mo_act_b80 hd  _ _) (fun w18 => ?_)
        refine J.mono (fun k => w_iconst rfl (inR_c rfl) k) ?_
        exact J_some (fun k => w_zreturn rfl rfl (Or.inr rfl) k)
      · refine J.mono (fun k => s_icmp_le_f rfl hc13 (w_iconst rfl (inR_c rfl) k)) ?_
        exact J_some (fun k => w_zreturn rfl rfl (Or.inl rfl) k)
    · refine J_ite (fun hk19 => ?_) (fun hk19 => ?_)
      · refine J.mono (fun k => w_lookup (off := 121) (tgt := 155) rfl (by decide) (by rw [hk19] <;> rfl) (by decide) (w_aload_n rfl rfl (w_iload_n rfl rfl (w_iload rfl rfl (w_iload_n rfl rfl k))))) ?_
        refine J_c (fun p21 e20 => ?_)
        refine J_hyp (fun k => c_vi3 rfl (fun ho hM => cal_mo_sow (by omega)  e20 ho hM) v_mo_sow (Nat.le_of_ble_eq_true rfl) S_278 rfl (Nat.le_of_ble_eq_true rfl) k) (fun hr22 hb23 => ?_)
        refine J_ite (fun hc24 => ?_) (fun hc24 => ?_)
        · refine J.mono (fun k => s_if_lt_t rfl hc24 (w_iconst rfl (inR_c rfl) k)) ?_
          exact J_some (fun k => w_zreturn rfl rfl (Or.inl rfl) k)
        · refine J.mono (fun k => s_if_lt_f rfl hc24 (w_iconst rfl (inR_c rfl) (w_goto rfl k))) ?_
          exact J_some (fun k => w_zreturn rfl rfl (Or.inr rfl) k)
      · refine J.mono (fun k => w_lookDef (keys := [(99), (109), (115)]) (tgt := 172) rfl (by decide) (by simp only [nokey]; exact ⟨hk5, hk12, hk19, trivial⟩) (by decide) (by decide) (w_aload_n rfl rfl (w_iload_n rfl rfl (w_iconst rfl (inR_c rfl) (w_iload_n rfl rfl k))))) ?_
        refine J_c (fun p26 e25 => ?_)
        refine J_hyp (fun k => c_vi3 rfl (fun ho hM => cal_mo_set (by omega)  e25 ho hM) v_mo_set (Nat.le_of_ble_eq_true rfl) S_278 rfl (Nat.le_of_ble_eq_true rfl) k) (fun hr27 hb28 => ?_)
        refine J_ite (fun hc29 => ?_) (fun hc29 => ?_)
        · refine J.mono (fun k => s_if_lt_t rfl hc29 (w_iconst rfl (inR_c rfl) k)) ?_
          exact J_some (fun k => w_zreturn rfl rfl (Or.inl rfl) k)
        · refine J.mono (fun k => s_if_lt_f rfl hc29 (w_iconst rfl (inR_c rfl) (w_goto rfl k))) ?_
          exact J_some (fun k => w_zreturn rfl rfl (Or.inr rfl) k)
set_option maxRecDepth 20000 in
set_option maxHeartbeats 4000000 in
theorem cal_mo_act {Δ : DT} {d : Nat} (hd : 76 ≤ d) {x1 : Int}  {M : MEM} {p : Int × MEM} (h : mo_act x1 M = some p) (ho : okVs [vR 278, vI x1]) (hM : okM M) : Cal Δ false m_mo_act d [vR 278, vI x1] (NG, S0, M) (some p.1) (NG, S0, p.2) 0 0 := by
  obtain ⟨d, rfl⟩ : ∃ e, d = e + 1 := ⟨d - 1, by omega⟩
  exact cal_of g_mo_act p_mo_act (fun v hv => by simp only [List.mem_cons, List.not_mem_nil, or_false] at hv; rcases hv with rfl | rfl <;> first | exact Or.inl ⟨_, rfl⟩ | exact Or.inr ⟨_, rfl⟩) ho hM (Nat.le_of_ble_eq_true rfl) (fun Γ _ k => J_mo_act hd  _ h k)
noncomputable def mo_readAct_j148 (x1 : Int) (M : MEM) : Option (MEM) :=
(some (up2 M 278 17 (wr ((M 278 17) + 1)))).bind fun M34 =>
(mo_number 2 M34).bind fun p36 =>
if 0 ≤ (wr (x1 + 2)) ∧ (wr (x1 + 2)) < 320 then
(some (up2 p36.2 291 ((wr (x1 + 2))).toNat p36.1)).bind fun M39 =>
some M39
else none
set_option maxRecDepth 20000 in
set_option maxHeartbeats 4000000 in
theorem J_mo_readAct_j148 {Δ : DT} {Γ : FT} {d : Nat} (hd : 3 ≤ d + 1) {x1 : Int}  {M : MEM} : J (mo_readAct_j148 x1 M) (K_M Δ Γ m_mo_readAct) (WAt Δ Γ false m_mo_readAct (d + 1) 148 [vR (278), vI (x1), vN] [] (NG, S0, M) 0 0) := by
  unfold mo_readAct_j148
  refine J.mono (fun k => w_aload_n rfl rfl (w_dup rfl (fun _ h => by cases h) (w_getI rfl (Nat.le_of_ble_eq_true rfl) S_278 rfl (w_iconst rfl (inR_c rfl) (w_iadd rfl k))))) ?_
  refine J_b ?_
  refine J.mono (fun k => w_putI rfl (Nat.le_of_ble_eq_true rfl) S_278 rfl rfl (w_aload_n rfl rfl (w_getR (r := 291) rfl (Nat.le_of_ble_eq_true rfl) S_278 rfl (w_iload_n rfl rfl (w_iconst rfl (inR_c rfl) (w_iadd rfl (w_aload_n rfl rfl (w_iconst rfl (inR_c rfl) k)))))))) ?_
  refine J_c (fun p36 e35 => ?_)
  refine J_hyp (fun k => c_vi1 rfl (fun ho hM => cal_mo_number (by omega)  e35 ho hM) v_mo_number (Nat.le_of_ble_eq_true rfl) S_278 rfl (Nat.le_of_ble_eq_true rfl) k) (fun hr37 hb38 => ?_)
  refine J_chk (fun hi40 => ?_)
  refine J_b ?_
  refine J.mono (fun k => w_iast rfl A_291.1 A_291.2 hi40.1 hi40.2 rfl k) ?_
  exact J_some (fun k => w_return rfl rfl k)
noncomputable def mo_readAct_j114 (x1 : Int) (s1 : Int) (s2 : Int) (M : MEM) : Option (MEM) :=
if 0 ≤ s1 ∧ s1 < 320 then
(some (up2 M 291 (s1).toNat s2)).bind fun M28 =>
if (mo_fine M28) = 0 then
mo_readAct_j148 x1 M28
else
(mo_here M28).bind fun r42 =>
if r42 = 43 then
mo_readAct_j148 x1 M28
else
(mo_here M28).bind fun r47 =>
if r47 = 45 then
mo_readAct_j148 x1 M28
else
(mo_fault (M28 278 17) M28).bind fun M52 =>
mo_readAct_j148 x1 M52
else none
set_option maxRecDepth 20000 in
set_option maxHeartbeats 4000000 in
theorem J_mo_readAct_j114 {Δ : DT} {Γ : FT} {d : Nat} (hd : 3 ≤ d + 1) {x1 : Int} {s1 : Int} {s2 : Int}  {M : MEM} : J (mo_readAct_j114 x1 s1 s2 M) (K_M Δ Γ m_mo_readAct) (WAt Δ Γ false m_mo_readAct (d + 1) 114 [vR (278), vI (x1), vN] [vI (s2), vI (s1), vR (291)] (NG, S0, M) 0 0) := by
  unfold mo_readAct_j114
  refine J_chk (fun hi29 => ?_)
  refine J_b ?_
  refine J.mono (fun k => w_iast rfl A_291.1 A_291.2 hi29.1 hi29.2 rfl (w_aload_n rfl rfl k)) ?_
  refine J_hyp (fun k => c_vi0 rfl (fun ho hM => cal_mo_fine (by omega)   ho hM) v_mo_fine (Nat.le_of_ble_eq_true rfl) S_278 rfl (Nat.le_of_ble_eq_true rfl) k) (fun hr31 hb32 => ?_)
  refine J_ite (fun hc33 => ?_) (fun hc33 => ?_)
  · refine J.mono (fun k => s_if_eq_t rfl hc33 k) ?_
    exact J.mono (fun k => w_forget (wk_k (wk_k (wk_d wk_0))) k) (J_mo_readAct_j148 hd )
  · refine J.mono (fun k => s_if_eq_f rfl hc33 (w_aload_n rfl rfl k)) ?_
    refine J_c (fun r42 e41 => ?_)
    refine J_hyp (fun k => c_vi0 rfl (fun ho hM => cal_mo_here (by omega)  e41 ho hM) v_mo_here (Nat.le_of_ble_eq_true rfl) S_278 rfl (Nat.le_of_ble_eq_true rfl) k) (fun hr43 hb44 => ?_)
    refine J.mono (fun k => w_bipush rfl (bip_c rfl) k) ?_
    refine J_ite (fun hc45 => ?_) (fun hc45 => ?_)
    · refine J.mono (fun k => s_icmp_eq_t rfl hc45 k) ?_
      exact J.mono (fun k => w_forget (wk_k (wk_k (wk_d wk_0))) k) (J_mo_readAct_j148 hd )
    · refine J.mono (fun k => s_icmp_eq_f rfl hc45 (w_aload_n rfl rfl k)) ?_
      refine J_c (fun r47 e46 => ?_)
      refine J_hyp (fun k => c_vi0 rfl (fun ho hM => cal_mo_here (by omega)  e46 ho hM) v_mo_here (Nat.le_of_ble_eq_true rfl) S_278 rfl (Nat.le_of_ble_eq_true rfl) k) (fun hr48 hb49 => ?_)
      refine J.mono (fun k => w_bipush rfl (bip_c rfl) k) ?_
      refine J_ite (fun hc50 => ?_) (fun hc50 => ?_)
      · refine J.mono (fun k => s_icmp_eq_t rfl hc50 k) ?_
        exact J.mono (fun k => w_forget (wk_k (wk_k (wk_d wk_0))) k) (J_mo_readAct_j148 hd )
      · refine J.mono (fun k => s_icmp_eq_f rfl hc50 (w_aload_n rfl rfl (w_aload_n rfl rfl (w_getI rfl (Nat.le_of_ble_eq_true rfl) S_278 rfl k)))) ?_
        refine J_c (fun M52 e51 => ?_)
        refine J.mono (fun k => c_vv1 rfl (fun ho hM => cal_mo_fault (by omega)  e51 ho hM) v_mo_fault (Nat.le_of_ble_eq_true rfl) S_278 rfl (Nat.le_of_ble_eq_true rfl) k) ?_
        exact J.mono (fun k => w_forget (wk_k (wk_k (wk_d wk_0))) k) (J_mo_readAct_j148 hd )
noncomputable def mo_readAct_j191 (x1 : Int) (M : MEM) : Option (MEM) :=
(mo_need 61 M).bind fun M61 =>
(mo_number 1 M61).bind fun p63 =>
if 0 ≤ (wr (x1 + 2)) ∧ (wr (x1 + 2)) < 320 then
(some (up2 p63.2 291 ((wr (x1 + 2))).toNat p63.1)).bind fun M66 =>
some M66
else none
set_option maxRecDepth 20000 in
set_option maxHeartbeats 4000000 in
theorem J_mo_readAct_j191 {Δ : DT} {Γ : FT} {d : Nat} (hd : 3 ≤ d + 1) {x1 : Int}  {M : MEM} : J (mo_readAct_j191 x1 M) (K_M Δ Γ m_mo_readAct) (WAt Δ Γ false m_mo_readAct (d + 1) 191 [vR (278), vI (x1), vN] [] (NG, S0, M) 0 0) := by
  unfold mo_readAct_j191
  refine J.mono (fun k => w_aload_n rfl rfl (w_bipush rfl (bip_c rfl) k)) ?_
  refine J_c (fun M61 e60 => ?_)
  refine J.mono (fun k => c_vv1 rfl (fun ho hM => cal_mo_need (by omega)  e60 ho hM) v_mo_need (Nat.le_of_ble_eq_true rfl) S_278 rfl (Nat.le_of_ble_eq_true rfl) (w_aload_n rfl rfl (w_getR (r := 291) rfl (Nat.le_of_ble_eq_true rfl) S_278 rfl (w_iload_n rfl rfl (w_iconst rfl (inR_c rfl) (w_iadd rfl (w_aload_n rfl rfl (w_iconst rfl (inR_c rfl) k)))))))) ?_
  refine J_c (fun p63 e62 => ?_)
  refine J_hyp (fun k => c_vi1 rfl (fun ho hM => cal_mo_number (by omega)  e62 ho hM) v_mo_number (Nat.le_of_ble_eq_true rfl) S_278 rfl (Nat.le_of_ble_eq_true rfl) k) (fun hr64 hb65 => ?_)
  refine J_chk (fun hi67 => ?_)
  refine J_b ?_
  refine J.mono (fun k => w_iast rfl A_291.1 A_291.2 hi67.1 hi67.2 rfl k) ?_
  exact J_some (fun k => w_return rfl rfl k)
noncomputable def mo_readAct_j37 (x1 : Int) (x2 : Int) (M : MEM) : Option (MEM) :=
(some (up2 M 278 17 (wr ((M 278 17) + 1)))).bind fun M6 =>
if 0 ≤ x1 ∧ x1 < 320 then
(some (up2 M6 291 (x1).toNat x2)).bind fun M7 =>
if x2 = 109 then
(mo_number 3 M7).bind fun p11 =>
if 0 ≤ (wr (x1 + 1)) ∧ (wr (x1 + 1)) < 320 then
(some (up2 p11.2 291 ((wr (x1 + 1))).toNat p11.1)).bind fun M14 =>
some M14
else none
else
(mo_number 1 M7).bind fun p17 =>
if 0 ≤ (wr (x1 + 1)) ∧ (wr (x1 + 1)) < 320 then
(some (up2 p17.2 291 ((wr (x1 + 1))).toNat p17.1)).bind fun M20 =>
if x2 = 99 then
(mo_here M20).bind fun r24 =>
if r24 = 45 then
mo_readAct_j114 x1 (wr (x1 + 3)) (-1) M20
else
mo_readAct_j114 x1 (wr (x1 + 3)) 1 M20
else
if x2 = 115 then
(mo_number 2 M20).bind fun p55 =>
if 0 ≤ (wr (x1 + 3)) ∧ (wr (x1 + 3)) < 320 then
(some (up2 p55.2 291 ((wr (x1 + 3))).toNat p55.1)).bind fun M58 =>
mo_readAct_j191 x1 M58
else none
else
mo_readAct_j191 x1 M20
else none
else none
set_option maxRecDepth 20000 in
set_option maxHeartbeats 4000000 in
theorem J_mo_readAct_j37 {Δ : DT} {Γ : FT} {d : Nat} (hd : 3 ≤ d + 1) {x1 : Int} {x2 : Int}  {M : MEM} : J (mo_readAct_j37 x1 x2 M) (K_M Δ Γ m_mo_readAct) (WAt Δ Γ false m_mo_readAct (d + 1) 37 [vR (278), vI (x1), vI (x2)] [] (NG, S0, M) 0 0) := by
  unfold mo_readAct_j37
  refine J.mono (fun k => w_aload_n rfl rfl (w_dup rfl (fun _ h => by cases h) (w_getI rfl (Nat.le_of_ble_eq_true rfl) S_278 rfl (w_iconst rfl (inR_c rfl) (w_iadd rfl k))))) ?_
  refine J_b ?_
  refine J.mono (fun k => w_putI rfl (Nat.le_of_ble_eq_true rfl) S_278 rfl rfl (w_aload_n rfl rfl (w_getR (r := 291) rfl (Nat.le_of_ble_eq_true rfl) S_278 rfl (w_iload_n rfl rfl (w_iload_n rfl rfl k))))) ?_
  refine J_chk (fun hi8 => ?_)
  refine J_b ?_
  refine J.mono (fun k => w_iast rfl A_291.1 A_291.2 hi8.1 hi8.2 rfl (w_iload_n rfl rfl (w_bipush rfl (bip_c rfl) k))) ?_
  refine J_ite (fun hc9 => ?_) (fun hc9 => ?_)
  · refine J.mono (fun k => s_icmp_ne_f rfl hc9 (w_aload_n rfl rfl (w_getR (r := 291) rfl (Nat.le_of_ble_eq_true rfl) S_278 rfl (w_iload_n rfl rfl (w_iconst rfl (inR_c rfl) (w_iadd rfl (w_aload_n rfl rfl (w_iconst rfl (inR_c rfl) k)))))))) ?_
    refine J_c (fun p11 e10 => ?_)
    refine J_hyp (fun k => c_vi1 rfl (fun ho hM => cal_mo_number (by omega)  e10 ho hM) v_mo_number (Nat.le_of_ble_eq_true rfl) S_278 rfl (Nat.le_of_ble_eq_true rfl) k) (fun hr12 hb13 => ?_)
    refine J_chk (fun hi15 => ?_)
    refine J_b ?_
    refine J.mono (fun k => w_iast rfl A_291.1 A_291.2 hi15.1 hi15.2 rfl k) ?_
    exact J_some (fun k => w_return rfl rfl k)
  · refine J.mono (fun k => s_icmp_ne_t rfl hc9 (w_aload_n rfl rfl (w_getR (r := 291) rfl (Nat.le_of_ble_eq_true rfl) S_278 rfl (w_iload_n rfl rfl (w_iconst rfl (inR_c rfl) (w_iadd rfl (w_aload_n rfl rfl (w_iconst rfl (inR_c rfl) k)))))))) ?_
    refine J_c (fun p17 e16 => ?_)
    refine J_hyp (fun k => c_vi1 rfl (fun ho hM => cal_mo_number (by omega)  e16 ho hM) v_mo_number (Nat.le_of_ble_eq_true rfl) S_278 rfl (Nat.le_of_ble_eq_true rfl) k) (fun hr18 hb19 => ?_)
    refine J_chk (fun hi21 => ?_)
    refine J_b ?_
    refine J.mono (fun k => w_iast rfl A_291.1 A_291.2 hi21.1 hi21.2 rfl (w_iload_n rfl rfl (w_bipush rfl (bip_c rfl) k))) ?_
    refine J_ite (fun hc22 => ?_) (fun hc22 => ?_)
    · refine J.mono (fun k => s_icmp_ne_f rfl hc22 (w_aload_n rfl rfl (w_getR (r := 291) rfl (Nat.le_of_ble_eq_true rfl) S_278 rfl (w_iload_n rfl rfl (w_iconst rfl (inR_c rfl) (w_iadd rfl (w_aload_n rfl rfl k))))))) ?_
      refine J_c (fun r24 e23 => ?_)
      refine J_hyp (fun k => c_vi0 rfl (fun ho hM => cal_mo_here (by omega)  e23 ho hM) v_mo_here (Nat.le_of_ble_eq_true rfl) S_278 rfl (Nat.le_of_ble_eq_true rfl) k) (fun hr25 hb26 => ?_)
      refine J.mono (fun k => w_bipush rfl (bip_c rfl) k) ?_
      refine J_ite (fun hc27 => ?_) (fun hc27 => ?_)
      · refine J.mono (fun k => s_icmp_ne_f rfl hc27 (w_iconst rfl (inR_c rfl) (w_goto rfl k))) ?_
        exact J.mono (fun k => w_forget (wk_k (wk_k (wk_d wk_0))) k) (J_mo_readAct_j114 hd )
      · refine J.mono (fun k => s_icmp_ne_t rfl hc27 (w_iconst rfl (inR_c rfl) k)) ?_
        exact J.mono (fun k => w_forget (wk_k (wk_k (wk_d wk_0))) k) (J_mo_readAct_j114 hd )
    · refine J.mono (fun k => s_icmp_ne_t rfl hc22 (w_iload_n rfl rfl (w_bipush rfl (bip_c rfl) k))) ?_
      refine J_ite (fun hc53 => ?_) (fun hc53 => ?_)
      · refine J.mono (fun k => s_icmp_ne_f rfl hc53 (w_aload_n rfl rfl (w_getR (r := 291) rfl (Nat.le_of_ble_eq_true rfl) S_278 rfl (w_iload_n rfl rfl (w_iconst rfl (inR_c rfl) (w_iadd rfl (w_aload_n rfl rfl (w_iconst rfl (inR_c rfl) k)))))))) ?_
        refine J_c (fun p55 e54 => ?_)
        refine J_hyp (fun k => c_vi1 rfl (fun ho hM => cal_mo_number (by omega)  e54 ho hM) v_mo_number (Nat.le_of_ble_eq_true rfl) S_278 rfl (Nat.le_of_ble_eq_true rfl) k) (fun hr56 hb57 => ?_)
        refine J_chk (fun hi59 => ?_)
        refine J_b ?_
        refine J.mono (fun k => w_iast rfl A_291.1 A_291.2 hi59.1 hi59.2 rfl k) ?_
        exact J.mono (fun k => w_forget (wk_k (wk_k (wk_d wk_0))) k) (J_mo_readAct_j191 hd )
      · refine J.mono (fun k => s_icmp_ne_t rfl hc53 k) ?_
        exact J.mono (fun k => w_forget (wk_k (wk_k (wk_d wk_0))) k) (J_mo_readAct_j191 hd )
noncomputable def mo_readAct (x1 : Int) (M : MEM) : Option (MEM) :=
(mo_here M).bind fun r2 =>
if r2 = 109 then
mo_readAct_j37 x1 r2 M
else
if r2 = 99 then
mo_readAct_j37 x1 r2 M
else
if r2 = 115 then
mo_readAct_j37 x1 r2 M
else
if r2 = 104 then
mo_readAct_j37 x1 r2 M
else
(mo_fault (M 278 17) M).bind fun M72 =>
mo_readAct_j37 x1 r2 M72
set_option maxRecDepth 20000 in
set_option maxHeartbeats 4000000 in
theorem J_mo_readAct {Δ : DT} {Γ : FT} {d : Nat} (hd : 3 ≤ d + 1) {x1 : Int}  {M : MEM} : J (mo_readAct x1 M) (K_M Δ Γ m_mo_readAct) (WAt Δ Γ false m_mo_readAct (d + 1) 0 [vR (278), vI (x1), vN] [] (NG, S0, M) 0 0) := by
  unfold mo_readAct
  refine J.mono (fun k => w_aload_n rfl rfl k) ?_
  refine J_c (fun r2 e1 => ?_)
  refine J_hyp (fun k => c_vi0 rfl (fun ho hM => cal_mo_here (by omega)  e1 ho hM) v_mo_here (Nat.le_of_ble_eq_true rfl) S_278 rfl (Nat.le_of_ble_eq_true rfl) k) (fun hr3 hb4 => ?_)
  refine J.mono (fun k => s_istore2 rfl (Nat.le_of_ble_eq_true rfl) (w_iload_n rfl rfl (w_bipush rfl (bip_c rfl) k))) ?_
  refine J_ite (fun hc5 => ?_) (fun hc5 => ?_)
  · refine J.mono (fun k => s_icmp_eq_t rfl hc5 k) ?_
    exact J.mono (fun k => w_forget (wk_k (wk_k (wk_k wk_0))) k) (J_mo_readAct_j37 hd )
  · refine J.mono (fun k => s_icmp_eq_f rfl hc5 (w_iload_n rfl rfl (w_bipush rfl (bip_c rfl) k))) ?_
    refine J_ite (fun hc68 => ?_) (fun hc68 => ?_)
    · refine J.mono (fun k => s_icmp_eq_t rfl hc68 k) ?_
      exact J.mono (fun k => w_forget (wk_k (wk_k (wk_k wk_0))) k) (J_mo_readAct_j37 hd )
    · refine J.mono (fun k => s_icmp_eq_f rfl hc68 (w_iload_n rfl rfl (w_bipush rfl (bip_c rfl) k))) ?_
      refine J_ite (fun hc69 => ?_) (fun hc69 => ?_)
      · refine J.mono (fun k => s_icmp_eq_t rfl hc69 k) ?_
        exact J.mono (fun k => w_forget (wk_k (wk_k (wk_k wk_0))) k) (J_mo_readAct_j37 hd )
      · refine J.mono (fun k => s_icmp_eq_f rfl hc69 (w_iload_n rfl rfl (w_bipush rfl (bip_c rfl) k))) ?_
        refine J_ite (fun hc70 => ?_) (fun hc70 => ?_)
        · refine J.mono (fun k => s_icmp_eq_t rfl hc70 k) ?_
          exact J.mono (fun k => w_forget (wk_k (wk_k (wk_k wk_0))) k) (J_mo_readAct_j37 hd )
        · refine J.mono (fun k => s_icmp_eq_f rfl hc70 (w_aload_n rfl rfl (w_aload_n rfl rfl (w_getI rfl (Nat.le_of_ble_eq_true rfl) S_278 rfl k)))) ?_
          refine J_c (fun M72 e71 => ?_)
          refine J.mono (fun k => c_vv1 rfl (fun ho hM => cal_mo_fault (by omega)  e71 ho hM) v_mo_fault (Nat.le_of_ble_eq_true rfl) S_278 rfl (Nat.le_of_ble_eq_true rfl) k) ?_
          exact J.mono (fun k => w_forget (wk_k (wk_k (wk_k wk_0))) k) (J_mo_readAct_j37 hd )
set_option maxRecDepth 20000 in
set_option maxHeartbeats 4000000 in
theorem cal_mo_readAct {Δ : DT} {d : Nat} (hd : 3 ≤ d) {x1 : Int}  {M : MEM} {M1 : MEM} (h : mo_readAct x1 M = some M1) (ho : okVs [vR 278, vI x1]) (hM : okM M) : Cal Δ false m_mo_readAct d [vR 278, vI x1] (NG, S0, M) none (NG, S0, M1) 0 0 := by
  obtain ⟨d, rfl⟩ : ∃ e, d = e + 1 := ⟨d - 1, by omega⟩
  exact cal_of g_mo_readAct p_mo_readAct (fun v hv => by simp only [List.mem_cons, List.not_mem_nil, or_false] at hv; rcases hv with rfl | rfl <;> first | exact Or.inl ⟨_, rfl⟩ | exact Or.inr ⟨_, rfl⟩) ho hM (Nat.le_of_ble_eq_true rfl) (fun Γ _ k => J_mo_readAct hd  _ h k)
abbrev HD_mo_day_b39 (Δ : DT) (Γ : FT) (d : Nat)  (s : Int × Int × MEM) : Prop := WAt Δ Γ false m_mo_day (d + 1) 39 [vR (278), vI (s.1), vI (s.2.1), vN] [] (NG, S0, s.2.2) 0 0
abbrev X_mo_day_b39 (Δ : DT) (Γ : FT) (d : Nat)  (s : Int × Int × MEM) : Prop := WAt Δ Γ false m_mo_day (d + 1) 70 [vR (278), vI (s.1), vN, vN] [] (NG, S0, s.2.2) 0 0
noncomputable def mo_day_b39  (x1 : Int) (x2 : Int) (M : MEM) : Option ((Int × Int × MEM) ⊕ (Int × Int × MEM)) :=
if x2 = 0 then
some (.inr (x1, x2, M))
else
if (mo_fine M) = 0 then
some (.inr (x1, x2, M))
else
(mo_readAct (wr (4 * x1)) M).bind fun M12 =>
(mo_passes 59 M12).bind fun p14 =>
some (.inl ((wr (x1 + 1)), p14.1, p14.2))
set_option maxRecDepth 20000 in
set_option maxHeartbeats 4000000 in
theorem Jb_mo_day_b39 {Δ : DT} {Γ : FT} {d : Nat} (hd : 77 ≤ d + 1)   {x1 : Int} {x2 : Int} {M : MEM} : J (mo_day_b39  x1 x2 M) (Sum.elim (HD_mo_day_b39 Δ Γ d ) (X_mo_day_b39 Δ Γ d )) (WAt Δ Γ false m_mo_day (d + 1) 39 [vR (278), vI (x1), vI (x2), vN] [] (NG, S0, M) 0 0) := by
  unfold mo_day_b39
  refine J.mono (fun k => w_iload_n rfl rfl k) ?_
  refine J_ite (fun hc6 => ?_) (fun hc6 => ?_)
  · refine J.mono (fun k => s_if_eq_t rfl hc6 k) ?_
    exact J_some (fun k => w_forget (wk_k (wk_k (wk_d (wk_d wk_0)))) k)
  · refine J.mono (fun k => s_if_eq_f rfl hc6 (w_aload_n rfl rfl k)) ?_
    refine J_hyp (fun k => c_vi0 rfl (fun ho hM => cal_mo_fine (by omega)   ho hM) v_mo_fine (Nat.le_of_ble_eq_true rfl) S_278 rfl (Nat.le_of_ble_eq_true rfl) k) (fun hr8 hb9 => ?_)
    refine J_ite (fun hc10 => ?_) (fun hc10 => ?_)
    · refine J.mono (fun k => s_if_eq_t rfl hc10 k) ?_
      exact J_some (fun k => w_forget (wk_k (wk_k (wk_d (wk_d wk_0)))) k)
    · refine J.mono (fun k => s_if_eq_f rfl hc10 (w_aload_n rfl rfl (w_iconst rfl (inR_c rfl) (w_iload_n rfl rfl (w_imul rfl k))))) ?_
      refine J_c (fun M12 e11 => ?_)
      refine J.mono (fun k => c_vv1 rfl (fun ho hM => cal_mo_readAct (by omega)  e11 ho hM) v_mo_readAct (Nat.le_of_ble_eq_true rfl) S_278 rfl (Nat.le_of_ble_eq_true rfl) (s_iinc1 rfl (Nat.le_of_ble_eq_true rfl) (w_aload_n rfl rfl (w_bipush rfl (bip_c rfl) k)))) ?_
      refine J_c (fun p14 e13 => ?_)
      refine J_hyp (fun k => c_vi1 rfl (fun ho hM => cal_mo_passes (by omega)  e13 ho hM) v_mo_passes (Nat.le_of_ble_eq_true rfl) S_278 rfl (Nat.le_of_ble_eq_true rfl) k) (fun hr15 hb16 => ?_)
      refine J.mono (fun k => s_istore2 rfl (Nat.le_of_ble_eq_true rfl) (w_goto rfl k)) ?_
      exact J_some (fun k => w_forget (wk_k (wk_k (wk_k (wk_d wk_0)))) k)
set_option maxRecDepth 20000 in
set_option maxHeartbeats 4000000 in
theorem Jl_mo_day_b39 {Δ : DT} {Γ : FT} {d : Nat} (hd : 77 ≤ d + 1)    : ∀ (n : Nat) (s : Int × Int × MEM), J (iter (fun s => mo_day_b39  s.1 s.2.1 s.2.2) n s) (X_mo_day_b39 Δ Γ d ) (HD_mo_day_b39 Δ Γ d  s) := J_iter (fun s => Jb_mo_day_b39 hd )
abbrev HD_mo_day_b115 (Δ : DT) (Γ : FT) (d : Nat) (x1 : Int) (s : Int × MEM) : Prop := WAt Δ Γ false m_mo_day (d + 1) 115 [vR (278), vI (x1), vN, vI (s.1)] [] (NG, S0, s.2) 0 0
abbrev X_mo_day_b115 (Δ : DT) (Γ : FT) (d : Nat) (x1 : Int) (s : Int × MEM) : Prop := WAt Δ Γ false m_mo_day (d + 1) 136 [vR (278), vI (x1), vN, vI (s.1)] [] (NG, S0, s.2) 0 0
noncomputable def mo_day_b115 (x1 : Int) (x3 : Int) (M : MEM) : Option ((Int × MEM) ⊕ (Int × MEM)) :=
if x1 ≤ x3 then
some (.inr (x3, M))
else
(mo_act (wr (4 * x3)) M).bind fun p28 =>
if p28.1 = 0 then
some (.inr (x3, p28.2))
else
some (.inl ((wr (x3 + 1)), p28.2))
set_option maxRecDepth 20000 in
set_option maxHeartbeats 4000000 in
theorem Jb_mo_day_b115 {Δ : DT} {Γ : FT} {d : Nat} (hd : 77 ≤ d + 1) {x1 : Int}  {x3 : Int} {M : MEM} : J (mo_day_b115 x1 x3 M) (Sum.elim (HD_mo_day_b115 Δ Γ d x1) (X_mo_day_b115 Δ Γ d x1)) (WAt Δ Γ false m_mo_day (d + 1) 115 [vR (278), vI (x1), vN, vI (x3)] [] (NG, S0, M) 0 0) := by
  unfold mo_day_b115
  refine J.mono (fun k => w_iload_n rfl rfl (w_iload_n rfl rfl k)) ?_
  refine J_ite (fun hc26 => ?_) (fun hc26 => ?_)
  · refine J.mono (fun k => s_icmp_ge_t rfl hc26 k) ?_
    exact J_some (fun k => w_forget (wk_k (wk_k (wk_d (wk_k wk_0)))) k)
  · refine J.mono (fun k => s_icmp_ge_f rfl hc26 (w_aload_n rfl rfl (w_iconst rfl (inR_c rfl) (w_iload_n rfl rfl (w_imul rfl k))))) ?_
    refine J_c (fun p28 e27 => ?_)
    refine J_hyp (fun k => c_vi1 rfl (fun ho hM => cal_mo_act (by omega)  e27 ho hM) v_mo_act (Nat.le_of_ble_eq_true rfl) S_278 rfl (Nat.le_of_ble_eq_true rfl) k) (fun hr29 hb30 => ?_)
    refine J_ite (fun hc31 => ?_) (fun hc31 => ?_)
    · refine J.mono (fun k => s_if_eq_t rfl hc31 k) ?_
      exact J_some (fun k => w_forget (wk_k (wk_k (wk_d (wk_k wk_0)))) k)
    · refine J.mono (fun k => s_if_eq_f rfl hc31 (s_iinc3 rfl (Nat.le_of_ble_eq_true rfl) (w_goto rfl k))) ?_
      exact J_some (fun k => w_forget (wk_k (wk_k (wk_d (wk_k wk_0)))) k)
set_option maxRecDepth 20000 in
set_option maxHeartbeats 4000000 in
theorem Jl_mo_day_b115 {Δ : DT} {Γ : FT} {d : Nat} (hd : 77 ≤ d + 1) {x1 : Int}   : ∀ (n : Nat) (s : Int × MEM), J (iter (fun s => mo_day_b115 x1 s.1 s.2) n s) (X_mo_day_b115 Δ Γ d x1) (HD_mo_day_b115 Δ Γ d x1 s) := J_iter (fun s => Jb_mo_day_b115 hd )
noncomputable def mo_day_j160 (x3 : Int) (s1 : Int) (M : MEM) : Option (Int × MEM) :=
(mo_tell s1 M).bind fun M37 =>
(mo_tell (M37 278 35) M37).bind fun M39 =>
some (x3, M39)
set_option maxRecDepth 20000 in
set_option maxHeartbeats 4000000 in
theorem J_mo_day_j160 {Δ : DT} {Γ : FT} {d : Nat} (hd : 77 ≤ d + 1) {x3 : Int} {s1 : Int}  {M : MEM} : J (mo_day_j160 x3 s1 M) (K_IM Δ Γ m_mo_day) (WAt Δ Γ false m_mo_day (d + 1) 160 [vR (278), vN, vN, vI (x3)] [vI (s1), vR (278)] (NG, S0, M) 0 0) := by
  unfold mo_day_j160
  refine J_c (fun M37 e36 => ?_)
  refine J.mono (fun k => c_vv1 rfl (fun ho hM => cal_mo_tell (by omega)  e36 ho hM) v_mo_tell (Nat.le_of_ble_eq_true rfl) S_278 rfl (Nat.le_of_ble_eq_true rfl) (w_aload_n rfl rfl (w_aload_n rfl rfl (w_getI rfl (Nat.le_of_ble_eq_true rfl) S_278 rfl k)))) ?_
  refine J_c (fun M39 e38 => ?_)
  refine J.mono (fun k => c_vv1 rfl (fun ho hM => cal_mo_tell (by omega)  e38 ho hM) v_mo_tell (Nat.le_of_ble_eq_true rfl) S_278 rfl (Nat.le_of_ble_eq_true rfl) (w_iload_n rfl rfl k)) ?_
  exact J_some (fun k => w_ireturn rfl rfl k)
noncomputable def mo_day_j144 (x1 : Int) (x3 : Int) (M : MEM) : Option (Int × MEM) :=
(some (up2 M 278 12 0)).bind fun M34 =>
if x1 ≤ x3 then
mo_day_j160 x3 0 M34
else
mo_day_j160 x3 1 M34
set_option maxRecDepth 20000 in
set_option maxHeartbeats 4000000 in
theorem J_mo_day_j144 {Δ : DT} {Γ : FT} {d : Nat} (hd : 77 ≤ d + 1) {x1 : Int} {x3 : Int}  {M : MEM} : J (mo_day_j144 x1 x3 M) (K_IM Δ Γ m_mo_day) (WAt Δ Γ false m_mo_day (d + 1) 144 [vR (278), vI (x1), vN, vI (x3)] [] (NG, S0, M) 0 0) := by
  unfold mo_day_j144
  refine J.mono (fun k => w_aload_n rfl rfl (w_iconst rfl (inR_c rfl) k)) ?_
  refine J_b ?_
  refine J.mono (fun k => w_putI rfl (Nat.le_of_ble_eq_true rfl) S_278 rfl rfl (w_aload_n rfl rfl (w_iload_n rfl rfl (w_iload_n rfl rfl k)))) ?_
  refine J_ite (fun hc35 => ?_) (fun hc35 => ?_)
  · refine J.mono (fun k => s_icmp_ge_t rfl hc35 (w_iconst rfl (inR_c rfl) k)) ?_
    exact J.mono (fun k => w_forget (wk_k (wk_d (wk_d (wk_k wk_0)))) k) (J_mo_day_j160 hd )
  · refine J.mono (fun k => s_icmp_ge_f rfl hc35 (w_iconst rfl (inR_c rfl) (w_goto rfl k))) ?_
    exact J.mono (fun k => w_forget (wk_k (wk_d (wk_d (wk_k wk_0)))) k) (J_mo_day_j160 hd )
noncomputable def mo_day_j136 (x1 : Int) (x3 : Int) (M : MEM) : Option (Int × MEM) :=
if x3 ≤ 0 then
mo_day_j144 x1 x3 M
else
(mo_remember M).bind fun M41 =>
mo_day_j144 x1 x3 M41
set_option maxRecDepth 20000 in
set_option maxHeartbeats 4000000 in
theorem J_mo_day_j136 {Δ : DT} {Γ : FT} {d : Nat} (hd : 77 ≤ d + 1) {x1 : Int} {x3 : Int}  {M : MEM} : J (mo_day_j136 x1 x3 M) (K_IM Δ Γ m_mo_day) (WAt Δ Γ false m_mo_day (d + 1) 136 [vR (278), vI (x1), vN, vI (x3)] [] (NG, S0, M) 0 0) := by
  unfold mo_day_j136
  refine J.mono (fun k => w_iload_n rfl rfl k) ?_
  refine J_ite (fun hc33 => ?_) (fun hc33 => ?_)
  · refine J.mono (fun k => s_if_le_t rfl hc33 k) ?_
    exact J.mono (fun k => w_forget (wk_k (wk_k (wk_d (wk_k wk_0)))) k) (J_mo_day_j144 hd )
  · refine J.mono (fun k => s_if_le_f rfl hc33 (w_aload_n rfl rfl k)) ?_
    refine J_c (fun M41 e40 => ?_)
    refine J.mono (fun k => c_vv0 rfl (fun ho hM => cal_mo_remember (by omega)  e40 ho hM) v_mo_remember (Nat.le_of_ble_eq_true rfl) S_278 rfl (Nat.le_of_ble_eq_true rfl) k) ?_
    exact J.mono (fun k => w_forget (wk_k (wk_k (wk_d (wk_k wk_0)))) k) (J_mo_day_j144 hd )
noncomputable def mo_day_j89 (x1 : Int) (M : MEM) : Option (Int × MEM) :=
if (mo_fine M) = 0 then
some ((wr ((-1) - (M 278 18))), M)
else
(mo_layAside 1 M).bind fun M24 =>
(some (up2 M24 278 35 0)).bind fun M25 =>
(iter (fun s => mo_day_b115 x1 s.1 s.2) FU (0, M25)).bind fun w32 =>
mo_day_j136 x1 w32.1 w32.2
set_option maxRecDepth 20000 in
set_option maxHeartbeats 4000000 in
theorem J_mo_day_j89 {Δ : DT} {Γ : FT} {d : Nat} (hd : 77 ≤ d + 1) {x1 : Int}  {M : MEM} : J (mo_day_j89 x1 M) (K_IM Δ Γ m_mo_day) (WAt Δ Γ false m_mo_day (d + 1) 89 [vR (278), vI (x1), vN, vN] [] (NG, S0, M) 0 0) := by
  unfold mo_day_j89
  refine J.mono (fun k => w_aload_n rfl rfl k) ?_
  refine J_hyp (fun k => c_vi0 rfl (fun ho hM => cal_mo_fine (by omega)   ho hM) v_mo_fine (Nat.le_of_ble_eq_true rfl) S_278 rfl (Nat.le_of_ble_eq_true rfl) k) (fun hr20 hb21 => ?_)
  refine J_ite (fun hc22 => ?_) (fun hc22 => ?_)
  · refine J.mono (fun k => s_if_ne_f rfl hc22 (w_iconst rfl (inR_c rfl) (w_aload_n rfl rfl (w_getI rfl (Nat.le_of_ble_eq_true rfl) S_278 rfl (w_isub rfl k))))) ?_
    exact J_some (fun k => w_ireturn rfl rfl k)
  · refine J.mono (fun k => s_if_ne_t rfl hc22 (w_aload_n rfl rfl (w_iconst rfl (inR_c rfl) k))) ?_
    refine J_c (fun M24 e23 => ?_)
    refine J.mono (fun k => c_vv1 rfl (fun ho hM => cal_mo_layAside (by omega)  e23 ho hM) v_mo_layAside (Nat.le_of_ble_eq_true rfl) S_278 rfl (Nat.le_of_ble_eq_true rfl) (w_aload_n rfl rfl (w_iconst rfl (inR_c rfl) k))) ?_
    refine J_b ?_
    refine J.mono (fun k => w_putI rfl (Nat.le_of_ble_eq_true rfl) S_278 rfl rfl (w_iconst rfl (inR_c rfl) (s_istore3 rfl (Nat.le_of_ble_eq_true rfl) k))) ?_
    refine J.mono (fun k => w_forget (wk_k (wk_k (wk_d (wk_k wk_0)))) k) ?_
    refine J_loop (Jl_mo_day_b115 hd  _ _) (fun w32 => ?_)
    exact J.mono (fun k => w_forget (wk_k (wk_k (wk_d (wk_k wk_0)))) k) (J_mo_day_j136 hd )
noncomputable def mo_day_j70 (x1 : Int) (M : MEM) : Option (Int × MEM) :=
if (M 278 15) ≤ (M 278 17) then
mo_day_j89 x1 M
else
(mo_fault (M 278 17) M).bind fun M43 =>
mo_day_j89 x1 M43
set_option maxRecDepth 20000 in
set_option maxHeartbeats 4000000 in
theorem J_mo_day_j70 {Δ : DT} {Γ : FT} {d : Nat} (hd : 77 ≤ d + 1) {x1 : Int}  {M : MEM} : J (mo_day_j70 x1 M) (K_IM Δ Γ m_mo_day) (WAt Δ Γ false m_mo_day (d + 1) 70 [vR (278), vI (x1), vN, vN] [] (NG, S0, M) 0 0) := by
  unfold mo_day_j70
  refine J.mono (fun k => w_aload_n rfl rfl (w_getI rfl (Nat.le_of_ble_eq_true rfl) S_278 rfl (w_aload_n rfl rfl (w_getI rfl (Nat.le_of_ble_eq_true rfl) S_278 rfl k)))) ?_
  refine J_ite (fun hc18 => ?_) (fun hc18 => ?_)
  · refine J.mono (fun k => s_icmp_ge_t rfl hc18 k) ?_
    exact J.mono (fun k => w_forget (wk_k (wk_k (wk_d (wk_d wk_0)))) k) (J_mo_day_j89 hd )
  · refine J.mono (fun k => s_icmp_ge_f rfl hc18 (w_aload_n rfl rfl (w_aload_n rfl rfl (w_getI rfl (Nat.le_of_ble_eq_true rfl) S_278 rfl k)))) ?_
    refine J_c (fun M43 e42 => ?_)
    refine J.mono (fun k => c_vv1 rfl (fun ho hM => cal_mo_fault (by omega)  e42 ho hM) v_mo_fault (Nat.le_of_ble_eq_true rfl) S_278 rfl (Nat.le_of_ble_eq_true rfl) k) ?_
    exact J.mono (fun k => w_forget (wk_k (wk_k (wk_d (wk_d wk_0)))) k) (J_mo_day_j89 hd )
noncomputable def mo_day_j38 (x1 : Int) (s0 : Int) (M : MEM) : Option (Int × MEM) :=
(iter (fun s => mo_day_b39  s.1 s.2.1 s.2.2) FU (x1, s0, M)).bind fun w17 =>
mo_day_j70 w17.1 w17.2.2
set_option maxRecDepth 20000 in
set_option maxHeartbeats 4000000 in
theorem J_mo_day_j38 {Δ : DT} {Γ : FT} {d : Nat} (hd : 77 ≤ d + 1) {x1 : Int} {s0 : Int}  {M : MEM} : J (mo_day_j38 x1 s0 M) (K_IM Δ Γ m_mo_day) (WAt Δ Γ false m_mo_day (d + 1) 38 [vR (278), vI (x1), vN, vN] [vI (s0)] (NG, S0, M) 0 0) := by
  unfold mo_day_j38
  refine J.mono (fun k => s_istore2 rfl (Nat.le_of_ble_eq_true rfl) k) ?_
  refine J.mono (fun k => w_forget (wk_k (wk_k (wk_k (wk_d wk_0)))) k) ?_
  refine J_loop (Jl_mo_day_b39 hd  _ _) (fun w17 => ?_)
  exact J.mono (fun k => w_forget (wk_k (wk_k (wk_d (wk_d wk_0)))) k) (J_mo_day_j70 hd )
noncomputable def mo_day  (M : MEM) : Option (Int × MEM) :=
(some (up2 M 278 13 0)).bind fun M1 =>
(mo_begin 283 (M1 278 10) 60 M1).bind fun M3 =>
(some (up2 M3 278 10 0)).bind fun M4 =>
if (M4 278 15) ≤ 0 then
mo_day_j38 0 0 M4
else
mo_day_j38 0 1 M4
set_option maxRecDepth 20000 in
set_option maxHeartbeats 4000000 in
theorem J_mo_day {Δ : DT} {Γ : FT} {d : Nat} (hd : 77 ≤ d + 1)   {M : MEM} : J (mo_day M) (K_IM Δ Γ m_mo_day) (WAt Δ Γ false m_mo_day (d + 1) 0 [vR (278), vN, vN, vN] [] (NG, S0, M) 0 0) := by
  unfold mo_day
  refine J.mono (fun k => w_aload_n rfl rfl (w_iconst rfl (inR_c rfl) k)) ?_
  refine J_b ?_
  refine J.mono (fun k => w_putI rfl (Nat.le_of_ble_eq_true rfl) S_278 rfl rfl (w_aload_n rfl rfl (w_aload_n rfl rfl (w_getR (r := 283) rfl (Nat.le_of_ble_eq_true rfl) S_278 rfl (w_aload_n rfl rfl (w_getI rfl (Nat.le_of_ble_eq_true rfl) S_278 rfl (w_bipush rfl (bip_c rfl) k))))))) ?_
  refine J_c (fun M3 e2 => ?_)
  refine J.mono (fun k => c_vv3 rfl (fun ho hM => cal_mo_begin (by omega) (isArr_len A_283) e2 ho hM) v_mo_begin (Nat.le_of_ble_eq_true rfl) S_278 rfl (Nat.le_of_ble_eq_true rfl) (w_aload_n rfl rfl (w_iconst rfl (inR_c rfl) k))) ?_
  refine J_b ?_
  refine J.mono (fun k => w_putI rfl (Nat.le_of_ble_eq_true rfl) S_278 rfl rfl (w_iconst rfl (inR_c rfl) (s_istore1 rfl (Nat.le_of_ble_eq_true rfl) (w_aload_n rfl rfl (w_getI rfl (Nat.le_of_ble_eq_true rfl) S_278 rfl k))))) ?_
  refine J_ite (fun hc5 => ?_) (fun hc5 => ?_)
  · refine J.mono (fun k => s_if_le_t rfl hc5 (w_iconst rfl (inR_c rfl) k)) ?_
    exact J.mono (fun k => w_forget (wk_k (wk_k (wk_d (wk_d wk_0)))) k) (J_mo_day_j38 hd )
  · refine J.mono (fun k => s_if_le_f rfl hc5 (w_iconst rfl (inR_c rfl) (w_goto rfl k))) ?_
    exact J.mono (fun k => w_forget (wk_k (wk_k (wk_d (wk_d wk_0)))) k) (J_mo_day_j38 hd )
set_option maxRecDepth 20000 in
set_option maxHeartbeats 4000000 in
theorem cal_mo_day {Δ : DT} {d : Nat} (hd : 77 ≤ d)   {M : MEM} {p : Int × MEM} (h : mo_day M = some p) (ho : okVs [vR 278]) (hM : okM M) : Cal Δ false m_mo_day d [vR 278] (NG, S0, M) (some p.1) (NG, S0, p.2) 0 0 := by
  obtain ⟨d, rfl⟩ : ∃ e, d = e + 1 := ⟨d - 1, by omega⟩
  exact cal_of g_mo_day p_mo_day (fun v hv => by simp only [List.mem_cons, List.not_mem_nil, or_false] at hv; rcases hv with rfl <;> first | exact Or.inl ⟨_, rfl⟩ | exact Or.inr ⟨_, rfl⟩) ho hM (Nat.le_of_ble_eq_true rfl) (fun Γ _ k => J_mo_day hd  _ h k)
abbrev HD_mo_takeCarrots_b13 (Δ : DT) (Γ : FT) (d : Nat) (a1 : Nat) (x2 : Int) (s : Int × MEM) : Prop := WAt Δ Γ false m_mo_takeCarrots d 13 [vR (278), vR (a1), vI (x2), vI (s.1)] [] (NG, S0, s.2) 0 0
abbrev X_mo_takeCarrots_b13 (Δ : DT) (Γ : FT) (d : Nat) (a1 : Nat) (x2 : Int) (s : Int × MEM) : Prop := WAt Δ Γ false m_mo_takeCarrots d 42 [vN, vN, vN, vN] [] (NG, S0, s.2) 0 0
noncomputable def mo_takeCarrots_b13 (a1 : Nat) (x2 : Int) (x3 : Int) (M : MEM) : Option ((Int × MEM) ⊕ (Int × MEM)) :=
if 40 ≤ x3 then
some (.inr (x3, M))
else
if 0 ≤ (wr ((wr ((wr (x2 + 166)) + 1)) + x3)) ∧ (wr ((wr ((wr (x2 + 166)) + 1)) + x3)) < (lenA a1) then
if 0 ≤ x3 ∧ x3 < 48 then
(some (up2 M 282 (x3).toNat (M a1 ((wr ((wr ((wr (x2 + 166)) + 1)) + x3))).toNat))).bind fun M5 =>
some (.inl ((wr (x3 + 1)), M5))
else none
else none
set_option maxRecDepth 20000 in
set_option maxHeartbeats 4000000 in
theorem Jb_mo_takeCarrots_b13 {Δ : DT} {Γ : FT} {d : Nat} {a1 : Nat} {x2 : Int} (h_a1 : isArr 0 (lenA a1) a1) {x3 : Int} {M : MEM} : J (mo_takeCarrots_b13 a1 x2 x3 M) (Sum.elim (HD_mo_takeCarrots_b13 Δ Γ d a1 x2) (X_mo_takeCarrots_b13 Δ Γ d a1 x2)) (WAt Δ Γ false m_mo_takeCarrots d 13 [vR (278), vR (a1), vI (x2), vI (x3)] [] (NG, S0, M) 0 0) := by
  unfold mo_takeCarrots_b13
  refine J.mono (fun k => w_iload_n rfl rfl (w_bipush rfl (bip_c rfl) k)) ?_
  refine J_ite (fun hc3 => ?_) (fun hc3 => ?_)
  · refine J.mono (fun k => s_icmp_ge_t rfl hc3 k) ?_
    exact J_some (fun k => w_forget (wk_d (wk_d (wk_d (wk_d wk_0)))) k)
  · refine J.mono (fun k => s_icmp_ge_f rfl hc3 (w_aload_n rfl rfl (w_getR (r := 282) rfl (Nat.le_of_ble_eq_true rfl) S_278 rfl (w_iload_n rfl rfl (w_aload_n rfl rfl (w_iload_n rfl rfl (w_sipush rfl (sip_c rfl) (w_iadd rfl (w_iconst rfl (inR_c rfl) (w_iadd rfl (w_iload_n rfl rfl (w_iadd rfl k)))))))))))) ?_
    refine J_chk (fun hi4 => ?_)
    refine J.mono (fun k => w_iald rfl h_a1.1 h_a1.2 hi4.1 hi4.2 k) ?_
    refine J_chk (fun hi6 => ?_)
    refine J_b ?_
    refine J.mono (fun k => w_iast rfl A_282.1 A_282.2 hi6.1 hi6.2 rfl (s_iinc3 rfl (Nat.le_of_ble_eq_true rfl) (w_goto rfl k))) ?_
    exact J_some (fun k => w_forget (wk_k (wk_k (wk_k (wk_k wk_0)))) k)
set_option maxRecDepth 20000 in
set_option maxHeartbeats 4000000 in
theorem Jl_mo_takeCarrots_b13 {Δ : DT} {Γ : FT} {d : Nat} {a1 : Nat} {x2 : Int} (h_a1 : isArr 0 (lenA a1) a1)  : ∀ (n : Nat) (s : Int × MEM), J (iter (fun s => mo_takeCarrots_b13 a1 x2 s.1 s.2) n s) (X_mo_takeCarrots_b13 Δ Γ d a1 x2) (HD_mo_takeCarrots_b13 Δ Γ d a1 x2 s) := J_iter (fun s => Jb_mo_takeCarrots_b13 h_a1)
noncomputable def mo_takeCarrots (a1 : Nat) (x2 : Int) (M : MEM) : Option (MEM) :=
if 0 ≤ (wr (x2 + 166)) ∧ (wr (x2 + 166)) < (lenA a1) then
(some (up2 M 278 7 (M a1 ((wr (x2 + 166))).toNat))).bind fun M2 =>
(iter (fun s => mo_takeCarrots_b13 a1 x2 s.1 s.2) FU (0, M2)).bind fun w7 =>
some w7.2
else none
set_option maxRecDepth 20000 in
set_option maxHeartbeats 4000000 in
theorem J_mo_takeCarrots {Δ : DT} {Γ : FT} {d : Nat} {a1 : Nat} {x2 : Int} (h_a1 : isArr 0 (lenA a1) a1) {M : MEM} : J (mo_takeCarrots a1 x2 M) (K_M Δ Γ m_mo_takeCarrots) (WAt Δ Γ false m_mo_takeCarrots d 0 [vR (278), vR (a1), vI (x2), vN] [] (NG, S0, M) 0 0) := by
  unfold mo_takeCarrots
  refine J.mono (fun k => w_aload_n rfl rfl (w_aload_n rfl rfl (w_iload_n rfl rfl (w_sipush rfl (sip_c rfl) (w_iadd rfl k))))) ?_
  refine J_chk (fun hi1 => ?_)
  refine J.mono (fun k => w_iald rfl h_a1.1 h_a1.2 hi1.1 hi1.2 k) ?_
  refine J_b ?_
  refine J.mono (fun k => w_putI rfl (Nat.le_of_ble_eq_true rfl) S_278 rfl rfl (w_iconst rfl (inR_c rfl) (s_istore3 rfl (Nat.le_of_ble_eq_true rfl) k))) ?_
  refine J.mono (fun k => w_forget (wk_k (wk_k (wk_k (wk_k wk_0)))) k) ?_
  refine J_loop (Jl_mo_takeCarrots_b13 h_a1 _ _) (fun w7 => ?_)
  exact J_some (fun k => w_return rfl rfl k)
set_option maxRecDepth 20000 in
set_option maxHeartbeats 4000000 in
theorem cal_mo_takeCarrots {Δ : DT} {d : Nat} (hd : 0 ≤ d) {a1 : Nat} {x2 : Int} (h_a1 : isArr 0 (lenA a1) a1) {M : MEM} {M1 : MEM} (h : mo_takeCarrots a1 x2 M = some M1) (ho : okVs [vR 278, vR a1, vI x2]) (hM : okM M) : Cal Δ false m_mo_takeCarrots d [vR 278, vR a1, vI x2] (NG, S0, M) none (NG, S0, M1) 0 0 := by
  exact cal_of g_mo_takeCarrots p_mo_takeCarrots (fun v hv => by simp only [List.mem_cons, List.not_mem_nil, or_false] at hv; rcases hv with rfl | rfl | rfl <;> first | exact Or.inl ⟨_, rfl⟩ | exact Or.inr ⟨_, rfl⟩) ho hM (Nat.le_of_ble_eq_true rfl) (fun Γ _ k => J_mo_takeCarrots h_a1 _ h k)
abbrev HD_mo_undo_b35 (Δ : DT) (Γ : FT) (d : Nat) (x1 : Int) (s : Int × MEM) : Prop := WAt Δ Γ false m_mo_undo (d + 1) 35 [vR (278), vI (x1), vI (s.1)] [] (NG, S0, s.2) 0 0
abbrev X_mo_undo_b35 (Δ : DT) (Γ : FT) (d : Nat) (x1 : Int) (s : Int × MEM) : Prop := WAt Δ Γ false m_mo_undo (d + 1) 62 [vR (278), vI (x1), vN] [] (NG, S0, s.2) 0 0
noncomputable def mo_undo_b35 (x1 : Int) (x2 : Int) (M : MEM) : Option ((Int × MEM) ⊕ (Int × MEM)) :=
if 166 ≤ x2 then
some (.inr (x2, M))
else
if 0 ≤ (wr (x1 + x2)) ∧ (wr (x1 + x2)) < 2080 then
if 0 ≤ x2 ∧ x2 < 166 then
(some (up2 M 279 (x2).toNat (M 288 ((wr (x1 + x2))).toNat))).bind fun M6 =>
some (.inl ((wr (x2 + 1)), M6))
else none
else none
set_option maxRecDepth 20000 in
set_option maxHeartbeats 4000000 in
theorem Jb_mo_undo_b35 {Δ : DT} {Γ : FT} {d : Nat} (hd : 1 ≤ d + 1) {x1 : Int}  {x2 : Int} {M : MEM} : J (mo_undo_b35 x1 x2 M) (Sum.elim (HD_mo_undo_b35 Δ Γ d x1) (X_mo_undo_b35 Δ Γ d x1)) (WAt Δ Γ false m_mo_undo (d + 1) 35 [vR (278), vI (x1), vI (x2)] [] (NG, S0, M) 0 0) := by
  unfold mo_undo_b35
  refine J.mono (fun k => w_iload_n rfl rfl (w_sipush rfl (sip_c rfl) k)) ?_
  refine J_ite (fun hc4 => ?_) (fun hc4 => ?_)
  · refine J.mono (fun k => s_icmp_ge_t rfl hc4 k) ?_
    exact J_some (fun k => w_forget (wk_k (wk_k (wk_d wk_0))) k)
  · refine J.mono (fun k => s_icmp_ge_f rfl hc4 (w_aload_n rfl rfl (w_getR (r := 279) rfl (Nat.le_of_ble_eq_true rfl) S_278 rfl (w_iload_n rfl rfl (w_aload_n rfl rfl (w_getR (r := 288) rfl (Nat.le_of_ble_eq_true rfl) S_278 rfl (w_iload_n rfl rfl (w_iload_n rfl rfl (w_iadd rfl k))))))))) ?_
    refine J_chk (fun hi5 => ?_)
    refine J.mono (fun k => w_iald rfl A_288.1 A_288.2 hi5.1 hi5.2 k) ?_
    refine J_chk (fun hi7 => ?_)
    refine J_b ?_
    refine J.mono (fun k => w_iast rfl A_279.1 A_279.2 hi7.1 hi7.2 rfl (s_iinc2 rfl (Nat.le_of_ble_eq_true rfl) (w_goto rfl k))) ?_
    exact J_some (fun k => w_forget (wk_k (wk_k (wk_k wk_0))) k)
set_option maxRecDepth 20000 in
set_option maxHeartbeats 4000000 in
theorem Jl_mo_undo_b35 {Δ : DT} {Γ : FT} {d : Nat} (hd : 1 ≤ d + 1) {x1 : Int}   : ∀ (n : Nat) (s : Int × MEM), J (iter (fun s => mo_undo_b35 x1 s.1 s.2) n s) (X_mo_undo_b35 Δ Γ d x1) (HD_mo_undo_b35 Δ Γ d x1 s) := J_iter (fun s => Jb_mo_undo_b35 hd )
noncomputable def mo_undo  (M : MEM) : Option (Int × MEM) :=
(some (up2 M 278 13 0)).bind fun M1 =>
if (M1 278 31) = 0 then
some ((-1), M1)
else
(some (up2 M1 278 31 (wr ((M1 278 31) - 1)))).bind fun M3 =>
(iter (fun s => mo_undo_b35 (wr (208 * (M3 278 31))) s.1 s.2) FU (0, M3)).bind fun w8 =>
if 0 ≤ (wr ((wr (208 * (M3 278 31))) + 207)) ∧ (wr ((wr (208 * (M3 278 31))) + 207)) < 2080 then
if (w8.2 288 ((wr ((wr (208 * (M3 278 31))) + 207))).toNat) = 1 then
(mo_takeCarrots 288 (wr (208 * (M3 278 31))) w8.2).bind fun M12 =>
some ((M12 278 31), M12)
else
some ((w8.2 278 31), w8.2)
else none
set_option maxRecDepth 20000 in
set_option maxHeartbeats 4000000 in
theorem J_mo_undo {Δ : DT} {Γ : FT} {d : Nat} (hd : 1 ≤ d + 1)   {M : MEM} : J (mo_undo M) (K_IM Δ Γ m_mo_undo) (WAt Δ Γ false m_mo_undo (d + 1) 0 [vR (278), vN, vN] [] (NG, S0, M) 0 0) := by
  unfold mo_undo
  refine J.mono (fun k => w_aload_n rfl rfl (w_iconst rfl (inR_c rfl) k)) ?_
  refine J_b ?_
  refine J.mono (fun k => w_putI rfl (Nat.le_of_ble_eq_true rfl) S_278 rfl rfl (w_aload_n rfl rfl (w_getI rfl (Nat.le_of_ble_eq_true rfl) S_278 rfl k))) ?_
  refine J_ite (fun hc2 => ?_) (fun hc2 => ?_)
  · refine J.mono (fun k => s_if_ne_f rfl hc2 (w_iconst rfl (inR_c rfl) k)) ?_
    exact J_some (fun k => w_ireturn rfl rfl k)
  · refine J.mono (fun k => s_if_ne_t rfl hc2 (w_aload_n rfl rfl (w_dup rfl (fun _ h => by cases h) (w_getI rfl (Nat.le_of_ble_eq_true rfl) S_278 rfl (w_iconst rfl (inR_c rfl) (w_isub rfl k)))))) ?_
    refine J_b ?_
    refine J.mono (fun k => w_putI rfl (Nat.le_of_ble_eq_true rfl) S_278 rfl rfl (w_sipush rfl (sip_c rfl) (w_aload_n rfl rfl (w_getI rfl (Nat.le_of_ble_eq_true rfl) S_278 rfl (w_imul rfl (s_istore1 rfl (Nat.le_of_ble_eq_true rfl) (w_iconst rfl (inR_c rfl) (s_istore2 rfl (Nat.le_of_ble_eq_true rfl) k)))))))) ?_
    refine J.mono (fun k => w_forget (wk_k (wk_k (wk_k wk_0))) k) ?_
    refine J_loop (Jl_mo_undo_b35 hd  _ _) (fun w8 => ?_)
    refine J.mono (fun k => w_aload_n rfl rfl (w_getR (r := 288) rfl (Nat.le_of_ble_eq_true rfl) S_278 rfl (w_iload_n rfl rfl (w_sipush rfl (sip_c rfl) (w_iadd rfl k))))) ?_
    refine J_chk (fun hi9 => ?_)
    refine J.mono (fun k => w_iald rfl A_288.1 A_288.2 hi9.1 hi9.2 (w_iconst rfl (inR_c rfl) k)) ?_
    refine J_ite (fun hc10 => ?_) (fun hc10 => ?_)
    · refine J.mono (fun k => s_icmp_ne_f rfl hc10 (w_aload_n rfl rfl (w_aload_n rfl rfl (w_getR (r := 288) rfl (Nat.le_of_ble_eq_true rfl) S_278 rfl (w_iload_n rfl rfl k))))) ?_
      refine J_c (fun M12 e11 => ?_)
      refine J.mono (fun k => c_vv2 rfl (fun ho hM => cal_mo_takeCarrots (by omega) (isArr_len A_288) e11 ho hM) v_mo_takeCarrots (Nat.le_of_ble_eq_true rfl) S_278 rfl (Nat.le_of_ble_eq_true rfl) (w_aload_n rfl rfl (w_getI rfl (Nat.le_of_ble_eq_true rfl) S_278 rfl k))) ?_
      exact J_some (fun k => w_ireturn rfl rfl k)
    · refine J.mono (fun k => s_icmp_ne_t rfl hc10 (w_aload_n rfl rfl (w_getI rfl (Nat.le_of_ble_eq_true rfl) S_278 rfl k))) ?_
      exact J_some (fun k => w_ireturn rfl rfl k)
set_option maxRecDepth 20000 in
set_option maxHeartbeats 4000000 in
theorem cal_mo_undo {Δ : DT} {d : Nat} (hd : 1 ≤ d)   {M : MEM} {p : Int × MEM} (h : mo_undo M = some p) (ho : okVs [vR 278]) (hM : okM M) : Cal Δ false m_mo_undo d [vR 278] (NG, S0, M) (some p.1) (NG, S0, p.2) 0 0 := by
  obtain ⟨d, rfl⟩ : ∃ e, d = e + 1 := ⟨d - 1, by omega⟩
  exact cal_of g_mo_undo p_mo_undo (fun v hv => by simp only [List.mem_cons, List.not_mem_nil, or_false] at hv; rcases hv with rfl <;> first | exact Or.inl ⟨_, rfl⟩ | exact Or.inr ⟨_, rfl⟩) ho hM (Nat.le_of_ble_eq_true rfl) (fun Γ _ k => J_mo_undo hd  _ h k)
noncomputable def mo_strokes (x1 : Int) (M : MEM) : Option (Int) :=
if 0 ≤ (wr ((wr (55 * x1)) + 2)) ∧ (wr ((wr (55 * x1)) + 2)) < 166 then
some (M 279 ((wr ((wr (55 * x1)) + 2))).toNat)
else none
set_option maxRecDepth 20000 in
set_option maxHeartbeats 4000000 in
theorem J_mo_strokes {Δ : DT} {Γ : FT} {d : Nat} {x1 : Int}  {M : MEM} : J (mo_strokes x1 M) (K_I Δ Γ m_mo_strokes M) (WAt Δ Γ false m_mo_strokes d 0 [vR (278), vI (x1)] [] (NG, S0, M) 0 0) := by
  unfold mo_strokes
  refine J.mono (fun k => w_aload_n rfl rfl (w_getR (r := 279) rfl (Nat.le_of_ble_eq_true rfl) S_278 rfl (w_bipush rfl (bip_c rfl) (w_iload_n rfl rfl (w_imul rfl (w_iconst rfl (inR_c rfl) (w_iadd rfl k))))))) ?_
  refine J_chk (fun hi1 => ?_)
  refine J.mono (fun k => w_iald rfl A_279.1 A_279.2 hi1.1 hi1.2 k) ?_
  exact J_some (fun k => w_ireturn rfl rfl k)
set_option maxRecDepth 20000 in
set_option maxHeartbeats 4000000 in
theorem cal_mo_strokes {Δ : DT} {d : Nat} (hd : 0 ≤ d) {x1 : Int}  {M : MEM} {r : Int} (h : mo_strokes x1 M = some r) (ho : okVs [vR 278, vI x1]) (hM : okM M) : Cal Δ false m_mo_strokes d [vR 278, vI x1] (NG, S0, M) (some r) (NG, S0, M) 0 0 := by
  exact cal_of g_mo_strokes p_mo_strokes (fun v hv => by simp only [List.mem_cons, List.not_mem_nil, or_false] at hv; rcases hv with rfl | rfl <;> first | exact Or.inl ⟨_, rfl⟩ | exact Or.inr ⟨_, rfl⟩) ho hM (Nat.le_of_ble_eq_true rfl) (fun Γ _ k => J_mo_strokes  _ h k)
noncomputable def mo_line (x1 : Int) (x2 : Int) (M : MEM) : Option (Int) :=
(mo_strokes x1 M).bind fun r2 =>
if x2 ≤ r2 then
(mo_strokes x1 M).bind fun r7 =>
if (wr (r7 - 40)) < x2 then
if 0 ≤ (wr ((wr ((wr (55 * x1)) + 15)) + (Int.tmod (wr (x2 - 1)) 40))) ∧ (wr ((wr ((wr (55 * x1)) + 15)) + (Int.tmod (wr (x2 - 1)) 40))) < 166 then
some (M 279 ((wr ((wr ((wr (55 * x1)) + 15)) + (Int.tmod (wr (x2 - 1)) 40)))).toNat)
else none
else
some (-3)
else
some (-2)
set_option maxRecDepth 20000 in
set_option maxHeartbeats 4000000 in
theorem J_mo_line {Δ : DT} {Γ : FT} {d : Nat} (hd : 1 ≤ d + 1) {x1 : Int} {x2 : Int}  {M : MEM} : J (mo_line x1 x2 M) (K_I Δ Γ m_mo_line M) (WAt Δ Γ false m_mo_line (d + 1) 0 [vR (278), vI (x1), vI (x2)] [] (NG, S0, M) 0 0) := by
  unfold mo_line
  refine J.mono (fun k => w_iload_n rfl rfl (w_aload_n rfl rfl (w_iload_n rfl rfl k))) ?_
  refine J_c (fun r2 e1 => ?_)
  refine J_hyp (fun k => c_vi1 rfl (fun ho hM => cal_mo_strokes (by omega)  e1 ho hM) v_mo_strokes (Nat.le_of_ble_eq_true rfl) S_278 rfl (Nat.le_of_ble_eq_true rfl) k) (fun hr3 hb4 => ?_)
  refine J_ite (fun hc5 => ?_) (fun hc5 => ?_)
  · refine J.mono (fun k => s_icmp_le_t rfl hc5 (w_iload_n rfl rfl (w_aload_n rfl rfl (w_iload_n rfl rfl k)))) ?_
    refine J_c (fun r7 e6 => ?_)
    refine J_hyp (fun k => c_vi1 rfl (fun ho hM => cal_mo_strokes (by omega)  e6 ho hM) v_mo_strokes (Nat.le_of_ble_eq_true rfl) S_278 rfl (Nat.le_of_ble_eq_true rfl) k) (fun hr8 hb9 => ?_)
    refine J.mono (fun k => w_bipush rfl (bip_c rfl) (w_isub rfl k)) ?_
    refine J_ite (fun hc10 => ?_) (fun hc10 => ?_)
    · refine J.mono (fun k => s_icmp_gt_t rfl hc10 (w_aload_n rfl rfl (w_getR (r := 279) rfl (Nat.le_of_ble_eq_true rfl) S_278 rfl (w_bipush rfl (bip_c rfl) (w_iload_n rfl rfl (w_imul rfl (w_bipush rfl (bip_c rfl) (w_iadd rfl (w_iload_n rfl rfl (w_iconst rfl (inR_c rfl) (w_isub rfl (w_bipush rfl (bip_c rfl) (w_irem rfl (by decide) (w_iadd rfl k)))))))))))))) ?_
      refine J_chk (fun hi11 => ?_)
      refine J.mono (fun k => w_iald rfl A_279.1 A_279.2 hi11.1 hi11.2 k) ?_
      exact J_some (fun k => w_ireturn rfl rfl k)
    · refine J.mono (fun k => s_icmp_gt_f rfl hc10 (w_bipush rfl (bip_c rfl) (w_goto rfl k))) ?_
      exact J_some (fun k => w_ireturn rfl rfl k)
  · refine J.mono (fun k => s_icmp_le_f rfl hc5 (w_bipush rfl (bip_c rfl) k)) ?_
    exact J_some (fun k => w_ireturn rfl rfl k)
set_option maxRecDepth 20000 in
set_option maxHeartbeats 4000000 in
theorem cal_mo_line {Δ : DT} {d : Nat} (hd : 1 ≤ d) {x1 : Int} {x2 : Int}  {M : MEM} {r : Int} (h : mo_line x1 x2 M = some r) (ho : okVs [vR 278, vI x1, vI x2]) (hM : okM M) : Cal Δ false m_mo_line d [vR 278, vI x1, vI x2] (NG, S0, M) (some r) (NG, S0, M) 0 0 := by
  obtain ⟨d, rfl⟩ : ∃ e, d = e + 1 := ⟨d - 1, by omega⟩
  exact cal_of g_mo_line p_mo_line (fun v hv => by simp only [List.mem_cons, List.not_mem_nil, or_false] at hv; rcases hv with rfl | rfl | rfl <;> first | exact Or.inl ⟨_, rfl⟩ | exact Or.inr ⟨_, rfl⟩) ho hM (Nat.le_of_ble_eq_true rfl) (fun Γ _ k => J_mo_line hd  _ h k)
noncomputable def mo_struck (x1 : Int) (x2 : Int) (M : MEM) : Option (Int × MEM) :=
(some (up2 M 278 13 0)).bind fun M1 =>
if (mo_isDonkey x1 M1) = 0 then
some ((-1), M1)
else
if x2 < 1 then
some ((-1), M1)
else
(mo_line x1 x2 M1).bind fun r8 =>
some (r8, M1)
set_option maxRecDepth 20000 in
set_option maxHeartbeats 4000000 in
theorem J_mo_struck {Δ : DT} {Γ : FT} {d : Nat} (hd : 2 ≤ d + 1) {x1 : Int} {x2 : Int}  {M : MEM} : J (mo_struck x1 x2 M) (K_IM Δ Γ m_mo_struck) (WAt Δ Γ false m_mo_struck (d + 1) 0 [vR (278), vI (x1), vI (x2)] [] (NG, S0, M) 0 0) := by
  unfold mo_struck
  refine J.mono (fun k => w_aload_n rfl rfl (w_iconst rfl (inR_c rfl) k)) ?_
  refine J_b ?_
  refine J.mono (fun k => w_putI rfl (Nat.le_of_ble_eq_true rfl) S_278 rfl rfl (w_aload_n rfl rfl (w_iload_n rfl rfl k))) ?_
  refine J_hyp (fun k => c_vi1 rfl (fun ho hM => cal_mo_isDonkey (by omega)   ho hM) v_mo_isDonkey (Nat.le_of_ble_eq_true rfl) S_278 rfl (Nat.le_of_ble_eq_true rfl) k) (fun hr3 hb4 => ?_)
  refine J_ite (fun hc5 => ?_) (fun hc5 => ?_)
  · refine J.mono (fun k => s_if_eq_t rfl hc5 (w_iconst rfl (inR_c rfl) k)) ?_
    exact J_some (fun k => w_ireturn rfl rfl k)
  · refine J.mono (fun k => s_if_eq_f rfl hc5 (w_iload_n rfl rfl (w_iconst rfl (inR_c rfl) k))) ?_
    refine J_ite (fun hc6 => ?_) (fun hc6 => ?_)
    · refine J.mono (fun k => s_icmp_lt_t rfl hc6 (w_iconst rfl (inR_c rfl) k)) ?_
      exact J_some (fun k => w_ireturn rfl rfl k)
    · refine J.mono (fun k => s_icmp_lt_f rfl hc6 (w_aload_n rfl rfl (w_iload_n rfl rfl (w_iload_n rfl rfl k)))) ?_
      refine J_c (fun r8 e7 => ?_)
      refine J_hyp (fun k => c_vi2 rfl (fun ho hM => cal_mo_line (by omega)  e7 ho hM) v_mo_line (Nat.le_of_ble_eq_true rfl) S_278 rfl (Nat.le_of_ble_eq_true rfl) k) (fun hr9 hb10 => ?_)
      refine J.mono (fun k => w_goto rfl k) ?_
      exact J_some (fun k => w_ireturn rfl rfl k)
set_option maxRecDepth 20000 in
set_option maxHeartbeats 4000000 in
theorem cal_mo_struck {Δ : DT} {d : Nat} (hd : 2 ≤ d) {x1 : Int} {x2 : Int}  {M : MEM} {p : Int × MEM} (h : mo_struck x1 x2 M = some p) (ho : okVs [vR 278, vI x1, vI x2]) (hM : okM M) : Cal Δ false m_mo_struck d [vR 278, vI x1, vI x2] (NG, S0, M) (some p.1) (NG, S0, p.2) 0 0 := by
  obtain ⟨d, rfl⟩ : ∃ e, d = e + 1 := ⟨d - 1, by omega⟩
  exact cal_of g_mo_struck p_mo_struck (fun v hv => by simp only [List.mem_cons, List.not_mem_nil, or_false] at hv; rcases hv with rfl | rfl | rfl <;> first | exact Or.inl ⟨_, rfl⟩ | exact Or.inr ⟨_, rfl⟩) ho hM (Nat.le_of_ble_eq_true rfl) (fun Γ _ k => J_mo_struck hd  _ h k)
noncomputable def mo_took (x1 : Int) (x2 : Int) (M : MEM) : Option (Int × MEM) :=
(some (up2 M 278 13 0)).bind fun M1 =>
if (mo_isDonkey x1 M1) = 0 then
some ((-1), M1)
else
if 1 ≤ x2 then
(mo_line x1 x2 M1).bind fun r8 =>
if 0 ≤ r8 then
(mo_strokes x1 M1).bind fun r13 =>
if x2 = r13 then
some ((-2), M1)
else
(mo_line x1 (wr (x2 + 1)) M1).bind fun r18 =>
(mo_line x1 x2 M1).bind fun r22 =>
some ((wr (r18 - r22)), M1)
else
(mo_line x1 x2 M1).bind fun r26 =>
some (r26, M1)
else
some ((-1), M1)
set_option maxRecDepth 20000 in
set_option maxHeartbeats 4000000 in
theorem J_mo_took {Δ : DT} {Γ : FT} {d : Nat} (hd : 2 ≤ d + 1) {x1 : Int} {x2 : Int}  {M : MEM} : J (mo_took x1 x2 M) (K_IM Δ Γ m_mo_took) (WAt Δ Γ false m_mo_took (d + 1) 0 [vR (278), vI (x1), vI (x2)] [] (NG, S0, M) 0 0) := by
  unfold mo_took
  refine J.mono (fun k => w_aload_n rfl rfl (w_iconst rfl (inR_c rfl) k)) ?_
  refine J_b ?_
  refine J.mono (fun k => w_putI rfl (Nat.le_of_ble_eq_true rfl) S_278 rfl rfl (w_aload_n rfl rfl (w_iload_n rfl rfl k))) ?_
  refine J_hyp (fun k => c_vi1 rfl (fun ho hM => cal_mo_isDonkey (by omega)   ho hM) v_mo_isDonkey (Nat.le_of_ble_eq_true rfl) S_278 rfl (Nat.le_of_ble_eq_true rfl) k) (fun hr3 hb4 => ?_)
  refine J_ite (fun hc5 => ?_) (fun hc5 => ?_)
  · refine J.mono (fun k => s_if_eq_t rfl hc5 (w_iconst rfl (inR_c rfl) k)) ?_
    exact J_some (fun k => w_ireturn rfl rfl k)
  · refine J.mono (fun k => s_if_eq_f rfl hc5 (w_iload_n rfl rfl (w_iconst rfl (inR_c rfl) k))) ?_
    refine J_ite (fun hc6 => ?_) (fun hc6 => ?_)
    · refine J.mono (fun k => s_icmp_ge_t rfl hc6 (w_aload_n rfl rfl (w_iload_n rfl rfl (w_iload_n rfl rfl k)))) ?_
      refine J_c (fun r8 e7 => ?_)
      refine J_hyp (fun k => c_vi2 rfl (fun ho hM => cal_mo_line (by omega)  e7 ho hM) v_mo_line (Nat.le_of_ble_eq_true rfl) S_278 rfl (Nat.le_of_ble_eq_true rfl) k) (fun hr9 hb10 => ?_)
      refine J_ite (fun hc11 => ?_) (fun hc11 => ?_)
      · refine J.mono (fun k => s_if_ge_t rfl hc11 (w_iload_n rfl rfl (w_aload_n rfl rfl (w_iload_n rfl rfl k)))) ?_
        refine J_c (fun r13 e12 => ?_)
        refine J_hyp (fun k => c_vi1 rfl (fun ho hM => cal_mo_strokes (by omega)  e12 ho hM) v_mo_strokes (Nat.le_of_ble_eq_true rfl) S_278 rfl (Nat.le_of_ble_eq_true rfl) k) (fun hr14 hb15 => ?_)
        refine J_ite (fun hc16 => ?_) (fun hc16 => ?_)
        · refine J.mono (fun k => s_icmp_ne_f rfl hc16 (w_bipush rfl (bip_c rfl) (w_goto rfl k))) ?_
          exact J_some (fun k => w_ireturn rfl rfl k)
        · refine J.mono (fun k => s_icmp_ne_t rfl hc16 (w_aload_n rfl rfl (w_iload_n rfl rfl (w_iload_n rfl rfl (w_iconst rfl (inR_c rfl) (w_iadd rfl k)))))) ?_
          refine J_c (fun r18 e17 => ?_)
          refine J_hyp (fun k => c_vi2 rfl (fun ho hM => cal_mo_line (by omega)  e17 ho hM) v_mo_line (Nat.le_of_ble_eq_true rfl) S_278 rfl (Nat.le_of_ble_eq_true rfl) k) (fun hr19 hb20 => ?_)
          refine J.mono (fun k => w_aload_n rfl rfl (w_iload_n rfl rfl (w_iload_n rfl rfl k))) ?_
          refine J_c (fun r22 e21 => ?_)
          refine J_hyp (fun k => c_vi2 rfl (fun ho hM => cal_mo_line (by omega)  e21 ho hM) v_mo_line (Nat.le_of_ble_eq_true rfl) S_278 rfl (Nat.le_of_ble_eq_true rfl) k) (fun hr23 hb24 => ?_)
          refine J.mono (fun k => w_isub rfl k) ?_
          exact J_some (fun k => w_ireturn rfl rfl k)
      · refine J.mono (fun k => s_if_ge_f rfl hc11 (w_aload_n rfl rfl (w_iload_n rfl rfl (w_iload_n rfl rfl k)))) ?_
        refine J_c (fun r26 e25 => ?_)
        refine J_hyp (fun k => c_vi2 rfl (fun ho hM => cal_mo_line (by omega)  e25 ho hM) v_mo_line (Nat.le_of_ble_eq_true rfl) S_278 rfl (Nat.le_of_ble_eq_true rfl) k) (fun hr27 hb28 => ?_)
        exact J_some (fun k => w_ireturn rfl rfl k)
    · refine J.mono (fun k => s_icmp_ge_f rfl hc6 (w_iconst rfl (inR_c rfl) k)) ?_
      exact J_some (fun k => w_ireturn rfl rfl k)
set_option maxRecDepth 20000 in
set_option maxHeartbeats 4000000 in
theorem cal_mo_took {Δ : DT} {d : Nat} (hd : 2 ≤ d) {x1 : Int} {x2 : Int}  {M : MEM} {p : Int × MEM} (h : mo_took x1 x2 M = some p) (ho : okVs [vR 278, vI x1, vI x2]) (hM : okM M) : Cal Δ false m_mo_took d [vR 278, vI x1, vI x2] (NG, S0, M) (some p.1) (NG, S0, p.2) 0 0 := by
  obtain ⟨d, rfl⟩ : ∃ e, d = e + 1 := ⟨d - 1, by omega⟩
  exact cal_of g_mo_took p_mo_took (fun v hv => by simp only [List.mem_cons, List.not_mem_nil, or_false] at hv; rcases hv with rfl | rfl | rfl <;> first | exact Or.inl ⟨_, rfl⟩ | exact Or.inr ⟨_, rfl⟩) ho hM (Nat.le_of_ble_eq_true rfl) (fun Γ _ k => J_mo_took hd  _ h k)
abbrev HD_mo_longest_b35 (Δ : DT) (Γ : FT) (d : Nat) (x1 : Int) (M : MEM) (s : Int × Int × Int) : Prop := WAt Δ Γ false m_mo_longest (d + 1) 35 [vR (278), vI (x1), vI (s.1), vI (s.2.1), vI (s.2.2), vN] [] (NG, S0, M) 0 0
abbrev X_mo_longest_b35 (Δ : DT) (Γ : FT) (d : Nat) (x1 : Int) (M : MEM) (s : Int × Int × Int) : Prop := WAt Δ Γ false m_mo_longest (d + 1) 126 [vR (278), vI (x1), vI (s.1), vI (s.2.1), vN, vN] [] (NG, S0, M) 0 0
noncomputable def mo_longest_j120_35 (x1 : Int) (x2 : Int) (x3 : Int) (x4 : Int) (M : MEM) : Option ((Int × Int × Int) ⊕ (Int × Int × Int)) :=
some (.inl (x2, x3, (wr (x4 + 1))))
set_option maxRecDepth 20000 in
set_option maxHeartbeats 4000000 in
theorem J_mo_longest_j120_35 {Δ : DT} {Γ : FT} {d : Nat} (hd : 2 ≤ d + 1) {x1 : Int} {x2 : Int} {x3 : Int} {x4 : Int}  {M : MEM} : J (mo_longest_j120_35 x1 x2 x3 x4 M) (Sum.elim (HD_mo_longest_b35 Δ Γ d x1 M) (X_mo_longest_b35 Δ Γ d x1 M)) (WAt Δ Γ false m_mo_longest (d + 1) 120 [vR (278), vI (x1), vI (x2), vI (x3), vI (x4), vN] [] (NG, S0, M) 0 0) := by
  unfold mo_longest_j120_35
  refine J.mono (fun k => s_iinc4 rfl (Nat.le_of_ble_eq_true rfl) (w_goto rfl k)) ?_
  exact J_some (fun k => w_forget (wk_k (wk_k (wk_k (wk_k (wk_k (wk_d wk_0)))))) k)
noncomputable def mo_longest_j117_35 (x1 : Int) (x2 : Int) (x4 : Int) (M : MEM) : Option ((Int × Int × Int) ⊕ (Int × Int × Int)) :=
mo_longest_j120_35 x1 x2 x4 x4 M
set_option maxRecDepth 20000 in
set_option maxHeartbeats 4000000 in
theorem J_mo_longest_j117_35 {Δ : DT} {Γ : FT} {d : Nat} (hd : 2 ≤ d + 1) {x1 : Int} {x2 : Int} {x4 : Int}  {M : MEM} : J (mo_longest_j117_35 x1 x2 x4 M) (Sum.elim (HD_mo_longest_b35 Δ Γ d x1 M) (X_mo_longest_b35 Δ Γ d x1 M)) (WAt Δ Γ false m_mo_longest (d + 1) 117 [vR (278), vI (x1), vI (x2), vN, vI (x4), vN] [] (NG, S0, M) 0 0) := by
  unfold mo_longest_j117_35
  refine J.mono (fun k => w_iload rfl rfl (s_istore3 rfl (Nat.le_of_ble_eq_true rfl) k)) ?_
  exact J.mono (fun k => w_forget (wk_k (wk_k (wk_k (wk_k (wk_k (wk_d wk_0)))))) k) (J_mo_longest_j120_35 hd )
noncomputable def mo_longest_j92_35 (x1 : Int) (x2 : Int) (x3 : Int) (x4 : Int) (x5 : Int) (M : MEM) : Option ((Int × Int × Int) ⊕ (Int × Int × Int)) :=
if x3 = (-1) then
mo_longest_j117_35 x1 x2 x4 M
else
(mo_line x1 (wr (x3 + 1)) M).bind fun r26 =>
(mo_line x1 x3 M).bind fun r30 =>
if (wr (r26 - r30)) ≤ x5 then
mo_longest_j120_35 x1 x2 x3 x4 M
else
mo_longest_j117_35 x1 x2 x4 M
set_option maxRecDepth 20000 in
set_option maxHeartbeats 4000000 in
theorem J_mo_longest_j92_35 {Δ : DT} {Γ : FT} {d : Nat} (hd : 2 ≤ d + 1) {x1 : Int} {x2 : Int} {x3 : Int} {x4 : Int} {x5 : Int}  {M : MEM} : J (mo_longest_j92_35 x1 x2 x3 x4 x5 M) (Sum.elim (HD_mo_longest_b35 Δ Γ d x1 M) (X_mo_longest_b35 Δ Γ d x1 M)) (WAt Δ Γ false m_mo_longest (d + 1) 92 [vR (278), vI (x1), vI (x2), vI (x3), vI (x4), vI (x5)] [] (NG, S0, M) 0 0) := by
  unfold mo_longest_j92_35
  refine J.mono (fun k => w_iload_n rfl rfl (w_iconst rfl (inR_c rfl) k)) ?_
  refine J_ite (fun hc24 => ?_) (fun hc24 => ?_)
  · refine J.mono (fun k => s_icmp_eq_t rfl hc24 k) ?_
    exact J.mono (fun k => w_forget (wk_k (wk_k (wk_k (wk_d (wk_k (wk_d wk_0)))))) k) (J_mo_longest_j117_35 hd )
  · refine J.mono (fun k => s_icmp_eq_f rfl hc24 (w_iload rfl rfl (w_aload_n rfl rfl (w_iload_n rfl rfl (w_iload_n rfl rfl (w_iconst rfl (inR_c rfl) (w_iadd rfl k))))))) ?_
    refine J_c (fun r26 e25 => ?_)
    refine J_hyp (fun k => c_vi2 rfl (fun ho hM => cal_mo_line (by omega)  e25 ho hM) v_mo_line (Nat.le_of_ble_eq_true rfl) S_278 rfl (Nat.le_of_ble_eq_true rfl) k) (fun hr27 hb28 => ?_)
    refine J.mono (fun k => w_aload_n rfl rfl (w_iload_n rfl rfl (w_iload_n rfl rfl k))) ?_
    refine J_c (fun r30 e29 => ?_)
    refine J_hyp (fun k => c_vi2 rfl (fun ho hM => cal_mo_line (by omega)  e29 ho hM) v_mo_line (Nat.le_of_ble_eq_true rfl) S_278 rfl (Nat.le_of_ble_eq_true rfl) k) (fun hr31 hb32 => ?_)
    refine J.mono (fun k => w_isub rfl k) ?_
    refine J_ite (fun hc33 => ?_) (fun hc33 => ?_)
    · refine J.mono (fun k => s_icmp_ge_t rfl hc33 k) ?_
      exact J.mono (fun k => w_forget (wk_k (wk_k (wk_k (wk_k (wk_k (wk_d wk_0)))))) k) (J_mo_longest_j120_35 hd )
    · refine J.mono (fun k => s_icmp_ge_f rfl hc33 k) ?_
      exact J.mono (fun k => w_forget (wk_k (wk_k (wk_k (wk_d (wk_k (wk_d wk_0)))))) k) (J_mo_longest_j117_35 hd )
noncomputable def mo_longest_j89_35 (x1 : Int) (x3 : Int) (x4 : Int) (x5 : Int) (M : MEM) : Option ((Int × Int × Int) ⊕ (Int × Int × Int)) :=
mo_longest_j92_35 x1 x4 x3 x4 x5 M
set_option maxRecDepth 20000 in
set_option maxHeartbeats 4000000 in
theorem J_mo_longest_j89_35 {Δ : DT} {Γ : FT} {d : Nat} (hd : 2 ≤ d + 1) {x1 : Int} {x3 : Int} {x4 : Int} {x5 : Int}  {M : MEM} : J (mo_longest_j89_35 x1 x3 x4 x5 M) (Sum.elim (HD_mo_longest_b35 Δ Γ d x1 M) (X_mo_longest_b35 Δ Γ d x1 M)) (WAt Δ Γ false m_mo_longest (d + 1) 89 [vR (278), vI (x1), vN, vI (x3), vI (x4), vI (x5)] [] (NG, S0, M) 0 0) := by
  unfold mo_longest_j89_35
  refine J.mono (fun k => w_iload rfl rfl (s_istore2 rfl (Nat.le_of_ble_eq_true rfl) k)) ?_
  exact J.mono (fun k => w_forget (wk_k (wk_k (wk_k (wk_k (wk_k (wk_k wk_0)))))) k) (J_mo_longest_j92_35 hd )
noncomputable def mo_longest_b35 (x1 : Int) (x2 : Int) (x3 : Int) (x4 : Int) (M : MEM) : Option ((Int × Int × Int) ⊕ (Int × Int × Int)) :=
(mo_strokes x1 M).bind fun r11 =>
if r11 ≤ x4 then
some (.inr (x2, x3, x4))
else
(mo_line x1 (wr (x4 + 1)) M).bind fun r16 =>
(mo_line x1 x4 M).bind fun r20 =>
if x2 = (-1) then
mo_longest_j89_35 x1 x3 x4 (wr (r16 - r20)) M
else
(mo_line x1 (wr (x2 + 1)) M).bind fun r35 =>
(mo_line x1 x2 M).bind fun r39 =>
if (wr (r16 - r20)) ≤ (wr (r35 - r39)) then
mo_longest_j92_35 x1 x2 x3 x4 (wr (r16 - r20)) M
else
mo_longest_j89_35 x1 x3 x4 (wr (r16 - r20)) M
set_option maxRecDepth 20000 in
set_option maxHeartbeats 4000000 in
theorem Jb_mo_longest_b35 {Δ : DT} {Γ : FT} {d : Nat} (hd : 2 ≤ d + 1) {x1 : Int}  {x2 : Int} {x3 : Int} {x4 : Int} {M : MEM} : J (mo_longest_b35 x1 x2 x3 x4 M) (Sum.elim (HD_mo_longest_b35 Δ Γ d x1 M) (X_mo_longest_b35 Δ Γ d x1 M)) (WAt Δ Γ false m_mo_longest (d + 1) 35 [vR (278), vI (x1), vI (x2), vI (x3), vI (x4), vN] [] (NG, S0, M) 0 0) := by
  unfold mo_longest_b35
  refine J.mono (fun k => w_iload rfl rfl (w_aload_n rfl rfl (w_iload_n rfl rfl k))) ?_
  refine J_c (fun r11 e10 => ?_)
  refine J_hyp (fun k => c_vi1 rfl (fun ho hM => cal_mo_strokes (by omega)  e10 ho hM) v_mo_strokes (Nat.le_of_ble_eq_true rfl) S_278 rfl (Nat.le_of_ble_eq_true rfl) k) (fun hr12 hb13 => ?_)
  refine J_ite (fun hc14 => ?_) (fun hc14 => ?_)
  · refine J.mono (fun k => s_icmp_ge_t rfl hc14 k) ?_
    exact J_some (fun k => w_forget (wk_k (wk_k (wk_k (wk_k (wk_d (wk_d wk_0)))))) k)
  · refine J.mono (fun k => s_icmp_ge_f rfl hc14 (w_aload_n rfl rfl (w_iload_n rfl rfl (w_iload rfl rfl (w_iconst rfl (inR_c rfl) (w_iadd rfl k)))))) ?_
    refine J_c (fun r16 e15 => ?_)
    refine J_hyp (fun k => c_vi2 rfl (fun ho hM => cal_mo_line (by omega)  e15 ho hM) v_mo_line (Nat.le_of_ble_eq_true rfl) S_278 rfl (Nat.le_of_ble_eq_true rfl) k) (fun hr17 hb18 => ?_)
    refine J.mono (fun k => w_aload_n rfl rfl (w_iload_n rfl rfl (w_iload rfl rfl k))) ?_
    refine J_c (fun r20 e19 => ?_)
    refine J_hyp (fun k => c_vi2 rfl (fun ho hM => cal_mo_line (by omega)  e19 ho hM) v_mo_line (Nat.le_of_ble_eq_true rfl) S_278 rfl (Nat.le_of_ble_eq_true rfl) k) (fun hr21 hb22 => ?_)
    refine J.mono (fun k => w_isub rfl (s_istore5 rfl (Nat.le_of_ble_eq_true rfl) (w_iload_n rfl rfl (w_iconst rfl (inR_c rfl) k)))) ?_
    refine J_ite (fun hc23 => ?_) (fun hc23 => ?_)
    · refine J.mono (fun k => s_icmp_eq_t rfl hc23 k) ?_
      exact J.mono (fun k => w_forget (wk_k (wk_k (wk_d (wk_k (wk_k (wk_k wk_0)))))) k) (J_mo_longest_j89_35 hd )
    · refine J.mono (fun k => s_icmp_eq_f rfl hc23 (w_iload rfl rfl (w_aload_n rfl rfl (w_iload_n rfl rfl (w_iload_n rfl rfl (w_iconst rfl (inR_c rfl) (w_iadd rfl k))))))) ?_
      refine J_c (fun r35 e34 => ?_)
      refine J_hyp (fun k => c_vi2 rfl (fun ho hM => cal_mo_line (by omega)  e34 ho hM) v_mo_line (Nat.le_of_ble_eq_true rfl) S_278 rfl (Nat.le_of_ble_eq_true rfl) k) (fun hr36 hb37 => ?_)
      refine J.mono (fun k => w_aload_n rfl rfl (w_iload_n rfl rfl (w_iload_n rfl rfl k))) ?_
      refine J_c (fun r39 e38 => ?_)
      refine J_hyp (fun k => c_vi2 rfl (fun ho hM => cal_mo_line (by omega)  e38 ho hM) v_mo_line (Nat.le_of_ble_eq_true rfl) S_278 rfl (Nat.le_of_ble_eq_true rfl) k) (fun hr40 hb41 => ?_)
      refine J.mono (fun k => w_isub rfl k) ?_
      refine J_ite (fun hc42 => ?_) (fun hc42 => ?_)
      · refine J.mono (fun k => s_icmp_le_t rfl hc42 k) ?_
        exact J.mono (fun k => w_forget (wk_k (wk_k (wk_k (wk_k (wk_k (wk_k wk_0)))))) k) (J_mo_longest_j92_35 hd )
      · refine J.mono (fun k => s_icmp_le_f rfl hc42 k) ?_
        exact J.mono (fun k => w_forget (wk_k (wk_k (wk_d (wk_k (wk_k (wk_k wk_0)))))) k) (J_mo_longest_j89_35 hd )
set_option maxRecDepth 20000 in
set_option maxHeartbeats 4000000 in
theorem Jl_mo_longest_b35 {Δ : DT} {Γ : FT} {d : Nat} (hd : 2 ≤ d + 1) {x1 : Int}  {M : MEM} : ∀ (n : Nat) (s : Int × Int × Int), J (iter (fun s => mo_longest_b35 x1 s.1 s.2.1 s.2.2 M) n s) (X_mo_longest_b35 Δ Γ d x1 M) (HD_mo_longest_b35 Δ Γ d x1 M s) := J_iter (fun s => Jb_mo_longest_b35 hd )
noncomputable def mo_longest (x1 : Int) (M : MEM) : Option (Int × MEM) :=
(some (up2 M 278 13 0)).bind fun M1 =>
if (mo_isDonkey x1 M1) = 0 then
some ((-1), M1)
else
(mo_strokes x1 M1).bind fun r7 =>
(iter (fun s => mo_longest_b35 x1 s.1 s.2.1 s.2.2 M1) FU ((-1), (-1), (max 1 (wr ((wr (r7 - 40)) + 1))))).bind fun w43 =>
if w43.1 = (-1) then
some ((-2), M1)
else
(some (up2 M1 278 12 0)).bind fun M45 =>
(mo_line x1 (wr (w43.1 + 1)) M45).bind fun r47 =>
(mo_line x1 w43.1 M45).bind fun r51 =>
(mo_tell (wr (r47 - r51)) M45).bind fun M55 =>
(mo_tell w43.2.1 M55).bind fun M57 =>
(mo_line x1 (wr (w43.2.1 + 1)) M57).bind fun r59 =>
(mo_line x1 w43.2.1 M57).bind fun r63 =>
(mo_tell (wr (r59 - r63)) M57).bind fun M67 =>
some (w43.1, M67)
set_option maxRecDepth 20000 in
set_option maxHeartbeats 4000000 in
theorem J_mo_longest {Δ : DT} {Γ : FT} {d : Nat} (hd : 2 ≤ d + 1) {x1 : Int}  {M : MEM} : J (mo_longest x1 M) (K_IM Δ Γ m_mo_longest) (WAt Δ Γ false m_mo_longest (d + 1) 0 [vR (278), vI (x1), vN, vN, vN, vN] [] (NG, S0, M) 0 0) := by
  unfold mo_longest
  refine J.mono (fun k => w_aload_n rfl rfl (w_iconst rfl (inR_c rfl) k)) ?_
  refine J_b ?_
  refine J.mono (fun k => w_putI rfl (Nat.le_of_ble_eq_true rfl) S_278 rfl rfl (w_aload_n rfl rfl (w_iload_n rfl rfl k))) ?_
  refine J_hyp (fun k => c_vi1 rfl (fun ho hM => cal_mo_isDonkey (by omega)   ho hM) v_mo_isDonkey (Nat.le_of_ble_eq_true rfl) S_278 rfl (Nat.le_of_ble_eq_true rfl) k) (fun hr3 hb4 => ?_)
  refine J_ite (fun hc5 => ?_) (fun hc5 => ?_)
  · refine J.mono (fun k => s_if_ne_f rfl hc5 (w_iconst rfl (inR_c rfl) k)) ?_
    exact J_some (fun k => w_ireturn rfl rfl k)
  · refine J.mono (fun k => s_if_ne_t rfl hc5 (w_iconst rfl (inR_c rfl) (s_istore2 rfl (Nat.le_of_ble_eq_true rfl) (w_iconst rfl (inR_c rfl) (s_istore3 rfl (Nat.le_of_ble_eq_true rfl) (w_iconst rfl (inR_c rfl) (w_aload_n rfl rfl (w_iload_n rfl rfl k)))))))) ?_
    refine J_c (fun r7 e6 => ?_)
    refine J_hyp (fun k => c_vi1 rfl (fun ho hM => cal_mo_strokes (by omega)  e6 ho hM) v_mo_strokes (Nat.le_of_ble_eq_true rfl) S_278 rfl (Nat.le_of_ble_eq_true rfl) k) (fun hr8 hb9 => ?_)
    refine J.mono (fun k => w_bipush rfl (bip_c rfl) (w_isub rfl (w_iconst rfl (inR_c rfl) (w_iadd rfl k)))) ?_
    refine J.mono (fun k => w_mmax rfl (Nat.le_of_ble_eq_true rfl) k) ?_
    refine J.mono (fun k => s_istore4 rfl (Nat.le_of_ble_eq_true rfl) k) ?_
    refine J.mono (fun k => w_forget (wk_k (wk_k (wk_k (wk_k (wk_k (wk_d wk_0)))))) k) ?_
    refine J_loop (Jl_mo_longest_b35 hd  _ _) (fun w43 => ?_)
    refine J.mono (fun k => w_iload_n rfl rfl (w_iconst rfl (inR_c rfl) k)) ?_
    refine J_ite (fun hc44 => ?_) (fun hc44 => ?_)
    · refine J.mono (fun k => s_icmp_ne_f rfl hc44 (w_bipush rfl (bip_c rfl) k)) ?_
      exact J_some (fun k => w_ireturn rfl rfl k)
    · refine J.mono (fun k => s_icmp_ne_t rfl hc44 (w_aload_n rfl rfl (w_iconst rfl (inR_c rfl) k))) ?_
      refine J_b ?_
      refine J.mono (fun k => w_putI rfl (Nat.le_of_ble_eq_true rfl) S_278 rfl rfl (w_aload_n rfl rfl (w_aload_n rfl rfl (w_iload_n rfl rfl (w_iload_n rfl rfl (w_iconst rfl (inR_c rfl) (w_iadd rfl k))))))) ?_
      refine J_c (fun r47 e46 => ?_)
      refine J_hyp (fun k => c_vi2 rfl (fun ho hM => cal_mo_line (by omega)  e46 ho hM) v_mo_line (Nat.le_of_ble_eq_true rfl) S_278 rfl (Nat.le_of_ble_eq_true rfl) k) (fun hr48 hb49 => ?_)
      refine J.mono (fun k => w_aload_n rfl rfl (w_iload_n rfl rfl (w_iload_n rfl rfl k))) ?_
      refine J_c (fun r51 e50 => ?_)
      refine J_hyp (fun k => c_vi2 rfl (fun ho hM => cal_mo_line (by omega)  e50 ho hM) v_mo_line (Nat.le_of_ble_eq_true rfl) S_278 rfl (Nat.le_of_ble_eq_true rfl) k) (fun hr52 hb53 => ?_)
      refine J.mono (fun k => w_isub rfl k) ?_
      refine J_c (fun M55 e54 => ?_)
      refine J.mono (fun k => c_vv1 rfl (fun ho hM => cal_mo_tell (by omega)  e54 ho hM) v_mo_tell (Nat.le_of_ble_eq_true rfl) S_278 rfl (Nat.le_of_ble_eq_true rfl) (w_aload_n rfl rfl (w_iload_n rfl rfl k))) ?_
      refine J_c (fun M57 e56 => ?_)
      refine J.mono (fun k => c_vv1 rfl (fun ho hM => cal_mo_tell (by omega)  e56 ho hM) v_mo_tell (Nat.le_of_ble_eq_true rfl) S_278 rfl (Nat.le_of_ble_eq_true rfl) (w_aload_n rfl rfl (w_aload_n rfl rfl (w_iload_n rfl rfl (w_iload_n rfl rfl (w_iconst rfl (inR_c rfl) (w_iadd rfl k))))))) ?_
      refine J_c (fun r59 e58 => ?_)
      refine J_hyp (fun k => c_vi2 rfl (fun ho hM => cal_mo_line (by omega)  e58 ho hM) v_mo_line (Nat.le_of_ble_eq_true rfl) S_278 rfl (Nat.le_of_ble_eq_true rfl) k) (fun hr60 hb61 => ?_)
      refine J.mono (fun k => w_aload_n rfl rfl (w_iload_n rfl rfl (w_iload_n rfl rfl k))) ?_
      refine J_c (fun r63 e62 => ?_)
      refine J_hyp (fun k => c_vi2 rfl (fun ho hM => cal_mo_line (by omega)  e62 ho hM) v_mo_line (Nat.le_of_ble_eq_true rfl) S_278 rfl (Nat.le_of_ble_eq_true rfl) k) (fun hr64 hb65 => ?_)
      refine J.mono (fun k => w_isub rfl k) ?_
      refine J_c (fun M67 e66 => ?_)
      refine J.mono (fun k => c_vv1 rfl (fun ho hM => cal_mo_tell (by omega)  e66 ho hM) v_mo_tell (Nat.le_of_ble_eq_true rfl) S_278 rfl (Nat.le_of_ble_eq_true rfl) (w_iload_n rfl rfl k)) ?_
      exact J_some (fun k => w_ireturn rfl rfl k)
set_option maxRecDepth 20000 in
set_option maxHeartbeats 4000000 in
theorem cal_mo_longest {Δ : DT} {d : Nat} (hd : 2 ≤ d) {x1 : Int}  {M : MEM} {p : Int × MEM} (h : mo_longest x1 M = some p) (ho : okVs [vR 278, vI x1]) (hM : okM M) : Cal Δ false m_mo_longest d [vR 278, vI x1] (NG, S0, M) (some p.1) (NG, S0, p.2) 0 0 := by
  obtain ⟨d, rfl⟩ : ∃ e, d = e + 1 := ⟨d - 1, by omega⟩
  exact cal_of g_mo_longest p_mo_longest (fun v hv => by simp only [List.mem_cons, List.not_mem_nil, or_false] at hv; rcases hv with rfl | rfl <;> first | exact Or.inl ⟨_, rfl⟩ | exact Or.inr ⟨_, rfl⟩) ho hM (Nat.le_of_ble_eq_true rfl) (fun Γ _ k => J_mo_longest hd  _ h k)
