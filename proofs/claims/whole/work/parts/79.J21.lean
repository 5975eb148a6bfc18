abbrev HD_mo_goMinute_b17 (Δ : DT) (Γ : FT) (d : Nat) (a1 : Nat) (s : Int × MEM) : Prop := WAt Δ Γ false m_mo_goMinute (d + 1) 17 [vR (278), vR (a1), vI (s.1), vN] [] (NG, S0, s.2) 0 0
abbrev X_mo_goMinute_b17 (Δ : DT) (Γ : FT) (d : Nat) (a1 : Nat) (s : Int × MEM) : Prop := WAt Δ Γ false m_mo_goMinute (d + 1) 83 [vN, vR (a1), vN, vN] [] (NG, S0, s.2) 0 0
set_option maxRecDepth 20000 in
set_option maxHeartbeats 4000000 in
theorem J_mo_goMinute_j55_17 {Δ : DT} {Γ : FT} {d : Nat} (hd : 75 ≤ d + 1) {a1 : Nat} {x2 : Int} {x3 : Int} (h_a1 : isArr 0 (lenA a1) a1) {M : MEM} : J (mo_goMinute_j55_17 a1 x2 x3 M) (Sum.elim (HD_mo_goMinute_b17 Δ Γ d a1) (X_mo_goMinute_b17 Δ Γ d a1)) (WAt Δ Γ false m_mo_goMinute (d + 1) 55 [vR (278), vR (a1), vI (x2), vI (x3)] [] (NG, S0, M) 0 0) := by
  unfold mo_goMinute_j55_17
  refine J.mono (fun k => w_aload_n rfl rfl (w_aload_n rfl rfl (w_iload_n rfl rfl (w_iload_n rfl rfl k)))) ?_
  refine J_c (fun M14 e13 => ?_)
  refine J.mono (fun k => c_vv3 rfl (fun ho hM => cal_mo_goSteps (by omega) h_a1 e13 ho hM) v_mo_goSteps (Nat.le_of_ble_eq_true rfl) S_278 rfl (Nat.le_of_ble_eq_true rfl) (w_aload_n rfl rfl (w_dup rfl (fun _ h => by cases h) (w_getI rfl (Nat.le_of_ble_eq_true rfl) S_278 rfl (w_aload_n rfl rfl (w_getR (r := 287) rfl (Nat.le_of_ble_eq_true rfl) S_278 rfl (w_iload_n rfl rfl k))))))) ?_
  refine J_chk (fun hi15 => ?_)
  refine J.mono (fun k => w_iald rfl A_287.1 A_287.2 hi15.1 hi15.2 (w_iadd rfl k)) ?_
  refine J_b ?_
  refine J.mono (fun k => w_putI rfl (Nat.le_of_ble_eq_true rfl) S_278 rfl rfl (s_iinc2 rfl (Nat.le_of_ble_eq_true rfl) (w_goto rfl k))) ?_
  exact J_some (fun k => w_forget (wk_k (wk_k (wk_k (wk_d wk_0)))) k)
set_option maxRecDepth 20000 in
set_option maxHeartbeats 4000000 in
theorem Jb_mo_goMinute_b17 {Δ : DT} {Γ : FT} {d : Nat} (hd : 75 ≤ d + 1) {a1 : Nat} (h_a1 : isArr 0 (lenA a1) a1) {x2 : Int} {M : MEM} : J (mo_goMinute_b17 a1 x2 M) (Sum.elim (HD_mo_goMinute_b17 Δ Γ d a1) (X_mo_goMinute_b17 Δ Γ d a1)) (WAt Δ Γ false m_mo_goMinute (d + 1) 17 [vR (278), vR (a1), vI (x2), vN] [] (NG, S0, M) 0 0) := by
  unfold mo_goMinute_b17
  refine J.mono (fun k => w_iload_n rfl rfl (w_aload_n rfl rfl (w_getI rfl (Nat.le_of_ble_eq_true rfl) S_278 rfl k))) ?_
  refine J_ite (fun hc4 => ?_) (fun hc4 => ?_)
  · refine J.mono (fun k => s_icmp_ge_t rfl hc4 k) ?_
    exact J_some (fun k => w_forget (wk_d (wk_k (wk_d (wk_d wk_0)))) k)
  · refine J.mono (fun k => s_icmp_ge_f rfl hc4 (w_aload_n rfl rfl (w_getR (r := 287) rfl (Nat.le_of_ble_eq_true rfl) S_278 rfl (w_iload_n rfl rfl (w_iconst rfl (inR_c rfl) k))))) ?_
    refine J_chk (fun hi6 => ?_)
    refine J_b ?_
    refine J.mono (fun k => w_iast rfl A_287.1 A_287.2 hi6.1 hi6.2 rfl (w_aload_n rfl rfl (w_aload_n rfl rfl (w_iload_n rfl rfl k)))) ?_
    refine J_c (fun p8 e7 => ?_)
    refine J_hyp (fun k => c_vi2 rfl (fun ho hM => cal_mo_pace (by omega) h_a1 e7 ho hM) v_mo_pace (Nat.le_of_ble_eq_true rfl) S_278 rfl (Nat.le_of_ble_eq_true rfl) k) (fun hr9 hb10 => ?_)
    refine J.mono (fun k => s_istore3 rfl (Nat.le_of_ble_eq_true rfl) (w_iload_n rfl rfl k)) ?_
    refine J_ite (fun hc11 => ?_) (fun hc11 => ?_)
    · refine J.mono (fun k => s_if_ne_f rfl hc11 (w_aload_n rfl rfl (w_dup rfl (fun _ h => by cases h) (w_getI rfl (Nat.le_of_ble_eq_true rfl) S_278 rfl (w_iconst rfl (inR_c rfl) (w_iload_n rfl rfl (w_ishl rfl (w_ior rfl k)))))))) ?_
      refine J_b ?_
      refine J.mono (fun k => w_putI rfl (Nat.le_of_ble_eq_true rfl) S_278 rfl rfl k) ?_
      exact J.mono (fun k => w_forget (wk_k (wk_k (wk_k (wk_k wk_0)))) k) (J_mo_goMinute_j55_17 hd h_a1)
    · refine J.mono (fun k => s_if_ne_t rfl hc11 k) ?_
      exact J.mono (fun k => w_forget (wk_k (wk_k (wk_k (wk_k wk_0)))) k) (J_mo_goMinute_j55_17 hd h_a1)
set_option maxRecDepth 20000 in
set_option maxHeartbeats 4000000 in
theorem Jl_mo_goMinute_b17 {Δ : DT} {Γ : FT} {d : Nat} (hd : 75 ≤ d + 1) {a1 : Nat} (h_a1 : isArr 0 (lenA a1) a1)  : ∀ (n : Nat) (s : Int × MEM), J (iter (fun s => mo_goMinute_b17 a1 s.1 s.2) n s) (X_mo_goMinute_b17 Δ Γ d a1) (HD_mo_goMinute_b17 Δ Γ d a1 s) := J_iter (fun s => Jb_mo_goMinute_b17 hd h_a1)
set_option maxRecDepth 20000 in
set_option maxHeartbeats 4000000 in
theorem J_mo_goMinute {Δ : DT} {Γ : FT} {d : Nat} (hd : 75 ≤ d + 1) {a1 : Nat} (h_a1 : isArr 0 (lenA a1) a1) {M : MEM} : J (mo_goMinute a1 M) (K_M Δ Γ m_mo_goMinute) (WAt Δ Γ false m_mo_goMinute (d + 1) 0 [vR (278), vR (a1), vN, vN] [] (NG, S0, M) 0 0) := by
  unfold mo_goMinute
  refine J.mono (fun k => w_aload_n rfl rfl (w_iconst rfl (inR_c rfl) k)) ?_
  refine J_b ?_
  refine J.mono (fun k => w_putI rfl (Nat.le_of_ble_eq_true rfl) S_278 rfl rfl (w_aload_n rfl rfl (w_iconst rfl (inR_c rfl) k))) ?_
  refine J_b ?_
  refine J.mono (fun k => w_putI rfl (Nat.le_of_ble_eq_true rfl) S_278 rfl rfl (w_aload_n rfl rfl (w_iconst rfl (inR_c rfl) k))) ?_
  refine J_b ?_
  refine J.mono (fun k => w_putI rfl (Nat.le_of_ble_eq_true rfl) S_278 rfl rfl (w_iconst rfl (inR_c rfl) (s_istore2 rfl (Nat.le_of_ble_eq_true rfl) k))) ?_
  refine J.mono (fun k => w_forget (wk_k (wk_k (wk_k (wk_d wk_0)))) k) ?_
  refine J_loop (Jl_mo_goMinute_b17 hd h_a1 _ _) (fun w17 => ?_)
  refine J.mono (fun k => w_aload_n rfl rfl (w_sipush rfl (sip_c rfl) (w_dup2 rfl (fun _ h => by cases h) (fun _ h => by cases h) k))) ?_
  refine J_chk (fun hi18 => ?_)
  refine J.mono (fun k => w_iald rfl h_a1.1 h_a1.2 hi18.1 hi18.2 (w_iconst rfl (inR_c rfl) (w_iadd rfl k))) ?_
  refine J_chk (fun hi20 => ?_)
  refine J_b ?_
  refine J.mono (fun k => w_iast rfl h_a1.1 h_a1.2 hi20.1 hi20.2 rfl k) ?_
  exact J_some (fun k => w_return rfl rfl k)
set_option maxRecDepth 20000 in
set_option maxHeartbeats 4000000 in
theorem cal_mo_goMinute {Δ : DT} {d : Nat} (hd : 75 ≤ d) {a1 : Nat} (h_a1 : isArr 0 (lenA a1) a1) {M : MEM} {M1 : MEM} (h : mo_goMinute a1 M = some M1) (ho : okVs [vR 278, vR a1]) (hM : okM M) : Cal Δ false m_mo_goMinute d [vR 278, vR a1] (NG, S0, M) none (NG, S0, M1) 0 0 := by
  obtain ⟨d, rfl⟩ : ∃ e, d = e + 1 := ⟨d - 1, by omega⟩
  exact cal_of g_mo_goMinute p_mo_goMinute (fun v hv => by simp only [List.mem_cons, List.not_mem_nil, or_false] at hv; rcases hv with rfl | rfl <;> first | exact Or.inl ⟨_, rfl⟩ | exact Or.inr ⟨_, rfl⟩) ho hM (Nat.le_of_ble_eq_true rfl) (fun Γ _ k => J_mo_goMinute hd h_a1 _ h k)
abbrev HD_mo_layAll_b2 (Δ : DT) (Γ : FT) (d : Nat) (a1 : Nat) (x2 : Int) (s : Int × MEM) : Prop := WAt Δ Γ false m_mo_layAll d 2 [vR (278), vR (a1), vI (x2), vI (s.1)] [] (NG, S0, s.2) 0 0
abbrev X_mo_layAll_b2 (Δ : DT) (Γ : FT) (d : Nat) (a1 : Nat) (x2 : Int) (s : Int × MEM) : Prop := WAt Δ Γ false m_mo_layAll d 26 [vR (278), vR (a1), vI (x2), vN] [] (NG, S0, s.2) 0 0
set_option maxRecDepth 20000 in
set_option maxHeartbeats 4000000 in
theorem Jb_mo_layAll_b2 {Δ : DT} {Γ : FT} {d : Nat} {a1 : Nat} {x2 : Int} (h_a1 : isArr 0 (lenA a1) a1) {x3 : Int} {M : MEM} : J (mo_layAll_b2 a1 x2 x3 M) (Sum.elim (HD_mo_layAll_b2 Δ Γ d a1 x2) (X_mo_layAll_b2 Δ Γ d a1 x2)) (WAt Δ Γ false m_mo_layAll d 2 [vR (278), vR (a1), vI (x2), vI (x3)] [] (NG, S0, M) 0 0) := by
  unfold mo_layAll_b2
  refine J.mono (fun k => w_iload_n rfl rfl (w_sipush rfl (sip_c rfl) k)) ?_
  refine J_ite (fun hc1 => ?_) (fun hc1 => ?_)
  · refine J.mono (fun k => s_icmp_ge_t rfl hc1 k) ?_
    exact J_some (fun k => w_forget (wk_k (wk_k (wk_k (wk_d wk_0)))) k)
  · refine J.mono (fun k => s_icmp_ge_f rfl hc1 (w_aload_n rfl rfl (w_iload_n rfl rfl (w_iload_n rfl rfl (w_iadd rfl (w_aload_n rfl rfl (w_getR (r := 279) rfl (Nat.le_of_ble_eq_true rfl) S_278 rfl (w_iload_n rfl rfl k)))))))) ?_
    refine J_chk (fun hi2 => ?_)
    refine J.mono (fun k => w_iald rfl A_279.1 A_279.2 hi2.1 hi2.2 k) ?_
    refine J_chk (fun hi4 => ?_)
    refine J_b ?_
    refine J.mono (fun k => w_iast rfl h_a1.1 h_a1.2 hi4.1 hi4.2 rfl (s_iinc3 rfl (Nat.le_of_ble_eq_true rfl) (w_goto rfl k))) ?_
    exact J_some (fun k => w_forget (wk_k (wk_k (wk_k (wk_k wk_0)))) k)
set_option maxRecDepth 20000 in
set_option maxHeartbeats 4000000 in
theorem Jl_mo_layAll_b2 {Δ : DT} {Γ : FT} {d : Nat} {a1 : Nat} {x2 : Int} (h_a1 : isArr 0 (lenA a1) a1)  : ∀ (n : Nat) (s : Int × MEM), J (iter (fun s => mo_layAll_b2 a1 x2 s.1 s.2) n s) (X_mo_layAll_b2 Δ Γ d a1 x2) (HD_mo_layAll_b2 Δ Γ d a1 x2 s) := J_iter (fun s => Jb_mo_layAll_b2 h_a1)
abbrev HD_mo_layAll_b39 (Δ : DT) (Γ : FT) (d : Nat) (a1 : Nat) (x2 : Int) (s : Int × MEM) : Prop := WAt Δ Γ false m_mo_layAll d 39 [vR (278), vR (a1), vI (x2), vI (s.1)] [] (NG, S0, s.2) 0 0
abbrev X_mo_layAll_b39 (Δ : DT) (Γ : FT) (d : Nat) (a1 : Nat) (x2 : Int) (s : Int × MEM) : Prop := WAt Δ Γ false m_mo_layAll d 68 [vN, vN, vN, vN] [] (NG, S0, s.2) 0 0
set_option maxRecDepth 20000 in
set_option maxHeartbeats 4000000 in
theorem Jb_mo_layAll_b39 {Δ : DT} {Γ : FT} {d : Nat} {a1 : Nat} {x2 : Int} (h_a1 : isArr 0 (lenA a1) a1) {x3 : Int} {M : MEM} : J (mo_layAll_b39 a1 x2 x3 M) (Sum.elim (HD_mo_layAll_b39 Δ Γ d a1 x2) (X_mo_layAll_b39 Δ Γ d a1 x2)) (WAt Δ Γ false m_mo_layAll d 39 [vR (278), vR (a1), vI (x2), vI (x3)] [] (NG, S0, M) 0 0) := by
  unfold mo_layAll_b39
  refine J.mono (fun k => w_iload_n rfl rfl (w_bipush rfl (bip_c rfl) k)) ?_
  refine J_ite (fun hc8 => ?_) (fun hc8 => ?_)
  · refine J.mono (fun k => s_icmp_ge_t rfl hc8 k) ?_
    exact J_some (fun k => w_forget (wk_d (wk_d (wk_d (wk_d wk_0)))) k)
  · refine J.mono (fun k => s_icmp_ge_f rfl hc8 (w_aload_n rfl rfl (w_iload_n rfl rfl (w_sipush rfl (sip_c rfl) (w_iadd rfl (w_iconst rfl (inR_c rfl) (w_iadd rfl (w_iload_n rfl rfl (w_iadd rfl (w_aload_n rfl rfl (w_getR (r := 282) rfl (Nat.le_of_ble_eq_true rfl) S_278 rfl (w_iload_n rfl rfl k)))))))))))) ?_
    refine J_chk (fun hi9 => ?_)
    refine J.mono (fun k => w_iald rfl A_282.1 A_282.2 hi9.1 hi9.2 k) ?_
    refine J_chk (fun hi11 => ?_)
    refine J_b ?_
    refine J.mono (fun k => w_iast rfl h_a1.1 h_a1.2 hi11.1 hi11.2 rfl (s_iinc3 rfl (Nat.le_of_ble_eq_true rfl) (w_goto rfl k))) ?_
    exact J_some (fun k => w_forget (wk_k (wk_k (wk_k (wk_k wk_0)))) k)
set_option maxRecDepth 20000 in
set_option maxHeartbeats 4000000 in
theorem Jl_mo_layAll_b39 {Δ : DT} {Γ : FT} {d : Nat} {a1 : Nat} {x2 : Int} (h_a1 : isArr 0 (lenA a1) a1)  : ∀ (n : Nat) (s : Int × MEM), J (iter (fun s => mo_layAll_b39 a1 x2 s.1 s.2) n s) (X_mo_layAll_b39 Δ Γ d a1 x2) (HD_mo_layAll_b39 Δ Γ d a1 x2 s) := J_iter (fun s => Jb_mo_layAll_b39 h_a1)
set_option maxRecDepth 20000 in
set_option maxHeartbeats 4000000 in
theorem J_mo_layAll {Δ : DT} {Γ : FT} {d : Nat} {a1 : Nat} {x2 : Int} (h_a1 : isArr 0 (lenA a1) a1) {M : MEM} : J (mo_layAll a1 x2 M) (K_M Δ Γ m_mo_layAll) (WAt Δ Γ false m_mo_layAll d 0 [vR (278), vR (a1), vI (x2), vN] [] (NG, S0, M) 0 0) := by
  unfold mo_layAll
  refine J.mono (fun k => w_iconst rfl (inR_c rfl) (s_istore3 rfl (Nat.le_of_ble_eq_true rfl) k)) ?_
  refine J.mono (fun k => w_forget (wk_k (wk_k (wk_k (wk_k wk_0)))) k) ?_
  refine J_loop (Jl_mo_layAll_b2 h_a1 _ _) (fun w5 => ?_)
  refine J.mono (fun k => w_aload_n rfl rfl (w_iload_n rfl rfl (w_sipush rfl (sip_c rfl) (w_iadd rfl (w_aload_n rfl rfl (w_getI rfl (Nat.le_of_ble_eq_true rfl) S_278 rfl k)))))) ?_
  refine J_chk (fun hi7 => ?_)
  refine J_b ?_
  refine J.mono (fun k => w_iast rfl h_a1.1 h_a1.2 hi7.1 hi7.2 rfl (w_iconst rfl (inR_c rfl) (s_istore3 rfl (Nat.le_of_ble_eq_true rfl) k))) ?_
  refine J.mono (fun k => w_forget (wk_k (wk_k (wk_k (wk_k wk_0)))) k) ?_
  refine J_loop (Jl_mo_layAll_b39 h_a1 _ _) (fun w12 => ?_)
  exact J_some (fun k => w_return rfl rfl k)
set_option maxRecDepth 20000 in
set_option maxHeartbeats 4000000 in
theorem cal_mo_layAll {Δ : DT} {d : Nat} (hd : 0 ≤ d) {a1 : Nat} {x2 : Int} (h_a1 : isArr 0 (lenA a1) a1) {M : MEM} {M1 : MEM} (h : mo_layAll a1 x2 M = some M1) (ho : okVs [vR 278, vR a1, vI x2]) (hM : okM M) : Cal Δ false m_mo_layAll d [vR 278, vR a1, vI x2] (NG, S0, M) none (NG, S0, M1) 0 0 := by
  exact cal_of g_mo_layAll p_mo_layAll (fun v hv => by simp only [List.mem_cons, List.not_mem_nil, or_false] at hv; rcases hv with rfl | rfl | rfl <;> first | exact Or.inl ⟨_, rfl⟩ | exact Or.inr ⟨_, rfl⟩) ho hM (Nat.le_of_ble_eq_true rfl) (fun Γ _ k => J_mo_layAll h_a1 _ h k)
set_option maxRecDepth 20000 in
set_option maxHeartbeats 4000000 in
theorem J_mo_layAside_j25 {Δ : DT} {Γ : FT} {d : Nat} (hd : 1 ≤ d + 1) {s1 : Int} {s2 : Int}  {M : MEM} : J (mo_layAside_j25 s1 s2 M) (K_M Δ Γ m_mo_layAside) (WAt Δ Γ false m_mo_layAside (d + 1) 25 [vN, vN] [vI (s2), vI (s1), vR (289)] (NG, S0, M) 0 0) := by
  unfold mo_layAside_j25
  refine J_chk (fun hi5 => ?_)
  refine J_b ?_
  refine J.mono (fun k => w_iast rfl A_289.1 A_289.2 hi5.1 hi5.2 rfl k) ?_
  exact J_some (fun k => w_return rfl rfl k)
set_option maxRecDepth 20000 in
set_option maxHeartbeats 4000000 in
theorem J_mo_layAside {Δ : DT} {Γ : FT} {d : Nat} (hd : 1 ≤ d + 1) {x1 : Int}  {M : MEM} : J (mo_layAside x1 M) (K_M Δ Γ m_mo_layAside) (WAt Δ Γ false m_mo_layAside (d + 1) 0 [vR (278), vI (x1)] [] (NG, S0, M) 0 0) := by
  unfold mo_layAside
  refine J.mono (fun k => w_aload_n rfl rfl (w_aload_n rfl rfl (w_getR (r := 289) rfl (Nat.le_of_ble_eq_true rfl) S_278 rfl (w_iconst rfl (inR_c rfl) k)))) ?_
  refine J_c (fun M2 e1 => ?_)
  refine J.mono (fun k => c_vv2 rfl (fun ho hM => cal_mo_layAll (by omega) (isArr_len A_289) e1 ho hM) v_mo_layAll (Nat.le_of_ble_eq_true rfl) S_278 rfl (Nat.le_of_ble_eq_true rfl) (w_aload_n rfl rfl (w_getR (r := 289) rfl (Nat.le_of_ble_eq_true rfl) S_278 rfl (w_sipush rfl (sip_c rfl) (w_iload_n rfl rfl k))))) ?_
  refine J_ite (fun hc3 => ?_) (fun hc3 => ?_)
  · refine J.mono (fun k => s_if_eq_t rfl hc3 (w_iconst rfl (inR_c rfl) k)) ?_
    exact J.mono (fun k => w_forget (wk_d (wk_d wk_0)) k) (J_mo_layAside_j25 hd )
  · refine J.mono (fun k => s_if_eq_f rfl hc3 (w_iconst rfl (inR_c rfl) (w_goto rfl k))) ?_
    exact J.mono (fun k => w_forget (wk_d (wk_d wk_0)) k) (J_mo_layAside_j25 hd )
set_option maxRecDepth 20000 in
set_option maxHeartbeats 4000000 in
theorem cal_mo_layAside {Δ : DT} {d : Nat} (hd : 1 ≤ d) {x1 : Int}  {M : MEM} {M1 : MEM} (h : mo_layAside x1 M = some M1) (ho : okVs [vR 278, vI x1]) (hM : okM M) : Cal Δ false m_mo_layAside d [vR 278, vI x1] (NG, S0, M) none (NG, S0, M1) 0 0 := by
  obtain ⟨d, rfl⟩ : ∃ e, d = e + 1 := ⟨d - 1, by omega⟩
  exact cal_of g_mo_layAside p_mo_layAside (fun v hv => by simp only [List.mem_cons, List.not_mem_nil, or_false] at hv; rcases hv with rfl | rfl <;> first | exact Or.inl ⟨_, rfl⟩ | exact Or.inr ⟨_, rfl⟩) ho hM (Nat.le_of_ble_eq_true rfl) (fun Γ _ k => J_mo_layAside hd  _ h k)
abbrev HD_mo_remember_b15 (Δ : DT) (Γ : FT) (d : Nat) (x1 : Int) (s : Int × MEM) : Prop := WAt Δ Γ false m_mo_remember d 15 [vR (278), vI (x1), vI (s.1)] [] (NG, S0, s.2) 0 0
abbrev X_mo_remember_b15 (Δ : DT) (Γ : FT) (d : Nat) (x1 : Int) (s : Int × MEM) : Prop := WAt Δ Γ false m_mo_remember d 43 [vR (278), vI (x1), vN] [] (NG, S0, s.2) 0 0
set_option maxRecDepth 20000 in
set_option maxHeartbeats 4000000 in
theorem Jb_mo_remember_b15 {Δ : DT} {Γ : FT} {d : Nat} {x1 : Int}  {x2 : Int} {M : MEM} : J (mo_remember_b15 x1 x2 M) (Sum.elim (HD_mo_remember_b15 Δ Γ d x1) (X_mo_remember_b15 Δ Γ d x1)) (WAt Δ Γ false m_mo_remember d 15 [vR (278), vI (x1), vI (x2)] [] (NG, S0, M) 0 0) := by
  unfold mo_remember_b15
  refine J.mono (fun k => w_iload_n rfl rfl (w_iload_n rfl rfl (w_bipush rfl (bip_c rfl) (w_imul rfl k)))) ?_
  refine J_ite (fun hc2 => ?_) (fun hc2 => ?_)
  · refine J.mono (fun k => s_icmp_ge_t rfl hc2 k) ?_
    exact J_some (fun k => w_forget (wk_k (wk_k (wk_d wk_0))) k)
  · refine J.mono (fun k => s_icmp_ge_f rfl hc2 (w_aload_n rfl rfl (w_getR (r := 288) rfl (Nat.le_of_ble_eq_true rfl) S_278 rfl (w_iload_n rfl rfl (w_aload_n rfl rfl (w_getR (r := 288) rfl (Nat.le_of_ble_eq_true rfl) S_278 rfl (w_iload_n rfl rfl (w_iload_n rfl rfl (w_iadd rfl k))))))))) ?_
    refine J_chk (fun hi3 => ?_)
    refine J.mono (fun k => w_iald rfl A_288.1 A_288.2 hi3.1 hi3.2 k) ?_
    refine J_chk (fun hi5 => ?_)
    refine J_b ?_
    refine J.mono (fun k => w_iast rfl A_288.1 A_288.2 hi5.1 hi5.2 rfl (s_iinc2 rfl (Nat.le_of_ble_eq_true rfl) (w_goto rfl k))) ?_
    exact J_some (fun k => w_forget (wk_k (wk_k (wk_k wk_0))) k)
set_option maxRecDepth 20000 in
set_option maxHeartbeats 4000000 in
theorem Jl_mo_remember_b15 {Δ : DT} {Γ : FT} {d : Nat} {x1 : Int}   : ∀ (n : Nat) (s : Int × MEM), J (iter (fun s => mo_remember_b15 x1 s.1 s.2) n s) (X_mo_remember_b15 Δ Γ d x1) (HD_mo_remember_b15 Δ Γ d x1 s) := J_iter (fun s => Jb_mo_remember_b15 )
abbrev HD_mo_remember_b55 (Δ : DT) (Γ : FT) (d : Nat) (x1 : Int) (s : Int × MEM) : Prop := WAt Δ Γ false m_mo_remember d 55 [vR (278), vI (x1), vI (s.1)] [] (NG, S0, s.2) 0 0
abbrev X_mo_remember_b55 (Δ : DT) (Γ : FT) (d : Nat) (x1 : Int) (s : Int × MEM) : Prop := WAt Δ Γ false m_mo_remember d 85 [vR (278), vN, vN] [] (NG, S0, s.2) 0 0
set_option maxRecDepth 20000 in
set_option maxHeartbeats 4000000 in
theorem Jb_mo_remember_b55 {Δ : DT} {Γ : FT} {d : Nat} {x1 : Int}  {x2 : Int} {M : MEM} : J (mo_remember_b55 x1 x2 M) (Sum.elim (HD_mo_remember_b55 Δ Γ d x1) (X_mo_remember_b55 Δ Γ d x1)) (WAt Δ Γ false m_mo_remember d 55 [vR (278), vI (x1), vI (x2)] [] (NG, S0, M) 0 0) := by
  unfold mo_remember_b55
  refine J.mono (fun k => w_iload_n rfl rfl (w_iload_n rfl rfl k)) ?_
  refine J_ite (fun hc8 => ?_) (fun hc8 => ?_)
  · refine J.mono (fun k => s_icmp_ge_t rfl hc8 k) ?_
    exact J_some (fun k => w_forget (wk_k (wk_d (wk_d wk_0))) k)
  · refine J.mono (fun k => s_icmp_ge_f rfl hc8 (w_aload_n rfl rfl (w_getR (r := 288) rfl (Nat.le_of_ble_eq_true rfl) S_278 rfl (w_iload_n rfl rfl (w_aload_n rfl rfl (w_getI rfl (Nat.le_of_ble_eq_true rfl) S_278 rfl (w_imul rfl (w_iload_n rfl rfl (w_iadd rfl (w_aload_n rfl rfl (w_getR (r := 289) rfl (Nat.le_of_ble_eq_true rfl) S_278 rfl (w_iload_n rfl rfl k)))))))))))) ?_
    refine J_chk (fun hi9 => ?_)
    refine J.mono (fun k => w_iald rfl A_289.1 A_289.2 hi9.1 hi9.2 k) ?_
    refine J_chk (fun hi11 => ?_)
    refine J_b ?_
    refine J.mono (fun k => w_iast rfl A_288.1 A_288.2 hi11.1 hi11.2 rfl (s_iinc2 rfl (Nat.le_of_ble_eq_true rfl) (w_goto rfl k))) ?_
    exact J_some (fun k => w_forget (wk_k (wk_k (wk_k wk_0))) k)
set_option maxRecDepth 20000 in
set_option maxHeartbeats 4000000 in
theorem Jl_mo_remember_b55 {Δ : DT} {Γ : FT} {d : Nat} {x1 : Int}   : ∀ (n : Nat) (s : Int × MEM), J (iter (fun s => mo_remember_b55 x1 s.1 s.2) n s) (X_mo_remember_b55 Δ Γ d x1) (HD_mo_remember_b55 Δ Γ d x1 s) := J_iter (fun s => Jb_mo_remember_b55 )
set_option maxRecDepth 20000 in
set_option maxHeartbeats 4000000 in
theorem J_mo_remember_j53 {Δ : DT} {Γ : FT} {d : Nat} {x1 : Int}  {M : MEM} : J (mo_remember_j53 x1 M) (K_M Δ Γ m_mo_remember) (WAt Δ Γ false m_mo_remember d 53 [vR (278), vI (x1), vN] [] (NG, S0, M) 0 0) := by
  unfold mo_remember_j53
  refine J.mono (fun k => w_iconst rfl (inR_c rfl) (s_istore2 rfl (Nat.le_of_ble_eq_true rfl) k)) ?_
  refine J.mono (fun k => w_forget (wk_k (wk_k (wk_k wk_0))) k) ?_
  refine J_loop (Jl_mo_remember_b55  _ _) (fun w12 => ?_)
  refine J.mono (fun k => w_aload_n rfl rfl (w_dup rfl (fun _ h => by cases h) (w_getI rfl (Nat.le_of_ble_eq_true rfl) S_278 rfl (w_iconst rfl (inR_c rfl) (w_iadd rfl k))))) ?_
  refine J_b ?_
  refine J.mono (fun k => w_putI rfl (Nat.le_of_ble_eq_true rfl) S_278 rfl rfl k) ?_
  exact J_some (fun k => w_return rfl rfl k)
set_option maxRecDepth 20000 in
set_option maxHeartbeats 4000000 in
theorem J_mo_remember {Δ : DT} {Γ : FT} {d : Nat}   {M : MEM} : J (mo_remember M) (K_M Δ Γ m_mo_remember) (WAt Δ Γ false m_mo_remember d 0 [vR (278), vN, vN] [] (NG, S0, M) 0 0) := by
  unfold mo_remember
  refine J.mono (fun k => w_sipush rfl (sip_c rfl) (s_istore1 rfl (Nat.le_of_ble_eq_true rfl) (w_aload_n rfl rfl (w_getI rfl (Nat.le_of_ble_eq_true rfl) S_278 rfl (w_bipush rfl (bip_c rfl) k))))) ?_
  refine J_ite (fun hc1 => ?_) (fun hc1 => ?_)
  · refine J.mono (fun k => s_icmp_ne_f rfl hc1 (w_iconst rfl (inR_c rfl) (s_istore2 rfl (Nat.le_of_ble_eq_true rfl) k))) ?_
    refine J.mono (fun k => w_forget (wk_k (wk_k (wk_k wk_0))) k) ?_
    refine J_loop (Jl_mo_remember_b15  _ _) (fun w6 => ?_)
    refine J.mono (fun k => w_aload_n rfl rfl (w_dup rfl (fun _ h => by cases h) (w_getI rfl (Nat.le_of_ble_eq_true rfl) S_278 rfl (w_iconst rfl (inR_c rfl) (w_isub rfl k))))) ?_
    refine J_b ?_
    refine J.mono (fun k => w_putI rfl (Nat.le_of_ble_eq_true rfl) S_278 rfl rfl k) ?_
    exact J.mono (fun k => w_forget (wk_k (wk_k (wk_d wk_0))) k) (J_mo_remember_j53 )
  · refine J.mono (fun k => s_icmp_ne_t rfl hc1 k) ?_
    exact J.mono (fun k => w_forget (wk_k (wk_k (wk_d wk_0))) k) (J_mo_remember_j53 )
set_option maxRecDepth 20000 in
set_option maxHeartbeats 4000000 in
theorem cal_mo_remember {Δ : DT} {d : Nat} (hd : 0 ≤ d)   {M : MEM} {M1 : MEM} (h : mo_remember M = some M1) (ho : okVs [vR 278]) (hM : okM M) : Cal Δ false m_mo_remember d [vR 278] (NG, S0, M) none (NG, S0, M1) 0 0 := by
  exact cal_of g_mo_remember p_mo_remember (fun v hv => by simp only [List.mem_cons, List.not_mem_nil, or_false] at hv; rcases hv with rfl <;> first | exact Or.inl ⟨_, rfl⟩ | exact Or.inr ⟨_, rfl⟩) ho hM (Nat.le_of_ble_eq_true rfl) (fun Γ _ k => J_mo_remember  _ h k)
set_option maxRecDepth 20000 in
set_option maxHeartbeats 4000000 in
theorem J_mo_tell {Δ : DT} {Γ : FT} {d : Nat} {x1 : Int}  {M : MEM} : J (mo_tell x1 M) (K_M Δ Γ m_mo_tell) (WAt Δ Γ false m_mo_tell d 0 [vR (278), vI (x1)] [] (NG, S0, M) 0 0) := by
  unfold mo_tell
  refine J.mono (fun k => w_aload_n rfl rfl (w_getR (r := 284) rfl (Nat.le_of_ble_eq_true rfl) S_278 rfl (w_aload_n rfl rfl (w_getI rfl (Nat.le_of_ble_eq_true rfl) S_278 rfl (w_iload_n rfl rfl k))))) ?_
  refine J_chk (fun hi2 => ?_)
  refine J_b ?_
  refine J.mono (fun k => w_iast rfl A_284.1 A_284.2 hi2.1 hi2.2 rfl (w_aload_n rfl rfl (w_dup rfl (fun _ h => by cases h) (w_getI rfl (Nat.le_of_ble_eq_true rfl) S_278 rfl (w_iconst rfl (inR_c rfl) (w_iadd rfl k)))))) ?_
  refine J_b ?_
  refine J.mono (fun k => w_putI rfl (Nat.le_of_ble_eq_true rfl) S_278 rfl rfl k) ?_
  exact J_some (fun k => w_return rfl rfl k)
set_option maxRecDepth 20000 in
set_option maxHeartbeats 4000000 in
theorem cal_mo_tell {Δ : DT} {d : Nat} (hd : 0 ≤ d) {x1 : Int}  {M : MEM} {M1 : MEM} (h : mo_tell x1 M = some M1) (ho : okVs [vR 278, vI x1]) (hM : okM M) : Cal Δ false m_mo_tell d [vR 278, vI x1] (NG, S0, M) none (NG, S0, M1) 0 0 := by
  exact cal_of g_mo_tell p_mo_tell (fun v hv => by simp only [List.mem_cons, List.not_mem_nil, or_false] at hv; rcases hv with rfl | rfl <;> first | exact Or.inl ⟨_, rfl⟩ | exact Or.inr ⟨_, rfl⟩) ho hM (Nat.le_of_ble_eq_true rfl) (fun Γ _ k => J_mo_tell  _ h k)
set_option maxRecDepth 20000 in
set_option maxHeartbeats 4000000 in
theorem J_mo_minute {Δ : DT} {Γ : FT} {d : Nat} (hd : 76 ≤ d + 1)   {M : MEM} : J (mo_minute M) (K_IM Δ Γ m_mo_minute) (WAt Δ Γ false m_mo_minute (d + 1) 0 [vR (278)] [] (NG, S0, M) 0 0) := by
  unfold mo_minute
  refine J.mono (fun k => w_aload_n rfl rfl (w_iconst rfl (inR_c rfl) k)) ?_
  refine J_b ?_
  refine J.mono (fun k => w_putI rfl (Nat.le_of_ble_eq_true rfl) S_278 rfl rfl (w_aload_n rfl rfl (w_iconst rfl (inR_c rfl) k))) ?_
  refine J_c (fun M3 e2 => ?_)
  refine J.mono (fun k => c_vv1 rfl (fun ho hM => cal_mo_layAside (by omega)  e2 ho hM) v_mo_layAside (Nat.le_of_ble_eq_true rfl) S_278 rfl (Nat.le_of_ble_eq_true rfl) (w_aload_n rfl rfl k)) ?_
  refine J_c (fun M5 e4 => ?_)
  refine J.mono (fun k => c_vv0 rfl (fun ho hM => cal_mo_remember (by omega)  e4 ho hM) v_mo_remember (Nat.le_of_ble_eq_true rfl) S_278 rfl (Nat.le_of_ble_eq_true rfl) (w_aload_n rfl rfl (w_aload_n rfl rfl (w_getR (r := 279) rfl (Nat.le_of_ble_eq_true rfl) S_278 rfl k)))) ?_
  refine J_c (fun M7 e6 => ?_)
  refine J.mono (fun k => c_vv1 rfl (fun ho hM => cal_mo_goMinute (by omega) (isArr_len A_279) e6 ho hM) v_mo_goMinute (Nat.le_of_ble_eq_true rfl) S_278 rfl (Nat.le_of_ble_eq_true rfl) (w_aload_n rfl rfl (w_iconst rfl (inR_c rfl) k))) ?_
  refine J_b ?_
  refine J.mono (fun k => w_putI rfl (Nat.le_of_ble_eq_true rfl) S_278 rfl rfl (w_aload_n rfl rfl (w_aload_n rfl rfl (w_getI rfl (Nat.le_of_ble_eq_true rfl) S_278 rfl k)))) ?_
  refine J_c (fun M10 e9 => ?_)
  refine J.mono (fun k => c_vv1 rfl (fun ho hM => cal_mo_tell (by omega)  e9 ho hM) v_mo_tell (Nat.le_of_ble_eq_true rfl) S_278 rfl (Nat.le_of_ble_eq_true rfl) (w_aload_n rfl rfl (w_aload_n rfl rfl (w_getI rfl (Nat.le_of_ble_eq_true rfl) S_278 rfl k)))) ?_
  refine J_c (fun M12 e11 => ?_)
  refine J.mono (fun k => c_vv1 rfl (fun ho hM => cal_mo_tell (by omega)  e11 ho hM) v_mo_tell (Nat.le_of_ble_eq_true rfl) S_278 rfl (Nat.le_of_ble_eq_true rfl) (w_aload_n rfl rfl (w_getI rfl (Nat.le_of_ble_eq_true rfl) S_278 rfl k))) ?_
  exact J_some (fun k => w_ireturn rfl rfl k)
set_option maxRecDepth 20000 in
set_option maxHeartbeats 4000000 in
theorem cal_mo_minute {Δ : DT} {d : Nat} (hd : 76 ≤ d)   {M : MEM} {p : Int × MEM} (h : mo_minute M = some p) (ho : okVs [vR 278]) (hM : okM M) : Cal Δ false m_mo_minute d [vR 278] (NG, S0, M) (some p.1) (NG, S0, p.2) 0 0 := by
  obtain ⟨d, rfl⟩ : ∃ e, d = e + 1 := ⟨d - 1, by omega⟩
  exact cal_of g_mo_minute p_mo_minute (fun v hv => by simp only [List.mem_cons, List.not_mem_nil, or_false] at hv; rcases hv with rfl <;> first | exact Or.inl ⟨_, rfl⟩ | exact Or.inr ⟨_, rfl⟩) ho hM (Nat.le_of_ble_eq_true rfl) (fun Γ _ k => J_mo_minute hd  _ h k)
set_option maxRecDepth 20000 in
set_option maxHeartbeats 4000000 in
theorem J_ji_bitCount {Δ : DT} {Γ : FT} {d : Nat} {x0 : Int}  {M : MEM} : J (some (ji_bitCount x0)) (K_I Δ Γ m_ji_bitCount M) (WAt Δ Γ false m_ji_bitCount d 0 [vI (x0)] [] (NG, S0, M) 0 0) := by
  unfold ji_bitCount
  refine J.mono (fun k => w_iload_n rfl rfl (w_iload_n rfl rfl (w_iconst rfl (inR_c rfl) (w_iushr rfl (w_ldcw rfl (inR_c rfl) (w_iand rfl (w_isub rfl (s_istore0 rfl (Nat.le_of_ble_eq_true rfl) (w_iload_n rfl rfl (w_ldcw rfl (inR_c rfl) (w_iand rfl (w_iload_n rfl rfl (w_iconst rfl (inR_c rfl) (w_iushr rfl (w_ldcw rfl (inR_c rfl) (w_iand rfl (w_iadd rfl (s_istore0 rfl (Nat.le_of_ble_eq_true rfl) (w_iload_n rfl rfl (w_iload_n rfl rfl (w_iconst rfl (inR_c rfl) (w_iushr rfl (w_iadd rfl (w_ldcw rfl (inR_c rfl) (w_iand rfl (s_istore0 rfl (Nat.le_of_ble_eq_true rfl) (w_iload_n rfl rfl (w_iload_n rfl rfl (w_bipush rfl (bip_c rfl) (w_iushr rfl (w_iadd rfl (s_istore0 rfl (Nat.le_of_ble_eq_true rfl) (w_iload_n rfl rfl (w_iload_n rfl rfl (w_bipush rfl (bip_c rfl) (w_iushr rfl (w_iadd rfl (s_istore0 rfl (Nat.le_of_ble_eq_true rfl) (w_iload_n rfl rfl (w_bipush rfl (bip_c rfl) (w_iand rfl k))))))))))))))))))))))))))))))))))))))))) ?_
  exact J_some (fun k => w_ireturn rfl rfl k)
set_option maxRecDepth 20000 in
set_option maxHeartbeats 4000000 in
theorem cal_ji_bitCount {Δ : DT} {d : Nat} (hd : 0 ≤ d) {x0 : Int}  {M : MEM} (ho : okVs [vI x0]) (hM : okM M) : Cal Δ false m_ji_bitCount d [vI x0] (NG, S0, M) (some (ji_bitCount x0)) (NG, S0, M) 0 0 := by
  exact cal_of g_ji_bitCount p_ji_bitCount (fun v hv => by simp only [List.mem_cons, List.not_mem_nil, or_false] at hv; rcases hv with rfl <;> first | exact Or.inl ⟨_, rfl⟩ | exact Or.inr ⟨_, rfl⟩) ho hM (Nat.le_of_ble_eq_true rfl) (fun Γ _ k => J_ji_bitCount  _ rfl k)
abbrev HD_mo_minutes_b38 (Δ : DT) (Γ : FT) (d : Nat) (x1 : Int) (x2 : Int) (x3 : Int) (s : Int × MEM) : Prop := WAt Δ Γ false m_mo_minutes (d + 1) 38 [vR (278), vI (x1), vI (x2), vI (x3), vI (s.1), vN] [] (NG, S0, s.2) 0 0
abbrev X_mo_minutes_b38 (Δ : DT) (Γ : FT) (d : Nat) (x1 : Int) (x2 : Int) (x3 : Int) (s : Int × MEM) : Prop := WAt Δ Γ false m_mo_minutes (d + 1) 58 [vR (278), vI (x1), vI (x2), vI (x3), vN, vN] [] (NG, S0, s.2) 0 0
set_option maxRecDepth 20000 in
set_option maxHeartbeats 4000000 in
theorem Jb_mo_minutes_b38 {Δ : DT} {Γ : FT} {d : Nat} (hd : 76 ≤ d + 1) {x1 : Int} {x2 : Int} {x3 : Int}  {x4 : Int} {M : MEM} : J (mo_minutes_b38 x1 x2 x3 x4 M) (Sum.elim (HD_mo_minutes_b38 Δ Γ d x1 x2 x3) (X_mo_minutes_b38 Δ Γ d x1 x2 x3)) (WAt Δ Γ false m_mo_minutes (d + 1) 38 [vR (278), vI (x1), vI (x2), vI (x3), vI (x4), vN] [] (NG, S0, M) 0 0) := by
  unfold mo_minutes_b38
  refine J.mono (fun k => w_iload rfl rfl (w_iconst rfl (inR_c rfl) k)) ?_
  refine J_ite (fun hc7 => ?_) (fun hc7 => ?_)
  · refine J.mono (fun k => s_icmp_ge_t rfl hc7 k) ?_
    exact J_some (fun k => w_forget (wk_k (wk_k (wk_k (wk_k (wk_d (wk_d wk_0)))))) k)
  · refine J.mono (fun k => s_icmp_ge_f rfl hc7 (w_aload_n rfl rfl (w_getR (r := 290) rfl (Nat.le_of_ble_eq_true rfl) S_278 rfl (w_iload rfl rfl (w_iconst rfl (inR_c rfl) k))))) ?_
    refine J_chk (fun hi9 => ?_)
    refine J_b ?_
    refine J.mono (fun k => w_iast rfl A_290.1 A_290.2 hi9.1 hi9.2 rfl (s_iinc4 rfl (Nat.le_of_ble_eq_true rfl) (w_goto rfl k))) ?_
    exact J_some (fun k => w_forget (wk_k (wk_k (wk_k (wk_k (wk_k (wk_d wk_0)))))) k)
set_option maxRecDepth 20000 in
set_option maxHeartbeats 4000000 in
theorem Jl_mo_minutes_b38 {Δ : DT} {Γ : FT} {d : Nat} (hd : 76 ≤ d + 1) {x1 : Int} {x2 : Int} {x3 : Int}   : ∀ (n : Nat) (s : Int × MEM), J (iter (fun s => mo_minutes_b38 x1 x2 x3 s.1 s.2) n s) (X_mo_minutes_b38 Δ Γ d x1 x2 x3) (HD_mo_minutes_b38 Δ Γ d x1 x2 x3 s) := J_iter (fun s => Jb_mo_minutes_b38 hd )
abbrev HD_mo_minutes_b61 (Δ : DT) (Γ : FT) (d : Nat) (x1 : Int) (s : Int × Int × Int × MEM) : Prop := WAt Δ Γ false m_mo_minutes (d + 1) 61 [vR (278), vI (x1), vI (s.1), vI (s.2.1), vI (s.2.2.1), vN] [] (NG, S0, s.2.2.2) 0 0
abbrev X_mo_minutes_b61 (Δ : DT) (Γ : FT) (d : Nat) (x1 : Int) (s : Int × Int × Int × MEM) : Prop := WAt Δ Γ false m_mo_minutes (d + 1) 133 [vR (278), vN, vI (s.1), vI (s.2.1), vN, vN] [] (NG, S0, s.2.2.2) 0 0
abbrev HD_mo_minutes_b95 (Δ : DT) (Γ : FT) (d : Nat) (x1 : Int) (x2 : Int) (x3 : Int) (x4 : Int) (s : Int × MEM) : Prop := WAt Δ Γ false m_mo_minutes (d + 1) 95 [vR (278), vI (x1), vI (x2), vI (x3), vI (x4), vI (s.1)] [] (NG, S0, s.2) 0 0
abbrev X_mo_minutes_b95 (Δ : DT) (Γ : FT) (d : Nat) (x1 : Int) (x2 : Int) (x3 : Int) (x4 : Int) (s : Int × MEM) : Prop := WAt Δ Γ false m_mo_minutes (d + 1) 127 [vR (278), vI (x1), vI (x2), vI (x3), vI (x4), vN] [] (NG, S0, s.2) 0 0
set_option maxRecDepth 20000 in
set_option maxHeartbeats 4000000 in
theorem Jb_mo_minutes_b95 {Δ : DT} {Γ : FT} {d : Nat} (hd : 76 ≤ d + 1) {x1 : Int} {x2 : Int} {x3 : Int} {x4 : Int}  {x5 : Int} {M : MEM} : J (mo_minutes_b95 x1 x2 x3 x4 x5 M) (Sum.elim (HD_mo_minutes_b95 Δ Γ d x1 x2 x3 x4) (X_mo_minutes_b95 Δ Γ d x1 x2 x3 x4)) (WAt Δ Γ false m_mo_minutes (d + 1) 95 [vR (278), vI (x1), vI (x2), vI (x3), vI (x4), vI (x5)] [] (NG, S0, M) 0 0) := by
  unfold mo_minutes_b95
  refine J.mono (fun k => w_iload rfl rfl (w_aload_n rfl rfl (w_getI rfl (Nat.le_of_ble_eq_true rfl) S_278 rfl k))) ?_
  refine J_ite (fun hc17 => ?_) (fun hc17 => ?_)
  · refine J.mono (fun k => s_icmp_ge_t rfl hc17 k) ?_
    exact J_some (fun k => w_forget (wk_k (wk_k (wk_k (wk_k (wk_k (wk_d wk_0)))))) k)
  · refine J.mono (fun k => s_icmp_ge_f rfl hc17 (w_aload_n rfl rfl (w_getR (r := 290) rfl (Nat.le_of_ble_eq_true rfl) S_278 rfl (w_iload rfl rfl (w_dup2 rfl (fun _ h => by cases h) (fun _ h => by cases h) k))))) ?_
    refine J_chk (fun hi18 => ?_)
    refine J.mono (fun k => w_iald rfl A_290.1 A_290.2 hi18.1 hi18.2 (w_aload_n rfl rfl (w_getR (r := 287) rfl (Nat.le_of_ble_eq_true rfl) S_278 rfl (w_iload rfl rfl k)))) ?_
    refine J_chk (fun hi19 => ?_)
    refine J.mono (fun k => w_iald rfl A_287.1 A_287.2 hi19.1 hi19.2 (w_iadd rfl k)) ?_
    refine J_chk (fun hi21 => ?_)
    refine J_b ?_
    refine J.mono (fun k => w_iast rfl A_290.1 A_290.2 hi21.1 hi21.2 rfl (s_iinc5 rfl (Nat.le_of_ble_eq_true rfl) (w_goto rfl k))) ?_
    exact J_some (fun k => w_forget (wk_k (wk_k (wk_k (wk_k (wk_k (wk_k wk_0)))))) k)
set_option maxRecDepth 20000 in
set_option maxHeartbeats 4000000 in
theorem Jl_mo_minutes_b95 {Δ : DT} {Γ : FT} {d : Nat} (hd : 76 ≤ d + 1) {x1 : Int} {x2 : Int} {x3 : Int} {x4 : Int}   : ∀ (n : Nat) (s : Int × MEM), J (iter (fun s => mo_minutes_b95 x1 x2 x3 x4 s.1 s.2) n s) (X_mo_minutes_b95 Δ Γ d x1 x2 x3 x4) (HD_mo_minutes_b95 Δ Γ d x1 x2 x3 x4 s) := J_iter (fun s => Jb_mo_minutes_b95 hd )
set_option maxRecDepth 20000 in
set_option maxHeartbeats 4000000 in
theorem Jb_mo_minutes_b61 {Δ : DT} {Γ : FT} {d : Nat} (hd : 76 ≤ d + 1) {x1 : Int}  {x2 : Int} {x3 : Int} {x4 : Int} {M : MEM} : J (mo_minutes_b61 x1 x2 x3 x4 M) (Sum.elim (HD_mo_minutes_b61 Δ Γ d x1) (X_mo_minutes_b61 Δ Γ d x1)) (WAt Δ Γ false m_mo_minutes (d + 1) 61 [vR (278), vI (x1), vI (x2), vI (x3), vI (x4), vN] [] (NG, S0, M) 0 0) := by
  unfold mo_minutes_b61
  refine J.mono (fun k => w_iload rfl rfl (w_iload_n rfl rfl k)) ?_
  refine J_ite (fun hc11 => ?_) (fun hc11 => ?_)
  · refine J.mono (fun k => s_icmp_ge_t rfl hc11 k) ?_
    exact J_some (fun k => w_forget (wk_k (wk_d (wk_k (wk_k (wk_d (wk_d wk_0)))))) k)
  · refine J.mono (fun k => s_icmp_ge_f rfl hc11 (w_aload_n rfl rfl (w_aload_n rfl rfl (w_getR (r := 279) rfl (Nat.le_of_ble_eq_true rfl) S_278 rfl k)))) ?_
    refine J_c (fun M13 e12 => ?_)
    refine J.mono (fun k => c_vv1 rfl (fun ho hM => cal_mo_goMinute (by omega) (isArr_len A_279) e12 ho hM) v_mo_goMinute (Nat.le_of_ble_eq_true rfl) S_278 rfl (Nat.le_of_ble_eq_true rfl) (w_iload_n rfl rfl (w_aload_n rfl rfl (w_getI rfl (Nat.le_of_ble_eq_true rfl) S_278 rfl (w_iadd rfl (s_istore2 rfl (Nat.le_of_ble_eq_true rfl) (w_iload_n rfl rfl (w_aload_n rfl rfl (w_getI rfl (Nat.le_of_ble_eq_true rfl) S_278 rfl k))))))))) ?_
    refine J_hyp (fun k => c_si1 rfl rfl (fun ho hM => cal_ji_bitCount (by omega)   ho hM) v_ji_bitCount (Nat.le_of_ble_eq_true rfl) k) (fun hr15 hb16 => ?_)
    refine J.mono (fun k => w_iadd rfl (s_istore3 rfl (Nat.le_of_ble_eq_true rfl) (w_iconst rfl (inR_c rfl) (s_istore5 rfl (Nat.le_of_ble_eq_true rfl) k)))) ?_
    refine J.mono (fun k => w_forget (wk_k (wk_k (wk_k (wk_k (wk_k (wk_k wk_0)))))) k) ?_
    refine J_loop (Jl_mo_minutes_b95 hd  _ _) (fun w22 => ?_)
    refine J.mono (fun k => s_iinc4 rfl (Nat.le_of_ble_eq_true rfl) (w_goto rfl k)) ?_
    exact J_some (fun k => w_forget (wk_k (wk_k (wk_k (wk_k (wk_k (wk_d wk_0)))))) k)
set_option maxRecDepth 20000 in
set_option maxHeartbeats 4000000 in
theorem Jl_mo_minutes_b61 {Δ : DT} {Γ : FT} {d : Nat} (hd : 76 ≤ d + 1) {x1 : Int}   : ∀ (n : Nat) (s : Int × Int × Int × MEM), J (iter (fun s => mo_minutes_b61 x1 s.1 s.2.1 s.2.2.1 s.2.2.2) n s) (X_mo_minutes_b61 Δ Γ d x1) (HD_mo_minutes_b61 Δ Γ d x1 s) := J_iter (fun s => Jb_mo_minutes_b61 hd )
abbrev HD_mo_minutes_b146 (Δ : DT) (Γ : FT) (d : Nat) (x2 : Int) (s : Int × MEM) : Prop := WAt Δ Γ false m_mo_minutes (d + 1) 146 [vR (278), vN, vI (x2), vN, vI (s.1), vN] [] (NG, S0, s.2) 0 0
abbrev X_mo_minutes_b146 (Δ : DT) (Γ : FT) (d : Nat) (x2 : Int) (s : Int × MEM) : Prop := WAt Δ Γ false m_mo_minutes (d + 1) 172 [vN, vN, vI (x2), vN, vN, vN] [] (NG, S0, s.2) 0 0
set_option maxRecDepth 20000 in
set_option maxHeartbeats 4000000 in
theorem Jb_mo_minutes_b146 {Δ : DT} {Γ : FT} {d : Nat} (hd : 76 ≤ d + 1) {x2 : Int}  {x4 : Int} {M : MEM} : J (mo_minutes_b146 x2 x4 M) (Sum.elim (HD_mo_minutes_b146 Δ Γ d x2) (X_mo_minutes_b146 Δ Γ d x2)) (WAt Δ Γ false m_mo_minutes (d + 1) 146 [vR (278), vN, vI (x2), vN, vI (x4), vN] [] (NG, S0, M) 0 0) := by
  unfold mo_minutes_b146
  refine J.mono (fun k => w_iload rfl rfl (w_aload_n rfl rfl (w_getI rfl (Nat.le_of_ble_eq_true rfl) S_278 rfl k))) ?_
  refine J_ite (fun hc27 => ?_) (fun hc27 => ?_)
  · refine J.mono (fun k => s_icmp_ge_t rfl hc27 k) ?_
    exact J_some (fun k => w_forget (wk_d (wk_d (wk_k (wk_d (wk_d (wk_d wk_0)))))) k)
  · refine J.mono (fun k => s_icmp_ge_f rfl hc27 (w_aload_n rfl rfl (w_aload_n rfl rfl (w_getR (r := 290) rfl (Nat.le_of_ble_eq_true rfl) S_278 rfl (w_iload rfl rfl k))))) ?_
    refine J_chk (fun hi28 => ?_)
    refine J.mono (fun k => w_iald rfl A_290.1 A_290.2 hi28.1 hi28.2 k) ?_
    refine J_c (fun M30 e29 => ?_)
    refine J.mono (fun k => c_vv1 rfl (fun ho hM => cal_mo_tell (by omega)  e29 ho hM) v_mo_tell (Nat.le_of_ble_eq_true rfl) S_278 rfl (Nat.le_of_ble_eq_true rfl) (s_iinc4 rfl (Nat.le_of_ble_eq_true rfl) (w_goto rfl k))) ?_
    exact J_some (fun k => w_forget (wk_k (wk_d (wk_k (wk_d (wk_k (wk_d wk_0)))))) k)
set_option maxRecDepth 20000 in
set_option maxHeartbeats 4000000 in
theorem Jl_mo_minutes_b146 {Δ : DT} {Γ : FT} {d : Nat} (hd : 76 ≤ d + 1) {x2 : Int}   : ∀ (n : Nat) (s : Int × MEM), J (iter (fun s => mo_minutes_b146 x2 s.1 s.2) n s) (X_mo_minutes_b146 Δ Γ d x2) (HD_mo_minutes_b146 Δ Γ d x2 s) := J_iter (fun s => Jb_mo_minutes_b146 hd )
set_option maxRecDepth 20000 in
set_option maxHeartbeats 4000000 in
theorem J_mo_minutes_j31 {Δ : DT} {Γ : FT} {d : Nat} (hd : 76 ≤ d + 1) {x1 : Int}  {M : MEM} : J (mo_minutes_j31 x1 M) (K_IM Δ Γ m_mo_minutes) (WAt Δ Γ false m_mo_minutes (d + 1) 31 [vR (278), vI (x1), vN, vN, vN, vN] [] (NG, S0, M) 0 0) := by
  unfold mo_minutes_j31
  refine J.mono (fun k => w_iconst rfl (inR_c rfl) (s_istore2 rfl (Nat.le_of_ble_eq_true rfl) (w_iconst rfl (inR_c rfl) (s_istore3 rfl (Nat.le_of_ble_eq_true rfl) (w_iconst rfl (inR_c rfl) (s_istore4 rfl (Nat.le_of_ble_eq_true rfl) k)))))) ?_
  refine J.mono (fun k => w_forget (wk_k (wk_k (wk_k (wk_k (wk_k (wk_d wk_0)))))) k) ?_
  refine J_loop (Jl_mo_minutes_b38 hd  _ _) (fun w10 => ?_)
  refine J.mono (fun k => w_iconst rfl (inR_c rfl) (s_istore4 rfl (Nat.le_of_ble_eq_true rfl) k)) ?_
  refine J.mono (fun k => w_forget (wk_k (wk_k (wk_k (wk_k (wk_k (wk_d wk_0)))))) k) ?_
  refine J_loop (Jl_mo_minutes_b61 hd  _ _) (fun w23 => ?_)
  refine J.mono (fun k => w_aload_n rfl rfl (w_iconst rfl (inR_c rfl) k)) ?_
  refine J_b ?_
  refine J.mono (fun k => w_putI rfl (Nat.le_of_ble_eq_true rfl) S_278 rfl rfl (w_aload_n rfl rfl (w_iload_n rfl rfl k))) ?_
  refine J_c (fun M26 e25 => ?_)
  refine J.mono (fun k => c_vv1 rfl (fun ho hM => cal_mo_tell (by omega)  e25 ho hM) v_mo_tell (Nat.le_of_ble_eq_true rfl) S_278 rfl (Nat.le_of_ble_eq_true rfl) (w_iconst rfl (inR_c rfl) (s_istore4 rfl (Nat.le_of_ble_eq_true rfl) k))) ?_
  refine J.mono (fun k => w_forget (wk_k (wk_d (wk_k (wk_d (wk_k (wk_d wk_0)))))) k) ?_
  refine J_loop (Jl_mo_minutes_b146 hd  _ _) (fun w31 => ?_)
  refine J.mono (fun k => w_iload_n rfl rfl k) ?_
  exact J_some (fun k => w_ireturn rfl rfl k)
set_option maxRecDepth 20000 in
set_option maxHeartbeats 4000000 in
theorem J_mo_minutes {Δ : DT} {Γ : FT} {d : Nat} (hd : 76 ≤ d + 1) {x1 : Int}  {M : MEM} : J (mo_minutes x1 M) (K_IM Δ Γ m_mo_minutes) (WAt Δ Γ false m_mo_minutes (d + 1) 0 [vR (278), vI (x1), vN, vN, vN, vN] [] (NG, S0, M) 0 0) := by
  unfold mo_minutes
  refine J.mono (fun k => w_aload_n rfl rfl (w_iconst rfl (inR_c rfl) k)) ?_
  refine J_b ?_
  refine J.mono (fun k => w_putI rfl (Nat.le_of_ble_eq_true rfl) S_278 rfl rfl (w_iload_n rfl rfl (w_iconst rfl (inR_c rfl) (w_sipush rfl (sip_c rfl) k)))) ?_
  refine J_hyp (fun k => c_si3 rfl rfl (fun ho hM => cal_mo_in (by omega)   ho hM) v_mo_in (Nat.le_of_ble_eq_true rfl) k) (fun hr3 hb4 => ?_)
  refine J_ite (fun hc5 => ?_) (fun hc5 => ?_)
  · refine J.mono (fun k => s_if_ne_f rfl hc5 (w_iconst rfl (inR_c rfl) k)) ?_
    exact J_some (fun k => w_ireturn rfl rfl k)
  · refine J.mono (fun k => s_if_ne_t rfl hc5 (w_iload_n rfl rfl k)) ?_
    refine J_ite (fun hc6 => ?_) (fun hc6 => ?_)
    · refine J.mono (fun k => s_if_le_t rfl hc6 k) ?_
      exact J.mono (fun k => w_forget (wk_k (wk_k (wk_d (wk_d (wk_d (wk_d wk_0)))))) k) (J_mo_minutes_j31 hd )
    · refine J.mono (fun k => s_if_le_f rfl hc6 (w_aload_n rfl rfl (w_iconst rfl (inR_c rfl) k))) ?_
      refine J_c (fun M33 e32 => ?_)
      refine J.mono (fun k => c_vv1 rfl (fun ho hM => cal_mo_layAside (by omega)  e32 ho hM) v_mo_layAside (Nat.le_of_ble_eq_true rfl) S_278 rfl (Nat.le_of_ble_eq_true rfl) (w_aload_n rfl rfl k)) ?_
      refine J_c (fun M35 e34 => ?_)
      refine J.mono (fun k => c_vv0 rfl (fun ho hM => cal_mo_remember (by omega)  e34 ho hM) v_mo_remember (Nat.le_of_ble_eq_true rfl) S_278 rfl (Nat.le_of_ble_eq_true rfl) k) ?_
      exact J.mono (fun k => w_forget (wk_k (wk_k (wk_d (wk_d (wk_d (wk_d wk_0)))))) k) (J_mo_minutes_j31 hd )
set_option maxRecDepth 20000 in
set_option maxHeartbeats 4000000 in
theorem cal_mo_minutes {Δ : DT} {d : Nat} (hd : 76 ≤ d) {x1 : Int}  {M : MEM} {p : Int × MEM} (h : mo_minutes x1 M = some p) (ho : okVs [vR 278, vI x1]) (hM : okM M) : Cal Δ false m_mo_minutes d [vR 278, vI x1] (NG, S0, M) (some p.1) (NG, S0, p.2) 0 0 := by
  obtain ⟨d, rfl⟩ : ∃ e, d = e + 1 := ⟨d - 1, by omega⟩
  exact cal_of g_mo_minutes p_mo_minutes (fun v hv => by simp only [List.mem_cons, List.not_mem_nil, or_false] at hv; rcases hv with rfl | rfl <;> first | exact Or.inl ⟨_, rfl⟩ | exact Or.inr ⟨_, rfl⟩) ho hM (Nat.le_of_ble_eq_true rfl) (fun Γ _ k => J_mo_minutes hd  _ h k)
abbrev HD_mo_act_b80 (Δ : DT) (Γ : FT) (d : Nat) (x2 : Int) (s : Int × MEM) : Prop := WAt Δ Γ false m_mo_act (d + 1) 80 [vR (278), vN, vI (x2), vN, vN, vI (s.1)] [] (NG, S0, s.2) 0 0
abbrev X_mo_act_b80 (Δ : DT) (Γ : FT) (d : Nat) (x2 : Int) (s : Int × MEM) : Prop := WAt Δ Γ false m_mo_act (d + 1) 113 [vN, vN, vN, vN, vN, vN] [] (NG, S0, s.2) 0 0
set_option maxRecDepth 20000 in
set_option maxHeartbeats 4000000 in
theorem Jb_mo_act_b80 {Δ : DT} {Γ : FT} {d : Nat} (hd : 76 ≤ d + 1) {x2 : Int}  {x5 : Int} {M : MEM} : J (mo_act_b80 x2 x5 M) (Sum.elim (HD_mo_act_b80 Δ Γ d x2) (X_mo_act_b80 Δ Γ d x2)) (WAt Δ Γ false m_mo_act (d + 1) 80 [vR (278), vN, vI (x2), vN, vN, vI (x5)] [] (NG, S0, M) 0 0) := by
  unfold mo_act_b80
  refine J.mono (fun k => w_iload rfl rfl (w_iload_n rfl rfl k)) ?_
  refine J_ite (fun hc14 => ?_) (fun hc14 => ?_)
  · refine J.mono (fun k => s_icmp_ge_t rfl hc14 k) ?_
    exact J_some (fun k => w_forget (wk_d (wk_d (wk_d (wk_d (wk_d (wk_d wk_0)))))) k)
  · refine J.mono (fun k => s_icmp_ge_f rfl hc14 (w_aload_n rfl rfl (w_aload_n rfl rfl (w_getR (r := 279) rfl (Nat.le_of_ble_eq_true rfl) S_278 rfl k)))) ?_
    refine J_c (fun M16 e15 => ?_)
    refine J.mono (fun k => c_vv1 rfl (fun ho hM => cal_mo_goMinute (by omega) (isArr_len A_279) e15 ho hM) v_mo_goMinute (Nat.le_of_ble_eq_true rfl) S_278 rfl (Nat.le_of_ble_eq_true rfl) (w_aload_n rfl rfl (w_dup rfl (fun _ h => by cases h) (w_getI rfl (Nat.le_of_ble_eq_true rfl) S_278 rfl (w_aload_n rfl rfl (w_getI rfl (Nat.le_of_ble_eq_true rfl) S_278 rfl (w_iadd rfl k))))))) ?_
    refine J_b ?_
    refine J.mono (fun k => w_putI rfl (Nat.le_of_ble_eq_true rfl) S_278 rfl rfl (s_iinc5 rfl (Nat.le_of_ble_eq_true rfl) (w_goto rfl k))) ?_
    exact J_some (fun k => w_forget (wk_k (wk_d (wk_k (wk_d (wk_d (wk_k wk_0)))))) k)
set_option maxRecDepth 20000 in
set_option maxHeartbeats 4000000 in
theorem Jl_mo_act_b80 {Δ : DT} {Γ : FT} {d : Nat} (hd : 76 ≤ d + 1) {x2 : Int}   : ∀ (n : Nat) (s : Int × MEM), J (iter (fun s => mo_act_b80 x2 s.1 s.2) n s) (X_mo_act_b80 Δ Γ d x2) (HD_mo_act_b80 Δ Γ d x2 s) := J_iter (fun s => Jb_mo_act_b80 hd )
set_option maxRecDepth 20000 in
set_option maxHeartbeats 4000000 in
theorem J_mo_act {Δ : DT} {Γ : FT} {d : Nat} (hd : 76 ≤ d + 1) {x1 : Int}  {M : MEM} : J (mo_act x1 M) (K_IM Δ Γ m_mo_act) (WAt Δ Γ false m_mo_act (d + 1) 0 [vR (278), vI (x1), vN, vN, vN, vN] [] (NG, S0, M) 0 0) := by
  unfold mo_act
  refine J.mono (fun k => w_aload_n rfl rfl (w_getR (r := 291) rfl (Nat.le_of_ble_eq_true rfl) S_278 rfl (w_iload_n rfl rfl (w_iconst rfl (inR_c rfl) (w_iadd rfl k))))) ?_
  refine J_chk (fun hi1 => ?_)
  refine J.mono (fun k => w_iald rfl A_291.1 A_291.2 hi1.1 hi1.2 (s_istore2 rfl (Nat.le_of_ble_eq_true rfl) (w_aload_n rfl rfl (w_getR (r := 291) rfl (Nat.le_of_ble_eq_true rfl) S_278 rfl (w_iload_n rfl rfl (w_iconst rfl (inR_c rfl) (w_iadd rfl k))))))) ?_
  refine J_chk (fun hi2 => ?_)
  refine J.mono (fun k => w_iald rfl A_291.1 A_291.2 hi2.1 hi2.2 (s_istore3 rfl (Nat.le_of_ble_eq_true rfl) (w_aload_n rfl rfl (w_getR (r := 291) rfl (Nat.le_of_ble_eq_true rfl) S_278 rfl (w_iload_n rfl rfl (w_iconst rfl (inR_c rfl) (w_iadd rfl k))))))) ?_
  refine J_chk (fun hi3 => ?_)
  refine J.mono (fun k => w_iald rfl A_291.1 A_291.2 hi3.1 hi3.2 (s_istore4 rfl (Nat.le_of_ble_eq_true rfl) (w_aload_n rfl rfl (w_getR (r := 291) rfl (Nat.le_of_ble_eq_true rfl) S_278 rfl (w_iload_n rfl rfl k))))) ?_
  refine J_chk (fun hi4 => ?_)
  refine J.mono (fun k => w_iald rfl A_291.1 A_291.2 hi4.1 hi4.2 k) ?_
  refine J_ite (fun hk5 => ?_) (fun hk5 => ?_)
  · refine J.mono (fun k => w_lookup (off := 81) (tgt := 115) rfl (by decide) (by rw [hk5] <;> rfl) (by decide) (w_iload_n rfl rfl k)) ?_
    refine J_ite (fun hc6 => ?_) (fun hc6 => ?_)
    · refine J.mono (fun k => s_if_le_t rfl hc6 (w_iconst rfl (inR_c rfl) k)) ?_
      exact J_some (fun k => w_zreturn rfl rfl (Or.inl rfl) k)
    · refine J.mono (fun k => s_if_le_f rfl hc6 (w_aload_n rfl rfl (w_iload_n rfl rfl (w_aload_n rfl rfl (w_getR (r := 279) rfl (Nat.le_of_ble_eq_true rfl) S_278 rfl (w_sipush rfl (sip_c rfl) (w_iald rfl A_279.1 A_279.2 (by decide) (by decide) (w_aload_n rfl rfl (w_getR (r := 279) rfl (Nat.le_of_ble_eq_true rfl) S_278 rfl (w_sipush rfl (sip_c rfl) (w_iald rfl A_279.1 A_279.2 (by decide) (by decide) (w_iload_n rfl rfl (w_iadd rfl (w_iconst rfl (inR_c rfl) (w_isub rfl (w_iload rfl rfl k)))))))))))))))) ?_
      refine J_c (fun p8 e7 => ?_)
      refine J_hyp (fun k => c_vi4 rfl (fun ho hM => cal_mo_carrot (by omega)  e7 ho hM) v_mo_carrot (Nat.le_of_ble_eq_true rfl) S_278 rfl (Nat.le_of_ble_eq_true rfl) k) (fun hr9 hb10 => ?_)
      refine J_ite (fun hc11 => ?_) (fun hc11 => ?_)
      · refine J.mono (fun k => s_if_lt_t rfl hc11 (w_iconst rfl (inR_c rfl) k)) ?_
        exact J_some (fun k => w_zreturn rfl rfl (Or.inl rfl) k)
      · refine J.mono (fun k => s_if_lt_f rfl hc11 (w_iconst rfl (inR_c rfl) (w_goto rfl k))) ?_
        exact J_some (fun k => w_zreturn rfl rfl (Or.inr rfl) k)
  · refine J_ite (fun hk12 => ?_) (fun hk12 => ?_)
    · refine J.mono (fun k => w_lookup (off := 34) (tgt := 68) rfl (by decide) (by rw [hk12] <;> rfl) (by decide) (w_iload_n rfl rfl (w_sipush rfl (sip_c rfl) k))) ?_
      refine J_ite (fun hc13 => ?_) (fun hc13 => ?_)
      · refine J.mono (fun k => s_icmp_le_t rfl hc13 (w_iconst rfl (inR_c rfl) (s_istore5 rfl (Nat.le_of_ble_eq_true rfl) k))) ?_
        refine J.mono (fun k => w_forget (wk_k (wk_d (wk_k (wk_d (wk_d (wk_k wk_0)))))) k) ?_
        refine J_loop (Jl_mo_act_b80 hd  _ _) (fun w18 => ?_)
        refine J.mono (fun k => w_iconst rfl (inR_c rfl) k) ?_
        exact J_some (fun k => w_zreturn rfl rfl (Or.inr rfl) k)
      · refine J.mono (fun k => s_icmp_le_f rfl hc13 (w_iconst rfl (inR_c rfl) k)) ?_
        exact J_some (fun k => w_zreturn rfl rfl (Or.inl rfl) k)
    · refine J_ite (fun hk19 => ?_) (fun hk19 => ?_)
      · refine J.mono (fun k => w_lookup (off := 121) (tgt := 155) rfl (by decide) (by rw [hk19] <;> rfl) (by decide) (w_aload_n rfl rfl (w_iload_n rfl rfl (w_iload rfl rfl (w_iload_n rfl rfl k))))) ?_
        refine J_c (fun p21 e20 => ?_)
        refine J_hyp (fun k => c_vi3 rfl (fun ho hM => cal_mo_sow (by omega)  e20 ho hM) v_mo_sow (Nat.le_of_ble_eq_true rfl) S_278 rfl (Nat.le_of_ble_eq_true rfl) k) (fun hr22 hb23 => ?_)
        refine J_ite (fun hc24 => ?_) (fun hc24 => ?_)
        · refine J.mono (fun k => s_if_lt_t rfl hc24 (w_iconst rfl (inR_c rfl) k)) ?_
          exact J_some (fun k => w_zreturn rfl rfl (Or.inl rfl) k)
        · refine J.mono (fun k => s_if_lt_f rfl hc24 (w_iconst rfl (inR_c rfl) (w_goto rfl k))) ?_
          exact J_some (fun k => w_zreturn rfl rfl (Or.inr rfl) k)
      · refine J.mono (fun k => w_lookDef (keys := [(99), (109), (115)]) (tgt := 172) rfl (by decide) (by simp only [nokey]; exact ⟨hk5, hk12, hk19, trivial⟩) (by decide) (by decide) (w_aload_n rfl rfl (w_iload_n rfl rfl (w_iconst rfl (inR_c rfl) (w_iload_n rfl rfl k))))) ?_
        refine J_c (fun p26 e25 => ?_)
        refine J_hyp (fun k => c_vi3 rfl (fun ho hM => cal_mo_set (by omega)  e25 ho hM) v_mo_set (Nat.le_of_ble_eq_true rfl) S_278 rfl (Nat.le_of_ble_eq_true rfl) k) (fun hr27 hb28 => ?_)
        refine J_ite (fun hc29 => ?_) (fun hc29 => ?_)
        · refine J.mono (fun k => s_if_lt_t rfl hc29 (w_iconst rfl (inR_c rfl) k)) ?_
          exact J_some (fun k => w_zreturn rfl rfl (Or.inl rfl) k)
        · refine J.mono (fun k => s_if_lt_f rfl hc29 (w_iconst rfl (inR_c rfl) (w_goto rfl k))) ?_
          exact J_some (fun k => w_zreturn rfl rfl (Or.inr rfl) k)
set_option maxRecDepth 20000 in
set_option maxHeartbeats 4000000 in
theorem cal_mo_act {Δ : DT} {d : Nat} (hd : 76 ≤ d) {x1 : Int}  {M : MEM} {p : Int × MEM} (h : mo_act x1 M = some p) (ho : okVs [vR 278, vI x1]) (hM : okM M) : Cal Δ false m_mo_act d [vR 278, vI x1] (NG, S0, M) (some p.1) (NG, S0, p.2) 0 0 := by
  obtain ⟨d, rfl⟩ : ∃ e, d = e + 1 := ⟨d - 1, by omega⟩
  exact cal_of g_mo_act p_mo_act (fun v hv => by simp only [List.mem_cons, List.not_mem_nil, or_false] at hv; rcases hv with rfl | rfl <;> first | exact Or.inl ⟨_, rfl⟩ | exact Or.inr ⟨_, rfl⟩) ho hM (Nat.le_of_ble_eq_true rfl) (fun Γ _ k => J_mo_act hd  _ h k)
set_option maxRecDepth 20000 in
set_option maxHeartbeats 4000000 in
theorem J_mo_readAct_j148 {Δ : DT} {Γ : FT} {d : Nat} (hd : 3 ≤ d + 1) {x1 : Int}  {M : MEM} : J (mo_readAct_j148 x1 M) (K_M Δ Γ m_mo_readAct) (WAt Δ Γ false m_mo_readAct (d + 1) 148 [vR (278), vI (x1), vN] [] (NG, S0, M) 0 0) := by
  unfold mo_readAct_j148
  refine J.mono (fun k => w_aload_n rfl rfl (w_dup rfl (fun _ h => by cases h) (w_getI rfl (Nat.le_of_ble_eq_true rfl) S_278 rfl (w_iconst rfl (inR_c rfl) (w_iadd rfl k))))) ?_
  refine J_b ?_
  refine J.mono (fun k => w_putI rfl (Nat.le_of_ble_eq_true rfl) S_278 rfl rfl (w_aload_n rfl rfl (w_getR (r := 291) rfl (Nat.le_of_ble_eq_true rfl) S_278 rfl (w_iload_n rfl rfl (w_iconst rfl (inR_c rfl) (w_iadd rfl (w_aload_n rfl rfl (w_iconst rfl (inR_c rfl) k)))))))) ?_
  refine J_c (fun p36 e35 => ?_)
  refine J_hyp (fun k => c_vi1 rfl (fun ho hM => cal_mo_number (by omega)  e35 ho hM) v_mo_number (Nat.le_of_ble_eq_true rfl) S_278 rfl (Nat.le_of_ble_eq_true rfl) k) (fun hr37 hb38 => ?_)
  refine J_chk (fun hi40 => ?_)
  refine J_b ?_
  refine J.mono (fun k => w_iast rfl A_291.1 A_291.2 hi40.1 hi40.2 rfl k) ?_
  exact J_some (fun k => w_return rfl rfl k)
set_option maxRecDepth 20000 in
set_option maxHeartbeats 4000000 in
theorem J_mo_readAct_j114 {Δ : DT} {Γ : FT} {d : Nat} (hd : 3 ≤ d + 1) {x1 : Int} {s1 : Int} {s2 : Int}  {M : MEM} : J (mo_readAct_j114 x1 s1 s2 M) (K_M Δ Γ m_mo_readAct) (WAt Δ Γ false m_mo_readAct (d + 1) 114 [vR (278), vI (x1), vN] [vI (s2), vI (s1), vR (291)] (NG, S0, M) 0 0) := by
  unfold mo_readAct_j114
  refine J_chk (fun hi29 => ?_)
  refine J_b ?_
  refine J.mono (fun k => w_iast rfl A_291.1 A_291.2 hi29.1 hi29.2 rfl (w_aload_n rfl rfl k)) ?_
  refine J_hyp (fun k => c_vi0 rfl (fun ho hM => cal_mo_fine (by omega)   ho hM) v_mo_fine (Nat.le_of_ble_eq_true rfl) S_278 rfl (Nat.le_of_ble_eq_true rfl) k) (fun hr31 hb32 => ?_)
  refine J_ite (fun hc33 => ?_) (fun hc33 => ?_)
  · refine J.mono (fun k => s_if_eq_t rfl hc33 k) ?_
    exact J.mono (fun k => w_forget (wk_k (wk_k (wk_d wk_0))) k) (J_mo_readAct_j148 hd )
  · refine J.mono (fun k => s_if_eq_f rfl hc33 (w_aload_n rfl rfl k)) ?_
    refine J_c (fun r42 e41 => ?_)
    refine J_hyp (fun k => c_vi0 rfl (fun ho hM => cal_mo_here (by omega)  e41 ho hM) v_mo_here (Nat.le_of_ble_eq_true rfl) S_278 rfl (Nat.le_of_ble_eq_true rfl) k) (fun hr43 hb44 => ?_)
    refine J.mono (fun k => w_bipush rfl (bip_c rfl) k) ?_
    refine J_ite (fun hc45 => ?_) (fun hc45 => ?_)
    · refine J.mono (fun k => s_icmp_eq_t rfl hc45 k) ?_
      exact J.mono (fun k => w_forget (wk_k (wk_k (wk_d wk_0))) k) (J_mo_readAct_j148 hd )
    · refine J.mono (fun k => s_icmp_eq_f rfl hc45 (w_aload_n rfl rfl k)) ?_
      refine J_c (fun r47 e46 => ?_)
      refine J_hyp (fun k => c_vi0 rfl (fun ho hM => cal_mo_here (by omega)  e46 ho hM) v_mo_here (Nat.le_of_ble_eq_true rfl) S_278 rfl (Nat.le_of_ble_eq_true rfl) k) (fun hr48 hb49 => ?_)
      refine J.mono (fun k => w_bipush rfl (bip_c rfl) k) ?_
      refine J_ite (fun hc50 => ?_) (fun hc50 => ?_)
      · refine J.mono (fun k => s_icmp_eq_t rfl hc50 k) ?_
        exact J.mono (fun k => w_forget (wk_k (wk_k (wk_d wk_0))) k) (J_mo_readAct_j148 hd )
      · refine J.mono (fun k => s_icmp_eq_f rfl hc50 (w_aload_n rfl rfl (w_aload_n rfl rfl (w_getI rfl (Nat.le_of_ble_eq_true rfl) S_278 rfl k)))) ?_
        refine J_c (fun M52 e51 => ?_)
        refine J.mono (fun k => c_vv1 rfl (fun ho hM => cal_mo_fault (by omega)  e51 ho hM) v_mo_fault (Nat.le_of_ble_eq_true rfl) S_278 rfl (Nat.le_of_ble_eq_true rfl) k) ?_
        exact J.mono (fun k => w_forget (wk_k (wk_k (wk_d wk_0))) k) (J_mo_readAct_j148 hd )
set_option maxRecDepth 20000 in
set_option maxHeartbeats 4000000 in
theorem J_mo_readAct_j191 {Δ : DT} {Γ : FT} {d : Nat} (hd : 3 ≤ d + 1) {x1 : Int}  {M : MEM} : J (mo_readAct_j191 x1 M) (K_M Δ Γ m_mo_readAct) (WAt Δ Γ false m_mo_readAct (d + 1) 191 [vR (278), vI (x1), vN] [] (NG, S0, M) 0 0) := by
  unfold mo_readAct_j191
  refine J.mono (fun k => w_aload_n rfl rfl (w_bipush rfl (bip_c rfl) k)) ?_
  refine J_c (fun M61 e60 => ?_)
  refine J.mono (fun k => c_vv1 rfl (fun ho hM => cal_mo_need (by omega)  e60 ho hM) v_mo_need (Nat.le_of_ble_eq_true rfl) S_278 rfl (Nat.le_of_ble_eq_true rfl) (w_aload_n rfl rfl (w_getR (r := 291) rfl (Nat.le_of_ble_eq_true rfl) S_278 rfl (w_iload_n rfl rfl (w_iconst rfl (inR_c rfl) (w_iadd rfl (w_aload_n rfl rfl (w_iconst rfl (inR_c rfl) k)))))))) ?_
  refine J_c (fun p63 e62 => ?_)
  refine J_hyp (fun k => c_vi1 rfl (fun ho hM => cal_mo_number (by omega)  e62 ho hM) v_mo_number (Nat.le_of_ble_eq_true rfl) S_278 rfl (Nat.le_of_ble_eq_true rfl) k) (fun hr64 hb65 => ?_)
  refine J_chk (fun hi67 => ?_)
  refine J_b ?_
  refine J.mono (fun k => w_iast rfl A_291.1 A_291.2 hi67.1 hi67.2 rfl k) ?_
  exact J_some (fun k => w_return rfl rfl k)
set_option maxRecDepth 20000 in
set_option maxHeartbeats 4000000 in
theorem J_mo_readAct_j37 {Δ : DT} {Γ : FT} {d : Nat} (hd : 3 ≤ d + 1) {x1 : Int} {x2 : Int}  {M : MEM} : J (mo_readAct_j37 x1 x2 M) (K_M Δ Γ m_mo_readAct) (WAt Δ Γ false m_mo_readAct (d + 1) 37 [vR (278), vI (x1), vI (x2)] [] (NG, S0, M) 0 0) := by
  unfold mo_readAct_j37
  refine J.mono (fun k => w_aload_n rfl rfl (w_dup rfl (fun _ h => by cases h) (w_getI rfl (Nat.le_of_ble_eq_true rfl) S_278 rfl (w_iconst rfl (inR_c rfl) (w_iadd rfl k))))) ?_
  refine J_b ?_
  refine J.mono (fun k => w_putI rfl (Nat.le_of_ble_eq_true rfl) S_278 rfl rfl (w_aload_n rfl rfl (w_getR (r := 291) rfl (Nat.le_of_ble_eq_true rfl) S_278 rfl (w_iload_n rfl rfl (w_iload_n rfl rfl k))))) ?_
  refine J_chk (fun hi8 => ?_)
  refine J_b ?_
  refine J.mono (fun k => w_iast rfl A_291.1 A_291.2 hi8.1 hi8.2 rfl (w_iload_n rfl rfl (w_bipush rfl (bip_c rfl) k))) ?_
  refine J_ite (fun hc9 => ?_) (fun hc9 => ?_)
  · refine J.mono (fun k => s_icmp_ne_f rfl hc9 (w_aload_n rfl rfl (w_getR (r := 291) rfl (Nat.le_of_ble_eq_true rfl) S_278 rfl (w_iload_n rfl rfl (w_iconst rfl (inR_c rfl) (w_iadd rfl (w_aload_n rfl rfl (w_iconst rfl (inR_c rfl) k)))))))) ?_
    refine J_c (fun p11 e10 => ?_)
    refine J_hyp (fun k => c_vi1 rfl (fun ho hM => cal_mo_number (by omega)  e10 ho hM) v_mo_number (Nat.le_of_ble_eq_true rfl) S_278 rfl (Nat.le_of_ble_eq_true rfl) k) (fun hr12 hb13 => ?_)
    refine J_chk (fun hi15 => ?_)
    refine J_b ?_
    refine J.mono (fun k => w_iast rfl A_291.1 A_291.2 hi15.1 hi15.2 rfl k) ?_
    exact J_some (fun k => w_return rfl rfl k)
  · refine J.mono (fun k => s_icmp_ne_t rfl hc9 (w_aload_n rfl rfl (w_getR (r := 291) rfl (Nat.le_of_ble_eq_true rfl) S_278 rfl (w_iload_n rfl rfl (w_iconst rfl (inR_c rfl) (w_iadd rfl (w_aload_n rfl rfl (w_iconst rfl (inR_c rfl) k)))))))) ?_
    refine J_c (fun p17 e16 => ?_)
    refine J_hyp (fun k => c_vi1 rfl (fun ho hM => cal_mo_number (by omega)  e16 ho hM) v_mo_number (Nat.le_of_ble_eq_true rfl) S_278 rfl (Nat.le_of_ble_eq_true rfl) k) (fun hr18 hb19 => ?_)
    refine J_chk (fun hi21 => ?_)
    refine J_b ?_
    refine J.mono (fun k => w_iast rfl A_291.1 A_291.2 hi21.1 hi21.2 rfl (w_iload_n rfl rfl (w_bipush rfl (bip_c rfl) k))) ?_
    refine J_ite (fun hc22 => ?_) (fun hc22 => ?_)
    · refine J.mono (fun k => s_icmp_ne_f rfl hc22 (w_aload_n rfl rfl (w_getR (r := 291) rfl (Nat.le_of_ble_eq_true rfl) S_278 rfl (w_iload_n rfl rfl (w_iconst rfl (inR_c rfl) (w_iadd rfl (w_aload_n rfl rfl k))))))) ?_
      refine J_c (fun r24 e23 => ?_)
      refine J_hyp (fun k => c_vi0 rfl (fun ho hM => cal_mo_here (by omega)  e23 ho hM) v_mo_here (Nat.le_of_ble_eq_true rfl) S_278 rfl (Nat.le_of_ble_eq_true rfl) k) (fun hr25 hb26 => ?_)
      refine J.mono (fun k => w_bipush rfl (bip_c rfl) k) ?_
      refine J_ite (fun hc27 => ?_) (fun hc27 => ?_)
      · refine J.mono (fun k => s_icmp_ne_f rfl hc27 (w_iconst rfl (inR_c rfl) (w_goto rfl k))) ?_
        exact J.mono (fun k => w_forget (wk_k (wk_k (wk_d wk_0))) k) (J_mo_readAct_j114 hd )
      · refine J.mono (fun k => s_icmp_ne_t rfl hc27 (w_iconst rfl (inR_c rfl) k)) ?_
        exact J.mono (fun k => w_forget (wk_k (wk_k (wk_d wk_0))) k) (J_mo_readAct_j114 hd )
    · refine J.mono (fun k => s_icmp_ne_t rfl hc22 (w_iload_n rfl rfl (w_bipush rfl (bip_c rfl) k))) ?_
      refine J_ite (fun hc53 => ?_) (fun hc53 => ?_)
      · refine J.mono (fun k => s_icmp_ne_f rfl hc53 (w_aload_n rfl rfl (w_getR (r := 291) rfl (Nat.le_of_ble_eq_true rfl) S_278 rfl (w_iload_n rfl rfl (w_iconst rfl (inR_c rfl) (w_iadd rfl (w_aload_n rfl rfl (w_iconst rfl (inR_c rfl) k)))))))) ?_
        refine J_c (fun p55 e54 => ?_)
        refine J_hyp (fun k => c_vi1 rfl (fun ho hM => cal_mo_number (by omega)  e54 ho hM) v_mo_number (Nat.le_of_ble_eq_true rfl) S_278 rfl (Nat.le_of_ble_eq_true rfl) k) (fun hr56 hb57 => ?_)
        refine J_chk (fun hi59 => ?_)
        refine J_b ?_
        refine J.mono (fun k => w_iast rfl A_291.1 A_291.2 hi59.1 hi59.2 rfl k) ?_
        exact J.mono (fun k => w_forget (wk_k (wk_k (wk_d wk_0))) k) (J_mo_readAct_j191 hd )
      · refine J.mono (fun k => s_icmp_ne_t rfl hc53 k) ?_
        exact J.mono (fun k => w_forget (wk_k (wk_k (wk_d wk_0))) k) (J_mo_readAct_j191 hd )
set_option maxRecDepth 20000 in
set_option maxHeartbeats 4000000 in
theorem J_mo_readAct {Δ : DT} {Γ : FT} {d : Nat} (hd : 3 ≤ d + 1) {x1 : Int}  {M : MEM} : J (mo_readAct x1 M) (K_M Δ Γ m_mo_readAct) (WAt Δ Γ false m_mo_readAct (d + 1) 0 [vR (278), vI (x1), vN] [] (NG, S0, M) 0 0) := by
  unfold mo_readAct
  refine J.mono (fun k => w_aload_n rfl rfl k) ?_
  refine J_c (fun r2 e1 => ?_)
  refine J_hyp (fun k => c_vi0 rfl (fun ho hM => cal_mo_here (by omega)  e1 ho hM) v_mo_here (Nat.le_of_ble_eq_true rfl) S_278 rfl (Nat.le_of_ble_eq_true rfl) k) (fun hr3 hb4 => ?_)
  refine J.mono (fun k => s_istore2 rfl (Nat.le_of_ble_eq_true rfl) (w_iload_n rfl rfl (w_bipush rfl (bip_c rfl) k))) ?_
  refine J_ite (fun hc5 => ?_) (fun hc5 => ?_)
  · refine J.mono (fun k => s_icmp_eq_t rfl hc5 k) ?_
    exact J.mono (fun k => w_forget (wk_k (wk_k (wk_k wk_0))) k) (J_mo_readAct_j37 hd )
  · refine J.mono (fun k => s_icmp_eq_f rfl hc5 (w_iload_n rfl rfl (w_bipush rfl (bip_c rfl) k))) ?_
    refine J_ite (fun hc68 => ?_) (fun hc68 => ?_)
    · refine J.mono (fun k => s_icmp_eq_t rfl hc68 k) ?_
      exact J.mono (fun k => w_forget (wk_k (wk_k (wk_k wk_0))) k) (J_mo_readAct_j37 hd )
    · refine J.mono (fun k => s_icmp_eq_f rfl hc68 (w_iload_n rfl rfl (w_bipush rfl (bip_c rfl) k))) ?_
      refine J_ite (fun hc69 => ?_) (fun hc69 => ?_)
      · refine J.mono (fun k => s_icmp_eq_t rfl hc69 k) ?_
        exact J.mono (fun k => w_forget (wk_k (wk_k (wk_k wk_0))) k) (J_mo_readAct_j37 hd )
      · refine J.mono (fun k => s_icmp_eq_f rfl hc69 (w_iload_n rfl rfl (w_bipush rfl (bip_c rfl) k))) ?_
        refine J_ite (fun hc70 => ?_) (fun hc70 => ?_)
        · refine J.mono (fun k => s_icmp_eq_t rfl hc70 k) ?_
          exact J.mono (fun k => w_forget (wk_k (wk_k (wk_k wk_0))) k) (J_mo_readAct_j37 hd )
        · refine J.mono (fun k => s_icmp_eq_f rfl hc70 (w_aload_n rfl rfl (w_aload_n rfl rfl (w_getI rfl (Nat.le_of_ble_eq_true rfl) S_278 rfl k)))) ?_
          refine J_c (fun M72 e71 => ?_)
          refine J.mono (fun k => c_vv1 rfl (fun ho hM => cal_mo_fault (by omega)  e71 ho hM) v_mo_fault (Nat.le_of_ble_eq_true rfl) S_278 rfl (Nat.le_of_ble_eq_true rfl) k) ?_
          exact J.mono (fun k => w_forget (wk_k (wk_k (wk_k wk_0))) k) (J_mo_readAct_j37 hd )
set_option maxRecDepth 20000 in
set_option maxHeartbeats 4000000 in
theorem cal_mo_readAct {Δ : DT} {d : Nat} (hd : 3 ≤ d) {x1 : Int}  {M : MEM} {M1 : MEM} (h : mo_readAct x1 M = some M1) (ho : okVs [vR 278, vI x1]) (hM : okM M) : Cal Δ false m_mo_readAct d [vR 278, vI x1] (NG, S0, M) none (NG, S0, M1) 0 0 := by
  obtain ⟨d, rfl⟩ : ∃ e, d = e + 1 := ⟨d - 1, by omega⟩
  exact cal_of g_mo_readAct p_mo_readAct (fun v hv => by simp only [List.mem_cons, List.not_mem_nil, or_false] at hv; rcases hv with rfl | rfl <;> first | exact Or.inl ⟨_, rfl⟩ | exact Or.inr ⟨_, rfl⟩) ho hM (Nat.le_of_ble_eq_true rfl) (fun Γ _ k => J_mo_readAct hd  _ h k)
abbrev HD_mo_day_b39 (Δ : DT) (Γ : FT) (d : Nat)  (s : Int × Int × MEM) : Prop := WAt Δ Γ false m_mo_day (d + 1) 39 [vR (278), vI (s.1), vI (s.2.1), vN] [] (NG, S0, s.2.2) 0 0
abbrev X_mo_day_b39 (Δ : DT) (Γ : FT) (d : Nat)  (s : Int × Int × MEM) : Prop := WAt Δ Γ false m_mo_day (d + 1) 70 [vR (278), vI (s.1), vN, vN] [] (NG, S0, s.2.2) 0 0
set_option maxRecDepth 20000 in
set_option maxHeartbeats 4000000 in
theorem Jb_mo_day_b39 {Δ : DT} {Γ : FT} {d : Nat} (hd : 77 ≤ d + 1)   {x1 : Int} {x2 : Int} {M : MEM} : J (mo_day_b39  x1 x2 M) (Sum.elim (HD_mo_day_b39 Δ Γ d ) (X_mo_day_b39 Δ Γ d )) (WAt Δ Γ false m_mo_day (d + 1) 39 [vR (278), vI (x1), vI (x2), vN] [] (NG, S0, M) 0 0) := by
  unfold mo_day_b39
  refine J.mono (fun k => w_iload_n rfl rfl k) ?_
  refine J_ite (fun hc6 => ?_) (fun hc6 => ?_)
  · refine J.mono (fun k => s_if_eq_t rfl hc6 k) ?_
    exact J_some (fun k => w_forget (wk_k (wk_k (wk_d (wk_d wk_0)))) k)
  · refine J.mono (fun k => s_if_eq_f rfl hc6 (w_aload_n rfl rfl k)) ?_
    refine J_hyp (fun k => c_vi0 rfl (fun ho hM => cal_mo_fine (by omega)   ho hM) v_mo_fine (Nat.le_of_ble_eq_true rfl) S_278 rfl (Nat.le_of_ble_eq_true rfl) k) (fun hr8 hb9 => ?_)
    refine J_ite (fun hc10 => ?_) (fun hc10 => ?_)
    · refine J.mono (fun k => s_if_eq_t rfl hc10 k) ?_
      exact J_some (fun k => w_forget (wk_k (wk_k (wk_d (wk_d wk_0)))) k)
    · refine J.mono (fun k => s_if_eq_f rfl hc10 (w_aload_n rfl rfl (w_iconst rfl (inR_c rfl) (w_iload_n rfl rfl (w_imul rfl k))))) ?_
      refine J_c (fun M12 e11 => ?_)
      refine J.mono (fun k => c_vv1 rfl (fun ho hM => cal_mo_readAct (by omega)  e11 ho hM) v_mo_readAct (Nat.le_of_ble_eq_true rfl) S_278 rfl (Nat.le_of_ble_eq_true rfl) (s_iinc1 rfl (Nat.le_of_ble_eq_true rfl) (w_aload_n rfl rfl (w_bipush rfl (bip_c rfl) k)))) ?_
      refine J_c (fun p14 e13 => ?_)
      refine J_hyp (fun k => c_vi1 rfl (fun ho hM => cal_mo_passes (by omega)  e13 ho hM) v_mo_passes (Nat.le_of_ble_eq_true rfl) S_278 rfl (Nat.le_of_ble_eq_true rfl) k) (fun hr15 hb16 => ?_)
      refine J.mono (fun k => s_istore2 rfl (Nat.le_of_ble_eq_true rfl) (w_goto rfl k)) ?_
      exact J_some (fun k => w_forget (wk_k (wk_k (wk_k (wk_d wk_0)))) k)
set_option maxRecDepth 20000 in
set_option maxHeartbeats 4000000 in
theorem Jl_mo_day_b39 {Δ : DT} {Γ : FT} {d : Nat} (hd : 77 ≤ d + 1)    : ∀ (n : Nat) (s : Int × Int × MEM), J (iter (fun s => mo_day_b39  s.1 s.2.1 s.2.2) n s) (X_mo_day_b39 Δ Γ d ) (HD_mo_day_b39 Δ Γ d  s) := J_iter (fun s => Jb_mo_day_b39 hd )
abbrev HD_mo_day_b115 (Δ : DT) (Γ : FT) (d : Nat) (x1 : Int) (s : Int × MEM) : Prop := WAt Δ Γ false m_mo_day (d + 1) 115 [vR (278), vI (x1), vN, vI (s.1)] [] (NG, S0, s.2) 0 0
abbrev X_mo_day_b115 (Δ : DT) (Γ : FT) (d : Nat) (x1 : Int) (s : Int × MEM) : Prop := WAt Δ Γ false m_mo_day (d + 1) 136 [vR (278), vI (x1), vN, vI (s.1)] [] (NG, S0, s.2) 0 0
set_option maxRecDepth 20000 in
set_option maxHeartbeats 4000000 in
theorem Jb_mo_day_b115 {Δ : DT} {Γ : FT} {d : Nat} (hd : 77 ≤ d + 1) {x1 : Int}  {x3 : Int} {M : MEM} : J (mo_day_b115 x1 x3 M) (Sum.elim (HD_mo_day_b115 Δ Γ d x1) (X_mo_day_b115 Δ Γ d x1)) (WAt Δ Γ false m_mo_day (d + 1) 115 [vR (278), vI (x1), vN, vI (x3)] [] (NG, S0, M) 0 0) := by
  unfold mo_day_b115
  refine J.mono (fun k => w_iload_n rfl rfl (w_iload_n rfl rfl k)) ?_
  refine J_ite (fun hc26 => ?_) (fun hc26 => ?_)
  · refine J.mono (fun k => s_icmp_ge_t rfl hc26 k) ?_
    exact J_some (fun k => w_forget (wk_k (wk_k (wk_d (wk_k wk_0)))) k)
  · refine J.mono (fun k => s_icmp_ge_f rfl hc26 (w_aload_n rfl rfl (w_iconst rfl (inR_c rfl) (w_iload_n rfl rfl (w_imul rfl k))))) ?_
    refine J_c (fun p28 e27 => ?_)
    refine J_hyp (fun k => c_vi1 rfl (fun ho hM => cal_mo_act (by omega)  e27 ho hM) v_mo_act (Nat.le_of_ble_eq_true rfl) S_278 rfl (Nat.le_of_ble_eq_true rfl) k) (fun hr29 hb30 => ?_)
    refine J_ite (fun hc31 => ?_) (fun hc31 => ?_)
    · refine J.mono (fun k => s_if_eq_t rfl hc31 k) ?_
      exact J_some (fun k => w_forget (wk_k (wk_k (wk_d (wk_k wk_0)))) k)
    · refine J.mono (fun k => s_if_eq_f rfl hc31 (s_iinc3 rfl (Nat.le_of_ble_eq_true rfl) (w_goto rfl k))) ?_
      exact J_some (fun k => w_forget (wk_k (wk_k (wk_d (wk_k wk_0)))) k)
set_option maxRecDepth 20000 in
set_option maxHeartbeats 4000000 in
theorem Jl_mo_day_b115 {Δ : DT} {Γ : FT} {d : Nat} (hd : 77 ≤ d + 1) {x1 : Int}   : ∀ (n : Nat) (s : Int × MEM), J (iter (fun s => mo_day_b115 x1 s.1 s.2) n s) (X_mo_day_b115 Δ Γ d x1) (HD_mo_day_b115 Δ Γ d x1 s) := J_iter (fun s => Jb_mo_day_b115 hd )
set_option maxRecDepth 20000 in
set_option maxHeartbeats 4000000 in
theorem J_mo_day_j160 {Δ : DT} {Γ : FT} {d : Nat} (hd : 77 ≤ d + 1) {x3 : Int} {s1 : Int}  {M : MEM} : J (mo_day_j160 x3 s1 M) (K_IM Δ Γ m_mo_day) (WAt Δ Γ false m_mo_day (d + 1) 160 [vR (278), vN, vN, vI (x3)] [vI (s1), vR (278)] (NG, S0, M) 0 0) := by
  unfold mo_day_j160
  refine J_c (fun M37 e36 => ?_)
  refine J.mono (fun k => c_vv1 rfl (fun ho hM => cal_mo_tell (by omega)  e36 ho hM) v_mo_tell (Nat.le_of_ble_eq_true rfl) S_278 rfl (Nat.le_of_ble_eq_true rfl) (w_aload_n rfl rfl (w_aload_n rfl rfl (w_getI rfl (Nat.le_of_ble_eq_true rfl) S_278 rfl k)))) ?_
  refine J_c (fun M39 e38 => ?_)
  refine J.mono (fun k => c_vv1 rfl (fun ho hM => cal_mo_tell (by omega)  e38 ho hM) v_mo_tell (Nat.le_of_ble_eq_true rfl) S_278 rfl (Nat.le_of_ble_eq_true rfl) (w_iload_n rfl rfl k)) ?_
  exact J_some (fun k => w_ireturn rfl rfl k)
set_option maxRecDepth 20000 in
set_option maxHeartbeats 4000000 in
theorem J_mo_day_j144 {Δ : DT} {Γ : FT} {d : Nat} (hd : 77 ≤ d + 1) {x1 : Int} {x3 : Int}  {M : MEM} : J (mo_day_j144 x1 x3 M) (K_IM Δ Γ m_mo_day) (WAt Δ Γ false m_mo_day (d + 1) 144 [vR (278), vI (x1), vN, vI (x3)] [] (NG, S0, M) 0 0) := by
  unfold mo_day_j144
  refine J.mono (fun k => w_aload_n rfl rfl (w_iconst rfl (inR_c rfl) k)) ?_
  refine J_b ?_
  refine J.mono (fun k => w_putI rfl (Nat.le_of_ble_eq_true rfl) S_278 rfl rfl (w_aload_n rfl rfl (w_iload_n rfl rfl (w_iload_n rfl rfl k)))) ?_
  refine J_ite (fun hc35 => ?_) (fun hc35 => ?_)
  · refine J.mono (fun k => s_icmp_ge_t rfl hc35 (w_iconst rfl (inR_c rfl) k)) ?_
    exact J.mono (fun k => w_forget (wk_k (wk_d (wk_d (wk_k wk_0)))) k) (J_mo_day_j160 hd )
  · refine J.mono (fun k => s_icmp_ge_f rfl hc35 (w_iconst rfl (inR_c rfl) (w_goto rfl k))) ?_
    exact J.mono (fun k => w_forget (wk_k (wk_d (wk_d (wk_k wk_0)))) k) (J_mo_day_j160 hd )
set_option maxRecDepth 20000 in
set_option maxHeartbeats 4000000 in
theorem J_mo_day_j136 {Δ : DT} {Γ : FT} {d : Nat} (hd : 77 ≤ d + 1) {x1 : Int} {x3 : Int}  {M : MEM} : J (mo_day_j136 x1 x3 M) (K_IM Δ Γ m_mo_day) (WAt Δ Γ false m_mo_day (d + 1) 136 [vR (278), vI (x1), vN, vI (x3)] [] (NG, S0, M) 0 0) := by
  unfold mo_day_j136
  refine J.mono (fun k => w_iload_n rfl rfl k) ?_
  refine J_ite (fun hc33 => ?_) (fun hc33 => ?_)
  · refine J.mono (fun k => s_if_le_t rfl hc33 k) ?_
    exact J.mono (fun k => w_forget (wk_k (wk_k (wk_d (wk_k wk_0)))) k) (J_mo_day_j144 hd )
  · refine J.mono (fun k => s_if_le_f rfl hc33 (w_aload_n rfl rfl k)) ?_
    refine J_c (fun M41 e40 => ?_)
    refine J.mono (fun k => c_vv0 rfl (fun ho hM => cal_mo_remember (by omega)  e40 ho hM) v_mo_remember (Nat.le_of_ble_eq_true rfl) S_278 rfl (Nat.le_of_ble_eq_true rfl) k) ?_
    exact J.mono (fun k => w_forget (wk_k (wk_k (wk_d (wk_k wk_0)))) k) (J_mo_day_j144 hd )
set_option maxRecDepth 20000 in
set_option maxHeartbeats 4000000 in
theorem J_mo_day_j89 {Δ : DT} {Γ : FT} {d : Nat} (hd : 77 ≤ d + 1) {x1 : Int}  {M : MEM} : J (mo_day_j89 x1 M) (K_IM Δ Γ m_mo_day) (WAt Δ Γ false m_mo_day (d + 1) 89 [vR (278), vI (x1), vN, vN] [] (NG, S0, M) 0 0) := by
  unfold mo_day_j89
  refine J.mono (fun k => w_aload_n rfl rfl k) ?_
  refine J_hyp (fun k => c_vi0 rfl (fun ho hM => cal_mo_fine (by omega)   ho hM) v_mo_fine (Nat.le_of_ble_eq_true rfl) S_278 rfl (Nat.le_of_ble_eq_true rfl) k) (fun hr20 hb21 => ?_)
  refine J_ite (fun hc22 => ?_) (fun hc22 => ?_)
  · refine J.mono (fun k => s_if_ne_f rfl hc22 (w_iconst rfl (inR_c rfl) (w_aload_n rfl rfl (w_getI rfl (Nat.le_of_ble_eq_true rfl) S_278 rfl (w_isub rfl k))))) ?_
    exact J_some (fun k => w_ireturn rfl rfl k)
  · refine J.mono (fun k => s_if_ne_t rfl hc22 (w_aload_n rfl rfl (w_iconst rfl (inR_c rfl) k))) ?_
    refine J_c (fun M24 e23 => ?_)
    refine J.mono (fun k => c_vv1 rfl (fun ho hM => cal_mo_layAside (by omega)  e23 ho hM) v_mo_layAside (Nat.le_of_ble_eq_true rfl) S_278 rfl (Nat.le_of_ble_eq_true rfl) (w_aload_n rfl rfl (w_iconst rfl (inR_c rfl) k))) ?_
    refine J_b ?_
    refine J.mono (fun k => w_putI rfl (Nat.le_of_ble_eq_true rfl) S_278 rfl rfl (w_iconst rfl (inR_c rfl) (s_istore3 rfl (Nat.le_of_ble_eq_true rfl) k))) ?_
    refine J.mono (fun k => w_forget (wk_k (wk_k (wk_d (wk_k wk_0)))) k) ?_
    refine J_loop (Jl_mo_day_b115 hd  _ _) (fun w32 => ?_)
    exact J.mono (fun k => w_forget (wk_k (wk_k (wk_d (wk_k wk_0)))) k) (J_mo_day_j136 hd )
set_option maxRecDepth 20000 in
set_option maxHeartbeats 4000000 in
theorem J_mo_day_j70 {Δ : DT} {Γ : FT} {d : Nat} (hd : 77 ≤ d + 1) {x1 : Int}  {M : MEM} : J (mo_day_j70 x1 M) (K_IM Δ Γ m_mo_day) (WAt Δ Γ false m_mo_day (d + 1) 70 [vR (278), vI (x1), vN, vN] [] (NG, S0, M) 0 0) := by
  unfold mo_day_j70
  refine J.mono (fun k => w_aload_n rfl rfl (w_getI rfl (Nat.le_of_ble_eq_true rfl) S_278 rfl (w_aload_n rfl rfl (w_getI rfl (Nat.le_of_ble_eq_true rfl) S_278 rfl k)))) ?_
  refine J_ite (fun hc18 => ?_) (fun hc18 => ?_)
  · refine J.mono (fun k => s_icmp_ge_t rfl hc18 k) ?_
    exact J.mono (fun k => w_forget (wk_k (wk_k (wk_d (wk_d wk_0)))) k) (J_mo_day_j89 hd )
  · refine J.mono (fun k => s_icmp_ge_f rfl hc18 (w_aload_n rfl rfl (w_aload_n rfl rfl (w_getI rfl (Nat.le_of_ble_eq_true rfl) S_278 rfl k)))) ?_
    refine J_c (fun M43 e42 => ?_)
    refine J.mono (fun k => c_vv1 rfl (fun ho hM => cal_mo_fault (by omega)  e42 ho hM) v_mo_fault (Nat.le_of_ble_eq_true rfl) S_278 rfl (Nat.le_of_ble_eq_true rfl) k) ?_
    exact J.mono (fun k => w_forget (wk_k (wk_k (wk_d (wk_d wk_0)))) k) (J_mo_day_j89 hd )
set_option maxRecDepth 20000 in
set_option maxHeartbeats 4000000 in
theorem J_mo_day_j38 {Δ : DT} {Γ : FT} {d : Nat} (hd : 77 ≤ d + 1) {x1 : Int} {s0 : Int}  {M : MEM} : J (mo_day_j38 x1 s0 M) (K_IM Δ Γ m_mo_day) (WAt Δ Γ false m_mo_day (d + 1) 38 [vR (278), vI (x1), vN, vN] [vI (s0)] (NG, S0, M) 0 0) := by
  unfold mo_day_j38
  refine J.mono (fun k => s_istore2 rfl (Nat.le_of_ble_eq_true rfl) k) ?_
  refine J.mono (fun k => w_forget (wk_k (wk_k (wk_k (wk_d wk_0)))) k) ?_
  refine J_loop (Jl_mo_day_b39 hd  _ _) (fun w17 => ?_)
  exact J.mono (fun k => w_forget (wk_k (wk_k (wk_d (wk_d wk_0)))) k) (J_mo_day_j70 hd )
set_option maxRecDepth 20000 in
set_option maxHeartbeats 4000000 in
theorem J_mo_day {Δ : DT} {Γ : FT} {d : Nat} (hd : 77 ≤ d + 1)   {M : MEM} : J (mo_day M) (K_IM Δ Γ m_mo_day) (WAt Δ Γ false m_mo_day (d + 1) 0 [vR (278), vN, vN, vN] [] (NG, S0, M) 0 0) := by
  unfold mo_day
  refine J.mono (fun k => w_aload_n rfl rfl (w_iconst rfl (inR_c rfl) k)) ?_
  refine J_b ?_
  refine J.mono (fun k => w_putI rfl (Nat.le_of_ble_eq_true rfl) S_278 rfl rfl (w_aload_n rfl rfl (w_aload_n rfl rfl (w_getR (r := 283) rfl (Nat.le_of_ble_eq_true rfl) S_278 rfl (w_aload_n rfl rfl (w_getI rfl (Nat.le_of_ble_eq_true rfl) S_278 rfl (w_bipush rfl (bip_c rfl) k))))))) ?_
  refine J_c (fun M3 e2 => ?_)
  refine J.mono (fun k => c_vv3 rfl (fun ho hM => cal_mo_begin (by omega) (isArr_len A_283) e2 ho hM) v_mo_begin (Nat.le_of_ble_eq_true rfl) S_278 rfl (Nat.le_of_ble_eq_true rfl) (w_aload_n rfl rfl (w_iconst rfl (inR_c rfl) k))) ?_
  refine J_b ?_
  refine J.mono (fun k => w_putI rfl (Nat.le_of_ble_eq_true rfl) S_278 rfl rfl (w_iconst rfl (inR_c rfl) (s_istore1 rfl (Nat.le_of_ble_eq_true rfl) (w_aload_n rfl rfl (w_getI rfl (Nat.le_of_ble_eq_true rfl) S_278 rfl k))))) ?_
  refine J_ite (fun hc5 => ?_) (fun hc5 => ?_)
  · refine J.mono (fun k => s_if_le_t rfl hc5 (w_iconst rfl (inR_c rfl) k)) ?_
    exact J.mono (fun k => w_forget (wk_k (wk_k (wk_d (wk_d wk_0)))) k) (J_mo_day_j38 hd )
  · refine J.mono (fun k => s_if_le_f rfl hc5 (w_iconst rfl (inR_c rfl) (w_goto rfl k))) ?_
    exact J.mono (fun k => w_forget (wk_k (wk_k (wk_d (wk_d wk_0)))) k) (J_mo_day_j38 hd )
set_option maxRecDepth 20000 in
set_option maxHeartbeats 4000000 in
theorem cal_mo_day {Δ : DT} {d : Nat} (hd : 77 ≤ d)   {M : MEM} {p : Int × MEM} (h : mo_day M = some p) (ho : okVs [vR 278]) (hM : okM M) : Cal Δ false m_mo_day d [vR 278] (NG, S0, M) (some p.1) (NG, S0, p.2) 0 0 := by
  obtain ⟨d, rfl⟩ : ∃ e, d = e + 1 := ⟨d - 1, by omega⟩
  exact cal_of g_mo_day p_mo_day (fun v hv => by simp only [List.mem_cons, List.not_mem_nil, or_false] at hv; rcases hv with rfl <;> first | exact Or.inl ⟨_, rfl⟩ | exact Or.inr ⟨_, rfl⟩) ho hM (Nat.le_of_ble_eq_true rfl) (fun Γ _ k => J_mo_day hd  _ h k)
abbrev HD_mo_takeCarrots_b13 (Δ : DT) (Γ : FT) (d : Nat) (a1 : Nat) (x2 : Int) (s : Int × MEM) : Prop := WAt Δ Γ false m_mo_takeCarrots d 13 [vR (278), vR (a1), vI (x2), vI (s.1)] [] (NG, S0, s.2) 0 0
abbrev X_mo_takeCarrots_b13 (Δ : DT) (Γ : FT) (d : Nat) (a1 : Nat) (x2 : Int) (s : Int × MEM) : Prop := WAt Δ Γ false m_mo_takeCarrots d 42 [vN, vN, vN, vN] [] (NG, S0, s.2) 0 0
set_option maxRecDepth 20000 in
set_option maxHeartbeats 4000000 in
theorem Jb_mo_takeCarrots_b13 {Δ : DT} {Γ : FT} {d : Nat} {a1 : Nat} {x2 : Int} (h_a1 : isArr 0 (lenA a1) a1) {x3 : Int} {M : MEM} : J (mo_takeCarrots_b13 a1 x2 x3 M) (Sum.elim (HD_mo_takeCarrots_b13 Δ Γ d a1 x2) (X_mo_takeCarrots_b13 Δ Γ d a1 x2)) (WAt Δ Γ false m_mo_takeCarrots d 13 [vR (278), vR (a1), vI (x2), vI (x3)] [] (NG, S0, M) 0 0) := by
  unfold mo_takeCarrots_b13
  refine J.mono (fun k => w_iload_n rfl rfl (w_bipush rfl (bip_c rfl) k)) ?_
  refine J_ite (fun hc3 => ?_) (fun hc3 => ?_)
  · refine J.mono (fun k => s_icmp_ge_t rfl hc3 k) ?_
    exact J_some (fun k => w_forget (wk_d (wk_d (wk_d (wk_d wk_0)))) k)
  · refine J.mono (fun k => s_icmp_ge_f rfl hc3 (w_aload_n rfl rfl (w_getR (r := 282) rfl (Nat.le_of_ble_eq_true rfl) S_278 rfl (w_iload_n rfl rfl (w_aload_n rfl rfl (w_iload_n rfl rfl (w_sipush rfl (sip_c rfl) (w_iadd rfl (w_iconst rfl (inR_c rfl) (w_iadd rfl (w_iload_n rfl rfl (w_iadd rfl k)))))))))))) ?_
    refine J_chk (fun hi4 => ?_)
    refine J.mono (fun k => w_iald rfl h_a1.1 h_a1.2 hi4.1 hi4.2 k) ?_
    refine J_chk (fun hi6 => ?_)
    refine J_b ?_
    refine J.mono (fun k => w_iast rfl A_282.1 A_282.2 hi6.1 hi6.2 rfl (s_iinc3 rfl (Nat.le_of_ble_eq_true rfl) (w_goto rfl k))) ?_
    exact J_some (fun k => w_forget (wk_k (wk_k (wk_k (wk_k wk_0)))) k)
set_option maxRecDepth 20000 in
set_option maxHeartbeats 4000000 in
theorem Jl_mo_takeCarrots_b13 {Δ : DT} {Γ : FT} {d : Nat} {a1 : Nat} {x2 : Int} (h_a1 : isArr 0 (lenA a1) a1)  : ∀ (n : Nat) (s : Int × MEM), J (iter (fun s => mo_takeCarrots_b13 a1 x2 s.1 s.2) n s) (X_mo_takeCarrots_b13 Δ Γ d a1 x2) (HD_mo_takeCarrots_b13 Δ Γ d a1 x2 s) := J_iter (fun s => Jb_mo_takeCarrots_b13 h_a1)
set_option maxRecDepth 20000 in
set_option maxHeartbeats 4000000 in
theorem J_mo_takeCarrots {Δ : DT} {Γ : FT} {d : Nat} {a1 : Nat} {x2 : Int} (h_a1 : isArr 0 (lenA a1) a1) {M : MEM} : J (mo_takeCarrots a1 x2 M) (K_M Δ Γ m_mo_takeCarrots) (WAt Δ Γ false m_mo_takeCarrots d 0 [vR (278), vR (a1), vI (x2), vN] [] (NG, S0, M) 0 0) := by
  unfold mo_takeCarrots
  refine J.mono (fun k => w_aload_n rfl rfl (w_aload_n rfl rfl (w_iload_n rfl rfl (w_sipush rfl (sip_c rfl) (w_iadd rfl k))))) ?_
  refine J_chk (fun hi1 => ?_)
  refine J.mono (fun k => w_iald rfl h_a1.1 h_a1.2 hi1.1 hi1.2 k) ?_
  refine J_b ?_
  refine J.mono (fun k => w_putI rfl (Nat.le_of_ble_eq_true rfl) S_278 rfl rfl (w_iconst rfl (inR_c rfl) (s_istore3 rfl (Nat.le_of_ble_eq_true rfl) k))) ?_
  refine J.mono (fun k => w_forget (wk_k (wk_k (wk_k (wk_k wk_0)))) k) ?_
  refine J_loop (Jl_mo_takeCarrots_b13 h_a1 _ _) (fun w7 => ?_)
  exact J_some (fun k => w_return rfl rfl k)
set_option maxRecDepth 20000 in
set_option maxHeartbeats 4000000 in
theorem cal_mo_takeCarrots {Δ : DT} {d : Nat} (hd : 0 ≤ d) {a1 : Nat} {x2 : Int} (h_a1 : isArr 0 (lenA a1) a1) {M : MEM} {M1 : MEM} (h : mo_takeCarrots a1 x2 M = some M1) (ho : okVs [vR 278, vR a1, vI x2]) (hM : okM M) : Cal Δ false m_mo_takeCarrots d [vR 278, vR a1, vI x2] (NG, S0, M) none (NG, S0, M1) 0 0 := by
  exact cal_of g_mo_takeCarrots p_mo_takeCarrots (fun v hv => by simp only [List.mem_cons, List.not_mem_nil, or_false] at hv; rcases hv with rfl | rfl | rfl <;> first | exact Or.inl ⟨_, rfl⟩ | exact Or.inr ⟨_, rfl⟩) ho hM (Nat.le_of_ble_eq_true rfl) (fun Γ _ k => J_mo_takeCarrots h_a1 _ h k)
abbrev HD_mo_undo_b35 (Δ : DT) (Γ : FT) (d : Nat) (x1 : Int) (s : Int × MEM) : Prop := WAt Δ Γ false m_mo_undo (d + 1) 35 [vR (278), vI (x1), vI (s.1)] [] (NG, S0, s.2) 0 0
abbrev X_mo_undo_b35 (Δ : DT) (Γ : FT) (d : Nat) (x1 : Int) (s : Int × MEM) : Prop := WAt Δ Γ false m_mo_undo (d + 1) 62 [vR (278), vI (x1), vN] [] (NG, S0, s.2) 0 0
set_option maxRecDepth 20000 in
set_option maxHeartbeats 4000000 in
theorem Jb_mo_undo_b35 {Δ : DT} {Γ : FT} {d : Nat} (hd : 1 ≤ d + 1) {x1 : Int}  {x2 : Int} {M : MEM} : J (mo_undo_b35 x1 x2 M) (Sum.elim (HD_mo_undo_b35 Δ Γ d x1) (X_mo_undo_b35 Δ Γ d x1)) (WAt Δ Γ false m_mo_undo (d + 1) 35 [vR (278), vI (x1), vI (x2)] [] (NG, S0, M) 0 0) := by
  unfold mo_undo_b35
  refine J.mono (fun k => w_iload_n rfl rfl (w_sipush rfl (sip_c rfl) k)) ?_
  refine J_ite (fun hc4 => ?_) (fun hc4 => ?_)
  · refine J.mono (fun k => s_icmp_ge_t rfl hc4 k) ?_
    exact J_some (fun k => w_forget (wk_k (wk_k (wk_d wk_0))) k)
  · refine J.mono (fun k => s_icmp_ge_f rfl hc4 (w_aload_n rfl rfl (w_getR (r := 279) rfl (Nat.le_of_ble_eq_true rfl) S_278 rfl (w_iload_n rfl rfl (w_aload_n rfl rfl (w_getR (r := 288) rfl (Nat.le_of_ble_eq_true rfl) S_278 rfl (w_iload_n rfl rfl (w_iload_n rfl rfl (w_iadd rfl k))))))))) ?_
    refine J_chk (fun hi5 => ?_)
    refine J.mono (fun k => w_iald rfl A_288.1 A_288.2 hi5.1 hi5.2 k) ?_
    refine J_chk (fun hi7 => ?_)
    refine J_b ?_
    refine J.mono (fun k => w_iast rfl A_279.1 A_279.2 hi7.1 hi7.2 rfl (s_iinc2 rfl (Nat.le_of_ble_eq_true rfl) (w_goto rfl k))) ?_
    exact J_some (fun k => w_forget (wk_k (wk_k (wk_k wk_0))) k)
set_option maxRecDepth 20000 in
set_option maxHeartbeats 4000000 in
theorem Jl_mo_undo_b35 {Δ : DT} {Γ : FT} {d : Nat} (hd : 1 ≤ d + 1) {x1 : Int}   : ∀ (n : Nat) (s : Int × MEM), J (iter (fun s => mo_undo_b35 x1 s.1 s.2) n s) (X_mo_undo_b35 Δ Γ d x1) (HD_mo_undo_b35 Δ Γ d x1 s) := J_iter (fun s => Jb_mo_undo_b35 hd )
set_option maxRecDepth 20000 in
set_option maxHeartbeats 4000000 in
theorem J_mo_undo {Δ : DT} {Γ : FT} {d : Nat} (hd : 1 ≤ d + 1)   {M : MEM} : J (mo_undo M) (K_IM Δ Γ m_mo_undo) (WAt Δ Γ false m_mo_undo (d + 1) 0 [vR (278), vN, vN] [] (NG, S0, M) 0 0) := by
  unfold mo_undo
  refine J.mono (fun k => w_aload_n rfl rfl (w_iconst rfl (inR_c rfl) k)) ?_
  refine J_b ?_
  refine J.mono (fun k => w_putI rfl (Nat.le_of_ble_eq_true rfl) S_278 rfl rfl (w_aload_n rfl rfl (w_getI rfl (Nat.le_of_ble_eq_true rfl) S_278 rfl k))) ?_
  refine J_ite (fun hc2 => ?_) (fun hc2 => ?_)
  · refine J.mono (fun k => s_if_ne_f rfl hc2 (w_iconst rfl (inR_c rfl) k)) ?_
    exact J_some (fun k => w_ireturn rfl rfl k)
  · refine J.mono (fun k => s_if_ne_t rfl hc2 (w_aload_n rfl rfl (w_dup rfl (fun _ h => by cases h) (w_getI rfl (Nat.le_of_ble_eq_true rfl) S_278 rfl (w_iconst rfl (inR_c rfl) (w_isub rfl k)))))) ?_
    refine J_b ?_
    refine J.mono (fun k => w_putI rfl (Nat.le_of_ble_eq_true rfl) S_278 rfl rfl (w_sipush rfl (sip_c rfl) (w_aload_n rfl rfl (w_getI rfl (Nat.le_of_ble_eq_true rfl) S_278 rfl (w_imul rfl (s_istore1 rfl (Nat.le_of_ble_eq_true rfl) (w_iconst rfl (inR_c rfl) (s_istore2 rfl (Nat.le_of_ble_eq_true rfl) k)))))))) ?_
    refine J.mono (fun k => w_forget (wk_k (wk_k (wk_k wk_0))) k) ?_
    refine J_loop (Jl_mo_undo_b35 hd  _ _) (fun w8 => ?_)
    refine J.mono (fun k => w_aload_n rfl rfl (w_getR (r := 288) rfl (Nat.le_of_ble_eq_true rfl) S_278 rfl (w_iload_n rfl rfl (w_sipush rfl (sip_c rfl) (w_iadd rfl k))))) ?_
    refine J_chk (fun hi9 => ?_)
    refine J.mono (fun k => w_iald rfl A_288.1 A_288.2 hi9.1 hi9.2 (w_iconst rfl (inR_c rfl) k)) ?_
    refine J_ite (fun hc10 => ?_) (fun hc10 => ?_)
    · refine J.mono (fun k => s_icmp_ne_f rfl hc10 (w_aload_n rfl rfl (w_aload_n rfl rfl (w_getR (r := 288) rfl (Nat.le_of_ble_eq_true rfl) S_278 rfl (w_iload_n rfl rfl k))))) ?_
      refine J_c (fun M12 e11 => ?_)
      refine J.mono (fun k => c_vv2 rfl (fun ho hM => cal_mo_takeCarrots (by omega) (isArr_len A_288) e11 ho hM) v_mo_takeCarrots (Nat.le_of_ble_eq_true rfl) S_278 rfl (Nat.le_of_ble_eq_true rfl) (w_aload_n rfl rfl (w_getI rfl (Nat.le_of_ble_eq_true rfl) S_278 rfl k))) ?_
      exact J_some (fun k => w_ireturn rfl rfl k)
    · refine J.mono (fun k => s_icmp_ne_t rfl hc10 (w_aload_n rfl rfl (w_getI rfl (Nat.le_of_ble_eq_true rfl) S_278 rfl k))) ?_
      exact J_some (fun k => w_ireturn rfl rfl k)
set_option maxRecDepth 20000 in
set_option maxHeartbeats 4000000 in
theorem cal_mo_undo {Δ : DT} {d : Nat} (hd : 1 ≤ d)   {M : MEM} {p : Int × MEM} (h : mo_undo M = some p) (ho : okVs [vR 278]) (hM : okM M) : Cal Δ false m_mo_undo d [vR 278] (NG, S0, M) (some p.1) (NG, S0, p.2) 0 0 := by
  obtain ⟨d, rfl⟩ : ∃ e, d = e + 1 := ⟨d - 1, by omega⟩
  exact cal_of g_mo_undo p_mo_undo (fun v hv => by simp only [List.mem_cons, List.not_mem_nil, or_false] at hv; rcases hv with rfl <;> first | exact Or.inl ⟨_, rfl⟩ | exact Or.inr ⟨_, rfl⟩) ho hM (Nat.le_of_ble_eq_true rfl) (fun Γ _ k => J_mo_undo hd  _ h k)
set_option maxRecDepth 20000 in
set_option maxHeartbeats 4000000 in
theorem J_mo_strokes {Δ : DT} {Γ : FT} {d : Nat} {x1 : Int}  {M : MEM} : J (mo_strokes x1 M) (K_I Δ Γ m_mo_strokes M) (WAt Δ Γ false m_mo_strokes d 0 [vR (278), vI (x1)] [] (NG, S0, M) 0 0) := by
  unfold mo_strokes
  refine J.mono (fun k => w_aload_n rfl rfl (w_getR (r := 279) rfl (Nat.le_of_ble_eq_true rfl) S_278 rfl (w_bipush rfl (bip_c rfl) (w_iload_n rfl rfl (w_imul rfl (w_iconst rfl (inR_c rfl) (w_iadd rfl k))))))) ?_
  refine J_chk (fun hi1 => ?_)
  refine J.mono (fun k => w_iald rfl A_279.1 A_279.2 hi1.1 hi1.2 k) ?_
  exact J_some (fun k => w_ireturn rfl rfl k)
set_option maxRecDepth 20000 in
set_option maxHeartbeats 4000000 in
theorem cal_mo_strokes {Δ : DT} {d : Nat} (hd : 0 ≤ d) {x1 : Int}  {M : MEM} {r : Int} (h : mo_strokes x1 M = some r) (ho : okVs [vR 278, vI x1]) (hM : okM M) : Cal Δ false m_mo_strokes d [vR 278, vI x1] (NG, S0, M) (some r) (NG, S0, M) 0 0 := by
  exact cal_of g_mo_strokes p_mo_strokes (fun v hv => by simp only [List.mem_cons, List.not_mem_nil, or_false] at hv; rcases hv with rfl | rfl <;> first | exact Or.inl ⟨_, rfl⟩ | exact Or.inr ⟨_, rfl⟩) ho hM (Nat.le_of_ble_eq_true rfl) (fun Γ _ k => J_mo_strokes  _ h k)
set_option maxRecDepth 20000 in
set_option maxHeartbeats 4000000 in
theorem J_mo_line {Δ : DT} {Γ : FT} {d : Nat} (hd : 1 ≤ d + 1) {x1 : Int} {x2 : Int}  {M : MEM} : J (mo_line x1 x2 M) (K_I Δ Γ m_mo_line M) (WAt Δ Γ false m_mo_line (d + 1) 0 [vR (278), vI (x1), vI (x2)] [] (NG, S0, M) 0 0) := by
  unfold mo_line
  refine J.mono (fun k => w_iload_n rfl rfl (w_aload_n rfl rfl (w_iload_n rfl rfl k))) ?_
  refine J_c (fun r2 e1 => ?_)
  refine J_hyp (fun k => c_vi1 rfl (fun ho hM => cal_mo_strokes (by omega)  e1 ho hM) v_mo_strokes (Nat.le_of_ble_eq_true rfl) S_278 rfl (Nat.le_of_ble_eq_true rfl) k) (fun hr3 hb4 => ?_)
  refine J_ite (fun hc5 => ?_) (fun hc5 => ?_)
  · refine J.mono (fun k => s_icmp_le_t rfl hc5 (w_iload_n rfl rfl (w_aload_n rfl rfl (w_iload_n rfl rfl k)))) ?_
    refine J_c (fun r7 e6 => ?_)
    refine J_hyp (fun k => c_vi1 rfl (fun ho hM => cal_mo_strokes (by omega)  e6 ho hM) v_mo_strokes (Nat.le_of_ble_eq_true rfl) S_278 rfl (Nat.le_of_ble_eq_true rfl) k) (fun hr8 hb9 => ?_)
    refine J.mono (fun k => w_bipush rfl (bip_c rfl) (w_isub rfl k)) ?_
    refine J_ite (fun hc10 => ?_) (fun hc10 => ?_)
    · refine J.mono (fun k => s_icmp_gt_t rfl hc10 (w_aload_n rfl rfl (w_getR (r := 279) rfl (Nat.le_of_ble_eq_true rfl) S_278 rfl (w_bipush rfl (bip_c rfl) (w_iload_n rfl rfl (w_imul rfl (w_bipush rfl (bip_c rfl) (w_iadd rfl (w_iload_n rfl rfl (w_iconst rfl (inR_c rfl) (w_isub rfl (w_bipush rfl (bip_c rfl) (w_irem rfl (by decide) (w_iadd rfl k)))))))))))))) ?_
      refine J_chk (fun hi11 => ?_)
      refine J.mono (fun k => w_iald rfl A_279.1 A_279.2 hi11.1 hi11.2 k) ?_
      exact J_some (fun k => w_ireturn rfl rfl k)
    · refine J.mono (fun k => s_icmp_gt_f rfl hc10 (w_bipush rfl (bip_c rfl) (w_goto rfl k))) ?_
      exact J_some (fun k => w_ireturn rfl rfl k)
  · refine J.mono (fun k => s_icmp_le_f rfl hc5 (w_bipush rfl (bip_c rfl) k)) ?_
    exact J_some (fun k => w_ireturn rfl rfl k)
set_option maxRecDepth 20000 in
set_option maxHeartbeats 4000000 in
theorem cal_mo_line {Δ : DT} {d : Nat} (hd : 1 ≤ d) {x1 : Int} {x2 : Int}  {M : MEM} {r : Int} (h : mo_line x1 x2 M = some r) (ho : okVs [vR 278, vI x1, vI x2]) (hM : okM M) : Cal Δ false m_mo_line d [vR 278, vI x1, vI x2] (NG, S0, M) (some r) (NG, S0, M) 0 0 := by
  obtain ⟨d, rfl⟩ : ∃ e, d = e + 1 := ⟨d - 1, by omega⟩
  exact cal_of g_mo_line p_mo_line (fun v hv => by simp only [List.mem_cons, List.not_mem_nil, or_false] at hv; rcases hv with rfl | rfl | rfl <;> first | exact Or.inl ⟨_, rfl⟩ | exact Or.inr ⟨_, rfl⟩) ho hM (Nat.le_of_ble_eq_true rfl) (fun Γ _ k => J_mo_line hd  _ h k)
set_option maxRecDepth 20000 in
set_option maxHeartbeats 4000000 in
theorem J_mo_struck {Δ : DT} {Γ : FT} {d : Nat} (hd : 2 ≤ d + 1) {x1 : Int} {x2 : Int}  {M : MEM} : J (mo_struck x1 x2 M) (K_IM Δ Γ m_mo_struck) (WAt Δ Γ false m_mo_struck (d + 1) 0 [vR (278), vI (x1), vI (x2)] [] (NG, S0, M) 0 0) := by
  unfold mo_struck
  refine J.mono (fun k => w_aload_n rfl rfl (w_iconst rfl (inR_c rfl) k)) ?_
  refine J_b ?_
  refine J.mono (fun k => w_putI rfl (Nat.le_of_ble_eq_true rfl) S_278 rfl rfl (w_aload_n rfl rfl (w_iload_n rfl rfl k))) ?_
  refine J_hyp (fun k => c_vi1 rfl (fun ho hM => cal_mo_isDonkey (by omega)   ho hM) v_mo_isDonkey (Nat.le_of_ble_eq_true rfl) S_278 rfl (Nat.le_of_ble_eq_true rfl) k) (fun hr3 hb4 => ?_)
  refine J_ite (fun hc5 => ?_) (fun hc5 => ?_)
  · refine J.mono (fun k => s_if_eq_t rfl hc5 (w_iconst rfl (inR_c rfl) k)) ?_
    exact J_some (fun k => w_ireturn rfl rfl k)
  · refine J.mono (fun k => s_if_eq_f rfl hc5 (w_iload_n rfl rfl (w_iconst rfl (inR_c rfl) k))) ?_
    refine J_ite (fun hc6 => ?_) (fun hc6 => ?_)
    · refine J.mono (fun k => s_icmp_lt_t rfl hc6 (w_iconst rfl (inR_c rfl) k)) ?_
      exact J_some (fun k => w_ireturn rfl rfl k)
    · refine J.mono (fun k => s_icmp_lt_f rfl hc6 (w_aload_n rfl rfl (w_iload_n rfl rfl (w_iload_n rfl rfl k)))) ?_
      refine J_c (fun r8 e7 => ?_)
      refine J_hyp (fun k => c_vi2 rfl (fun ho hM => cal_mo_line (by omega)  e7 ho hM) v_mo_line (Nat.le_of_ble_eq_true rfl) S_278 rfl (Nat.le_of_ble_eq_true rfl) k) (fun hr9 hb10 => ?_)
      refine J.mono (fun k => w_goto rfl k) ?_
      exact J_some (fun k => w_ireturn rfl rfl k)
set_option maxRecDepth 20000 in
set_option maxHeartbeats 4000000 in
theorem cal_mo_struck {Δ : DT} {d : Nat} (hd : 2 ≤ d) {x1 : Int} {x2 : Int}  {M : MEM} {p : Int × MEM} (h : mo_struck x1 x2 M = some p) (ho : okVs [vR 278, vI x1, vI x2]) (hM : okM M) : Cal Δ false m_mo_struck d [vR 278, vI x1, vI x2] (NG, S0, M) (some p.1) (NG, S0, p.2) 0 0 := by
  obtain ⟨d, rfl⟩ : ∃ e, d = e + 1 := ⟨d - 1, by omega⟩
  exact cal_of g_mo_struck p_mo_struck (fun v hv => by simp only [List.mem_cons, List.not_mem_nil, or_false] at hv; rcases hv with rfl | rfl | rfl <;> first | exact Or.inl ⟨_, rfl⟩ | exact Or.inr ⟨_, rfl⟩) ho hM (Nat.le_of_ble_eq_true rfl) (fun Γ _ k => J_mo_struck hd  _ h k)
set_option maxRecDepth 20000 in
set_option maxHeartbeats 4000000 in
theorem J_mo_took {Δ : DT} {Γ : FT} {d : Nat} (hd : 2 ≤ d + 1) {x1 : Int} {x2 : Int}  {M : MEM} : J (mo_took x1 x2 M) (K_IM Δ Γ m_mo_took) (WAt Δ Γ false m_mo_took (d + 1) 0 [vR (278), vI (x1), vI (x2)] [] (NG, S0, M) 0 0) := by
  unfold mo_took
  refine J.mono (fun k => w_aload_n rfl rfl (w_iconst rfl (inR_c rfl) k)) ?_
  refine J_b ?_
  refine J.mono (fun k => w_putI rfl (Nat.le_of_ble_eq_true rfl) S_278 rfl rfl (w_aload_n rfl rfl (w_iload_n rfl rfl k))) ?_
  refine J_hyp (fun k => c_vi1 rfl (fun ho hM => cal_mo_isDonkey (by omega)   ho hM) v_mo_isDonkey (Nat.le_of_ble_eq_true rfl) S_278 rfl (Nat.le_of_ble_eq_true rfl) k) (fun hr3 hb4 => ?_)
  refine J_ite (fun hc5 => ?_) (fun hc5 => ?_)
  · refine J.mono (fun k => s_if_eq_t rfl hc5 (w_iconst rfl (inR_c rfl) k)) ?_
    exact J_some (fun k => w_ireturn rfl rfl k)
  · refine J.mono (fun k => s_if_eq_f rfl hc5 (w_iload_n rfl rfl (w_iconst rfl (inR_c rfl) k))) ?_
    refine J_ite (fun hc6 => ?_) (fun hc6 => ?_)
    · refine J.mono (fun k => s_icmp_ge_t rfl hc6 (w_aload_n rfl rfl (w_iload_n rfl rfl (w_iload_n rfl rfl k)))) ?_
      refine J_c (fun r8 e7 => ?_)
      refine J_hyp (fun k => c_vi2 rfl (fun ho hM => cal_mo_line (by omega)  e7 ho hM) v_mo_line (Nat.le_of_ble_eq_true rfl) S_278 rfl (Nat.le_of_ble_eq_true rfl) k) (fun hr9 hb10 => ?_)
      refine J_ite (fun hc11 => ?_) (fun hc11 => ?_)
      · refine J.mono (fun k => s_if_ge_t rfl hc11 (w_iload_n rfl rfl (w_aload_n rfl rfl (w_iload_n rfl rfl k)))) ?_
        refine J_c (fun r13 e12 => ?_)
        refine J_hyp (fun k => c_vi1 rfl (fun ho hM => cal_mo_strokes (by omega)  e12 ho hM) v_mo_strokes (Nat.le_of_ble_eq_true rfl) S_278 rfl (Nat.le_of_ble_eq_true rfl) k) (fun hr14 hb15 => ?_)
        refine J_ite (fun hc16 => ?_) (fun hc16 => ?_)
        · refine J.mono (fun k => s_icmp_ne_f rfl hc16 (w_bipush rfl (bip_c rfl) (w_goto rfl k))) ?_
          exact J_some (fun k => w_ireturn rfl rfl k)
        · refine J.mono (fun k => s_icmp_ne_t rfl hc16 (w_aload_n rfl rfl (w_iload_n rfl rfl (w_iload_n rfl rfl (w_iconst rfl (inR_c rfl) (w_iadd rfl k)))))) ?_
          refine J_c (fun r18 e17 => ?_)
          refine J_hyp (fun k => c_vi2 rfl (fun ho hM => cal_mo_line (by omega)  e17 ho hM) v_mo_line (Nat.le_of_ble_eq_true rfl) S_278 rfl (Nat.le_of_ble_eq_true rfl) k) (fun hr19 hb20 => ?_)
          refine J.mono (fun k => w_aload_n rfl rfl (w_iload_n rfl rfl (w_iload_n rfl rfl k))) ?_
          refine J_c (fun r22 e21 => ?_)
          refine J_hyp (fun k => c_vi2 rfl (fun ho hM => cal_mo_line (by omega)  e21 ho hM) v_mo_line (Nat.le_of_ble_eq_true rfl) S_278 rfl (Nat.le_of_ble_eq_true rfl) k) (fun hr23 hb24 => ?_)
          refine J.mono (fun k => w_isub rfl k) ?_
          exact J_some (fun k => w_ireturn rfl rfl k)
      · refine J.mono (fun k => s_if_ge_f rfl hc11 (w_aload_n rfl rfl (w_iload_n rfl rfl (w_iload_n rfl rfl k)))) ?_
        refine J_c (fun r26 e25 => ?_)
        refine J_hyp (fun k => c_vi2 rfl (fun ho hM => cal_mo_line (by omega)  e25 ho hM) v_mo_line (Nat.le_of_ble_eq_true rfl) S_278 rfl (Nat.le_of_ble_eq_true rfl) k) (fun hr27 hb28 => ?_)
        exact J_some (fun k => w_ireturn rfl rfl k)
    · refine J.mono (fun k => s_icmp_ge_f rfl hc6 (w_iconst rfl (inR_c rfl) k)) ?_
      exact J_some (fun k => w_ireturn rfl rfl k)
set_option maxRecDepth 20000 in
set_option maxHeartbeats 4000000 in
theorem cal_mo_took {Δ : DT} {d : Nat} (hd : 2 ≤ d) {x1 : Int} {x2 : Int}  {M : MEM} {p : Int × MEM} (h : mo_took x1 x2 M = some p) (ho : okVs [vR 278, vI x1, vI x2]) (hM : okM M) : Cal Δ false m_mo_took d [vR 278, vI x1, vI x2] (NG, S0, M) (some p.1) (NG, S0, p.2) 0 0 := by
  obtain ⟨d, rfl⟩ : ∃ e, d = e + 1 := ⟨d - 1, by omega⟩
  exact cal_of g_mo_took p_mo_took (fun v hv => by simp only [List.mem_cons, List.not_mem_nil, or_false] at hv; rcases hv with rfl | rfl | rfl <;> first | exact Or.inl ⟨_, rfl⟩ | exact Or.inr ⟨_, rfl⟩) ho hM (Nat.le_of_ble_eq_true rfl) (fun Γ _ k => J_mo_took hd  _ h k)
abbrev HD_mo_longest_b35 (Δ : DT) (Γ : FT) (d : Nat) (x1 : Int) (M : MEM) (s : Int × Int × Int) : Prop := WAt Δ Γ false m_mo_longest (d + 1) 35 [vR (278), vI (x1), vI (s.1), vI (s.2.1), vI (s.2.2), vN] [] (NG, S0, M) 0 0
abbrev X_mo_longest_b35 (Δ : DT) (Γ : FT) (d : Nat) (x1 : Int) (M : MEM) (s : Int × Int × Int) : Prop := WAt Δ Γ false m_mo_longest (d + 1) 126 [vR (278), vI (x1), vI (s.1), vI (s.2.1), vN, vN] [] (NG, S0, M) 0 0
set_option maxRecDepth 20000 in
set_option maxHeartbeats 4000000 in
theorem J_mo_longest_j120_35 {Δ : DT} {Γ : FT} {d : Nat} (hd : 2 ≤ d + 1) {x1 : Int} {x2 : Int} {x3 : Int} {x4 : Int}  {M : MEM} : J (mo_longest_j120_35 x1 x2 x3 x4 M) (Sum.elim (HD_mo_longest_b35 Δ Γ d x1 M) (X_mo_longest_b35 Δ Γ d x1 M)) (WAt Δ Γ false m_mo_longest (d + 1) 120 [vR (278), vI (x1), vI (x2), vI (x3), vI (x4), vN] [] (NG, S0, M) 0 0) := by
  unfold mo_longest_j120_35
  refine J.mono (fun k => s_iinc4 rfl (Nat.le_of_ble_eq_true rfl) (w_goto rfl k)) ?_
  exact J_some (fun k => w_forget (wk_k (wk_k (wk_k (wk_k (wk_k (wk_d wk_0)))))) k)
set_option maxRecDepth 20000 in
set_option maxHeartbeats 4000000 in
theorem J_mo_longest_j117_35 {Δ : DT} {Γ : FT} {d : Nat} (hd : 2 ≤ d + 1) {x1 : Int} {x2 : Int} {x4 : Int}  {M : MEM} : J (mo_longest_j117_35 x1 x2 x4 M) (Sum.elim (HD_mo_longest_b35 Δ Γ d x1 M) (X_mo_longest_b35 Δ Γ d x1 M)) (WAt Δ Γ false m_mo_longest (d + 1) 117 [vR (278), vI (x1), vI (x2), vN, vI (x4), vN] [] (NG, S0, M) 0 0) := by
  unfold mo_longest_j117_35
  refine J.mono (fun k => w_iload rfl rfl (s_istore3 rfl (Nat.le_of_ble_eq_true rfl) k)) ?_
  exact J.mono (fun k => w_forget (wk_k (wk_k (wk_k (wk_k (wk_k (wk_d wk_0)))))) k) (J_mo_longest_j120_35 hd )
set_option maxRecDepth 20000 in
set_option maxHeartbeats 4000000 in
theorem J_mo_longest_j92_35 {Δ : DT} {Γ : FT} {d : Nat} (hd : 2 ≤ d + 1) {x1 : Int} {x2 : Int} {x3 : Int} {x4 : Int} {x5 : Int}  {M : MEM} : J (mo_longest_j92_35 x1 x2 x3 x4 x5 M) (Sum.elim (HD_mo_longest_b35 Δ Γ d x1 M) (X_mo_longest_b35 Δ Γ d x1 M)) (WAt Δ Γ false m_mo_longest (d + 1) 92 [vR (278), vI (x1), vI (x2), vI (x3), vI (x4), vI (x5)] [] (NG, S0, M) 0 0) := by
  unfold mo_longest_j92_35
  refine J.mono (fun k => w_iload_n rfl rfl (w_iconst rfl (inR_c rfl) k)) ?_
  refine J_ite (fun hc24 => ?_) (fun hc24 => ?_)
  · refine J.mono (fun k => s_icmp_eq_t rfl hc24 k) ?_
    exact J.mono (fun k => w_forget (wk_k (wk_k (wk_k (wk_d (wk_k (wk_d wk_0)))))) k) (J_mo_longest_j117_35 hd )
  · refine J.mono (fun k => s_icmp_eq_f rfl hc24 (w_iload rfl rfl (w_aload_n rfl rfl (w_iload_n rfl rfl (w_iload_n rfl rfl (w_iconst rfl (inR_c rfl) (w_iadd rfl k))))))) ?_
    refine J_c (fun r26 e25 => ?_)
    refine J_hyp (fun k => c_vi2 rfl (fun ho hM => cal_mo_line (by omega)  e25 ho hM) v_mo_line (Nat.le_of_ble_eq_true rfl) S_278 rfl (Nat.le_of_ble_eq_true rfl) k) (fun hr27 hb28 => ?_)
    refine J.mono (fun k => w_aload_n rfl rfl (w_iload_n rfl rfl (w_iload_n rfl rfl k))) ?_
    refine J_c (fun r30 e29 => ?_)
    refine J_hyp (fun k => c_vi2 rfl (fun ho hM => cal_mo_line (by omega)  e29 ho hM) v_mo_line (Nat.le_of_ble_eq_true rfl) S_278 rfl (Nat.le_of_ble_eq_true rfl) k) (fun hr31 hb32 => ?_)
    refine J.mono (fun k => w_isub rfl k) ?_
    refine J_ite (fun hc33 => ?_) (fun hc33 => ?_)
    · refine J.mono (fun k => s_icmp_ge_t rfl hc33 k) ?_
      exact J.mono (fun k => w_forget (wk_k (wk_k (wk_k (wk_k (wk_k (wk_d wk_0)))))) k) (J_mo_longest_j120_35 hd )
    · refine J.mono (fun k => s_icmp_ge_f rfl hc33 k) ?_
      exact J.mono (fun k => w_forget (wk_k (wk_k (wk_k (wk_d (wk_k (wk_d wk_0)))))) k) (J_mo_longest_j117_35 hd )
set_option maxRecDepth 20000 in
set_option maxHeartbeats 4000000 in
theorem J_mo_longest_j89_35 {Δ : DT} {Γ : FT} {d : Nat} (hd : 2 ≤ d + 1) {x1 : Int} {x3 : Int} {x4 : Int} {x5 : Int}  {M : MEM} : J (mo_longest_j89_35 x1 x3 x4 x5 M) (Sum.elim (HD_mo_longest_b35 Δ Γ d x1 M) (X_mo_longest_b35 Δ Γ d x1 M)) (WAt Δ Γ false m_mo_longest (d + 1) 89 [vR (278), vI (x1), vN, vI (x3), vI (x4), vI (x5)] [] (NG, S0, M) 0 0) := by
  unfold mo_longest_j89_35
  refine J.mono (fun k => w_iload rfl rfl (s_istore2 rfl (Nat.le_of_ble_eq_true rfl) k)) ?_
  exact J.mono (fun k => w_forget (wk_k (wk_k (wk_k (wk_k (wk_k (wk_k wk_0)))))) k) (J_mo_longest_j92_35 hd )
set_option maxRecDepth 20000 in
set_option maxHeartbeats 4000000 in
theorem Jb_mo_longest_b35 {Δ : DT} {Γ : FT} {d : Nat} (hd : 2 ≤ d + 1) {x1 : Int}  {x2 : Int} {x3 : Int} {x4 : Int} {M : MEM} : J (mo_longest_b35 x1 x2 x3 x4 M) (Sum.elim (HD_mo_longest_b35 Δ Γ d x1 M) (X_mo_longest_b35 Δ Γ d x1 M)) (WAt Δ Γ false m_mo_longest (d + 1) 35 [vR (278), vI (x1), vI (x2), vI (x3), vI (x4), vN] [] (NG, S0, M) 0 0) := by
  unfold mo_longest_b35
  refine J.mono (fun k => w_iload rfl rfl (w_aload_n rfl rfl (w_iload_n rfl rfl k))) ?_
  refine J_c (fun r11 e10 => ?_)
  refine J_hyp (fun k => c_vi1 rfl (fun ho hM => cal_mo_strokes (by omega)  e10 ho hM) v_mo_strokes (Nat.le_of_ble_eq_true rfl) S_278 rfl (Nat.le_of_ble_eq_true rfl) k) (fun hr12 hb13 => ?_)
  refine J_ite (fun hc14 => ?_) (fun hc14 => ?_)
  · refine J.mono (fun k => s_icmp_ge_t rfl hc14 k) ?_
    exact J_some (fun k => w_forget (wk_k (wk_k (wk_k (wk_k (wk_d (wk_d wk_0)))))) k)
  · refine J.mono (fun k => s_icmp_ge_f rfl hc14 (w_aload_n rfl rfl (w_iload_n rfl rfl (w_iload rfl rfl (w_iconst rfl (inR_c rfl) (w_iadd rfl k)))))) ?_
    refine J_c (fun r16 e15 => ?_)
    refine J_hyp (fun k => c_vi2 rfl (fun ho hM => cal_mo_line (by omega)  e15 ho hM) v_mo_line (Nat.le_of_ble_eq_true rfl) S_278 rfl (Nat.le_of_ble_eq_true rfl) k) (fun hr17 hb18 => ?_)
    refine J.mono (fun k => w_aload_n rfl rfl (w_iload_n rfl rfl (w_iload rfl rfl k))) ?_
    refine J_c (fun r20 e19 => ?_)
    refine J_hyp (fun k => c_vi2 rfl (fun ho hM => cal_mo_line (by omega)  e19 ho hM) v_mo_line (Nat.le_of_ble_eq_true rfl) S_278 rfl (Nat.le_of_ble_eq_true rfl) k) (fun hr21 hb22 => ?_)
    refine J.mono (fun k => w_isub rfl (s_istore5 rfl (Nat.le_of_ble_eq_true rfl) (w_iload_n rfl rfl (w_iconst rfl (inR_c rfl) k)))) ?_
    refine J_ite (fun hc23 => ?_) (fun hc23 => ?_)
    · refine J.mono (fun k => s_icmp_eq_t rfl hc23 k) ?_
      exact J.mono (fun k => w_forget (wk_k (wk_k (wk_d (wk_k (wk_k (wk_k wk_0)))))) k) (J_mo_longest_j89_35 hd )
    · refine J.mono (fun k => s_icmp_eq_f rfl hc23 (w_iload rfl rfl (w_aload_n rfl rfl (w_iload_n rfl rfl (w_iload_n rfl rfl (w_iconst rfl (inR_c rfl) (w_iadd rfl k))))))) ?_
      refine J_c (fun r35 e34 => ?_)
      refine J_hyp (fun k => c_vi2 rfl (fun ho hM => cal_mo_line (by omega)  e34 ho hM) v_mo_line (Nat.le_of_ble_eq_true rfl) S_278 rfl (Nat.le_of_ble_eq_true rfl) k) (fun hr36 hb37 => ?_)
      refine J.mono (fun k => w_aload_n rfl rfl (w_iload_n rfl rfl (w_iload_n rfl rfl k))) ?_
      refine J_c (fun r39 e38 => ?_)
      refine J_hyp (fun k => c_vi2 rfl (fun ho hM => cal_mo_line (by omega)  e38 ho hM) v_mo_line (Nat.le_of_ble_eq_true rfl) S_278 rfl (Nat.le_of_ble_eq_true rfl) k) (fun hr40 hb41 => ?_)
      refine J.mono (fun k => w_isub rfl k) ?_
      refine J_ite (fun hc42 => ?_) (fun hc42 => ?_)
      · refine J.mono (fun k => s_icmp_le_t rfl hc42 k) ?_
        exact J.mono (fun k => w_forget (wk_k (wk_k (wk_k (wk_k (wk_k (wk_k wk_0)))))) k) (J_mo_longest_j92_35 hd )
      · refine J.mono (fun k => s_icmp_le_f rfl hc42 k) ?_
        exact J.mono (fun k => w_forget (wk_k (wk_k (wk_d (wk_k (wk_k (wk_k wk_0)))))) k) (J_mo_longest_j89_35 hd )
set_option maxRecDepth 20000 in
set_option maxHeartbeats 4000000 in
theorem Jl_mo_longest_b35 {Δ : DT} {Γ : FT} {d : Nat} (hd : 2 ≤ d + 1) {x1 : Int}  {M : MEM} : ∀ (n : Nat) (s : Int × Int × Int), J (iter (fun s => mo_longest_b35 x1 s.1 s.2.1 s.2.2 M) n s) (X_mo_longest_b35 Δ Γ d x1 M) (HD_mo_longest_b35 Δ Γ d x1 M s) := J_iter (fun s => Jb_mo_longest_b35 hd )
set_option maxRecDepth 20000 in
set_option maxHeartbeats 4000000 in
theorem J_mo_longest {Δ : DT} {Γ : FT} {d : Nat} (hd : 2 ≤ d + 1) {x1 : Int}  {M : MEM} : J (mo_longest x1 M) (K_IM Δ Γ m_mo_longest) (WAt Δ Γ false m_mo_longest (d + 1) 0 [vR (278), vI (x1), vN, vN, vN, vN] [] (NG, S0, M) 0 0) := by
  unfold mo_longest
  refine J.mono (fun k => w_aload_n rfl rfl (w_iconst rfl (inR_c rfl) k)) ?_
  refine J_b ?_
  refine J.mono (fun k => w_putI rfl (Nat.le_of_ble_eq_true rfl) S_278 rfl rfl (w_aload_n rfl rfl (w_iload_n rfl rfl k))) ?_
  refine J_hyp (fun k => c_vi1 rfl (fun ho hM => cal_mo_isDonkey (by omega)   ho hM) v_mo_isDonkey (Nat.le_of_ble_eq_true rfl) S_278 rfl (Nat.le_of_ble_eq_true rfl) k) (fun hr3 hb4 => ?_)
  refine J_ite (fun hc5 => ?_) (fun hc5 => ?_)
  · refine J.mono (fun k => s_if_ne_f rfl hc5 (w_iconst rfl (inR_c rfl) k)) ?_
    exact J_some (fun k => w_ireturn rfl rfl k)
  · refine J.mono (fun k => s_if_ne_t rfl hc5 (w_iconst rfl (inR_c rfl) (s_istore2 rfl (Nat.le_of_ble_eq_true rfl) (w_iconst rfl (inR_c rfl) (s_istore3 rfl (Nat.le_of_ble_eq_true rfl) (w_iconst rfl (inR_c rfl) (w_aload_n rfl rfl (w_iload_n rfl rfl k)))))))) ?_
    refine J_c (fun r7 e6 => ?_)
    refine J_hyp (fun k => c_vi1 rfl (fun ho hM => cal_mo_strokes (by omega)  e6 ho hM) v_mo_strokes (Nat.le_of_ble_eq_true rfl) S_278 rfl (Nat.le_of_ble_eq_true rfl) k) (fun hr8 hb9 => ?_)
    refine J.mono (fun k => w_bipush rfl (bip_c rfl) (w_isub rfl (w_iconst rfl (inR_c rfl) (w_iadd rfl k)))) ?_
    refine J.mono (fun k => w_mmax rfl (Nat.le_of_ble_eq_true rfl) k) ?_
    refine J.mono (fun k => s_istore4 rfl (Nat.le_of_ble_eq_true rfl) k) ?_
    refine J.mono (fun k => w_forget (wk_k (wk_k (wk_k (wk_k (wk_k (wk_d wk_0)))))) k) ?_
    refine J_loop (Jl_mo_longest_b35 hd  _ _) (fun w43 => ?_)
    refine J.mono (fun k => w_iload_n rfl rfl (w_iconst rfl (inR_c rfl) k)) ?_
    refine J_ite (fun hc44 => ?_) (fun hc44 => ?_)
    · refine J.mono (fun k => s_icmp_ne_f rfl hc44 (w_bipush rfl (bip_c rfl) k)) ?_
      exact J_some (fun k => w_ireturn rfl rfl k)
    · refine J.mono (fun k => s_icmp_ne_t rfl hc44 (w_aload_n rfl rfl (w_iconst rfl (inR_c rfl) k))) ?_
      refine J_b ?_
      refine J.mono (fun k => w_putI rfl (Nat.le_of_ble_eq_true rfl) S_278 rfl rfl (w_aload_n rfl rfl (w_aload_n rfl rfl (w_iload_n rfl rfl (w_iload_n rfl rfl (w_iconst rfl (inR_c rfl) (w_iadd rfl k))))))) ?_
      refine J_c (fun r47 e46 => ?_)
      refine J_hyp (fun k => c_vi2 rfl (fun ho hM => cal_mo_line (by omega)  e46 ho hM) v_mo_line (Nat.le_of_ble_eq_true rfl) S_278 rfl (Nat.le_of_ble_eq_true rfl) k) (fun hr48 hb49 => ?_)
      refine J.mono (fun k => w_aload_n rfl rfl (w_iload_n rfl rfl (w_iload_n rfl rfl k))) ?_
      refine J_c (fun r51 e50 => ?_)
      refine J_hyp (fun k => c_vi2 rfl (fun ho hM => cal_mo_line (by omega)  e50 ho hM) v_mo_line (Nat.le_of_ble_eq_true rfl) S_278 rfl (Nat.le_of_ble_eq_true rfl) k) (fun hr52 hb53 => ?_)
      refine J.mono (fun k => w_isub rfl k) ?_
      refine J_c (fun M55 e54 => ?_)
      refine J.mono (fun k => c_vv1 rfl (fun ho hM => cal_mo_tell (by omega)  e54 ho hM) v_mo_tell (Nat.le_of_ble_eq_true rfl) S_278 rfl (Nat.le_of_ble_eq_true rfl) (w_aload_n rfl rfl (w_iload_n rfl rfl k))) ?_
      refine J_c (fun M57 e56 => ?_)
      refine J.mono (fun k => c_vv1 rfl (fun ho hM => cal_mo_tell (by omega)  e56 ho hM) v_mo_tell (Nat.le_of_ble_eq_true rfl) S_278 rfl (Nat.le_of_ble_eq_true rfl) (w_aload_n rfl rfl (w_aload_n rfl rfl (w_iload_n rfl rfl (w_iload_n rfl rfl (w_iconst rfl (inR_c rfl) (w_iadd rfl k))))))) ?_
      refine J_c (fun r59 e58 => ?_)
      refine J_hyp (fun k => c_vi2 rfl (fun ho hM => cal_mo_line (by omega)  e58 ho hM) v_mo_line (Nat.le_of_ble_eq_true rfl) S_278 rfl (Nat.le_of_ble_eq_true rfl) k) (fun hr60 hb61 => ?_)
      refine J.mono (fun k => w_aload_n rfl rfl (w_iload_n rfl rfl (w_iload_n rfl rfl k))) ?_
      refine J_c (fun r63 e62 => ?_)
      refine J_hyp (fun k => c_vi2 rfl (fun ho hM => cal_mo_line (by omega)  e62 ho hM) v_mo_line (Nat.le_of_ble_eq_true rfl) S_278 rfl (Nat.le_of_ble_eq_true rfl) k) (fun hr64 hb65 => ?_)
      refine J.mono (fun k => w_isub rfl k) ?_
      refine J_c (fun M67 e66 => ?_)
      refine J.mono (fun k => c_vv1 rfl (fun ho hM => cal_mo_tell (by omega)  e66 ho hM) v_mo_tell (Nat.le_of_ble_eq_true rfl) S_278 rfl (Nat.le_of_ble_eq_true rfl) (w_iload_n rfl rfl k)) ?_
      exact J_some (fun k => w_ireturn rfl rfl k)
set_option maxRecDepth 20000 in
set_option maxHeartbeats 4000000 in
theorem cal_mo_longest {Δ : DT} {d : Nat} (hd : 2 ≤ d) {x1 : Int}  {M : MEM} {p : Int × MEM} (h : mo_longest x1 M = some p) (ho : okVs [vR 278, vI x1]) (hM : okM M) : Cal Δ false m_mo_longest d [vR 278, vI x1] (NG, S0, M) (some p.1) (NG, S0, p.2) 0 0 := by
  obtain ⟨d, rfl⟩ : ∃ e, d = e + 1 := ⟨d - 1, by omega⟩
  exact cal_of g_mo_longest p_mo_longest (fun v hv => by simp only [List.mem_cons, List.not_mem_nil, or_false] at hv; rcases hv with rfl | rfl <;> first | exact Or.inl ⟨_, rfl⟩ | exact Or.inr ⟨_, rfl⟩) ho hM (Nat.le_of_ble_eq_true rfl) (fun Γ _ k => J_mo_longest hd  _ h k)

