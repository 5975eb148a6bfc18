set_option maxRecDepth 20000 in
set_option maxHeartbeats 4000000 in
theorem J_fu_begin {Δ : DT} {Γ : FT} {d : Nat} (hd : 2 ≤ d + 1) {a0 : Nat} {a1 : Nat} {x2 : Int} {x3 : Int} (h_a0 : is_fu a0) (h_a1 : is_be a1) {M : MEM} : J (fu_begin a0 a1 x2 x3 M) (K_M Δ Γ m_fu_begin) (WAt Δ Γ false m_fu_begin (d + 1) 0 [vR (a0), vR (a1), vI (x2), vI (x3)] [] (NG, S0, M) 0 0) := by
  unfold fu_begin
  refine J.mono (fun k => w_aload_n rfl rfl (w_getR (r := (a0 + 6)) rfl (fu_S h_a0).1 (fu_S h_a0).2 rfl (w_aload_n rfl rfl k))) ?_
  refine J_c (fun M2 e1 => ?_)
  refine J.mono (fun k => c_vv1 rfl (fun ho hM => cal_be_copyButBook (by omega) (fu_f4 h_a0) h_a1 e1 ho hM) v_be_copyButBook (be_S (fu_f4 h_a0)).1 (be_S (fu_f4 h_a0)).2 rfl (Nat.le_of_ble_eq_true rfl) (w_aload_n rfl rfl (w_iload_n rfl rfl k))) ?_
  refine J_b ?_
  refine J.mono (fun k => w_putI rfl (fu_S h_a0).1 (fu_S h_a0).2 rfl rfl (w_aload_n rfl rfl (w_iload_n rfl rfl k))) ?_
  refine J_b ?_
  refine J.mono (fun k => w_putI rfl (fu_S h_a0).1 (fu_S h_a0).2 rfl rfl (w_aload_n rfl rfl (w_iconst rfl (inR_c rfl) k))) ?_
  refine J_b ?_
  refine J.mono (fun k => w_putI rfl (fu_S h_a0).1 (fu_S h_a0).2 rfl rfl (w_aload_n rfl rfl (w_iconst rfl (inR_c rfl) k))) ?_
  refine J_b ?_
  refine J.mono (fun k => w_putI rfl (fu_S h_a0).1 (fu_S h_a0).2 rfl rfl k) ?_
  exact J_some (fun k => w_return rfl rfl k)
set_option maxRecDepth 20000 in
set_option maxHeartbeats 4000000 in
theorem cal_fu_begin {Δ : DT} {d : Nat} (hd : 2 ≤ d) {a0 : Nat} {a1 : Nat} {x2 : Int} {x3 : Int} (h_a0 : is_fu a0) (h_a1 : is_be a1) {M : MEM} {M1 : MEM} (h : fu_begin a0 a1 x2 x3 M = some M1) (ho : okVs [vR a0, vR a1, vI x2, vI x3]) (hM : okM M) : Cal Δ false m_fu_begin d [vR a0, vR a1, vI x2, vI x3] (NG, S0, M) none (NG, S0, M1) 0 0 := by
  obtain ⟨d, rfl⟩ : ∃ e, d = e + 1 := ⟨d - 1, by omega⟩
  exact cal_of g_fu_begin p_fu_begin (fun v hv => by simp only [List.mem_cons, List.not_mem_nil, or_false] at hv; rcases hv with rfl | rfl | rfl | rfl <;> first | exact Or.inl ⟨_, rfl⟩ | exact Or.inr ⟨_, rfl⟩) ho hM (Nat.le_of_ble_eq_true rfl) (fun Γ _ k => J_fu_begin hd h_a0 h_a1 _ h k)
set_option maxRecDepth 20000 in
set_option maxHeartbeats 4000000 in
theorem J_dh_look {Δ : DT} {Γ : FT} {d : Nat} (hd : 3 ≤ d + 1) {a1 : Nat} {x2 : Int} (h_a1 : is_fu a1) {M : MEM} : J (dh_look a1 x2 M) (K_M Δ Γ m_dh_look) (WAt Δ Γ false m_dh_look (d + 1) 0 [vR (0), vR (a1), vI (x2)] [] (NG, S0, M) 0 0) := by
  unfold dh_look
  refine J.mono (fun k => w_aload_n rfl rfl (w_iload_n rfl rfl k)) ?_
  refine J_hyp (fun k => c_vi1 rfl (fun ho hM => cal_dh_isDonkey (by omega)   ho hM) v_dh_isDonkey (Nat.le_of_ble_eq_true rfl) S_0 rfl (Nat.le_of_ble_eq_true rfl) k) (fun hr2 hb3 => ?_)
  refine J_ite (fun hc4 => ?_) (fun hc4 => ?_)
  · refine J.mono (fun k => s_if_eq_t rfl hc4 k) ?_
    exact J_some (fun k => w_return rfl rfl k)
  · refine J.mono (fun k => s_if_eq_f rfl hc4 (w_aload_n rfl rfl (w_aload_n rfl rfl (w_getR (r := 3) rfl (Nat.le_of_ble_eq_true rfl) S_0 rfl (w_getR (r := 4) rfl (sc_S is_sc_3).1 (sc_S is_sc_3).2 rfl (w_iload_n rfl rfl k)))))) ?_
    refine J_chk (fun hi5 => ?_)
    refine J.mono (fun k => w_aald rfl (scb_S is_sc_3).1 (Or.inl rfl) (scb_S is_sc_3).2 hi5.1 (scb_get hi5.1 hi5.2) (w_iload_n rfl rfl (w_aload_n rfl rfl (w_getR (r := 3) rfl (Nat.le_of_ble_eq_true rfl) S_0 rfl (w_getI rfl (sc_S is_sc_3).1 (sc_S is_sc_3).2 rfl k))))) ?_
    refine J_c (fun M7 e6 => ?_)
    refine J.mono (fun k => c_vv3 rfl (fun ho hM => cal_fu_begin (by omega) h_a1 (scb_is is_sc_3 hi5.1 hi5.2) e6 ho hM) v_fu_begin (fu_S h_a1).1 (fu_S h_a1).2 rfl (Nat.le_of_ble_eq_true rfl) k) ?_
    exact J_some (fun k => w_return rfl rfl k)
set_option maxRecDepth 20000 in
set_option maxHeartbeats 4000000 in
theorem cal_dh_look {Δ : DT} {d : Nat} (hd : 3 ≤ d) {a1 : Nat} {x2 : Int} (h_a1 : is_fu a1) {M : MEM} {M1 : MEM} (h : dh_look a1 x2 M = some M1) (ho : okVs [vR 0, vR a1, vI x2]) (hM : okM M) : Cal Δ false m_dh_look d [vR 0, vR a1, vI x2] (NG, S0, M) none (NG, S0, M1) 0 0 := by
  obtain ⟨d, rfl⟩ : ∃ e, d = e + 1 := ⟨d - 1, by omega⟩
  exact cal_of g_dh_look p_dh_look (fun v hv => by simp only [List.mem_cons, List.not_mem_nil, or_false] at hv; rcases hv with rfl | rfl | rfl <;> first | exact Or.inl ⟨_, rfl⟩ | exact Or.inr ⟨_, rfl⟩) ho hM (Nat.le_of_ble_eq_true rfl) (fun Γ _ k => J_dh_look hd h_a1 _ h k)
set_option maxRecDepth 20000 in
set_option maxHeartbeats 4000000 in
theorem J_fu_step_j142 {Δ : DT} {Γ : FT} {d : Nat} (hd : 2 ≤ d + 1) {a0 : Nat} {x4 : Int} (h_a0 : is_fu a0) {M : MEM} : J (fu_step_j142 a0 x4 M) (K_IM Δ Γ m_fu_step) (WAt Δ Γ false m_fu_step (d + 1) 142 [vR (a0), vN, vN, vN, vI (x4)] [] (NG, S0, M) 0 0) := by
  unfold fu_step_j142
  refine J.mono (fun k => w_aload_n rfl rfl (w_dup rfl (fun _ h => by cases h) (w_getI rfl (fu_S h_a0).1 (fu_S h_a0).2 rfl (w_iconst rfl (inR_c rfl) (w_iadd rfl k))))) ?_
  refine J_b ?_
  refine J.mono (fun k => w_putI rfl (fu_S h_a0).1 (fu_S h_a0).2 rfl rfl (w_iload rfl rfl k)) ?_
  exact J_some (fun k => w_ireturn rfl rfl k)
set_option maxRecDepth 20000 in
set_option maxHeartbeats 4000000 in
theorem J_fu_step_j32 {Δ : DT} {Γ : FT} {d : Nat} (hd : 2 ≤ d + 1) {a0 : Nat} {x1 : Int} {s0 : Int} (h_a0 : is_fu a0) {M : MEM} : J (fu_step_j32 a0 x1 s0 M) (K_IM Δ Γ m_fu_step) (WAt Δ Γ false m_fu_step (d + 1) 32 [vR (a0), vI (x1), vN, vN, vN] [vI (s0)] (NG, S0, M) 0 0) := by
  unfold fu_step_j32
  refine J.mono (fun k => s_istore2 rfl (Nat.le_of_ble_eq_true rfl) (w_aload_n rfl rfl (w_getR (r := 5) rfl (fu_S h_a0).1 (fu_S h_a0).2 rfl (w_aload_n rfl rfl (w_getI rfl (fu_S h_a0).1 (fu_S h_a0).2 rfl (w_iload_n rfl rfl k)))))) ?_
  refine J_c (fun r3 e2 => ?_)
  refine J_hyp (fun k => c_vi2 rfl (fun ho hM => cal_ca_pull (by omega) is_ca_5 e2 ho hM) v_ca_pull (ca_S is_ca_5).1 (ca_S is_ca_5).2 rfl (Nat.le_of_ble_eq_true rfl) k) (fun hr4 hb5 => ?_)
  refine J.mono (fun k => w_aload_n rfl rfl (w_getR (r := (a0 + 1)) rfl (fu_S h_a0).1 (fu_S h_a0).2 rfl (w_aload_n rfl rfl (w_getI rfl (fu_S h_a0).1 (fu_S h_a0).2 rfl (w_iload_n rfl rfl k))))) ?_
  refine J_c (fun r7 e6 => ?_)
  refine J_hyp (fun k => c_vi2 rfl (fun ho hM => cal_ca_pull (by omega) (fu_f3 h_a0) e6 ho hM) v_ca_pull (ca_S (fu_f3 h_a0)).1 (ca_S (fu_f3 h_a0)).2 rfl (Nat.le_of_ble_eq_true rfl) k) (fun hr8 hb9 => ?_)
  refine J.mono (fun k => w_iadd rfl (s_istore3 rfl (Nat.le_of_ble_eq_true rfl) (w_aload_n rfl rfl (w_getR (r := 21) rfl (fu_S h_a0).1 (fu_S h_a0).2 rfl (w_aload_n rfl rfl (w_getR (r := (a0 + 6)) rfl (fu_S h_a0).1 (fu_S h_a0).2 rfl (w_iload_n rfl rfl (w_iload_n rfl rfl (w_iload_n rfl rfl (w_aload_n rfl rfl (w_getI rfl (fu_S h_a0).1 (fu_S h_a0).2 rfl k))))))))))) ?_
  refine J_c (fun M11 e10 => ?_)
  refine J.mono (fun k => c_vv5 rfl (fun ho hM => cal_ru_give (by omega) is_ru_21 (fu_f4 h_a0) e10 ho hM) v_ru_give (ru_S is_ru_21).1 (ru_S is_ru_21).2 rfl (Nat.le_of_ble_eq_true rfl) (w_aload_n rfl rfl (w_getR (r := (a0 + 6)) rfl (fu_S h_a0).1 (fu_S h_a0).2 rfl (w_aload_n rfl rfl (w_getR (r := 21) rfl (fu_S h_a0).1 (fu_S h_a0).2 rfl k))))) ?_
  refine J_c (fun p13 e12 => ?_)
  refine J_hyp (fun k => c_vi0 rfl (fun ho hM => cal_ru_pace (by omega) is_ru_21 e12 ho hM) v_ru_pace (ru_S is_ru_21).1 (ru_S is_ru_21).2 rfl (Nat.le_of_ble_eq_true rfl) k) (fun hr14 hb15 => ?_)
  refine J_c (fun p17 e16 => ?_)
  refine J_hyp (fun k => c_vi1 rfl (fun ho hM => cal_be_walk (by omega) (fu_f4 h_a0) e16 ho hM) v_be_walk (be_S (fu_f4 h_a0)).1 (be_S (fu_f4 h_a0)).2 rfl (Nat.le_of_ble_eq_true rfl) k) (fun hr18 hb19 => ?_)
  refine J.mono (fun k => s_istore4 rfl (Nat.le_of_ble_eq_true rfl) (w_iload rfl rfl (w_iconst rfl (inR_c rfl) (w_iand rfl k)))) ?_
  refine J_ite (fun hc20 => ?_) (fun hc20 => ?_)
  · refine J.mono (fun k => s_if_eq_t rfl hc20 k) ?_
    exact J.mono (fun k => w_forget (wk_k (wk_d (wk_d (wk_d (wk_k wk_0))))) k) (J_fu_step_j142 hd h_a0)
  · refine J.mono (fun k => s_if_eq_f rfl hc20 (w_aload_n rfl rfl (w_getI rfl (fu_S h_a0).1 (fu_S h_a0).2 rfl k))) ?_
    refine J_ite (fun hc22 => ?_) (fun hc22 => ?_)
    · refine J.mono (fun k => s_if_lt_t rfl hc22 k) ?_
      exact J.mono (fun k => w_forget (wk_k (wk_d (wk_d (wk_d (wk_k wk_0))))) k) (J_fu_step_j142 hd h_a0)
    · refine J.mono (fun k => s_if_lt_f rfl hc22 (w_aload_n rfl rfl (w_getI rfl (fu_S h_a0).1 (fu_S h_a0).2 rfl (w_aload_n rfl rfl (w_getR (r := (a0 + 9)) rfl (fu_S h_a0).1 (fu_S h_a0).2 rfl (w_alen rfl (fu_f5 h_a0).1 (Nat.le_of_ble_eq_true rfl) (fu_f5 h_a0).2 (Nat.le_of_ble_eq_true rfl) k)))))) ?_
      refine J_ite (fun hc23 => ?_) (fun hc23 => ?_)
      · refine J.mono (fun k => s_icmp_ge_t rfl hc23 k) ?_
        exact J.mono (fun k => w_forget (wk_k (wk_d (wk_d (wk_d (wk_k wk_0))))) k) (J_fu_step_j142 hd h_a0)
      · refine J.mono (fun k => s_icmp_ge_f rfl hc23 (w_aload_n rfl rfl (w_getR (r := (a0 + 9)) rfl (fu_S h_a0).1 (fu_S h_a0).2 rfl (w_aload_n rfl rfl (w_getI rfl (fu_S h_a0).1 (fu_S h_a0).2 rfl (w_aload_n rfl rfl (w_getI rfl (fu_S h_a0).1 (fu_S h_a0).2 rfl k))))))) ?_
        refine J_chk (fun hi25 => ?_)
        refine J_b ?_
        refine J.mono (fun k => w_iast rfl (fu_f5 h_a0).1 (fu_f5 h_a0).2 hi25.1 hi25.2 rfl (w_aload_n rfl rfl (w_dup rfl (fun _ h => by cases h) (w_getI rfl (fu_S h_a0).1 (fu_S h_a0).2 rfl (w_iconst rfl (inR_c rfl) (w_iadd rfl k)))))) ?_
        refine J_b ?_
        refine J.mono (fun k => w_putI rfl (fu_S h_a0).1 (fu_S h_a0).2 rfl rfl k) ?_
        exact J.mono (fun k => w_forget (wk_k (wk_d (wk_d (wk_d (wk_k wk_0))))) k) (J_fu_step_j142 hd h_a0)
set_option maxRecDepth 20000 in
set_option maxHeartbeats 4000000 in
theorem J_fu_step {Δ : DT} {Γ : FT} {d : Nat} (hd : 2 ≤ d + 1) {a0 : Nat} (h_a0 : is_fu a0) {M : MEM} : J (fu_step a0 M) (K_IM Δ Γ m_fu_step) (WAt Δ Γ false m_fu_step (d + 1) 0 [vR (a0), vN, vN, vN, vN] [] (NG, S0, M) 0 0) := by
  unfold fu_step
  refine J.mono (fun k => w_aload_n rfl rfl (w_getI rfl (fu_S h_a0).1 (fu_S h_a0).2 rfl (w_aload_n rfl rfl (w_getI rfl (fu_S h_a0).1 (fu_S h_a0).2 rfl (w_iadd rfl (s_istore1 rfl (Nat.le_of_ble_eq_true rfl) (w_aload_n rfl rfl (w_getI rfl (fu_S h_a0).1 (fu_S h_a0).2 rfl k)))))))) ?_
  refine J_ite (fun hc1 => ?_) (fun hc1 => ?_)
  · refine J.mono (fun k => s_if_ge_t rfl hc1 (w_aload_n rfl rfl (w_getI rfl (fu_S h_a0).1 (fu_S h_a0).2 rfl k))) ?_
    exact J.mono (fun k => w_forget (wk_k (wk_k (wk_d (wk_d (wk_d wk_0))))) k) (J_fu_step_j32 hd h_a0)
  · refine J.mono (fun k => s_if_ge_f rfl hc1 (w_aload_n rfl rfl (w_getR (r := 19) rfl (fu_S h_a0).1 (fu_S h_a0).2 rfl (w_iload_n rfl rfl k)))) ?_
    refine J_c (fun r28 e27 => ?_)
    refine J_hyp (fun k => c_vi1 rfl (fun ho hM => cal_fl_in (by omega)  e27 ho hM) v_fl_in (Nat.le_of_ble_eq_true rfl) S_19 rfl (Nat.le_of_ble_eq_true rfl) k) (fun hr29 hb30 => ?_)
    refine J.mono (fun k => w_goto rfl k) ?_
    exact J.mono (fun k => w_forget (wk_k (wk_k (wk_d (wk_d (wk_d wk_0))))) k) (J_fu_step_j32 hd h_a0)
set_option maxRecDepth 20000 in
set_option maxHeartbeats 4000000 in
theorem cal_fu_step {Δ : DT} {d : Nat} (hd : 2 ≤ d) {a0 : Nat} (h_a0 : is_fu a0) {M : MEM} {p : Int × MEM} (h : fu_step a0 M = some p) (ho : okVs [vR a0]) (hM : okM M) : Cal Δ false m_fu_step d [vR a0] (NG, S0, M) (some p.1) (NG, S0, p.2) 0 0 := by
  obtain ⟨d, rfl⟩ : ∃ e, d = e + 1 := ⟨d - 1, by omega⟩
  exact cal_of g_fu_step p_fu_step (fun v hv => by simp only [List.mem_cons, List.not_mem_nil, or_false] at hv; rcases hv with rfl <;> first | exact Or.inl ⟨_, rfl⟩ | exact Or.inr ⟨_, rfl⟩) ho hM (Nat.le_of_ble_eq_true rfl) (fun Γ _ k => J_fu_step hd h_a0 _ h k)
abbrev HD_fu_run_b5 (Δ : DT) (Γ : FT) (d : Nat) (a0 : Nat) (x1 : Int) (x2 : Int) (s : Int × MEM) : Prop := WAt Δ Γ false m_fu_run (d + 1) 5 [vR (a0), vI (x1), vI (x2), vI (s.1)] [] (NG, S0, s.2) 0 0
abbrev X_fu_run_b5 (Δ : DT) (Γ : FT) (d : Nat) (a0 : Nat) (x1 : Int) (x2 : Int) (s : Int × MEM) : Prop := WAt Δ Γ false m_fu_run (d + 1) 29 [vN, vN, vN, vN] [] (NG, S0, s.2) 0 0
set_option maxRecDepth 20000 in
set_option maxHeartbeats 4000000 in
theorem Jb_fu_run_b5 {Δ : DT} {Γ : FT} {d : Nat} (hd : 3 ≤ d + 1) {a0 : Nat} {x1 : Int} {x2 : Int} (h_a0 : is_fu a0) {x3 : Int} {M : MEM} : J (fu_run_b5 a0 x1 x2 x3 M) (Sum.elim (HD_fu_run_b5 Δ Γ d a0 x1 x2) (X_fu_run_b5 Δ Γ d a0 x1 x2)) (WAt Δ Γ false m_fu_run (d + 1) 5 [vR (a0), vI (x1), vI (x2), vI (x3)] [] (NG, S0, M) 0 0) := by
  unfold fu_run_b5
  refine J.mono (fun k => w_iload_n rfl rfl (w_iload_n rfl rfl k)) ?_
  refine J_ite (fun hc1 => ?_) (fun hc1 => ?_)
  · refine J.mono (fun k => s_icmp_ge_t rfl hc1 k) ?_
    exact J_some (fun k => w_forget (wk_d (wk_d (wk_d (wk_d wk_0)))) k)
  · refine J.mono (fun k => s_icmp_ge_f rfl hc1 (w_aload_n rfl rfl (w_getI rfl (fu_S h_a0).1 (fu_S h_a0).2 rfl (w_iload_n rfl rfl k)))) ?_
    refine J_ite (fun hc2 => ?_) (fun hc2 => ?_)
    · refine J.mono (fun k => s_icmp_ge_t rfl hc2 k) ?_
      exact J_some (fun k => w_forget (wk_d (wk_d (wk_d (wk_d wk_0)))) k)
    · refine J.mono (fun k => s_icmp_ge_f rfl hc2 (w_aload_n rfl rfl k)) ?_
      refine J_c (fun p4 e3 => ?_)
      refine J_hyp (fun k => c_vi0 rfl (fun ho hM => cal_fu_step (by omega) h_a0 e3 ho hM) v_fu_step (fu_S h_a0).1 (fu_S h_a0).2 rfl (Nat.le_of_ble_eq_true rfl) k) (fun hr5 hb6 => ?_)
      refine J.mono (fun k => w_pop rfl (fun _ h => by cases h) (s_iinc3 rfl (Nat.le_of_ble_eq_true rfl) (w_goto rfl k))) ?_
      exact J_some (fun k => w_forget (wk_k (wk_k (wk_k (wk_k wk_0)))) k)
set_option maxRecDepth 20000 in
set_option maxHeartbeats 4000000 in
theorem Jl_fu_run_b5 {Δ : DT} {Γ : FT} {d : Nat} (hd : 3 ≤ d + 1) {a0 : Nat} {x1 : Int} {x2 : Int} (h_a0 : is_fu a0)  : ∀ (n : Nat) (s : Int × MEM), J (iter (fun s => fu_run_b5 a0 x1 x2 s.1 s.2) n s) (X_fu_run_b5 Δ Γ d a0 x1 x2) (HD_fu_run_b5 Δ Γ d a0 x1 x2 s) := J_iter (fun s => Jb_fu_run_b5 hd h_a0)
set_option maxRecDepth 20000 in
set_option maxHeartbeats 4000000 in
theorem J_fu_run {Δ : DT} {Γ : FT} {d : Nat} (hd : 3 ≤ d + 1) {a0 : Nat} {x1 : Int} {x2 : Int} (h_a0 : is_fu a0) {M : MEM} : J (fu_run a0 x1 x2 M) (K_M Δ Γ m_fu_run) (WAt Δ Γ false m_fu_run (d + 1) 0 [vR (a0), vI (x1), vI (x2), vN] [] (NG, S0, M) 0 0) := by
  unfold fu_run
  refine J.mono (fun k => w_aload_n rfl rfl (w_getI rfl (fu_S h_a0).1 (fu_S h_a0).2 rfl (s_istore3 rfl (Nat.le_of_ble_eq_true rfl) k))) ?_
  refine J.mono (fun k => w_forget (wk_k (wk_k (wk_k (wk_k wk_0)))) k) ?_
  refine J_loop (Jl_fu_run_b5 hd h_a0 _ _) (fun w7 => ?_)
  exact J_some (fun k => w_return rfl rfl k)
set_option maxRecDepth 20000 in
set_option maxHeartbeats 4000000 in
theorem cal_fu_run {Δ : DT} {d : Nat} (hd : 3 ≤ d) {a0 : Nat} {x1 : Int} {x2 : Int} (h_a0 : is_fu a0) {M : MEM} {M1 : MEM} (h : fu_run a0 x1 x2 M = some M1) (ho : okVs [vR a0, vI x1, vI x2]) (hM : okM M) : Cal Δ false m_fu_run d [vR a0, vI x1, vI x2] (NG, S0, M) none (NG, S0, M1) 0 0 := by
  obtain ⟨d, rfl⟩ : ∃ e, d = e + 1 := ⟨d - 1, by omega⟩
  exact cal_of g_fu_run p_fu_run (fun v hv => by simp only [List.mem_cons, List.not_mem_nil, or_false] at hv; rcases hv with rfl | rfl | rfl <;> first | exact Or.inl ⟨_, rfl⟩ | exact Or.inr ⟨_, rfl⟩) ho hM (Nat.le_of_ble_eq_true rfl) (fun Γ _ k => J_fu_run hd h_a0 _ h k)
set_option maxRecDepth 20000 in
set_option maxHeartbeats 4000000 in
theorem J_dh_ahead {Δ : DT} {Γ : FT} {d : Nat} (hd : 4 ≤ d + 1) {x1 : Int} {x2 : Int}  {M : MEM} : J (dh_ahead x1 x2 M) (K_IM Δ Γ m_dh_ahead) (WAt Δ Γ false m_dh_ahead (d + 1) 0 [vR (0), vI (x1), vI (x2)] [] (NG, S0, M) 0 0) := by
  unfold dh_ahead
  refine J.mono (fun k => w_aload_n rfl rfl (w_iload_n rfl rfl k)) ?_
  refine J_hyp (fun k => c_vi1 rfl (fun ho hM => cal_dh_isDonkey (by omega)   ho hM) v_dh_isDonkey (Nat.le_of_ble_eq_true rfl) S_0 rfl (Nat.le_of_ble_eq_true rfl) k) (fun hr2 hb3 => ?_)
  refine J_ite (fun hc4 => ?_) (fun hc4 => ?_)
  · refine J.mono (fun k => s_if_eq_t rfl hc4 (w_iconst rfl (inR_c rfl) k)) ?_
    exact J_some (fun k => w_ireturn rfl rfl k)
  · refine J.mono (fun k => s_if_eq_f rfl hc4 (w_iload_n rfl rfl k)) ?_
    refine J_ite (fun hc5 => ?_) (fun hc5 => ?_)
    · refine J.mono (fun k => s_if_lt_t rfl hc5 (w_iconst rfl (inR_c rfl) k)) ?_
      exact J_some (fun k => w_ireturn rfl rfl k)
    · refine J.mono (fun k => s_if_lt_f rfl hc5 (w_iload_n rfl rfl (w_sipush rfl (sip_c rfl) k))) ?_
      refine J_ite (fun hc6 => ?_) (fun hc6 => ?_)
      · refine J.mono (fun k => s_icmp_le_t rfl hc6 (w_aload_n rfl rfl (w_aload_n rfl rfl (w_getR (r := 224) rfl (Nat.le_of_ble_eq_true rfl) S_0 rfl (w_iload_n rfl rfl k))))) ?_
        refine J_c (fun M8 e7 => ?_)
        refine J.mono (fun k => c_vv2 rfl (fun ho hM => cal_dh_look (by omega) is_fu_224 e7 ho hM) v_dh_look (Nat.le_of_ble_eq_true rfl) S_0 rfl (Nat.le_of_ble_eq_true rfl) (w_aload_n rfl rfl (w_getR (r := 224) rfl (Nat.le_of_ble_eq_true rfl) S_0 rfl (w_iload_n rfl rfl (w_sipush rfl (sip_c rfl) k))))) ?_
        refine J_c (fun M10 e9 => ?_)
        refine J.mono (fun k => c_vv2 rfl (fun ho hM => cal_fu_run (by omega) is_fu_224 e9 ho hM) v_fu_run (fu_S is_fu_224).1 (fu_S is_fu_224).2 rfl (Nat.le_of_ble_eq_true rfl) (w_aload_n rfl rfl k)) ?_
        refine J_c (fun M12 e11 => ?_)
        refine J.mono (fun k => c_vv0 rfl (fun ho hM => cal_dh_newRow (by omega)  e11 ho hM) v_dh_newRow (Nat.le_of_ble_eq_true rfl) S_0 rfl (Nat.le_of_ble_eq_true rfl) (w_aload_n rfl rfl (w_aload_n rfl rfl (w_getR (r := 224) rfl (Nat.le_of_ble_eq_true rfl) S_0 rfl (w_getR (r := 230) rfl (fu_S is_fu_224).1 (fu_S is_fu_224).2 rfl (w_getI rfl (be_S is_be_230).1 (be_S is_be_230).2 rfl k)))))) ?_
        refine J_c (fun M14 e13 => ?_)
        refine J.mono (fun k => c_vv1 rfl (fun ho hM => cal_dh_tell (by omega)  e13 ho hM) v_dh_tell (Nat.le_of_ble_eq_true rfl) S_0 rfl (Nat.le_of_ble_eq_true rfl) (w_aload_n rfl rfl (w_aload_n rfl rfl (w_getR (r := 224) rfl (Nat.le_of_ble_eq_true rfl) S_0 rfl (w_getR (r := 230) rfl (fu_S is_fu_224).1 (fu_S is_fu_224).2 rfl (w_getI rfl (be_S is_be_230).1 (be_S is_be_230).2 rfl k)))))) ?_
        refine J_c (fun M16 e15 => ?_)
        refine J.mono (fun k => c_vv1 rfl (fun ho hM => cal_dh_tell (by omega)  e15 ho hM) v_dh_tell (Nat.le_of_ble_eq_true rfl) S_0 rfl (Nat.le_of_ble_eq_true rfl) (w_aload_n rfl rfl (w_getR (r := 224) rfl (Nat.le_of_ble_eq_true rfl) S_0 rfl (w_getI rfl (fu_S is_fu_224).1 (fu_S is_fu_224).2 rfl k)))) ?_
        exact J_some (fun k => w_ireturn rfl rfl k)
      · refine J.mono (fun k => s_icmp_le_f rfl hc6 (w_iconst rfl (inR_c rfl) k)) ?_
        exact J_some (fun k => w_ireturn rfl rfl k)
set_option maxRecDepth 20000 in
set_option maxHeartbeats 4000000 in
theorem cal_dh_ahead {Δ : DT} {d : Nat} (hd : 4 ≤ d) {x1 : Int} {x2 : Int}  {M : MEM} {p : Int × MEM} (h : dh_ahead x1 x2 M = some p) (ho : okVs [vR 0, vI x1, vI x2]) (hM : okM M) : Cal Δ false m_dh_ahead d [vR 0, vI x1, vI x2] (NG, S0, M) (some p.1) (NG, S0, p.2) 0 0 := by
  obtain ⟨d, rfl⟩ : ∃ e, d = e + 1 := ⟨d - 1, by omega⟩
  exact cal_of g_dh_ahead p_dh_ahead (fun v hv => by simp only [List.mem_cons, List.not_mem_nil, or_false] at hv; rcases hv with rfl | rfl | rfl <;> first | exact Or.inl ⟨_, rfl⟩ | exact Or.inr ⟨_, rfl⟩) ho hM (Nat.le_of_ble_eq_true rfl) (fun Γ _ k => J_dh_ahead hd  _ h k)
set_option maxRecDepth 20000 in
set_option maxHeartbeats 4000000 in
theorem J_dh_isAskedStroke {Δ : DT} {Γ : FT} {d : Nat} {x0 : Int}  {M : MEM} : J (some (dh_isAskedStroke x0)) (K_I Δ Γ m_dh_isAskedStroke M) (WAt Δ Γ false m_dh_isAskedStroke d 0 [vI (x0)] [] (NG, S0, M) 0 0) := by
  unfold dh_isAskedStroke
  refine J.mono (fun k => w_iload_n rfl rfl (w_iconst rfl (inR_c rfl) k)) ?_
  refine J_iteT (fun hc1 => ?_) (fun hc1 => ?_)
  · refine J.mono (fun k => s_icmp_lt_t rfl hc1 (w_iconst rfl (inR_c rfl) k)) ?_
    exact J_some (fun k => w_zreturn rfl rfl (Or.inl rfl) k)
  · refine J.mono (fun k => s_icmp_lt_f rfl hc1 (w_iload_n rfl rfl (w_bipush rfl (bip_c rfl) k))) ?_
    refine J_iteT (fun hc2 => ?_) (fun hc2 => ?_)
    · refine J.mono (fun k => s_icmp_gt_t rfl hc2 (w_iconst rfl (inR_c rfl) k)) ?_
      exact J_some (fun k => w_zreturn rfl rfl (Or.inl rfl) k)
    · refine J.mono (fun k => s_icmp_gt_f rfl hc2 (w_iconst rfl (inR_c rfl) (w_goto rfl k))) ?_
      exact J_some (fun k => w_zreturn rfl rfl (Or.inr rfl) k)
set_option maxRecDepth 20000 in
set_option maxHeartbeats 4000000 in
theorem cal_dh_isAskedStroke {Δ : DT} {d : Nat} (hd : 0 ≤ d) {x0 : Int}  {M : MEM} (ho : okVs [vI x0]) (hM : okM M) : Cal Δ false m_dh_isAskedStroke d [vI x0] (NG, S0, M) (some (dh_isAskedStroke x0)) (NG, S0, M) 0 0 := by
  exact cal_of g_dh_isAskedStroke p_dh_isAskedStroke (fun v hv => by simp only [List.mem_cons, List.not_mem_nil, or_false] at hv; rcases hv with rfl <;> first | exact Or.inl ⟨_, rfl⟩ | exact Or.inr ⟨_, rfl⟩) ho hM (Nat.le_of_ble_eq_true rfl) (fun Γ _ k => J_dh_isAskedStroke  _ rfl k)
set_option maxRecDepth 20000 in
set_option maxHeartbeats 4000000 in
theorem J_fu_strokeMinute {Δ : DT} {Γ : FT} {d : Nat} {a0 : Nat} {x1 : Int} (h_a0 : is_fu a0) {M : MEM} : J (fu_strokeMinute a0 x1 M) (K_I Δ Γ m_fu_strokeMinute M) (WAt Δ Γ false m_fu_strokeMinute d 0 [vR (a0), vI (x1)] [] (NG, S0, M) 0 0) := by
  unfold fu_strokeMinute
  refine J.mono (fun k => w_iload_n rfl rfl (w_iconst rfl (inR_c rfl) k)) ?_
  refine J_ite (fun hc1 => ?_) (fun hc1 => ?_)
  · refine J.mono (fun k => s_icmp_lt_t rfl hc1 (w_iconst rfl (inR_c rfl) k)) ?_
    exact J_some (fun k => w_ireturn rfl rfl k)
  · refine J.mono (fun k => s_icmp_lt_f rfl hc1 (w_iload_n rfl rfl (w_aload_n rfl rfl (w_getI rfl (fu_S h_a0).1 (fu_S h_a0).2 rfl k)))) ?_
    refine J_ite (fun hc2 => ?_) (fun hc2 => ?_)
    · refine J.mono (fun k => s_icmp_gt_t rfl hc2 (w_iconst rfl (inR_c rfl) k)) ?_
      exact J_some (fun k => w_ireturn rfl rfl k)
    · refine J.mono (fun k => s_icmp_gt_f rfl hc2 (w_iload_n rfl rfl (w_aload_n rfl rfl (w_getR (r := (a0 + 9)) rfl (fu_S h_a0).1 (fu_S h_a0).2 rfl (w_alen rfl (fu_f5 h_a0).1 (Nat.le_of_ble_eq_true rfl) (fu_f5 h_a0).2 (Nat.le_of_ble_eq_true rfl) k))))) ?_
      refine J_ite (fun hc3 => ?_) (fun hc3 => ?_)
      · refine J.mono (fun k => s_icmp_gt_t rfl hc3 (w_iconst rfl (inR_c rfl) k)) ?_
        exact J_some (fun k => w_ireturn rfl rfl k)
      · refine J.mono (fun k => s_icmp_gt_f rfl hc3 (w_aload_n rfl rfl (w_getR (r := (a0 + 9)) rfl (fu_S h_a0).1 (fu_S h_a0).2 rfl (w_iload_n rfl rfl (w_iconst rfl (inR_c rfl) (w_isub rfl k)))))) ?_
        refine J_chk (fun hi4 => ?_)
        refine J.mono (fun k => w_iald rfl (fu_f5 h_a0).1 (fu_f5 h_a0).2 hi4.1 hi4.2 (w_goto rfl k)) ?_
        exact J_some (fun k => w_ireturn rfl rfl k)
set_option maxRecDepth 20000 in
set_option maxHeartbeats 4000000 in
theorem cal_fu_strokeMinute {Δ : DT} {d : Nat} (hd : 0 ≤ d) {a0 : Nat} {x1 : Int} (h_a0 : is_fu a0) {M : MEM} {r : Int} (h : fu_strokeMinute a0 x1 M = some r) (ho : okVs [vR a0, vI x1]) (hM : okM M) : Cal Δ false m_fu_strokeMinute d [vR a0, vI x1] (NG, S0, M) (some r) (NG, S0, M) 0 0 := by
  exact cal_of g_fu_strokeMinute p_fu_strokeMinute (fun v hv => by simp only [List.mem_cons, List.not_mem_nil, or_false] at hv; rcases hv with rfl | rfl <;> first | exact Or.inl ⟨_, rfl⟩ | exact Or.inr ⟨_, rfl⟩) ho hM (Nat.le_of_ble_eq_true rfl) (fun Γ _ k => J_fu_strokeMinute h_a0 _ h k)
set_option maxRecDepth 20000 in
set_option maxHeartbeats 4000000 in
theorem J_fu_afterStroke {Δ : DT} {Γ : FT} {d : Nat} (hd : 4 ≤ d + 1) {a0 : Nat} {x1 : Int} (h_a0 : is_fu a0) {M : MEM} : J (fu_afterStroke a0 x1 M) (K_IM Δ Γ m_fu_afterStroke) (WAt Δ Γ false m_fu_afterStroke (d + 1) 0 [vR (a0), vI (x1)] [] (NG, S0, M) 0 0) := by
  unfold fu_afterStroke
  refine J.mono (fun k => w_aload_n rfl rfl (w_sipush rfl (sip_c rfl) (w_iload_n rfl rfl k))) ?_
  refine J_c (fun M2 e1 => ?_)
  refine J.mono (fun k => c_vv2 rfl (fun ho hM => cal_fu_run (by omega) h_a0 e1 ho hM) v_fu_run (fu_S h_a0).1 (fu_S h_a0).2 rfl (Nat.le_of_ble_eq_true rfl) (w_iload_n rfl rfl (w_aload_n rfl rfl (w_getI rfl (fu_S h_a0).1 (fu_S h_a0).2 rfl k)))) ?_
  refine J_ite (fun hc3 => ?_) (fun hc3 => ?_)
  · refine J.mono (fun k => s_icmp_gt_t rfl hc3 (w_iconst rfl (inR_c rfl) k)) ?_
    exact J_some (fun k => w_ireturn rfl rfl k)
  · refine J.mono (fun k => s_icmp_gt_f rfl hc3 (w_aload_n rfl rfl (w_iload_n rfl rfl k))) ?_
    refine J_c (fun r5 e4 => ?_)
    refine J_hyp (fun k => c_vi1 rfl (fun ho hM => cal_fu_strokeMinute (by omega) h_a0 e4 ho hM) v_fu_strokeMinute (fu_S h_a0).1 (fu_S h_a0).2 rfl (Nat.le_of_ble_eq_true rfl) k) (fun hr6 hb7 => ?_)
    refine J.mono (fun k => w_iconst rfl (inR_c rfl) (w_iadd rfl (w_goto rfl k))) ?_
    exact J_some (fun k => w_ireturn rfl rfl k)
set_option maxRecDepth 20000 in
set_option maxHeartbeats 4000000 in
theorem cal_fu_afterStroke {Δ : DT} {d : Nat} (hd : 4 ≤ d) {a0 : Nat} {x1 : Int} (h_a0 : is_fu a0) {M : MEM} {p : Int × MEM} (h : fu_afterStroke a0 x1 M = some p) (ho : okVs [vR a0, vI x1]) (hM : okM M) : Cal Δ false m_fu_afterStroke d [vR a0, vI x1] (NG, S0, M) (some p.1) (NG, S0, p.2) 0 0 := by
  obtain ⟨d, rfl⟩ : ∃ e, d = e + 1 := ⟨d - 1, by omega⟩
  exact cal_of g_fu_afterStroke p_fu_afterStroke (fun v hv => by simp only [List.mem_cons, List.not_mem_nil, or_false] at hv; rcases hv with rfl | rfl <;> first | exact Or.inl ⟨_, rfl⟩ | exact Or.inr ⟨_, rfl⟩) ho hM (Nat.le_of_ble_eq_true rfl) (fun Γ _ k => J_fu_afterStroke hd h_a0 _ h k)
set_option maxRecDepth 20000 in
set_option maxHeartbeats 4000000 in
theorem J_dh_when {Δ : DT} {Γ : FT} {d : Nat} (hd : 5 ≤ d + 1) {x1 : Int} {x2 : Int}  {M : MEM} : J (dh_when x1 x2 M) (K_IM Δ Γ m_dh_when) (WAt Δ Γ false m_dh_when (d + 1) 0 [vR (0), vI (x1), vI (x2), vN] [] (NG, S0, M) 0 0) := by
  unfold dh_when
  refine J.mono (fun k => w_aload_n rfl rfl (w_iload_n rfl rfl k)) ?_
  refine J_hyp (fun k => c_vi1 rfl (fun ho hM => cal_dh_isDonkey (by omega)   ho hM) v_dh_isDonkey (Nat.le_of_ble_eq_true rfl) S_0 rfl (Nat.le_of_ble_eq_true rfl) k) (fun hr2 hb3 => ?_)
  refine J_ite (fun hc4 => ?_) (fun hc4 => ?_)
  · refine J.mono (fun k => s_if_eq_t rfl hc4 (w_iconst rfl (inR_c rfl) k)) ?_
    exact J_some (fun k => w_ireturn rfl rfl k)
  · refine J.mono (fun k => s_if_eq_f rfl hc4 (w_iload_n rfl rfl k)) ?_
    refine J_hyp (fun k => c_si1 rfl rfl (fun ho hM => cal_dh_isAskedStroke (by omega)   ho hM) v_dh_isAskedStroke (Nat.le_of_ble_eq_true rfl) k) (fun hr6 hb7 => ?_)
    refine J_ite (fun hc8 => ?_) (fun hc8 => ?_)
    · refine J.mono (fun k => s_if_ne_f rfl hc8 (w_iconst rfl (inR_c rfl) k)) ?_
      exact J_some (fun k => w_ireturn rfl rfl k)
    · refine J.mono (fun k => s_if_ne_t rfl hc8 (w_aload_n rfl rfl (w_aload_n rfl rfl (w_getR (r := 224) rfl (Nat.le_of_ble_eq_true rfl) S_0 rfl (w_iload_n rfl rfl k))))) ?_
      refine J_c (fun M10 e9 => ?_)
      refine J.mono (fun k => c_vv2 rfl (fun ho hM => cal_dh_look (by omega) is_fu_224 e9 ho hM) v_dh_look (Nat.le_of_ble_eq_true rfl) S_0 rfl (Nat.le_of_ble_eq_true rfl) (w_aload_n rfl rfl (w_getR (r := 224) rfl (Nat.le_of_ble_eq_true rfl) S_0 rfl (w_iload_n rfl rfl k)))) ?_
      refine J_c (fun p12 e11 => ?_)
      refine J_hyp (fun k => c_vi1 rfl (fun ho hM => cal_fu_afterStroke (by omega) is_fu_224 e11 ho hM) v_fu_afterStroke (fu_S is_fu_224).1 (fu_S is_fu_224).2 rfl (Nat.le_of_ble_eq_true rfl) k) (fun hr13 hb14 => ?_)
      refine J.mono (fun k => s_istore3 rfl (Nat.le_of_ble_eq_true rfl) (w_iload_n rfl rfl k)) ?_
      refine J_ite (fun hc15 => ?_) (fun hc15 => ?_)
      · refine J.mono (fun k => s_if_ge_t rfl hc15 (w_iload_n rfl rfl k)) ?_
        exact J_some (fun k => w_ireturn rfl rfl k)
      · refine J.mono (fun k => s_if_ge_f rfl hc15 (w_bipush rfl (bip_c rfl) (w_goto rfl k))) ?_
        exact J_some (fun k => w_ireturn rfl rfl k)
set_option maxRecDepth 20000 in
set_option maxHeartbeats 4000000 in
theorem cal_dh_when {Δ : DT} {d : Nat} (hd : 5 ≤ d) {x1 : Int} {x2 : Int}  {M : MEM} {p : Int × MEM} (h : dh_when x1 x2 M = some p) (ho : okVs [vR 0, vI x1, vI x2]) (hM : okM M) : Cal Δ false m_dh_when d [vR 0, vI x1, vI x2] (NG, S0, M) (some p.1) (NG, S0, p.2) 0 0 := by
  obtain ⟨d, rfl⟩ : ∃ e, d = e + 1 := ⟨d - 1, by omega⟩
  exact cal_of g_dh_when p_dh_when (fun v hv => by simp only [List.mem_cons, List.not_mem_nil, or_false] at hv; rcases hv with rfl | rfl | rfl <;> first | exact Or.inl ⟨_, rfl⟩ | exact Or.inr ⟨_, rfl⟩) ho hM (Nat.le_of_ble_eq_true rfl) (fun Γ _ k => J_dh_when hd  _ h k)
set_option maxRecDepth 20000 in
set_option maxHeartbeats 4000000 in
theorem J_dh_strikes {Δ : DT} {Γ : FT} {d : Nat} (hd : 5 ≤ d + 1) {x1 : Int} {x2 : Int}  {M : MEM} : J (dh_strikes x1 x2 M) (K_IM Δ Γ m_dh_strikes) (WAt Δ Γ false m_dh_strikes (d + 1) 0 [vR (0), vI (x1), vI (x2), vN, vN] [] (NG, S0, M) 0 0) := by
  unfold dh_strikes
  refine J.mono (fun k => w_aload_n rfl rfl (w_iload_n rfl rfl k)) ?_
  refine J_hyp (fun k => c_vi1 rfl (fun ho hM => cal_dh_isDonkey (by omega)   ho hM) v_dh_isDonkey (Nat.le_of_ble_eq_true rfl) S_0 rfl (Nat.le_of_ble_eq_true rfl) k) (fun hr2 hb3 => ?_)
  refine J_ite (fun hc4 => ?_) (fun hc4 => ?_)
  · refine J.mono (fun k => s_if_eq_t rfl hc4 (w_iconst rfl (inR_c rfl) k)) ?_
    exact J_some (fun k => w_ireturn rfl rfl k)
  · refine J.mono (fun k => s_if_eq_f rfl hc4 (w_iload_n rfl rfl k)) ?_
    refine J_ite (fun hc5 => ?_) (fun hc5 => ?_)
    · refine J.mono (fun k => s_if_lt_t rfl hc5 (w_iconst rfl (inR_c rfl) k)) ?_
      exact J_some (fun k => w_ireturn rfl rfl k)
    · refine J.mono (fun k => s_if_lt_f rfl hc5 (w_iload_n rfl rfl (w_bipush rfl (bip_c rfl) k))) ?_
      refine J_ite (fun hc6 => ?_) (fun hc6 => ?_)
      · refine J.mono (fun k => s_icmp_lt_t rfl hc6 (w_aload_n rfl rfl (w_aload_n rfl rfl (w_getR (r := 224) rfl (Nat.le_of_ble_eq_true rfl) S_0 rfl (w_iload_n rfl rfl k))))) ?_
        refine J_c (fun M8 e7 => ?_)
        refine J.mono (fun k => c_vv2 rfl (fun ho hM => cal_dh_look (by omega) is_fu_224 e7 ho hM) v_dh_look (Nat.le_of_ble_eq_true rfl) S_0 rfl (Nat.le_of_ble_eq_true rfl) (w_iload_n rfl rfl (w_aload_n rfl rfl (w_getR (r := 224) rfl (Nat.le_of_ble_eq_true rfl) S_0 rfl (w_getR (r := 230) rfl (fu_S is_fu_224).1 (fu_S is_fu_224).2 rfl (w_getI rfl (be_S is_be_230).1 (be_S is_be_230).2 rfl (w_isub rfl (w_iconst rfl (inR_c rfl) (w_isub rfl (w_bipush rfl (bip_c rfl) k)))))))))) ?_
        refine J_c (fun r10 e9 => ?_)
        refine J_hyp (fun k => c_si2 rfl rfl (fun ho hM => cal_jm_floorMod (by omega)  e9 ho hM) v_jm_floorMod (Nat.le_of_ble_eq_true rfl) k) (fun hr11 hb12 => ?_)
        refine J.mono (fun k => w_iconst rfl (inR_c rfl) (w_iadd rfl (s_istore3 rfl (Nat.le_of_ble_eq_true rfl) (w_aload_n rfl rfl (w_getR (r := 224) rfl (Nat.le_of_ble_eq_true rfl) S_0 rfl (w_iload_n rfl rfl k)))))) ?_
        refine J_c (fun p14 e13 => ?_)
        refine J_hyp (fun k => c_vi1 rfl (fun ho hM => cal_fu_afterStroke (by omega) is_fu_224 e13 ho hM) v_fu_afterStroke (fu_S is_fu_224).1 (fu_S is_fu_224).2 rfl (Nat.le_of_ble_eq_true rfl) k) (fun hr15 hb16 => ?_)
        refine J.mono (fun k => s_istore4 rfl (Nat.le_of_ble_eq_true rfl) (w_iload rfl rfl k)) ?_
        refine J_ite (fun hc17 => ?_) (fun hc17 => ?_)
        · refine J.mono (fun k => s_if_ge_t rfl hc17 (w_aload_n rfl rfl k)) ?_
          refine J_c (fun M19 e18 => ?_)
          refine J.mono (fun k => c_vv0 rfl (fun ho hM => cal_dh_newRow (by omega)  e18 ho hM) v_dh_newRow (Nat.le_of_ble_eq_true rfl) S_0 rfl (Nat.le_of_ble_eq_true rfl) (w_aload_n rfl rfl (w_iload_n rfl rfl k))) ?_
          refine J_c (fun M21 e20 => ?_)
          refine J.mono (fun k => c_vv1 rfl (fun ho hM => cal_dh_tell (by omega)  e20 ho hM) v_dh_tell (Nat.le_of_ble_eq_true rfl) S_0 rfl (Nat.le_of_ble_eq_true rfl) (w_iload rfl rfl k)) ?_
          exact J_some (fun k => w_ireturn rfl rfl k)
        · refine J.mono (fun k => s_if_ge_f rfl hc17 (w_bipush rfl (bip_c rfl) k)) ?_
          exact J_some (fun k => w_ireturn rfl rfl k)
      · refine J.mono (fun k => s_icmp_lt_f rfl hc6 (w_iconst rfl (inR_c rfl) k)) ?_
        exact J_some (fun k => w_ireturn rfl rfl k)
set_option maxRecDepth 20000 in
set_option maxHeartbeats 4000000 in
theorem cal_dh_strikes {Δ : DT} {d : Nat} (hd : 5 ≤ d) {x1 : Int} {x2 : Int}  {M : MEM} {p : Int × MEM} (h : dh_strikes x1 x2 M = some p) (ho : okVs [vR 0, vI x1, vI x2]) (hM : okM M) : Cal Δ false m_dh_strikes d [vR 0, vI x1, vI x2] (NG, S0, M) (some p.1) (NG, S0, p.2) 0 0 := by
  obtain ⟨d, rfl⟩ : ∃ e, d = e + 1 := ⟨d - 1, by omega⟩
  exact cal_of g_dh_strikes p_dh_strikes (fun v hv => by simp only [List.mem_cons, List.not_mem_nil, or_false] at hv; rcases hv with rfl | rfl | rfl <;> first | exact Or.inl ⟨_, rfl⟩ | exact Or.inr ⟨_, rfl⟩) ho hM (Nat.le_of_ble_eq_true rfl) (fun Γ _ k => J_dh_strikes hd  _ h k)
abbrev HD_dh_stops_b23 (Δ : DT) (Γ : FT) (d : Nat)  (s : Int × Int × MEM) : Prop := WAt Δ Γ false m_dh_stops (d + 1) 23 [vR (0), vN, vI (s.1), vI (s.2.1)] [] (NG, S0, s.2.2) 0 0
abbrev X_dh_stops_b23 (Δ : DT) (Γ : FT) (d : Nat)  (s : Int × Int × MEM) : Prop := WAt Δ Γ false m_dh_stops (d + 1) 52 [vN, vN, vI (s.1), vN] [] (NG, S0, s.2.2) 0 0
set_option maxRecDepth 20000 in
set_option maxHeartbeats 4000000 in
theorem J_dh_stops_j46_23 {Δ : DT} {Γ : FT} {d : Nat} (hd : 4 ≤ d + 1) {x2 : Int} {x3 : Int}  {M : MEM} : J (dh_stops_j46_23 x2 x3 M) (Sum.elim (HD_dh_stops_b23 Δ Γ d ) (X_dh_stops_b23 Δ Γ d )) (WAt Δ Γ false m_dh_stops (d + 1) 46 [vR (0), vN, vI (x2), vI (x3)] [] (NG, S0, M) 0 0) := by
  unfold dh_stops_j46_23
  refine J.mono (fun k => s_iinc3 rfl (Nat.le_of_ble_eq_true rfl) (w_goto rfl k)) ?_
  exact J_some (fun k => w_forget (wk_k (wk_d (wk_k (wk_k wk_0)))) k)
set_option maxRecDepth 20000 in
set_option maxHeartbeats 4000000 in
theorem Jb_dh_stops_b23 {Δ : DT} {Γ : FT} {d : Nat} (hd : 4 ≤ d + 1)   {x2 : Int} {x3 : Int} {M : MEM} : J (dh_stops_b23  x2 x3 M) (Sum.elim (HD_dh_stops_b23 Δ Γ d ) (X_dh_stops_b23 Δ Γ d )) (WAt Δ Γ false m_dh_stops (d + 1) 23 [vR (0), vN, vI (x2), vI (x3)] [] (NG, S0, M) 0 0) := by
  unfold dh_stops_b23
  refine J.mono (fun k => w_iload_n rfl rfl (w_sipush rfl (sip_c rfl) k)) ?_
  refine J_ite (fun hc7 => ?_) (fun hc7 => ?_)
  · refine J.mono (fun k => s_icmp_ge_t rfl hc7 k) ?_
    exact J_some (fun k => w_forget (wk_d (wk_d (wk_k (wk_d wk_0)))) k)
  · refine J.mono (fun k => s_icmp_ge_f rfl hc7 (w_aload_n rfl rfl (w_getR (r := 224) rfl (Nat.le_of_ble_eq_true rfl) S_0 rfl k))) ?_
    refine J_c (fun p9 e8 => ?_)
    refine J_hyp (fun k => c_vi0 rfl (fun ho hM => cal_fu_step (by omega) is_fu_224 e8 ho hM) v_fu_step (fu_S is_fu_224).1 (fu_S is_fu_224).2 rfl (Nat.le_of_ble_eq_true rfl) k) (fun hr10 hb11 => ?_)
    refine J.mono (fun k => w_iconst rfl (inR_c rfl) (w_iand rfl k)) ?_
    refine J_ite (fun hc12 => ?_) (fun hc12 => ?_)
    · refine J.mono (fun k => s_if_ne_f rfl hc12 (w_iload_n rfl rfl (w_iconst rfl (inR_c rfl) (w_iadd rfl (s_istore2 rfl (Nat.le_of_ble_eq_true rfl) k))))) ?_
      exact J.mono (fun k => w_forget (wk_k (wk_d (wk_k (wk_k wk_0)))) k) (J_dh_stops_j46_23 hd )
    · refine J.mono (fun k => s_if_ne_t rfl hc12 k) ?_
      exact J.mono (fun k => w_forget (wk_k (wk_d (wk_k (wk_k wk_0)))) k) (J_dh_stops_j46_23 hd )
set_option maxRecDepth 20000 in
set_option maxHeartbeats 4000000 in
theorem Jl_dh_stops_b23 {Δ : DT} {Γ : FT} {d : Nat} (hd : 4 ≤ d + 1)    : ∀ (n : Nat) (s : Int × Int × MEM), J (iter (fun s => dh_stops_b23  s.1 s.2.1 s.2.2) n s) (X_dh_stops_b23 Δ Γ d ) (HD_dh_stops_b23 Δ Γ d  s) := J_iter (fun s => Jb_dh_stops_b23 hd )
set_option maxRecDepth 20000 in
set_option maxHeartbeats 4000000 in
theorem J_dh_stops {Δ : DT} {Γ : FT} {d : Nat} (hd : 4 ≤ d + 1) {x1 : Int}  {M : MEM} : J (dh_stops x1 M) (K_IM Δ Γ m_dh_stops) (WAt Δ Γ false m_dh_stops (d + 1) 0 [vR (0), vI (x1), vN, vN] [] (NG, S0, M) 0 0) := by
  unfold dh_stops
  refine J.mono (fun k => w_aload_n rfl rfl (w_iload_n rfl rfl k)) ?_
  refine J_hyp (fun k => c_vi1 rfl (fun ho hM => cal_dh_isDonkey (by omega)   ho hM) v_dh_isDonkey (Nat.le_of_ble_eq_true rfl) S_0 rfl (Nat.le_of_ble_eq_true rfl) k) (fun hr2 hb3 => ?_)
  refine J_ite (fun hc4 => ?_) (fun hc4 => ?_)
  · refine J.mono (fun k => s_if_ne_f rfl hc4 (w_iconst rfl (inR_c rfl) k)) ?_
    exact J_some (fun k => w_ireturn rfl rfl k)
  · refine J.mono (fun k => s_if_ne_t rfl hc4 (w_aload_n rfl rfl (w_aload_n rfl rfl (w_getR (r := 224) rfl (Nat.le_of_ble_eq_true rfl) S_0 rfl (w_iload_n rfl rfl k))))) ?_
    refine J_c (fun M6 e5 => ?_)
    refine J.mono (fun k => c_vv2 rfl (fun ho hM => cal_dh_look (by omega) is_fu_224 e5 ho hM) v_dh_look (Nat.le_of_ble_eq_true rfl) S_0 rfl (Nat.le_of_ble_eq_true rfl) (w_iconst rfl (inR_c rfl) (s_istore2 rfl (Nat.le_of_ble_eq_true rfl) (w_iconst rfl (inR_c rfl) (s_istore3 rfl (Nat.le_of_ble_eq_true rfl) k))))) ?_
    refine J.mono (fun k => w_forget (wk_k (wk_d (wk_k (wk_k wk_0)))) k) ?_
    refine J_loop (Jl_dh_stops_b23 hd  _ _) (fun w13 => ?_)
    refine J.mono (fun k => w_iload_n rfl rfl (w_sipush rfl (sip_c rfl) k)) ?_
    refine J_ite (fun hc14 => ?_) (fun hc14 => ?_)
    · refine J.mono (fun k => s_icmp_ge_t rfl hc14 (w_bipush rfl (bip_c rfl) k)) ?_
      exact J_some (fun k => w_ireturn rfl rfl k)
    · refine J.mono (fun k => s_icmp_ge_f rfl hc14 (w_iload_n rfl rfl (w_goto rfl k))) ?_
      exact J_some (fun k => w_ireturn rfl rfl k)
set_option maxRecDepth 20000 in
set_option maxHeartbeats 4000000 in
theorem cal_dh_stops {Δ : DT} {d : Nat} (hd : 4 ≤ d) {x1 : Int}  {M : MEM} {p : Int × MEM} (h : dh_stops x1 M = some p) (ho : okVs [vR 0, vI x1]) (hM : okM M) : Cal Δ false m_dh_stops d [vR 0, vI x1] (NG, S0, M) (some p.1) (NG, S0, p.2) 0 0 := by
  obtain ⟨d, rfl⟩ : ∃ e, d = e + 1 := ⟨d - 1, by omega⟩
  exact cal_of g_dh_stops p_dh_stops (fun v hv => by simp only [List.mem_cons, List.not_mem_nil, or_false] at hv; rcases hv with rfl | rfl <;> first | exact Or.inl ⟨_, rfl⟩ | exact Or.inr ⟨_, rfl⟩) ho hM (Nat.le_of_ble_eq_true rfl) (fun Γ _ k => J_dh_stops hd  _ h k)
abbrev HD_dh_eats_b60 (Δ : DT) (Γ : FT) (d : Nat) (a3 : Nat) (M : MEM) (s : Int × Int × Int) : Prop := WAt Δ Γ false m_dh_eats (d + 1) 60 [vR (0), vN, vN, vR (a3), vI (s.1), vI (s.2.1), vI (s.2.2), vN] [] (NG, S0, M) 0 0
abbrev X_dh_eats_b60 (Δ : DT) (Γ : FT) (d : Nat) (a3 : Nat) (M : MEM) (s : Int × Int × Int) : Prop := WAt Δ Γ false m_dh_eats (d + 1) 111 [vR (0), vN, vN, vR (a3), vI (s.1), vI (s.2.1), vN, vN] [] (NG, S0, M) 0 0
set_option maxRecDepth 20000 in
set_option maxHeartbeats 4000000 in
theorem J_dh_eats_j105_60 {Δ : DT} {Γ : FT} {d : Nat} (hd : 4 ≤ d + 1) {a3 : Nat} {x4 : Int} {x5 : Int} {x6 : Int} (h_a3 : is_be a3) {M : MEM} : J (dh_eats_j105_60 a3 x4 x5 x6 M) (Sum.elim (HD_dh_eats_b60 Δ Γ d a3 M) (X_dh_eats_b60 Δ Γ d a3 M)) (WAt Δ Γ false m_dh_eats (d + 1) 105 [vR (0), vN, vN, vR (a3), vI (x4), vI (x5), vI (x6), vN] [] (NG, S0, M) 0 0) := by
  unfold dh_eats_j105_60
  refine J.mono (fun k => s_iinc6 rfl (Nat.le_of_ble_eq_true rfl) (w_goto rfl k)) ?_
  exact J_some (fun k => w_forget (wk_k (wk_d (wk_d (wk_k (wk_k (wk_k (wk_k (wk_d wk_0)))))))) k)
set_option maxRecDepth 20000 in
set_option maxHeartbeats 4000000 in
theorem Jb_dh_eats_b60 {Δ : DT} {Γ : FT} {d : Nat} (hd : 4 ≤ d + 1) {a3 : Nat} (h_a3 : is_be a3) {x4 : Int} {x5 : Int} {x6 : Int} {M : MEM} : J (dh_eats_b60 a3 x4 x5 x6 M) (Sum.elim (HD_dh_eats_b60 Δ Γ d a3 M) (X_dh_eats_b60 Δ Γ d a3 M)) (WAt Δ Γ false m_dh_eats (d + 1) 60 [vR (0), vN, vN, vR (a3), vI (x4), vI (x5), vI (x6), vN] [] (NG, S0, M) 0 0) := by
  unfold dh_eats_b60
  refine J.mono (fun k => w_iload rfl rfl (w_aload_n rfl rfl (w_getI rfl (be_S h_a3).1 (be_S h_a3).2 rfl k))) ?_
  refine J_ite (fun hc12 => ?_) (fun hc12 => ?_)
  · refine J.mono (fun k => s_icmp_ge_t rfl hc12 k) ?_
    exact J_some (fun k => w_forget (wk_k (wk_d (wk_d (wk_k (wk_k (wk_k (wk_d (wk_d wk_0)))))))) k)
  · refine J.mono (fun k => s_icmp_ge_f rfl hc12 (w_aload_n rfl rfl (w_iload rfl rfl k))) ?_
    refine J_c (fun r14 e13 => ?_)
    refine J_hyp (fun k => c_vi1 rfl (fun ho hM => cal_be_thistlesOn (by omega) h_a3 e13 ho hM) v_be_thistlesOn (be_S h_a3).1 (be_S h_a3).2 rfl (Nat.le_of_ble_eq_true rfl) k) (fun hr15 hb16 => ?_)
    refine J.mono (fun k => w_aload_n rfl rfl (w_getR (r := 224) rfl (Nat.le_of_ble_eq_true rfl) S_0 rfl (w_getR (r := 230) rfl (fu_S is_fu_224).1 (fu_S is_fu_224).2 rfl (w_iload rfl rfl k)))) ?_
    refine J_c (fun r18 e17 => ?_)
    refine J_hyp (fun k => c_vi1 rfl (fun ho hM => cal_be_thistlesOn (by omega) is_be_230 e17 ho hM) v_be_thistlesOn (be_S is_be_230).1 (be_S is_be_230).2 rfl (Nat.le_of_ble_eq_true rfl) k) (fun hr19 hb20 => ?_)
    refine J.mono (fun k => w_isub rfl (s_istore7 rfl (Nat.le_of_ble_eq_true rfl) (w_iload rfl rfl (w_iload rfl rfl k)))) ?_
    refine J_ite (fun hc21 => ?_) (fun hc21 => ?_)
    · refine J.mono (fun k => s_icmp_le_t rfl hc21 k) ?_
      exact J.mono (fun k => w_forget (wk_k (wk_d (wk_d (wk_k (wk_k (wk_k (wk_k (wk_d wk_0)))))))) k) (J_dh_eats_j105_60 hd h_a3)
    · refine J.mono (fun k => s_icmp_le_f rfl hc21 (w_iload rfl rfl (s_istore4 rfl (Nat.le_of_ble_eq_true rfl) (w_iload rfl rfl (s_istore5 rfl (Nat.le_of_ble_eq_true rfl) k))))) ?_
      exact J.mono (fun k => w_forget (wk_k (wk_d (wk_d (wk_k (wk_k (wk_k (wk_k (wk_d wk_0)))))))) k) (J_dh_eats_j105_60 hd h_a3)
set_option maxRecDepth 20000 in
set_option maxHeartbeats 4000000 in
theorem Jl_dh_eats_b60 {Δ : DT} {Γ : FT} {d : Nat} (hd : 4 ≤ d + 1) {a3 : Nat} (h_a3 : is_be a3) {M : MEM} : ∀ (n : Nat) (s : Int × Int × Int), J (iter (fun s => dh_eats_b60 a3 s.1 s.2.1 s.2.2 M) n s) (X_dh_eats_b60 Δ Γ d a3 M) (HD_dh_eats_b60 Δ Γ d a3 M s) := J_iter (fun s => Jb_dh_eats_b60 hd h_a3)
set_option maxRecDepth 20000 in
set_option maxHeartbeats 4000000 in
theorem J_dh_eats {Δ : DT} {Γ : FT} {d : Nat} (hd : 4 ≤ d + 1) {x1 : Int} {x2 : Int}  {M : MEM} : J (dh_eats x1 x2 M) (K_IM Δ Γ m_dh_eats) (WAt Δ Γ false m_dh_eats (d + 1) 0 [vR (0), vI (x1), vI (x2), vN, vN, vN, vN, vN] [] (NG, S0, M) 0 0) := by
  unfold dh_eats
  refine J.mono (fun k => w_aload_n rfl rfl (w_iload_n rfl rfl k)) ?_
  refine J_hyp (fun k => c_vi1 rfl (fun ho hM => cal_dh_isDonkey (by omega)   ho hM) v_dh_isDonkey (Nat.le_of_ble_eq_true rfl) S_0 rfl (Nat.le_of_ble_eq_true rfl) k) (fun hr2 hb3 => ?_)
  refine J_ite (fun hc4 => ?_) (fun hc4 => ?_)
  · refine J.mono (fun k => s_if_eq_t rfl hc4 (w_iconst rfl (inR_c rfl) k)) ?_
    exact J_some (fun k => w_ireturn rfl rfl k)
  · refine J.mono (fun k => s_if_eq_f rfl hc4 (w_iload_n rfl rfl k)) ?_
    refine J_ite (fun hc5 => ?_) (fun hc5 => ?_)
    · refine J.mono (fun k => s_if_lt_t rfl hc5 (w_iconst rfl (inR_c rfl) k)) ?_
      exact J_some (fun k => w_ireturn rfl rfl k)
    · refine J.mono (fun k => s_if_lt_f rfl hc5 (w_iload_n rfl rfl (w_sipush rfl (sip_c rfl) k))) ?_
      refine J_ite (fun hc6 => ?_) (fun hc6 => ?_)
      · refine J.mono (fun k => s_icmp_le_t rfl hc6 (w_aload_n rfl rfl (w_aload_n rfl rfl (w_getR (r := 224) rfl (Nat.le_of_ble_eq_true rfl) S_0 rfl (w_iload_n rfl rfl k))))) ?_
        refine J_c (fun M8 e7 => ?_)
        refine J.mono (fun k => c_vv2 rfl (fun ho hM => cal_dh_look (by omega) is_fu_224 e7 ho hM) v_dh_look (Nat.le_of_ble_eq_true rfl) S_0 rfl (Nat.le_of_ble_eq_true rfl) (w_aload_n rfl rfl (w_getR (r := 3) rfl (Nat.le_of_ble_eq_true rfl) S_0 rfl (w_getR (r := 4) rfl (sc_S is_sc_3).1 (sc_S is_sc_3).2 rfl (w_iload_n rfl rfl k))))) ?_
        refine J_chk (fun hi9 => ?_)
        refine J.mono (fun k => w_aald rfl (scb_S is_sc_3).1 (Or.inl rfl) (scb_S is_sc_3).2 hi9.1 (scb_get hi9.1 hi9.2) (s_astore3 rfl (Nat.le_of_ble_eq_true rfl) (w_aload_n rfl rfl (w_getR (r := 224) rfl (Nat.le_of_ble_eq_true rfl) S_0 rfl (w_iload_n rfl rfl (w_sipush rfl (sip_c rfl) k)))))) ?_
        refine J_c (fun M11 e10 => ?_)
        refine J.mono (fun k => c_vv2 rfl (fun ho hM => cal_fu_run (by omega) is_fu_224 e10 ho hM) v_fu_run (fu_S is_fu_224).1 (fu_S is_fu_224).2 rfl (Nat.le_of_ble_eq_true rfl) (w_iconst rfl (inR_c rfl) (s_istore4 rfl (Nat.le_of_ble_eq_true rfl) (w_iconst rfl (inR_c rfl) (s_istore5 rfl (Nat.le_of_ble_eq_true rfl) (w_iconst rfl (inR_c rfl) (s_istore6 rfl (Nat.le_of_ble_eq_true rfl) k))))))) ?_
        refine J.mono (fun k => w_forget (wk_k (wk_d (wk_d (wk_k (wk_k (wk_k (wk_k (wk_d wk_0)))))))) k) ?_
        refine J_loop (Jl_dh_eats_b60 hd (scb_is is_sc_3 hi9.1 hi9.2) _ _) (fun w22 => ?_)
        refine J.mono (fun k => w_aload_n rfl rfl k) ?_
        refine J_c (fun M24 e23 => ?_)
        refine J.mono (fun k => c_vv0 rfl (fun ho hM => cal_dh_newRow (by omega)  e23 ho hM) v_dh_newRow (Nat.le_of_ble_eq_true rfl) S_0 rfl (Nat.le_of_ble_eq_true rfl) (w_aload_n rfl rfl (w_iload rfl rfl k))) ?_
        refine J_c (fun M26 e25 => ?_)
        refine J.mono (fun k => c_vv1 rfl (fun ho hM => cal_dh_tell (by omega)  e25 ho hM) v_dh_tell (Nat.le_of_ble_eq_true rfl) S_0 rfl (Nat.le_of_ble_eq_true rfl) (w_aload_n rfl rfl (w_iload rfl rfl k))) ?_
        refine J_c (fun M28 e27 => ?_)
        refine J.mono (fun k => c_vv1 rfl (fun ho hM => cal_dh_tell (by omega)  e27 ho hM) v_dh_tell (Nat.le_of_ble_eq_true rfl) S_0 rfl (Nat.le_of_ble_eq_true rfl) (w_aload_n rfl rfl k)) ?_
        refine J_c (fun r30 e29 => ?_)
        refine J_hyp (fun k => c_vi0 rfl (fun ho hM => cal_be_allThistles (by omega) (scb_is is_sc_3 hi9.1 hi9.2) e29 ho hM) v_be_allThistles (be_S (scb_is is_sc_3 hi9.1 hi9.2)).1 (be_S (scb_is is_sc_3 hi9.1 hi9.2)).2 rfl (Nat.le_of_ble_eq_true rfl) k) (fun hr31 hb32 => ?_)
        refine J.mono (fun k => w_aload_n rfl rfl (w_getR (r := 224) rfl (Nat.le_of_ble_eq_true rfl) S_0 rfl (w_getR (r := 230) rfl (fu_S is_fu_224).1 (fu_S is_fu_224).2 rfl k))) ?_
        refine J_c (fun r34 e33 => ?_)
        refine J_hyp (fun k => c_vi0 rfl (fun ho hM => cal_be_allThistles (by omega) is_be_230 e33 ho hM) v_be_allThistles (be_S is_be_230).1 (be_S is_be_230).2 rfl (Nat.le_of_ble_eq_true rfl) k) (fun hr35 hb36 => ?_)
        refine J.mono (fun k => w_isub rfl k) ?_
        exact J_some (fun k => w_ireturn rfl rfl k)
      · refine J.mono (fun k => s_icmp_le_f rfl hc6 (w_iconst rfl (inR_c rfl) k)) ?_
        exact J_some (fun k => w_ireturn rfl rfl k)
set_option maxRecDepth 20000 in
set_option maxHeartbeats 4000000 in
theorem cal_dh_eats {Δ : DT} {d : Nat} (hd : 4 ≤ d) {x1 : Int} {x2 : Int}  {M : MEM} {p : Int × MEM} (h : dh_eats x1 x2 M = some p) (ho : okVs [vR 0, vI x1, vI x2]) (hM : okM M) : Cal Δ false m_dh_eats d [vR 0, vI x1, vI x2] (NG, S0, M) (some p.1) (NG, S0, p.2) 0 0 := by
  obtain ⟨d, rfl⟩ : ∃ e, d = e + 1 := ⟨d - 1, by omega⟩
  exact cal_of g_dh_eats p_dh_eats (fun v hv => by simp only [List.mem_cons, List.not_mem_nil, or_false] at hv; rcases hv with rfl | rfl | rfl <;> first | exact Or.inl ⟨_, rfl⟩ | exact Or.inr ⟨_, rfl⟩) ho hM (Nat.le_of_ble_eq_true rfl) (fun Γ _ k => J_dh_eats hd  _ h k)
set_option maxRecDepth 20000 in
set_option maxHeartbeats 4000000 in
theorem J_co_add {Δ : DT} {Γ : FT} {d : Nat} {x1 : Int} {x2 : Int} {x3 : Int} {x4 : Int} {x5 : Int}  {M : MEM} : J (co_add x1 x2 x3 x4 x5 M) (K_IM Δ Γ m_co_add) (WAt Δ Γ false m_co_add d 0 [vR (34), vI (x1), vI (x2), vI (x3), vI (x4), vI (x5)] [] (NG, S0, M) 0 0) := by
  unfold co_add
  refine J.mono (fun k => w_aload_n rfl rfl (w_getI rfl (Nat.le_of_ble_eq_true rfl) S_34 rfl k)) ?_
  refine J_ite (fun hc1 => ?_) (fun hc1 => ?_)
  · refine J.mono (fun k => s_if_lt_t rfl hc1 (w_iconst rfl (inR_c rfl) k)) ?_
    exact J_some (fun k => w_zreturn rfl rfl (Or.inl rfl) k)
  · refine J.mono (fun k => s_if_lt_f rfl hc1 (w_aload_n rfl rfl (w_getI rfl (Nat.le_of_ble_eq_true rfl) S_34 rfl (w_bipush rfl (bip_c rfl) k)))) ?_
    refine J_ite (fun hc2 => ?_) (fun hc2 => ?_)
    · refine J.mono (fun k => s_icmp_lt_t rfl hc2 (w_aload_n rfl rfl (w_getR (r := 35) rfl (Nat.le_of_ble_eq_true rfl) S_34 rfl (w_aload_n rfl rfl (w_getI rfl (Nat.le_of_ble_eq_true rfl) S_34 rfl (w_iload_n rfl rfl k)))))) ?_
      refine J_chk (fun hi4 => ?_)
      refine J_b ?_
      refine J.mono (fun k => w_iast rfl A_35.1 A_35.2 hi4.1 hi4.2 rfl (w_aload_n rfl rfl (w_getR (r := 36) rfl (Nat.le_of_ble_eq_true rfl) S_34 rfl (w_aload_n rfl rfl (w_getI rfl (Nat.le_of_ble_eq_true rfl) S_34 rfl (w_iload_n rfl rfl k)))))) ?_
      refine J_chk (fun hi6 => ?_)
      refine J_b ?_
      refine J.mono (fun k => w_iast rfl A_36.1 A_36.2 hi6.1 hi6.2 rfl (w_aload_n rfl rfl (w_getR (r := 37) rfl (Nat.le_of_ble_eq_true rfl) S_34 rfl (w_aload_n rfl rfl (w_getI rfl (Nat.le_of_ble_eq_true rfl) S_34 rfl (w_iload_n rfl rfl k)))))) ?_
      refine J_chk (fun hi8 => ?_)
      refine J_b ?_
      refine J.mono (fun k => w_iast rfl A_37.1 A_37.2 hi8.1 hi8.2 rfl (w_aload_n rfl rfl (w_getR (r := 38) rfl (Nat.le_of_ble_eq_true rfl) S_34 rfl (w_aload_n rfl rfl (w_getI rfl (Nat.le_of_ble_eq_true rfl) S_34 rfl (w_iload rfl rfl k)))))) ?_
      refine J_chk (fun hi10 => ?_)
      refine J_b ?_
      refine J.mono (fun k => w_iast rfl A_38.1 A_38.2 hi10.1 hi10.2 rfl (w_aload_n rfl rfl (w_getR (r := 39) rfl (Nat.le_of_ble_eq_true rfl) S_34 rfl (w_aload_n rfl rfl (w_getI rfl (Nat.le_of_ble_eq_true rfl) S_34 rfl (w_iload rfl rfl k)))))) ?_
      refine J_chk (fun hi12 => ?_)
      refine J_b ?_
      refine J.mono (fun k => w_iast rfl A_39.1 A_39.2 hi12.1 hi12.2 rfl (w_aload_n rfl rfl (w_dup rfl (fun _ h => by cases h) (w_getI rfl (Nat.le_of_ble_eq_true rfl) S_34 rfl (w_iconst rfl (inR_c rfl) (w_iadd rfl k)))))) ?_
      refine J_b ?_
      refine J.mono (fun k => w_putI rfl (Nat.le_of_ble_eq_true rfl) S_34 rfl rfl (w_iconst rfl (inR_c rfl) k)) ?_
      exact J_some (fun k => w_zreturn rfl rfl (Or.inr rfl) k)
    · refine J.mono (fun k => s_icmp_lt_f rfl hc2 (w_iconst rfl (inR_c rfl) k)) ?_
      exact J_some (fun k => w_zreturn rfl rfl (Or.inl rfl) k)
set_option maxRecDepth 20000 in
set_option maxHeartbeats 4000000 in
theorem cal_co_add {Δ : DT} {d : Nat} (hd : 0 ≤ d) {x1 : Int} {x2 : Int} {x3 : Int} {x4 : Int} {x5 : Int}  {M : MEM} {p : Int × MEM} (h : co_add x1 x2 x3 x4 x5 M = some p) (ho : okVs [vR 34, vI x1, vI x2, vI x3, vI x4, vI x5]) (hM : okM M) : Cal Δ false m_co_add d [vR 34, vI x1, vI x2, vI x3, vI x4, vI x5] (NG, S0, M) (some p.1) (NG, S0, p.2) 0 0 := by
  exact cal_of g_co_add p_co_add (fun v hv => by simp only [List.mem_cons, List.not_mem_nil, or_false] at hv; rcases hv with rfl | rfl | rfl | rfl | rfl | rfl <;> first | exact Or.inl ⟨_, rfl⟩ | exact Or.inr ⟨_, rfl⟩) ho hM (Nat.le_of_ble_eq_true rfl) (fun Γ _ k => J_co_add  _ h k)
set_option maxRecDepth 20000 in
set_option maxHeartbeats 4000000 in
theorem J_dh_isPerson {Δ : DT} {Γ : FT} {d : Nat} {x0 : Int}  {M : MEM} : J (some (dh_isPerson x0)) (K_I Δ Γ m_dh_isPerson M) (WAt Δ Γ false m_dh_isPerson d 0 [vI (x0)] [] (NG, S0, M) 0 0) := by
  unfold dh_isPerson
  refine J.mono (fun k => w_iload_n rfl rfl k) ?_
  refine J_iteT (fun hc1 => ?_) (fun hc1 => ?_)
  · refine J.mono (fun k => s_if_lt_t rfl hc1 (w_iconst rfl (inR_c rfl) k)) ?_
    exact J_some (fun k => w_zreturn rfl rfl (Or.inl rfl) k)
  · refine J.mono (fun k => s_if_lt_f rfl hc1 (w_iload_n rfl rfl (w_bipush rfl (bip_c rfl) k))) ?_
    refine J_iteT (fun hc2 => ?_) (fun hc2 => ?_)
    · refine J.mono (fun k => s_icmp_ge_t rfl hc2 (w_iconst rfl (inR_c rfl) k)) ?_
      exact J_some (fun k => w_zreturn rfl rfl (Or.inl rfl) k)
    · refine J.mono (fun k => s_icmp_ge_f rfl hc2 (w_iconst rfl (inR_c rfl) (w_goto rfl k))) ?_
      exact J_some (fun k => w_zreturn rfl rfl (Or.inr rfl) k)
set_option maxRecDepth 20000 in
set_option maxHeartbeats 4000000 in
theorem cal_dh_isPerson {Δ : DT} {d : Nat} (hd : 0 ≤ d) {x0 : Int}  {M : MEM} (ho : okVs [vI x0]) (hM : okM M) : Cal Δ false m_dh_isPerson d [vI x0] (NG, S0, M) (some (dh_isPerson x0)) (NG, S0, M) 0 0 := by
  exact cal_of g_dh_isPerson p_dh_isPerson (fun v hv => by simp only [List.mem_cons, List.not_mem_nil, or_false] at hv; rcases hv with rfl <;> first | exact Or.inl ⟨_, rfl⟩ | exact Or.inr ⟨_, rfl⟩) ho hM (Nat.le_of_ble_eq_true rfl) (fun Γ _ k => J_dh_isPerson  _ rfl k)
set_option maxRecDepth 20000 in
set_option maxHeartbeats 4000000 in
theorem J_dh_owe_j24 {Δ : DT} {Γ : FT} {d : Nat} (hd : 1 ≤ d + 1) {x1 : Int} {x2 : Int} {x3 : Int} {x4 : Int} {x5 : Int} {s0 : Int}  {M : MEM} : J (dh_owe_j24 x1 x2 x3 x4 x5 s0 M) (K_IM Δ Γ m_dh_owe) (WAt Δ Γ false m_dh_owe (d + 1) 24 [vR (0), vI (x1), vI (x2), vI (x3), vI (x4), vI (x5), vN, vN] [vI (s0)] (NG, S0, M) 0 0) := by
  unfold dh_owe_j24
  refine J.mono (fun k => s_istore6 rfl (Nat.le_of_ble_eq_true rfl) (w_iload rfl rfl k)) ?_
  refine J_ite (fun hc5 => ?_) (fun hc5 => ?_)
  · refine J.mono (fun k => s_if_eq_t rfl hc5 (w_iconst rfl (inR_c rfl) k)) ?_
    exact J_some (fun k => w_ireturn rfl rfl k)
  · refine J.mono (fun k => s_if_eq_f rfl hc5 (w_iload_n rfl rfl (w_iconst rfl (inR_c rfl) k))) ?_
    refine J_ite (fun hc6 => ?_) (fun hc6 => ?_)
    · refine J.mono (fun k => s_icmp_lt_t rfl hc6 (w_iconst rfl (inR_c rfl) k)) ?_
      exact J_some (fun k => w_ireturn rfl rfl k)
    · refine J.mono (fun k => s_icmp_lt_f rfl hc6 (w_iload_n rfl rfl (w_bipush rfl (bip_c rfl) k))) ?_
      refine J_ite (fun hc7 => ?_) (fun hc7 => ?_)
      · refine J.mono (fun k => s_icmp_gt_t rfl hc7 (w_iconst rfl (inR_c rfl) k)) ?_
        exact J_some (fun k => w_ireturn rfl rfl k)
      · refine J.mono (fun k => s_icmp_gt_f rfl hc7 (w_aload_n rfl rfl (w_iload rfl rfl k))) ?_
        refine J_hyp (fun k => c_vi1 rfl (fun ho hM => cal_dh_isDonkey (by omega)   ho hM) v_dh_isDonkey (Nat.le_of_ble_eq_true rfl) S_0 rfl (Nat.le_of_ble_eq_true rfl) k) (fun hr9 hb10 => ?_)
        refine J_ite (fun hc11 => ?_) (fun hc11 => ?_)
        · refine J.mono (fun k => s_if_eq_t rfl hc11 (w_iconst rfl (inR_c rfl) k)) ?_
          exact J_some (fun k => w_ireturn rfl rfl k)
        · refine J.mono (fun k => s_if_eq_f rfl hc11 (w_iload rfl rfl k)) ?_
          refine J_ite (fun hc12 => ?_) (fun hc12 => ?_)
          · refine J.mono (fun k => s_if_lt_t rfl hc12 (w_iconst rfl (inR_c rfl) k)) ?_
            exact J_some (fun k => w_ireturn rfl rfl k)
          · refine J.mono (fun k => s_if_lt_f rfl hc12 (w_iload rfl rfl (w_bipush rfl (bip_c rfl) k))) ?_
            refine J_ite (fun hc13 => ?_) (fun hc13 => ?_)
            · refine J.mono (fun k => s_icmp_lt_t rfl hc13 (w_aload_n rfl rfl (w_getR (r := 34) rfl (Nat.le_of_ble_eq_true rfl) S_0 rfl (w_getI rfl (Nat.le_of_ble_eq_true rfl) S_34 rfl (s_istore7 rfl (Nat.le_of_ble_eq_true rfl) (w_aload_n rfl rfl (w_getR (r := 34) rfl (Nat.le_of_ble_eq_true rfl) S_0 rfl (w_iload_n rfl rfl (w_iload_n rfl rfl (w_iload_n rfl rfl (w_iload rfl rfl (w_iload rfl rfl k)))))))))))) ?_
              refine J_c (fun p15 e14 => ?_)
              refine J_hyp (fun k => c_vi5 rfl (fun ho hM => cal_co_add (by omega)  e14 ho hM) v_co_add (Nat.le_of_ble_eq_true rfl) S_34 rfl (Nat.le_of_ble_eq_true rfl) k) (fun hr16 hb17 => ?_)
              refine J_ite (fun hc18 => ?_) (fun hc18 => ?_)
              · refine J.mono (fun k => s_if_eq_t rfl hc18 (w_bipush rfl (bip_c rfl) k)) ?_
                exact J_some (fun k => w_ireturn rfl rfl k)
              · refine J.mono (fun k => s_if_eq_f rfl hc18 (w_iload rfl rfl (w_goto rfl k))) ?_
                exact J_some (fun k => w_ireturn rfl rfl k)
            · refine J.mono (fun k => s_icmp_lt_f rfl hc13 (w_iconst rfl (inR_c rfl) k)) ?_
              exact J_some (fun k => w_ireturn rfl rfl k)
set_option maxRecDepth 20000 in
set_option maxHeartbeats 4000000 in
theorem J_dh_owe_j23 {Δ : DT} {Γ : FT} {d : Nat} (hd : 1 ≤ d + 1) {x1 : Int} {x2 : Int} {x3 : Int} {x4 : Int} {x5 : Int}  {M : MEM} : J (dh_owe_j23 x1 x2 x3 x4 x5 M) (K_IM Δ Γ m_dh_owe) (WAt Δ Γ false m_dh_owe (d + 1) 23 [vR (0), vI (x1), vI (x2), vI (x3), vI (x4), vI (x5), vN, vN] [] (NG, S0, M) 0 0) := by
  unfold dh_owe_j23
  refine J.mono (fun k => w_iconst rfl (inR_c rfl) k) ?_
  exact J.mono (fun k => w_forget (wk_k (wk_k (wk_k (wk_k (wk_k (wk_k (wk_d (wk_d wk_0)))))))) k) (J_dh_owe_j24 hd )
set_option maxRecDepth 20000 in
set_option maxHeartbeats 4000000 in
theorem J_dh_owe {Δ : DT} {Γ : FT} {d : Nat} (hd : 1 ≤ d + 1) {x1 : Int} {x2 : Int} {x3 : Int} {x4 : Int} {x5 : Int}  {M : MEM} : J (dh_owe x1 x2 x3 x4 x5 M) (K_IM Δ Γ m_dh_owe) (WAt Δ Γ false m_dh_owe (d + 1) 0 [vR (0), vI (x1), vI (x2), vI (x3), vI (x4), vI (x5), vN, vN] [] (NG, S0, M) 0 0) := by
  unfold dh_owe
  refine J.mono (fun k => w_iload_n rfl rfl k) ?_
  refine J_hyp (fun k => c_si1 rfl rfl (fun ho hM => cal_dh_isPerson (by omega)   ho hM) v_dh_isPerson (Nat.le_of_ble_eq_true rfl) k) (fun hr2 hb3 => ?_)
  refine J_ite (fun hc4 => ?_) (fun hc4 => ?_)
  · refine J.mono (fun k => s_if_eq_t rfl hc4 k) ?_
    exact J.mono (fun k => w_forget (wk_k (wk_k (wk_k (wk_k (wk_k (wk_k (wk_d (wk_d wk_0)))))))) k) (J_dh_owe_j23 hd )
  · refine J.mono (fun k => s_if_eq_f rfl hc4 (w_iload_n rfl rfl k)) ?_
    refine J_hyp (fun k => c_si1 rfl rfl (fun ho hM => cal_dh_isPerson (by omega)   ho hM) v_dh_isPerson (Nat.le_of_ble_eq_true rfl) k) (fun hr20 hb21 => ?_)
    refine J_ite (fun hc22 => ?_) (fun hc22 => ?_)
    · refine J.mono (fun k => s_if_eq_t rfl hc22 k) ?_
      exact J.mono (fun k => w_forget (wk_k (wk_k (wk_k (wk_k (wk_k (wk_k (wk_d (wk_d wk_0)))))))) k) (J_dh_owe_j23 hd )
    · refine J.mono (fun k => s_if_eq_f rfl hc22 (w_iload_n rfl rfl (w_iload_n rfl rfl k))) ?_
      refine J_ite (fun hc23 => ?_) (fun hc23 => ?_)
      · refine J.mono (fun k => s_icmp_eq_t rfl hc23 k) ?_
        exact J.mono (fun k => w_forget (wk_k (wk_k (wk_k (wk_k (wk_k (wk_k (wk_d (wk_d wk_0)))))))) k) (J_dh_owe_j23 hd )
      · refine J.mono (fun k => s_icmp_eq_f rfl hc23 (w_iconst rfl (inR_c rfl) (w_goto rfl k))) ?_
        exact J.mono (fun k => w_forget (wk_k (wk_k (wk_k (wk_k (wk_k (wk_k (wk_d (wk_d wk_0)))))))) k) (J_dh_owe_j24 hd )
set_option maxRecDepth 20000 in
set_option maxHeartbeats 4000000 in
theorem cal_dh_owe {Δ : DT} {d : Nat} (hd : 1 ≤ d) {x1 : Int} {x2 : Int} {x3 : Int} {x4 : Int} {x5 : Int}  {M : MEM} {p : Int × MEM} (h : dh_owe x1 x2 x3 x4 x5 M = some p) (ho : okVs [vR 0, vI x1, vI x2, vI x3, vI x4, vI x5]) (hM : okM M) : Cal Δ false m_dh_owe d [vR 0, vI x1, vI x2, vI x3, vI x4, vI x5] (NG, S0, M) (some p.1) (NG, S0, p.2) 0 0 := by
  obtain ⟨d, rfl⟩ : ∃ e, d = e + 1 := ⟨d - 1, by omega⟩
  exact cal_of g_dh_owe p_dh_owe (fun v hv => by simp only [List.mem_cons, List.not_mem_nil, or_false] at hv; rcases hv with rfl | rfl | rfl | rfl | rfl | rfl <;> first | exact Or.inl ⟨_, rfl⟩ | exact Or.inr ⟨_, rfl⟩) ho hM (Nat.le_of_ble_eq_true rfl) (fun Γ _ k => J_dh_owe hd  _ h k)
set_option maxRecDepth 20000 in
set_option maxHeartbeats 4000000 in
theorem J_dh_tear {Δ : DT} {Γ : FT} {d : Nat}   {M : MEM} : J (dh_tear M) (K_IM Δ Γ m_dh_tear) (WAt Δ Γ false m_dh_tear d 0 [vR (0), vN] [] (NG, S0, M) 0 0) := by
  unfold dh_tear
  refine J.mono (fun k => w_aload_n rfl rfl (w_getR (r := 34) rfl (Nat.le_of_ble_eq_true rfl) S_0 rfl (w_getI rfl (Nat.le_of_ble_eq_true rfl) S_34 rfl (s_istore1 rfl (Nat.le_of_ble_eq_true rfl) (w_aload_n rfl rfl (w_getR (r := 34) rfl (Nat.le_of_ble_eq_true rfl) S_0 rfl (w_iconst rfl (inR_c rfl) k))))))) ?_
  refine J_b ?_
  refine J.mono (fun k => w_putI rfl (Nat.le_of_ble_eq_true rfl) S_34 rfl rfl (w_iload_n rfl rfl k)) ?_
  exact J_some (fun k => w_ireturn rfl rfl k)
set_option maxRecDepth 20000 in
set_option maxHeartbeats 4000000 in
theorem cal_dh_tear {Δ : DT} {d : Nat} (hd : 0 ≤ d)   {M : MEM} {p : Int × MEM} (h : dh_tear M = some p) (ho : okVs [vR 0]) (hM : okM M) : Cal Δ false m_dh_tear d [vR 0] (NG, S0, M) (some p.1) (NG, S0, p.2) 0 0 := by
  exact cal_of g_dh_tear p_dh_tear (fun v hv => by simp only [List.mem_cons, List.not_mem_nil, or_false] at hv; rcases hv with rfl <;> first | exact Or.inl ⟨_, rfl⟩ | exact Or.inr ⟨_, rfl⟩) ho hM (Nat.le_of_ble_eq_true rfl) (fun Γ _ k => J_dh_tear  _ h k)
set_option maxRecDepth 20000 in
set_option maxHeartbeats 4000000 in
theorem J_co_has {Δ : DT} {Γ : FT} {d : Nat} {x1 : Int}  {M : MEM} : J (some (co_has x1 M)) (K_I Δ Γ m_co_has M) (WAt Δ Γ false m_co_has d 0 [vR (34), vI (x1)] [] (NG, S0, M) 0 0) := by
  unfold co_has
  refine J.mono (fun k => w_iload_n rfl rfl k) ?_
  refine J_iteT (fun hc1 => ?_) (fun hc1 => ?_)
  · refine J.mono (fun k => s_if_lt_t rfl hc1 (w_iconst rfl (inR_c rfl) k)) ?_
    exact J_some (fun k => w_zreturn rfl rfl (Or.inl rfl) k)
  · refine J.mono (fun k => s_if_lt_f rfl hc1 (w_iload_n rfl rfl (w_aload_n rfl rfl (w_getI rfl (Nat.le_of_ble_eq_true rfl) S_34 rfl k)))) ?_
    refine J_iteT (fun hc2 => ?_) (fun hc2 => ?_)
    · refine J.mono (fun k => s_icmp_ge_t rfl hc2 (w_iconst rfl (inR_c rfl) k)) ?_
      exact J_some (fun k => w_zreturn rfl rfl (Or.inl rfl) k)
    · refine J.mono (fun k => s_icmp_ge_f rfl hc2 (w_iload_n rfl rfl (w_bipush rfl (bip_c rfl) k))) ?_
      refine J_iteT (fun hc3 => ?_) (fun hc3 => ?_)
      · refine J.mono (fun k => s_icmp_ge_t rfl hc3 (w_iconst rfl (inR_c rfl) k)) ?_
        exact J_some (fun k => w_zreturn rfl rfl (Or.inl rfl) k)
      · refine J.mono (fun k => s_icmp_ge_f rfl hc3 (w_iconst rfl (inR_c rfl) (w_goto rfl k))) ?_
        exact J_some (fun k => w_zreturn rfl rfl (Or.inr rfl) k)
set_option maxRecDepth 20000 in
set_option maxHeartbeats 4000000 in
theorem cal_co_has {Δ : DT} {d : Nat} (hd : 0 ≤ d) {x1 : Int}  {M : MEM} (ho : okVs [vR 34, vI x1]) (hM : okM M) : Cal Δ false m_co_has d [vR 34, vI x1] (NG, S0, M) (some (co_has x1 M)) (NG, S0, M) 0 0 := by
  exact cal_of g_co_has p_co_has (fun v hv => by simp only [List.mem_cons, List.not_mem_nil, or_false] at hv; rcases hv with rfl | rfl <;> first | exact Or.inl ⟨_, rfl⟩ | exact Or.inr ⟨_, rfl⟩) ho hM (Nat.le_of_ble_eq_true rfl) (fun Γ _ k => J_co_has  _ rfl k)
set_option maxRecDepth 20000 in
set_option maxHeartbeats 4000000 in
theorem J_dh_isFar {Δ : DT} {Γ : FT} {d : Nat} {x0 : Int}  {M : MEM} : J (some (dh_isFar x0)) (K_I Δ Γ m_dh_isFar M) (WAt Δ Γ false m_dh_isFar d 0 [vI (x0)] [] (NG, S0, M) 0 0) := by
  unfold dh_isFar
  refine J.mono (fun k => w_iload_n rfl rfl (w_iconst rfl (inR_c rfl) k)) ?_
  refine J_iteT (fun hc1 => ?_) (fun hc1 => ?_)
  · refine J.mono (fun k => s_icmp_lt_t rfl hc1 (w_iconst rfl (inR_c rfl) k)) ?_
    exact J_some (fun k => w_zreturn rfl rfl (Or.inl rfl) k)
  · refine J.mono (fun k => s_icmp_lt_f rfl hc1 (w_iload_n rfl rfl (w_sipush rfl (sip_c rfl) k))) ?_
    refine J_iteT (fun hc2 => ?_) (fun hc2 => ?_)
    · refine J.mono (fun k => s_icmp_gt_t rfl hc2 (w_iconst rfl (inR_c rfl) k)) ?_
      exact J_some (fun k => w_zreturn rfl rfl (Or.inl rfl) k)
    · refine J.mono (fun k => s_icmp_gt_f rfl hc2 (w_iconst rfl (inR_c rfl) (w_goto rfl k))) ?_
      exact J_some (fun k => w_zreturn rfl rfl (Or.inr rfl) k)
set_option maxRecDepth 20000 in
set_option maxHeartbeats 4000000 in
theorem cal_dh_isFar {Δ : DT} {d : Nat} (hd : 0 ≤ d) {x0 : Int}  {M : MEM} (ho : okVs [vI x0]) (hM : okM M) : Cal Δ false m_dh_isFar d [vI x0] (NG, S0, M) (some (dh_isFar x0)) (NG, S0, M) 0 0 := by
  exact cal_of g_dh_isFar p_dh_isFar (fun v hv => by simp only [List.mem_cons, List.not_mem_nil, or_false] at hv; rcases hv with rfl <;> first | exact Or.inl ⟨_, rfl⟩ | exact Or.inr ⟨_, rfl⟩) ho hM (Nat.le_of_ble_eq_true rfl) (fun Γ _ k => J_dh_isFar  _ rfl k)
set_option maxRecDepth 20000 in
set_option maxHeartbeats 4000000 in
theorem J_dh_isLaw {Δ : DT} {Γ : FT} {d : Nat} {x0 : Int}  {M : MEM} : J (some (dh_isLaw x0)) (K_I Δ Γ m_dh_isLaw M) (WAt Δ Γ false m_dh_isLaw d 0 [vI (x0)] [] (NG, S0, M) 0 0) := by
  unfold dh_isLaw
  refine J.mono (fun k => w_iload_n rfl rfl k) ?_
  refine J_iteT (fun hc1 => ?_) (fun hc1 => ?_)
  · refine J.mono (fun k => s_if_lt_t rfl hc1 (w_iconst rfl (inR_c rfl) k)) ?_
    exact J_some (fun k => w_zreturn rfl rfl (Or.inl rfl) k)
  · refine J.mono (fun k => s_if_lt_f rfl hc1 (w_iload_n rfl rfl (w_iconst rfl (inR_c rfl) k))) ?_
    refine J_iteT (fun hc2 => ?_) (fun hc2 => ?_)
    · refine J.mono (fun k => s_icmp_ge_t rfl hc2 (w_iconst rfl (inR_c rfl) k)) ?_
      exact J_some (fun k => w_zreturn rfl rfl (Or.inl rfl) k)
    · refine J.mono (fun k => s_icmp_ge_f rfl hc2 (w_iconst rfl (inR_c rfl) (w_goto rfl k))) ?_
      exact J_some (fun k => w_zreturn rfl rfl (Or.inr rfl) k)
set_option maxRecDepth 20000 in
set_option maxHeartbeats 4000000 in
theorem cal_dh_isLaw {Δ : DT} {d : Nat} (hd : 0 ≤ d) {x0 : Int}  {M : MEM} (ho : okVs [vI x0]) (hM : okM M) : Cal Δ false m_dh_isLaw d [vI x0] (NG, S0, M) (some (dh_isLaw x0)) (NG, S0, M) 0 0 := by
  exact cal_of g_dh_isLaw p_dh_isLaw (fun v hv => by simp only [List.mem_cons, List.not_mem_nil, or_false] at hv; rcases hv with rfl <;> first | exact Or.inl ⟨_, rfl⟩ | exact Or.inr ⟨_, rfl⟩) ho hM (Nat.le_of_ble_eq_true rfl) (fun Γ _ k => J_dh_isLaw  _ rfl k)
set_option maxRecDepth 20000 in
set_option maxHeartbeats 4000000 in
theorem J_dh_timesDue {Δ : DT} {Γ : FT} {d : Nat} (hd : 1 ≤ d + 1) {x0 : Int} {x1 : Int}  {M : MEM} : J (some (dh_timesDue x0 x1)) (K_I Δ Γ m_dh_timesDue M) (WAt Δ Γ false m_dh_timesDue (d + 1) 0 [vI (x0), vI (x1)] [] (NG, S0, M) 0 0) := by
  unfold dh_timesDue
  refine J.mono (fun k => w_iload_n rfl rfl (w_iconst rfl (inR_c rfl) k)) ?_
  refine J_iteT (fun hc1 => ?_) (fun hc1 => ?_)
  · refine J.mono (fun k => s_icmp_ne_f rfl hc1 (w_iload_n rfl rfl k)) ?_
    exact J_some (fun k => w_ireturn rfl rfl k)
  · refine J.mono (fun k => s_icmp_ne_t rfl hc1 (w_iload_n rfl rfl (w_iconst rfl (inR_c rfl) k))) ?_
    refine J_iteT (fun hc2 => ?_) (fun hc2 => ?_)
    · refine J.mono (fun k => s_icmp_ne_f rfl hc2 (w_iload_n rfl rfl (w_iconst rfl (inR_c rfl) k))) ?_
      refine J_iteT (fun hc3 => ?_) (fun hc3 => ?_)
      · refine J.mono (fun k => s_icmp_ne_f rfl hc3 (w_iconst rfl (inR_c rfl) (w_goto rfl k))) ?_
        exact J_some (fun k => w_ireturn rfl rfl k)
      · refine J.mono (fun k => s_icmp_ne_t rfl hc3 (w_iconst rfl (inR_c rfl) k)) ?_
        exact J_some (fun k => w_ireturn rfl rfl k)
    · refine J.mono (fun k => s_icmp_ne_t rfl hc2 (w_iconst rfl (inR_c rfl) (w_iload_n rfl rfl k))) ?_
      refine J.mono (fun k => w_mmin rfl (Nat.le_of_ble_eq_true rfl) k) ?_
      exact J_some (fun k => w_ireturn rfl rfl k)
set_option maxRecDepth 20000 in
set_option maxHeartbeats 4000000 in
theorem cal_dh_timesDue {Δ : DT} {d : Nat} (hd : 1 ≤ d) {x0 : Int} {x1 : Int}  {M : MEM} (ho : okVs [vI x0, vI x1]) (hM : okM M) : Cal Δ false m_dh_timesDue d [vI x0, vI x1] (NG, S0, M) (some (dh_timesDue x0 x1)) (NG, S0, M) 0 0 := by
  obtain ⟨d, rfl⟩ : ∃ e, d = e + 1 := ⟨d - 1, by omega⟩
  exact cal_of g_dh_timesDue p_dh_timesDue (fun v hv => by simp only [List.mem_cons, List.not_mem_nil, or_false] at hv; rcases hv with rfl | rfl <;> first | exact Or.inl ⟨_, rfl⟩ | exact Or.inr ⟨_, rfl⟩) ho hM (Nat.le_of_ble_eq_true rfl) (fun Γ _ k => J_dh_timesDue hd  _ rfl k)
set_option maxRecDepth 20000 in
set_option maxHeartbeats 4000000 in
theorem J_fu_isHour {Δ : DT} {Γ : FT} {d : Nat} (hd : 1 ≤ d + 1) {a0 : Nat} {x1 : Int} {x2 : Int} (h_a0 : is_fu a0) {M : MEM} : J (fu_isHour a0 x1 x2 M) (K_I Δ Γ m_fu_isHour M) (WAt Δ Γ false m_fu_isHour (d + 1) 0 [vR (a0), vI (x1), vI (x2)] [] (NG, S0, M) 0 0) := by
  unfold fu_isHour
  refine J.mono (fun k => w_aload_n rfl rfl (w_getR (r := (a0 + 6)) rfl (fu_S h_a0).1 (fu_S h_a0).2 rfl (w_getI rfl (be_S (fu_f4 h_a0)).1 (be_S (fu_f4 h_a0)).2 rfl (w_aload_n rfl rfl (w_getI rfl (fu_S h_a0).1 (fu_S h_a0).2 rfl (w_isub rfl (w_iload_n rfl rfl (w_iadd rfl (w_bipush rfl (bip_c rfl) k))))))))) ?_
  refine J_c (fun r2 e1 => ?_)
  refine J_hyp (fun k => c_si2 rfl rfl (fun ho hM => cal_jm_floorMod (by omega)  e1 ho hM) v_jm_floorMod (Nat.le_of_ble_eq_true rfl) k) (fun hr3 hb4 => ?_)
  refine J.mono (fun k => w_iload_n rfl rfl k) ?_
  refine J_ite (fun hc5 => ?_) (fun hc5 => ?_)
  · refine J.mono (fun k => s_icmp_ne_f rfl hc5 (w_iconst rfl (inR_c rfl) (w_goto rfl k))) ?_
    exact J_some (fun k => w_zreturn rfl rfl (Or.inr rfl) k)
  · refine J.mono (fun k => s_icmp_ne_t rfl hc5 (w_iconst rfl (inR_c rfl) k)) ?_
    exact J_some (fun k => w_zreturn rfl rfl (Or.inl rfl) k)
set_option maxRecDepth 20000 in
set_option maxHeartbeats 4000000 in
theorem cal_fu_isHour {Δ : DT} {d : Nat} (hd : 1 ≤ d) {a0 : Nat} {x1 : Int} {x2 : Int} (h_a0 : is_fu a0) {M : MEM} {r : Int} (h : fu_isHour a0 x1 x2 M = some r) (ho : okVs [vR a0, vI x1, vI x2]) (hM : okM M) : Cal Δ false m_fu_isHour d [vR a0, vI x1, vI x2] (NG, S0, M) (some r) (NG, S0, M) 0 0 := by
  obtain ⟨d, rfl⟩ : ∃ e, d = e + 1 := ⟨d - 1, by omega⟩
  exact cal_of g_fu_isHour p_fu_isHour (fun v hv => by simp only [List.mem_cons, List.not_mem_nil, or_false] at hv; rcases hv with rfl | rfl | rfl <;> first | exact Or.inl ⟨_, rfl⟩ | exact Or.inr ⟨_, rfl⟩) ho hM (Nat.le_of_ble_eq_true rfl) (fun Γ _ k => J_fu_isHour hd h_a0 _ h k)
abbrev HD_fu_firstStruck_b2 (Δ : DT) (Γ : FT) (d : Nat) (a0 : Nat) (x1 : Int) (M : MEM) (s : Int) : Prop := WAt Δ Γ false m_fu_firstStruck (d + 1) 2 [vR (a0), vI (x1), vI (s)] [] (NG, S0, M) 0 0
abbrev X_fu_firstStruck_b2 (Δ : DT) (Γ : FT) (d : Nat) (a0 : Nat) (x1 : Int) (M : MEM) : (Int) ⊕ (Int) → Prop := Sum.elim (K_I Δ Γ m_fu_firstStruck M) (fun s => WAt Δ Γ false m_fu_firstStruck (d + 1) 31 [vN, vN, vN] [] (NG, S0, M) 0 0)
set_option maxRecDepth 20000 in
set_option maxHeartbeats 4000000 in
theorem Jb_fu_firstStruck_b2 {Δ : DT} {Γ : FT} {d : Nat} (hd : 2 ≤ d + 1) {a0 : Nat} {x1 : Int} (h_a0 : is_fu a0) {x2 : Int} {M : MEM} : J (fu_firstStruck_b2 a0 x1 x2 M) (Sum.elim (HD_fu_firstStruck_b2 Δ Γ d a0 x1 M) (X_fu_firstStruck_b2 Δ Γ d a0 x1 M)) (WAt Δ Γ false m_fu_firstStruck (d + 1) 2 [vR (a0), vI (x1), vI (x2)] [] (NG, S0, M) 0 0) := by
  unfold fu_firstStruck_b2
  refine J.mono (fun k => w_iload_n rfl rfl (w_aload_n rfl rfl (w_getI rfl (fu_S h_a0).1 (fu_S h_a0).2 rfl k))) ?_
  refine J_ite (fun hc1 => ?_) (fun hc1 => ?_)
  · refine J.mono (fun k => s_icmp_gt_t rfl hc1 k) ?_
    exact J_some (fun k => w_forget (wk_d (wk_d (wk_d wk_0))) k)
  · refine J.mono (fun k => s_icmp_gt_f rfl hc1 (w_aload_n rfl rfl (w_iload_n rfl rfl (w_iload_n rfl rfl k)))) ?_
    refine J_c (fun r3 e2 => ?_)
    refine J_hyp (fun k => c_vi2 rfl (fun ho hM => cal_fu_isHour (by omega) h_a0 e2 ho hM) v_fu_isHour (fu_S h_a0).1 (fu_S h_a0).2 rfl (Nat.le_of_ble_eq_true rfl) k) (fun hr4 hb5 => ?_)
    refine J_ite (fun hc6 => ?_) (fun hc6 => ?_)
    · refine J.mono (fun k => s_if_eq_t rfl hc6 (s_iinc2 rfl (Nat.le_of_ble_eq_true rfl) (w_goto rfl k))) ?_
      exact J_some (fun k => w_forget (wk_k (wk_k (wk_k wk_0))) k)
    · refine J.mono (fun k => s_if_eq_f rfl hc6 (w_aload_n rfl rfl (w_iload_n rfl rfl k))) ?_
      refine J_c (fun r8 e7 => ?_)
      refine J_hyp (fun k => c_vi1 rfl (fun ho hM => cal_fu_strokeMinute (by omega) h_a0 e7 ho hM) v_fu_strokeMinute (fu_S h_a0).1 (fu_S h_a0).2 rfl (Nat.le_of_ble_eq_true rfl) k) (fun hr9 hb10 => ?_)
      exact J_some (fun k => w_ireturn rfl rfl k)
set_option maxRecDepth 20000 in
set_option maxHeartbeats 4000000 in
theorem Jl_fu_firstStruck_b2 {Δ : DT} {Γ : FT} {d : Nat} (hd : 2 ≤ d + 1) {a0 : Nat} {x1 : Int} (h_a0 : is_fu a0) {M : MEM} : ∀ (n : Nat) (s : Int), J (iter (fun s => fu_firstStruck_b2 a0 x1 s M) n s) (X_fu_firstStruck_b2 Δ Γ d a0 x1 M) (HD_fu_firstStruck_b2 Δ Γ d a0 x1 M s) := J_iter (fun s => Jb_fu_firstStruck_b2 hd h_a0)
set_option maxRecDepth 20000 in
set_option maxHeartbeats 4000000 in
theorem J_fu_firstStruck {Δ : DT} {Γ : FT} {d : Nat} (hd : 2 ≤ d + 1) {a0 : Nat} {x1 : Int} (h_a0 : is_fu a0) {M : MEM} : J (fu_firstStruck a0 x1 M) (K_I Δ Γ m_fu_firstStruck M) (WAt Δ Γ false m_fu_firstStruck (d + 1) 0 [vR (a0), vI (x1), vN] [] (NG, S0, M) 0 0) := by
  unfold fu_firstStruck
  refine J.mono (fun k => w_iconst rfl (inR_c rfl) (s_istore2 rfl (Nat.le_of_ble_eq_true rfl) k)) ?_
  refine J.mono (fun k => w_forget (wk_k (wk_k (wk_k wk_0))) k) ?_
  refine J_loop (Jl_fu_firstStruck_b2 hd h_a0 _ _) (fun w11 => ?_)
  refine J_elim (fun r => J_some (fun k => k)) (fun w11 => ?_)
  refine J.mono (fun k => w_iconst rfl (inR_c rfl) k) ?_
  exact J_some (fun k => w_ireturn rfl rfl k)
set_option maxRecDepth 20000 in
set_option maxHeartbeats 4000000 in
theorem cal_fu_firstStruck {Δ : DT} {d : Nat} (hd : 2 ≤ d) {a0 : Nat} {x1 : Int} (h_a0 : is_fu a0) {M : MEM} {r : Int} (h : fu_firstStruck a0 x1 M = some r) (ho : okVs [vR a0, vI x1]) (hM : okM M) : Cal Δ false m_fu_firstStruck d [vR a0, vI x1] (NG, S0, M) (some r) (NG, S0, M) 0 0 := by
  obtain ⟨d, rfl⟩ : ∃ e, d = e + 1 := ⟨d - 1, by omega⟩
  exact cal_of g_fu_firstStruck p_fu_firstStruck (fun v hv => by simp only [List.mem_cons, List.not_mem_nil, or_false] at hv; rcases hv with rfl | rfl <;> first | exact Or.inl ⟨_, rfl⟩ | exact Or.inr ⟨_, rfl⟩) ho hM (Nat.le_of_ble_eq_true rfl) (fun Γ _ k => J_fu_firstStruck hd h_a0 _ h k)
abbrev HD_fu_lastStruck_b5 (Δ : DT) (Γ : FT) (d : Nat) (a0 : Nat) (x1 : Int) (M : MEM) (s : Int) : Prop := WAt Δ Γ false m_fu_lastStruck (d + 1) 5 [vR (a0), vI (x1), vI (s)] [] (NG, S0, M) 0 0
abbrev X_fu_lastStruck_b5 (Δ : DT) (Γ : FT) (d : Nat) (a0 : Nat) (x1 : Int) (M : MEM) : (Int) ⊕ (Int) → Prop := Sum.elim (K_I Δ Γ m_fu_lastStruck M) (fun s => WAt Δ Γ false m_fu_lastStruck (d + 1) 31 [vN, vN, vN] [] (NG, S0, M) 0 0)
set_option maxRecDepth 20000 in
set_option maxHeartbeats 4000000 in
theorem Jb_fu_lastStruck_b5 {Δ : DT} {Γ : FT} {d : Nat} (hd : 2 ≤ d + 1) {a0 : Nat} {x1 : Int} (h_a0 : is_fu a0) {x2 : Int} {M : MEM} : J (fu_lastStruck_b5 a0 x1 x2 M) (Sum.elim (HD_fu_lastStruck_b5 Δ Γ d a0 x1 M) (X_fu_lastStruck_b5 Δ Γ d a0 x1 M)) (WAt Δ Γ false m_fu_lastStruck (d + 1) 5 [vR (a0), vI (x1), vI (x2)] [] (NG, S0, M) 0 0) := by
  unfold fu_lastStruck_b5
  refine J.mono (fun k => w_iload_n rfl rfl (w_iconst rfl (inR_c rfl) k)) ?_
  refine J_ite (fun hc1 => ?_) (fun hc1 => ?_)
  · refine J.mono (fun k => s_icmp_lt_t rfl hc1 k) ?_
    exact J_some (fun k => w_forget (wk_d (wk_d (wk_d wk_0))) k)
  · refine J.mono (fun k => s_icmp_lt_f rfl hc1 (w_aload_n rfl rfl (w_iload_n rfl rfl (w_iload_n rfl rfl k)))) ?_
    refine J_c (fun r3 e2 => ?_)
    refine J_hyp (fun k => c_vi2 rfl (fun ho hM => cal_fu_isHour (by omega) h_a0 e2 ho hM) v_fu_isHour (fu_S h_a0).1 (fu_S h_a0).2 rfl (Nat.le_of_ble_eq_true rfl) k) (fun hr4 hb5 => ?_)
    refine J_ite (fun hc6 => ?_) (fun hc6 => ?_)
    · refine J.mono (fun k => s_if_eq_t rfl hc6 (s_iinc2 rfl (Nat.le_of_ble_eq_true rfl) (w_goto rfl k))) ?_
      exact J_some (fun k => w_forget (wk_k (wk_k (wk_k wk_0))) k)
    · refine J.mono (fun k => s_if_eq_f rfl hc6 (w_aload_n rfl rfl (w_iload_n rfl rfl k))) ?_
      refine J_c (fun r8 e7 => ?_)
      refine J_hyp (fun k => c_vi1 rfl (fun ho hM => cal_fu_strokeMinute (by omega) h_a0 e7 ho hM) v_fu_strokeMinute (fu_S h_a0).1 (fu_S h_a0).2 rfl (Nat.le_of_ble_eq_true rfl) k) (fun hr9 hb10 => ?_)
      exact J_some (fun k => w_ireturn rfl rfl k)
set_option maxRecDepth 20000 in
set_option maxHeartbeats 4000000 in
theorem Jl_fu_lastStruck_b5 {Δ : DT} {Γ : FT} {d : Nat} (hd : 2 ≤ d + 1) {a0 : Nat} {x1 : Int} (h_a0 : is_fu a0) {M : MEM} : ∀ (n : Nat) (s : Int), J (iter (fun s => fu_lastStruck_b5 a0 x1 s M) n s) (X_fu_lastStruck_b5 Δ Γ d a0 x1 M) (HD_fu_lastStruck_b5 Δ Γ d a0 x1 M s) := J_iter (fun s => Jb_fu_lastStruck_b5 hd h_a0)
set_option maxRecDepth 20000 in
set_option maxHeartbeats 4000000 in
theorem J_fu_lastStruck {Δ : DT} {Γ : FT} {d : Nat} (hd : 2 ≤ d + 1) {a0 : Nat} {x1 : Int} (h_a0 : is_fu a0) {M : MEM} : J (fu_lastStruck a0 x1 M) (K_I Δ Γ m_fu_lastStruck M) (WAt Δ Γ false m_fu_lastStruck (d + 1) 0 [vR (a0), vI (x1), vN] [] (NG, S0, M) 0 0) := by
  unfold fu_lastStruck
  refine J.mono (fun k => w_aload_n rfl rfl (w_getI rfl (fu_S h_a0).1 (fu_S h_a0).2 rfl (s_istore2 rfl (Nat.le_of_ble_eq_true rfl) k))) ?_
  refine J.mono (fun k => w_forget (wk_k (wk_k (wk_k wk_0))) k) ?_
  refine J_loop (Jl_fu_lastStruck_b5 hd h_a0 _ _) (fun w11 => ?_)
  refine J_elim (fun r => J_some (fun k => k)) (fun w11 => ?_)
  refine J.mono (fun k => w_iconst rfl (inR_c rfl) k) ?_
  exact J_some (fun k => w_ireturn rfl rfl k)
set_option maxRecDepth 20000 in
set_option maxHeartbeats 4000000 in
theorem cal_fu_lastStruck {Δ : DT} {d : Nat} (hd : 2 ≤ d) {a0 : Nat} {x1 : Int} (h_a0 : is_fu a0) {M : MEM} {r : Int} (h : fu_lastStruck a0 x1 M = some r) (ho : okVs [vR a0, vI x1]) (hM : okM M) : Cal Δ false m_fu_lastStruck d [vR a0, vI x1] (NG, S0, M) (some r) (NG, S0, M) 0 0 := by
  obtain ⟨d, rfl⟩ : ∃ e, d = e + 1 := ⟨d - 1, by omega⟩
  exact cal_of g_fu_lastStruck p_fu_lastStruck (fun v hv => by simp only [List.mem_cons, List.not_mem_nil, or_false] at hv; rcases hv with rfl | rfl <;> first | exact Or.inl ⟨_, rfl⟩ | exact Or.inr ⟨_, rfl⟩) ho hM (Nat.le_of_ble_eq_true rfl) (fun Γ _ k => J_fu_lastStruck hd h_a0 _ h k)
abbrev HD_fu_timesStruck_b4 (Δ : DT) (Γ : FT) (d : Nat) (a0 : Nat) (x1 : Int) (M : MEM) (s : Int × Int) : Prop := WAt Δ Γ false m_fu_timesStruck (d + 1) 4 [vR (a0), vI (x1), vI (s.1), vI (s.2)] [] (NG, S0, M) 0 0
abbrev X_fu_timesStruck_b4 (Δ : DT) (Γ : FT) (d : Nat) (a0 : Nat) (x1 : Int) (M : MEM) (s : Int × Int) : Prop := WAt Δ Γ false m_fu_timesStruck (d + 1) 30 [vN, vN, vI (s.1), vN] [] (NG, S0, M) 0 0
set_option maxRecDepth 20000 in
set_option maxHeartbeats 4000000 in
theorem J_fu_timesStruck_j24_4 {Δ : DT} {Γ : FT} {d : Nat} (hd : 2 ≤ d + 1) {a0 : Nat} {x1 : Int} {x2 : Int} {x3 : Int} (h_a0 : is_fu a0) {M : MEM} : J (fu_timesStruck_j24_4 a0 x1 x2 x3 M) (Sum.elim (HD_fu_timesStruck_b4 Δ Γ d a0 x1 M) (X_fu_timesStruck_b4 Δ Γ d a0 x1 M)) (WAt Δ Γ false m_fu_timesStruck (d + 1) 24 [vR (a0), vI (x1), vI (x2), vI (x3)] [] (NG, S0, M) 0 0) := by
  unfold fu_timesStruck_j24_4
  refine J.mono (fun k => s_iinc3 rfl (Nat.le_of_ble_eq_true rfl) (w_goto rfl k)) ?_
  exact J_some (fun k => w_forget (wk_k (wk_k (wk_k (wk_k wk_0)))) k)
set_option maxRecDepth 20000 in
set_option maxHeartbeats 4000000 in
theorem Jb_fu_timesStruck_b4 {Δ : DT} {Γ : FT} {d : Nat} (hd : 2 ≤ d + 1) {a0 : Nat} {x1 : Int} (h_a0 : is_fu a0) {x2 : Int} {x3 : Int} {M : MEM} : J (fu_timesStruck_b4 a0 x1 x2 x3 M) (Sum.elim (HD_fu_timesStruck_b4 Δ Γ d a0 x1 M) (X_fu_timesStruck_b4 Δ Γ d a0 x1 M)) (WAt Δ Γ false m_fu_timesStruck (d + 1) 4 [vR (a0), vI (x1), vI (x2), vI (x3)] [] (NG, S0, M) 0 0) := by
  unfold fu_timesStruck_b4
  refine J.mono (fun k => w_iload_n rfl rfl (w_aload_n rfl rfl (w_getI rfl (fu_S h_a0).1 (fu_S h_a0).2 rfl k))) ?_
  refine J_ite (fun hc1 => ?_) (fun hc1 => ?_)
  · refine J.mono (fun k => s_icmp_gt_t rfl hc1 k) ?_
    exact J_some (fun k => w_forget (wk_d (wk_d (wk_k (wk_d wk_0)))) k)
  · refine J.mono (fun k => s_icmp_gt_f rfl hc1 (w_aload_n rfl rfl (w_iload_n rfl rfl (w_iload_n rfl rfl k)))) ?_
    refine J_c (fun r3 e2 => ?_)
    refine J_hyp (fun k => c_vi2 rfl (fun ho hM => cal_fu_isHour (by omega) h_a0 e2 ho hM) v_fu_isHour (fu_S h_a0).1 (fu_S h_a0).2 rfl (Nat.le_of_ble_eq_true rfl) k) (fun hr4 hb5 => ?_)
    refine J_ite (fun hc6 => ?_) (fun hc6 => ?_)
    · refine J.mono (fun k => s_if_eq_t rfl hc6 k) ?_
      exact J.mono (fun k => w_forget (wk_k (wk_k (wk_k (wk_k wk_0)))) k) (J_fu_timesStruck_j24_4 hd h_a0)
    · refine J.mono (fun k => s_if_eq_f rfl hc6 (s_iinc2 rfl (Nat.le_of_ble_eq_true rfl) k)) ?_
      exact J.mono (fun k => w_forget (wk_k (wk_k (wk_k (wk_k wk_0)))) k) (J_fu_timesStruck_j24_4 hd h_a0)
set_option maxRecDepth 20000 in
set_option maxHeartbeats 4000000 in
theorem Jl_fu_timesStruck_b4 {Δ : DT} {Γ : FT} {d : Nat} (hd : 2 ≤ d + 1) {a0 : Nat} {x1 : Int} (h_a0 : is_fu a0) {M : MEM} : ∀ (n : Nat) (s : Int × Int), J (iter (fun s => fu_timesStruck_b4 a0 x1 s.1 s.2 M) n s) (X_fu_timesStruck_b4 Δ Γ d a0 x1 M) (HD_fu_timesStruck_b4 Δ Γ d a0 x1 M s) := J_iter (fun s => Jb_fu_timesStruck_b4 hd h_a0)
set_option maxRecDepth 20000 in
set_option maxHeartbeats 4000000 in
theorem J_fu_timesStruck {Δ : DT} {Γ : FT} {d : Nat} (hd : 2 ≤ d + 1) {a0 : Nat} {x1 : Int} (h_a0 : is_fu a0) {M : MEM} : J (fu_timesStruck a0 x1 M) (K_I Δ Γ m_fu_timesStruck M) (WAt Δ Γ false m_fu_timesStruck (d + 1) 0 [vR (a0), vI (x1), vN, vN] [] (NG, S0, M) 0 0) := by
  unfold fu_timesStruck
  refine J.mono (fun k => w_iconst rfl (inR_c rfl) (s_istore2 rfl (Nat.le_of_ble_eq_true rfl) (w_iconst rfl (inR_c rfl) (s_istore3 rfl (Nat.le_of_ble_eq_true rfl) k)))) ?_
  refine J.mono (fun k => w_forget (wk_k (wk_k (wk_k (wk_k wk_0)))) k) ?_
  refine J_loop (Jl_fu_timesStruck_b4 hd h_a0 _ _) (fun w7 => ?_)
  refine J.mono (fun k => w_iload_n rfl rfl k) ?_
  exact J_some (fun k => w_ireturn rfl rfl k)
set_option maxRecDepth 20000 in
set_option maxHeartbeats 4000000 in
theorem cal_fu_timesStruck {Δ : DT} {d : Nat} (hd : 2 ≤ d) {a0 : Nat} {x1 : Int} (h_a0 : is_fu a0) {M : MEM} {r : Int} (h : fu_timesStruck a0 x1 M = some r) (ho : okVs [vR a0, vI x1]) (hM : okM M) : Cal Δ false m_fu_timesStruck d [vR a0, vI x1] (NG, S0, M) (some r) (NG, S0, M) 0 0 := by
  obtain ⟨d, rfl⟩ : ∃ e, d = e + 1 := ⟨d - 1, by omega⟩
  exact cal_of g_fu_timesStruck p_fu_timesStruck (fun v hv => by simp only [List.mem_cons, List.not_mem_nil, or_false] at hv; rcases hv with rfl | rfl <;> first | exact Or.inl ⟨_, rfl⟩ | exact Or.inr ⟨_, rfl⟩) ho hM (Nat.le_of_ble_eq_true rfl) (fun Γ _ k => J_fu_timesStruck hd h_a0 _ h k)
set_option maxRecDepth 20000 in
set_option maxHeartbeats 4000000 in
theorem J_dh_due {Δ : DT} {Γ : FT} {d : Nat} (hd : 4 ≤ d + 1) {x1 : Int} {x2 : Int} {x3 : Int}  {M : MEM} : J (dh_due x1 x2 x3 M) (K_IM Δ Γ m_dh_due) (WAt Δ Γ false m_dh_due (d + 1) 0 [vR (0), vI (x1), vI (x2), vI (x3), vN, vN] [] (NG, S0, M) 0 0) := by
  unfold dh_due
  refine J.mono (fun k => w_aload_n rfl rfl (w_getR (r := 34) rfl (Nat.le_of_ble_eq_true rfl) S_0 rfl (w_iload_n rfl rfl k))) ?_
  refine J_hyp (fun k => c_vi1 rfl (fun ho hM => cal_co_has (by omega)   ho hM) v_co_has (Nat.le_of_ble_eq_true rfl) S_34 rfl (Nat.le_of_ble_eq_true rfl) k) (fun hr2 hb3 => ?_)
  refine J_ite (fun hc4 => ?_) (fun hc4 => ?_)
  · refine J.mono (fun k => s_if_eq_t rfl hc4 (w_iconst rfl (inR_c rfl) k)) ?_
    exact J_some (fun k => w_ireturn rfl rfl k)
  · refine J.mono (fun k => s_if_eq_f rfl hc4 (w_iload_n rfl rfl k)) ?_
    refine J_hyp (fun k => c_si1 rfl rfl (fun ho hM => cal_dh_isLaw (by omega)   ho hM) v_dh_isLaw (Nat.le_of_ble_eq_true rfl) k) (fun hr6 hb7 => ?_)
    refine J_ite (fun hc8 => ?_) (fun hc8 => ?_)
    · refine J.mono (fun k => s_if_eq_t rfl hc8 (w_iconst rfl (inR_c rfl) k)) ?_
      exact J_some (fun k => w_ireturn rfl rfl k)
    · refine J.mono (fun k => s_if_eq_f rfl hc8 (w_iload_n rfl rfl k)) ?_
      refine J_hyp (fun k => c_si1 rfl rfl (fun ho hM => cal_dh_isFar (by omega)   ho hM) v_dh_isFar (Nat.le_of_ble_eq_true rfl) k) (fun hr10 hb11 => ?_)
      refine J_ite (fun hc12 => ?_) (fun hc12 => ?_)
      · refine J.mono (fun k => s_if_ne_f rfl hc12 (w_iconst rfl (inR_c rfl) k)) ?_
        exact J_some (fun k => w_ireturn rfl rfl k)
      · refine J.mono (fun k => s_if_ne_t rfl hc12 (w_aload_n rfl rfl (w_aload_n rfl rfl (w_getR (r := 224) rfl (Nat.le_of_ble_eq_true rfl) S_0 rfl (w_aload_n rfl rfl (w_getR (r := 34) rfl (Nat.le_of_ble_eq_true rfl) S_0 rfl (w_getR (r := 38) rfl (Nat.le_of_ble_eq_true rfl) S_34 rfl (w_iload_n rfl rfl k)))))))) ?_
        refine J_chk (fun hi13 => ?_)
        refine J.mono (fun k => w_iald rfl A_38.1 A_38.2 hi13.1 hi13.2 k) ?_
        refine J_c (fun M15 e14 => ?_)
        refine J.mono (fun k => c_vv2 rfl (fun ho hM => cal_dh_look (by omega) is_fu_224 e14 ho hM) v_dh_look (Nat.le_of_ble_eq_true rfl) S_0 rfl (Nat.le_of_ble_eq_true rfl) (w_aload_n rfl rfl (w_getR (r := 224) rfl (Nat.le_of_ble_eq_true rfl) S_0 rfl (w_iload_n rfl rfl (w_sipush rfl (sip_c rfl) k))))) ?_
        refine J_c (fun M17 e16 => ?_)
        refine J.mono (fun k => c_vv2 rfl (fun ho hM => cal_fu_run (by omega) is_fu_224 e16 ho hM) v_fu_run (fu_S is_fu_224).1 (fu_S is_fu_224).2 rfl (Nat.le_of_ble_eq_true rfl) (w_aload_n rfl rfl (w_getR (r := 34) rfl (Nat.le_of_ble_eq_true rfl) S_0 rfl (w_getR (r := 39) rfl (Nat.le_of_ble_eq_true rfl) S_34 rfl (w_iload_n rfl rfl k))))) ?_
        refine J_chk (fun hi18 => ?_)
        refine J.mono (fun k => w_iald rfl A_39.1 A_39.2 hi18.1 hi18.2 (s_istore4 rfl (Nat.le_of_ble_eq_true rfl) (w_iload_n rfl rfl (w_aload_n rfl rfl (w_getR (r := 224) rfl (Nat.le_of_ble_eq_true rfl) S_0 rfl (w_iload rfl rfl k)))))) ?_
        refine J_c (fun r20 e19 => ?_)
        refine J_hyp (fun k => c_vi1 rfl (fun ho hM => cal_fu_timesStruck (by omega) is_fu_224 e19 ho hM) v_fu_timesStruck (fu_S is_fu_224).1 (fu_S is_fu_224).2 rfl (Nat.le_of_ble_eq_true rfl) k) (fun hr21 hb22 => ?_)
        refine J_hyp (fun k => c_si2 rfl rfl (fun ho hM => cal_dh_timesDue (by omega)   ho hM) v_dh_timesDue (Nat.le_of_ble_eq_true rfl) k) (fun hr24 hb25 => ?_)
        refine J.mono (fun k => s_istore5 rfl (Nat.le_of_ble_eq_true rfl) (w_iload rfl rfl k)) ?_
        refine J_ite (fun hc26 => ?_) (fun hc26 => ?_)
        · refine J.mono (fun k => s_if_ne_f rfl hc26 (w_bipush rfl (bip_c rfl) k)) ?_
          exact J_some (fun k => w_ireturn rfl rfl k)
        · refine J.mono (fun k => s_if_ne_t rfl hc26 (w_iload_n rfl rfl (w_iconst rfl (inR_c rfl) k))) ?_
          refine J_ite (fun hc27 => ?_) (fun hc27 => ?_)
          · refine J.mono (fun k => s_icmp_ne_f rfl hc27 (w_aload_n rfl rfl (w_getR (r := 224) rfl (Nat.le_of_ble_eq_true rfl) S_0 rfl (w_iload rfl rfl k)))) ?_
            refine J_c (fun r29 e28 => ?_)
            refine J_hyp (fun k => c_vi1 rfl (fun ho hM => cal_fu_lastStruck (by omega) is_fu_224 e28 ho hM) v_fu_lastStruck (fu_S is_fu_224).1 (fu_S is_fu_224).2 rfl (Nat.le_of_ble_eq_true rfl) k) (fun hr30 hb31 => ?_)
            refine J.mono (fun k => w_goto rfl k) ?_
            exact J_some (fun k => w_ireturn rfl rfl k)
          · refine J.mono (fun k => s_icmp_ne_t rfl hc27 (w_aload_n rfl rfl (w_getR (r := 224) rfl (Nat.le_of_ble_eq_true rfl) S_0 rfl (w_iload rfl rfl k)))) ?_
            refine J_c (fun r33 e32 => ?_)
            refine J_hyp (fun k => c_vi1 rfl (fun ho hM => cal_fu_firstStruck (by omega) is_fu_224 e32 ho hM) v_fu_firstStruck (fu_S is_fu_224).1 (fu_S is_fu_224).2 rfl (Nat.le_of_ble_eq_true rfl) k) (fun hr34 hb35 => ?_)
            exact J_some (fun k => w_ireturn rfl rfl k)
set_option maxRecDepth 20000 in
set_option maxHeartbeats 4000000 in
theorem cal_dh_due {Δ : DT} {d : Nat} (hd : 4 ≤ d) {x1 : Int} {x2 : Int} {x3 : Int}  {M : MEM} {p : Int × MEM} (h : dh_due x1 x2 x3 M = some p) (ho : okVs [vR 0, vI x1, vI x2, vI x3]) (hM : okM M) : Cal Δ false m_dh_due d [vR 0, vI x1, vI x2, vI x3] (NG, S0, M) (some p.1) (NG, S0, p.2) 0 0 := by
  obtain ⟨d, rfl⟩ : ∃ e, d = e + 1 := ⟨d - 1, by omega⟩
  exact cal_of g_dh_due p_dh_due (fun v hv => by simp only [List.mem_cons, List.not_mem_nil, or_false] at hv; rcases hv with rfl | rfl | rfl | rfl <;> first | exact Or.inl ⟨_, rfl⟩ | exact Or.inr ⟨_, rfl⟩) ho hM (Nat.le_of_ble_eq_true rfl) (fun Γ _ k => J_dh_due hd  _ h k)
abbrev HD_co_sumOf_b6 (Δ : DT) (Γ : FT) (d : Nat) (a1 : Nat) (x2 : Int) (x3 : Int) (M : MEM) (s : Int × Int) : Prop := WAt Δ Γ false m_co_sumOf (d + 1) 6 [vR (34), vR (a1), vI (x2), vI (x3), vI (s.1), vI (s.2)] [] (NG, S0, M) 0 0
abbrev X_co_sumOf_b6 (Δ : DT) (Γ : FT) (d : Nat) (a1 : Nat) (x2 : Int) (x3 : Int) (M : MEM) (s : Int × Int) : Prop := WAt Δ Γ false m_co_sumOf (d + 1) 67 [vN, vN, vN, vN, vI (s.1), vN] [] (NG, S0, M) 0 0
set_option maxRecDepth 20000 in
set_option maxHeartbeats 4000000 in
theorem J_co_sumOf_j61_6 {Δ : DT} {Γ : FT} {d : Nat} (hd : 2 ≤ d + 1) {a1 : Nat} {x2 : Int} {x3 : Int} {x4 : Int} {x5 : Int} (h_a1 : isArr 0 (lenA a1) a1) {M : MEM} : J (co_sumOf_j61_6 a1 x2 x3 x4 x5 M) (Sum.elim (HD_co_sumOf_b6 Δ Γ d a1 x2 x3 M) (X_co_sumOf_b6 Δ Γ d a1 x2 x3 M)) (WAt Δ Γ false m_co_sumOf (d + 1) 61 [vR (34), vR (a1), vI (x2), vI (x3), vI (x4), vI (x5)] [] (NG, S0, M) 0 0) := by
  unfold co_sumOf_j61_6
  refine J.mono (fun k => s_iinc5 rfl (Nat.le_of_ble_eq_true rfl) (w_goto rfl k)) ?_
  exact J_some (fun k => w_forget (wk_k (wk_k (wk_k (wk_k (wk_k (wk_k wk_0)))))) k)
set_option maxRecDepth 20000 in
set_option maxHeartbeats 4000000 in
theorem Jb_co_sumOf_b6 {Δ : DT} {Γ : FT} {d : Nat} (hd : 2 ≤ d + 1) {a1 : Nat} {x2 : Int} {x3 : Int} (h_a1 : isArr 0 (lenA a1) a1) {x4 : Int} {x5 : Int} {M : MEM} : J (co_sumOf_b6 a1 x2 x3 x4 x5 M) (Sum.elim (HD_co_sumOf_b6 Δ Γ d a1 x2 x3 M) (X_co_sumOf_b6 Δ Γ d a1 x2 x3 M)) (WAt Δ Γ false m_co_sumOf (d + 1) 6 [vR (34), vR (a1), vI (x2), vI (x3), vI (x4), vI (x5)] [] (NG, S0, M) 0 0) := by
  unfold co_sumOf_b6
  refine J.mono (fun k => w_iload rfl rfl (w_aload_n rfl rfl (w_getI rfl (Nat.le_of_ble_eq_true rfl) S_34 rfl k))) ?_
  refine J_ite (fun hc1 => ?_) (fun hc1 => ?_)
  · refine J.mono (fun k => s_icmp_ge_t rfl hc1 k) ?_
    exact J_some (fun k => w_forget (wk_d (wk_d (wk_d (wk_d (wk_k (wk_d wk_0)))))) k)
  · refine J.mono (fun k => s_icmp_ge_f rfl hc1 (w_iload rfl rfl (w_aload_n rfl rfl (w_alen rfl h_a1.1 (Nat.le_of_ble_eq_true rfl) h_a1.2 (lenA_lt _) k)))) ?_
    refine J_ite (fun hc2 => ?_) (fun hc2 => ?_)
    · refine J.mono (fun k => s_icmp_ge_t rfl hc2 k) ?_
      exact J_some (fun k => w_forget (wk_d (wk_d (wk_d (wk_d (wk_k (wk_d wk_0)))))) k)
    · refine J.mono (fun k => s_icmp_ge_f rfl hc2 (w_iload rfl rfl (w_bipush rfl (bip_c rfl) k))) ?_
      refine J_ite (fun hc3 => ?_) (fun hc3 => ?_)
      · refine J.mono (fun k => s_icmp_ge_t rfl hc3 k) ?_
        exact J_some (fun k => w_forget (wk_d (wk_d (wk_d (wk_d (wk_k (wk_d wk_0)))))) k)
      · refine J.mono (fun k => s_icmp_ge_f rfl hc3 (w_aload_n rfl rfl (w_iload rfl rfl k))) ?_
        refine J_chk (fun hi4 => ?_)
        refine J.mono (fun k => w_iald rfl h_a1.1 h_a1.2 hi4.1 hi4.2 (w_iload_n rfl rfl k)) ?_
        refine J_ite (fun hc5 => ?_) (fun hc5 => ?_)
        · refine J.mono (fun k => s_icmp_ne_f rfl hc5 (w_iload rfl rfl (w_aload_n rfl rfl (w_getR (r := 37) rfl (Nat.le_of_ble_eq_true rfl) S_34 rfl (w_iload rfl rfl k))))) ?_
          refine J_chk (fun hi6 => ?_)
          refine J.mono (fun k => w_iald rfl A_37.1 A_37.2 hi6.1 hi6.2 (w_iload_n rfl rfl (w_aload_n rfl rfl (w_getR (r := 40) rfl (Nat.le_of_ble_eq_true rfl) S_34 rfl (w_iload rfl rfl k))))) ?_
          refine J_chk (fun hi7 => ?_)
          refine J.mono (fun k => w_iald rfl A_40.1 A_40.2 hi7.1 hi7.2 k) ?_
          refine J_hyp (fun k => c_sN2 rfl rfl (fun ho hM => cal_dh_timesDue (by omega)   ho hM) v_dh_timesDue (Nat.le_of_ble_eq_true rfl) k) (fun hr9 hb10 => ?_)
          refine J.mono (fun k => w_imul rfl (w_iadd rfl (s_istore4 rfl (Nat.le_of_ble_eq_true rfl) k))) ?_
          exact J.mono (fun k => w_forget (wk_k (wk_k (wk_k (wk_k (wk_k (wk_k wk_0)))))) k) (J_co_sumOf_j61_6 hd h_a1)
        · refine J.mono (fun k => s_icmp_ne_t rfl hc5 k) ?_
          exact J.mono (fun k => w_forget (wk_k (wk_k (wk_k (wk_k (wk_k (wk_k wk_0)))))) k) (J_co_sumOf_j61_6 hd h_a1)
set_option maxRecDepth 20000 in
set_option maxHeartbeats 4000000 in
theorem Jl_co_sumOf_b6 {Δ : DT} {Γ : FT} {d : Nat} (hd : 2 ≤ d + 1) {a1 : Nat} {x2 : Int} {x3 : Int} (h_a1 : isArr 0 (lenA a1) a1) {M : MEM} : ∀ (n : Nat) (s : Int × Int), J (iter (fun s => co_sumOf_b6 a1 x2 x3 s.1 s.2 M) n s) (X_co_sumOf_b6 Δ Γ d a1 x2 x3 M) (HD_co_sumOf_b6 Δ Γ d a1 x2 x3 M s) := J_iter (fun s => Jb_co_sumOf_b6 hd h_a1)
set_option maxRecDepth 20000 in
set_option maxHeartbeats 4000000 in
theorem J_co_sumOf {Δ : DT} {Γ : FT} {d : Nat} (hd : 2 ≤ d + 1) {a1 : Nat} {x2 : Int} {x3 : Int} (h_a1 : isArr 0 (lenA a1) a1) {M : MEM} : J (co_sumOf a1 x2 x3 M) (K_I Δ Γ m_co_sumOf M) (WAt Δ Γ false m_co_sumOf (d + 1) 0 [vR (34), vR (a1), vI (x2), vI (x3), vN, vN] [] (NG, S0, M) 0 0) := by
  unfold co_sumOf
  refine J.mono (fun k => w_iconst rfl (inR_c rfl) (s_istore4 rfl (Nat.le_of_ble_eq_true rfl) (w_iconst rfl (inR_c rfl) (s_istore5 rfl (Nat.le_of_ble_eq_true rfl) k)))) ?_
  refine J.mono (fun k => w_forget (wk_k (wk_k (wk_k (wk_k (wk_k (wk_k wk_0)))))) k) ?_
  refine J_loop (Jl_co_sumOf_b6 hd h_a1 _ _) (fun w11 => ?_)
  refine J.mono (fun k => w_iload rfl rfl k) ?_
  exact J_some (fun k => w_ireturn rfl rfl k)
set_option maxRecDepth 20000 in
set_option maxHeartbeats 4000000 in
theorem cal_co_sumOf {Δ : DT} {d : Nat} (hd : 2 ≤ d) {a1 : Nat} {x2 : Int} {x3 : Int} (h_a1 : isArr 0 (lenA a1) a1) {M : MEM} {r : Int} (h : co_sumOf a1 x2 x3 M = some r) (ho : okVs [vR 34, vR a1, vI x2, vI x3]) (hM : okM M) : Cal Δ false m_co_sumOf d [vR 34, vR a1, vI x2, vI x3] (NG, S0, M) (some r) (NG, S0, M) 0 0 := by
  obtain ⟨d, rfl⟩ : ∃ e, d = e + 1 := ⟨d - 1, by omega⟩
  exact cal_of g_co_sumOf p_co_sumOf (fun v hv => by simp only [List.mem_cons, List.not_mem_nil, or_false] at hv; rcases hv with rfl | rfl | rfl | rfl <;> first | exact Or.inl ⟨_, rfl⟩ | exact Or.inr ⟨_, rfl⟩) ho hM (Nat.le_of_ble_eq_true rfl) (fun Γ _ k => J_co_sumOf hd h_a1 _ h k)
set_option maxRecDepth 20000 in
set_option maxHeartbeats 4000000 in
theorem J_co_owedBy {Δ : DT} {Γ : FT} {d : Nat} (hd : 3 ≤ d + 1) {x1 : Int} {x2 : Int}  {M : MEM} : J (co_owedBy x1 x2 M) (K_I Δ Γ m_co_owedBy M) (WAt Δ Γ false m_co_owedBy (d + 1) 0 [vR (34), vI (x1), vI (x2)] [] (NG, S0, M) 0 0) := by
  unfold co_owedBy
  refine J.mono (fun k => w_aload_n rfl rfl (w_aload_n rfl rfl (w_getR (r := 35) rfl (Nat.le_of_ble_eq_true rfl) S_34 rfl (w_iload_n rfl rfl (w_iload_n rfl rfl k))))) ?_
  refine J_c (fun r2 e1 => ?_)
  refine J_hyp (fun k => c_vi3 rfl (fun ho hM => cal_co_sumOf (by omega) (isArr_len A_35) e1 ho hM) v_co_sumOf (Nat.le_of_ble_eq_true rfl) S_34 rfl (Nat.le_of_ble_eq_true rfl) k) (fun hr3 hb4 => ?_)
  exact J_some (fun k => w_ireturn rfl rfl k)
set_option maxRecDepth 20000 in
set_option maxHeartbeats 4000000 in
theorem cal_co_owedBy {Δ : DT} {d : Nat} (hd : 3 ≤ d) {x1 : Int} {x2 : Int}  {M : MEM} {r : Int} (h : co_owedBy x1 x2 M = some r) (ho : okVs [vR 34, vI x1, vI x2]) (hM : okM M) : Cal Δ false m_co_owedBy d [vR 34, vI x1, vI x2] (NG, S0, M) (some r) (NG, S0, M) 0 0 := by
  obtain ⟨d, rfl⟩ : ∃ e, d = e + 1 := ⟨d - 1, by omega⟩
  exact cal_of g_co_owedBy p_co_owedBy (fun v hv => by simp only [List.mem_cons, List.not_mem_nil, or_false] at hv; rcases hv with rfl | rfl | rfl <;> first | exact Or.inl ⟨_, rfl⟩ | exact Or.inr ⟨_, rfl⟩) ho hM (Nat.le_of_ble_eq_true rfl) (fun Γ _ k => J_co_owedBy hd  _ h k)
set_option maxRecDepth 20000 in
set_option maxHeartbeats 4000000 in
theorem J_co_owedTo {Δ : DT} {Γ : FT} {d : Nat} (hd : 3 ≤ d + 1) {x1 : Int} {x2 : Int}  {M : MEM} : J (co_owedTo x1 x2 M) (K_I Δ Γ m_co_owedTo M) (WAt Δ Γ false m_co_owedTo (d + 1) 0 [vR (34), vI (x1), vI (x2)] [] (NG, S0, M) 0 0) := by
  unfold co_owedTo
  refine J.mono (fun k => w_aload_n rfl rfl (w_aload_n rfl rfl (w_getR (r := 36) rfl (Nat.le_of_ble_eq_true rfl) S_34 rfl (w_iload_n rfl rfl (w_iload_n rfl rfl k))))) ?_
  refine J_c (fun r2 e1 => ?_)
  refine J_hyp (fun k => c_vi3 rfl (fun ho hM => cal_co_sumOf (by omega) (isArr_len A_36) e1 ho hM) v_co_sumOf (Nat.le_of_ble_eq_true rfl) S_34 rfl (Nat.le_of_ble_eq_true rfl) k) (fun hr3 hb4 => ?_)
  exact J_some (fun k => w_ireturn rfl rfl k)
set_option maxRecDepth 20000 in
set_option maxHeartbeats 4000000 in
theorem cal_co_owedTo {Δ : DT} {d : Nat} (hd : 3 ≤ d) {x1 : Int} {x2 : Int}  {M : MEM} {r : Int} (h : co_owedTo x1 x2 M = some r) (ho : okVs [vR 34, vI x1, vI x2]) (hM : okM M) : Cal Δ false m_co_owedTo d [vR 34, vI x1, vI x2] (NG, S0, M) (some r) (NG, S0, M) 0 0 := by
  obtain ⟨d, rfl⟩ : ∃ e, d = e + 1 := ⟨d - 1, by omega⟩
  exact cal_of g_co_owedTo p_co_owedTo (fun v hv => by simp only [List.mem_cons, List.not_mem_nil, or_false] at hv; rcases hv with rfl | rfl | rfl <;> first | exact Or.inl ⟨_, rfl⟩ | exact Or.inr ⟨_, rfl⟩) ho hM (Nat.le_of_ble_eq_true rfl) (fun Γ _ k => J_co_owedTo hd  _ h k)
abbrev HD_dh_countDue_b2 (Δ : DT) (Γ : FT) (d : Nat) (x1 : Int) (s : Int × MEM) : Prop := WAt Δ Γ false m_dh_countDue (d + 1) 2 [vR (0), vI (x1), vI (s.1)] [] (NG, S0, s.2) 0 0
abbrev X_dh_countDue_b2 (Δ : DT) (Γ : FT) (d : Nat) (x1 : Int) (s : Int × MEM) : Prop := WAt Δ Γ false m_dh_countDue (d + 1) 78 [vN, vN, vN] [] (NG, S0, s.2) 0 0
set_option maxRecDepth 20000 in
set_option maxHeartbeats 4000000 in
theorem Jb_dh_countDue_b2 {Δ : DT} {Γ : FT} {d : Nat} (hd : 4 ≤ d + 1) {x1 : Int}  {x2 : Int} {M : MEM} : J (dh_countDue_b2 x1 x2 M) (Sum.elim (HD_dh_countDue_b2 Δ Γ d x1) (X_dh_countDue_b2 Δ Γ d x1)) (WAt Δ Γ false m_dh_countDue (d + 1) 2 [vR (0), vI (x1), vI (x2)] [] (NG, S0, M) 0 0) := by
  unfold dh_countDue_b2
  refine J.mono (fun k => w_aload_n rfl rfl (w_getR (r := 34) rfl (Nat.le_of_ble_eq_true rfl) S_0 rfl (w_iload_n rfl rfl k))) ?_
  refine J_hyp (fun k => c_vi1 rfl (fun ho hM => cal_co_has (by omega)   ho hM) v_co_has (Nat.le_of_ble_eq_true rfl) S_34 rfl (Nat.le_of_ble_eq_true rfl) k) (fun hr2 hb3 => ?_)
  refine J_ite (fun hc4 => ?_) (fun hc4 => ?_)
  · refine J.mono (fun k => s_if_eq_t rfl hc4 k) ?_
    exact J_some (fun k => w_forget (wk_d (wk_d (wk_d wk_0))) k)
  · refine J.mono (fun k => s_if_eq_f rfl hc4 (w_iload_n rfl rfl (w_bipush rfl (bip_c rfl) k))) ?_
    refine J_ite (fun hc5 => ?_) (fun hc5 => ?_)
    · refine J.mono (fun k => s_icmp_ge_t rfl hc5 k) ?_
      exact J_some (fun k => w_forget (wk_d (wk_d (wk_d wk_0))) k)
    · refine J.mono (fun k => s_icmp_ge_f rfl hc5 (w_aload_n rfl rfl (w_aload_n rfl rfl (w_getR (r := 224) rfl (Nat.le_of_ble_eq_true rfl) S_0 rfl (w_aload_n rfl rfl (w_getR (r := 34) rfl (Nat.le_of_ble_eq_true rfl) S_0 rfl (w_getR (r := 38) rfl (Nat.le_of_ble_eq_true rfl) S_34 rfl (w_iload_n rfl rfl k)))))))) ?_
      refine J_chk (fun hi6 => ?_)
      refine J.mono (fun k => w_iald rfl A_38.1 A_38.2 hi6.1 hi6.2 k) ?_
      refine J_c (fun M8 e7 => ?_)
      refine J.mono (fun k => c_vv2 rfl (fun ho hM => cal_dh_look (by omega) is_fu_224 e7 ho hM) v_dh_look (Nat.le_of_ble_eq_true rfl) S_0 rfl (Nat.le_of_ble_eq_true rfl) (w_aload_n rfl rfl (w_getR (r := 224) rfl (Nat.le_of_ble_eq_true rfl) S_0 rfl (w_iload_n rfl rfl (w_sipush rfl (sip_c rfl) k))))) ?_
      refine J_c (fun M10 e9 => ?_)
      refine J.mono (fun k => c_vv2 rfl (fun ho hM => cal_fu_run (by omega) is_fu_224 e9 ho hM) v_fu_run (fu_S is_fu_224).1 (fu_S is_fu_224).2 rfl (Nat.le_of_ble_eq_true rfl) (w_aload_n rfl rfl (w_getR (r := 34) rfl (Nat.le_of_ble_eq_true rfl) S_0 rfl (w_getR (r := 40) rfl (Nat.le_of_ble_eq_true rfl) S_34 rfl (w_iload_n rfl rfl (w_aload_n rfl rfl (w_getR (r := 224) rfl (Nat.le_of_ble_eq_true rfl) S_0 rfl (w_aload_n rfl rfl (w_getR (r := 34) rfl (Nat.le_of_ble_eq_true rfl) S_0 rfl (w_getR (r := 39) rfl (Nat.le_of_ble_eq_true rfl) S_34 rfl (w_iload_n rfl rfl k))))))))))) ?_
      refine J_chk (fun hi11 => ?_)
      refine J.mono (fun k => w_iald rfl A_39.1 A_39.2 hi11.1 hi11.2 k) ?_
      refine J_c (fun r13 e12 => ?_)
      refine J_hyp (fun k => c_vi1 rfl (fun ho hM => cal_fu_timesStruck (by omega) is_fu_224 e12 ho hM) v_fu_timesStruck (fu_S is_fu_224).1 (fu_S is_fu_224).2 rfl (Nat.le_of_ble_eq_true rfl) k) (fun hr14 hb15 => ?_)
      refine J_chk (fun hi17 => ?_)
      refine J_b ?_
      refine J.mono (fun k => w_iast rfl A_40.1 A_40.2 hi17.1 hi17.2 rfl (s_iinc2 rfl (Nat.le_of_ble_eq_true rfl) (w_goto rfl k))) ?_
      exact J_some (fun k => w_forget (wk_k (wk_k (wk_k wk_0))) k)
set_option maxRecDepth 20000 in
set_option maxHeartbeats 4000000 in
theorem Jl_dh_countDue_b2 {Δ : DT} {Γ : FT} {d : Nat} (hd : 4 ≤ d + 1) {x1 : Int}   : ∀ (n : Nat) (s : Int × MEM), J (iter (fun s => dh_countDue_b2 x1 s.1 s.2) n s) (X_dh_countDue_b2 Δ Γ d x1) (HD_dh_countDue_b2 Δ Γ d x1 s) := J_iter (fun s => Jb_dh_countDue_b2 hd )
set_option maxRecDepth 20000 in
set_option maxHeartbeats 4000000 in
theorem J_dh_countDue {Δ : DT} {Γ : FT} {d : Nat} (hd : 4 ≤ d + 1) {x1 : Int}  {M : MEM} : J (dh_countDue x1 M) (K_M Δ Γ m_dh_countDue) (WAt Δ Γ false m_dh_countDue (d + 1) 0 [vR (0), vI (x1), vN] [] (NG, S0, M) 0 0) := by
  unfold dh_countDue
  refine J.mono (fun k => w_iconst rfl (inR_c rfl) (s_istore2 rfl (Nat.le_of_ble_eq_true rfl) k)) ?_
  refine J.mono (fun k => w_forget (wk_k (wk_k (wk_k wk_0))) k) ?_
  refine J_loop (Jl_dh_countDue_b2 hd  _ _) (fun w18 => ?_)
  exact J_some (fun k => w_return rfl rfl k)
set_option maxRecDepth 20000 in
set_option maxHeartbeats 4000000 in
theorem cal_dh_countDue {Δ : DT} {d : Nat} (hd : 4 ≤ d) {x1 : Int}  {M : MEM} {M1 : MEM} (h : dh_countDue x1 M = some M1) (ho : okVs [vR 0, vI x1]) (hM : okM M) : Cal Δ false m_dh_countDue d [vR 0, vI x1] (NG, S0, M) none (NG, S0, M1) 0 0 := by
  obtain ⟨d, rfl⟩ : ∃ e, d = e + 1 := ⟨d - 1, by omega⟩
  exact cal_of g_dh_countDue p_dh_countDue (fun v hv => by simp only [List.mem_cons, List.not_mem_nil, or_false] at hv; rcases hv with rfl | rfl <;> first | exact Or.inl ⟨_, rfl⟩ | exact Or.inr ⟨_, rfl⟩) ho hM (Nat.le_of_ble_eq_true rfl) (fun Γ _ k => J_dh_countDue hd  _ h k)

