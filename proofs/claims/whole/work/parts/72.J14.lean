set_option maxRecDepth 20000 in
set_option maxHeartbeats 4000000 in
theorem J_be_thistlesOn {Δ : DT} {Γ : FT} {d : Nat} {a0 : Nat} {x1 : Int} (h_a0 : is_be a0) {M : MEM} : J (be_thistlesOn a0 x1 M) (K_I Δ Γ m_be_thistlesOn M) (WAt Δ Γ false m_be_thistlesOn d 0 [vR (a0), vI (x1)] [] (NG, S0, M) 0 0) := by
  unfold be_thistlesOn
  refine J.mono (fun k => w_iload_n rfl rfl k) ?_
  refine J_ite (fun hc1 => ?_) (fun hc1 => ?_)
  · refine J.mono (fun k => s_if_lt_t rfl hc1 (w_iconst rfl (inR_c rfl) k)) ?_
    exact J_some (fun k => w_ireturn rfl rfl k)
  · refine J.mono (fun k => s_if_lt_f rfl hc1 (w_iload_n rfl rfl (w_aload_n rfl rfl (w_getR (r := (a0 + 1)) rfl (be_S h_a0).1 (be_S h_a0).2 rfl (w_alen rfl (be_f0 h_a0).1 (Nat.le_of_ble_eq_true rfl) (be_f0 h_a0).2 (Nat.le_of_ble_eq_true rfl) k))))) ?_
    refine J_ite (fun hc2 => ?_) (fun hc2 => ?_)
    · refine J.mono (fun k => s_icmp_ge_t rfl hc2 (w_iconst rfl (inR_c rfl) k)) ?_
      exact J_some (fun k => w_ireturn rfl rfl k)
    · refine J.mono (fun k => s_icmp_ge_f rfl hc2 (w_aload_n rfl rfl (w_getR (r := (a0 + 1)) rfl (be_S h_a0).1 (be_S h_a0).2 rfl (w_iload_n rfl rfl k)))) ?_
      refine J_chk (fun hi3 => ?_)
      refine J.mono (fun k => w_iald rfl (be_f0 h_a0).1 (be_f0 h_a0).2 hi3.1 hi3.2 (w_goto rfl k)) ?_
      exact J_some (fun k => w_ireturn rfl rfl k)
set_option maxRecDepth 20000 in
set_option maxHeartbeats 4000000 in
theorem cal_be_thistlesOn {Δ : DT} {d : Nat} (hd : 0 ≤ d) {a0 : Nat} {x1 : Int} (h_a0 : is_be a0) {M : MEM} {r : Int} (h : be_thistlesOn a0 x1 M = some r) (ho : okVs [vR a0, vI x1]) (hM : okM M) : Cal Δ false m_be_thistlesOn d [vR a0, vI x1] (NG, S0, M) (some r) (NG, S0, M) 0 0 := by
  exact cal_of g_be_thistlesOn p_be_thistlesOn (fun v hv => by simp only [List.mem_cons, List.not_mem_nil, or_false] at hv; rcases hv with rfl | rfl <;> first | exact Or.inl ⟨_, rfl⟩ | exact Or.inr ⟨_, rfl⟩) ho hM (Nat.le_of_ble_eq_true rfl) (fun Γ _ k => J_be_thistlesOn h_a0 _ h k)
set_option maxRecDepth 20000 in
set_option maxHeartbeats 4000000 in
theorem J_dh_isDonkey {Δ : DT} {Γ : FT} {d : Nat} {x1 : Int}  {M : MEM} : J (some (dh_isDonkey x1 M)) (K_I Δ Γ m_dh_isDonkey M) (WAt Δ Γ false m_dh_isDonkey d 0 [vR (0), vI (x1)] [] (NG, S0, M) 0 0) := by
  unfold dh_isDonkey
  refine J.mono (fun k => w_iload_n rfl rfl k) ?_
  refine J_iteT (fun hc1 => ?_) (fun hc1 => ?_)
  · refine J.mono (fun k => s_if_lt_t rfl hc1 (w_iconst rfl (inR_c rfl) k)) ?_
    exact J_some (fun k => w_zreturn rfl rfl (Or.inl rfl) k)
  · refine J.mono (fun k => s_if_lt_f rfl hc1 (w_iload_n rfl rfl (w_aload_n rfl rfl (w_getR (r := 3) rfl (Nat.le_of_ble_eq_true rfl) S_0 rfl (w_getI rfl (sc_S is_sc_3).1 (sc_S is_sc_3).2 rfl k))))) ?_
    refine J_iteT (fun hc2 => ?_) (fun hc2 => ?_)
    · refine J.mono (fun k => s_icmp_ge_t rfl hc2 (w_iconst rfl (inR_c rfl) k)) ?_
      exact J_some (fun k => w_zreturn rfl rfl (Or.inl rfl) k)
    · refine J.mono (fun k => s_icmp_ge_f rfl hc2 (w_iload_n rfl rfl (w_iconst rfl (inR_c rfl) k))) ?_
      refine J_iteT (fun hc3 => ?_) (fun hc3 => ?_)
      · refine J.mono (fun k => s_icmp_ge_t rfl hc3 (w_iconst rfl (inR_c rfl) k)) ?_
        exact J_some (fun k => w_zreturn rfl rfl (Or.inl rfl) k)
      · refine J.mono (fun k => s_icmp_ge_f rfl hc3 (w_iconst rfl (inR_c rfl) (w_goto rfl k))) ?_
        exact J_some (fun k => w_zreturn rfl rfl (Or.inr rfl) k)
set_option maxRecDepth 20000 in
set_option maxHeartbeats 4000000 in
theorem cal_dh_isDonkey {Δ : DT} {d : Nat} (hd : 0 ≤ d) {x1 : Int}  {M : MEM} (ho : okVs [vR 0, vI x1]) (hM : okM M) : Cal Δ false m_dh_isDonkey d [vR 0, vI x1] (NG, S0, M) (some (dh_isDonkey x1 M)) (NG, S0, M) 0 0 := by
  exact cal_of g_dh_isDonkey p_dh_isDonkey (fun v hv => by simp only [List.mem_cons, List.not_mem_nil, or_false] at hv; rcases hv with rfl | rfl <;> first | exact Or.inl ⟨_, rfl⟩ | exact Or.inr ⟨_, rfl⟩) ho hM (Nat.le_of_ble_eq_true rfl) (fun Γ _ k => J_dh_isDonkey  _ rfl k)
set_option maxRecDepth 20000 in
set_option maxHeartbeats 4000000 in
theorem J_dh_isPlace {Δ : DT} {Γ : FT} {d : Nat} (hd : 1 ≤ d + 1) {x1 : Int} {x2 : Int}  {M : MEM} : J (dh_isPlace x1 x2 M) (K_I Δ Γ m_dh_isPlace M) (WAt Δ Γ false m_dh_isPlace (d + 1) 0 [vR (0), vI (x1), vI (x2)] [] (NG, S0, M) 0 0) := by
  unfold dh_isPlace
  refine J.mono (fun k => w_aload_n rfl rfl (w_iload_n rfl rfl k)) ?_
  refine J_hyp (fun k => c_vi1 rfl (fun ho hM => cal_dh_isDonkey (by omega)   ho hM) v_dh_isDonkey (Nat.le_of_ble_eq_true rfl) S_0 rfl (Nat.le_of_ble_eq_true rfl) k) (fun hr2 hb3 => ?_)
  refine J_ite (fun hc4 => ?_) (fun hc4 => ?_)
  · refine J.mono (fun k => s_if_eq_t rfl hc4 (w_iconst rfl (inR_c rfl) k)) ?_
    exact J_some (fun k => w_zreturn rfl rfl (Or.inl rfl) k)
  · refine J.mono (fun k => s_if_eq_f rfl hc4 (w_iload_n rfl rfl k)) ?_
    refine J_ite (fun hc5 => ?_) (fun hc5 => ?_)
    · refine J.mono (fun k => s_if_lt_t rfl hc5 (w_iconst rfl (inR_c rfl) k)) ?_
      exact J_some (fun k => w_zreturn rfl rfl (Or.inl rfl) k)
    · refine J.mono (fun k => s_if_lt_f rfl hc5 (w_iload_n rfl rfl (w_aload_n rfl rfl (w_getR (r := 3) rfl (Nat.le_of_ble_eq_true rfl) S_0 rfl (w_getR (r := 4) rfl (sc_S is_sc_3).1 (sc_S is_sc_3).2 rfl (w_iload_n rfl rfl k)))))) ?_
      refine J_chk (fun hi6 => ?_)
      refine J.mono (fun k => w_aald rfl (scb_S is_sc_3).1 (Or.inl rfl) (scb_S is_sc_3).2 hi6.1 (scb_get hi6.1 hi6.2) (w_getI rfl (be_S (scb_is is_sc_3 hi6.1 hi6.2)).1 (be_S (scb_is is_sc_3 hi6.1 hi6.2)).2 rfl k)) ?_
      refine J_ite (fun hc7 => ?_) (fun hc7 => ?_)
      · refine J.mono (fun k => s_icmp_ge_t rfl hc7 (w_iconst rfl (inR_c rfl) k)) ?_
        exact J_some (fun k => w_zreturn rfl rfl (Or.inl rfl) k)
      · refine J.mono (fun k => s_icmp_ge_f rfl hc7 (w_iconst rfl (inR_c rfl) (w_goto rfl k))) ?_
        exact J_some (fun k => w_zreturn rfl rfl (Or.inr rfl) k)
set_option maxRecDepth 20000 in
set_option maxHeartbeats 4000000 in
theorem cal_dh_isPlace {Δ : DT} {d : Nat} (hd : 1 ≤ d) {x1 : Int} {x2 : Int}  {M : MEM} {r : Int} (h : dh_isPlace x1 x2 M = some r) (ho : okVs [vR 0, vI x1, vI x2]) (hM : okM M) : Cal Δ false m_dh_isPlace d [vR 0, vI x1, vI x2] (NG, S0, M) (some r) (NG, S0, M) 0 0 := by
  obtain ⟨d, rfl⟩ : ∃ e, d = e + 1 := ⟨d - 1, by omega⟩
  exact cal_of g_dh_isPlace p_dh_isPlace (fun v hv => by simp only [List.mem_cons, List.not_mem_nil, or_false] at hv; rcases hv with rfl | rfl | rfl <;> first | exact Or.inl ⟨_, rfl⟩ | exact Or.inr ⟨_, rfl⟩) ho hM (Nat.le_of_ble_eq_true rfl) (fun Γ _ k => J_dh_isPlace hd  _ h k)
set_option maxRecDepth 20000 in
set_option maxHeartbeats 4000000 in
theorem J_dh_thistles {Δ : DT} {Γ : FT} {d : Nat} (hd : 2 ≤ d + 1) {x1 : Int} {x2 : Int}  {M : MEM} : J (dh_thistles x1 x2 M) (K_I Δ Γ m_dh_thistles M) (WAt Δ Γ false m_dh_thistles (d + 1) 0 [vR (0), vI (x1), vI (x2)] [] (NG, S0, M) 0 0) := by
  unfold dh_thistles
  refine J.mono (fun k => w_aload_n rfl rfl (w_iload_n rfl rfl (w_iload_n rfl rfl k))) ?_
  refine J_c (fun r2 e1 => ?_)
  refine J_hyp (fun k => c_vi2 rfl (fun ho hM => cal_dh_isPlace (by omega)  e1 ho hM) v_dh_isPlace (Nat.le_of_ble_eq_true rfl) S_0 rfl (Nat.le_of_ble_eq_true rfl) k) (fun hr3 hb4 => ?_)
  refine J_ite (fun hc5 => ?_) (fun hc5 => ?_)
  · refine J.mono (fun k => s_if_eq_t rfl hc5 (w_iconst rfl (inR_c rfl) k)) ?_
    exact J_some (fun k => w_ireturn rfl rfl k)
  · refine J.mono (fun k => s_if_eq_f rfl hc5 (w_aload_n rfl rfl (w_getR (r := 3) rfl (Nat.le_of_ble_eq_true rfl) S_0 rfl (w_getR (r := 4) rfl (sc_S is_sc_3).1 (sc_S is_sc_3).2 rfl (w_iload_n rfl rfl k))))) ?_
    refine J_chk (fun hi6 => ?_)
    refine J.mono (fun k => w_aald rfl (scb_S is_sc_3).1 (Or.inl rfl) (scb_S is_sc_3).2 hi6.1 (scb_get hi6.1 hi6.2) (w_iload_n rfl rfl k)) ?_
    refine J_c (fun r8 e7 => ?_)
    refine J_hyp (fun k => c_vi1 rfl (fun ho hM => cal_be_thistlesOn (by omega) (scb_is is_sc_3 hi6.1 hi6.2) e7 ho hM) v_be_thistlesOn (be_S (scb_is is_sc_3 hi6.1 hi6.2)).1 (be_S (scb_is is_sc_3 hi6.1 hi6.2)).2 rfl (Nat.le_of_ble_eq_true rfl) k) (fun hr9 hb10 => ?_)
    refine J.mono (fun k => w_goto rfl k) ?_
    exact J_some (fun k => w_ireturn rfl rfl k)
set_option maxRecDepth 20000 in
set_option maxHeartbeats 4000000 in
theorem cal_dh_thistles {Δ : DT} {d : Nat} (hd : 2 ≤ d) {x1 : Int} {x2 : Int}  {M : MEM} {r : Int} (h : dh_thistles x1 x2 M = some r) (ho : okVs [vR 0, vI x1, vI x2]) (hM : okM M) : Cal Δ false m_dh_thistles d [vR 0, vI x1, vI x2] (NG, S0, M) (some r) (NG, S0, M) 0 0 := by
  obtain ⟨d, rfl⟩ : ∃ e, d = e + 1 := ⟨d - 1, by omega⟩
  exact cal_of g_dh_thistles p_dh_thistles (fun v hv => by simp only [List.mem_cons, List.not_mem_nil, or_false] at hv; rcases hv with rfl | rfl | rfl <;> first | exact Or.inl ⟨_, rfl⟩ | exact Or.inr ⟨_, rfl⟩) ho hM (Nat.le_of_ble_eq_true rfl) (fun Γ _ k => J_dh_thistles hd  _ h k)
set_option maxRecDepth 20000 in
set_option maxHeartbeats 4000000 in
theorem J_be_put {Δ : DT} {Γ : FT} {d : Nat} {a0 : Nat} {x1 : Int} {x2 : Int} (h_a0 : is_be a0) {M : MEM} : J (be_put a0 x1 x2 M) (K_M Δ Γ m_be_put) (WAt Δ Γ false m_be_put d 0 [vR (a0), vI (x1), vI (x2)] [] (NG, S0, M) 0 0) := by
  unfold be_put
  refine J.mono (fun k => w_iload_n rfl rfl k) ?_
  refine J_ite (fun hc1 => ?_) (fun hc1 => ?_)
  · refine J.mono (fun k => s_if_lt_t rfl hc1 k) ?_
    exact J_some (fun k => w_return rfl rfl k)
  · refine J.mono (fun k => s_if_lt_f rfl hc1 (w_iload_n rfl rfl (w_aload_n rfl rfl (w_getR (r := (a0 + 1)) rfl (be_S h_a0).1 (be_S h_a0).2 rfl (w_alen rfl (be_f0 h_a0).1 (Nat.le_of_ble_eq_true rfl) (be_f0 h_a0).2 (Nat.le_of_ble_eq_true rfl) k))))) ?_
    refine J_ite (fun hc2 => ?_) (fun hc2 => ?_)
    · refine J.mono (fun k => s_icmp_ge_t rfl hc2 k) ?_
      exact J_some (fun k => w_return rfl rfl k)
    · refine J.mono (fun k => s_icmp_ge_f rfl hc2 (w_aload_n rfl rfl (w_getR (r := (a0 + 1)) rfl (be_S h_a0).1 (be_S h_a0).2 rfl (w_iload_n rfl rfl (w_iload_n rfl rfl k))))) ?_
      refine J_chk (fun hi4 => ?_)
      refine J_b ?_
      refine J.mono (fun k => w_iast rfl (be_f0 h_a0).1 (be_f0 h_a0).2 hi4.1 hi4.2 rfl k) ?_
      exact J_some (fun k => w_return rfl rfl k)
set_option maxRecDepth 20000 in
set_option maxHeartbeats 4000000 in
theorem cal_be_put {Δ : DT} {d : Nat} (hd : 0 ≤ d) {a0 : Nat} {x1 : Int} {x2 : Int} (h_a0 : is_be a0) {M : MEM} {M1 : MEM} (h : be_put a0 x1 x2 M = some M1) (ho : okVs [vR a0, vI x1, vI x2]) (hM : okM M) : Cal Δ false m_be_put d [vR a0, vI x1, vI x2] (NG, S0, M) none (NG, S0, M1) 0 0 := by
  exact cal_of g_be_put p_be_put (fun v hv => by simp only [List.mem_cons, List.not_mem_nil, or_false] at hv; rcases hv with rfl | rfl | rfl <;> first | exact Or.inl ⟨_, rfl⟩ | exact Or.inr ⟨_, rfl⟩) ho hM (Nat.le_of_ble_eq_true rfl) (fun Γ _ k => J_be_put h_a0 _ h k)
set_option maxRecDepth 20000 in
set_option maxHeartbeats 4000000 in
theorem J_dh_sow {Δ : DT} {Γ : FT} {d : Nat} (hd : 2 ≤ d + 1) {x1 : Int} {x2 : Int} {x3 : Int}  {M : MEM} : J (dh_sow x1 x2 x3 M) (K_IM Δ Γ m_dh_sow) (WAt Δ Γ false m_dh_sow (d + 1) 0 [vR (0), vI (x1), vI (x2), vI (x3), vN, vN] [] (NG, S0, M) 0 0) := by
  unfold dh_sow
  refine J.mono (fun k => w_aload_n rfl rfl (w_iload_n rfl rfl (w_iload_n rfl rfl k))) ?_
  refine J_c (fun r2 e1 => ?_)
  refine J_hyp (fun k => c_vi2 rfl (fun ho hM => cal_dh_isPlace (by omega)  e1 ho hM) v_dh_isPlace (Nat.le_of_ble_eq_true rfl) S_0 rfl (Nat.le_of_ble_eq_true rfl) k) (fun hr3 hb4 => ?_)
  refine J_ite (fun hc5 => ?_) (fun hc5 => ?_)
  · refine J.mono (fun k => s_if_eq_t rfl hc5 (w_iconst rfl (inR_c rfl) k)) ?_
    exact J_some (fun k => w_ireturn rfl rfl k)
  · refine J.mono (fun k => s_if_eq_f rfl hc5 (w_iload_n rfl rfl k)) ?_
    refine J_ite (fun hc6 => ?_) (fun hc6 => ?_)
    · refine J.mono (fun k => s_if_lt_t rfl hc6 (w_iconst rfl (inR_c rfl) k)) ?_
      exact J_some (fun k => w_ireturn rfl rfl k)
    · refine J.mono (fun k => s_if_lt_f rfl hc6 (w_iload_n rfl rfl (w_bipush rfl (bip_c rfl) k))) ?_
      refine J_ite (fun hc7 => ?_) (fun hc7 => ?_)
      · refine J.mono (fun k => s_icmp_le_t rfl hc7 (w_aload_n rfl rfl (w_getR (r := 3) rfl (Nat.le_of_ble_eq_true rfl) S_0 rfl (w_getR (r := 4) rfl (sc_S is_sc_3).1 (sc_S is_sc_3).2 rfl (w_iload_n rfl rfl k))))) ?_
        refine J_chk (fun hi8 => ?_)
        refine J.mono (fun k => w_aald rfl (scb_S is_sc_3).1 (Or.inl rfl) (scb_S is_sc_3).2 hi8.1 (scb_get hi8.1 hi8.2) (s_astore4 rfl (Nat.le_of_ble_eq_true rfl) (w_aload rfl rfl (w_iload_n rfl rfl k)))) ?_
        refine J_c (fun r10 e9 => ?_)
        refine J_hyp (fun k => c_vi1 rfl (fun ho hM => cal_be_thistlesOn (by omega) (scb_is is_sc_3 hi8.1 hi8.2) e9 ho hM) v_be_thistlesOn (be_S (scb_is is_sc_3 hi8.1 hi8.2)).1 (be_S (scb_is is_sc_3 hi8.1 hi8.2)).2 rfl (Nat.le_of_ble_eq_true rfl) k) (fun hr11 hb12 => ?_)
        refine J.mono (fun k => s_istore5 rfl (Nat.le_of_ble_eq_true rfl) (w_aload rfl rfl (w_iload_n rfl rfl (w_iload_n rfl rfl k)))) ?_
        refine J_c (fun M14 e13 => ?_)
        refine J.mono (fun k => c_vv2 rfl (fun ho hM => cal_be_put (by omega) (scb_is is_sc_3 hi8.1 hi8.2) e13 ho hM) v_be_put (be_S (scb_is is_sc_3 hi8.1 hi8.2)).1 (be_S (scb_is is_sc_3 hi8.1 hi8.2)).2 rfl (Nat.le_of_ble_eq_true rfl) (w_iload rfl rfl k)) ?_
        exact J_some (fun k => w_ireturn rfl rfl k)
      · refine J.mono (fun k => s_icmp_le_f rfl hc7 (w_iconst rfl (inR_c rfl) k)) ?_
        exact J_some (fun k => w_ireturn rfl rfl k)
set_option maxRecDepth 20000 in
set_option maxHeartbeats 4000000 in
theorem cal_dh_sow {Δ : DT} {d : Nat} (hd : 2 ≤ d) {x1 : Int} {x2 : Int} {x3 : Int}  {M : MEM} {p : Int × MEM} (h : dh_sow x1 x2 x3 M = some p) (ho : okVs [vR 0, vI x1, vI x2, vI x3]) (hM : okM M) : Cal Δ false m_dh_sow d [vR 0, vI x1, vI x2, vI x3] (NG, S0, M) (some p.1) (NG, S0, p.2) 0 0 := by
  obtain ⟨d, rfl⟩ : ∃ e, d = e + 1 := ⟨d - 1, by omega⟩
  exact cal_of g_dh_sow p_dh_sow (fun v hv => by simp only [List.mem_cons, List.not_mem_nil, or_false] at hv; rcases hv with rfl | rfl | rfl | rfl <;> first | exact Or.inl ⟨_, rfl⟩ | exact Or.inr ⟨_, rfl⟩) ho hM (Nat.le_of_ble_eq_true rfl) (fun Γ _ k => J_dh_sow hd  _ h k)
set_option maxRecDepth 20000 in
set_option maxHeartbeats 4000000 in
theorem J_dh_setHunger {Δ : DT} {Γ : FT} {d : Nat} (hd : 1 ≤ d + 1) {x1 : Int} {x2 : Int}  {M : MEM} : J (dh_setHunger x1 x2 M) (K_IM Δ Γ m_dh_setHunger) (WAt Δ Γ false m_dh_setHunger (d + 1) 0 [vR (0), vI (x1), vI (x2), vN, vN] [] (NG, S0, M) 0 0) := by
  unfold dh_setHunger
  refine J.mono (fun k => w_aload_n rfl rfl (w_iload_n rfl rfl k)) ?_
  refine J_hyp (fun k => c_vi1 rfl (fun ho hM => cal_dh_isDonkey (by omega)   ho hM) v_dh_isDonkey (Nat.le_of_ble_eq_true rfl) S_0 rfl (Nat.le_of_ble_eq_true rfl) k) (fun hr2 hb3 => ?_)
  refine J_ite (fun hc4 => ?_) (fun hc4 => ?_)
  · refine J.mono (fun k => s_if_eq_t rfl hc4 (w_iconst rfl (inR_c rfl) k)) ?_
    exact J_some (fun k => w_ireturn rfl rfl k)
  · refine J.mono (fun k => s_if_eq_f rfl hc4 (w_iload_n rfl rfl k)) ?_
    refine J_ite (fun hc5 => ?_) (fun hc5 => ?_)
    · refine J.mono (fun k => s_if_lt_t rfl hc5 (w_iconst rfl (inR_c rfl) k)) ?_
      exact J_some (fun k => w_ireturn rfl rfl k)
    · refine J.mono (fun k => s_if_lt_f rfl hc5 (w_iload_n rfl rfl (w_bipush rfl (bip_c rfl) k))) ?_
      refine J_ite (fun hc6 => ?_) (fun hc6 => ?_)
      · refine J.mono (fun k => s_icmp_le_t rfl hc6 (w_aload_n rfl rfl (w_getR (r := 3) rfl (Nat.le_of_ble_eq_true rfl) S_0 rfl (w_getR (r := 4) rfl (sc_S is_sc_3).1 (sc_S is_sc_3).2 rfl (w_iload_n rfl rfl k))))) ?_
        refine J_chk (fun hi7 => ?_)
        refine J.mono (fun k => w_aald rfl (scb_S is_sc_3).1 (Or.inl rfl) (scb_S is_sc_3).2 hi7.1 (scb_get hi7.1 hi7.2) (s_astore3 rfl (Nat.le_of_ble_eq_true rfl) (w_aload_n rfl rfl (w_getI rfl (be_S (scb_is is_sc_3 hi7.1 hi7.2)).1 (be_S (scb_is is_sc_3 hi7.1 hi7.2)).2 rfl (s_istore4 rfl (Nat.le_of_ble_eq_true rfl) (w_aload_n rfl rfl (w_iload_n rfl rfl k))))))) ?_
        refine J_b ?_
        refine J.mono (fun k => w_putI rfl (be_S (scb_is is_sc_3 hi7.1 hi7.2)).1 (be_S (scb_is is_sc_3 hi7.1 hi7.2)).2 rfl rfl (w_iload rfl rfl k)) ?_
        exact J_some (fun k => w_ireturn rfl rfl k)
      · refine J.mono (fun k => s_icmp_le_f rfl hc6 (w_iconst rfl (inR_c rfl) k)) ?_
        exact J_some (fun k => w_ireturn rfl rfl k)
set_option maxRecDepth 20000 in
set_option maxHeartbeats 4000000 in
theorem cal_dh_setHunger {Δ : DT} {d : Nat} (hd : 1 ≤ d) {x1 : Int} {x2 : Int}  {M : MEM} {p : Int × MEM} (h : dh_setHunger x1 x2 M = some p) (ho : okVs [vR 0, vI x1, vI x2]) (hM : okM M) : Cal Δ false m_dh_setHunger d [vR 0, vI x1, vI x2] (NG, S0, M) (some p.1) (NG, S0, p.2) 0 0 := by
  obtain ⟨d, rfl⟩ : ∃ e, d = e + 1 := ⟨d - 1, by omega⟩
  exact cal_of g_dh_setHunger p_dh_setHunger (fun v hv => by simp only [List.mem_cons, List.not_mem_nil, or_false] at hv; rcases hv with rfl | rfl | rfl <;> first | exact Or.inl ⟨_, rfl⟩ | exact Or.inr ⟨_, rfl⟩) ho hM (Nat.le_of_ble_eq_true rfl) (fun Γ _ k => J_dh_setHunger hd  _ h k)
set_option maxRecDepth 20000 in
set_option maxHeartbeats 4000000 in
theorem J_dh_set {Δ : DT} {Γ : FT} {d : Nat} (hd : 2 ≤ d + 1) {x1 : Int} {x2 : Int} {x3 : Int}  {M : MEM} : J (dh_set x1 x2 x3 M) (K_IM Δ Γ m_dh_set) (WAt Δ Γ false m_dh_set (d + 1) 0 [vR (0), vI (x1), vI (x2), vI (x3), vN, vN] [] (NG, S0, M) 0 0) := by
  unfold dh_set
  refine J.mono (fun k => w_iload_n rfl rfl k) ?_
  refine J_ite (fun hc1 => ?_) (fun hc1 => ?_)
  · refine J.mono (fun k => s_if_ne_f rfl hc1 (w_aload_n rfl rfl (w_iload_n rfl rfl (w_iload_n rfl rfl k)))) ?_
    refine J_c (fun p3 e2 => ?_)
    refine J_hyp (fun k => c_vi2 rfl (fun ho hM => cal_dh_setHunger (by omega)  e2 ho hM) v_dh_setHunger (Nat.le_of_ble_eq_true rfl) S_0 rfl (Nat.le_of_ble_eq_true rfl) k) (fun hr4 hb5 => ?_)
    exact J_some (fun k => w_ireturn rfl rfl k)
  · refine J.mono (fun k => s_if_ne_t rfl hc1 (w_iload_n rfl rfl (w_iconst rfl (inR_c rfl) k))) ?_
    refine J_ite (fun hc6 => ?_) (fun hc6 => ?_)
    · refine J.mono (fun k => s_icmp_ne_f rfl hc6 (w_aload_n rfl rfl (w_iload_n rfl rfl (w_iload_n rfl rfl k)))) ?_
      refine J_c (fun r8 e7 => ?_)
      refine J_hyp (fun k => c_vi2 rfl (fun ho hM => cal_dh_isPlace (by omega)  e7 ho hM) v_dh_isPlace (Nat.le_of_ble_eq_true rfl) S_0 rfl (Nat.le_of_ble_eq_true rfl) k) (fun hr9 hb10 => ?_)
      refine J_ite (fun hc11 => ?_) (fun hc11 => ?_)
      · refine J.mono (fun k => s_if_ne_f rfl hc11 (w_iconst rfl (inR_c rfl) k)) ?_
        exact J_some (fun k => w_ireturn rfl rfl k)
      · refine J.mono (fun k => s_if_ne_t rfl hc11 (w_aload_n rfl rfl (w_getR (r := 3) rfl (Nat.le_of_ble_eq_true rfl) S_0 rfl (w_getR (r := 4) rfl (sc_S is_sc_3).1 (sc_S is_sc_3).2 rfl (w_iload_n rfl rfl k))))) ?_
        refine J_chk (fun hi12 => ?_)
        refine J.mono (fun k => w_aald rfl (scb_S is_sc_3).1 (Or.inl rfl) (scb_S is_sc_3).2 hi12.1 (scb_get hi12.1 hi12.2) (s_astore4 rfl (Nat.le_of_ble_eq_true rfl) (w_aload rfl rfl (w_getI rfl (be_S (scb_is is_sc_3 hi12.1 hi12.2)).1 (be_S (scb_is is_sc_3 hi12.1 hi12.2)).2 rfl (s_istore5 rfl (Nat.le_of_ble_eq_true rfl) (w_aload rfl rfl (w_iload_n rfl rfl k))))))) ?_
        refine J_b ?_
        refine J.mono (fun k => w_putI rfl (be_S (scb_is is_sc_3 hi12.1 hi12.2)).1 (be_S (scb_is is_sc_3 hi12.1 hi12.2)).2 rfl rfl (w_iload rfl rfl k)) ?_
        exact J_some (fun k => w_ireturn rfl rfl k)
    · refine J.mono (fun k => s_icmp_ne_t rfl hc6 (w_iconst rfl (inR_c rfl) k)) ?_
      exact J_some (fun k => w_ireturn rfl rfl k)
set_option maxRecDepth 20000 in
set_option maxHeartbeats 4000000 in
theorem cal_dh_set {Δ : DT} {d : Nat} (hd : 2 ≤ d) {x1 : Int} {x2 : Int} {x3 : Int}  {M : MEM} {p : Int × MEM} (h : dh_set x1 x2 x3 M = some p) (ho : okVs [vR 0, vI x1, vI x2, vI x3]) (hM : okM M) : Cal Δ false m_dh_set d [vR 0, vI x1, vI x2, vI x3] (NG, S0, M) (some p.1) (NG, S0, p.2) 0 0 := by
  obtain ⟨d, rfl⟩ : ∃ e, d = e + 1 := ⟨d - 1, by omega⟩
  exact cal_of g_dh_set p_dh_set (fun v hv => by simp only [List.mem_cons, List.not_mem_nil, or_false] at hv; rcases hv with rfl | rfl | rfl | rfl <;> first | exact Or.inl ⟨_, rfl⟩ | exact Or.inr ⟨_, rfl⟩) ho hM (Nat.le_of_ble_eq_true rfl) (fun Γ _ k => J_dh_set hd  _ h k)
abbrev HD_be_allThistles_b4 (Δ : DT) (Γ : FT) (d : Nat) (a0 : Nat) (M : MEM) (s : Int × Int) : Prop := WAt Δ Γ false m_be_allThistles (d + 1) 4 [vR (a0), vI (s.1), vI (s.2)] [] (NG, S0, M) 0 0
abbrev X_be_allThistles_b4 (Δ : DT) (Γ : FT) (d : Nat) (a0 : Nat) (M : MEM) (s : Int × Int) : Prop := WAt Δ Γ false m_be_allThistles (d + 1) 26 [vN, vI (s.1), vN] [] (NG, S0, M) 0 0
set_option maxRecDepth 20000 in
set_option maxHeartbeats 4000000 in
theorem Jb_be_allThistles_b4 {Δ : DT} {Γ : FT} {d : Nat} (hd : 1 ≤ d + 1) {a0 : Nat} (h_a0 : is_be a0) {x1 : Int} {x2 : Int} {M : MEM} : J (be_allThistles_b4 a0 x1 x2 M) (Sum.elim (HD_be_allThistles_b4 Δ Γ d a0 M) (X_be_allThistles_b4 Δ Γ d a0 M)) (WAt Δ Γ false m_be_allThistles (d + 1) 4 [vR (a0), vI (x1), vI (x2)] [] (NG, S0, M) 0 0) := by
  unfold be_allThistles_b4
  refine J.mono (fun k => w_iload_n rfl rfl (w_aload_n rfl rfl (w_getI rfl (be_S h_a0).1 (be_S h_a0).2 rfl k))) ?_
  refine J_ite (fun hc1 => ?_) (fun hc1 => ?_)
  · refine J.mono (fun k => s_icmp_ge_t rfl hc1 k) ?_
    exact J_some (fun k => w_forget (wk_d (wk_k (wk_d wk_0))) k)
  · refine J.mono (fun k => s_icmp_ge_f rfl hc1 (w_iload_n rfl rfl (w_aload_n rfl rfl (w_iload_n rfl rfl k)))) ?_
    refine J_c (fun r3 e2 => ?_)
    refine J_hyp (fun k => c_vi1 rfl (fun ho hM => cal_be_thistlesOn (by omega) h_a0 e2 ho hM) v_be_thistlesOn (be_S h_a0).1 (be_S h_a0).2 rfl (Nat.le_of_ble_eq_true rfl) k) (fun hr4 hb5 => ?_)
    refine J.mono (fun k => w_iadd rfl (s_istore1 rfl (Nat.le_of_ble_eq_true rfl) (s_iinc2 rfl (Nat.le_of_ble_eq_true rfl) (w_goto rfl k)))) ?_
    exact J_some (fun k => w_forget (wk_k (wk_k (wk_k wk_0))) k)
set_option maxRecDepth 20000 in
set_option maxHeartbeats 4000000 in
theorem Jl_be_allThistles_b4 {Δ : DT} {Γ : FT} {d : Nat} (hd : 1 ≤ d + 1) {a0 : Nat} (h_a0 : is_be a0) {M : MEM} : ∀ (n : Nat) (s : Int × Int), J (iter (fun s => be_allThistles_b4 a0 s.1 s.2 M) n s) (X_be_allThistles_b4 Δ Γ d a0 M) (HD_be_allThistles_b4 Δ Γ d a0 M s) := J_iter (fun s => Jb_be_allThistles_b4 hd h_a0)
set_option maxRecDepth 20000 in
set_option maxHeartbeats 4000000 in
theorem J_be_allThistles {Δ : DT} {Γ : FT} {d : Nat} (hd : 1 ≤ d + 1) {a0 : Nat} (h_a0 : is_be a0) {M : MEM} : J (be_allThistles a0 M) (K_I Δ Γ m_be_allThistles M) (WAt Δ Γ false m_be_allThistles (d + 1) 0 [vR (a0), vN, vN] [] (NG, S0, M) 0 0) := by
  unfold be_allThistles
  refine J.mono (fun k => w_iconst rfl (inR_c rfl) (s_istore1 rfl (Nat.le_of_ble_eq_true rfl) (w_iconst rfl (inR_c rfl) (s_istore2 rfl (Nat.le_of_ble_eq_true rfl) k)))) ?_
  refine J.mono (fun k => w_forget (wk_k (wk_k (wk_k wk_0))) k) ?_
  refine J_loop (Jl_be_allThistles_b4 hd h_a0 _ _) (fun w6 => ?_)
  refine J.mono (fun k => w_iload_n rfl rfl k) ?_
  exact J_some (fun k => w_ireturn rfl rfl k)
set_option maxRecDepth 20000 in
set_option maxHeartbeats 4000000 in
theorem cal_be_allThistles {Δ : DT} {d : Nat} (hd : 1 ≤ d) {a0 : Nat} (h_a0 : is_be a0) {M : MEM} {r : Int} (h : be_allThistles a0 M = some r) (ho : okVs [vR a0]) (hM : okM M) : Cal Δ false m_be_allThistles d [vR a0] (NG, S0, M) (some r) (NG, S0, M) 0 0 := by
  obtain ⟨d, rfl⟩ : ∃ e, d = e + 1 := ⟨d - 1, by omega⟩
  exact cal_of g_be_allThistles p_be_allThistles (fun v hv => by simp only [List.mem_cons, List.not_mem_nil, or_false] at hv; rcases hv with rfl <;> first | exact Or.inl ⟨_, rfl⟩ | exact Or.inr ⟨_, rfl⟩) ho hM (Nat.le_of_ble_eq_true rfl) (fun Γ _ k => J_be_allThistles hd h_a0 _ h k)
set_option maxRecDepth 20000 in
set_option maxHeartbeats 4000000 in
theorem J_dh_entryOf_j20 {Δ : DT} {Γ : FT} {d : Nat} (hd : 1 ≤ d + 1) {s0 : Int}  {M : MEM} : J (some (dh_entryOf_j20 s0)) (K_I Δ Γ m_dh_entryOf M) (WAt Δ Γ false m_dh_entryOf (d + 1) 20 [vN, vN, vN] [vI (s0)] (NG, S0, M) 0 0) := by
  unfold dh_entryOf_j20
  refine J.mono (fun k => s_istore2 rfl (Nat.le_of_ble_eq_true rfl) (w_iconst rfl (inR_c rfl) (w_bipush rfl (bip_c rfl) (w_iload_n rfl rfl k)))) ?_
  refine J.mono (fun k => w_mmin rfl (Nat.le_of_ble_eq_true rfl) k) ?_
  refine J.mono (fun k => w_mmax rfl (Nat.le_of_ble_eq_true rfl) k) ?_
  exact J_some (fun k => w_ireturn rfl rfl k)
set_option maxRecDepth 20000 in
set_option maxHeartbeats 4000000 in
theorem J_dh_entryOf {Δ : DT} {Γ : FT} {d : Nat} (hd : 1 ≤ d + 1) {x0 : Int} {x1 : Int}  {M : MEM} : J (some (dh_entryOf x0 x1)) (K_I Δ Γ m_dh_entryOf M) (WAt Δ Γ false m_dh_entryOf (d + 1) 0 [vI (x0), vI (x1), vN] [] (NG, S0, M) 0 0) := by
  unfold dh_entryOf
  refine J.mono (fun k => w_iload_n rfl rfl k) ?_
  refine J_iteT (fun hc1 => ?_) (fun hc1 => ?_)
  · refine J.mono (fun k => s_if_ne_f rfl hc1 (w_iload_n rfl rfl (w_i2b rfl (w_goto rfl k)))) ?_
    exact J.mono (fun k => w_forget (wk_d (wk_d (wk_d wk_0))) k) (J_dh_entryOf_j20 hd )
  · refine J.mono (fun k => s_if_ne_t rfl hc1 (w_iload_n rfl rfl (w_iconst rfl (inR_c rfl) k))) ?_
    refine J_iteT (fun hc2 => ?_) (fun hc2 => ?_)
    · refine J.mono (fun k => s_icmp_ne_f rfl hc2 (w_iload_n rfl rfl (w_i2s rfl (w_goto rfl k)))) ?_
      exact J.mono (fun k => w_forget (wk_d (wk_d (wk_d wk_0))) k) (J_dh_entryOf_j20 hd )
    · refine J.mono (fun k => s_icmp_ne_t rfl hc2 (w_iload_n rfl rfl k)) ?_
      exact J.mono (fun k => w_forget (wk_d (wk_d (wk_d wk_0))) k) (J_dh_entryOf_j20 hd )
set_option maxRecDepth 20000 in
set_option maxHeartbeats 4000000 in
theorem cal_dh_entryOf {Δ : DT} {d : Nat} (hd : 1 ≤ d) {x0 : Int} {x1 : Int}  {M : MEM} (ho : okVs [vI x0, vI x1]) (hM : okM M) : Cal Δ false m_dh_entryOf d [vI x0, vI x1] (NG, S0, M) (some (dh_entryOf x0 x1)) (NG, S0, M) 0 0 := by
  obtain ⟨d, rfl⟩ : ∃ e, d = e + 1 := ⟨d - 1, by omega⟩
  exact cal_of g_dh_entryOf p_dh_entryOf (fun v hv => by simp only [List.mem_cons, List.not_mem_nil, or_false] at hv; rcases hv with rfl | rfl <;> first | exact Or.inl ⟨_, rfl⟩ | exact Or.inr ⟨_, rfl⟩) ho hM (Nat.le_of_ble_eq_true rfl) (fun Γ _ k => J_dh_entryOf hd  _ rfl k)
abbrev HD_dh_sheet_b66 (Δ : DT) (Γ : FT) (d : Nat) (x1 : Int) (x2 : Int) (x4 : Int) (x5 : Int) (s : Int × Int × MEM) : Prop := WAt Δ Γ false m_dh_sheet (d + 1) 66 [vN, vI (x1), vI (x2), vN, vI (x4), vI (x5), vR (10), vI (s.1), vI (s.2.1)] [] (NG, S0, s.2.2) 0 0
abbrev X_dh_sheet_b66 (Δ : DT) (Γ : FT) (d : Nat) (x1 : Int) (x2 : Int) (x4 : Int) (x5 : Int) (s : Int × Int × MEM) : Prop := WAt Δ Γ false m_dh_sheet (d + 1) 117 [vN, vN, vN, vN, vN, vI (x5), vR (10), vN, vN] [] (NG, S0, s.2.2) 0 0
set_option maxRecDepth 20000 in
set_option maxHeartbeats 4000000 in
theorem J_dh_sheet_j101_66 {Δ : DT} {Γ : FT} {d : Nat} (hd : 2 ≤ d + 1) {x1 : Int} {x2 : Int} {x4 : Int} {x5 : Int} {x7 : Int} {x8 : Int} {s1 : Int} {s2 : Int}  {M : MEM} : J (dh_sheet_j101_66 x1 x2 x4 x5 x7 x8 s1 s2 M) (Sum.elim (HD_dh_sheet_b66 Δ Γ d x1 x2 x4 x5) (X_dh_sheet_b66 Δ Γ d x1 x2 x4 x5)) (WAt Δ Γ false m_dh_sheet (d + 1) 101 [vN, vI (x1), vI (x2), vN, vI (x4), vI (x5), vR (10), vI (x7), vI (x8)] [vI (s2), vI (s1), vR (10)] (NG, S0, M) 0 0) := by
  unfold dh_sheet_j101_66
  refine J_c (fun M15 e14 => ?_)
  refine J.mono (fun k => c_vv2 rfl (fun ho hM => cal_be_put (by omega) is_be_10 e14 ho hM) v_be_put (be_S is_be_10).1 (be_S is_be_10).2 rfl (Nat.le_of_ble_eq_true rfl) (w_iload rfl rfl (w_iload rfl rfl (w_iadd rfl (s_istore7 rfl (Nat.le_of_ble_eq_true rfl) (s_iinc8 rfl (Nat.le_of_ble_eq_true rfl) (w_goto rfl k))))))) ?_
  exact J_some (fun k => w_forget (wk_d (wk_k (wk_k (wk_d (wk_k (wk_k (wk_k (wk_k (wk_k wk_0))))))))) k)
set_option maxRecDepth 20000 in
set_option maxHeartbeats 4000000 in
theorem J_dh_sheet_j100_66 {Δ : DT} {Γ : FT} {d : Nat} (hd : 2 ≤ d + 1) {x1 : Int} {x2 : Int} {x4 : Int} {x5 : Int} {x7 : Int} {x8 : Int} {s1 : Int}  {M : MEM} : J (dh_sheet_j100_66 x1 x2 x4 x5 x7 x8 s1 M) (Sum.elim (HD_dh_sheet_b66 Δ Γ d x1 x2 x4 x5) (X_dh_sheet_b66 Δ Γ d x1 x2 x4 x5)) (WAt Δ Γ false m_dh_sheet (d + 1) 100 [vN, vI (x1), vI (x2), vN, vI (x4), vI (x5), vR (10), vI (x7), vI (x8)] [vI (s1), vR (10)] (NG, S0, M) 0 0) := by
  unfold dh_sheet_j100_66
  refine J.mono (fun k => w_iconst rfl (inR_c rfl) k) ?_
  exact J.mono (fun k => w_forget (wk_d (wk_k (wk_k (wk_d (wk_k (wk_k (wk_k (wk_k (wk_k wk_0))))))))) k) (J_dh_sheet_j101_66 hd )
set_option maxRecDepth 20000 in
set_option maxHeartbeats 4000000 in
theorem Jb_dh_sheet_b66 {Δ : DT} {Γ : FT} {d : Nat} (hd : 2 ≤ d + 1) {x1 : Int} {x2 : Int} {x4 : Int} {x5 : Int}  {x7 : Int} {x8 : Int} {M : MEM} : J (dh_sheet_b66 x1 x2 x4 x5 x7 x8 M) (Sum.elim (HD_dh_sheet_b66 Δ Γ d x1 x2 x4 x5) (X_dh_sheet_b66 Δ Γ d x1 x2 x4 x5)) (WAt Δ Γ false m_dh_sheet (d + 1) 66 [vN, vI (x1), vI (x2), vN, vI (x4), vI (x5), vR (10), vI (x7), vI (x8)] [] (NG, S0, M) 0 0) := by
  unfold dh_sheet_b66
  refine J.mono (fun k => w_iload rfl rfl (w_aload rfl rfl (w_getI rfl (be_S is_be_10).1 (be_S is_be_10).2 rfl k))) ?_
  refine J_ite (fun hc11 => ?_) (fun hc11 => ?_)
  · refine J.mono (fun k => s_icmp_ge_t rfl hc11 k) ?_
    exact J_some (fun k => w_forget (wk_d (wk_d (wk_d (wk_d (wk_d (wk_k (wk_k (wk_d (wk_d wk_0))))))))) k)
  · refine J.mono (fun k => s_icmp_ge_f rfl hc11 (w_aload rfl rfl (w_iload rfl rfl (w_iload rfl rfl k)))) ?_
    refine J_ite (fun hc12 => ?_) (fun hc12 => ?_)
    · refine J.mono (fun k => s_if_ne_f rfl hc12 (w_iload rfl rfl (w_iload_n rfl rfl k))) ?_
      refine J_ite (fun hc13 => ?_) (fun hc13 => ?_)
      · refine J.mono (fun k => s_icmp_ge_t rfl hc13 k) ?_
        exact J.mono (fun k => w_forget (wk_d (wk_k (wk_k (wk_d (wk_k (wk_k (wk_k (wk_k (wk_k wk_0))))))))) k) (J_dh_sheet_j100_66 hd )
      · refine J.mono (fun k => s_icmp_ge_f rfl hc13 (w_iload_n rfl rfl (w_iload rfl rfl k))) ?_
        refine J_hyp (fun k => c_si2 rfl rfl (fun ho hM => cal_dh_entryOf (by omega)   ho hM) v_dh_entryOf (Nat.le_of_ble_eq_true rfl) k) (fun hr17 hb18 => ?_)
        refine J.mono (fun k => w_goto rfl k) ?_
        exact J.mono (fun k => w_forget (wk_d (wk_k (wk_k (wk_d (wk_k (wk_k (wk_k (wk_k (wk_k wk_0))))))))) k) (J_dh_sheet_j101_66 hd )
    · refine J.mono (fun k => s_if_ne_t rfl hc12 k) ?_
      exact J.mono (fun k => w_forget (wk_d (wk_k (wk_k (wk_d (wk_k (wk_k (wk_k (wk_k (wk_k wk_0))))))))) k) (J_dh_sheet_j100_66 hd )
set_option maxRecDepth 20000 in
set_option maxHeartbeats 4000000 in
theorem Jl_dh_sheet_b66 {Δ : DT} {Γ : FT} {d : Nat} (hd : 2 ≤ d + 1) {x1 : Int} {x2 : Int} {x4 : Int} {x5 : Int}   : ∀ (n : Nat) (s : Int × Int × MEM), J (iter (fun s => dh_sheet_b66 x1 x2 x4 x5 s.1 s.2.1 s.2.2) n s) (X_dh_sheet_b66 Δ Γ d x1 x2 x4 x5) (HD_dh_sheet_b66 Δ Γ d x1 x2 x4 x5 s) := J_iter (fun s => Jb_dh_sheet_b66 hd )
set_option maxRecDepth 20000 in
set_option maxHeartbeats 4000000 in
theorem J_dh_sheet_j49 {Δ : DT} {Γ : FT} {d : Nat} (hd : 2 ≤ d + 1) {x1 : Int} {x2 : Int} {x3 : Int} {x4 : Int} {x5 : Int}  {M : MEM} : J (dh_sheet_j49 x1 x2 x3 x4 x5 M) (K_IM Δ Γ m_dh_sheet) (WAt Δ Γ false m_dh_sheet (d + 1) 49 [vR (0), vI (x1), vI (x2), vI (x3), vI (x4), vI (x5), vN, vN, vN] [] (NG, S0, M) 0 0) := by
  unfold dh_sheet_j49
  refine J.mono (fun k => w_aload_n rfl rfl (w_getR (r := 3) rfl (Nat.le_of_ble_eq_true rfl) S_0 rfl (w_getR (r := 4) rfl (sc_S is_sc_3).1 (sc_S is_sc_3).2 rfl (w_iconst rfl (inR_c rfl) (w_aald (r := 10) rfl (scb_S is_sc_3).1 (Or.inl rfl) (scb_S is_sc_3).2 (by decide) rfl (s_astore6 rfl (Nat.le_of_ble_eq_true rfl) (w_iload_n rfl rfl (s_istore7 rfl (Nat.le_of_ble_eq_true rfl) (w_iconst rfl (inR_c rfl) (s_istore8 rfl (Nat.le_of_ble_eq_true rfl) k)))))))))) ?_
  refine J.mono (fun k => w_forget (wk_d (wk_k (wk_k (wk_d (wk_k (wk_k (wk_k (wk_k (wk_k wk_0))))))))) k) ?_
  refine J_loop (Jl_dh_sheet_b66 hd  _ _) (fun w19 => ?_)
  refine J.mono (fun k => w_iload rfl rfl k) ?_
  refine J_ite (fun hc20 => ?_) (fun hc20 => ?_)
  · refine J.mono (fun k => s_if_eq_t rfl hc20 (w_aload rfl rfl k)) ?_
    refine J_c (fun r22 e21 => ?_)
    refine J_hyp (fun k => c_vi0 rfl (fun ho hM => cal_be_allThistles (by omega) is_be_10 e21 ho hM) v_be_allThistles (be_S is_be_10).1 (be_S is_be_10).2 rfl (Nat.le_of_ble_eq_true rfl) k) (fun hr23 hb24 => ?_)
    exact J_some (fun k => w_ireturn rfl rfl k)
  · refine J.mono (fun k => s_if_eq_f rfl hc20 (w_bipush rfl (bip_c rfl) (w_goto rfl k))) ?_
    exact J_some (fun k => w_ireturn rfl rfl k)
set_option maxRecDepth 20000 in
set_option maxHeartbeats 4000000 in
theorem J_dh_sheet_j35 {Δ : DT} {Γ : FT} {d : Nat} (hd : 2 ≤ d + 1) {x1 : Int} {x2 : Int} {x3 : Int} {x4 : Int} {s0 : Int}  {M : MEM} : J (dh_sheet_j35 x1 x2 x3 x4 s0 M) (K_IM Δ Γ m_dh_sheet) (WAt Δ Γ false m_dh_sheet (d + 1) 35 [vR (0), vI (x1), vI (x2), vI (x3), vI (x4), vN, vN, vN, vN] [vI (s0)] (NG, S0, M) 0 0) := by
  unfold dh_sheet_j35
  refine J.mono (fun k => s_istore5 rfl (Nat.le_of_ble_eq_true rfl) (w_iload rfl rfl k)) ?_
  refine J_ite (fun hc9 => ?_) (fun hc9 => ?_)
  · refine J.mono (fun k => s_if_ne_f rfl hc9 (w_iload_n rfl rfl k)) ?_
    refine J_ite (fun hc10 => ?_) (fun hc10 => ?_)
    · refine J.mono (fun k => s_if_ge_t rfl hc10 k) ?_
      exact J.mono (fun k => w_forget (wk_k (wk_k (wk_k (wk_k (wk_k (wk_k (wk_d (wk_d (wk_d wk_0))))))))) k) (J_dh_sheet_j49 hd )
    · refine J.mono (fun k => s_if_ge_f rfl hc10 (w_bipush rfl (bip_c rfl) k)) ?_
      exact J_some (fun k => w_ireturn rfl rfl k)
  · refine J.mono (fun k => s_if_ne_t rfl hc9 k) ?_
    exact J.mono (fun k => w_forget (wk_k (wk_k (wk_k (wk_k (wk_k (wk_k (wk_d (wk_d (wk_d wk_0))))))))) k) (J_dh_sheet_j49 hd )
set_option maxRecDepth 20000 in
set_option maxHeartbeats 4000000 in
theorem J_dh_sheet {Δ : DT} {Γ : FT} {d : Nat} (hd : 2 ≤ d + 1) {x1 : Int} {x2 : Int} {x3 : Int} {x4 : Int}  {M : MEM} : J (dh_sheet x1 x2 x3 x4 M) (K_IM Δ Γ m_dh_sheet) (WAt Δ Γ false m_dh_sheet (d + 1) 0 [vR (0), vI (x1), vI (x2), vI (x3), vI (x4), vN, vN, vN, vN] [] (NG, S0, M) 0 0) := by
  unfold dh_sheet
  refine J.mono (fun k => w_iload_n rfl rfl k) ?_
  refine J_ite (fun hc1 => ?_) (fun hc1 => ?_)
  · refine J.mono (fun k => s_if_lt_t rfl hc1 (w_iconst rfl (inR_c rfl) k)) ?_
    exact J_some (fun k => w_ireturn rfl rfl k)
  · refine J.mono (fun k => s_if_lt_f rfl hc1 (w_iload_n rfl rfl (w_iconst rfl (inR_c rfl) k))) ?_
    refine J_ite (fun hc2 => ?_) (fun hc2 => ?_)
    · refine J.mono (fun k => s_icmp_gt_t rfl hc2 (w_iconst rfl (inR_c rfl) k)) ?_
      exact J_some (fun k => w_ireturn rfl rfl k)
    · refine J.mono (fun k => s_icmp_gt_f rfl hc2 (w_iload_n rfl rfl (w_bipush rfl (bip_c rfl) k))) ?_
      refine J_ite (fun hc3 => ?_) (fun hc3 => ?_)
      · refine J.mono (fun k => s_icmp_gt_t rfl hc3 (w_iconst rfl (inR_c rfl) k)) ?_
        exact J_some (fun k => w_ireturn rfl rfl k)
      · refine J.mono (fun k => s_icmp_gt_f rfl hc3 (w_aload_n rfl rfl (w_iconst rfl (inR_c rfl) k))) ?_
        refine J_hyp (fun k => c_vi1 rfl (fun ho hM => cal_dh_isDonkey (by omega)   ho hM) v_dh_isDonkey (Nat.le_of_ble_eq_true rfl) S_0 rfl (Nat.le_of_ble_eq_true rfl) k) (fun hr5 hb6 => ?_)
        refine J_ite (fun hc7 => ?_) (fun hc7 => ?_)
        · refine J.mono (fun k => s_if_ne_f rfl hc7 (w_iconst rfl (inR_c rfl) k)) ?_
          exact J_some (fun k => w_ireturn rfl rfl k)
        · refine J.mono (fun k => s_if_ne_t rfl hc7 (w_iload_n rfl rfl (w_iconst rfl (inR_c rfl) k))) ?_
          refine J_ite (fun hc8 => ?_) (fun hc8 => ?_)
          · refine J.mono (fun k => s_icmp_ne_f rfl hc8 (w_iconst rfl (inR_c rfl) (w_goto rfl k))) ?_
            exact J.mono (fun k => w_forget (wk_k (wk_k (wk_k (wk_k (wk_k (wk_d (wk_d (wk_d (wk_d wk_0))))))))) k) (J_dh_sheet_j35 hd )
          · refine J.mono (fun k => s_icmp_ne_t rfl hc8 (w_iconst rfl (inR_c rfl) k)) ?_
            exact J.mono (fun k => w_forget (wk_k (wk_k (wk_k (wk_k (wk_k (wk_d (wk_d (wk_d (wk_d wk_0))))))))) k) (J_dh_sheet_j35 hd )
set_option maxRecDepth 20000 in
set_option maxHeartbeats 4000000 in
theorem cal_dh_sheet {Δ : DT} {d : Nat} (hd : 2 ≤ d) {x1 : Int} {x2 : Int} {x3 : Int} {x4 : Int}  {M : MEM} {p : Int × MEM} (h : dh_sheet x1 x2 x3 x4 M = some p) (ho : okVs [vR 0, vI x1, vI x2, vI x3, vI x4]) (hM : okM M) : Cal Δ false m_dh_sheet d [vR 0, vI x1, vI x2, vI x3, vI x4] (NG, S0, M) (some p.1) (NG, S0, p.2) 0 0 := by
  obtain ⟨d, rfl⟩ : ∃ e, d = e + 1 := ⟨d - 1, by omega⟩
  exact cal_of g_dh_sheet p_dh_sheet (fun v hv => by simp only [List.mem_cons, List.not_mem_nil, or_false] at hv; rcases hv with rfl | rfl | rfl | rfl | rfl <;> first | exact Or.inl ⟨_, rfl⟩ | exact Or.inr ⟨_, rfl⟩) ho hM (Nat.le_of_ble_eq_true rfl) (fun Γ _ k => J_dh_sheet hd  _ h k)
set_option maxRecDepth 20000 in
set_option maxHeartbeats 4000000 in
theorem J_ca_add {Δ : DT} {Γ : FT} {d : Nat} {a0 : Nat} {x1 : Int} {x2 : Int} {x3 : Int} {x4 : Int} (h_a0 : is_ca a0) {M : MEM} : J (ca_add a0 x1 x2 x3 x4 M) (K_IM Δ Γ m_ca_add) (WAt Δ Γ false m_ca_add d 0 [vR (a0), vI (x1), vI (x2), vI (x3), vI (x4)] [] (NG, S0, M) 0 0) := by
  unfold ca_add
  refine J.mono (fun k => w_aload_n rfl rfl (w_getI rfl (ca_S h_a0).1 (ca_S h_a0).2 rfl k)) ?_
  refine J_ite (fun hc1 => ?_) (fun hc1 => ?_)
  · refine J.mono (fun k => s_if_lt_t rfl hc1 (w_iconst rfl (inR_c rfl) k)) ?_
    exact J_some (fun k => w_zreturn rfl rfl (Or.inl rfl) k)
  · refine J.mono (fun k => s_if_lt_f rfl hc1 (w_aload_n rfl rfl (w_getI rfl (ca_S h_a0).1 (ca_S h_a0).2 rfl (w_bipush rfl (bip_c rfl) k)))) ?_
    refine J_ite (fun hc2 => ?_) (fun hc2 => ?_)
    · refine J.mono (fun k => s_icmp_lt_t rfl hc2 (w_aload_n rfl rfl (w_getR (r := (a0 + 1)) rfl (ca_S h_a0).1 (ca_S h_a0).2 rfl (w_aload_n rfl rfl (w_getI rfl (ca_S h_a0).1 (ca_S h_a0).2 rfl (w_iload_n rfl rfl k)))))) ?_
      refine J_chk (fun hi4 => ?_)
      refine J_b ?_
      refine J.mono (fun k => w_iast rfl (ca_f0 h_a0).1 (ca_f0 h_a0).2 hi4.1 hi4.2 rfl (w_aload_n rfl rfl (w_getR (r := (a0 + 2)) rfl (ca_S h_a0).1 (ca_S h_a0).2 rfl (w_aload_n rfl rfl (w_getI rfl (ca_S h_a0).1 (ca_S h_a0).2 rfl (w_iload_n rfl rfl k)))))) ?_
      refine J_chk (fun hi6 => ?_)
      refine J_b ?_
      refine J.mono (fun k => w_iast rfl (ca_f1 h_a0).1 (ca_f1 h_a0).2 hi6.1 hi6.2 rfl (w_aload_n rfl rfl (w_getR (r := (a0 + 3)) rfl (ca_S h_a0).1 (ca_S h_a0).2 rfl (w_aload_n rfl rfl (w_getI rfl (ca_S h_a0).1 (ca_S h_a0).2 rfl (w_iload_n rfl rfl k)))))) ?_
      refine J_chk (fun hi8 => ?_)
      refine J_b ?_
      refine J.mono (fun k => w_iast rfl (ca_f2 h_a0).1 (ca_f2 h_a0).2 hi8.1 hi8.2 rfl (w_aload_n rfl rfl (w_getR (r := (a0 + 4)) rfl (ca_S h_a0).1 (ca_S h_a0).2 rfl (w_aload_n rfl rfl (w_getI rfl (ca_S h_a0).1 (ca_S h_a0).2 rfl (w_iload rfl rfl k)))))) ?_
      refine J_chk (fun hi10 => ?_)
      refine J_b ?_
      refine J.mono (fun k => w_iast rfl (ca_f3 h_a0).1 (ca_f3 h_a0).2 hi10.1 hi10.2 rfl (w_aload_n rfl rfl (w_dup rfl (fun _ h => by cases h) (w_getI rfl (ca_S h_a0).1 (ca_S h_a0).2 rfl (w_iconst rfl (inR_c rfl) (w_iadd rfl k)))))) ?_
      refine J_b ?_
      refine J.mono (fun k => w_putI rfl (ca_S h_a0).1 (ca_S h_a0).2 rfl rfl (w_iconst rfl (inR_c rfl) k)) ?_
      exact J_some (fun k => w_zreturn rfl rfl (Or.inr rfl) k)
    · refine J.mono (fun k => s_icmp_lt_f rfl hc2 (w_iconst rfl (inR_c rfl) k)) ?_
      exact J_some (fun k => w_zreturn rfl rfl (Or.inl rfl) k)
set_option maxRecDepth 20000 in
set_option maxHeartbeats 4000000 in
theorem cal_ca_add {Δ : DT} {d : Nat} (hd : 0 ≤ d) {a0 : Nat} {x1 : Int} {x2 : Int} {x3 : Int} {x4 : Int} (h_a0 : is_ca a0) {M : MEM} {p : Int × MEM} (h : ca_add a0 x1 x2 x3 x4 M = some p) (ho : okVs [vR a0, vI x1, vI x2, vI x3, vI x4]) (hM : okM M) : Cal Δ false m_ca_add d [vR a0, vI x1, vI x2, vI x3, vI x4] (NG, S0, M) (some p.1) (NG, S0, p.2) 0 0 := by
  exact cal_of g_ca_add p_ca_add (fun v hv => by simp only [List.mem_cons, List.not_mem_nil, or_false] at hv; rcases hv with rfl | rfl | rfl | rfl | rfl <;> first | exact Or.inl ⟨_, rfl⟩ | exact Or.inr ⟨_, rfl⟩) ho hM (Nat.le_of_ble_eq_true rfl) (fun Γ _ k => J_ca_add h_a0 _ h k)
set_option maxRecDepth 20000 in
set_option maxHeartbeats 4000000 in
theorem J_dh_isWay {Δ : DT} {Γ : FT} {d : Nat} {x0 : Int}  {M : MEM} : J (some (dh_isWay x0)) (K_I Δ Γ m_dh_isWay M) (WAt Δ Γ false m_dh_isWay d 0 [vI (x0)] [] (NG, S0, M) 0 0) := by
  unfold dh_isWay
  refine J.mono (fun k => w_iload_n rfl rfl (w_iconst rfl (inR_c rfl) k)) ?_
  refine J_iteT (fun hc1 => ?_) (fun hc1 => ?_)
  · refine J.mono (fun k => s_icmp_eq_t rfl hc1 (w_iconst rfl (inR_c rfl) (w_goto rfl k))) ?_
    exact J_some (fun k => w_zreturn rfl rfl (Or.inr rfl) k)
  · refine J.mono (fun k => s_icmp_eq_f rfl hc1 (w_iload_n rfl rfl (w_iconst rfl (inR_c rfl) k))) ?_
    refine J_iteT (fun hc2 => ?_) (fun hc2 => ?_)
    · refine J.mono (fun k => s_icmp_ne_f rfl hc2 (w_iconst rfl (inR_c rfl) (w_goto rfl k))) ?_
      exact J_some (fun k => w_zreturn rfl rfl (Or.inr rfl) k)
    · refine J.mono (fun k => s_icmp_ne_t rfl hc2 (w_iconst rfl (inR_c rfl) k)) ?_
      exact J_some (fun k => w_zreturn rfl rfl (Or.inl rfl) k)
set_option maxRecDepth 20000 in
set_option maxHeartbeats 4000000 in
theorem cal_dh_isWay {Δ : DT} {d : Nat} (hd : 0 ≤ d) {x0 : Int}  {M : MEM} (ho : okVs [vI x0]) (hM : okM M) : Cal Δ false m_dh_isWay d [vI x0] (NG, S0, M) (some (dh_isWay x0)) (NG, S0, M) 0 0 := by
  exact cal_of g_dh_isWay p_dh_isWay (fun v hv => by simp only [List.mem_cons, List.not_mem_nil, or_false] at hv; rcases hv with rfl <;> first | exact Or.inl ⟨_, rfl⟩ | exact Or.inr ⟨_, rfl⟩) ho hM (Nat.le_of_ble_eq_true rfl) (fun Γ _ k => J_dh_isWay  _ rfl k)
set_option maxRecDepth 20000 in
set_option maxHeartbeats 4000000 in
theorem J_dh_carrot {Δ : DT} {Γ : FT} {d : Nat} (hd : 1 ≤ d + 1) {x1 : Int} {x2 : Int} {x3 : Int} {x4 : Int}  {M : MEM} : J (dh_carrot x1 x2 x3 x4 M) (K_IM Δ Γ m_dh_carrot) (WAt Δ Γ false m_dh_carrot (d + 1) 0 [vR (0), vI (x1), vI (x2), vI (x3), vI (x4), vN] [] (NG, S0, M) 0 0) := by
  unfold dh_carrot
  refine J.mono (fun k => w_aload_n rfl rfl (w_iload_n rfl rfl k)) ?_
  refine J_hyp (fun k => c_vi1 rfl (fun ho hM => cal_dh_isDonkey (by omega)   ho hM) v_dh_isDonkey (Nat.le_of_ble_eq_true rfl) S_0 rfl (Nat.le_of_ble_eq_true rfl) k) (fun hr2 hb3 => ?_)
  refine J_ite (fun hc4 => ?_) (fun hc4 => ?_)
  · refine J.mono (fun k => s_if_eq_t rfl hc4 (w_iconst rfl (inR_c rfl) k)) ?_
    exact J_some (fun k => w_ireturn rfl rfl k)
  · refine J.mono (fun k => s_if_eq_f rfl hc4 (w_iload rfl rfl k)) ?_
    refine J_hyp (fun k => c_si1 rfl rfl (fun ho hM => cal_dh_isWay (by omega)   ho hM) v_dh_isWay (Nat.le_of_ble_eq_true rfl) k) (fun hr6 hb7 => ?_)
    refine J_ite (fun hc8 => ?_) (fun hc8 => ?_)
    · refine J.mono (fun k => s_if_eq_t rfl hc8 (w_iconst rfl (inR_c rfl) k)) ?_
      exact J_some (fun k => w_ireturn rfl rfl k)
    · refine J.mono (fun k => s_if_eq_f rfl hc8 (w_iload_n rfl rfl k)) ?_
      refine J_ite (fun hc9 => ?_) (fun hc9 => ?_)
      · refine J.mono (fun k => s_if_lt_t rfl hc9 (w_iconst rfl (inR_c rfl) k)) ?_
        exact J_some (fun k => w_ireturn rfl rfl k)
      · refine J.mono (fun k => s_if_lt_f rfl hc9 (w_iload_n rfl rfl (w_iload_n rfl rfl k))) ?_
        refine J_ite (fun hc10 => ?_) (fun hc10 => ?_)
        · refine J.mono (fun k => s_icmp_lt_t rfl hc10 (w_iconst rfl (inR_c rfl) k)) ?_
          exact J_some (fun k => w_ireturn rfl rfl k)
        · refine J.mono (fun k => s_icmp_lt_f rfl hc10 (w_iload_n rfl rfl (w_sipush rfl (sip_c rfl) k))) ?_
          refine J_ite (fun hc11 => ?_) (fun hc11 => ?_)
          · refine J.mono (fun k => s_icmp_le_t rfl hc11 (w_aload_n rfl rfl (w_getR (r := 3) rfl (Nat.le_of_ble_eq_true rfl) S_0 rfl (w_getR (r := 5) rfl (sc_S is_sc_3).1 (sc_S is_sc_3).2 rfl (w_getI rfl (ca_S is_ca_5).1 (ca_S is_ca_5).2 rfl (s_istore5 rfl (Nat.le_of_ble_eq_true rfl) (w_aload_n rfl rfl (w_getR (r := 3) rfl (Nat.le_of_ble_eq_true rfl) S_0 rfl (w_getR (r := 5) rfl (sc_S is_sc_3).1 (sc_S is_sc_3).2 rfl (w_iload_n rfl rfl (w_iload_n rfl rfl (w_iload_n rfl rfl (w_iload rfl rfl k))))))))))))) ?_
            refine J_c (fun p13 e12 => ?_)
            refine J_hyp (fun k => c_vi4 rfl (fun ho hM => cal_ca_add (by omega) is_ca_5 e12 ho hM) v_ca_add (ca_S is_ca_5).1 (ca_S is_ca_5).2 rfl (Nat.le_of_ble_eq_true rfl) k) (fun hr14 hb15 => ?_)
            refine J_ite (fun hc16 => ?_) (fun hc16 => ?_)
            · refine J.mono (fun k => s_if_eq_t rfl hc16 (w_bipush rfl (bip_c rfl) k)) ?_
              exact J_some (fun k => w_ireturn rfl rfl k)
            · refine J.mono (fun k => s_if_eq_f rfl hc16 (w_iload rfl rfl (w_goto rfl k))) ?_
              exact J_some (fun k => w_ireturn rfl rfl k)
          · refine J.mono (fun k => s_icmp_le_f rfl hc11 (w_iconst rfl (inR_c rfl) k)) ?_
            exact J_some (fun k => w_ireturn rfl rfl k)
set_option maxRecDepth 20000 in
set_option maxHeartbeats 4000000 in
theorem cal_dh_carrot {Δ : DT} {d : Nat} (hd : 1 ≤ d) {x1 : Int} {x2 : Int} {x3 : Int} {x4 : Int}  {M : MEM} {p : Int × MEM} (h : dh_carrot x1 x2 x3 x4 M = some p) (ho : okVs [vR 0, vI x1, vI x2, vI x3, vI x4]) (hM : okM M) : Cal Δ false m_dh_carrot d [vR 0, vI x1, vI x2, vI x3, vI x4] (NG, S0, M) (some p.1) (NG, S0, p.2) 0 0 := by
  obtain ⟨d, rfl⟩ : ∃ e, d = e + 1 := ⟨d - 1, by omega⟩
  exact cal_of g_dh_carrot p_dh_carrot (fun v hv => by simp only [List.mem_cons, List.not_mem_nil, or_false] at hv; rcases hv with rfl | rfl | rfl | rfl | rfl <;> first | exact Or.inl ⟨_, rfl⟩ | exact Or.inr ⟨_, rfl⟩) ho hM (Nat.le_of_ble_eq_true rfl) (fun Γ _ k => J_dh_carrot hd  _ h k)
set_option maxRecDepth 20000 in
set_option maxHeartbeats 4000000 in
theorem J_ca_dropLatest {Δ : DT} {Γ : FT} {d : Nat} {a0 : Nat} (h_a0 : is_ca a0) {M : MEM} : J (ca_dropLatest a0 M) (K_IM Δ Γ m_ca_dropLatest) (WAt Δ Γ false m_ca_dropLatest d 0 [vR (a0)] [] (NG, S0, M) 0 0) := by
  unfold ca_dropLatest
  refine J.mono (fun k => w_aload_n rfl rfl (w_getI rfl (ca_S h_a0).1 (ca_S h_a0).2 rfl (w_iconst rfl (inR_c rfl) k))) ?_
  refine J_ite (fun hc1 => ?_) (fun hc1 => ?_)
  · refine J.mono (fun k => s_icmp_ge_t rfl hc1 (w_aload_n rfl rfl (w_dup rfl (fun _ h => by cases h) (w_getI rfl (ca_S h_a0).1 (ca_S h_a0).2 rfl (w_iconst rfl (inR_c rfl) (w_isub rfl k)))))) ?_
    refine J_b ?_
    refine J.mono (fun k => w_putI rfl (ca_S h_a0).1 (ca_S h_a0).2 rfl rfl (w_iconst rfl (inR_c rfl) k)) ?_
    exact J_some (fun k => w_zreturn rfl rfl (Or.inr rfl) k)
  · refine J.mono (fun k => s_icmp_ge_f rfl hc1 (w_iconst rfl (inR_c rfl) k)) ?_
    exact J_some (fun k => w_zreturn rfl rfl (Or.inl rfl) k)
set_option maxRecDepth 20000 in
set_option maxHeartbeats 4000000 in
theorem cal_ca_dropLatest {Δ : DT} {d : Nat} (hd : 0 ≤ d) {a0 : Nat} (h_a0 : is_ca a0) {M : MEM} {p : Int × MEM} (h : ca_dropLatest a0 M = some p) (ho : okVs [vR a0]) (hM : okM M) : Cal Δ false m_ca_dropLatest d [vR a0] (NG, S0, M) (some p.1) (NG, S0, p.2) 0 0 := by
  exact cal_of g_ca_dropLatest p_ca_dropLatest (fun v hv => by simp only [List.mem_cons, List.not_mem_nil, or_false] at hv; rcases hv with rfl <;> first | exact Or.inl ⟨_, rfl⟩ | exact Or.inr ⟨_, rfl⟩) ho hM (Nat.le_of_ble_eq_true rfl) (fun Γ _ k => J_ca_dropLatest h_a0 _ h k)
set_option maxRecDepth 20000 in
set_option maxHeartbeats 4000000 in
theorem J_dh_eat {Δ : DT} {Γ : FT} {d : Nat} (hd : 1 ≤ d + 1)   {M : MEM} : J (dh_eat M) (K_IM Δ Γ m_dh_eat) (WAt Δ Γ false m_dh_eat (d + 1) 0 [vR (0)] [] (NG, S0, M) 0 0) := by
  unfold dh_eat
  refine J.mono (fun k => w_aload_n rfl rfl (w_getR (r := 3) rfl (Nat.le_of_ble_eq_true rfl) S_0 rfl (w_getR (r := 5) rfl (sc_S is_sc_3).1 (sc_S is_sc_3).2 rfl k))) ?_
  refine J_c (fun p2 e1 => ?_)
  refine J_hyp (fun k => c_vi0 rfl (fun ho hM => cal_ca_dropLatest (by omega) is_ca_5 e1 ho hM) v_ca_dropLatest (ca_S is_ca_5).1 (ca_S is_ca_5).2 rfl (Nat.le_of_ble_eq_true rfl) k) (fun hr3 hb4 => ?_)
  refine J_ite (fun hc5 => ?_) (fun hc5 => ?_)
  · refine J.mono (fun k => s_if_eq_t rfl hc5 (w_iconst rfl (inR_c rfl) k)) ?_
    exact J_some (fun k => w_ireturn rfl rfl k)
  · refine J.mono (fun k => s_if_eq_f rfl hc5 (w_aload_n rfl rfl (w_getR (r := 3) rfl (Nat.le_of_ble_eq_true rfl) S_0 rfl (w_getR (r := 5) rfl (sc_S is_sc_3).1 (sc_S is_sc_3).2 rfl (w_getI rfl (ca_S is_ca_5).1 (ca_S is_ca_5).2 rfl (w_goto rfl k)))))) ?_
    exact J_some (fun k => w_ireturn rfl rfl k)
set_option maxRecDepth 20000 in
set_option maxHeartbeats 4000000 in
theorem cal_dh_eat {Δ : DT} {d : Nat} (hd : 1 ≤ d)   {M : MEM} {p : Int × MEM} (h : dh_eat M = some p) (ho : okVs [vR 0]) (hM : okM M) : Cal Δ false m_dh_eat d [vR 0] (NG, S0, M) (some p.1) (NG, S0, p.2) 0 0 := by
  obtain ⟨d, rfl⟩ : ∃ e, d = e + 1 := ⟨d - 1, by omega⟩
  exact cal_of g_dh_eat p_dh_eat (fun v hv => by simp only [List.mem_cons, List.not_mem_nil, or_false] at hv; rcases hv with rfl <;> first | exact Or.inl ⟨_, rfl⟩ | exact Or.inr ⟨_, rfl⟩) ho hM (Nat.le_of_ble_eq_true rfl) (fun Γ _ k => J_dh_eat hd  _ h k)
set_option maxRecDepth 20000 in
set_option maxHeartbeats 4000000 in
theorem J_dh_newRow {Δ : DT} {Γ : FT} {d : Nat}   {M : MEM} : J (dh_newRow M) (K_M Δ Γ m_dh_newRow) (WAt Δ Γ false m_dh_newRow d 0 [vR (0)] [] (NG, S0, M) 0 0) := by
  unfold dh_newRow
  refine J.mono (fun k => w_aload_n rfl rfl (w_iconst rfl (inR_c rfl) k)) ?_
  refine J_b ?_
  refine J.mono (fun k => w_putI rfl (Nat.le_of_ble_eq_true rfl) S_0 rfl rfl k) ?_
  exact J_some (fun k => w_return rfl rfl k)
set_option maxRecDepth 20000 in
set_option maxHeartbeats 4000000 in
theorem cal_dh_newRow {Δ : DT} {d : Nat} (hd : 0 ≤ d)   {M : MEM} {M1 : MEM} (h : dh_newRow M = some M1) (ho : okVs [vR 0]) (hM : okM M) : Cal Δ false m_dh_newRow d [vR 0] (NG, S0, M) none (NG, S0, M1) 0 0 := by
  exact cal_of g_dh_newRow p_dh_newRow (fun v hv => by simp only [List.mem_cons, List.not_mem_nil, or_false] at hv; rcases hv with rfl <;> first | exact Or.inl ⟨_, rfl⟩ | exact Or.inr ⟨_, rfl⟩) ho hM (Nat.le_of_ble_eq_true rfl) (fun Γ _ k => J_dh_newRow  _ h k)
set_option maxRecDepth 20000 in
set_option maxHeartbeats 4000000 in
theorem J_jm_floorMod {Δ : DT} {Γ : FT} {d : Nat} {x0 : Int} {x1 : Int}  {M : MEM} : J (jm_floorMod x0 x1) (K_I Δ Γ m_jm_floorMod M) (WAt Δ Γ false m_jm_floorMod d 0 [vI (x0), vI (x1), vN] [] (NG, S0, M) 0 0) := by
  unfold jm_floorMod
  refine J.mono (fun k => w_iload_n rfl rfl (w_iload_n rfl rfl k)) ?_
  refine J_chn (fun hz1 => ?_)
  refine J.mono (fun k => w_irem rfl hz1 (s_istore2 rfl (Nat.le_of_ble_eq_true rfl) (w_iload_n rfl rfl (w_iload_n rfl rfl (w_ixor rfl k))))) ?_
  refine J_ite (fun hc2 => ?_) (fun hc2 => ?_)
  · refine J.mono (fun k => s_if_ge_t rfl hc2 (w_iload_n rfl rfl k)) ?_
    exact J_some (fun k => w_ireturn rfl rfl k)
  · refine J.mono (fun k => s_if_ge_f rfl hc2 (w_iload_n rfl rfl k)) ?_
    refine J_ite (fun hc3 => ?_) (fun hc3 => ?_)
    · refine J.mono (fun k => s_if_eq_t rfl hc3 (w_iload_n rfl rfl k)) ?_
      exact J_some (fun k => w_ireturn rfl rfl k)
    · refine J.mono (fun k => s_if_eq_f rfl hc3 (w_iload_n rfl rfl (w_iload_n rfl rfl (w_iadd rfl k)))) ?_
      exact J_some (fun k => w_ireturn rfl rfl k)
set_option maxRecDepth 20000 in
set_option maxHeartbeats 4000000 in
theorem cal_jm_floorMod {Δ : DT} {d : Nat} (hd : 0 ≤ d) {x0 : Int} {x1 : Int}  {M : MEM} {r : Int} (h : jm_floorMod x0 x1 = some r) (ho : okVs [vI x0, vI x1]) (hM : okM M) : Cal Δ false m_jm_floorMod d [vI x0, vI x1] (NG, S0, M) (some r) (NG, S0, M) 0 0 := by
  exact cal_of g_jm_floorMod p_jm_floorMod (fun v hv => by simp only [List.mem_cons, List.not_mem_nil, or_false] at hv; rcases hv with rfl | rfl <;> first | exact Or.inl ⟨_, rfl⟩ | exact Or.inr ⟨_, rfl⟩) ho hM (Nat.le_of_ble_eq_true rfl) (fun Γ _ k => J_jm_floorMod  _ h k)
set_option maxRecDepth 20000 in
set_option maxHeartbeats 4000000 in
theorem J_be_enter {Δ : DT} {Γ : FT} {d : Nat} (hd : 1 ≤ d + 1) {a0 : Nat} {x1 : Int} (h_a0 : is_be a0) {M : MEM} : J (be_enter a0 x1 M) (K_M Δ Γ m_be_enter) (WAt Δ Γ false m_be_enter (d + 1) 0 [vR (a0), vI (x1)] [] (NG, S0, M) 0 0) := by
  unfold be_enter
  refine J.mono (fun k => w_aload_n rfl rfl (w_getR (r := (a0 + 2)) rfl (be_S h_a0).1 (be_S h_a0).2 rfl (w_aload_n rfl rfl (w_getI rfl (be_S h_a0).1 (be_S h_a0).2 rfl (w_bipush rfl (bip_c rfl) k))))) ?_
  refine J_c (fun r2 e1 => ?_)
  refine J_hyp (fun k => c_si2 rfl rfl (fun ho hM => cal_jm_floorMod (by omega)  e1 ho hM) v_jm_floorMod (Nat.le_of_ble_eq_true rfl) k) (fun hr3 hb4 => ?_)
  refine J.mono (fun k => w_iload_n rfl rfl k) ?_
  refine J_chk (fun hi6 => ?_)
  refine J_b ?_
  refine J.mono (fun k => w_iast rfl (be_f1 h_a0).1 (be_f1 h_a0).2 hi6.1 hi6.2 rfl k) ?_
  exact J_some (fun k => w_return rfl rfl k)
set_option maxRecDepth 20000 in
set_option maxHeartbeats 4000000 in
theorem cal_be_enter {Δ : DT} {d : Nat} (hd : 1 ≤ d) {a0 : Nat} {x1 : Int} (h_a0 : is_be a0) {M : MEM} {M1 : MEM} (h : be_enter a0 x1 M = some M1) (ho : okVs [vR a0, vI x1]) (hM : okM M) : Cal Δ false m_be_enter d [vR a0, vI x1] (NG, S0, M) none (NG, S0, M1) 0 0 := by
  obtain ⟨d, rfl⟩ : ∃ e, d = e + 1 := ⟨d - 1, by omega⟩
  exact cal_of g_be_enter p_be_enter (fun v hv => by simp only [List.mem_cons, List.not_mem_nil, or_false] at hv; rcases hv with rfl | rfl <;> first | exact Or.inl ⟨_, rfl⟩ | exact Or.inr ⟨_, rfl⟩) ho hM (Nat.le_of_ble_eq_true rfl) (fun Γ _ k => J_be_enter hd h_a0 _ h k)
abbrev HD_be_walk_b13 (Δ : DT) (Γ : FT) (d : Nat) (a0 : Nat) (x1 : Int) (s : Int × Int × MEM) : Prop := WAt Δ Γ false m_be_walk (d + 1) 13 [vR (a0), vI (x1), vI (s.1), vI (s.2.1), vN] [] (NG, S0, s.2.2) 0 0
abbrev X_be_walk_b13 (Δ : DT) (Γ : FT) (d : Nat) (a0 : Nat) (x1 : Int) (s : Int × Int × MEM) : Prop := WAt Δ Γ false m_be_walk (d + 1) 138 [vN, vN, vI (s.1), vN, vN] [] (NG, S0, s.2.2) 0 0
set_option maxRecDepth 20000 in
set_option maxHeartbeats 4000000 in
theorem J_be_walk_j132_13 {Δ : DT} {Γ : FT} {d : Nat} (hd : 1 ≤ d + 1) {a0 : Nat} {x1 : Int} {x2 : Int} {x3 : Int} (h_a0 : is_be a0) {M : MEM} : J (be_walk_j132_13 a0 x1 x2 x3 M) (Sum.elim (HD_be_walk_b13 Δ Γ d a0 x1) (X_be_walk_b13 Δ Γ d a0 x1)) (WAt Δ Γ false m_be_walk (d + 1) 132 [vR (a0), vI (x1), vI (x2), vI (x3), vN] [] (NG, S0, M) 0 0) := by
  unfold be_walk_j132_13
  refine J.mono (fun k => s_iinc3 rfl (Nat.le_of_ble_eq_true rfl) (w_goto rfl k)) ?_
  exact J_some (fun k => w_forget (wk_k (wk_k (wk_k (wk_k (wk_d wk_0))))) k)
set_option maxRecDepth 20000 in
set_option maxHeartbeats 4000000 in
theorem J_be_walk_j87_13 {Δ : DT} {Γ : FT} {d : Nat} (hd : 1 ≤ d + 1) {a0 : Nat} {x1 : Int} {x2 : Int} {x3 : Int} (h_a0 : is_be a0) {M : MEM} : J (be_walk_j87_13 a0 x1 x2 x3 M) (Sum.elim (HD_be_walk_b13 Δ Γ d a0 x1) (X_be_walk_b13 Δ Γ d a0 x1)) (WAt Δ Γ false m_be_walk (d + 1) 87 [vR (a0), vI (x1), vI (x2), vI (x3), vN] [] (NG, S0, M) 0 0) := by
  unfold be_walk_j87_13
  refine J.mono (fun k => w_aload_n rfl rfl (w_aload_n rfl rfl (w_getI rfl (be_S h_a0).1 (be_S h_a0).2 rfl k))) ?_
  refine J_c (fun r10 e9 => ?_)
  refine J_hyp (fun k => c_vi1 rfl (fun ho hM => cal_be_thistlesOn (by omega) h_a0 e9 ho hM) v_be_thistlesOn (be_S h_a0).1 (be_S h_a0).2 rfl (Nat.le_of_ble_eq_true rfl) k) (fun hr11 hb12 => ?_)
  refine J.mono (fun k => s_istore4 rfl (Nat.le_of_ble_eq_true rfl) (w_iload rfl rfl k)) ?_
  refine J_ite (fun hc13 => ?_) (fun hc13 => ?_)
  · refine J.mono (fun k => s_if_le_t rfl hc13 k) ?_
    exact J.mono (fun k => w_forget (wk_k (wk_k (wk_k (wk_k (wk_d wk_0))))) k) (J_be_walk_j132_13 hd h_a0)
  · refine J.mono (fun k => s_if_le_f rfl hc13 (w_aload_n rfl rfl (w_aload_n rfl rfl (w_getI rfl (be_S h_a0).1 (be_S h_a0).2 rfl (w_iload rfl rfl (w_iconst rfl (inR_c rfl) (w_isub rfl k))))))) ?_
    refine J_c (fun M15 e14 => ?_)
    refine J.mono (fun k => c_vv2 rfl (fun ho hM => cal_be_put (by omega) h_a0 e14 ho hM) v_be_put (be_S h_a0).1 (be_S h_a0).2 rfl (Nat.le_of_ble_eq_true rfl) (w_aload_n rfl rfl (w_iconst rfl (inR_c rfl) (w_aload_n rfl rfl (w_getI rfl (be_S h_a0).1 (be_S h_a0).2 rfl (w_iconst rfl (inR_c rfl) (w_isub rfl k))))))) ?_
    refine J.mono (fun k => w_mmax rfl (Nat.le_of_ble_eq_true rfl) k) ?_
    refine J_b ?_
    refine J.mono (fun k => w_putI rfl (be_S h_a0).1 (be_S h_a0).2 rfl rfl (w_iload_n rfl rfl (w_iconst rfl (inR_c rfl) (w_ior rfl (s_istore2 rfl (Nat.le_of_ble_eq_true rfl) k))))) ?_
    exact J.mono (fun k => w_forget (wk_k (wk_k (wk_k (wk_k (wk_d wk_0))))) k) (J_be_walk_j132_13 hd h_a0)
set_option maxRecDepth 20000 in
set_option maxHeartbeats 4000000 in
theorem J_be_walk_j48_13 {Δ : DT} {Γ : FT} {d : Nat} (hd : 1 ≤ d + 1) {a0 : Nat} {x1 : Int} {x2 : Int} {x3 : Int} {s1 : Int} (h_a0 : is_be a0) {M : MEM} : J (be_walk_j48_13 a0 x1 x2 x3 s1 M) (Sum.elim (HD_be_walk_b13 Δ Γ d a0 x1) (X_be_walk_b13 Δ Γ d a0 x1)) (WAt Δ Γ false m_be_walk (d + 1) 48 [vR (a0), vI (x1), vI (x2), vI (x3), vN] [vI (s1), vR (a0)] (NG, S0, M) 0 0) := by
  unfold be_walk_j48_13
  refine J_b ?_
  refine J.mono (fun k => w_putI rfl (be_S h_a0).1 (be_S h_a0).2 rfl rfl (w_aload_n rfl rfl (w_getI rfl (be_S h_a0).1 (be_S h_a0).2 rfl k))) ?_
  refine J_ite (fun hc6 => ?_) (fun hc6 => ?_)
  · refine J.mono (fun k => s_if_ne_f rfl hc6 (w_aload_n rfl rfl (w_dup rfl (fun _ h => by cases h) (w_getI rfl (be_S h_a0).1 (be_S h_a0).2 rfl (w_iconst rfl (inR_c rfl) (w_iadd rfl k)))))) ?_
    refine J_b ?_
    refine J.mono (fun k => w_putI rfl (be_S h_a0).1 (be_S h_a0).2 rfl rfl (w_aload_n rfl rfl (w_bipush rfl (bip_c rfl) (w_aload_n rfl rfl (w_getI rfl (be_S h_a0).1 (be_S h_a0).2 rfl (w_iconst rfl (inR_c rfl) (w_iadd rfl k))))))) ?_
    refine J.mono (fun k => w_mmin rfl (Nat.le_of_ble_eq_true rfl) k) ?_
    refine J_b ?_
    refine J.mono (fun k => w_putI rfl (be_S h_a0).1 (be_S h_a0).2 rfl rfl (w_iload_n rfl rfl (w_iconst rfl (inR_c rfl) (w_ior rfl (s_istore2 rfl (Nat.le_of_ble_eq_true rfl) k))))) ?_
    exact J.mono (fun k => w_forget (wk_k (wk_k (wk_k (wk_k (wk_d wk_0))))) k) (J_be_walk_j87_13 hd h_a0)
  · refine J.mono (fun k => s_if_ne_t rfl hc6 k) ?_
    exact J.mono (fun k => w_forget (wk_k (wk_k (wk_k (wk_k (wk_d wk_0))))) k) (J_be_walk_j87_13 hd h_a0)
set_option maxRecDepth 20000 in
set_option maxHeartbeats 4000000 in
theorem Jb_be_walk_b13 {Δ : DT} {Γ : FT} {d : Nat} (hd : 1 ≤ d + 1) {a0 : Nat} {x1 : Int} (h_a0 : is_be a0) {x2 : Int} {x3 : Int} {M : MEM} : J (be_walk_b13 a0 x1 x2 x3 M) (Sum.elim (HD_be_walk_b13 Δ Γ d a0 x1) (X_be_walk_b13 Δ Γ d a0 x1)) (WAt Δ Γ false m_be_walk (d + 1) 13 [vR (a0), vI (x1), vI (x2), vI (x3), vN] [] (NG, S0, M) 0 0) := by
  unfold be_walk_b13
  refine J.mono (fun k => w_iload_n rfl rfl (w_iload_n rfl rfl k)) ?_
  refine J_ite (fun hc2 => ?_) (fun hc2 => ?_)
  · refine J.mono (fun k => s_icmp_ge_t rfl hc2 k) ?_
    exact J_some (fun k => w_forget (wk_d (wk_d (wk_k (wk_d (wk_d wk_0))))) k)
  · refine J.mono (fun k => s_icmp_ge_f rfl hc2 (w_iload_n rfl rfl (w_iconst rfl (inR_c rfl) (w_iand rfl k)))) ?_
    refine J_ite (fun hc3 => ?_) (fun hc3 => ?_)
    · refine J.mono (fun k => s_if_ne_f rfl hc3 (w_aload_n rfl rfl (w_aload_n rfl rfl (w_getI rfl (be_S h_a0).1 (be_S h_a0).2 rfl (w_iconst rfl (inR_c rfl) (w_iadd rfl (w_aload_n rfl rfl (w_getI rfl (be_S h_a0).1 (be_S h_a0).2 rfl k)))))))) ?_
      refine J_ite (fun hc4 => ?_) (fun hc4 => ?_)
      · refine J.mono (fun k => s_icmp_ge_t rfl hc4 (w_iconst rfl (inR_c rfl) k)) ?_
        exact J.mono (fun k => w_forget (wk_k (wk_k (wk_k (wk_k (wk_d wk_0))))) k) (J_be_walk_j48_13 hd h_a0)
      · refine J.mono (fun k => s_icmp_ge_f rfl hc4 (w_aload_n rfl rfl (w_getI rfl (be_S h_a0).1 (be_S h_a0).2 rfl (w_iconst rfl (inR_c rfl) (w_iadd rfl (w_goto rfl k)))))) ?_
        exact J.mono (fun k => w_forget (wk_k (wk_k (wk_k (wk_k (wk_d wk_0))))) k) (J_be_walk_j48_13 hd h_a0)
    · refine J.mono (fun k => s_if_ne_t rfl hc3 k) ?_
      exact J_some (fun k => w_forget (wk_d (wk_d (wk_k (wk_d (wk_d wk_0))))) k)
set_option maxRecDepth 20000 in
set_option maxHeartbeats 4000000 in
theorem Jl_be_walk_b13 {Δ : DT} {Γ : FT} {d : Nat} (hd : 1 ≤ d + 1) {a0 : Nat} {x1 : Int} (h_a0 : is_be a0)  : ∀ (n : Nat) (s : Int × Int × MEM), J (iter (fun s => be_walk_b13 a0 x1 s.1 s.2.1 s.2.2) n s) (X_be_walk_b13 Δ Γ d a0 x1) (HD_be_walk_b13 Δ Γ d a0 x1 s) := J_iter (fun s => Jb_be_walk_b13 hd h_a0)
set_option maxRecDepth 20000 in
set_option maxHeartbeats 4000000 in
theorem J_be_walk_j10 {Δ : DT} {Γ : FT} {d : Nat} (hd : 1 ≤ d + 1) {a0 : Nat} {x1 : Int} {s0 : Int} (h_a0 : is_be a0) {M : MEM} : J (be_walk_j10 a0 x1 s0 M) (K_IM Δ Γ m_be_walk) (WAt Δ Γ false m_be_walk (d + 1) 10 [vR (a0), vI (x1), vN, vN, vN] [vI (s0)] (NG, S0, M) 0 0) := by
  unfold be_walk_j10
  refine J.mono (fun k => s_istore2 rfl (Nat.le_of_ble_eq_true rfl) (w_iconst rfl (inR_c rfl) (s_istore3 rfl (Nat.le_of_ble_eq_true rfl) k))) ?_
  refine J.mono (fun k => w_forget (wk_k (wk_k (wk_k (wk_k (wk_d wk_0))))) k) ?_
  refine J_loop (Jl_be_walk_b13 hd h_a0 _ _) (fun w17 => ?_)
  refine J.mono (fun k => w_iload_n rfl rfl k) ?_
  exact J_some (fun k => w_ireturn rfl rfl k)
set_option maxRecDepth 20000 in
set_option maxHeartbeats 4000000 in
theorem J_be_walk {Δ : DT} {Γ : FT} {d : Nat} (hd : 1 ≤ d + 1) {a0 : Nat} {x1 : Int} (h_a0 : is_be a0) {M : MEM} : J (be_walk a0 x1 M) (K_IM Δ Γ m_be_walk) (WAt Δ Γ false m_be_walk (d + 1) 0 [vR (a0), vI (x1), vN, vN, vN] [] (NG, S0, M) 0 0) := by
  unfold be_walk
  refine J.mono (fun k => w_iload_n rfl rfl (w_iconst rfl (inR_c rfl) k)) ?_
  refine J_ite (fun hc1 => ?_) (fun hc1 => ?_)
  · refine J.mono (fun k => s_icmp_ge_t rfl hc1 (w_iconst rfl (inR_c rfl) k)) ?_
    exact J.mono (fun k => w_forget (wk_k (wk_k (wk_d (wk_d (wk_d wk_0))))) k) (J_be_walk_j10 hd h_a0)
  · refine J.mono (fun k => s_icmp_ge_f rfl hc1 (w_iconst rfl (inR_c rfl) (w_goto rfl k))) ?_
    exact J.mono (fun k => w_forget (wk_k (wk_k (wk_d (wk_d (wk_d wk_0))))) k) (J_be_walk_j10 hd h_a0)
set_option maxRecDepth 20000 in
set_option maxHeartbeats 4000000 in
theorem cal_be_walk {Δ : DT} {d : Nat} (hd : 1 ≤ d) {a0 : Nat} {x1 : Int} (h_a0 : is_be a0) {M : MEM} {p : Int × MEM} (h : be_walk a0 x1 M = some p) (ho : okVs [vR a0, vI x1]) (hM : okM M) : Cal Δ false m_be_walk d [vR a0, vI x1] (NG, S0, M) (some p.1) (NG, S0, p.2) 0 0 := by
  obtain ⟨d, rfl⟩ : ∃ e, d = e + 1 := ⟨d - 1, by omega⟩
  exact cal_of g_be_walk p_be_walk (fun v hv => by simp only [List.mem_cons, List.not_mem_nil, or_false] at hv; rcases hv with rfl | rfl <;> first | exact Or.inl ⟨_, rfl⟩ | exact Or.inr ⟨_, rfl⟩) ho hM (Nat.le_of_ble_eq_true rfl) (fun Γ _ k => J_be_walk hd h_a0 _ h k)
abbrev HD_ca_pull_b5 (Δ : DT) (Γ : FT) (d : Nat) (a0 : Nat) (x1 : Int) (x2 : Int) (M : MEM) (s : Int × Int) : Prop := WAt Δ Γ false m_ca_pull d 5 [vR (a0), vI (x1), vI (x2), vI (s.1), vI (s.2)] [] (NG, S0, M) 0 0
abbrev X_ca_pull_b5 (Δ : DT) (Γ : FT) (d : Nat) (a0 : Nat) (x1 : Int) (x2 : Int) (M : MEM) (s : Int × Int) : Prop := WAt Δ Γ false m_ca_pull d 70 [vN, vN, vN, vI (s.1), vN] [] (NG, S0, M) 0 0
set_option maxRecDepth 20000 in
set_option maxHeartbeats 4000000 in
theorem J_ca_pull_j64_5 {Δ : DT} {Γ : FT} {d : Nat} {a0 : Nat} {x1 : Int} {x2 : Int} {x3 : Int} {x4 : Int} (h_a0 : is_ca a0) {M : MEM} : J (ca_pull_j64_5 a0 x1 x2 x3 x4 M) (Sum.elim (HD_ca_pull_b5 Δ Γ d a0 x1 x2 M) (X_ca_pull_b5 Δ Γ d a0 x1 x2 M)) (WAt Δ Γ false m_ca_pull d 64 [vR (a0), vI (x1), vI (x2), vI (x3), vI (x4)] [] (NG, S0, M) 0 0) := by
  unfold ca_pull_j64_5
  refine J.mono (fun k => s_iinc4 rfl (Nat.le_of_ble_eq_true rfl) (w_goto rfl k)) ?_
  exact J_some (fun k => w_forget (wk_k (wk_k (wk_k (wk_k (wk_k wk_0))))) k)
set_option maxRecDepth 20000 in
set_option maxHeartbeats 4000000 in
theorem Jb_ca_pull_b5 {Δ : DT} {Γ : FT} {d : Nat} {a0 : Nat} {x1 : Int} {x2 : Int} (h_a0 : is_ca a0) {x3 : Int} {x4 : Int} {M : MEM} : J (ca_pull_b5 a0 x1 x2 x3 x4 M) (Sum.elim (HD_ca_pull_b5 Δ Γ d a0 x1 x2 M) (X_ca_pull_b5 Δ Γ d a0 x1 x2 M)) (WAt Δ Γ false m_ca_pull d 5 [vR (a0), vI (x1), vI (x2), vI (x3), vI (x4)] [] (NG, S0, M) 0 0) := by
  unfold ca_pull_b5
  refine J.mono (fun k => w_iload rfl rfl (w_aload_n rfl rfl (w_getI rfl (ca_S h_a0).1 (ca_S h_a0).2 rfl k))) ?_
  refine J_ite (fun hc1 => ?_) (fun hc1 => ?_)
  · refine J.mono (fun k => s_icmp_ge_t rfl hc1 k) ?_
    exact J_some (fun k => w_forget (wk_d (wk_d (wk_d (wk_k (wk_d wk_0))))) k)
  · refine J.mono (fun k => s_icmp_ge_f rfl hc1 (w_iload rfl rfl (w_bipush rfl (bip_c rfl) k))) ?_
    refine J_ite (fun hc2 => ?_) (fun hc2 => ?_)
    · refine J.mono (fun k => s_icmp_ge_t rfl hc2 k) ?_
      exact J_some (fun k => w_forget (wk_d (wk_d (wk_d (wk_k (wk_d wk_0))))) k)
    · refine J.mono (fun k => s_icmp_ge_f rfl hc2 (w_aload_n rfl rfl (w_getR (r := (a0 + 1)) rfl (ca_S h_a0).1 (ca_S h_a0).2 rfl (w_iload rfl rfl k)))) ?_
      refine J_chk (fun hi3 => ?_)
      refine J.mono (fun k => w_iald rfl (ca_f0 h_a0).1 (ca_f0 h_a0).2 hi3.1 hi3.2 (w_iload_n rfl rfl k)) ?_
      refine J_ite (fun hc4 => ?_) (fun hc4 => ?_)
      · refine J.mono (fun k => s_icmp_ne_f rfl hc4 (w_aload_n rfl rfl (w_getR (r := (a0 + 2)) rfl (ca_S h_a0).1 (ca_S h_a0).2 rfl (w_iload rfl rfl k)))) ?_
        refine J_chk (fun hi5 => ?_)
        refine J.mono (fun k => w_iald rfl (ca_f1 h_a0).1 (ca_f1 h_a0).2 hi5.1 hi5.2 (w_iload_n rfl rfl k)) ?_
        refine J_ite (fun hc6 => ?_) (fun hc6 => ?_)
        · refine J.mono (fun k => s_icmp_gt_t rfl hc6 k) ?_
          exact J.mono (fun k => w_forget (wk_k (wk_k (wk_k (wk_k (wk_k wk_0))))) k) (J_ca_pull_j64_5 h_a0)
        · refine J.mono (fun k => s_icmp_gt_f rfl hc6 (w_iload_n rfl rfl (w_aload_n rfl rfl (w_getR (r := (a0 + 3)) rfl (ca_S h_a0).1 (ca_S h_a0).2 rfl (w_iload rfl rfl k))))) ?_
          refine J_chk (fun hi7 => ?_)
          refine J.mono (fun k => w_iald rfl (ca_f2 h_a0).1 (ca_f2 h_a0).2 hi7.1 hi7.2 k) ?_
          refine J_ite (fun hc8 => ?_) (fun hc8 => ?_)
          · refine J.mono (fun k => s_icmp_gt_t rfl hc8 k) ?_
            exact J.mono (fun k => w_forget (wk_k (wk_k (wk_k (wk_k (wk_k wk_0))))) k) (J_ca_pull_j64_5 h_a0)
          · refine J.mono (fun k => s_icmp_gt_f rfl hc8 (w_iload_n rfl rfl (w_aload_n rfl rfl (w_getR (r := (a0 + 4)) rfl (ca_S h_a0).1 (ca_S h_a0).2 rfl (w_iload rfl rfl k))))) ?_
            refine J_chk (fun hi9 => ?_)
            refine J.mono (fun k => w_iald rfl (ca_f3 h_a0).1 (ca_f3 h_a0).2 hi9.1 hi9.2 (w_iadd rfl (s_istore3 rfl (Nat.le_of_ble_eq_true rfl) k))) ?_
            exact J.mono (fun k => w_forget (wk_k (wk_k (wk_k (wk_k (wk_k wk_0))))) k) (J_ca_pull_j64_5 h_a0)
      · refine J.mono (fun k => s_icmp_ne_t rfl hc4 k) ?_
        exact J.mono (fun k => w_forget (wk_k (wk_k (wk_k (wk_k (wk_k wk_0))))) k) (J_ca_pull_j64_5 h_a0)
set_option maxRecDepth 20000 in
set_option maxHeartbeats 4000000 in
theorem Jl_ca_pull_b5 {Δ : DT} {Γ : FT} {d : Nat} {a0 : Nat} {x1 : Int} {x2 : Int} (h_a0 : is_ca a0) {M : MEM} : ∀ (n : Nat) (s : Int × Int), J (iter (fun s => ca_pull_b5 a0 x1 x2 s.1 s.2 M) n s) (X_ca_pull_b5 Δ Γ d a0 x1 x2 M) (HD_ca_pull_b5 Δ Γ d a0 x1 x2 M s) := J_iter (fun s => Jb_ca_pull_b5 h_a0)
set_option maxRecDepth 20000 in
set_option maxHeartbeats 4000000 in
theorem J_ca_pull {Δ : DT} {Γ : FT} {d : Nat} {a0 : Nat} {x1 : Int} {x2 : Int} (h_a0 : is_ca a0) {M : MEM} : J (ca_pull a0 x1 x2 M) (K_I Δ Γ m_ca_pull M) (WAt Δ Γ false m_ca_pull d 0 [vR (a0), vI (x1), vI (x2), vN, vN] [] (NG, S0, M) 0 0) := by
  unfold ca_pull
  refine J.mono (fun k => w_iconst rfl (inR_c rfl) (s_istore3 rfl (Nat.le_of_ble_eq_true rfl) (w_iconst rfl (inR_c rfl) (s_istore4 rfl (Nat.le_of_ble_eq_true rfl) k)))) ?_
  refine J.mono (fun k => w_forget (wk_k (wk_k (wk_k (wk_k (wk_k wk_0))))) k) ?_
  refine J_loop (Jl_ca_pull_b5 h_a0 _ _) (fun w10 => ?_)
  refine J.mono (fun k => w_iload_n rfl rfl k) ?_
  exact J_some (fun k => w_ireturn rfl rfl k)
set_option maxRecDepth 20000 in
set_option maxHeartbeats 4000000 in
theorem cal_ca_pull {Δ : DT} {d : Nat} (hd : 0 ≤ d) {a0 : Nat} {x1 : Int} {x2 : Int} (h_a0 : is_ca a0) {M : MEM} {r : Int} (h : ca_pull a0 x1 x2 M = some r) (ho : okVs [vR a0, vI x1, vI x2]) (hM : okM M) : Cal Δ false m_ca_pull d [vR a0, vI x1, vI x2] (NG, S0, M) (some r) (NG, S0, M) 0 0 := by
  exact cal_of g_ca_pull p_ca_pull (fun v hv => by simp only [List.mem_cons, List.not_mem_nil, or_false] at hv; rcases hv with rfl | rfl | rfl <;> first | exact Or.inl ⟨_, rfl⟩ | exact Or.inr ⟨_, rfl⟩) ho hM (Nat.le_of_ble_eq_true rfl) (fun Γ _ k => J_ca_pull h_a0 _ h k)
set_option maxRecDepth 20000 in
set_option maxHeartbeats 4000000 in
theorem J_fl_in {Δ : DT} {Γ : FT} {d : Nat} (hd : 1 ≤ d + 1) {x1 : Int}  {M : MEM} : J (fl_in x1 M) (K_I Δ Γ m_fl_in M) (WAt Δ Γ false m_fl_in (d + 1) 0 [vR (19), vI (x1), vN] [] (NG, S0, M) 0 0) := by
  unfold fl_in
  refine J.mono (fun k => w_aload_n rfl rfl (w_getI rfl (Nat.le_of_ble_eq_true rfl) S_19 rfl (w_iconst rfl (inR_c rfl) k))) ?_
  refine J_ite (fun hc1 => ?_) (fun hc1 => ?_)
  · refine J.mono (fun k => s_icmp_ge_t rfl hc1 (w_iload_n rfl rfl (w_aload_n rfl rfl (w_getI rfl (Nat.le_of_ble_eq_true rfl) S_19 rfl k)))) ?_
    refine J_c (fun r3 e2 => ?_)
    refine J_hyp (fun k => c_si2 rfl rfl (fun ho hM => cal_jm_floorMod (by omega)  e2 ho hM) v_jm_floorMod (Nat.le_of_ble_eq_true rfl) k) (fun hr4 hb5 => ?_)
    refine J.mono (fun k => s_istore2 rfl (Nat.le_of_ble_eq_true rfl) (w_iload_n rfl rfl (w_bipush rfl (bip_c rfl) k))) ?_
    refine J_ite (fun hc6 => ?_) (fun hc6 => ?_)
    · refine J.mono (fun k => s_icmp_ge_t rfl hc6 (w_iconst rfl (inR_c rfl) k)) ?_
      exact J_some (fun k => w_ireturn rfl rfl k)
    · refine J.mono (fun k => s_icmp_ge_f rfl hc6 (w_aload_n rfl rfl (w_getR (r := 20) rfl (Nat.le_of_ble_eq_true rfl) S_19 rfl (w_iload_n rfl rfl k)))) ?_
      refine J_chk (fun hi7 => ?_)
      refine J.mono (fun k => w_iald rfl A_20.1 A_20.2 hi7.1 hi7.2 (w_goto rfl k)) ?_
      exact J_some (fun k => w_ireturn rfl rfl k)
  · refine J.mono (fun k => s_icmp_ge_f rfl hc1 (w_iconst rfl (inR_c rfl) k)) ?_
    exact J_some (fun k => w_ireturn rfl rfl k)
set_option maxRecDepth 20000 in
set_option maxHeartbeats 4000000 in
theorem cal_fl_in {Δ : DT} {d : Nat} (hd : 1 ≤ d) {x1 : Int}  {M : MEM} {r : Int} (h : fl_in x1 M = some r) (ho : okVs [vR 19, vI x1]) (hM : okM M) : Cal Δ false m_fl_in d [vR 19, vI x1] (NG, S0, M) (some r) (NG, S0, M) 0 0 := by
  obtain ⟨d, rfl⟩ : ∃ e, d = e + 1 := ⟨d - 1, by omega⟩
  exact cal_of g_fl_in p_fl_in (fun v hv => by simp only [List.mem_cons, List.not_mem_nil, or_false] at hv; rcases hv with rfl | rfl <;> first | exact Or.inl ⟨_, rfl⟩ | exact Or.inr ⟨_, rfl⟩) ho hM (Nat.le_of_ble_eq_true rfl) (fun Γ _ k => J_fl_in hd  _ h k)
set_option maxRecDepth 20000 in
set_option maxHeartbeats 4000000 in
theorem J_ru_give {Δ : DT} {Γ : FT} {d : Nat} (hd : 1 ≤ d + 1) {a0 : Nat} {a1 : Nat} {x2 : Int} {x3 : Int} {x4 : Int} {x5 : Int} (h_a0 : is_ru a0) (h_a1 : is_be a1) {M : MEM} : J (ru_give a0 a1 x2 x3 x4 x5 M) (K_M Δ Γ m_ru_give) (WAt Δ Γ false m_ru_give (d + 1) 0 [vR (a0), vR (a1), vI (x2), vI (x3), vI (x4), vI (x5)] [] (NG, S0, M) 0 0) := by
  unfold ru_give
  refine J.mono (fun k => w_aload_n rfl rfl (w_getR (r := (a0 + 3)) rfl (ru_S h_a0).1 (ru_S h_a0).2 rfl (w_iconst rfl (inR_c rfl) (w_aload_n rfl rfl (w_getI rfl (be_S h_a1).1 (be_S h_a1).2 rfl k))))) ?_
  refine J_b ?_
  refine J.mono (fun k => w_iast rfl (ru_f2 h_a0).1 (ru_f2 h_a0).2 (by decide) (by decide) rfl (w_aload_n rfl rfl (w_getR (r := (a0 + 3)) rfl (ru_S h_a0).1 (ru_S h_a0).2 rfl (w_iconst rfl (inR_c rfl) (w_aload_n rfl rfl (w_getI rfl (be_S h_a1).1 (be_S h_a1).2 rfl k)))))) ?_
  refine J_b ?_
  refine J.mono (fun k => w_iast rfl (ru_f2 h_a0).1 (ru_f2 h_a0).2 (by decide) (by decide) rfl (w_aload_n rfl rfl (w_getR (r := (a0 + 3)) rfl (ru_S h_a0).1 (ru_S h_a0).2 rfl (w_iconst rfl (inR_c rfl) (w_aload_n rfl rfl (w_aload_n rfl rfl (w_getI rfl (be_S h_a1).1 (be_S h_a1).2 rfl k))))))) ?_
  refine J_c (fun r4 e3 => ?_)
  refine J_hyp (fun k => c_vi1 rfl (fun ho hM => cal_be_thistlesOn (by omega) h_a1 e3 ho hM) v_be_thistlesOn (be_S h_a1).1 (be_S h_a1).2 rfl (Nat.le_of_ble_eq_true rfl) k) (fun hr5 hb6 => ?_)
  refine J_b ?_
  refine J.mono (fun k => w_iast rfl (ru_f2 h_a0).1 (ru_f2 h_a0).2 (by decide) (by decide) rfl (w_aload_n rfl rfl (w_getR (r := (a0 + 3)) rfl (ru_S h_a0).1 (ru_S h_a0).2 rfl (w_iconst rfl (inR_c rfl) (w_iload_n rfl rfl k))))) ?_
  refine J_b ?_
  refine J.mono (fun k => w_iast rfl (ru_f2 h_a0).1 (ru_f2 h_a0).2 (by decide) (by decide) rfl (w_aload_n rfl rfl (w_getR (r := (a0 + 3)) rfl (ru_S h_a0).1 (ru_S h_a0).2 rfl (w_iconst rfl (inR_c rfl) (w_iload_n rfl rfl k))))) ?_
  refine J_b ?_
  refine J.mono (fun k => w_iast rfl (ru_f2 h_a0).1 (ru_f2 h_a0).2 (by decide) (by decide) rfl (w_aload_n rfl rfl (w_getR (r := (a0 + 3)) rfl (ru_S h_a0).1 (ru_S h_a0).2 rfl (w_iconst rfl (inR_c rfl) (w_iload rfl rfl k))))) ?_
  refine J_b ?_
  refine J.mono (fun k => w_iast rfl (ru_f2 h_a0).1 (ru_f2 h_a0).2 (by decide) (by decide) rfl (w_aload_n rfl rfl (w_getR (r := (a0 + 3)) rfl (ru_S h_a0).1 (ru_S h_a0).2 rfl (w_bipush rfl (bip_c rfl) (w_aload_n rfl rfl (w_getI rfl (be_S h_a1).1 (be_S h_a1).2 rfl (w_bipush rfl (bip_c rfl) (w_irem rfl (by decide) k)))))))) ?_
  refine J_b ?_
  refine J.mono (fun k => w_iast rfl (ru_f2 h_a0).1 (ru_f2 h_a0).2 (by decide) (by decide) rfl (w_aload_n rfl rfl (w_getR (r := (a0 + 3)) rfl (ru_S h_a0).1 (ru_S h_a0).2 rfl (w_bipush rfl (bip_c rfl) (w_iload rfl rfl k))))) ?_
  refine J_b ?_
  refine J.mono (fun k => w_iast rfl (ru_f2 h_a0).1 (ru_f2 h_a0).2 (by decide) (by decide) rfl k) ?_
  exact J_some (fun k => w_return rfl rfl k)
set_option maxRecDepth 20000 in
set_option maxHeartbeats 4000000 in
theorem cal_ru_give {Δ : DT} {d : Nat} (hd : 1 ≤ d) {a0 : Nat} {a1 : Nat} {x2 : Int} {x3 : Int} {x4 : Int} {x5 : Int} (h_a0 : is_ru a0) (h_a1 : is_be a1) {M : MEM} {M1 : MEM} (h : ru_give a0 a1 x2 x3 x4 x5 M = some M1) (ho : okVs [vR a0, vR a1, vI x2, vI x3, vI x4, vI x5]) (hM : okM M) : Cal Δ false m_ru_give d [vR a0, vR a1, vI x2, vI x3, vI x4, vI x5] (NG, S0, M) none (NG, S0, M1) 0 0 := by
  obtain ⟨d, rfl⟩ : ∃ e, d = e + 1 := ⟨d - 1, by omega⟩
  exact cal_of g_ru_give p_ru_give (fun v hv => by simp only [List.mem_cons, List.not_mem_nil, or_false] at hv; rcases hv with rfl | rfl | rfl | rfl | rfl | rfl <;> first | exact Or.inl ⟨_, rfl⟩ | exact Or.inr ⟨_, rfl⟩) ho hM (Nat.le_of_ble_eq_true rfl) (fun Γ _ k => J_ru_give hd h_a0 h_a1 _ h k)
set_option maxRecDepth 20000 in
set_option maxHeartbeats 4000000 in
theorem J_ru_combine {Δ : DT} {Γ : FT} {d : Nat} {x0 : Int} {x1 : Int} {x2 : Int}  {M : MEM} : J (ru_combine x0 x1 x2) (K_I Δ Γ m_ru_combine M) (WAt Δ Γ false m_ru_combine d 0 [vI (x0), vI (x1), vI (x2)] [] (NG, S0, M) 0 0) := by
  unfold ru_combine
  refine J.mono (fun k => w_iload_n rfl rfl k) ?_
  refine J_ite (fun hk1 => ?_) (fun hk1 => ?_)
  · refine J.mono (fun k => w_lookup (off := 67) (tgt := 68) rfl (by decide) (by rw [hk1] <;> rfl) (by decide) (w_iload_n rfl rfl (w_iload_n rfl rfl (w_imul rfl k)))) ?_
    exact J_some (fun k => w_ireturn rfl rfl k)
  · refine J_ite (fun hk2 => ?_) (fun hk2 => ?_)
    · refine J.mono (fun k => w_lookup (off := 59) (tgt := 60) rfl (by decide) (by rw [hk2] <;> rfl) (by decide) (w_iload_n rfl rfl (w_iload_n rfl rfl (w_iadd rfl k)))) ?_
      exact J_some (fun k => w_ireturn rfl rfl k)
    · refine J_ite (fun hk3 => ?_) (fun hk3 => ?_)
      · refine J.mono (fun k => w_lookup (off := 63) (tgt := 64) rfl (by decide) (by rw [hk3] <;> rfl) (by decide) (w_iload_n rfl rfl (w_iload_n rfl rfl (w_isub rfl k)))) ?_
        exact J_some (fun k => w_ireturn rfl rfl k)
      · refine J_ite (fun hk4 => ?_) (fun hk4 => ?_)
        · refine J.mono (fun k => w_lookup (off := 71) (tgt := 72) rfl (by decide) (by rw [hk4] <;> rfl) (by decide) (w_iload_n rfl rfl k)) ?_
          refine J_ite (fun hc5 => ?_) (fun hc5 => ?_)
          · refine J.mono (fun k => s_if_ne_f rfl hc5 (w_iconst rfl (inR_c rfl) (w_goto rfl k))) ?_
            exact J_some (fun k => w_ireturn rfl rfl k)
          · refine J.mono (fun k => s_if_ne_t rfl hc5 (w_iload_n rfl rfl (w_iload_n rfl rfl k))) ?_
            refine J_chn (fun hz6 => ?_)
            refine J.mono (fun k => w_idiv rfl hz6 k) ?_
            exact J_some (fun k => w_ireturn rfl rfl k)
        · refine J_ite (fun hk7 => ?_) (fun hk7 => ?_)
          · refine J.mono (fun k => w_lookup (off := 83) (tgt := 84) rfl (by decide) (by rw [hk7] <;> rfl) (by decide) (w_iload_n rfl rfl (w_iload_n rfl rfl k))) ?_
            refine J_ite (fun hc8 => ?_) (fun hc8 => ?_)
            · refine J.mono (fun k => s_icmp_ge_t rfl hc8 (w_iconst rfl (inR_c rfl) k)) ?_
              exact J_some (fun k => w_ireturn rfl rfl k)
            · refine J.mono (fun k => s_icmp_ge_f rfl hc8 (w_iconst rfl (inR_c rfl) (w_goto rfl k))) ?_
              exact J_some (fun k => w_ireturn rfl rfl k)
          · refine J_ite (fun hk9 => ?_) (fun hk9 => ?_)
            · refine J.mono (fun k => w_lookup (off := 94) (tgt := 95) rfl (by decide) (by rw [hk9] <;> rfl) (by decide) (w_iload_n rfl rfl (w_iload_n rfl rfl k))) ?_
              refine J_ite (fun hc10 => ?_) (fun hc10 => ?_)
              · refine J.mono (fun k => s_icmp_le_t rfl hc10 (w_iconst rfl (inR_c rfl) k)) ?_
                exact J_some (fun k => w_ireturn rfl rfl k)
              · refine J.mono (fun k => s_icmp_le_f rfl hc10 (w_iconst rfl (inR_c rfl) (w_goto rfl k))) ?_
                exact J_some (fun k => w_ireturn rfl rfl k)
            · refine J.mono (fun k => w_lookDef (keys := [(42), (43), (45), (47), (60), (62)]) (tgt := 106) rfl (by decide) (by simp only [nokey]; exact ⟨hk1, hk2, hk3, hk4, hk7, hk9, trivial⟩) (by decide) (by decide) (w_iload_n rfl rfl (w_iload_n rfl rfl k))) ?_
              refine J_ite (fun hc11 => ?_) (fun hc11 => ?_)
              · refine J.mono (fun k => s_icmp_ne_f rfl hc11 (w_iconst rfl (inR_c rfl) (w_goto rfl k))) ?_
                exact J_some (fun k => w_ireturn rfl rfl k)
              · refine J.mono (fun k => s_icmp_ne_t rfl hc11 (w_iconst rfl (inR_c rfl) k)) ?_
                exact J_some (fun k => w_ireturn rfl rfl k)
set_option maxRecDepth 20000 in
set_option maxHeartbeats 4000000 in
theorem cal_ru_combine {Δ : DT} {d : Nat} (hd : 0 ≤ d) {x0 : Int} {x1 : Int} {x2 : Int}  {M : MEM} {r : Int} (h : ru_combine x0 x1 x2 = some r) (ho : okVs [vI x0, vI x1, vI x2]) (hM : okM M) : Cal Δ false m_ru_combine d [vI x0, vI x1, vI x2] (NG, S0, M) (some r) (NG, S0, M) 0 0 := by
  exact cal_of g_ru_combine p_ru_combine (fun v hv => by simp only [List.mem_cons, List.not_mem_nil, or_false] at hv; rcases hv with rfl | rfl | rfl <;> first | exact Or.inl ⟨_, rfl⟩ | exact Or.inr ⟨_, rfl⟩) ho hM (Nat.le_of_ble_eq_true rfl) (fun Γ _ k => J_ru_combine  _ h k)
abbrev HD_ru_pace_b16 (Δ : DT) (Γ : FT) (d : Nat) (a0 : Nat) (s : Int × MEM) : Prop := WAt Δ Γ false m_ru_pace (d + 1) 16 [vR (a0), vI (s.1), vN, vN] [] (NG, S0, s.2) 0 0
abbrev X_ru_pace_b16 (Δ : DT) (Γ : FT) (d : Nat) (a0 : Nat) (s : Int × MEM) : Prop := WAt Δ Γ false m_ru_pace (d + 1) 132 [vR (a0), vN, vN, vN] [] (NG, S0, s.2) 0 0
set_option maxRecDepth 20000 in
set_option maxHeartbeats 4000000 in
theorem J_ru_pace_j126_16 {Δ : DT} {Γ : FT} {d : Nat} (hd : 1 ≤ d + 1) {a0 : Nat} {x1 : Int} (h_a0 : is_ru a0) {M : MEM} : J (ru_pace_j126_16 a0 x1 M) (Sum.elim (HD_ru_pace_b16 Δ Γ d a0) (X_ru_pace_b16 Δ Γ d a0)) (WAt Δ Γ false m_ru_pace (d + 1) 126 [vR (a0), vI (x1), vN, vN] [] (NG, S0, M) 0 0) := by
  unfold ru_pace_j126_16
  refine J.mono (fun k => s_iinc1 rfl (Nat.le_of_ble_eq_true rfl) (w_goto rfl k)) ?_
  exact J_some (fun k => w_forget (wk_k (wk_k (wk_d (wk_d wk_0)))) k)
set_option maxRecDepth 20000 in
set_option maxHeartbeats 4000000 in
theorem Jb_ru_pace_b16 {Δ : DT} {Γ : FT} {d : Nat} (hd : 1 ≤ d + 1) {a0 : Nat} (h_a0 : is_ru a0) {x1 : Int} {M : MEM} : J (ru_pace_b16 a0 x1 M) (Sum.elim (HD_ru_pace_b16 Δ Γ d a0) (X_ru_pace_b16 Δ Γ d a0)) (WAt Δ Γ false m_ru_pace (d + 1) 16 [vR (a0), vI (x1), vN, vN] [] (NG, S0, M) 0 0) := by
  unfold ru_pace_b16
  refine J.mono (fun k => w_iload_n rfl rfl (w_aload_n rfl rfl (w_getI rfl (ru_S h_a0).1 (ru_S h_a0).2 rfl k))) ?_
  refine J_ite (fun hc3 => ?_) (fun hc3 => ?_)
  · refine J.mono (fun k => s_icmp_ge_t rfl hc3 k) ?_
    exact J_some (fun k => w_forget (wk_k (wk_d (wk_d (wk_d wk_0)))) k)
  · refine J.mono (fun k => s_icmp_ge_f rfl hc3 (w_iload_n rfl rfl (w_aload_n rfl rfl (w_getR (r := (a0 + 1)) rfl (ru_S h_a0).1 (ru_S h_a0).2 rfl (w_alen rfl (ru_f0 h_a0).1 (Nat.le_of_ble_eq_true rfl) (ru_f0 h_a0).2 (Nat.le_of_ble_eq_true rfl) k))))) ?_
    refine J_ite (fun hc4 => ?_) (fun hc4 => ?_)
    · refine J.mono (fun k => s_icmp_ge_t rfl hc4 k) ?_
      exact J_some (fun k => w_forget (wk_k (wk_d (wk_d (wk_d wk_0)))) k)
    · refine J.mono (fun k => s_icmp_ge_f rfl hc4 (w_aload_n rfl rfl (w_getR (r := (a0 + 1)) rfl (ru_S h_a0).1 (ru_S h_a0).2 rfl (w_iload_n rfl rfl k)))) ?_
      refine J_chk (fun hi5 => ?_)
      refine J.mono (fun k => w_iald rfl (ru_f0 h_a0).1 (ru_f0 h_a0).2 hi5.1 hi5.2 (s_istore2 rfl (Nat.le_of_ble_eq_true rfl) (w_iload_n rfl rfl (w_sipush rfl (sip_c rfl) k)))) ?_
      refine J_ite (fun hc6 => ?_) (fun hc6 => ?_)
      · refine J.mono (fun k => s_icmp_ge_t rfl hc6 (w_iload_n rfl rfl (w_sipush rfl (sip_c rfl) (w_aload_n rfl rfl (w_getR (r := (a0 + 3)) rfl (ru_S h_a0).1 (ru_S h_a0).2 rfl (w_alen rfl (ru_f2 h_a0).1 (Nat.le_of_ble_eq_true rfl) (ru_f2 h_a0).2 (Nat.le_of_ble_eq_true rfl) (w_iadd rfl k))))))) ?_
        refine J_ite (fun hc7 => ?_) (fun hc7 => ?_)
        · refine J.mono (fun k => s_icmp_ge_t rfl hc7 (w_iload_n rfl rfl (w_sipush rfl (sip_c rfl) k))) ?_
          refine J_ite (fun hc8 => ?_) (fun hc8 => ?_)
          · refine J.mono (fun k => s_icmp_ne_f rfl hc8 (w_aload_n rfl rfl (w_aload_n rfl rfl k))) ?_
            refine J_c (fun p10 e9 => ?_)
            refine J_hyp (fun k => c_vi0 rfl (fun ho hM => cal_ru_pop (by omega) h_a0 e9 ho hM) v_ru_pop (ru_S h_a0).1 (ru_S h_a0).2 rfl (Nat.le_of_ble_eq_true rfl) k) (fun hr11 hb12 => ?_)
            refine J.mono (fun k => w_ineg rfl k) ?_
            refine J_c (fun M14 e13 => ?_)
            refine J.mono (fun k => c_vv1 rfl (fun ho hM => cal_ru_push (by omega) h_a0 e13 ho hM) v_ru_push (ru_S h_a0).1 (ru_S h_a0).2 rfl (Nat.le_of_ble_eq_true rfl) (w_goto rfl k)) ?_
            exact J.mono (fun k => w_forget (wk_k (wk_k (wk_d (wk_d wk_0)))) k) (J_ru_pace_j126_16 hd h_a0)
          · refine J.mono (fun k => s_icmp_ne_t rfl hc8 (w_aload_n rfl rfl k)) ?_
            refine J_c (fun p16 e15 => ?_)
            refine J_hyp (fun k => c_vi0 rfl (fun ho hM => cal_ru_pop (by omega) h_a0 e15 ho hM) v_ru_pop (ru_S h_a0).1 (ru_S h_a0).2 rfl (Nat.le_of_ble_eq_true rfl) k) (fun hr17 hb18 => ?_)
            refine J.mono (fun k => s_istore3 rfl (Nat.le_of_ble_eq_true rfl) (w_aload_n rfl rfl (w_iload_n rfl rfl (w_sipush rfl (sip_c rfl) (w_isub rfl (w_aload_n rfl rfl k)))))) ?_
            refine J_c (fun p20 e19 => ?_)
            refine J_hyp (fun k => c_vi0 rfl (fun ho hM => cal_ru_pop (by omega) h_a0 e19 ho hM) v_ru_pop (ru_S h_a0).1 (ru_S h_a0).2 rfl (Nat.le_of_ble_eq_true rfl) k) (fun hr21 hb22 => ?_)
            refine J.mono (fun k => w_iload_n rfl rfl k) ?_
            refine J_c (fun r24 e23 => ?_)
            refine J_hyp (fun k => c_si3 rfl rfl (fun ho hM => cal_ru_combine (by omega)  e23 ho hM) v_ru_combine (Nat.le_of_ble_eq_true rfl) k) (fun hr25 hb26 => ?_)
            refine J_c (fun M28 e27 => ?_)
            refine J.mono (fun k => c_vv1 rfl (fun ho hM => cal_ru_push (by omega) h_a0 e27 ho hM) v_ru_push (ru_S h_a0).1 (ru_S h_a0).2 rfl (Nat.le_of_ble_eq_true rfl) k) ?_
            exact J.mono (fun k => w_forget (wk_k (wk_k (wk_d (wk_d wk_0)))) k) (J_ru_pace_j126_16 hd h_a0)
        · refine J.mono (fun k => s_icmp_ge_f rfl hc7 (w_aload_n rfl rfl (w_aload_n rfl rfl (w_getR (r := (a0 + 3)) rfl (ru_S h_a0).1 (ru_S h_a0).2 rfl (w_iload_n rfl rfl (w_sipush rfl (sip_c rfl) (w_isub rfl k))))))) ?_
          refine J_chk (fun hi29 => ?_)
          refine J.mono (fun k => w_iald rfl (ru_f2 h_a0).1 (ru_f2 h_a0).2 hi29.1 hi29.2 k) ?_
          refine J_c (fun M31 e30 => ?_)
          refine J.mono (fun k => c_vv1 rfl (fun ho hM => cal_ru_push (by omega) h_a0 e30 ho hM) v_ru_push (ru_S h_a0).1 (ru_S h_a0).2 rfl (Nat.le_of_ble_eq_true rfl) (w_goto rfl k)) ?_
          exact J.mono (fun k => w_forget (wk_k (wk_k (wk_d (wk_d wk_0)))) k) (J_ru_pace_j126_16 hd h_a0)
      · refine J.mono (fun k => s_icmp_ge_f rfl hc6 (w_aload_n rfl rfl (w_iload_n rfl rfl k))) ?_
        refine J_c (fun M33 e32 => ?_)
        refine J.mono (fun k => c_vv1 rfl (fun ho hM => cal_ru_push (by omega) h_a0 e32 ho hM) v_ru_push (ru_S h_a0).1 (ru_S h_a0).2 rfl (Nat.le_of_ble_eq_true rfl) (w_goto rfl k)) ?_
        exact J.mono (fun k => w_forget (wk_k (wk_k (wk_d (wk_d wk_0)))) k) (J_ru_pace_j126_16 hd h_a0)
set_option maxRecDepth 20000 in
set_option maxHeartbeats 4000000 in
theorem Jl_ru_pace_b16 {Δ : DT} {Γ : FT} {d : Nat} (hd : 1 ≤ d + 1) {a0 : Nat} (h_a0 : is_ru a0)  : ∀ (n : Nat) (s : Int × MEM), J (iter (fun s => ru_pace_b16 a0 s.1 s.2) n s) (X_ru_pace_b16 Δ Γ d a0) (HD_ru_pace_b16 Δ Γ d a0 s) := J_iter (fun s => Jb_ru_pace_b16 hd h_a0)
set_option maxRecDepth 20000 in
set_option maxHeartbeats 4000000 in
theorem J_ru_pace_j132 {Δ : DT} {Γ : FT} {d : Nat} (hd : 1 ≤ d + 1) {a0 : Nat} (h_a0 : is_ru a0) {M : MEM} : J (ru_pace_j132 a0 M) (K_IM Δ Γ m_ru_pace) (WAt Δ Γ false m_ru_pace (d + 1) 132 [vR (a0), vN, vN, vN] [] (NG, S0, M) 0 0) := by
  unfold ru_pace_j132
  refine J.mono (fun k => w_iconst rfl (inR_c rfl) (w_iconst rfl (inR_c rfl) (w_aload_n rfl rfl k))) ?_
  refine J_c (fun p36 e35 => ?_)
  refine J_hyp (fun k => c_vi0 rfl (fun ho hM => cal_ru_pop (by omega) h_a0 e35 ho hM) v_ru_pop (ru_S h_a0).1 (ru_S h_a0).2 rfl (Nat.le_of_ble_eq_true rfl) k) (fun hr37 hb38 => ?_)
  refine J.mono (fun k => w_mmin rfl (Nat.le_of_ble_eq_true rfl) k) ?_
  refine J.mono (fun k => w_mmax rfl (Nat.le_of_ble_eq_true rfl) k) ?_
  exact J_some (fun k => w_ireturn rfl rfl k)
set_option maxRecDepth 20000 in
set_option maxHeartbeats 4000000 in
theorem J_ru_pace {Δ : DT} {Γ : FT} {d : Nat} (hd : 1 ≤ d + 1) {a0 : Nat} (h_a0 : is_ru a0) {M : MEM} : J (ru_pace a0 M) (K_IM Δ Γ m_ru_pace) (WAt Δ Γ false m_ru_pace (d + 1) 0 [vR (a0), vN, vN, vN] [] (NG, S0, M) 0 0) := by
  unfold ru_pace
  refine J.mono (fun k => w_aload_n rfl rfl (w_getI rfl (ru_S h_a0).1 (ru_S h_a0).2 rfl k)) ?_
  refine J_ite (fun hc1 => ?_) (fun hc1 => ?_)
  · refine J.mono (fun k => s_if_ne_f rfl hc1 (w_iconst rfl (inR_c rfl) k)) ?_
    exact J_some (fun k => w_ireturn rfl rfl k)
  · refine J.mono (fun k => s_if_ne_t rfl hc1 (w_aload_n rfl rfl (w_iconst rfl (inR_c rfl) k))) ?_
    refine J_b ?_
    refine J.mono (fun k => w_putI rfl (ru_S h_a0).1 (ru_S h_a0).2 rfl rfl (w_iconst rfl (inR_c rfl) (s_istore1 rfl (Nat.le_of_ble_eq_true rfl) k))) ?_
    refine J.mono (fun k => w_forget (wk_k (wk_k (wk_d (wk_d wk_0)))) k) ?_
    refine J_loop (Jl_ru_pace_b16 hd h_a0 _ _) (fun w34 => ?_)
    exact J.mono (fun k => w_forget (wk_k (wk_d (wk_d (wk_d wk_0)))) k) (J_ru_pace_j132 hd h_a0)
set_option maxRecDepth 20000 in
set_option maxHeartbeats 4000000 in
theorem cal_ru_pace {Δ : DT} {d : Nat} (hd : 1 ≤ d) {a0 : Nat} (h_a0 : is_ru a0) {M : MEM} {p : Int × MEM} (h : ru_pace a0 M = some p) (ho : okVs [vR a0]) (hM : okM M) : Cal Δ false m_ru_pace d [vR a0] (NG, S0, M) (some p.1) (NG, S0, p.2) 0 0 := by
  obtain ⟨d, rfl⟩ : ∃ e, d = e + 1 := ⟨d - 1, by omega⟩
  exact cal_of g_ru_pace p_ru_pace (fun v hv => by simp only [List.mem_cons, List.not_mem_nil, or_false] at hv; rcases hv with rfl <;> first | exact Or.inl ⟨_, rfl⟩ | exact Or.inr ⟨_, rfl⟩) ho hM (Nat.le_of_ble_eq_true rfl) (fun Γ _ k => J_ru_pace hd h_a0 _ h k)
set_option maxRecDepth 20000 in
set_option maxHeartbeats 4000000 in
theorem J_dh_paceNow {Δ : DT} {Γ : FT} {d : Nat} (hd : 2 ≤ d + 1) {a1 : Nat} {x2 : Int} (h_a1 : is_be a1) {M : MEM} : J (dh_paceNow a1 x2 M) (K_IM Δ Γ m_dh_paceNow) (WAt Δ Γ false m_dh_paceNow (d + 1) 0 [vR (0), vR (a1), vI (x2), vN] [] (NG, S0, M) 0 0) := by
  unfold dh_paceNow
  refine J.mono (fun k => w_aload_n rfl rfl (w_getR (r := 3) rfl (Nat.le_of_ble_eq_true rfl) S_0 rfl (w_getI rfl (sc_S is_sc_3).1 (sc_S is_sc_3).2 rfl (s_istore3 rfl (Nat.le_of_ble_eq_true rfl) (w_aload_n rfl rfl (w_getR (r := 21) rfl (Nat.le_of_ble_eq_true rfl) S_0 rfl (w_aload_n rfl rfl (w_aload_n rfl rfl (w_getR (r := 19) rfl (Nat.le_of_ble_eq_true rfl) S_0 rfl (w_iload_n rfl rfl k)))))))))) ?_
  refine J_c (fun r2 e1 => ?_)
  refine J_hyp (fun k => c_vi1 rfl (fun ho hM => cal_fl_in (by omega)  e1 ho hM) v_fl_in (Nat.le_of_ble_eq_true rfl) S_19 rfl (Nat.le_of_ble_eq_true rfl) k) (fun hr3 hb4 => ?_)
  refine J.mono (fun k => w_aload_n rfl rfl (w_getR (r := 3) rfl (Nat.le_of_ble_eq_true rfl) S_0 rfl (w_getR (r := 5) rfl (sc_S is_sc_3).1 (sc_S is_sc_3).2 rfl (w_iload_n rfl rfl (w_iload_n rfl rfl k))))) ?_
  refine J_c (fun r6 e5 => ?_)
  refine J_hyp (fun k => c_vi2 rfl (fun ho hM => cal_ca_pull (by omega) is_ca_5 e5 ho hM) v_ca_pull (ca_S is_ca_5).1 (ca_S is_ca_5).2 rfl (Nat.le_of_ble_eq_true rfl) k) (fun hr7 hb8 => ?_)
  refine J.mono (fun k => w_iload_n rfl rfl (w_iload_n rfl rfl k)) ?_
  refine J_c (fun M10 e9 => ?_)
  refine J.mono (fun k => c_vv5 rfl (fun ho hM => cal_ru_give (by omega) is_ru_21 h_a1 e9 ho hM) v_ru_give (ru_S is_ru_21).1 (ru_S is_ru_21).2 rfl (Nat.le_of_ble_eq_true rfl) (w_aload_n rfl rfl (w_getR (r := 21) rfl (Nat.le_of_ble_eq_true rfl) S_0 rfl k))) ?_
  refine J_c (fun p12 e11 => ?_)
  refine J_hyp (fun k => c_vi0 rfl (fun ho hM => cal_ru_pace (by omega) is_ru_21 e11 ho hM) v_ru_pace (ru_S is_ru_21).1 (ru_S is_ru_21).2 rfl (Nat.le_of_ble_eq_true rfl) k) (fun hr13 hb14 => ?_)
  exact J_some (fun k => w_ireturn rfl rfl k)
set_option maxRecDepth 20000 in
set_option maxHeartbeats 4000000 in
theorem cal_dh_paceNow {Δ : DT} {d : Nat} (hd : 2 ≤ d) {a1 : Nat} {x2 : Int} (h_a1 : is_be a1) {M : MEM} {p : Int × MEM} (h : dh_paceNow a1 x2 M = some p) (ho : okVs [vR 0, vR a1, vI x2]) (hM : okM M) : Cal Δ false m_dh_paceNow d [vR 0, vR a1, vI x2] (NG, S0, M) (some p.1) (NG, S0, p.2) 0 0 := by
  obtain ⟨d, rfl⟩ : ∃ e, d = e + 1 := ⟨d - 1, by omega⟩
  exact cal_of g_dh_paceNow p_dh_paceNow (fun v hv => by simp only [List.mem_cons, List.not_mem_nil, or_false] at hv; rcases hv with rfl | rfl | rfl <;> first | exact Or.inl ⟨_, rfl⟩ | exact Or.inr ⟨_, rfl⟩) ho hM (Nat.le_of_ble_eq_true rfl) (fun Γ _ k => J_dh_paceNow hd h_a1 _ h k)
abbrev HD_dh_pass_b4 (Δ : DT) (Γ : FT) (d : Nat)  (s : Int × Int × MEM) : Prop := WAt Δ Γ false m_dh_pass (d + 1) 4 [vR (0), vI (s.1), vI (s.2.1), vN, vN] [] (NG, S0, s.2.2) 0 0
abbrev X_dh_pass_b4 (Δ : DT) (Γ : FT) (d : Nat)  (s : Int × Int × MEM) : Prop := WAt Δ Γ false m_dh_pass (d + 1) 94 [vR (0), vI (s.1), vN, vN, vN] [] (NG, S0, s.2.2) 0 0
set_option maxRecDepth 20000 in
set_option maxHeartbeats 4000000 in
theorem J_dh_pass_j88_4 {Δ : DT} {Γ : FT} {d : Nat} (hd : 3 ≤ d + 1) {x1 : Int} {x2 : Int}  {M : MEM} : J (dh_pass_j88_4 x1 x2 M) (Sum.elim (HD_dh_pass_b4 Δ Γ d ) (X_dh_pass_b4 Δ Γ d )) (WAt Δ Γ false m_dh_pass (d + 1) 88 [vR (0), vI (x1), vI (x2), vN, vN] [] (NG, S0, M) 0 0) := by
  unfold dh_pass_j88_4
  refine J.mono (fun k => s_iinc2 rfl (Nat.le_of_ble_eq_true rfl) (w_goto rfl k)) ?_
  exact J_some (fun k => w_forget (wk_k (wk_k (wk_k (wk_d (wk_d wk_0))))) k)
set_option maxRecDepth 20000 in
set_option maxHeartbeats 4000000 in
theorem J_dh_pass_j73_4 {Δ : DT} {Γ : FT} {d : Nat} (hd : 3 ≤ d + 1) {x1 : Int} {x2 : Int} {x4 : Int}  {M : MEM} : J (dh_pass_j73_4 x1 x2 x4 M) (Sum.elim (HD_dh_pass_b4 Δ Γ d ) (X_dh_pass_b4 Δ Γ d )) (WAt Δ Γ false m_dh_pass (d + 1) 73 [vR (0), vI (x1), vI (x2), vN, vI (x4)] [] (NG, S0, M) 0 0) := by
  unfold dh_pass_j73_4
  refine J.mono (fun k => w_iload rfl rfl (w_iconst rfl (inR_c rfl) (w_iand rfl k))) ?_
  refine J_ite (fun hc14 => ?_) (fun hc14 => ?_)
  · refine J.mono (fun k => s_if_eq_t rfl hc14 k) ?_
    exact J.mono (fun k => w_forget (wk_k (wk_k (wk_k (wk_d (wk_d wk_0))))) k) (J_dh_pass_j88_4 hd )
  · refine J.mono (fun k => s_if_eq_f rfl hc14 (w_iload_n rfl rfl (w_iconst rfl (inR_c rfl) (w_iload_n rfl rfl (w_iconst rfl (inR_c rfl) (w_iadd rfl (w_ishl rfl (w_ior rfl (s_istore1 rfl (Nat.le_of_ble_eq_true rfl) k))))))))) ?_
    exact J.mono (fun k => w_forget (wk_k (wk_k (wk_k (wk_d (wk_d wk_0))))) k) (J_dh_pass_j88_4 hd )
set_option maxRecDepth 20000 in
set_option maxHeartbeats 4000000 in
theorem J_dh_pass_j60_4 {Δ : DT} {Γ : FT} {d : Nat} (hd : 3 ≤ d + 1) {x1 : Int} {x2 : Int} {x4 : Int}  {M : MEM} : J (dh_pass_j60_4 x1 x2 x4 M) (Sum.elim (HD_dh_pass_b4 Δ Γ d ) (X_dh_pass_b4 Δ Γ d )) (WAt Δ Γ false m_dh_pass (d + 1) 60 [vR (0), vI (x1), vI (x2), vN, vI (x4)] [] (NG, S0, M) 0 0) := by
  unfold dh_pass_j60_4
  refine J.mono (fun k => w_iload rfl rfl (w_iconst rfl (inR_c rfl) (w_iand rfl k))) ?_
  refine J_ite (fun hc13 => ?_) (fun hc13 => ?_)
  · refine J.mono (fun k => s_if_eq_t rfl hc13 k) ?_
    exact J.mono (fun k => w_forget (wk_k (wk_k (wk_k (wk_d (wk_k wk_0))))) k) (J_dh_pass_j73_4 hd )
  · refine J.mono (fun k => s_if_eq_f rfl hc13 (w_iload_n rfl rfl (w_iconst rfl (inR_c rfl) (w_iload_n rfl rfl (w_ishl rfl (w_ior rfl (s_istore1 rfl (Nat.le_of_ble_eq_true rfl) k))))))) ?_
    exact J.mono (fun k => w_forget (wk_k (wk_k (wk_k (wk_d (wk_k wk_0))))) k) (J_dh_pass_j73_4 hd )
set_option maxRecDepth 20000 in
set_option maxHeartbeats 4000000 in
theorem Jb_dh_pass_b4 {Δ : DT} {Γ : FT} {d : Nat} (hd : 3 ≤ d + 1)   {x1 : Int} {x2 : Int} {M : MEM} : J (dh_pass_b4  x1 x2 M) (Sum.elim (HD_dh_pass_b4 Δ Γ d ) (X_dh_pass_b4 Δ Γ d )) (WAt Δ Γ false m_dh_pass (d + 1) 4 [vR (0), vI (x1), vI (x2), vN, vN] [] (NG, S0, M) 0 0) := by
  unfold dh_pass_b4
  refine J.mono (fun k => w_iload_n rfl rfl (w_aload_n rfl rfl (w_getR (r := 3) rfl (Nat.le_of_ble_eq_true rfl) S_0 rfl (w_getI rfl (sc_S is_sc_3).1 (sc_S is_sc_3).2 rfl k)))) ?_
  refine J_ite (fun hc1 => ?_) (fun hc1 => ?_)
  · refine J.mono (fun k => s_icmp_ge_t rfl hc1 k) ?_
    exact J_some (fun k => w_forget (wk_k (wk_k (wk_d (wk_d (wk_d wk_0))))) k)
  · refine J.mono (fun k => s_icmp_ge_f rfl hc1 (w_iload_n rfl rfl (w_iconst rfl (inR_c rfl) k))) ?_
    refine J_ite (fun hc2 => ?_) (fun hc2 => ?_)
    · refine J.mono (fun k => s_icmp_ge_t rfl hc2 k) ?_
      exact J_some (fun k => w_forget (wk_k (wk_k (wk_d (wk_d (wk_d wk_0))))) k)
    · refine J.mono (fun k => s_icmp_ge_f rfl hc2 (w_aload_n rfl rfl (w_getR (r := 3) rfl (Nat.le_of_ble_eq_true rfl) S_0 rfl (w_getR (r := 4) rfl (sc_S is_sc_3).1 (sc_S is_sc_3).2 rfl (w_iload_n rfl rfl k))))) ?_
      refine J_chk (fun hi3 => ?_)
      refine J.mono (fun k => w_aald rfl (scb_S is_sc_3).1 (Or.inl rfl) (scb_S is_sc_3).2 hi3.1 (scb_get hi3.1 hi3.2) (s_astore3 rfl (Nat.le_of_ble_eq_true rfl) (w_aload_n rfl rfl (w_aload_n rfl rfl (w_aload_n rfl rfl (w_iload_n rfl rfl k)))))) ?_
      refine J_c (fun p5 e4 => ?_)
      refine J_hyp (fun k => c_vi2 rfl (fun ho hM => cal_dh_paceNow (by omega) (scb_is is_sc_3 hi3.1 hi3.2) e4 ho hM) v_dh_paceNow (Nat.le_of_ble_eq_true rfl) S_0 rfl (Nat.le_of_ble_eq_true rfl) k) (fun hr6 hb7 => ?_)
      refine J_c (fun p9 e8 => ?_)
      refine J_hyp (fun k => c_vi1 rfl (fun ho hM => cal_be_walk (by omega) (scb_is is_sc_3 hi3.1 hi3.2) e8 ho hM) v_be_walk (be_S (scb_is is_sc_3 hi3.1 hi3.2)).1 (be_S (scb_is is_sc_3 hi3.1 hi3.2)).2 rfl (Nat.le_of_ble_eq_true rfl) k) (fun hr10 hb11 => ?_)
      refine J.mono (fun k => s_istore4 rfl (Nat.le_of_ble_eq_true rfl) (w_iload rfl rfl (w_iconst rfl (inR_c rfl) (w_iand rfl k)))) ?_
      refine J_ite (fun hc12 => ?_) (fun hc12 => ?_)
      · refine J.mono (fun k => s_if_eq_t rfl hc12 k) ?_
        exact J.mono (fun k => w_forget (wk_k (wk_k (wk_k (wk_d (wk_k wk_0))))) k) (J_dh_pass_j60_4 hd )
      · refine J.mono (fun k => s_if_eq_f rfl hc12 (w_aload_n rfl rfl (w_aload_n rfl rfl (w_getR (r := 3) rfl (Nat.le_of_ble_eq_true rfl) S_0 rfl (w_getI rfl (sc_S is_sc_3).1 (sc_S is_sc_3).2 rfl k))))) ?_
        refine J_c (fun M16 e15 => ?_)
        refine J.mono (fun k => c_vv1 rfl (fun ho hM => cal_be_enter (by omega) (scb_is is_sc_3 hi3.1 hi3.2) e15 ho hM) v_be_enter (be_S (scb_is is_sc_3 hi3.1 hi3.2)).1 (be_S (scb_is is_sc_3 hi3.1 hi3.2)).2 rfl (Nat.le_of_ble_eq_true rfl) k) ?_
        exact J.mono (fun k => w_forget (wk_k (wk_k (wk_k (wk_d (wk_k wk_0))))) k) (J_dh_pass_j60_4 hd )
set_option maxRecDepth 20000 in
set_option maxHeartbeats 4000000 in
theorem Jl_dh_pass_b4 {Δ : DT} {Γ : FT} {d : Nat} (hd : 3 ≤ d + 1)    : ∀ (n : Nat) (s : Int × Int × MEM), J (iter (fun s => dh_pass_b4  s.1 s.2.1 s.2.2) n s) (X_dh_pass_b4 Δ Γ d ) (HD_dh_pass_b4 Δ Γ d  s) := J_iter (fun s => Jb_dh_pass_b4 hd )
set_option maxRecDepth 20000 in
set_option maxHeartbeats 4000000 in
theorem J_dh_pass_j94 {Δ : DT} {Γ : FT} {d : Nat} (hd : 3 ≤ d + 1) {x1 : Int}  {M : MEM} : J (dh_pass_j94 x1 M) (K_IM Δ Γ m_dh_pass) (WAt Δ Γ false m_dh_pass (d + 1) 94 [vR (0), vI (x1), vN, vN, vN] [] (NG, S0, M) 0 0) := by
  unfold dh_pass_j94
  refine J.mono (fun k => w_aload_n rfl rfl (w_getR (r := 3) rfl (Nat.le_of_ble_eq_true rfl) S_0 rfl (w_dup rfl (fun _ h => by cases h) (w_getI rfl (sc_S is_sc_3).1 (sc_S is_sc_3).2 rfl (w_iconst rfl (inR_c rfl) (w_iadd rfl k)))))) ?_
  refine J_b ?_
  refine J.mono (fun k => w_putI rfl (sc_S is_sc_3).1 (sc_S is_sc_3).2 rfl rfl (w_iload_n rfl rfl k)) ?_
  exact J_some (fun k => w_ireturn rfl rfl k)
set_option maxRecDepth 20000 in
set_option maxHeartbeats 4000000 in
theorem J_dh_pass {Δ : DT} {Γ : FT} {d : Nat} (hd : 3 ≤ d + 1)   {M : MEM} : J (dh_pass M) (K_IM Δ Γ m_dh_pass) (WAt Δ Γ false m_dh_pass (d + 1) 0 [vR (0), vN, vN, vN, vN] [] (NG, S0, M) 0 0) := by
  unfold dh_pass
  refine J.mono (fun k => w_iconst rfl (inR_c rfl) (s_istore1 rfl (Nat.le_of_ble_eq_true rfl) (w_iconst rfl (inR_c rfl) (s_istore2 rfl (Nat.le_of_ble_eq_true rfl) k)))) ?_
  refine J.mono (fun k => w_forget (wk_k (wk_k (wk_k (wk_d (wk_d wk_0))))) k) ?_
  refine J_loop (Jl_dh_pass_b4 hd  _ _) (fun w17 => ?_)
  exact J.mono (fun k => w_forget (wk_k (wk_k (wk_d (wk_d (wk_d wk_0))))) k) (J_dh_pass_j94 hd )
set_option maxRecDepth 20000 in
set_option maxHeartbeats 4000000 in
theorem cal_dh_pass {Δ : DT} {d : Nat} (hd : 3 ≤ d)   {M : MEM} {p : Int × MEM} (h : dh_pass M = some p) (ho : okVs [vR 0]) (hM : okM M) : Cal Δ false m_dh_pass d [vR 0] (NG, S0, M) (some p.1) (NG, S0, p.2) 0 0 := by
  obtain ⟨d, rfl⟩ : ∃ e, d = e + 1 := ⟨d - 1, by omega⟩
  exact cal_of g_dh_pass p_dh_pass (fun v hv => by simp only [List.mem_cons, List.not_mem_nil, or_false] at hv; rcases hv with rfl <;> first | exact Or.inl ⟨_, rfl⟩ | exact Or.inr ⟨_, rfl⟩) ho hM (Nat.le_of_ble_eq_true rfl) (fun Γ _ k => J_dh_pass hd  _ h k)

