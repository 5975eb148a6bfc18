abbrev HD_tx_addFour_b26 (Δ : DT) (Γ : FT) (d : Nat) (x1 : Int) (s : Int × MEM) : Prop := WAt Δ Γ false m_tx_addFour d 26 [vR (1), vI (x1), vI (s.1)] [] (NG, S0, s.2) 0 0
abbrev X_tx_addFour_b26 (Δ : DT) (Γ : FT) (d : Nat) (x1 : Int) (s : Int × MEM) : Prop := WAt Δ Γ false m_tx_addFour d 62 [vN, vN, vN] [] (NG, S0, s.2) 0 0
set_option maxRecDepth 20000 in
set_option maxHeartbeats 4000000 in
theorem Jb_tx_addFour_b26 {Δ : DT} {Γ : FT} {d : Nat} {x1 : Int}  {x2 : Int} {M : MEM} : J (tx_addFour_b26 x1 x2 M) (Sum.elim (HD_tx_addFour_b26 Δ Γ d x1) (X_tx_addFour_b26 Δ Γ d x1)) (WAt Δ Γ false m_tx_addFour d 26 [vR (1), vI (x1), vI (x2)] [] (NG, S0, M) 0 0) := by
  unfold tx_addFour_b26
  refine J.mono (fun k => w_iload_n rfl rfl k) ?_
  refine J_ite (fun hc3 => ?_) (fun hc3 => ?_)
  · refine J.mono (fun k => s_if_lt_t rfl hc3 k) ?_
    exact J_some (fun k => w_forget (wk_d (wk_d (wk_d wk_0))) k)
  · refine J.mono (fun k => s_if_lt_f rfl hc3 (w_aload_n rfl rfl (w_getR (r := 2) rfl (Nat.le_of_ble_eq_true rfl) S_1 rfl (w_aload_n rfl rfl (w_getI rfl (Nat.le_of_ble_eq_true rfl) S_1 rfl (w_iload_n rfl rfl (w_iload_n rfl rfl (w_iushr rfl (w_sipush rfl (sip_c rfl) (w_iand rfl k)))))))))) ?_
    refine J_chk (fun hi5 => ?_)
    refine J_b ?_
    refine J.mono (fun k => w_iast rfl A_2.1 A_2.2 hi5.1 hi5.2 rfl (w_aload_n rfl rfl (w_dup rfl (fun _ h => by cases h) (w_getI rfl (Nat.le_of_ble_eq_true rfl) S_1 rfl (w_iconst rfl (inR_c rfl) (w_iadd rfl k)))))) ?_
    refine J_b ?_
    refine J.mono (fun k => w_putI rfl (Nat.le_of_ble_eq_true rfl) S_1 rfl rfl (s_iinc2 rfl (Nat.le_of_ble_eq_true rfl) (w_goto rfl k))) ?_
    exact J_some (fun k => w_forget (wk_k (wk_k (wk_k wk_0))) k)
set_option maxRecDepth 20000 in
set_option maxHeartbeats 4000000 in
theorem Jl_tx_addFour_b26 {Δ : DT} {Γ : FT} {d : Nat} {x1 : Int}   : ∀ (n : Nat) (s : Int × MEM), J (iter (fun s => tx_addFour_b26 x1 s.1 s.2) n s) (X_tx_addFour_b26 Δ Γ d x1) (HD_tx_addFour_b26 Δ Γ d x1 s) := J_iter (fun s => Jb_tx_addFour_b26 )
set_option maxRecDepth 20000 in
set_option maxHeartbeats 4000000 in
theorem J_tx_addFour {Δ : DT} {Γ : FT} {d : Nat} {x1 : Int}  {M : MEM} : J (tx_addFour x1 M) (K_IM Δ Γ m_tx_addFour) (WAt Δ Γ false m_tx_addFour d 0 [vR (1), vI (x1), vN] [] (NG, S0, M) 0 0) := by
  unfold tx_addFour
  refine J.mono (fun k => w_aload_n rfl rfl (w_getI rfl (Nat.le_of_ble_eq_true rfl) S_1 rfl k)) ?_
  refine J_ite (fun hc1 => ?_) (fun hc1 => ?_)
  · refine J.mono (fun k => s_if_lt_t rfl hc1 (w_iconst rfl (inR_c rfl) k)) ?_
    exact J_some (fun k => w_zreturn rfl rfl (Or.inl rfl) k)
  · refine J.mono (fun k => s_if_lt_f rfl hc1 (w_aload_n rfl rfl (w_getI rfl (Nat.le_of_ble_eq_true rfl) S_1 rfl (w_iconst rfl (inR_c rfl) (w_iadd rfl (w_aload_n rfl rfl (w_getR (r := 2) rfl (Nat.le_of_ble_eq_true rfl) S_1 rfl (w_alen rfl A_2.1 (Nat.le_of_ble_eq_true rfl) A_2.2 (Nat.le_of_ble_eq_true rfl) k)))))))) ?_
    refine J_ite (fun hc2 => ?_) (fun hc2 => ?_)
    · refine J.mono (fun k => s_icmp_le_t rfl hc2 (w_bipush rfl (bip_c rfl) (s_istore2 rfl (Nat.le_of_ble_eq_true rfl) k))) ?_
      refine J.mono (fun k => w_forget (wk_k (wk_k (wk_k wk_0))) k) ?_
      refine J_loop (Jl_tx_addFour_b26  _ _) (fun w7 => ?_)
      refine J.mono (fun k => w_iconst rfl (inR_c rfl) k) ?_
      exact J_some (fun k => w_zreturn rfl rfl (Or.inr rfl) k)
    · refine J.mono (fun k => s_icmp_le_f rfl hc2 (w_iconst rfl (inR_c rfl) k)) ?_
      exact J_some (fun k => w_zreturn rfl rfl (Or.inl rfl) k)
set_option maxRecDepth 20000 in
set_option maxHeartbeats 4000000 in
theorem cal_tx_addFour {Δ : DT} {d : Nat} (hd : 0 ≤ d) {x1 : Int}  {M : MEM} {p : Int × MEM} (h : tx_addFour x1 M = some p) (ho : okVs [vR 1, vI x1]) (hM : okM M) : Cal Δ false m_tx_addFour d [vR 1, vI x1] (NG, S0, M) (some p.1) (NG, S0, p.2) 0 0 := by
  exact cal_of g_tx_addFour p_tx_addFour (fun v hv => by simp only [List.mem_cons, List.not_mem_nil, or_false] at hv; rcases hv with rfl | rfl <;> first | exact Or.inl ⟨_, rfl⟩ | exact Or.inr ⟨_, rfl⟩) ho hM (Nat.le_of_ble_eq_true rfl) (fun Γ _ k => J_tx_addFour  _ h k)
set_option maxRecDepth 20000 in
set_option maxHeartbeats 4000000 in
theorem J_dh_sign {Δ : DT} {Γ : FT} {d : Nat} (hd : 1 ≤ d + 1) {x1 : Int}  {M : MEM} : J (dh_sign x1 M) (K_IM Δ Γ m_dh_sign) (WAt Δ Γ false m_dh_sign (d + 1) 0 [vR (0), vI (x1)] [] (NG, S0, M) 0 0) := by
  unfold dh_sign
  refine J.mono (fun k => w_aload_n rfl rfl (w_getR (r := 1) rfl (Nat.le_of_ble_eq_true rfl) S_0 rfl (w_iload_n rfl rfl k))) ?_
  refine J_c (fun p2 e1 => ?_)
  refine J_hyp (fun k => c_vi1 rfl (fun ho hM => cal_tx_addFour (by omega)  e1 ho hM) v_tx_addFour (Nat.le_of_ble_eq_true rfl) S_1 rfl (Nat.le_of_ble_eq_true rfl) k) (fun hr3 hb4 => ?_)
  refine J_ite (fun hc5 => ?_) (fun hc5 => ?_)
  · refine J.mono (fun k => s_if_eq_t rfl hc5 (w_iconst rfl (inR_c rfl) k)) ?_
    exact J_some (fun k => w_ireturn rfl rfl k)
  · refine J.mono (fun k => s_if_eq_f rfl hc5 (w_aload_n rfl rfl (w_getR (r := 1) rfl (Nat.le_of_ble_eq_true rfl) S_0 rfl (w_getI rfl (Nat.le_of_ble_eq_true rfl) S_1 rfl (w_goto rfl k))))) ?_
    exact J_some (fun k => w_ireturn rfl rfl k)
set_option maxRecDepth 20000 in
set_option maxHeartbeats 4000000 in
theorem cal_dh_sign {Δ : DT} {d : Nat} (hd : 1 ≤ d) {x1 : Int}  {M : MEM} {p : Int × MEM} (h : dh_sign x1 M = some p) (ho : okVs [vR 0, vI x1]) (hM : okM M) : Cal Δ false m_dh_sign d [vR 0, vI x1] (NG, S0, M) (some p.1) (NG, S0, p.2) 0 0 := by
  obtain ⟨d, rfl⟩ : ∃ e, d = e + 1 := ⟨d - 1, by omega⟩
  exact cal_of g_dh_sign p_dh_sign (fun v hv => by simp only [List.mem_cons, List.not_mem_nil, or_false] at hv; rcases hv with rfl | rfl <;> first | exact Or.inl ⟨_, rfl⟩ | exact Or.inr ⟨_, rfl⟩) ho hM (Nat.le_of_ble_eq_true rfl) (fun Γ _ k => J_dh_sign hd  _ h k)
set_option maxRecDepth 20000 in
set_option maxHeartbeats 4000000 in
theorem J_tx_cut {Δ : DT} {Γ : FT} {d : Nat} {x1 : Int}  {M : MEM} : J (tx_cut x1 M) (K_IM Δ Γ m_tx_cut) (WAt Δ Γ false m_tx_cut d 0 [vR (1), vI (x1)] [] (NG, S0, M) 0 0) := by
  unfold tx_cut
  refine J.mono (fun k => w_iload_n rfl rfl k) ?_
  refine J_ite (fun hc1 => ?_) (fun hc1 => ?_)
  · refine J.mono (fun k => s_if_lt_t rfl hc1 (w_iconst rfl (inR_c rfl) k)) ?_
    exact J_some (fun k => w_zreturn rfl rfl (Or.inl rfl) k)
  · refine J.mono (fun k => s_if_lt_f rfl hc1 (w_iload_n rfl rfl (w_aload_n rfl rfl (w_getI rfl (Nat.le_of_ble_eq_true rfl) S_1 rfl k)))) ?_
    refine J_ite (fun hc2 => ?_) (fun hc2 => ?_)
    · refine J.mono (fun k => s_icmp_le_t rfl hc2 (w_aload_n rfl rfl (w_iload_n rfl rfl k))) ?_
      refine J_b ?_
      refine J.mono (fun k => w_putI rfl (Nat.le_of_ble_eq_true rfl) S_1 rfl rfl (w_iconst rfl (inR_c rfl) k)) ?_
      exact J_some (fun k => w_zreturn rfl rfl (Or.inr rfl) k)
    · refine J.mono (fun k => s_icmp_le_f rfl hc2 (w_iconst rfl (inR_c rfl) k)) ?_
      exact J_some (fun k => w_zreturn rfl rfl (Or.inl rfl) k)
set_option maxRecDepth 20000 in
set_option maxHeartbeats 4000000 in
theorem cal_tx_cut {Δ : DT} {d : Nat} (hd : 0 ≤ d) {x1 : Int}  {M : MEM} {p : Int × MEM} (h : tx_cut x1 M = some p) (ho : okVs [vR 1, vI x1]) (hM : okM M) : Cal Δ false m_tx_cut d [vR 1, vI x1] (NG, S0, M) (some p.1) (NG, S0, p.2) 0 0 := by
  exact cal_of g_tx_cut p_tx_cut (fun v hv => by simp only [List.mem_cons, List.not_mem_nil, or_false] at hv; rcases hv with rfl | rfl <;> first | exact Or.inl ⟨_, rfl⟩ | exact Or.inr ⟨_, rfl⟩) ho hM (Nat.le_of_ble_eq_true rfl) (fun Γ _ k => J_tx_cut  _ h k)
set_option maxRecDepth 20000 in
set_option maxHeartbeats 4000000 in
theorem J_dh_end {Δ : DT} {Γ : FT} {d : Nat} (hd : 1 ≤ d + 1) {x1 : Int}  {M : MEM} : J (dh_end x1 M) (K_IM Δ Γ m_dh_end) (WAt Δ Γ false m_dh_end (d + 1) 0 [vR (0), vI (x1)] [] (NG, S0, M) 0 0) := by
  unfold dh_end
  refine J.mono (fun k => w_aload_n rfl rfl (w_getR (r := 1) rfl (Nat.le_of_ble_eq_true rfl) S_0 rfl (w_iload_n rfl rfl k))) ?_
  refine J_c (fun p2 e1 => ?_)
  refine J_hyp (fun k => c_vi1 rfl (fun ho hM => cal_tx_cut (by omega)  e1 ho hM) v_tx_cut (Nat.le_of_ble_eq_true rfl) S_1 rfl (Nat.le_of_ble_eq_true rfl) k) (fun hr3 hb4 => ?_)
  exact J_some (fun k => w_zreturn rfl rfl (hb4 rfl) k)
set_option maxRecDepth 20000 in
set_option maxHeartbeats 4000000 in
theorem cal_dh_end {Δ : DT} {d : Nat} (hd : 1 ≤ d) {x1 : Int}  {M : MEM} {p : Int × MEM} (h : dh_end x1 M = some p) (ho : okVs [vR 0, vI x1]) (hM : okM M) : Cal Δ false m_dh_end d [vR 0, vI x1] (NG, S0, M) (some p.1) (NG, S0, p.2) 0 0 := by
  obtain ⟨d, rfl⟩ : ∃ e, d = e + 1 := ⟨d - 1, by omega⟩
  exact cal_of g_dh_end p_dh_end (fun v hv => by simp only [List.mem_cons, List.not_mem_nil, or_false] at hv; rcases hv with rfl | rfl <;> first | exact Or.inl ⟨_, rfl⟩ | exact Or.inr ⟨_, rfl⟩) ho hM (Nat.le_of_ble_eq_true rfl) (fun Γ _ k => J_dh_end hd  _ h k)
set_option maxRecDepth 20000 in
set_option maxHeartbeats 4000000 in
theorem J_be_addPlace {Δ : DT} {Γ : FT} {d : Nat} {a0 : Nat} {x1 : Int} (h_a0 : is_be a0) {M : MEM} : J (be_addPlace a0 x1 M) (K_M Δ Γ m_be_addPlace) (WAt Δ Γ false m_be_addPlace d 0 [vR (a0), vI (x1)] [] (NG, S0, M) 0 0) := by
  unfold be_addPlace
  refine J.mono (fun k => w_aload_n rfl rfl (w_getI rfl (be_S h_a0).1 (be_S h_a0).2 rfl (w_aload_n rfl rfl (w_getR (r := (a0 + 1)) rfl (be_S h_a0).1 (be_S h_a0).2 rfl (w_alen rfl (be_f0 h_a0).1 (Nat.le_of_ble_eq_true rfl) (be_f0 h_a0).2 (Nat.le_of_ble_eq_true rfl) k))))) ?_
  refine J_ite (fun hc1 => ?_) (fun hc1 => ?_)
  · refine J.mono (fun k => s_icmp_ge_t rfl hc1 k) ?_
    exact J_some (fun k => w_return rfl rfl k)
  · refine J.mono (fun k => s_icmp_ge_f rfl hc1 (w_aload_n rfl rfl (w_getR (r := (a0 + 1)) rfl (be_S h_a0).1 (be_S h_a0).2 rfl (w_aload_n rfl rfl (w_getI rfl (be_S h_a0).1 (be_S h_a0).2 rfl (w_iload_n rfl rfl k)))))) ?_
    refine J_chk (fun hi3 => ?_)
    refine J_b ?_
    refine J.mono (fun k => w_iast rfl (be_f0 h_a0).1 (be_f0 h_a0).2 hi3.1 hi3.2 rfl (w_aload_n rfl rfl (w_dup rfl (fun _ h => by cases h) (w_getI rfl (be_S h_a0).1 (be_S h_a0).2 rfl (w_iconst rfl (inR_c rfl) (w_iadd rfl k)))))) ?_
    refine J_b ?_
    refine J.mono (fun k => w_putI rfl (be_S h_a0).1 (be_S h_a0).2 rfl rfl k) ?_
    exact J_some (fun k => w_return rfl rfl k)
set_option maxRecDepth 20000 in
set_option maxHeartbeats 4000000 in
theorem cal_be_addPlace {Δ : DT} {d : Nat} (hd : 0 ≤ d) {a0 : Nat} {x1 : Int} (h_a0 : is_be a0) {M : MEM} {M1 : MEM} (h : be_addPlace a0 x1 M = some M1) (ho : okVs [vR a0, vI x1]) (hM : okM M) : Cal Δ false m_be_addPlace d [vR a0, vI x1] (NG, S0, M) none (NG, S0, M1) 0 0 := by
  exact cal_of g_be_addPlace p_be_addPlace (fun v hv => by simp only [List.mem_cons, List.not_mem_nil, or_false] at hv; rcases hv with rfl | rfl <;> first | exact Or.inl ⟨_, rfl⟩ | exact Or.inr ⟨_, rfl⟩) ho hM (Nat.le_of_ble_eq_true rfl) (fun Γ _ k => J_be_addPlace h_a0 _ h k)
set_option maxRecDepth 20000 in
set_option maxHeartbeats 4000000 in
theorem J_be_stall {Δ : DT} {Γ : FT} {d : Nat} {a0 : Nat} {x1 : Int} (h_a0 : is_be a0) {M : MEM} : J (be_stall a0 x1 M) (K_M Δ Γ m_be_stall) (WAt Δ Γ false m_be_stall d 0 [vR (a0), vI (x1)] [] (NG, S0, M) 0 0) := by
  unfold be_stall
  refine J.mono (fun k => w_aload_n rfl rfl (w_iload_n rfl rfl k)) ?_
  refine J_b ?_
  refine J.mono (fun k => w_putI rfl (be_S h_a0).1 (be_S h_a0).2 rfl rfl (w_aload_n rfl rfl (w_iconst rfl (inR_c rfl) k))) ?_
  refine J_b ?_
  refine J.mono (fun k => w_putI rfl (be_S h_a0).1 (be_S h_a0).2 rfl rfl (w_aload_n rfl rfl (w_iconst rfl (inR_c rfl) k))) ?_
  refine J_b ?_
  refine J.mono (fun k => w_putI rfl (be_S h_a0).1 (be_S h_a0).2 rfl rfl (w_aload_n rfl rfl (w_iconst rfl (inR_c rfl) k))) ?_
  refine J_b ?_
  refine J.mono (fun k => w_putI rfl (be_S h_a0).1 (be_S h_a0).2 rfl rfl k) ?_
  exact J_some (fun k => w_return rfl rfl k)
set_option maxRecDepth 20000 in
set_option maxHeartbeats 4000000 in
theorem cal_be_stall {Δ : DT} {d : Nat} (hd : 0 ≤ d) {a0 : Nat} {x1 : Int} (h_a0 : is_be a0) {M : MEM} {M1 : MEM} (h : be_stall a0 x1 M = some M1) (ho : okVs [vR a0, vI x1]) (hM : okM M) : Cal Δ false m_be_stall d [vR a0, vI x1] (NG, S0, M) none (NG, S0, M1) 0 0 := by
  exact cal_of g_be_stall p_be_stall (fun v hv => by simp only [List.mem_cons, List.not_mem_nil, or_false] at hv; rcases hv with rfl | rfl <;> first | exact Or.inl ⟨_, rfl⟩ | exact Or.inr ⟨_, rfl⟩) ho hM (Nat.le_of_ble_eq_true rfl) (fun Γ _ k => J_be_stall h_a0 _ h k)
set_option maxRecDepth 20000 in
set_option maxHeartbeats 4000000 in
theorem J_tx_next {Δ : DT} {Γ : FT} {d : Nat}   {M : MEM} : J (tx_next M) (K_I Δ Γ m_tx_next M) (WAt Δ Γ false m_tx_next d 0 [vR (1)] [] (NG, S0, M) 0 0) := by
  unfold tx_next
  refine J.mono (fun k => w_aload_n rfl rfl (w_getI rfl (Nat.le_of_ble_eq_true rfl) S_1 rfl k)) ?_
  refine J_ite (fun hc1 => ?_) (fun hc1 => ?_)
  · refine J.mono (fun k => s_if_lt_t rfl hc1 (w_iconst rfl (inR_c rfl) k)) ?_
    exact J_some (fun k => w_ireturn rfl rfl k)
  · refine J.mono (fun k => s_if_lt_f rfl hc1 (w_aload_n rfl rfl (w_getI rfl (Nat.le_of_ble_eq_true rfl) S_1 rfl (w_aload_n rfl rfl (w_getI rfl (Nat.le_of_ble_eq_true rfl) S_1 rfl k))))) ?_
    refine J_ite (fun hc2 => ?_) (fun hc2 => ?_)
    · refine J.mono (fun k => s_icmp_ge_t rfl hc2 (w_iconst rfl (inR_c rfl) k)) ?_
      exact J_some (fun k => w_ireturn rfl rfl k)
    · refine J.mono (fun k => s_icmp_ge_f rfl hc2 (w_aload_n rfl rfl (w_getI rfl (Nat.le_of_ble_eq_true rfl) S_1 rfl (w_aload_n rfl rfl (w_getR (r := 2) rfl (Nat.le_of_ble_eq_true rfl) S_1 rfl (w_alen rfl A_2.1 (Nat.le_of_ble_eq_true rfl) A_2.2 (Nat.le_of_ble_eq_true rfl) k)))))) ?_
      refine J_ite (fun hc3 => ?_) (fun hc3 => ?_)
      · refine J.mono (fun k => s_icmp_ge_t rfl hc3 (w_iconst rfl (inR_c rfl) k)) ?_
        exact J_some (fun k => w_ireturn rfl rfl k)
      · refine J.mono (fun k => s_icmp_ge_f rfl hc3 (w_aload_n rfl rfl (w_getR (r := 2) rfl (Nat.le_of_ble_eq_true rfl) S_1 rfl (w_aload_n rfl rfl (w_getI rfl (Nat.le_of_ble_eq_true rfl) S_1 rfl k))))) ?_
        refine J_chk (fun hi4 => ?_)
        refine J.mono (fun k => w_iald rfl A_2.1 A_2.2 hi4.1 hi4.2 (w_goto rfl k)) ?_
        exact J_some (fun k => w_ireturn rfl rfl k)
set_option maxRecDepth 20000 in
set_option maxHeartbeats 4000000 in
theorem cal_tx_next {Δ : DT} {d : Nat} (hd : 0 ≤ d)   {M : MEM} {r : Int} (h : tx_next M = some r) (ho : okVs [vR 1]) (hM : okM M) : Cal Δ false m_tx_next d [vR 1] (NG, S0, M) (some r) (NG, S0, M) 0 0 := by
  exact cal_of g_tx_next p_tx_next (fun v hv => by simp only [List.mem_cons, List.not_mem_nil, or_false] at hv; rcases hv with rfl <;> first | exact Or.inl ⟨_, rfl⟩ | exact Or.inr ⟨_, rfl⟩) ho hM (Nat.le_of_ble_eq_true rfl) (fun Γ _ k => J_tx_next  _ h k)
set_option maxRecDepth 20000 in
set_option maxHeartbeats 4000000 in
theorem J_tx_digit {Δ : DT} {Γ : FT} {d : Nat} (hd : 1 ≤ d + 1)   {M : MEM} : J (tx_digit M) (K_IM Δ Γ m_tx_digit) (WAt Δ Γ false m_tx_digit (d + 1) 0 [vR (1), vN] [] (NG, S0, M) 0 0) := by
  unfold tx_digit
  refine J.mono (fun k => w_aload_n rfl rfl k) ?_
  refine J_c (fun r2 e1 => ?_)
  refine J_hyp (fun k => c_vi0 rfl (fun ho hM => cal_tx_next (by omega)  e1 ho hM) v_tx_next (Nat.le_of_ble_eq_true rfl) S_1 rfl (Nat.le_of_ble_eq_true rfl) k) (fun hr3 hb4 => ?_)
  refine J.mono (fun k => s_istore1 rfl (Nat.le_of_ble_eq_true rfl) (w_iload_n rfl rfl (w_bipush rfl (bip_c rfl) k))) ?_
  refine J_ite (fun hc5 => ?_) (fun hc5 => ?_)
  · refine J.mono (fun k => s_icmp_lt_t rfl hc5 (w_iconst rfl (inR_c rfl) k)) ?_
    exact J_some (fun k => w_ireturn rfl rfl k)
  · refine J.mono (fun k => s_icmp_lt_f rfl hc5 (w_iload_n rfl rfl (w_bipush rfl (bip_c rfl) k))) ?_
    refine J_ite (fun hc6 => ?_) (fun hc6 => ?_)
    · refine J.mono (fun k => s_icmp_le_t rfl hc6 (w_aload_n rfl rfl (w_dup rfl (fun _ h => by cases h) (w_getI rfl (Nat.le_of_ble_eq_true rfl) S_1 rfl (w_iconst rfl (inR_c rfl) (w_iadd rfl k)))))) ?_
      refine J_b ?_
      refine J.mono (fun k => w_putI rfl (Nat.le_of_ble_eq_true rfl) S_1 rfl rfl (w_iload_n rfl rfl (w_bipush rfl (bip_c rfl) (w_isub rfl k)))) ?_
      exact J_some (fun k => w_ireturn rfl rfl k)
    · refine J.mono (fun k => s_icmp_le_f rfl hc6 (w_iconst rfl (inR_c rfl) k)) ?_
      exact J_some (fun k => w_ireturn rfl rfl k)
set_option maxRecDepth 20000 in
set_option maxHeartbeats 4000000 in
theorem cal_tx_digit {Δ : DT} {d : Nat} (hd : 1 ≤ d)   {M : MEM} {p : Int × MEM} (h : tx_digit M = some p) (ho : okVs [vR 1]) (hM : okM M) : Cal Δ false m_tx_digit d [vR 1] (NG, S0, M) (some p.1) (NG, S0, p.2) 0 0 := by
  obtain ⟨d, rfl⟩ : ∃ e, d = e + 1 := ⟨d - 1, by omega⟩
  exact cal_of g_tx_digit p_tx_digit (fun v hv => by simp only [List.mem_cons, List.not_mem_nil, or_false] at hv; rcases hv with rfl <;> first | exact Or.inl ⟨_, rfl⟩ | exact Or.inr ⟨_, rfl⟩) ho hM (Nat.le_of_ble_eq_true rfl) (fun Γ _ k => J_tx_digit hd  _ h k)
set_option maxRecDepth 20000 in
set_option maxHeartbeats 4000000 in
theorem J_tx_takes {Δ : DT} {Γ : FT} {d : Nat} (hd : 1 ≤ d + 1) {x1 : Int}  {M : MEM} : J (tx_takes x1 M) (K_IM Δ Γ m_tx_takes) (WAt Δ Γ false m_tx_takes (d + 1) 0 [vR (1), vI (x1)] [] (NG, S0, M) 0 0) := by
  unfold tx_takes
  refine J.mono (fun k => w_aload_n rfl rfl k) ?_
  refine J_c (fun r2 e1 => ?_)
  refine J_hyp (fun k => c_vi0 rfl (fun ho hM => cal_tx_next (by omega)  e1 ho hM) v_tx_next (Nat.le_of_ble_eq_true rfl) S_1 rfl (Nat.le_of_ble_eq_true rfl) k) (fun hr3 hb4 => ?_)
  refine J.mono (fun k => w_iload_n rfl rfl k) ?_
  refine J_ite (fun hc5 => ?_) (fun hc5 => ?_)
  · refine J.mono (fun k => s_icmp_eq_t rfl hc5 (w_aload_n rfl rfl (w_dup rfl (fun _ h => by cases h) (w_getI rfl (Nat.le_of_ble_eq_true rfl) S_1 rfl (w_iconst rfl (inR_c rfl) (w_iadd rfl k)))))) ?_
    refine J_b ?_
    refine J.mono (fun k => w_putI rfl (Nat.le_of_ble_eq_true rfl) S_1 rfl rfl (w_iconst rfl (inR_c rfl) k)) ?_
    exact J_some (fun k => w_zreturn rfl rfl (Or.inr rfl) k)
  · refine J.mono (fun k => s_icmp_eq_f rfl hc5 (w_iconst rfl (inR_c rfl) k)) ?_
    exact J_some (fun k => w_zreturn rfl rfl (Or.inl rfl) k)
set_option maxRecDepth 20000 in
set_option maxHeartbeats 4000000 in
theorem cal_tx_takes {Δ : DT} {d : Nat} (hd : 1 ≤ d) {x1 : Int}  {M : MEM} {p : Int × MEM} (h : tx_takes x1 M = some p) (ho : okVs [vR 1, vI x1]) (hM : okM M) : Cal Δ false m_tx_takes d [vR 1, vI x1] (NG, S0, M) (some p.1) (NG, S0, p.2) 0 0 := by
  obtain ⟨d, rfl⟩ : ∃ e, d = e + 1 := ⟨d - 1, by omega⟩
  exact cal_of g_tx_takes p_tx_takes (fun v hv => by simp only [List.mem_cons, List.not_mem_nil, or_false] at hv; rcases hv with rfl | rfl <;> first | exact Or.inl ⟨_, rfl⟩ | exact Or.inr ⟨_, rfl⟩) ho hM (Nat.le_of_ble_eq_true rfl) (fun Γ _ k => J_tx_takes hd  _ h k)
abbrev HD_dh_readLine_b33 (Δ : DT) (Γ : FT) (d : Nat) (a1 : Nat) (s : Int × MEM) : Prop := WAt Δ Γ false m_dh_readLine (d + 1) 33 [vR (0), vR (a1), vN, vI (s.1), vN] [] (NG, S0, s.2) 0 0
abbrev X_dh_readLine_b33 (Δ : DT) (Γ : FT) (d : Nat) (a1 : Nat) : (Int × MEM) ⊕ (Int × MEM) → Prop := Sum.elim (K_IM Δ Γ m_dh_readLine) (fun s => WAt Δ Γ false m_dh_readLine (d + 1) 76 [vN, vN, vN, vN, vN] [] (NG, S0, s.2) 0 0)
set_option maxRecDepth 20000 in
set_option maxHeartbeats 4000000 in
theorem Jb_dh_readLine_b33 {Δ : DT} {Γ : FT} {d : Nat} (hd : 2 ≤ d + 1) {a1 : Nat} (h_a1 : is_be a1) {x3 : Int} {M : MEM} : J (dh_readLine_b33 a1 x3 M) (Sum.elim (HD_dh_readLine_b33 Δ Γ d a1) (X_dh_readLine_b33 Δ Γ d a1)) (WAt Δ Γ false m_dh_readLine (d + 1) 33 [vR (0), vR (a1), vN, vI (x3), vN] [] (NG, S0, M) 0 0) := by
  unfold dh_readLine_b33
  refine J.mono (fun k => w_iload_n rfl rfl (w_bipush rfl (bip_c rfl) k)) ?_
  refine J_ite (fun hc13 => ?_) (fun hc13 => ?_)
  · refine J.mono (fun k => s_icmp_ge_t rfl hc13 k) ?_
    exact J_some (fun k => w_forget (wk_d (wk_d (wk_d (wk_d (wk_d wk_0))))) k)
  · refine J.mono (fun k => s_icmp_ge_f rfl hc13 (w_aload_n rfl rfl (w_getR (r := 1) rfl (Nat.le_of_ble_eq_true rfl) S_0 rfl k))) ?_
    refine J_c (fun p15 e14 => ?_)
    refine J_hyp (fun k => c_vi0 rfl (fun ho hM => cal_tx_digit (by omega)  e14 ho hM) v_tx_digit (Nat.le_of_ble_eq_true rfl) S_1 rfl (Nat.le_of_ble_eq_true rfl) k) (fun hr16 hb17 => ?_)
    refine J.mono (fun k => s_istore4 rfl (Nat.le_of_ble_eq_true rfl) (w_iload rfl rfl k)) ?_
    refine J_ite (fun hc18 => ?_) (fun hc18 => ?_)
    · refine J.mono (fun k => s_if_ge_t rfl hc18 (w_aload_n rfl rfl (w_iload rfl rfl k))) ?_
      refine J_c (fun M20 e19 => ?_)
      refine J.mono (fun k => c_vv1 rfl (fun ho hM => cal_be_addPlace (by omega) h_a1 e19 ho hM) v_be_addPlace (be_S h_a1).1 (be_S h_a1).2 rfl (Nat.le_of_ble_eq_true rfl) (s_iinc3 rfl (Nat.le_of_ble_eq_true rfl) (w_goto rfl k))) ?_
      exact J_some (fun k => w_forget (wk_k (wk_k (wk_d (wk_k (wk_d wk_0))))) k)
    · refine J.mono (fun k => s_if_ge_f rfl hc18 (w_iload_n rfl rfl (w_iconst rfl (inR_c rfl) k))) ?_
      refine J_ite (fun hc21 => ?_) (fun hc21 => ?_)
      · refine J.mono (fun k => s_icmp_lt_t rfl hc21 (w_iconst rfl (inR_c rfl) k)) ?_
        exact J_some (fun k => w_zreturn rfl rfl (Or.inl rfl) k)
      · refine J.mono (fun k => s_icmp_lt_f rfl hc21 (w_iconst rfl (inR_c rfl) (w_goto rfl k))) ?_
        exact J_some (fun k => w_zreturn rfl rfl (Or.inr rfl) k)
set_option maxRecDepth 20000 in
set_option maxHeartbeats 4000000 in
theorem Jl_dh_readLine_b33 {Δ : DT} {Γ : FT} {d : Nat} (hd : 2 ≤ d + 1) {a1 : Nat} (h_a1 : is_be a1)  : ∀ (n : Nat) (s : Int × MEM), J (iter (fun s => dh_readLine_b33 a1 s.1 s.2) n s) (X_dh_readLine_b33 Δ Γ d a1) (HD_dh_readLine_b33 Δ Γ d a1 s) := J_iter (fun s => Jb_dh_readLine_b33 hd h_a1)
set_option maxRecDepth 20000 in
set_option maxHeartbeats 4000000 in
theorem J_dh_readLine {Δ : DT} {Γ : FT} {d : Nat} (hd : 2 ≤ d + 1) {a1 : Nat} (h_a1 : is_be a1) {M : MEM} : J (dh_readLine a1 M) (K_IM Δ Γ m_dh_readLine) (WAt Δ Γ false m_dh_readLine (d + 1) 0 [vR (0), vR (a1), vN, vN, vN] [] (NG, S0, M) 0 0) := by
  unfold dh_readLine
  refine J.mono (fun k => w_aload_n rfl rfl (w_getR (r := 1) rfl (Nat.le_of_ble_eq_true rfl) S_0 rfl k)) ?_
  refine J_c (fun p2 e1 => ?_)
  refine J_hyp (fun k => c_vi0 rfl (fun ho hM => cal_tx_digit (by omega)  e1 ho hM) v_tx_digit (Nat.le_of_ble_eq_true rfl) S_1 rfl (Nat.le_of_ble_eq_true rfl) k) (fun hr3 hb4 => ?_)
  refine J.mono (fun k => s_istore2 rfl (Nat.le_of_ble_eq_true rfl) (w_iload_n rfl rfl k)) ?_
  refine J_ite (fun hc5 => ?_) (fun hc5 => ?_)
  · refine J.mono (fun k => s_if_lt_t rfl hc5 (w_iconst rfl (inR_c rfl) k)) ?_
    exact J_some (fun k => w_zreturn rfl rfl (Or.inl rfl) k)
  · refine J.mono (fun k => s_if_lt_f rfl hc5 (w_aload_n rfl rfl (w_getR (r := 1) rfl (Nat.le_of_ble_eq_true rfl) S_0 rfl (w_bipush rfl (bip_c rfl) k)))) ?_
    refine J_c (fun p7 e6 => ?_)
    refine J_hyp (fun k => c_vi1 rfl (fun ho hM => cal_tx_takes (by omega)  e6 ho hM) v_tx_takes (Nat.le_of_ble_eq_true rfl) S_1 rfl (Nat.le_of_ble_eq_true rfl) k) (fun hr8 hb9 => ?_)
    refine J_ite (fun hc10 => ?_) (fun hc10 => ?_)
    · refine J.mono (fun k => s_if_ne_f rfl hc10 (w_iconst rfl (inR_c rfl) k)) ?_
      exact J_some (fun k => w_zreturn rfl rfl (Or.inl rfl) k)
    · refine J.mono (fun k => s_if_ne_t rfl hc10 (w_aload_n rfl rfl (w_iload_n rfl rfl k))) ?_
      refine J_c (fun M12 e11 => ?_)
      refine J.mono (fun k => c_vv1 rfl (fun ho hM => cal_be_stall (by omega) h_a1 e11 ho hM) v_be_stall (be_S h_a1).1 (be_S h_a1).2 rfl (Nat.le_of_ble_eq_true rfl) (w_iconst rfl (inR_c rfl) (s_istore3 rfl (Nat.le_of_ble_eq_true rfl) k))) ?_
      refine J.mono (fun k => w_forget (wk_k (wk_k (wk_d (wk_k (wk_d wk_0))))) k) ?_
      refine J_loop (Jl_dh_readLine_b33 hd h_a1 _ _) (fun w22 => ?_)
      refine J_elim (fun r => J_some (fun k => k)) (fun w22 => ?_)
      refine J.mono (fun k => w_iconst rfl (inR_c rfl) k) ?_
      exact J_some (fun k => w_zreturn rfl rfl (Or.inr rfl) k)
set_option maxRecDepth 20000 in
set_option maxHeartbeats 4000000 in
theorem cal_dh_readLine {Δ : DT} {d : Nat} (hd : 2 ≤ d) {a1 : Nat} (h_a1 : is_be a1) {M : MEM} {p : Int × MEM} (h : dh_readLine a1 M = some p) (ho : okVs [vR 0, vR a1]) (hM : okM M) : Cal Δ false m_dh_readLine d [vR 0, vR a1] (NG, S0, M) (some p.1) (NG, S0, p.2) 0 0 := by
  obtain ⟨d, rfl⟩ : ∃ e, d = e + 1 := ⟨d - 1, by omega⟩
  exact cal_of g_dh_readLine p_dh_readLine (fun v hv => by simp only [List.mem_cons, List.not_mem_nil, or_false] at hv; rcases hv with rfl | rfl <;> first | exact Or.inl ⟨_, rfl⟩ | exact Or.inr ⟨_, rfl⟩) ho hM (Nat.le_of_ble_eq_true rfl) (fun Γ _ k => J_dh_readLine hd h_a1 _ h k)
set_option maxRecDepth 20000 in
set_option maxHeartbeats 4000000 in
theorem J_tx_isOver {Δ : DT} {Γ : FT} {d : Nat}   {M : MEM} : J (some (tx_isOver M)) (K_I Δ Γ m_tx_isOver M) (WAt Δ Γ false m_tx_isOver d 0 [vR (1)] [] (NG, S0, M) 0 0) := by
  unfold tx_isOver
  refine J.mono (fun k => w_aload_n rfl rfl (w_getI rfl (Nat.le_of_ble_eq_true rfl) S_1 rfl (w_aload_n rfl rfl (w_getI rfl (Nat.le_of_ble_eq_true rfl) S_1 rfl k)))) ?_
  refine J_iteT (fun hc1 => ?_) (fun hc1 => ?_)
  · refine J.mono (fun k => s_icmp_ne_f rfl hc1 (w_iconst rfl (inR_c rfl) (w_goto rfl k))) ?_
    exact J_some (fun k => w_zreturn rfl rfl (Or.inr rfl) k)
  · refine J.mono (fun k => s_icmp_ne_t rfl hc1 (w_iconst rfl (inR_c rfl) k)) ?_
    exact J_some (fun k => w_zreturn rfl rfl (Or.inl rfl) k)
set_option maxRecDepth 20000 in
set_option maxHeartbeats 4000000 in
theorem cal_tx_isOver {Δ : DT} {d : Nat} (hd : 0 ≤ d)   {M : MEM} (ho : okVs [vR 1]) (hM : okM M) : Cal Δ false m_tx_isOver d [vR 1] (NG, S0, M) (some (tx_isOver M)) (NG, S0, M) 0 0 := by
  exact cal_of g_tx_isOver p_tx_isOver (fun v hv => by simp only [List.mem_cons, List.not_mem_nil, or_false] at hv; rcases hv with rfl <;> first | exact Or.inl ⟨_, rfl⟩ | exact Or.inr ⟨_, rfl⟩) ho hM (Nat.le_of_ble_eq_true rfl) (fun Γ _ k => J_tx_isOver  _ rfl k)
set_option maxRecDepth 20000 in
set_option maxHeartbeats 4000000 in
theorem J_tx_wrong {Δ : DT} {Γ : FT} {d : Nat}   {M : MEM} : J (some (tx_wrong M)) (K_I Δ Γ m_tx_wrong M) (WAt Δ Γ false m_tx_wrong d 0 [vR (1)] [] (NG, S0, M) 0 0) := by
  unfold tx_wrong
  refine J.mono (fun k => w_iconst rfl (inR_c rfl) (w_aload_n rfl rfl (w_getI rfl (Nat.le_of_ble_eq_true rfl) S_1 rfl (w_isub rfl k)))) ?_
  exact J_some (fun k => w_ireturn rfl rfl k)
set_option maxRecDepth 20000 in
set_option maxHeartbeats 4000000 in
theorem cal_tx_wrong {Δ : DT} {d : Nat} (hd : 0 ≤ d)   {M : MEM} (ho : okVs [vR 1]) (hM : okM M) : Cal Δ false m_tx_wrong d [vR 1] (NG, S0, M) (some (tx_wrong M)) (NG, S0, M) 0 0 := by
  exact cal_of g_tx_wrong p_tx_wrong (fun v hv => by simp only [List.mem_cons, List.not_mem_nil, or_false] at hv; rcases hv with rfl <;> first | exact Or.inl ⟨_, rfl⟩ | exact Or.inr ⟨_, rfl⟩) ho hM (Nat.le_of_ble_eq_true rfl) (fun Γ _ k => J_tx_wrong  _ rfl k)
abbrev HD_dh_readLines_b8 (Δ : DT) (Γ : FT) (d : Nat)  (s : Int × MEM) : Prop := WAt Δ Γ false m_dh_readLines (d + 1) 8 [vR (0), vI (s.1)] [] (NG, S0, s.2) 0 0
abbrev X_dh_readLines_b8 (Δ : DT) (Γ : FT) (d : Nat)  : (Int × MEM) ⊕ (Int × MEM) → Prop := Sum.elim (K_IM Δ Γ m_dh_readLines) (fun s => WAt Δ Γ false m_dh_readLines (d + 1) 85 [vR (0), vN] [] (NG, S0, s.2) 0 0)
set_option maxRecDepth 20000 in
set_option maxHeartbeats 4000000 in
theorem Jb_dh_readLines_b8 {Δ : DT} {Γ : FT} {d : Nat} (hd : 3 ≤ d + 1)   {x1 : Int} {M : MEM} : J (dh_readLines_b8  x1 M) (Sum.elim (HD_dh_readLines_b8 Δ Γ d ) (X_dh_readLines_b8 Δ Γ d )) (WAt Δ Γ false m_dh_readLines (d + 1) 8 [vR (0), vI (x1)] [] (NG, S0, M) 0 0) := by
  unfold dh_readLines_b8
  refine J.mono (fun k => w_iload_n rfl rfl (w_iconst rfl (inR_c rfl) k)) ?_
  refine J_ite (fun hc1 => ?_) (fun hc1 => ?_)
  · refine J.mono (fun k => s_icmp_ge_t rfl hc1 k) ?_
    exact J_some (fun k => w_forget (wk_k (wk_d wk_0)) k)
  · refine J.mono (fun k => s_icmp_ge_f rfl hc1 (w_aload_n rfl rfl (w_aload_n rfl rfl (w_getR (r := 3) rfl (Nat.le_of_ble_eq_true rfl) S_0 rfl (w_getR (r := 4) rfl (sc_S is_sc_3).1 (sc_S is_sc_3).2 rfl (w_iload_n rfl rfl k)))))) ?_
    refine J_chk (fun hi2 => ?_)
    refine J.mono (fun k => w_aald rfl (scb_S is_sc_3).1 (Or.inl rfl) (scb_S is_sc_3).2 hi2.1 (scb_get hi2.1 hi2.2) k) ?_
    refine J_c (fun p4 e3 => ?_)
    refine J_hyp (fun k => c_vi1 rfl (fun ho hM => cal_dh_readLine (by omega) (scb_is is_sc_3 hi2.1 hi2.2) e3 ho hM) v_dh_readLine (Nat.le_of_ble_eq_true rfl) S_0 rfl (Nat.le_of_ble_eq_true rfl) k) (fun hr5 hb6 => ?_)
    refine J_ite (fun hc7 => ?_) (fun hc7 => ?_)
    · refine J.mono (fun k => s_if_ne_f rfl hc7 (w_aload_n rfl rfl (w_getR (r := 1) rfl (Nat.le_of_ble_eq_true rfl) S_0 rfl k))) ?_
      refine J_hyp (fun k => c_vi0 rfl (fun ho hM => cal_tx_wrong (by omega)   ho hM) v_tx_wrong (Nat.le_of_ble_eq_true rfl) S_1 rfl (Nat.le_of_ble_eq_true rfl) k) (fun hr9 hb10 => ?_)
      exact J_some (fun k => w_ireturn rfl rfl k)
    · refine J.mono (fun k => s_if_ne_t rfl hc7 (w_aload_n rfl rfl (w_getR (r := 1) rfl (Nat.le_of_ble_eq_true rfl) S_0 rfl k))) ?_
      refine J_hyp (fun k => c_vi0 rfl (fun ho hM => cal_tx_isOver (by omega)   ho hM) v_tx_isOver (Nat.le_of_ble_eq_true rfl) S_1 rfl (Nat.le_of_ble_eq_true rfl) k) (fun hr12 hb13 => ?_)
      refine J_ite (fun hc14 => ?_) (fun hc14 => ?_)
      · refine J.mono (fun k => s_if_eq_t rfl hc14 (w_aload_n rfl rfl (w_getR (r := 1) rfl (Nat.le_of_ble_eq_true rfl) S_0 rfl (w_bipush rfl (bip_c rfl) k)))) ?_
        refine J_c (fun p16 e15 => ?_)
        refine J_hyp (fun k => c_vi1 rfl (fun ho hM => cal_tx_takes (by omega)  e15 ho hM) v_tx_takes (Nat.le_of_ble_eq_true rfl) S_1 rfl (Nat.le_of_ble_eq_true rfl) k) (fun hr17 hb18 => ?_)
        refine J_ite (fun hc19 => ?_) (fun hc19 => ?_)
        · refine J.mono (fun k => s_if_ne_f rfl hc19 (w_aload_n rfl rfl (w_getR (r := 1) rfl (Nat.le_of_ble_eq_true rfl) S_0 rfl k))) ?_
          refine J_hyp (fun k => c_vi0 rfl (fun ho hM => cal_tx_wrong (by omega)   ho hM) v_tx_wrong (Nat.le_of_ble_eq_true rfl) S_1 rfl (Nat.le_of_ble_eq_true rfl) k) (fun hr21 hb22 => ?_)
          exact J_some (fun k => w_ireturn rfl rfl k)
        · refine J.mono (fun k => s_if_ne_t rfl hc19 (s_iinc1 rfl (Nat.le_of_ble_eq_true rfl) (w_goto rfl k))) ?_
          exact J_some (fun k => w_forget (wk_k (wk_k wk_0)) k)
      · refine J.mono (fun k => s_if_eq_f rfl hc14 (w_iload_n rfl rfl (w_iconst rfl (inR_c rfl) (w_iadd rfl (w_aload_n rfl rfl (w_getR (r := 3) rfl (Nat.le_of_ble_eq_true rfl) S_0 rfl (w_getI rfl (sc_S is_sc_3).1 (sc_S is_sc_3).2 rfl (w_isub rfl k)))))))) ?_
        exact J_some (fun k => w_ireturn rfl rfl k)
set_option maxRecDepth 20000 in
set_option maxHeartbeats 4000000 in
theorem Jl_dh_readLines_b8 {Δ : DT} {Γ : FT} {d : Nat} (hd : 3 ≤ d + 1)    : ∀ (n : Nat) (s : Int × MEM), J (iter (fun s => dh_readLines_b8  s.1 s.2) n s) (X_dh_readLines_b8 Δ Γ d ) (HD_dh_readLines_b8 Δ Γ d  s) := J_iter (fun s => Jb_dh_readLines_b8 hd )
set_option maxRecDepth 20000 in
set_option maxHeartbeats 4000000 in
theorem J_dh_readLines {Δ : DT} {Γ : FT} {d : Nat} (hd : 3 ≤ d + 1)   {M : MEM} : J (dh_readLines M) (K_IM Δ Γ m_dh_readLines) (WAt Δ Γ false m_dh_readLines (d + 1) 0 [vR (0), vN] [] (NG, S0, M) 0 0) := by
  unfold dh_readLines
  refine J.mono (fun k => w_aload_n rfl rfl (w_getR (r := 3) rfl (Nat.le_of_ble_eq_true rfl) S_0 rfl (w_getI rfl (sc_S is_sc_3).1 (sc_S is_sc_3).2 rfl (s_istore1 rfl (Nat.le_of_ble_eq_true rfl) k)))) ?_
  refine J.mono (fun k => w_forget (wk_k (wk_k wk_0)) k) ?_
  refine J_loop (Jl_dh_readLines_b8 hd  _ _) (fun w23 => ?_)
  refine J_elim (fun r => J_some (fun k => k)) (fun w23 => ?_)
  refine J.mono (fun k => w_aload_n rfl rfl (w_getR (r := 1) rfl (Nat.le_of_ble_eq_true rfl) S_0 rfl k)) ?_
  refine J_hyp (fun k => c_vi0 rfl (fun ho hM => cal_tx_wrong (by omega)   ho hM) v_tx_wrong (Nat.le_of_ble_eq_true rfl) S_1 rfl (Nat.le_of_ble_eq_true rfl) k) (fun hr25 hb26 => ?_)
  exact J_some (fun k => w_ireturn rfl rfl k)
set_option maxRecDepth 20000 in
set_option maxHeartbeats 4000000 in
theorem cal_dh_readLines {Δ : DT} {d : Nat} (hd : 3 ≤ d)   {M : MEM} {p : Int × MEM} (h : dh_readLines M = some p) (ho : okVs [vR 0]) (hM : okM M) : Cal Δ false m_dh_readLines d [vR 0] (NG, S0, M) (some p.1) (NG, S0, p.2) 0 0 := by
  obtain ⟨d, rfl⟩ : ∃ e, d = e + 1 := ⟨d - 1, by omega⟩
  exact cal_of g_dh_readLines p_dh_readLines (fun v hv => by simp only [List.mem_cons, List.not_mem_nil, or_false] at hv; rcases hv with rfl <;> first | exact Or.inl ⟨_, rfl⟩ | exact Or.inr ⟨_, rfl⟩) ho hM (Nat.le_of_ble_eq_true rfl) (fun Γ _ k => J_dh_readLines hd  _ h k)
set_option maxRecDepth 20000 in
set_option maxHeartbeats 4000000 in
theorem J_hi_clear {Δ : DT} {Γ : FT} {d : Nat}   {M : MEM} : J (hi_clear M) (K_M Δ Γ m_hi_clear) (WAt Δ Γ false m_hi_clear d 0 [vR (45)] [] (NG, S0, M) 0 0) := by
  unfold hi_clear
  refine J.mono (fun k => w_aload_n rfl rfl (w_iconst rfl (inR_c rfl) k)) ?_
  refine J_b ?_
  refine J.mono (fun k => w_putI rfl (Nat.le_of_ble_eq_true rfl) S_45 rfl rfl k) ?_
  exact J_some (fun k => w_return rfl rfl k)
set_option maxRecDepth 20000 in
set_option maxHeartbeats 4000000 in
theorem cal_hi_clear {Δ : DT} {d : Nat} (hd : 0 ≤ d)   {M : MEM} {M1 : MEM} (h : hi_clear M = some M1) (ho : okVs [vR 45]) (hM : okM M) : Cal Δ false m_hi_clear d [vR 45] (NG, S0, M) none (NG, S0, M1) 0 0 := by
  exact cal_of g_hi_clear p_hi_clear (fun v hv => by simp only [List.mem_cons, List.not_mem_nil, or_false] at hv; rcases hv with rfl <;> first | exact Or.inl ⟨_, rfl⟩ | exact Or.inr ⟨_, rfl⟩) ho hM (Nat.le_of_ble_eq_true rfl) (fun Γ _ k => J_hi_clear  _ h k)
set_option maxRecDepth 20000 in
set_option maxHeartbeats 4000000 in
theorem J_tx_begin {Δ : DT} {Γ : FT} {d : Nat} (hd : 1 ≤ d + 1) {x1 : Int}  {M : MEM} : J (tx_begin x1 M) (K_M Δ Γ m_tx_begin) (WAt Δ Γ false m_tx_begin (d + 1) 0 [vR (1), vI (x1)] [] (NG, S0, M) 0 0) := by
  unfold tx_begin
  refine J.mono (fun k => w_aload_n rfl rfl (w_iconst rfl (inR_c rfl) k)) ?_
  refine J_b ?_
  refine J.mono (fun k => w_putI rfl (Nat.le_of_ble_eq_true rfl) S_1 rfl rfl (w_aload_n rfl rfl (w_aload_n rfl rfl (w_getI rfl (Nat.le_of_ble_eq_true rfl) S_1 rfl (w_iload_n rfl rfl k))))) ?_
  refine J.mono (fun k => w_mmin rfl (Nat.le_of_ble_eq_true rfl) k) ?_
  refine J_b ?_
  refine J.mono (fun k => w_putI rfl (Nat.le_of_ble_eq_true rfl) S_1 rfl rfl k) ?_
  exact J_some (fun k => w_return rfl rfl k)
set_option maxRecDepth 20000 in
set_option maxHeartbeats 4000000 in
theorem cal_tx_begin {Δ : DT} {d : Nat} (hd : 1 ≤ d) {x1 : Int}  {M : MEM} {M1 : MEM} (h : tx_begin x1 M = some M1) (ho : okVs [vR 1, vI x1]) (hM : okM M) : Cal Δ false m_tx_begin d [vR 1, vI x1] (NG, S0, M) none (NG, S0, M1) 0 0 := by
  obtain ⟨d, rfl⟩ : ∃ e, d = e + 1 := ⟨d - 1, by omega⟩
  exact cal_of g_tx_begin p_tx_begin (fun v hv => by simp only [List.mem_cons, List.not_mem_nil, or_false] at hv; rcases hv with rfl | rfl <;> first | exact Or.inl ⟨_, rfl⟩ | exact Or.inr ⟨_, rfl⟩) ho hM (Nat.le_of_ble_eq_true rfl) (fun Γ _ k => J_tx_begin hd  _ h k)
set_option maxRecDepth 20000 in
set_option maxHeartbeats 4000000 in
theorem J_tx_empty {Δ : DT} {Γ : FT} {d : Nat}   {M : MEM} : J (tx_empty M) (K_M Δ Γ m_tx_empty) (WAt Δ Γ false m_tx_empty d 0 [vR (1)] [] (NG, S0, M) 0 0) := by
  unfold tx_empty
  refine J.mono (fun k => w_aload_n rfl rfl (w_iconst rfl (inR_c rfl) k)) ?_
  refine J_b ?_
  refine J.mono (fun k => w_putI rfl (Nat.le_of_ble_eq_true rfl) S_1 rfl rfl k) ?_
  exact J_some (fun k => w_return rfl rfl k)
set_option maxRecDepth 20000 in
set_option maxHeartbeats 4000000 in
theorem cal_tx_empty {Δ : DT} {d : Nat} (hd : 0 ≤ d)   {M : MEM} {M1 : MEM} (h : tx_empty M = some M1) (ho : okVs [vR 1]) (hM : okM M) : Cal Δ false m_tx_empty d [vR 1] (NG, S0, M) none (NG, S0, M1) 0 0 := by
  exact cal_of g_tx_empty p_tx_empty (fun v hv => by simp only [List.mem_cons, List.not_mem_nil, or_false] at hv; rcases hv with rfl <;> first | exact Or.inl ⟨_, rfl⟩ | exact Or.inr ⟨_, rfl⟩) ho hM (Nat.le_of_ble_eq_true rfl) (fun Γ _ k => J_tx_empty  _ h k)
set_option maxRecDepth 20000 in
set_option maxHeartbeats 4000000 in
theorem J_dh_stable_j27 {Δ : DT} {Γ : FT} {d : Nat} (hd : 4 ≤ d + 1) {s0 : Int}  {M : MEM} : J (dh_stable_j27 s0 M) (K_IM Δ Γ m_dh_stable) (WAt Δ Γ false m_dh_stable (d + 1) 27 [vR (0), vN] [vI (s0)] (NG, S0, M) 0 0) := by
  unfold dh_stable_j27
  refine J.mono (fun k => s_istore1 rfl (Nat.le_of_ble_eq_true rfl) (w_aload_n rfl rfl (w_getR (r := 1) rfl (Nat.le_of_ble_eq_true rfl) S_0 rfl k))) ?_
  refine J_c (fun M5 e4 => ?_)
  refine J.mono (fun k => c_vv0 rfl (fun ho hM => cal_tx_empty (by omega)  e4 ho hM) v_tx_empty (Nat.le_of_ble_eq_true rfl) S_1 rfl (Nat.le_of_ble_eq_true rfl) (w_iload_n rfl rfl k)) ?_
  refine J_ite (fun hc6 => ?_) (fun hc6 => ?_)
  · refine J.mono (fun k => s_if_le_t rfl hc6 (w_iload_n rfl rfl k)) ?_
    exact J_some (fun k => w_ireturn rfl rfl k)
  · refine J.mono (fun k => s_if_le_f rfl hc6 (w_aload_n rfl rfl (w_getR (r := 3) rfl (Nat.le_of_ble_eq_true rfl) S_0 rfl (w_dup rfl (fun _ h => by cases h) (w_getI rfl (sc_S is_sc_3).1 (sc_S is_sc_3).2 rfl (w_iload_n rfl rfl (w_iadd rfl k))))))) ?_
    refine J_b ?_
    refine J.mono (fun k => w_putI rfl (sc_S is_sc_3).1 (sc_S is_sc_3).2 rfl rfl (w_aload_n rfl rfl (w_getR (r := 45) rfl (Nat.le_of_ble_eq_true rfl) S_0 rfl k))) ?_
    refine J_c (fun M9 e8 => ?_)
    refine J.mono (fun k => c_vv0 rfl (fun ho hM => cal_hi_clear (by omega)  e8 ho hM) v_hi_clear (Nat.le_of_ble_eq_true rfl) S_45 rfl (Nat.le_of_ble_eq_true rfl) (w_iload_n rfl rfl k)) ?_
    exact J_some (fun k => w_ireturn rfl rfl k)
set_option maxRecDepth 20000 in
set_option maxHeartbeats 4000000 in
theorem J_dh_stable {Δ : DT} {Γ : FT} {d : Nat} (hd : 4 ≤ d + 1)   {M : MEM} : J (dh_stable M) (K_IM Δ Γ m_dh_stable) (WAt Δ Γ false m_dh_stable (d + 1) 0 [vR (0), vN] [] (NG, S0, M) 0 0) := by
  unfold dh_stable
  refine J.mono (fun k => w_aload_n rfl rfl (w_getR (r := 1) rfl (Nat.le_of_ble_eq_true rfl) S_0 rfl (w_bipush rfl (bip_c rfl) k))) ?_
  refine J_c (fun M2 e1 => ?_)
  refine J.mono (fun k => c_vv1 rfl (fun ho hM => cal_tx_begin (by omega)  e1 ho hM) v_tx_begin (Nat.le_of_ble_eq_true rfl) S_1 rfl (Nat.le_of_ble_eq_true rfl) (w_aload_n rfl rfl (w_getR (r := 1) rfl (Nat.le_of_ble_eq_true rfl) S_0 rfl (w_getI rfl (Nat.le_of_ble_eq_true rfl) S_1 rfl k)))) ?_
  refine J_ite (fun hc3 => ?_) (fun hc3 => ?_)
  · refine J.mono (fun k => s_if_ne_f rfl hc3 (w_iconst rfl (inR_c rfl) (w_goto rfl k))) ?_
    exact J.mono (fun k => w_forget (wk_k (wk_d wk_0)) k) (J_dh_stable_j27 hd )
  · refine J.mono (fun k => s_if_ne_t rfl hc3 (w_aload_n rfl rfl k)) ?_
    refine J_c (fun p11 e10 => ?_)
    refine J_hyp (fun k => c_vi0 rfl (fun ho hM => cal_dh_readLines (by omega)  e10 ho hM) v_dh_readLines (Nat.le_of_ble_eq_true rfl) S_0 rfl (Nat.le_of_ble_eq_true rfl) k) (fun hr12 hb13 => ?_)
    exact J.mono (fun k => w_forget (wk_k (wk_d wk_0)) k) (J_dh_stable_j27 hd )
set_option maxRecDepth 20000 in
set_option maxHeartbeats 4000000 in
theorem cal_dh_stable {Δ : DT} {d : Nat} (hd : 4 ≤ d)   {M : MEM} {p : Int × MEM} (h : dh_stable M = some p) (ho : okVs [vR 0]) (hM : okM M) : Cal Δ false m_dh_stable d [vR 0] (NG, S0, M) (some p.1) (NG, S0, p.2) 0 0 := by
  obtain ⟨d, rfl⟩ : ∃ e, d = e + 1 := ⟨d - 1, by omega⟩
  exact cal_of g_dh_stable p_dh_stable (fun v hv => by simp only [List.mem_cons, List.not_mem_nil, or_false] at hv; rcases hv with rfl <;> first | exact Or.inl ⟨_, rfl⟩ | exact Or.inr ⟨_, rfl⟩) ho hM (Nat.le_of_ble_eq_true rfl) (fun Γ _ k => J_dh_stable hd  _ h k)
abbrev HD_fl_read_b2 (Δ : DT) (Γ : FT) (d : Nat)  (s : Int × MEM) : Prop := WAt Δ Γ false m_fl_read (d + 1) 2 [vR (19), vR (1), vI (s.1)] [] (NG, S0, s.2) 0 0
abbrev X_fl_read_b2 (Δ : DT) (Γ : FT) (d : Nat)  (s : Int × MEM) : Prop := WAt Δ Γ false m_fl_read (d + 1) 21 [vR (19), vR (1), vN] [] (NG, S0, s.2) 0 0
set_option maxRecDepth 20000 in
set_option maxHeartbeats 4000000 in
theorem Jb_fl_read_b2 {Δ : DT} {Γ : FT} {d : Nat} (hd : 2 ≤ d + 1)   {x2 : Int} {M : MEM} : J (fl_read_b2  x2 M) (Sum.elim (HD_fl_read_b2 Δ Γ d ) (X_fl_read_b2 Δ Γ d )) (WAt Δ Γ false m_fl_read (d + 1) 2 [vR (19), vR (1), vI (x2)] [] (NG, S0, M) 0 0) := by
  unfold fl_read_b2
  refine J.mono (fun k => w_iload_n rfl rfl (w_bipush rfl (bip_c rfl) k)) ?_
  refine J_ite (fun hc1 => ?_) (fun hc1 => ?_)
  · refine J.mono (fun k => s_icmp_ge_t rfl hc1 k) ?_
    exact J_some (fun k => w_forget (wk_k (wk_k (wk_d wk_0))) k)
  · refine J.mono (fun k => s_icmp_ge_f rfl hc1 (w_aload_n rfl rfl k)) ?_
    refine J_c (fun p3 e2 => ?_)
    refine J_hyp (fun k => c_vi0 rfl (fun ho hM => cal_tx_digit (by omega)  e2 ho hM) v_tx_digit (Nat.le_of_ble_eq_true rfl) S_1 rfl (Nat.le_of_ble_eq_true rfl) k) (fun hr4 hb5 => ?_)
    refine J_ite (fun hc6 => ?_) (fun hc6 => ?_)
    · refine J.mono (fun k => s_if_lt_t rfl hc6 k) ?_
      exact J_some (fun k => w_forget (wk_k (wk_k (wk_d wk_0))) k)
    · refine J.mono (fun k => s_if_lt_f rfl hc6 (s_iinc2 rfl (Nat.le_of_ble_eq_true rfl) (w_goto rfl k))) ?_
      exact J_some (fun k => w_forget (wk_k (wk_k (wk_k wk_0))) k)
set_option maxRecDepth 20000 in
set_option maxHeartbeats 4000000 in
theorem Jl_fl_read_b2 {Δ : DT} {Γ : FT} {d : Nat} (hd : 2 ≤ d + 1)    : ∀ (n : Nat) (s : Int × MEM), J (iter (fun s => fl_read_b2  s.1 s.2) n s) (X_fl_read_b2 Δ Γ d ) (HD_fl_read_b2 Δ Γ d  s) := J_iter (fun s => Jb_fl_read_b2 hd )
abbrev HD_fl_read_b49 (Δ : DT) (Γ : FT) (d : Nat)  (s : Int × MEM) : Prop := WAt Δ Γ false m_fl_read (d + 1) 49 [vR (19), vR (1), vI (s.1)] [] (NG, S0, s.2) 0 0
abbrev X_fl_read_b49 (Δ : DT) (Γ : FT) (d : Nat)  (s : Int × MEM) : Prop := WAt Δ Γ false m_fl_read (d + 1) 79 [vR (19), vN, vN] [] (NG, S0, s.2) 0 0
set_option maxRecDepth 20000 in
set_option maxHeartbeats 4000000 in
theorem Jb_fl_read_b49 {Δ : DT} {Γ : FT} {d : Nat} (hd : 2 ≤ d + 1)   {x2 : Int} {M : MEM} : J (fl_read_b49  x2 M) (Sum.elim (HD_fl_read_b49 Δ Γ d ) (X_fl_read_b49 Δ Γ d )) (WAt Δ Γ false m_fl_read (d + 1) 49 [vR (19), vR (1), vI (x2)] [] (NG, S0, M) 0 0) := by
  unfold fl_read_b49
  refine J.mono (fun k => w_iload_n rfl rfl (w_aload_n rfl rfl (w_getI rfl (Nat.le_of_ble_eq_true rfl) S_19 rfl k))) ?_
  refine J_ite (fun hc18 => ?_) (fun hc18 => ?_)
  · refine J.mono (fun k => s_icmp_ge_t rfl hc18 k) ?_
    exact J_some (fun k => w_forget (wk_k (wk_d (wk_d wk_0))) k)
  · refine J.mono (fun k => s_icmp_ge_f rfl hc18 (w_iload_n rfl rfl (w_bipush rfl (bip_c rfl) k))) ?_
    refine J_ite (fun hc19 => ?_) (fun hc19 => ?_)
    · refine J.mono (fun k => s_icmp_ge_t rfl hc19 k) ?_
      exact J_some (fun k => w_forget (wk_k (wk_d (wk_d wk_0))) k)
    · refine J.mono (fun k => s_icmp_ge_f rfl hc19 (w_aload_n rfl rfl (w_getR (r := 20) rfl (Nat.le_of_ble_eq_true rfl) S_19 rfl (w_iload_n rfl rfl (w_aload_n rfl rfl k))))) ?_
      refine J_c (fun p21 e20 => ?_)
      refine J_hyp (fun k => c_vi0 rfl (fun ho hM => cal_tx_digit (by omega)  e20 ho hM) v_tx_digit (Nat.le_of_ble_eq_true rfl) S_1 rfl (Nat.le_of_ble_eq_true rfl) k) (fun hr22 hb23 => ?_)
      refine J_chk (fun hi25 => ?_)
      refine J_b ?_
      refine J.mono (fun k => w_iast rfl A_20.1 A_20.2 hi25.1 hi25.2 rfl (s_iinc2 rfl (Nat.le_of_ble_eq_true rfl) (w_goto rfl k))) ?_
      exact J_some (fun k => w_forget (wk_k (wk_k (wk_k wk_0))) k)
set_option maxRecDepth 20000 in
set_option maxHeartbeats 4000000 in
theorem Jl_fl_read_b49 {Δ : DT} {Γ : FT} {d : Nat} (hd : 2 ≤ d + 1)    : ∀ (n : Nat) (s : Int × MEM), J (iter (fun s => fl_read_b49  s.1 s.2) n s) (X_fl_read_b49 Δ Γ d ) (HD_fl_read_b49 Δ Γ d  s) := J_iter (fun s => Jb_fl_read_b49 hd )
set_option maxRecDepth 20000 in
set_option maxHeartbeats 4000000 in
theorem J_fl_read_j21 {Δ : DT} {Γ : FT} {d : Nat} (hd : 2 ≤ d + 1)   {M : MEM} : J (fl_read_j21  M) (K_IM Δ Γ m_fl_read) (WAt Δ Γ false m_fl_read (d + 1) 21 [vR (19), vR (1), vN] [] (NG, S0, M) 0 0) := by
  unfold fl_read_j21
  refine J.mono (fun k => w_aload_n rfl rfl k) ?_
  refine J_hyp (fun k => c_vi0 rfl (fun ho hM => cal_tx_isOver (by omega)   ho hM) v_tx_isOver (Nat.le_of_ble_eq_true rfl) S_1 rfl (Nat.le_of_ble_eq_true rfl) k) (fun hr9 hb10 => ?_)
  refine J_ite (fun hc11 => ?_) (fun hc11 => ?_)
  · refine J.mono (fun k => s_if_ne_f rfl hc11 (w_aload_n rfl rfl k)) ?_
    refine J_hyp (fun k => c_vi0 rfl (fun ho hM => cal_tx_wrong (by omega)   ho hM) v_tx_wrong (Nat.le_of_ble_eq_true rfl) S_1 rfl (Nat.le_of_ble_eq_true rfl) k) (fun hr13 hb14 => ?_)
    exact J_some (fun k => w_ireturn rfl rfl k)
  · refine J.mono (fun k => s_if_ne_t rfl hc11 (w_aload_n rfl rfl (w_bipush rfl (bip_c rfl) k))) ?_
    refine J_c (fun M16 e15 => ?_)
    refine J.mono (fun k => c_vv1 rfl (fun ho hM => cal_tx_begin (by omega)  e15 ho hM) v_tx_begin (Nat.le_of_ble_eq_true rfl) S_1 rfl (Nat.le_of_ble_eq_true rfl) (w_aload_n rfl rfl (w_aload_n rfl rfl (w_getI rfl (Nat.le_of_ble_eq_true rfl) S_1 rfl k)))) ?_
    refine J_b ?_
    refine J.mono (fun k => w_putI rfl (Nat.le_of_ble_eq_true rfl) S_19 rfl rfl (w_iconst rfl (inR_c rfl) (s_istore2 rfl (Nat.le_of_ble_eq_true rfl) k))) ?_
    refine J.mono (fun k => w_forget (wk_k (wk_k (wk_k wk_0))) k) ?_
    refine J_loop (Jl_fl_read_b49 hd  _ _) (fun w26 => ?_)
    refine J.mono (fun k => w_aload_n rfl rfl (w_getI rfl (Nat.le_of_ble_eq_true rfl) S_19 rfl k)) ?_
    exact J_some (fun k => w_ireturn rfl rfl k)
set_option maxRecDepth 20000 in
set_option maxHeartbeats 4000000 in
theorem J_fl_read {Δ : DT} {Γ : FT} {d : Nat} (hd : 2 ≤ d + 1)   {M : MEM} : J (fl_read M) (K_IM Δ Γ m_fl_read) (WAt Δ Γ false m_fl_read (d + 1) 0 [vR (19), vR (1), vN] [] (NG, S0, M) 0 0) := by
  unfold fl_read
  refine J.mono (fun k => w_iconst rfl (inR_c rfl) (s_istore2 rfl (Nat.le_of_ble_eq_true rfl) k)) ?_
  refine J.mono (fun k => w_forget (wk_k (wk_k (wk_k wk_0))) k) ?_
  refine J_loop (Jl_fl_read_b2 hd  _ _) (fun w7 => ?_)
  exact J.mono (fun k => w_forget (wk_k (wk_k (wk_d wk_0))) k) (J_fl_read_j21 hd )
set_option maxRecDepth 20000 in
set_option maxHeartbeats 4000000 in
theorem cal_fl_read {Δ : DT} {d : Nat} (hd : 2 ≤ d)   {M : MEM} {p : Int × MEM} (h : fl_read M = some p) (ho : okVs [vR 19, vR 1]) (hM : okM M) : Cal Δ false m_fl_read d [vR 19, vR 1] (NG, S0, M) (some p.1) (NG, S0, p.2) 0 0 := by
  obtain ⟨d, rfl⟩ : ∃ e, d = e + 1 := ⟨d - 1, by omega⟩
  exact cal_of g_fl_read p_fl_read (fun v hv => by simp only [List.mem_cons, List.not_mem_nil, or_false] at hv; rcases hv with rfl | rfl <;> first | exact Or.inl ⟨_, rfl⟩ | exact Or.inr ⟨_, rfl⟩) ho hM (Nat.le_of_ble_eq_true rfl) (fun Γ _ k => J_fl_read hd  _ h k)
set_option maxRecDepth 20000 in
set_option maxHeartbeats 4000000 in
theorem J_dh_flies {Δ : DT} {Γ : FT} {d : Nat} (hd : 3 ≤ d + 1)   {M : MEM} : J (dh_flies M) (K_IM Δ Γ m_dh_flies) (WAt Δ Γ false m_dh_flies (d + 1) 0 [vR (0), vN] [] (NG, S0, M) 0 0) := by
  unfold dh_flies
  refine J.mono (fun k => w_aload_n rfl rfl (w_getR (r := 1) rfl (Nat.le_of_ble_eq_true rfl) S_0 rfl (w_bipush rfl (bip_c rfl) k))) ?_
  refine J_c (fun M2 e1 => ?_)
  refine J.mono (fun k => c_vv1 rfl (fun ho hM => cal_tx_begin (by omega)  e1 ho hM) v_tx_begin (Nat.le_of_ble_eq_true rfl) S_1 rfl (Nat.le_of_ble_eq_true rfl) (w_aload_n rfl rfl (w_getR (r := 19) rfl (Nat.le_of_ble_eq_true rfl) S_0 rfl (w_aload_n rfl rfl (w_getR (r := 1) rfl (Nat.le_of_ble_eq_true rfl) S_0 rfl k))))) ?_
  refine J_c (fun p4 e3 => ?_)
  refine J_hyp (fun k => c_vi1 rfl (fun ho hM => cal_fl_read (by omega)  e3 ho hM) v_fl_read (Nat.le_of_ble_eq_true rfl) S_19 rfl (Nat.le_of_ble_eq_true rfl) k) (fun hr5 hb6 => ?_)
  refine J.mono (fun k => s_istore1 rfl (Nat.le_of_ble_eq_true rfl) (w_aload_n rfl rfl (w_getR (r := 1) rfl (Nat.le_of_ble_eq_true rfl) S_0 rfl k))) ?_
  refine J_c (fun M8 e7 => ?_)
  refine J.mono (fun k => c_vv0 rfl (fun ho hM => cal_tx_empty (by omega)  e7 ho hM) v_tx_empty (Nat.le_of_ble_eq_true rfl) S_1 rfl (Nat.le_of_ble_eq_true rfl) (w_iload_n rfl rfl k)) ?_
  exact J_some (fun k => w_ireturn rfl rfl k)
set_option maxRecDepth 20000 in
set_option maxHeartbeats 4000000 in
theorem cal_dh_flies {Δ : DT} {d : Nat} (hd : 3 ≤ d)   {M : MEM} {p : Int × MEM} (h : dh_flies M = some p) (ho : okVs [vR 0]) (hM : okM M) : Cal Δ false m_dh_flies d [vR 0] (NG, S0, M) (some p.1) (NG, S0, p.2) 0 0 := by
  obtain ⟨d, rfl⟩ : ∃ e, d = e + 1 := ⟨d - 1, by omega⟩
  exact cal_of g_dh_flies p_dh_flies (fun v hv => by simp only [List.mem_cons, List.not_mem_nil, or_false] at hv; rcases hv with rfl <;> first | exact Or.inl ⟨_, rfl⟩ | exact Or.inr ⟨_, rfl⟩) ho hM (Nat.le_of_ble_eq_true rfl) (fun Γ _ k => J_dh_flies hd  _ h k)
set_option maxRecDepth 20000 in
set_option maxHeartbeats 4000000 in
theorem J_ru_copy {Δ : DT} {Γ : FT} {d : Nat} (hd : 1 ≤ d + 1) {a0 : Nat} {a1 : Nat} (h_a0 : is_ru a0) (h_a1 : is_ru a1) {M : MEM} : J (ru_copy a0 a1 M) (K_M Δ Γ m_ru_copy) (WAt Δ Γ false m_ru_copy (d + 1) 0 [vR (a0), vR (a1)] [] (NG, S0, M) 0 0) := by
  unfold ru_copy
  refine J.mono (fun k => w_aload_n rfl rfl (w_aload_n rfl rfl (w_getI rfl (ru_S h_a1).1 (ru_S h_a1).2 rfl k))) ?_
  refine J_b ?_
  refine J.mono (fun k => w_putI rfl (ru_S h_a0).1 (ru_S h_a0).2 rfl rfl (w_aload_n rfl rfl (w_getR (r := (a1 + 1)) rfl (ru_S h_a1).1 (ru_S h_a1).2 rfl (w_iconst rfl (inR_c rfl) (w_aload_n rfl rfl (w_getR (r := (a0 + 1)) rfl (ru_S h_a0).1 (ru_S h_a0).2 rfl (w_iconst rfl (inR_c rfl) (w_bipush rfl (bip_c rfl) k)))))))) ?_
  refine J_b ?_
  refine J.mono (fun k => w_copy rfl (Nat.le_of_ble_eq_true rfl) (ru_f0 h_a1).1 (ru_f0 h_a1).2 (ru_f0 h_a0).1 (ru_f0 h_a0).2 (by decide) (by decide) (by decide) rfl k) ?_
  exact J_some (fun k => w_return rfl rfl k)
set_option maxRecDepth 20000 in
set_option maxHeartbeats 4000000 in
theorem cal_ru_copy {Δ : DT} {d : Nat} (hd : 1 ≤ d) {a0 : Nat} {a1 : Nat} (h_a0 : is_ru a0) (h_a1 : is_ru a1) {M : MEM} {M1 : MEM} (h : ru_copy a0 a1 M = some M1) (ho : okVs [vR a0, vR a1]) (hM : okM M) : Cal Δ false m_ru_copy d [vR a0, vR a1] (NG, S0, M) none (NG, S0, M1) 0 0 := by
  obtain ⟨d, rfl⟩ : ∃ e, d = e + 1 := ⟨d - 1, by omega⟩
  exact cal_of g_ru_copy p_ru_copy (fun v hv => by simp only [List.mem_cons, List.not_mem_nil, or_false] at hv; rcases hv with rfl | rfl <;> first | exact Or.inl ⟨_, rfl⟩ | exact Or.inr ⟨_, rfl⟩) ho hM (Nat.le_of_ble_eq_true rfl) (fun Γ _ k => J_ru_copy hd h_a0 h_a1 _ h k)
set_option maxRecDepth 20000 in
set_option maxHeartbeats 4000000 in
theorem J_ru_pop {Δ : DT} {Γ : FT} {d : Nat} {a0 : Nat} (h_a0 : is_ru a0) {M : MEM} : J (ru_pop a0 M) (K_IM Δ Γ m_ru_pop) (WAt Δ Γ false m_ru_pop d 0 [vR (a0)] [] (NG, S0, M) 0 0) := by
  unfold ru_pop
  refine J.mono (fun k => w_aload_n rfl rfl (w_getI rfl (ru_S h_a0).1 (ru_S h_a0).2 rfl (w_iconst rfl (inR_c rfl) k))) ?_
  refine J_ite (fun hc1 => ?_) (fun hc1 => ?_)
  · refine J.mono (fun k => s_icmp_lt_t rfl hc1 (w_iconst rfl (inR_c rfl) k)) ?_
    exact J_some (fun k => w_ireturn rfl rfl k)
  · refine J.mono (fun k => s_icmp_lt_f rfl hc1 (w_aload_n rfl rfl (w_getI rfl (ru_S h_a0).1 (ru_S h_a0).2 rfl (w_aload_n rfl rfl (w_getR (r := (a0 + 2)) rfl (ru_S h_a0).1 (ru_S h_a0).2 rfl (w_alen rfl (ru_f1 h_a0).1 (Nat.le_of_ble_eq_true rfl) (ru_f1 h_a0).2 (Nat.le_of_ble_eq_true rfl) k)))))) ?_
    refine J_ite (fun hc2 => ?_) (fun hc2 => ?_)
    · refine J.mono (fun k => s_icmp_le_t rfl hc2 (w_aload_n rfl rfl (w_dup rfl (fun _ h => by cases h) (w_getI rfl (ru_S h_a0).1 (ru_S h_a0).2 rfl (w_iconst rfl (inR_c rfl) (w_isub rfl k)))))) ?_
      refine J_b ?_
      refine J.mono (fun k => w_putI rfl (ru_S h_a0).1 (ru_S h_a0).2 rfl rfl (w_aload_n rfl rfl (w_getR (r := (a0 + 2)) rfl (ru_S h_a0).1 (ru_S h_a0).2 rfl (w_aload_n rfl rfl (w_getI rfl (ru_S h_a0).1 (ru_S h_a0).2 rfl k))))) ?_
      refine J_chk (fun hi4 => ?_)
      refine J.mono (fun k => w_iald rfl (ru_f1 h_a0).1 (ru_f1 h_a0).2 hi4.1 hi4.2 k) ?_
      exact J_some (fun k => w_ireturn rfl rfl k)
    · refine J.mono (fun k => s_icmp_le_f rfl hc2 (w_iconst rfl (inR_c rfl) k)) ?_
      exact J_some (fun k => w_ireturn rfl rfl k)
set_option maxRecDepth 20000 in
set_option maxHeartbeats 4000000 in
theorem cal_ru_pop {Δ : DT} {d : Nat} (hd : 0 ≤ d) {a0 : Nat} (h_a0 : is_ru a0) {M : MEM} {p : Int × MEM} (h : ru_pop a0 M = some p) (ho : okVs [vR a0]) (hM : okM M) : Cal Δ false m_ru_pop d [vR a0] (NG, S0, M) (some p.1) (NG, S0, p.2) 0 0 := by
  exact cal_of g_ru_pop p_ru_pop (fun v hv => by simp only [List.mem_cons, List.not_mem_nil, or_false] at hv; rcases hv with rfl <;> first | exact Or.inl ⟨_, rfl⟩ | exact Or.inr ⟨_, rfl⟩) ho hM (Nat.le_of_ble_eq_true rfl) (fun Γ _ k => J_ru_pop h_a0 _ h k)
set_option maxRecDepth 20000 in
set_option maxHeartbeats 4000000 in
theorem J_ru_emit {Δ : DT} {Γ : FT} {d : Nat} {a0 : Nat} {x1 : Int} (h_a0 : is_ru a0) {M : MEM} : J (ru_emit a0 x1 M) (K_M Δ Γ m_ru_emit) (WAt Δ Γ false m_ru_emit d 0 [vR (a0), vI (x1)] [] (NG, S0, M) 0 0) := by
  unfold ru_emit
  refine J.mono (fun k => w_aload_n rfl rfl (w_getI rfl (ru_S h_a0).1 (ru_S h_a0).2 rfl (w_aload_n rfl rfl (w_getR (r := (a0 + 1)) rfl (ru_S h_a0).1 (ru_S h_a0).2 rfl (w_alen rfl (ru_f0 h_a0).1 (Nat.le_of_ble_eq_true rfl) (ru_f0 h_a0).2 (Nat.le_of_ble_eq_true rfl) k))))) ?_
  refine J_ite (fun hc1 => ?_) (fun hc1 => ?_)
  · refine J.mono (fun k => s_icmp_ge_t rfl hc1 k) ?_
    exact J_some (fun k => w_return rfl rfl k)
  · refine J.mono (fun k => s_icmp_ge_f rfl hc1 (w_aload_n rfl rfl (w_getR (r := (a0 + 1)) rfl (ru_S h_a0).1 (ru_S h_a0).2 rfl (w_aload_n rfl rfl (w_getI rfl (ru_S h_a0).1 (ru_S h_a0).2 rfl (w_iload_n rfl rfl k)))))) ?_
    refine J_chk (fun hi3 => ?_)
    refine J_b ?_
    refine J.mono (fun k => w_iast rfl (ru_f0 h_a0).1 (ru_f0 h_a0).2 hi3.1 hi3.2 rfl (w_aload_n rfl rfl (w_dup rfl (fun _ h => by cases h) (w_getI rfl (ru_S h_a0).1 (ru_S h_a0).2 rfl (w_iconst rfl (inR_c rfl) (w_iadd rfl k)))))) ?_
    refine J_b ?_
    refine J.mono (fun k => w_putI rfl (ru_S h_a0).1 (ru_S h_a0).2 rfl rfl k) ?_
    exact J_some (fun k => w_return rfl rfl k)
set_option maxRecDepth 20000 in
set_option maxHeartbeats 4000000 in
theorem cal_ru_emit {Δ : DT} {d : Nat} (hd : 0 ≤ d) {a0 : Nat} {x1 : Int} (h_a0 : is_ru a0) {M : MEM} {M1 : MEM} (h : ru_emit a0 x1 M = some M1) (ho : okVs [vR a0, vI x1]) (hM : okM M) : Cal Δ false m_ru_emit d [vR a0, vI x1] (NG, S0, M) none (NG, S0, M1) 0 0 := by
  exact cal_of g_ru_emit p_ru_emit (fun v hv => by simp only [List.mem_cons, List.not_mem_nil, or_false] at hv; rcases hv with rfl | rfl <;> first | exact Or.inl ⟨_, rfl⟩ | exact Or.inr ⟨_, rfl⟩) ho hM (Nat.le_of_ble_eq_true rfl) (fun Γ _ k => J_ru_emit h_a0 _ h k)
set_option maxRecDepth 20000 in
set_option maxHeartbeats 4000000 in
theorem J_ru_binding {Δ : DT} {Γ : FT} {d : Nat} {x0 : Int}  {M : MEM} : J (some (ru_binding x0)) (K_I Δ Γ m_ru_binding M) (WAt Δ Γ false m_ru_binding d 0 [vI (x0)] [] (NG, S0, M) 0 0) := by
  unfold ru_binding
  refine J.mono (fun k => w_iload_n rfl rfl k) ?_
  refine J_iteT (fun hk1 => ?_) (fun hk1 => ?_)
  · refine J.mono (fun k => w_lookup (off := 79) (tgt := 80) rfl (by decide) (by rw [hk1] <;> rfl) (by decide) (w_iconst rfl (inR_c rfl) k)) ?_
    exact J_some (fun k => w_ireturn rfl rfl k)
  · refine J_iteT (fun hk2 => ?_) (fun hk2 => ?_)
    · refine J.mono (fun k => w_lookup (off := 77) (tgt := 78) rfl (by decide) (by rw [hk2] <;> rfl) (by decide) (w_iconst rfl (inR_c rfl) k)) ?_
      exact J_some (fun k => w_ireturn rfl rfl k)
    · refine J_iteT (fun hk3 => ?_) (fun hk3 => ?_)
      · refine J.mono (fun k => w_lookup (off := 77) (tgt := 78) rfl (by decide) (by rw [hk3] <;> rfl) (by decide) (w_iconst rfl (inR_c rfl) k)) ?_
        exact J_some (fun k => w_ireturn rfl rfl k)
      · refine J_iteT (fun hk4 => ?_) (fun hk4 => ?_)
        · refine J.mono (fun k => w_lookup (off := 79) (tgt := 80) rfl (by decide) (by rw [hk4] <;> rfl) (by decide) (w_iconst rfl (inR_c rfl) k)) ?_
          exact J_some (fun k => w_ireturn rfl rfl k)
        · refine J_iteT (fun hk5 => ?_) (fun hk5 => ?_)
          · refine J.mono (fun k => w_lookup (off := 75) (tgt := 76) rfl (by decide) (by rw [hk5] <;> rfl) (by decide) (w_iconst rfl (inR_c rfl) k)) ?_
            exact J_some (fun k => w_ireturn rfl rfl k)
          · refine J_iteT (fun hk6 => ?_) (fun hk6 => ?_)
            · refine J.mono (fun k => w_lookup (off := 75) (tgt := 76) rfl (by decide) (by rw [hk6] <;> rfl) (by decide) (w_iconst rfl (inR_c rfl) k)) ?_
              exact J_some (fun k => w_ireturn rfl rfl k)
            · refine J_iteT (fun hk7 => ?_) (fun hk7 => ?_)
              · refine J.mono (fun k => w_lookup (off := 75) (tgt := 76) rfl (by decide) (by rw [hk7] <;> rfl) (by decide) (w_iconst rfl (inR_c rfl) k)) ?_
                exact J_some (fun k => w_ireturn rfl rfl k)
              · refine J_iteT (fun hk8 => ?_) (fun hk8 => ?_)
                · refine J.mono (fun k => w_lookup (off := 81) (tgt := 82) rfl (by decide) (by rw [hk8] <;> rfl) (by decide) (w_iconst rfl (inR_c rfl) k)) ?_
                  exact J_some (fun k => w_ireturn rfl rfl k)
                · refine J.mono (fun k => w_lookDef (keys := [(42), (43), (45), (47), (60), (61), (62), (256)]) (tgt := 84) rfl (by decide) (by simp only [nokey]; exact ⟨hk1, hk2, hk3, hk4, hk5, hk6, hk7, hk8, trivial⟩) (by decide) (by decide) (w_iconst rfl (inR_c rfl) k)) ?_
                  exact J_some (fun k => w_ireturn rfl rfl k)
set_option maxRecDepth 20000 in
set_option maxHeartbeats 4000000 in
theorem cal_ru_binding {Δ : DT} {d : Nat} (hd : 0 ≤ d) {x0 : Int}  {M : MEM} (ho : okVs [vI x0]) (hM : okM M) : Cal Δ false m_ru_binding d [vI x0] (NG, S0, M) (some (ru_binding x0)) (NG, S0, M) 0 0 := by
  exact cal_of g_ru_binding p_ru_binding (fun v hv => by simp only [List.mem_cons, List.not_mem_nil, or_false] at hv; rcases hv with rfl <;> first | exact Or.inl ⟨_, rfl⟩ | exact Or.inr ⟨_, rfl⟩) ho hM (Nat.le_of_ble_eq_true rfl) (fun Γ _ k => J_ru_binding  _ rfl k)
set_option maxRecDepth 20000 in
set_option maxHeartbeats 4000000 in
theorem J_ru_waiting {Δ : DT} {Γ : FT} {d : Nat} (hd : 1 ≤ d + 1) {a0 : Nat} (h_a0 : is_ru a0) {M : MEM} : J (ru_waiting a0 M) (K_I Δ Γ m_ru_waiting M) (WAt Δ Γ false m_ru_waiting (d + 1) 0 [vR (a0)] [] (NG, S0, M) 0 0) := by
  unfold ru_waiting
  refine J.mono (fun k => w_aload_n rfl rfl (w_getI rfl (ru_S h_a0).1 (ru_S h_a0).2 rfl k)) ?_
  refine J_ite (fun hc1 => ?_) (fun hc1 => ?_)
  · refine J.mono (fun k => s_if_le_t rfl hc1 (w_iconst rfl (inR_c rfl) k)) ?_
    exact J_some (fun k => w_ireturn rfl rfl k)
  · refine J.mono (fun k => s_if_le_f rfl hc1 (w_aload_n rfl rfl (w_getI rfl (ru_S h_a0).1 (ru_S h_a0).2 rfl (w_aload_n rfl rfl (w_getR (r := (a0 + 2)) rfl (ru_S h_a0).1 (ru_S h_a0).2 rfl (w_alen rfl (ru_f1 h_a0).1 (Nat.le_of_ble_eq_true rfl) (ru_f1 h_a0).2 (Nat.le_of_ble_eq_true rfl) k)))))) ?_
    refine J_ite (fun hc2 => ?_) (fun hc2 => ?_)
    · refine J.mono (fun k => s_icmp_gt_t rfl hc2 (w_iconst rfl (inR_c rfl) k)) ?_
      exact J_some (fun k => w_ireturn rfl rfl k)
    · refine J.mono (fun k => s_icmp_gt_f rfl hc2 (w_aload_n rfl rfl (w_getR (r := (a0 + 2)) rfl (ru_S h_a0).1 (ru_S h_a0).2 rfl (w_aload_n rfl rfl (w_getI rfl (ru_S h_a0).1 (ru_S h_a0).2 rfl (w_iconst rfl (inR_c rfl) (w_isub rfl k))))))) ?_
      refine J_chk (fun hi3 => ?_)
      refine J.mono (fun k => w_iald rfl (ru_f1 h_a0).1 (ru_f1 h_a0).2 hi3.1 hi3.2 k) ?_
      refine J_hyp (fun k => c_si1 rfl rfl (fun ho hM => cal_ru_binding (by omega)   ho hM) v_ru_binding (Nat.le_of_ble_eq_true rfl) k) (fun hr5 hb6 => ?_)
      refine J.mono (fun k => w_goto rfl k) ?_
      exact J_some (fun k => w_ireturn rfl rfl k)
set_option maxRecDepth 20000 in
set_option maxHeartbeats 4000000 in
theorem cal_ru_waiting {Δ : DT} {d : Nat} (hd : 1 ≤ d) {a0 : Nat} (h_a0 : is_ru a0) {M : MEM} {r : Int} (h : ru_waiting a0 M = some r) (ho : okVs [vR a0]) (hM : okM M) : Cal Δ false m_ru_waiting d [vR a0] (NG, S0, M) (some r) (NG, S0, M) 0 0 := by
  obtain ⟨d, rfl⟩ : ∃ e, d = e + 1 := ⟨d - 1, by omega⟩
  exact cal_of g_ru_waiting p_ru_waiting (fun v hv => by simp only [List.mem_cons, List.not_mem_nil, or_false] at hv; rcases hv with rfl <;> first | exact Or.inl ⟨_, rfl⟩ | exact Or.inr ⟨_, rfl⟩) ho hM (Nat.le_of_ble_eq_true rfl) (fun Γ _ k => J_ru_waiting hd h_a0 _ h k)
abbrev HD_ru_unwind_b5 (Δ : DT) (Γ : FT) (d : Nat) (a0 : Nat) (x1 : Int) (s : Int × MEM) : Prop := WAt Δ Γ false m_ru_unwind (d + 1) 5 [vR (a0), vI (x1), vI (s.1)] [] (NG, S0, s.2) 0 0
abbrev X_ru_unwind_b5 (Δ : DT) (Γ : FT) (d : Nat) (a0 : Nat) (x1 : Int) (s : Int × MEM) : Prop := WAt Δ Γ false m_ru_unwind (d + 1) 35 [vN, vN, vN] [] (NG, S0, s.2) 0 0
set_option maxRecDepth 20000 in
set_option maxHeartbeats 4000000 in
theorem Jb_ru_unwind_b5 {Δ : DT} {Γ : FT} {d : Nat} (hd : 2 ≤ d + 1) {a0 : Nat} {x1 : Int} (h_a0 : is_ru a0) {x2 : Int} {M : MEM} : J (ru_unwind_b5 a0 x1 x2 M) (Sum.elim (HD_ru_unwind_b5 Δ Γ d a0 x1) (X_ru_unwind_b5 Δ Γ d a0 x1)) (WAt Δ Γ false m_ru_unwind (d + 1) 5 [vR (a0), vI (x1), vI (x2)] [] (NG, S0, M) 0 0) := by
  unfold ru_unwind_b5
  refine J.mono (fun k => w_iload_n rfl rfl k) ?_
  refine J_ite (fun hc1 => ?_) (fun hc1 => ?_)
  · refine J.mono (fun k => s_if_le_t rfl hc1 k) ?_
    exact J_some (fun k => w_forget (wk_d (wk_d (wk_d wk_0))) k)
  · refine J.mono (fun k => s_if_le_f rfl hc1 (w_aload_n rfl rfl k)) ?_
    refine J_c (fun r3 e2 => ?_)
    refine J_hyp (fun k => c_vi0 rfl (fun ho hM => cal_ru_waiting (by omega) h_a0 e2 ho hM) v_ru_waiting (ru_S h_a0).1 (ru_S h_a0).2 rfl (Nat.le_of_ble_eq_true rfl) k) (fun hr4 hb5 => ?_)
    refine J.mono (fun k => w_iload_n rfl rfl k) ?_
    refine J_ite (fun hc6 => ?_) (fun hc6 => ?_)
    · refine J.mono (fun k => s_icmp_lt_t rfl hc6 k) ?_
      exact J_some (fun k => w_forget (wk_d (wk_d (wk_d wk_0))) k)
    · refine J.mono (fun k => s_icmp_lt_f rfl hc6 (w_aload_n rfl rfl (w_sipush rfl (sip_c rfl) (w_aload_n rfl rfl k)))) ?_
      refine J_c (fun p8 e7 => ?_)
      refine J_hyp (fun k => c_vi0 rfl (fun ho hM => cal_ru_pop (by omega) h_a0 e7 ho hM) v_ru_pop (ru_S h_a0).1 (ru_S h_a0).2 rfl (Nat.le_of_ble_eq_true rfl) k) (fun hr9 hb10 => ?_)
      refine J.mono (fun k => w_iadd rfl k) ?_
      refine J_c (fun M12 e11 => ?_)
      refine J.mono (fun k => c_vv1 rfl (fun ho hM => cal_ru_emit (by omega) h_a0 e11 ho hM) v_ru_emit (ru_S h_a0).1 (ru_S h_a0).2 rfl (Nat.le_of_ble_eq_true rfl) (s_iinc2 rfl (Nat.le_of_ble_eq_true rfl) (w_goto rfl k))) ?_
      exact J_some (fun k => w_forget (wk_k (wk_k (wk_k wk_0))) k)
set_option maxRecDepth 20000 in
set_option maxHeartbeats 4000000 in
theorem Jl_ru_unwind_b5 {Δ : DT} {Γ : FT} {d : Nat} (hd : 2 ≤ d + 1) {a0 : Nat} {x1 : Int} (h_a0 : is_ru a0)  : ∀ (n : Nat) (s : Int × MEM), J (iter (fun s => ru_unwind_b5 a0 x1 s.1 s.2) n s) (X_ru_unwind_b5 Δ Γ d a0 x1) (HD_ru_unwind_b5 Δ Γ d a0 x1 s) := J_iter (fun s => Jb_ru_unwind_b5 hd h_a0)
set_option maxRecDepth 20000 in
set_option maxHeartbeats 4000000 in
theorem J_ru_unwind {Δ : DT} {Γ : FT} {d : Nat} (hd : 2 ≤ d + 1) {a0 : Nat} {x1 : Int} (h_a0 : is_ru a0) {M : MEM} : J (ru_unwind a0 x1 M) (K_M Δ Γ m_ru_unwind) (WAt Δ Γ false m_ru_unwind (d + 1) 0 [vR (a0), vI (x1), vN] [] (NG, S0, M) 0 0) := by
  unfold ru_unwind
  refine J.mono (fun k => w_aload_n rfl rfl (w_getI rfl (ru_S h_a0).1 (ru_S h_a0).2 rfl (s_istore2 rfl (Nat.le_of_ble_eq_true rfl) k))) ?_
  refine J.mono (fun k => w_forget (wk_k (wk_k (wk_k wk_0))) k) ?_
  refine J_loop (Jl_ru_unwind_b5 hd h_a0 _ _) (fun w13 => ?_)
  exact J_some (fun k => w_return rfl rfl k)
set_option maxRecDepth 20000 in
set_option maxHeartbeats 4000000 in
theorem cal_ru_unwind {Δ : DT} {d : Nat} (hd : 2 ≤ d) {a0 : Nat} {x1 : Int} (h_a0 : is_ru a0) {M : MEM} {M1 : MEM} (h : ru_unwind a0 x1 M = some M1) (ho : okVs [vR a0, vI x1]) (hM : okM M) : Cal Δ false m_ru_unwind d [vR a0, vI x1] (NG, S0, M) none (NG, S0, M1) 0 0 := by
  obtain ⟨d, rfl⟩ : ∃ e, d = e + 1 := ⟨d - 1, by omega⟩
  exact cal_of g_ru_unwind p_ru_unwind (fun v hv => by simp only [List.mem_cons, List.not_mem_nil, or_false] at hv; rcases hv with rfl | rfl <;> first | exact Or.inl ⟨_, rfl⟩ | exact Or.inr ⟨_, rfl⟩) ho hM (Nat.le_of_ble_eq_true rfl) (fun Γ _ k => J_ru_unwind hd h_a0 _ h k)
abbrev HD_ru_closeBrackets_b0 (Δ : DT) (Γ : FT) (d : Nat) (a0 : Nat) (s : MEM) : Prop := WAt Δ Γ false m_ru_closeBrackets (d + 1) 0 [vR (a0), vR (1)] [] (NG, S0, s) 0 0
abbrev X_ru_closeBrackets_b0 (Δ : DT) (Γ : FT) (d : Nat) (a0 : Nat) (s : MEM) : Prop := WAt Δ Γ false m_ru_closeBrackets (d + 1) 39 [vN, vN] [] (NG, S0, s) 0 0
set_option maxRecDepth 20000 in
set_option maxHeartbeats 4000000 in
theorem Jb_ru_closeBrackets_b0 {Δ : DT} {Γ : FT} {d : Nat} (hd : 3 ≤ d + 1) {a0 : Nat} (h_a0 : is_ru a0)  {M : MEM} : J (ru_closeBrackets_b0 a0  M) (Sum.elim (HD_ru_closeBrackets_b0 Δ Γ d a0) (X_ru_closeBrackets_b0 Δ Γ d a0)) (WAt Δ Γ false m_ru_closeBrackets (d + 1) 0 [vR (a0), vR (1)] [] (NG, S0, M) 0 0) := by
  unfold ru_closeBrackets_b0
  refine J.mono (fun k => w_aload_n rfl rfl (w_getI rfl (ru_S h_a0).1 (ru_S h_a0).2 rfl k)) ?_
  refine J_ite (fun hc14 => ?_) (fun hc14 => ?_)
  · refine J.mono (fun k => s_if_le_t rfl hc14 k) ?_
    exact J_some (fun k => w_forget (wk_d (wk_d wk_0)) k)
  · refine J.mono (fun k => s_if_le_f rfl hc14 (w_aload_n rfl rfl (w_bipush rfl (bip_c rfl) k))) ?_
    refine J_c (fun p16 e15 => ?_)
    refine J_hyp (fun k => c_vi1 rfl (fun ho hM => cal_tx_takes (by omega)  e15 ho hM) v_tx_takes (Nat.le_of_ble_eq_true rfl) S_1 rfl (Nat.le_of_ble_eq_true rfl) k) (fun hr17 hb18 => ?_)
    refine J_ite (fun hc19 => ?_) (fun hc19 => ?_)
    · refine J.mono (fun k => s_if_eq_t rfl hc19 k) ?_
      exact J_some (fun k => w_forget (wk_d (wk_d wk_0)) k)
    · refine J.mono (fun k => s_if_eq_f rfl hc19 (w_aload_n rfl rfl (w_iconst rfl (inR_c rfl) k))) ?_
      refine J_c (fun M21 e20 => ?_)
      refine J.mono (fun k => c_vv1 rfl (fun ho hM => cal_ru_unwind (by omega) h_a0 e20 ho hM) v_ru_unwind (ru_S h_a0).1 (ru_S h_a0).2 rfl (Nat.le_of_ble_eq_true rfl) (w_aload_n rfl rfl k)) ?_
      refine J_c (fun p23 e22 => ?_)
      refine J_hyp (fun k => c_vi0 rfl (fun ho hM => cal_ru_pop (by omega) h_a0 e22 ho hM) v_ru_pop (ru_S h_a0).1 (ru_S h_a0).2 rfl (Nat.le_of_ble_eq_true rfl) k) (fun hr24 hb25 => ?_)
      refine J.mono (fun k => w_pop rfl (fun _ h => by cases h) (w_aload_n rfl rfl (w_dup rfl (fun _ h => by cases h) (w_getI rfl (ru_S h_a0).1 (ru_S h_a0).2 rfl (w_iconst rfl (inR_c rfl) (w_isub rfl k)))))) ?_
      refine J_b ?_
      refine J.mono (fun k => w_putI rfl (ru_S h_a0).1 (ru_S h_a0).2 rfl rfl (w_goto rfl k)) ?_
      exact J_some (fun k => w_forget (wk_k (wk_k wk_0)) k)
set_option maxRecDepth 20000 in
set_option maxHeartbeats 4000000 in
theorem Jl_ru_closeBrackets_b0 {Δ : DT} {Γ : FT} {d : Nat} (hd : 3 ≤ d + 1) {a0 : Nat} (h_a0 : is_ru a0)  : ∀ (n : Nat) (s : MEM), J (iter (fun s => ru_closeBrackets_b0 a0  s) n s) (X_ru_closeBrackets_b0 Δ Γ d a0) (HD_ru_closeBrackets_b0 Δ Γ d a0 s) := J_iter (fun s => Jb_ru_closeBrackets_b0 hd h_a0)
set_option maxRecDepth 20000 in
set_option maxHeartbeats 4000000 in
theorem J_ru_closeBrackets {Δ : DT} {Γ : FT} {d : Nat} (hd : 3 ≤ d + 1) {a0 : Nat} (h_a0 : is_ru a0) {M : MEM} : J (ru_closeBrackets a0 M) (K_M Δ Γ m_ru_closeBrackets) (WAt Δ Γ false m_ru_closeBrackets (d + 1) 0 [vR (a0), vR (1)] [] (NG, S0, M) 0 0) := by
  unfold ru_closeBrackets
  refine J.mono (fun k => w_aload_n rfl rfl (w_getI rfl (ru_S h_a0).1 (ru_S h_a0).2 rfl k)) ?_
  refine J_ite (fun hc1 => ?_) (fun hc1 => ?_)
  · refine J.mono (fun k => s_if_le_t rfl hc1 k) ?_
    exact J_some (fun k => w_return rfl rfl k)
  · refine J.mono (fun k => s_if_le_f rfl hc1 (w_aload_n rfl rfl (w_bipush rfl (bip_c rfl) k))) ?_
    refine J_c (fun p3 e2 => ?_)
    refine J_hyp (fun k => c_vi1 rfl (fun ho hM => cal_tx_takes (by omega)  e2 ho hM) v_tx_takes (Nat.le_of_ble_eq_true rfl) S_1 rfl (Nat.le_of_ble_eq_true rfl) k) (fun hr4 hb5 => ?_)
    refine J_ite (fun hc6 => ?_) (fun hc6 => ?_)
    · refine J.mono (fun k => s_if_eq_t rfl hc6 k) ?_
      exact J_some (fun k => w_return rfl rfl k)
    · refine J.mono (fun k => s_if_eq_f rfl hc6 (w_aload_n rfl rfl (w_iconst rfl (inR_c rfl) k))) ?_
      refine J_c (fun M8 e7 => ?_)
      refine J.mono (fun k => c_vv1 rfl (fun ho hM => cal_ru_unwind (by omega) h_a0 e7 ho hM) v_ru_unwind (ru_S h_a0).1 (ru_S h_a0).2 rfl (Nat.le_of_ble_eq_true rfl) (w_aload_n rfl rfl k)) ?_
      refine J_c (fun p10 e9 => ?_)
      refine J_hyp (fun k => c_vi0 rfl (fun ho hM => cal_ru_pop (by omega) h_a0 e9 ho hM) v_ru_pop (ru_S h_a0).1 (ru_S h_a0).2 rfl (Nat.le_of_ble_eq_true rfl) k) (fun hr11 hb12 => ?_)
      refine J.mono (fun k => w_pop rfl (fun _ h => by cases h) (w_aload_n rfl rfl (w_dup rfl (fun _ h => by cases h) (w_getI rfl (ru_S h_a0).1 (ru_S h_a0).2 rfl (w_iconst rfl (inR_c rfl) (w_isub rfl k)))))) ?_
      refine J_b ?_
      refine J.mono (fun k => w_putI rfl (ru_S h_a0).1 (ru_S h_a0).2 rfl rfl (w_goto rfl k)) ?_
      refine J.mono (fun k => w_forget (wk_k (wk_k wk_0)) k) ?_
      refine J_loop (Jl_ru_closeBrackets_b0 hd h_a0 _ _) (fun w27 => ?_)
      exact J_some (fun k => w_return rfl rfl k)
set_option maxRecDepth 20000 in
set_option maxHeartbeats 4000000 in
theorem cal_ru_closeBrackets {Δ : DT} {d : Nat} (hd : 3 ≤ d) {a0 : Nat} (h_a0 : is_ru a0) {M : MEM} {M1 : MEM} (h : ru_closeBrackets a0 M = some M1) (ho : okVs [vR a0, vR 1]) (hM : okM M) : Cal Δ false m_ru_closeBrackets d [vR a0, vR 1] (NG, S0, M) none (NG, S0, M1) 0 0 := by
  obtain ⟨d, rfl⟩ : ∃ e, d = e + 1 := ⟨d - 1, by omega⟩
  exact cal_of g_ru_closeBrackets p_ru_closeBrackets (fun v hv => by simp only [List.mem_cons, List.not_mem_nil, or_false] at hv; rcases hv with rfl | rfl <;> first | exact Or.inl ⟨_, rfl⟩ | exact Or.inr ⟨_, rfl⟩) ho hM (Nat.le_of_ble_eq_true rfl) (fun Γ _ k => J_ru_closeBrackets hd h_a0 _ h k)
set_option maxRecDepth 20000 in
set_option maxHeartbeats 4000000 in
theorem J_ru_push {Δ : DT} {Γ : FT} {d : Nat} {a0 : Nat} {x1 : Int} (h_a0 : is_ru a0) {M : MEM} : J (ru_push a0 x1 M) (K_M Δ Γ m_ru_push) (WAt Δ Γ false m_ru_push d 0 [vR (a0), vI (x1)] [] (NG, S0, M) 0 0) := by
  unfold ru_push
  refine J.mono (fun k => w_aload_n rfl rfl (w_getI rfl (ru_S h_a0).1 (ru_S h_a0).2 rfl k)) ?_
  refine J_ite (fun hc1 => ?_) (fun hc1 => ?_)
  · refine J.mono (fun k => s_if_lt_t rfl hc1 k) ?_
    exact J_some (fun k => w_return rfl rfl k)
  · refine J.mono (fun k => s_if_lt_f rfl hc1 (w_aload_n rfl rfl (w_getI rfl (ru_S h_a0).1 (ru_S h_a0).2 rfl (w_aload_n rfl rfl (w_getR (r := (a0 + 2)) rfl (ru_S h_a0).1 (ru_S h_a0).2 rfl (w_alen rfl (ru_f1 h_a0).1 (Nat.le_of_ble_eq_true rfl) (ru_f1 h_a0).2 (Nat.le_of_ble_eq_true rfl) k)))))) ?_
    refine J_ite (fun hc2 => ?_) (fun hc2 => ?_)
    · refine J.mono (fun k => s_icmp_ge_t rfl hc2 k) ?_
      exact J_some (fun k => w_return rfl rfl k)
    · refine J.mono (fun k => s_icmp_ge_f rfl hc2 (w_aload_n rfl rfl (w_getR (r := (a0 + 2)) rfl (ru_S h_a0).1 (ru_S h_a0).2 rfl (w_aload_n rfl rfl (w_getI rfl (ru_S h_a0).1 (ru_S h_a0).2 rfl (w_iload_n rfl rfl k)))))) ?_
      refine J_chk (fun hi4 => ?_)
      refine J_b ?_
      refine J.mono (fun k => w_iast rfl (ru_f1 h_a0).1 (ru_f1 h_a0).2 hi4.1 hi4.2 rfl (w_aload_n rfl rfl (w_dup rfl (fun _ h => by cases h) (w_getI rfl (ru_S h_a0).1 (ru_S h_a0).2 rfl (w_iconst rfl (inR_c rfl) (w_iadd rfl k)))))) ?_
      refine J_b ?_
      refine J.mono (fun k => w_putI rfl (ru_S h_a0).1 (ru_S h_a0).2 rfl rfl k) ?_
      exact J_some (fun k => w_return rfl rfl k)
set_option maxRecDepth 20000 in
set_option maxHeartbeats 4000000 in
theorem cal_ru_push {Δ : DT} {d : Nat} (hd : 0 ≤ d) {a0 : Nat} {x1 : Int} (h_a0 : is_ru a0) {M : MEM} {M1 : MEM} (h : ru_push a0 x1 M = some M1) (ho : okVs [vR a0, vI x1]) (hM : okM M) : Cal Δ false m_ru_push d [vR a0, vI x1] (NG, S0, M) none (NG, S0, M1) 0 0 := by
  exact cal_of g_ru_push p_ru_push (fun v hv => by simp only [List.mem_cons, List.not_mem_nil, or_false] at hv; rcases hv with rfl | rfl <;> first | exact Or.inl ⟨_, rfl⟩ | exact Or.inr ⟨_, rfl⟩) ho hM (Nat.le_of_ble_eq_true rfl) (fun Γ _ k => J_ru_push h_a0 _ h k)
set_option maxRecDepth 20000 in
set_option maxHeartbeats 4000000 in
theorem J_ru_readOperator_j41 {Δ : DT} {Γ : FT} {d : Nat} (hd : 3 ≤ d + 1) {a0 : Nat} {x2 : Int} (h_a0 : is_ru a0) {M : MEM} : J (ru_readOperator_j41 a0 x2 M) (K_IM Δ Γ m_ru_readOperator) (WAt Δ Γ false m_ru_readOperator (d + 1) 41 [vR (a0), vR (1), vI (x2), vN] [] (NG, S0, M) 0 0) := by
  unfold ru_readOperator_j41
  refine J.mono (fun k => w_aload_n rfl rfl (w_iload_n rfl rfl k)) ?_
  refine J_c (fun M18 e17 => ?_)
  refine J.mono (fun k => c_vv1 rfl (fun ho hM => cal_ru_push (by omega) h_a0 e17 ho hM) v_ru_push (ru_S h_a0).1 (ru_S h_a0).2 rfl (Nat.le_of_ble_eq_true rfl) (w_aload_n rfl rfl (w_iload_n rfl rfl k))) ?_
  refine J_c (fun p20 e19 => ?_)
  refine J_hyp (fun k => c_vi1 rfl (fun ho hM => cal_tx_takes (by omega)  e19 ho hM) v_tx_takes (Nat.le_of_ble_eq_true rfl) S_1 rfl (Nat.le_of_ble_eq_true rfl) k) (fun hr21 hb22 => ?_)
  exact J_some (fun k => w_zreturn rfl rfl (hb22 rfl) k)
set_option maxRecDepth 20000 in
set_option maxHeartbeats 4000000 in
theorem J_ru_readOperator {Δ : DT} {Γ : FT} {d : Nat} (hd : 3 ≤ d + 1) {a0 : Nat} (h_a0 : is_ru a0) {M : MEM} : J (ru_readOperator a0 M) (K_IM Δ Γ m_ru_readOperator) (WAt Δ Γ false m_ru_readOperator (d + 1) 0 [vR (a0), vR (1), vN, vN] [] (NG, S0, M) 0 0) := by
  unfold ru_readOperator
  refine J.mono (fun k => w_aload_n rfl rfl k) ?_
  refine J_c (fun r2 e1 => ?_)
  refine J_hyp (fun k => c_vi0 rfl (fun ho hM => cal_tx_next (by omega)  e1 ho hM) v_tx_next (Nat.le_of_ble_eq_true rfl) S_1 rfl (Nat.le_of_ble_eq_true rfl) k) (fun hr3 hb4 => ?_)
  refine J.mono (fun k => s_istore2 rfl (Nat.le_of_ble_eq_true rfl) (w_iload_n rfl rfl k)) ?_
  refine J_hyp (fun k => c_si1 rfl rfl (fun ho hM => cal_ru_binding (by omega)   ho hM) v_ru_binding (Nat.le_of_ble_eq_true rfl) k) (fun hr6 hb7 => ?_)
  refine J.mono (fun k => s_istore3 rfl (Nat.le_of_ble_eq_true rfl) (w_iload_n rfl rfl (w_iconst rfl (inR_c rfl) k))) ?_
  refine J_ite (fun hc8 => ?_) (fun hc8 => ?_)
  · refine J.mono (fun k => s_icmp_ge_t rfl hc8 (w_aload_n rfl rfl (w_iconst rfl (inR_c rfl) (w_iload_n rfl rfl k)))) ?_
    refine J.mono (fun k => w_mmax rfl (Nat.le_of_ble_eq_true rfl) k) ?_
    refine J_c (fun M10 e9 => ?_)
    refine J.mono (fun k => c_vv1 rfl (fun ho hM => cal_ru_unwind (by omega) h_a0 e9 ho hM) v_ru_unwind (ru_S h_a0).1 (ru_S h_a0).2 rfl (Nat.le_of_ble_eq_true rfl) (w_iload_n rfl rfl (w_iconst rfl (inR_c rfl) k))) ?_
    refine J_ite (fun hc11 => ?_) (fun hc11 => ?_)
    · refine J.mono (fun k => s_icmp_ne_f rfl hc11 (w_aload_n rfl rfl k)) ?_
      refine J_c (fun r13 e12 => ?_)
      refine J_hyp (fun k => c_vi0 rfl (fun ho hM => cal_ru_waiting (by omega) h_a0 e12 ho hM) v_ru_waiting (ru_S h_a0).1 (ru_S h_a0).2 rfl (Nat.le_of_ble_eq_true rfl) k) (fun hr14 hb15 => ?_)
      refine J.mono (fun k => w_iconst rfl (inR_c rfl) k) ?_
      refine J_ite (fun hc16 => ?_) (fun hc16 => ?_)
      · refine J.mono (fun k => s_icmp_ne_f rfl hc16 (w_iconst rfl (inR_c rfl) k)) ?_
        exact J_some (fun k => w_zreturn rfl rfl (Or.inl rfl) k)
      · refine J.mono (fun k => s_icmp_ne_t rfl hc16 k) ?_
        exact J.mono (fun k => w_forget (wk_k (wk_k (wk_k (wk_d wk_0)))) k) (J_ru_readOperator_j41 hd h_a0)
    · refine J.mono (fun k => s_icmp_ne_t rfl hc11 k) ?_
      exact J.mono (fun k => w_forget (wk_k (wk_k (wk_k (wk_d wk_0)))) k) (J_ru_readOperator_j41 hd h_a0)
  · refine J.mono (fun k => s_icmp_ge_f rfl hc8 (w_iconst rfl (inR_c rfl) k)) ?_
    exact J_some (fun k => w_zreturn rfl rfl (Or.inl rfl) k)
set_option maxRecDepth 20000 in
set_option maxHeartbeats 4000000 in
theorem cal_ru_readOperator {Δ : DT} {d : Nat} (hd : 3 ≤ d) {a0 : Nat} (h_a0 : is_ru a0) {M : MEM} {p : Int × MEM} (h : ru_readOperator a0 M = some p) (ho : okVs [vR a0, vR 1]) (hM : okM M) : Cal Δ false m_ru_readOperator d [vR a0, vR 1] (NG, S0, M) (some p.1) (NG, S0, p.2) 0 0 := by
  obtain ⟨d, rfl⟩ : ∃ e, d = e + 1 := ⟨d - 1, by omega⟩
  exact cal_of g_ru_readOperator p_ru_readOperator (fun v hv => by simp only [List.mem_cons, List.not_mem_nil, or_false] at hv; rcases hv with rfl | rfl <;> first | exact Or.inl ⟨_, rfl⟩ | exact Or.inr ⟨_, rfl⟩) ho hM (Nat.le_of_ble_eq_true rfl) (fun Γ _ k => J_ru_readOperator hd h_a0 _ h k)
abbrev HD_ru_readAhead_b2 (Δ : DT) (Γ : FT) (d : Nat) (a0 : Nat) (s : Int × MEM) : Prop := WAt Δ Γ false m_ru_readAhead (d + 1) 2 [vR (a0), vR (1), vI (s.1)] [] (NG, S0, s.2) 0 0
abbrev X_ru_readAhead_b2 (Δ : DT) (Γ : FT) (d : Nat) (a0 : Nat) : (MEM) ⊕ (Int × MEM) → Prop := Sum.elim (K_M Δ Γ m_ru_readAhead) (fun s => WAt Δ Γ false m_ru_readAhead (d + 1) 70 [vN, vN, vN] [] (NG, S0, s.2) 0 0)
set_option maxRecDepth 20000 in
set_option maxHeartbeats 4000000 in
theorem J_ru_readAhead_j64_2 {Δ : DT} {Γ : FT} {d : Nat} (hd : 2 ≤ d + 1) {a0 : Nat} {x2 : Int} (h_a0 : is_ru a0) {M : MEM} : J (ru_readAhead_j64_2 a0 x2 M) (Sum.elim (HD_ru_readAhead_b2 Δ Γ d a0) (X_ru_readAhead_b2 Δ Γ d a0)) (WAt Δ Γ false m_ru_readAhead (d + 1) 64 [vR (a0), vR (1), vI (x2)] [] (NG, S0, M) 0 0) := by
  unfold ru_readAhead_j64_2
  refine J.mono (fun k => s_iinc2 rfl (Nat.le_of_ble_eq_true rfl) (w_goto rfl k)) ?_
  exact J_some (fun k => w_forget (wk_k (wk_k (wk_k wk_0))) k)
set_option maxRecDepth 20000 in
set_option maxHeartbeats 4000000 in
theorem Jb_ru_readAhead_b2 {Δ : DT} {Γ : FT} {d : Nat} (hd : 2 ≤ d + 1) {a0 : Nat} (h_a0 : is_ru a0) {x2 : Int} {M : MEM} : J (ru_readAhead_b2 a0 x2 M) (Sum.elim (HD_ru_readAhead_b2 Δ Γ d a0) (X_ru_readAhead_b2 Δ Γ d a0)) (WAt Δ Γ false m_ru_readAhead (d + 1) 2 [vR (a0), vR (1), vI (x2)] [] (NG, S0, M) 0 0) := by
  unfold ru_readAhead_b2
  refine J.mono (fun k => w_iload_n rfl rfl (w_bipush rfl (bip_c rfl) k)) ?_
  refine J_ite (fun hc1 => ?_) (fun hc1 => ?_)
  · refine J.mono (fun k => s_icmp_ge_t rfl hc1 k) ?_
    exact J_some (fun k => w_forget (wk_d (wk_d (wk_d wk_0))) k)
  · refine J.mono (fun k => s_icmp_ge_f rfl hc1 (w_aload_n rfl rfl (w_bipush rfl (bip_c rfl) k))) ?_
    refine J_c (fun p3 e2 => ?_)
    refine J_hyp (fun k => c_vi1 rfl (fun ho hM => cal_tx_takes (by omega)  e2 ho hM) v_tx_takes (Nat.le_of_ble_eq_true rfl) S_1 rfl (Nat.le_of_ble_eq_true rfl) k) (fun hr4 hb5 => ?_)
    refine J_ite (fun hc6 => ?_) (fun hc6 => ?_)
    · refine J.mono (fun k => s_if_eq_t rfl hc6 (w_aload_n rfl rfl (w_getI rfl (ru_S h_a0).1 (ru_S h_a0).2 rfl (w_iconst rfl (inR_c rfl) k)))) ?_
      refine J_ite (fun hc7 => ?_) (fun hc7 => ?_)
      · refine J.mono (fun k => s_icmp_ge_t rfl hc7 k) ?_
        exact J_some (fun k => w_return rfl rfl k)
      · refine J.mono (fun k => s_icmp_ge_f rfl hc7 (w_aload_n rfl rfl (w_bipush rfl (bip_c rfl) k))) ?_
        refine J_c (fun p9 e8 => ?_)
        refine J_hyp (fun k => c_vi1 rfl (fun ho hM => cal_tx_takes (by omega)  e8 ho hM) v_tx_takes (Nat.le_of_ble_eq_true rfl) S_1 rfl (Nat.le_of_ble_eq_true rfl) k) (fun hr10 hb11 => ?_)
        refine J_ite (fun hc12 => ?_) (fun hc12 => ?_)
        · refine J.mono (fun k => s_if_eq_t rfl hc12 k) ?_
          exact J_some (fun k => w_return rfl rfl k)
        · refine J.mono (fun k => s_if_eq_f rfl hc12 (w_aload_n rfl rfl (w_bipush rfl (bip_c rfl) k))) ?_
          refine J_c (fun M14 e13 => ?_)
          refine J.mono (fun k => c_vv1 rfl (fun ho hM => cal_ru_push (by omega) h_a0 e13 ho hM) v_ru_push (ru_S h_a0).1 (ru_S h_a0).2 rfl (Nat.le_of_ble_eq_true rfl) (w_aload_n rfl rfl (w_dup rfl (fun _ h => by cases h) (w_getI rfl (ru_S h_a0).1 (ru_S h_a0).2 rfl (w_iconst rfl (inR_c rfl) (w_iadd rfl k)))))) ?_
          refine J_b ?_
          refine J.mono (fun k => w_putI rfl (ru_S h_a0).1 (ru_S h_a0).2 rfl rfl (w_goto rfl k)) ?_
          exact J.mono (fun k => w_forget (wk_k (wk_k (wk_k wk_0))) k) (J_ru_readAhead_j64_2 hd h_a0)
    · refine J.mono (fun k => s_if_eq_f rfl hc6 (w_aload_n rfl rfl (w_sipush rfl (sip_c rfl) k))) ?_
      refine J_c (fun M17 e16 => ?_)
      refine J.mono (fun k => c_vv1 rfl (fun ho hM => cal_ru_push (by omega) h_a0 e16 ho hM) v_ru_push (ru_S h_a0).1 (ru_S h_a0).2 rfl (Nat.le_of_ble_eq_true rfl) (w_goto rfl k)) ?_
      exact J.mono (fun k => w_forget (wk_k (wk_k (wk_k wk_0))) k) (J_ru_readAhead_j64_2 hd h_a0)
set_option maxRecDepth 20000 in
set_option maxHeartbeats 4000000 in
theorem Jl_ru_readAhead_b2 {Δ : DT} {Γ : FT} {d : Nat} (hd : 2 ≤ d + 1) {a0 : Nat} (h_a0 : is_ru a0)  : ∀ (n : Nat) (s : Int × MEM), J (iter (fun s => ru_readAhead_b2 a0 s.1 s.2) n s) (X_ru_readAhead_b2 Δ Γ d a0) (HD_ru_readAhead_b2 Δ Γ d a0 s) := J_iter (fun s => Jb_ru_readAhead_b2 hd h_a0)
set_option maxRecDepth 20000 in
set_option maxHeartbeats 4000000 in
theorem J_ru_readAhead {Δ : DT} {Γ : FT} {d : Nat} (hd : 2 ≤ d + 1) {a0 : Nat} (h_a0 : is_ru a0) {M : MEM} : J (ru_readAhead a0 M) (K_M Δ Γ m_ru_readAhead) (WAt Δ Γ false m_ru_readAhead (d + 1) 0 [vR (a0), vR (1), vN] [] (NG, S0, M) 0 0) := by
  unfold ru_readAhead
  refine J.mono (fun k => w_iconst rfl (inR_c rfl) (s_istore2 rfl (Nat.le_of_ble_eq_true rfl) k)) ?_
  refine J.mono (fun k => w_forget (wk_k (wk_k (wk_k wk_0))) k) ?_
  refine J_loop (Jl_ru_readAhead_b2 hd h_a0 _ _) (fun w18 => ?_)
  refine J_elim (fun r => J_some (fun k => k)) (fun w18 => ?_)
  exact J_some (fun k => w_return rfl rfl k)
set_option maxRecDepth 20000 in
set_option maxHeartbeats 4000000 in
theorem cal_ru_readAhead {Δ : DT} {d : Nat} (hd : 2 ≤ d) {a0 : Nat} (h_a0 : is_ru a0) {M : MEM} {M1 : MEM} (h : ru_readAhead a0 M = some M1) (ho : okVs [vR a0, vR 1]) (hM : okM M) : Cal Δ false m_ru_readAhead d [vR a0, vR 1] (NG, S0, M) none (NG, S0, M1) 0 0 := by
  obtain ⟨d, rfl⟩ : ∃ e, d = e + 1 := ⟨d - 1, by omega⟩
  exact cal_of g_ru_readAhead p_ru_readAhead (fun v hv => by simp only [List.mem_cons, List.not_mem_nil, or_false] at hv; rcases hv with rfl | rfl <;> first | exact Or.inl ⟨_, rfl⟩ | exact Or.inr ⟨_, rfl⟩) ho hM (Nat.le_of_ble_eq_true rfl) (fun Γ _ k => J_ru_readAhead hd h_a0 _ h k)
abbrev HD_tx_number_b7 (Δ : DT) (Γ : FT) (d : Nat) (x1 : Int) (s : Int × Int × MEM) : Prop := WAt Δ Γ false m_tx_number (d + 1) 7 [vR (1), vI (x1), vI (s.1), vI (s.2.1), vN] [] (NG, S0, s.2.2) 0 0
abbrev X_tx_number_b7 (Δ : DT) (Γ : FT) (d : Nat) (x1 : Int) : (Int × MEM) ⊕ (Int × Int × MEM) → Prop := Sum.elim (K_IM Δ Γ m_tx_number) (fun s => WAt Δ Γ false m_tx_number (d + 1) 43 [vN, vN, vI (s.1), vN, vN] [] (NG, S0, s.2.2) 0 0)
set_option maxRecDepth 20000 in
set_option maxHeartbeats 4000000 in
theorem Jb_tx_number_b7 {Δ : DT} {Γ : FT} {d : Nat} (hd : 2 ≤ d + 1) {x1 : Int}  {x2 : Int} {x3 : Int} {M : MEM} : J (tx_number_b7 x1 x2 x3 M) (Sum.elim (HD_tx_number_b7 Δ Γ d x1) (X_tx_number_b7 Δ Γ d x1)) (WAt Δ Γ false m_tx_number (d + 1) 7 [vR (1), vI (x1), vI (x2), vI (x3), vN] [] (NG, S0, M) 0 0) := by
  unfold tx_number_b7
  refine J.mono (fun k => w_iload_n rfl rfl (w_iload_n rfl rfl k)) ?_
  refine J_ite (fun hc5 => ?_) (fun hc5 => ?_)
  · refine J.mono (fun k => s_icmp_ge_t rfl hc5 k) ?_
    exact J_some (fun k => w_forget (wk_d (wk_d (wk_k (wk_d (wk_d wk_0))))) k)
  · refine J.mono (fun k => s_icmp_ge_f rfl hc5 (w_iload_n rfl rfl k)) ?_
    refine J_ite (fun hc6 => ?_) (fun hc6 => ?_)
    · refine J.mono (fun k => s_if_lt_t rfl hc6 k) ?_
      exact J_some (fun k => w_forget (wk_d (wk_d (wk_k (wk_d (wk_d wk_0))))) k)
    · refine J.mono (fun k => s_if_lt_f rfl hc6 (w_aload_n rfl rfl k)) ?_
      refine J_c (fun p8 e7 => ?_)
      refine J_hyp (fun k => c_vi0 rfl (fun ho hM => cal_tx_digit (by omega)  e7 ho hM) v_tx_digit (Nat.le_of_ble_eq_true rfl) S_1 rfl (Nat.le_of_ble_eq_true rfl) k) (fun hr9 hb10 => ?_)
      refine J.mono (fun k => s_istore4 rfl (Nat.le_of_ble_eq_true rfl) (w_iload rfl rfl k)) ?_
      refine J_ite (fun hc11 => ?_) (fun hc11 => ?_)
      · refine J.mono (fun k => s_if_ge_t rfl hc11 (w_iload_n rfl rfl (w_bipush rfl (bip_c rfl) (w_imul rfl (w_iload rfl rfl (w_iadd rfl (s_istore2 rfl (Nat.le_of_ble_eq_true rfl) (s_iinc3 rfl (Nat.le_of_ble_eq_true rfl) (w_goto rfl k))))))))) ?_
        exact J_some (fun k => w_forget (wk_k (wk_k (wk_k (wk_k (wk_d wk_0))))) k)
      · refine J.mono (fun k => s_if_ge_f rfl hc11 (w_iload_n rfl rfl k)) ?_
        exact J_some (fun k => w_ireturn rfl rfl k)
set_option maxRecDepth 20000 in
set_option maxHeartbeats 4000000 in
theorem Jl_tx_number_b7 {Δ : DT} {Γ : FT} {d : Nat} (hd : 2 ≤ d + 1) {x1 : Int}   : ∀ (n : Nat) (s : Int × Int × MEM), J (iter (fun s => tx_number_b7 x1 s.1 s.2.1 s.2.2) n s) (X_tx_number_b7 Δ Γ d x1) (HD_tx_number_b7 Δ Γ d x1 s) := J_iter (fun s => Jb_tx_number_b7 hd )
set_option maxRecDepth 20000 in
set_option maxHeartbeats 4000000 in
theorem J_tx_number {Δ : DT} {Γ : FT} {d : Nat} (hd : 2 ≤ d + 1) {x1 : Int}  {M : MEM} : J (tx_number x1 M) (K_IM Δ Γ m_tx_number) (WAt Δ Γ false m_tx_number (d + 1) 0 [vR (1), vI (x1), vN, vN, vN] [] (NG, S0, M) 0 0) := by
  unfold tx_number
  refine J.mono (fun k => w_aload_n rfl rfl k) ?_
  refine J_c (fun p2 e1 => ?_)
  refine J_hyp (fun k => c_vi0 rfl (fun ho hM => cal_tx_digit (by omega)  e1 ho hM) v_tx_digit (Nat.le_of_ble_eq_true rfl) S_1 rfl (Nat.le_of_ble_eq_true rfl) k) (fun hr3 hb4 => ?_)
  refine J.mono (fun k => s_istore2 rfl (Nat.le_of_ble_eq_true rfl) (w_iconst rfl (inR_c rfl) (s_istore3 rfl (Nat.le_of_ble_eq_true rfl) k))) ?_
  refine J.mono (fun k => w_forget (wk_k (wk_k (wk_k (wk_k (wk_d wk_0))))) k) ?_
  refine J_loop (Jl_tx_number_b7 hd  _ _) (fun w12 => ?_)
  refine J_elim (fun r => J_some (fun k => k)) (fun w12 => ?_)
  refine J.mono (fun k => w_iload_n rfl rfl k) ?_
  exact J_some (fun k => w_ireturn rfl rfl k)
set_option maxRecDepth 20000 in
set_option maxHeartbeats 4000000 in
theorem cal_tx_number {Δ : DT} {d : Nat} (hd : 2 ≤ d) {x1 : Int}  {M : MEM} {p : Int × MEM} (h : tx_number x1 M = some p) (ho : okVs [vR 1, vI x1]) (hM : okM M) : Cal Δ false m_tx_number d [vR 1, vI x1] (NG, S0, M) (some p.1) (NG, S0, p.2) 0 0 := by
  obtain ⟨d, rfl⟩ : ∃ e, d = e + 1 := ⟨d - 1, by omega⟩
  exact cal_of g_tx_number p_tx_number (fun v hv => by simp only [List.mem_cons, List.not_mem_nil, or_false] at hv; rcases hv with rfl | rfl <;> first | exact Or.inl ⟨_, rfl⟩ | exact Or.inr ⟨_, rfl⟩) ho hM (Nat.le_of_ble_eq_true rfl) (fun Γ _ k => J_tx_number hd  _ h k)
set_option maxRecDepth 20000 in
set_option maxHeartbeats 4000000 in
theorem J_ru_readThing_j42 {Δ : DT} {Γ : FT} {d : Nat} (hd : 5 ≤ d + 1) {a0 : Nat} {x3 : Int} {s0 : Int} (h_a0 : is_ru a0) {M : MEM} : J (ru_readThing_j42 a0 x3 s0 M) (K_IM Δ Γ m_ru_readThing) (WAt Δ Γ false m_ru_readThing (d + 1) 42 [vR (a0), vR (1), vN, vI (x3), vN] [vI (s0)] (NG, S0, M) 0 0) := by
  unfold ru_readThing_j42
  refine J.mono (fun k => s_istore4 rfl (Nat.le_of_ble_eq_true rfl) (w_iload rfl rfl k)) ?_
  refine J_ite (fun hc13 => ?_) (fun hc13 => ?_)
  · refine J.mono (fun k => s_if_ge_t rfl hc13 (w_aload_n rfl rfl (w_iload_n rfl rfl k))) ?_
    refine J_c (fun p15 e14 => ?_)
    refine J_hyp (fun k => c_vi1 rfl (fun ho hM => cal_tx_takes (by omega)  e14 ho hM) v_tx_takes (Nat.le_of_ble_eq_true rfl) S_1 rfl (Nat.le_of_ble_eq_true rfl) k) (fun hr16 hb17 => ?_)
    refine J.mono (fun k => w_pop rfl (fun _ h => by cases h) (w_aload_n rfl rfl (w_sipush rfl (sip_c rfl) (w_iload rfl rfl (w_iadd rfl k))))) ?_
    refine J_c (fun M19 e18 => ?_)
    refine J.mono (fun k => c_vv1 rfl (fun ho hM => cal_ru_emit (by omega) h_a0 e18 ho hM) v_ru_emit (ru_S h_a0).1 (ru_S h_a0).2 rfl (Nat.le_of_ble_eq_true rfl) (w_iconst rfl (inR_c rfl) k)) ?_
    exact J_some (fun k => w_zreturn rfl rfl (Or.inr rfl) k)
  · refine J.mono (fun k => s_if_ge_f rfl hc13 (w_iconst rfl (inR_c rfl) k)) ?_
    exact J_some (fun k => w_zreturn rfl rfl (Or.inl rfl) k)
set_option maxRecDepth 20000 in
set_option maxHeartbeats 4000000 in
theorem J_ru_readThing {Δ : DT} {Γ : FT} {d : Nat} (hd : 5 ≤ d + 1) {a0 : Nat} (h_a0 : is_ru a0) {M : MEM} : J (ru_readThing a0 M) (K_IM Δ Γ m_ru_readThing) (WAt Δ Γ false m_ru_readThing (d + 1) 0 [vR (a0), vR (1), vN, vN, vN] [] (NG, S0, M) 0 0) := by
  unfold ru_readThing
  refine J.mono (fun k => w_aload_n rfl rfl (w_aload_n rfl rfl k)) ?_
  refine J_c (fun M2 e1 => ?_)
  refine J.mono (fun k => c_vv1 rfl (fun ho hM => cal_ru_readAhead (by omega) h_a0 e1 ho hM) v_ru_readAhead (ru_S h_a0).1 (ru_S h_a0).2 rfl (Nat.le_of_ble_eq_true rfl) (w_aload_n rfl rfl (w_iconst rfl (inR_c rfl) k))) ?_
  refine J_c (fun p4 e3 => ?_)
  refine J_hyp (fun k => c_vi1 rfl (fun ho hM => cal_tx_number (by omega)  e3 ho hM) v_tx_number (Nat.le_of_ble_eq_true rfl) S_1 rfl (Nat.le_of_ble_eq_true rfl) k) (fun hr5 hb6 => ?_)
  refine J.mono (fun k => s_istore2 rfl (Nat.le_of_ble_eq_true rfl) (w_iload_n rfl rfl k)) ?_
  refine J_ite (fun hc7 => ?_) (fun hc7 => ?_)
  · refine J.mono (fun k => s_if_lt_t rfl hc7 (w_aload_n rfl rfl k)) ?_
    refine J_c (fun r9 e8 => ?_)
    refine J_hyp (fun k => c_vi0 rfl (fun ho hM => cal_tx_next (by omega)  e8 ho hM) v_tx_next (Nat.le_of_ble_eq_true rfl) S_1 rfl (Nat.le_of_ble_eq_true rfl) k) (fun hr10 hb11 => ?_)
    refine J.mono (fun k => s_istore3 rfl (Nat.le_of_ble_eq_true rfl) (w_iload_n rfl rfl k)) ?_
    refine J_ite (fun hc12 => ?_) (fun hc12 => ?_)
    · refine J.mono (fun k => s_if_ge_t rfl hc12 k) ?_
      refine J.mono (fun k => w_ixof (by omega) rfl (Nat.le_of_ble_eq_true rfl) k) ?_
      exact J.mono (fun k => w_forget (wk_k (wk_k (wk_d (wk_k (wk_d wk_0))))) k) (J_ru_readThing_j42 hd h_a0)
    · refine J.mono (fun k => s_if_ge_f rfl hc12 (w_iconst rfl (inR_c rfl) (w_goto rfl k))) ?_
      exact J.mono (fun k => w_forget (wk_k (wk_k (wk_d (wk_k (wk_d wk_0))))) k) (J_ru_readThing_j42 hd h_a0)
  · refine J.mono (fun k => s_if_lt_f rfl hc7 (w_aload_n rfl rfl (w_iload_n rfl rfl k))) ?_
    refine J_c (fun M21 e20 => ?_)
    refine J.mono (fun k => c_vv1 rfl (fun ho hM => cal_ru_emit (by omega) h_a0 e20 ho hM) v_ru_emit (ru_S h_a0).1 (ru_S h_a0).2 rfl (Nat.le_of_ble_eq_true rfl) (w_iconst rfl (inR_c rfl) k)) ?_
    exact J_some (fun k => w_zreturn rfl rfl (Or.inr rfl) k)
set_option maxRecDepth 20000 in
set_option maxHeartbeats 4000000 in
theorem cal_ru_readThing {Δ : DT} {d : Nat} (hd : 5 ≤ d) {a0 : Nat} (h_a0 : is_ru a0) {M : MEM} {p : Int × MEM} (h : ru_readThing a0 M = some p) (ho : okVs [vR a0, vR 1]) (hM : okM M) : Cal Δ false m_ru_readThing d [vR a0, vR 1] (NG, S0, M) (some p.1) (NG, S0, p.2) 0 0 := by
  obtain ⟨d, rfl⟩ : ∃ e, d = e + 1 := ⟨d - 1, by omega⟩
  exact cal_of g_ru_readThing p_ru_readThing (fun v hv => by simp only [List.mem_cons, List.not_mem_nil, or_false] at hv; rcases hv with rfl | rfl <;> first | exact Or.inl ⟨_, rfl⟩ | exact Or.inr ⟨_, rfl⟩) ho hM (Nat.le_of_ble_eq_true rfl) (fun Γ _ k => J_ru_readThing hd h_a0 _ h k)
abbrev HD_ru_read_b26 (Δ : DT) (Γ : FT) (d : Nat) (a0 : Nat) (s : Int × MEM) : Prop := WAt Δ Γ false m_ru_read (d + 1) 26 [vR (a0), vR (1), vI (s.1)] [] (NG, S0, s.2) 0 0
abbrev X_ru_read_b26 (Δ : DT) (Γ : FT) (d : Nat) (a0 : Nat) : (Int × MEM) ⊕ (Int × MEM) → Prop := Sum.elim (K_IM Δ Γ m_ru_read) (fun s => WAt Δ Γ false m_ru_read (d + 1) 88 [vN, vN, vN] [] (NG, S0, s.2) 0 0)
set_option maxRecDepth 20000 in
set_option maxHeartbeats 4000000 in
theorem Jb_ru_read_b26 {Δ : DT} {Γ : FT} {d : Nat} (hd : 6 ≤ d + 1) {a0 : Nat} (h_a0 : is_ru a0) {x2 : Int} {M : MEM} : J (ru_read_b26 a0 x2 M) (Sum.elim (HD_ru_read_b26 Δ Γ d a0) (X_ru_read_b26 Δ Γ d a0)) (WAt Δ Γ false m_ru_read (d + 1) 26 [vR (a0), vR (1), vI (x2)] [] (NG, S0, M) 0 0) := by
  unfold ru_read_b26
  refine J.mono (fun k => w_iload_n rfl rfl (w_bipush rfl (bip_c rfl) k)) ?_
  refine J_ite (fun hc8 => ?_) (fun hc8 => ?_)
  · refine J.mono (fun k => s_icmp_ge_t rfl hc8 k) ?_
    exact J_some (fun k => w_forget (wk_d (wk_d (wk_d wk_0))) k)
  · refine J.mono (fun k => s_icmp_ge_f rfl hc8 (w_aload_n rfl rfl (w_aload_n rfl rfl k))) ?_
    refine J_c (fun p10 e9 => ?_)
    refine J_hyp (fun k => c_vi1 rfl (fun ho hM => cal_ru_readThing (by omega) h_a0 e9 ho hM) v_ru_readThing (ru_S h_a0).1 (ru_S h_a0).2 rfl (Nat.le_of_ble_eq_true rfl) k) (fun hr11 hb12 => ?_)
    refine J_ite (fun hc13 => ?_) (fun hc13 => ?_)
    · refine J.mono (fun k => s_if_ne_f rfl hc13 (w_iconst rfl (inR_c rfl) k)) ?_
      exact J_some (fun k => w_zreturn rfl rfl (Or.inl rfl) k)
    · refine J.mono (fun k => s_if_ne_t rfl hc13 (w_aload_n rfl rfl (w_aload_n rfl rfl k))) ?_
      refine J_c (fun M15 e14 => ?_)
      refine J.mono (fun k => c_vv1 rfl (fun ho hM => cal_ru_closeBrackets (by omega) h_a0 e14 ho hM) v_ru_closeBrackets (ru_S h_a0).1 (ru_S h_a0).2 rfl (Nat.le_of_ble_eq_true rfl) (w_aload_n rfl rfl k)) ?_
      refine J_hyp (fun k => c_vi0 rfl (fun ho hM => cal_tx_isOver (by omega)   ho hM) v_tx_isOver (Nat.le_of_ble_eq_true rfl) S_1 rfl (Nat.le_of_ble_eq_true rfl) k) (fun hr17 hb18 => ?_)
      refine J_ite (fun hc19 => ?_) (fun hc19 => ?_)
      · refine J.mono (fun k => s_if_eq_t rfl hc19 (w_aload_n rfl rfl (w_aload_n rfl rfl k))) ?_
        refine J_c (fun p21 e20 => ?_)
        refine J_hyp (fun k => c_vi1 rfl (fun ho hM => cal_ru_readOperator (by omega) h_a0 e20 ho hM) v_ru_readOperator (ru_S h_a0).1 (ru_S h_a0).2 rfl (Nat.le_of_ble_eq_true rfl) k) (fun hr22 hb23 => ?_)
        refine J_ite (fun hc24 => ?_) (fun hc24 => ?_)
        · refine J.mono (fun k => s_if_ne_f rfl hc24 (w_iconst rfl (inR_c rfl) k)) ?_
          exact J_some (fun k => w_zreturn rfl rfl (Or.inl rfl) k)
        · refine J.mono (fun k => s_if_ne_t rfl hc24 (s_iinc2 rfl (Nat.le_of_ble_eq_true rfl) (w_goto rfl k))) ?_
          exact J_some (fun k => w_forget (wk_k (wk_k (wk_k wk_0))) k)
      · refine J.mono (fun k => s_if_eq_f rfl hc19 (w_aload_n rfl rfl (w_iconst rfl (inR_c rfl) k))) ?_
        refine J_c (fun M26 e25 => ?_)
        refine J.mono (fun k => c_vv1 rfl (fun ho hM => cal_ru_unwind (by omega) h_a0 e25 ho hM) v_ru_unwind (ru_S h_a0).1 (ru_S h_a0).2 rfl (Nat.le_of_ble_eq_true rfl) (w_aload_n rfl rfl (w_getI rfl (ru_S h_a0).1 (ru_S h_a0).2 rfl k))) ?_
        refine J_ite (fun hc27 => ?_) (fun hc27 => ?_)
        · refine J.mono (fun k => s_if_ne_f rfl hc27 (w_iconst rfl (inR_c rfl) (w_goto rfl k))) ?_
          exact J_some (fun k => w_zreturn rfl rfl (Or.inr rfl) k)
        · refine J.mono (fun k => s_if_ne_t rfl hc27 (w_iconst rfl (inR_c rfl) k)) ?_
          exact J_some (fun k => w_zreturn rfl rfl (Or.inl rfl) k)
set_option maxRecDepth 20000 in
set_option maxHeartbeats 4000000 in
theorem Jl_ru_read_b26 {Δ : DT} {Γ : FT} {d : Nat} (hd : 6 ≤ d + 1) {a0 : Nat} (h_a0 : is_ru a0)  : ∀ (n : Nat) (s : Int × MEM), J (iter (fun s => ru_read_b26 a0 s.1 s.2) n s) (X_ru_read_b26 Δ Γ d a0) (HD_ru_read_b26 Δ Γ d a0 s) := J_iter (fun s => Jb_ru_read_b26 hd h_a0)
set_option maxRecDepth 20000 in
set_option maxHeartbeats 4000000 in
theorem J_ru_read {Δ : DT} {Γ : FT} {d : Nat} (hd : 6 ≤ d + 1) {a0 : Nat} (h_a0 : is_ru a0) {M : MEM} : J (ru_read a0 M) (K_IM Δ Γ m_ru_read) (WAt Δ Γ false m_ru_read (d + 1) 0 [vR (a0), vR (1), vN] [] (NG, S0, M) 0 0) := by
  unfold ru_read
  refine J.mono (fun k => w_aload_n rfl rfl (w_iconst rfl (inR_c rfl) k)) ?_
  refine J_b ?_
  refine J.mono (fun k => w_putI rfl (ru_S h_a0).1 (ru_S h_a0).2 rfl rfl (w_aload_n rfl rfl (w_iconst rfl (inR_c rfl) k))) ?_
  refine J_b ?_
  refine J.mono (fun k => w_putI rfl (ru_S h_a0).1 (ru_S h_a0).2 rfl rfl (w_aload_n rfl rfl (w_iconst rfl (inR_c rfl) k))) ?_
  refine J_b ?_
  refine J.mono (fun k => w_putI rfl (ru_S h_a0).1 (ru_S h_a0).2 rfl rfl (w_aload_n rfl rfl k)) ?_
  refine J_hyp (fun k => c_vi0 rfl (fun ho hM => cal_tx_isOver (by omega)   ho hM) v_tx_isOver (Nat.le_of_ble_eq_true rfl) S_1 rfl (Nat.le_of_ble_eq_true rfl) k) (fun hr5 hb6 => ?_)
  refine J_ite (fun hc7 => ?_) (fun hc7 => ?_)
  · refine J.mono (fun k => s_if_eq_t rfl hc7 (w_iconst rfl (inR_c rfl) (s_istore2 rfl (Nat.le_of_ble_eq_true rfl) k))) ?_
    refine J.mono (fun k => w_forget (wk_k (wk_k (wk_k wk_0))) k) ?_
    refine J_loop (Jl_ru_read_b26 hd h_a0 _ _) (fun w28 => ?_)
    refine J_elim (fun r => J_some (fun k => k)) (fun w28 => ?_)
    refine J.mono (fun k => w_iconst rfl (inR_c rfl) k) ?_
    exact J_some (fun k => w_zreturn rfl rfl (Or.inl rfl) k)
  · refine J.mono (fun k => s_if_eq_f rfl hc7 (w_iconst rfl (inR_c rfl) k)) ?_
    exact J_some (fun k => w_zreturn rfl rfl (Or.inr rfl) k)
set_option maxRecDepth 20000 in
set_option maxHeartbeats 4000000 in
theorem cal_ru_read {Δ : DT} {d : Nat} (hd : 6 ≤ d) {a0 : Nat} (h_a0 : is_ru a0) {M : MEM} {p : Int × MEM} (h : ru_read a0 M = some p) (ho : okVs [vR a0, vR 1]) (hM : okM M) : Cal Δ false m_ru_read d [vR a0, vR 1] (NG, S0, M) (some p.1) (NG, S0, p.2) 0 0 := by
  obtain ⟨d, rfl⟩ : ∃ e, d = e + 1 := ⟨d - 1, by omega⟩
  exact cal_of g_ru_read p_ru_read (fun v hv => by simp only [List.mem_cons, List.not_mem_nil, or_false] at hv; rcases hv with rfl | rfl <;> first | exact Or.inl ⟨_, rfl⟩ | exact Or.inr ⟨_, rfl⟩) ho hM (Nat.le_of_ble_eq_true rfl) (fun Γ _ k => J_ru_read hd h_a0 _ h k)
set_option maxRecDepth 20000 in
set_option maxHeartbeats 4000000 in
theorem J_dh_rule {Δ : DT} {Γ : FT} {d : Nat} (hd : 7 ≤ d + 1)   {M : MEM} : J (dh_rule M) (K_IM Δ Γ m_dh_rule) (WAt Δ Γ false m_dh_rule (d + 1) 0 [vR (0), vN, vN] [] (NG, S0, M) 0 0) := by
  unfold dh_rule
  refine J.mono (fun k => w_aload_n rfl rfl (w_getR (r := 1) rfl (Nat.le_of_ble_eq_true rfl) S_0 rfl (w_bipush rfl (bip_c rfl) k))) ?_
  refine J_c (fun M2 e1 => ?_)
  refine J.mono (fun k => c_vv1 rfl (fun ho hM => cal_tx_begin (by omega)  e1 ho hM) v_tx_begin (Nat.le_of_ble_eq_true rfl) S_1 rfl (Nat.le_of_ble_eq_true rfl) (w_aload_n rfl rfl (w_getR (r := 25) rfl (Nat.le_of_ble_eq_true rfl) S_0 rfl (w_aload_n rfl rfl (w_getR (r := 1) rfl (Nat.le_of_ble_eq_true rfl) S_0 rfl k))))) ?_
  refine J_c (fun p4 e3 => ?_)
  refine J_hyp (fun k => c_vi1 rfl (fun ho hM => cal_ru_read (by omega) is_ru_25 e3 ho hM) v_ru_read (ru_S is_ru_25).1 (ru_S is_ru_25).2 rfl (Nat.le_of_ble_eq_true rfl) k) (fun hr5 hb6 => ?_)
  refine J.mono (fun k => s_istore1 rfl (Nat.le_of_ble_eq_true rfl) (w_aload_n rfl rfl (w_getR (r := 1) rfl (Nat.le_of_ble_eq_true rfl) S_0 rfl k))) ?_
  refine J_hyp (fun k => c_vi0 rfl (fun ho hM => cal_tx_wrong (by omega)   ho hM) v_tx_wrong (Nat.le_of_ble_eq_true rfl) S_1 rfl (Nat.le_of_ble_eq_true rfl) k) (fun hr8 hb9 => ?_)
  refine J.mono (fun k => s_istore2 rfl (Nat.le_of_ble_eq_true rfl) (w_aload_n rfl rfl (w_getR (r := 1) rfl (Nat.le_of_ble_eq_true rfl) S_0 rfl k))) ?_
  refine J_c (fun M11 e10 => ?_)
  refine J.mono (fun k => c_vv0 rfl (fun ho hM => cal_tx_empty (by omega)  e10 ho hM) v_tx_empty (Nat.le_of_ble_eq_true rfl) S_1 rfl (Nat.le_of_ble_eq_true rfl) (w_iload_n rfl rfl k)) ?_
  refine J_ite (fun hc12 => ?_) (fun hc12 => ?_)
  · refine J.mono (fun k => s_if_ne_f rfl hc12 (w_iload_n rfl rfl k)) ?_
    exact J_some (fun k => w_ireturn rfl rfl k)
  · refine J.mono (fun k => s_if_ne_t rfl hc12 (w_aload_n rfl rfl (w_getR (r := 21) rfl (Nat.le_of_ble_eq_true rfl) S_0 rfl (w_aload_n rfl rfl (w_getR (r := 25) rfl (Nat.le_of_ble_eq_true rfl) S_0 rfl k))))) ?_
    refine J_c (fun M14 e13 => ?_)
    refine J.mono (fun k => c_vv1 rfl (fun ho hM => cal_ru_copy (by omega) is_ru_21 is_ru_25 e13 ho hM) v_ru_copy (ru_S is_ru_21).1 (ru_S is_ru_21).2 rfl (Nat.le_of_ble_eq_true rfl) (w_iconst rfl (inR_c rfl) k)) ?_
    exact J_some (fun k => w_ireturn rfl rfl k)
set_option maxRecDepth 20000 in
set_option maxHeartbeats 4000000 in
theorem cal_dh_rule {Δ : DT} {d : Nat} (hd : 7 ≤ d)   {M : MEM} {p : Int × MEM} (h : dh_rule M = some p) (ho : okVs [vR 0]) (hM : okM M) : Cal Δ false m_dh_rule d [vR 0] (NG, S0, M) (some p.1) (NG, S0, p.2) 0 0 := by
  obtain ⟨d, rfl⟩ : ∃ e, d = e + 1 := ⟨d - 1, by omega⟩
  exact cal_of g_dh_rule p_dh_rule (fun v hv => by simp only [List.mem_cons, List.not_mem_nil, or_false] at hv; rcases hv with rfl <;> first | exact Or.inl ⟨_, rfl⟩ | exact Or.inr ⟨_, rfl⟩) ho hM (Nat.le_of_ble_eq_true rfl) (fun Γ _ k => J_dh_rule hd  _ h k)

