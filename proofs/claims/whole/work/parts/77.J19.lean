abbrev HD_dh_plant_b37 (Δ : DT) (Γ : FT) (d : Nat) (x1 : Int) (x2 : Int) (x3 : Int) (s : Int × Int × Int × MEM) : Prop := WAt Δ Γ false m_dh_plant (d + 1) 37 [vR (0), vI (x1), vI (x2), vI (x3), vI (s.1), vI (s.2.1), vI (s.2.2.1), vN, vN] [] (NG, S0, s.2.2.2) 0 0
abbrev X_dh_plant_b37 (Δ : DT) (Γ : FT) (d : Nat) (x1 : Int) (x2 : Int) (x3 : Int) (s : Int × Int × Int × MEM) : Prop := WAt Δ Γ false m_dh_plant (d + 1) 140 [vR (0), vN, vN, vN, vI (s.1), vI (s.2.1), vN, vN, vN] [] (NG, S0, s.2.2.2) 0 0
set_option maxRecDepth 20000 in
set_option maxHeartbeats 4000000 in
theorem J_dh_plant_j134_37 {Δ : DT} {Γ : FT} {d : Nat} (hd : 5 ≤ d + 1) {x1 : Int} {x2 : Int} {x3 : Int} {x4 : Int} {x5 : Int} {x6 : Int}  {M : MEM} : J (dh_plant_j134_37 x1 x2 x3 x4 x5 x6 M) (Sum.elim (HD_dh_plant_b37 Δ Γ d x1 x2 x3) (X_dh_plant_b37 Δ Γ d x1 x2 x3)) (WAt Δ Γ false m_dh_plant (d + 1) 134 [vR (0), vI (x1), vI (x2), vI (x3), vI (x4), vI (x5), vI (x6), vN, vN] [] (NG, S0, M) 0 0) := by
  unfold dh_plant_j134_37
  refine J.mono (fun k => s_iinc6 rfl (Nat.le_of_ble_eq_true rfl) (w_goto rfl k)) ?_
  exact J_some (fun k => w_forget (wk_k (wk_k (wk_k (wk_k (wk_k (wk_k (wk_k (wk_d (wk_d wk_0))))))))) k)
set_option maxRecDepth 20000 in
set_option maxHeartbeats 4000000 in
theorem J_dh_plant_j117_37 {Δ : DT} {Γ : FT} {d : Nat} (hd : 5 ≤ d + 1) {x1 : Int} {x2 : Int} {x3 : Int} {x4 : Int} {x5 : Int} {x6 : Int} {s0 : Int}  {M : MEM} : J (dh_plant_j117_37 x1 x2 x3 x4 x5 x6 s0 M) (Sum.elim (HD_dh_plant_b37 Δ Γ d x1 x2 x3) (X_dh_plant_b37 Δ Γ d x1 x2 x3)) (WAt Δ Γ false m_dh_plant (d + 1) 117 [vR (0), vI (x1), vI (x2), vI (x3), vI (x4), vI (x5), vI (x6), vN, vN] [vI (s0)] (NG, S0, M) 0 0) := by
  unfold dh_plant_j117_37
  refine J.mono (fun k => s_istore8 rfl (Nat.le_of_ble_eq_true rfl) (w_iload rfl rfl (w_iload rfl rfl k))) ?_
  refine J_ite (fun hc26 => ?_) (fun hc26 => ?_)
  · refine J.mono (fun k => s_icmp_le_t rfl hc26 k) ?_
    exact J.mono (fun k => w_forget (wk_k (wk_k (wk_k (wk_k (wk_k (wk_k (wk_k (wk_d (wk_d wk_0))))))))) k) (J_dh_plant_j134_37 hd )
  · refine J.mono (fun k => s_icmp_le_f rfl hc26 (w_iload rfl rfl (s_istore5 rfl (Nat.le_of_ble_eq_true rfl) (w_iload rfl rfl (s_istore4 rfl (Nat.le_of_ble_eq_true rfl) k))))) ?_
    exact J.mono (fun k => w_forget (wk_k (wk_k (wk_k (wk_k (wk_k (wk_k (wk_k (wk_d (wk_d wk_0))))))))) k) (J_dh_plant_j134_37 hd )
set_option maxRecDepth 20000 in
set_option maxHeartbeats 4000000 in
theorem Jb_dh_plant_b37 {Δ : DT} {Γ : FT} {d : Nat} (hd : 5 ≤ d + 1) {x1 : Int} {x2 : Int} {x3 : Int}  {x4 : Int} {x5 : Int} {x6 : Int} {M : MEM} : J (dh_plant_b37 x1 x2 x3 x4 x5 x6 M) (Sum.elim (HD_dh_plant_b37 Δ Γ d x1 x2 x3) (X_dh_plant_b37 Δ Γ d x1 x2 x3)) (WAt Δ Γ false m_dh_plant (d + 1) 37 [vR (0), vI (x1), vI (x2), vI (x3), vI (x4), vI (x5), vI (x6), vN, vN] [] (NG, S0, M) 0 0) := by
  unfold dh_plant_b37
  refine J.mono (fun k => w_iload rfl rfl (w_aload_n rfl rfl (w_getR (r := 3) rfl (Nat.le_of_ble_eq_true rfl) S_0 rfl (w_getR (r := 4) rfl (sc_S is_sc_3).1 (sc_S is_sc_3).2 rfl (w_iload_n rfl rfl k))))) ?_
  refine J_chk (fun hi11 => ?_)
  refine J.mono (fun k => w_aald rfl (scb_S is_sc_3).1 (Or.inl rfl) (scb_S is_sc_3).2 hi11.1 (scb_get hi11.1 hi11.2) (w_getI rfl (be_S (scb_is is_sc_3 hi11.1 hi11.2)).1 (be_S (scb_is is_sc_3 hi11.1 hi11.2)).2 rfl k)) ?_
  refine J_ite (fun hc12 => ?_) (fun hc12 => ?_)
  · refine J.mono (fun k => s_icmp_ge_t rfl hc12 k) ?_
    exact J_some (fun k => w_forget (wk_k (wk_d (wk_d (wk_d (wk_k (wk_k (wk_d (wk_d (wk_d wk_0))))))))) k)
  · refine J.mono (fun k => s_icmp_ge_f rfl hc12 (w_aload_n rfl rfl (w_aload_n rfl rfl (w_getR (r := 224) rfl (Nat.le_of_ble_eq_true rfl) S_0 rfl (w_iload_n rfl rfl k))))) ?_
    refine J_c (fun M14 e13 => ?_)
    refine J.mono (fun k => c_vv2 rfl (fun ho hM => cal_dh_look (by omega) is_fu_224 e13 ho hM) v_dh_look (Nat.le_of_ble_eq_true rfl) S_0 rfl (Nat.le_of_ble_eq_true rfl) (w_aload_n rfl rfl (w_getR (r := 224) rfl (Nat.le_of_ble_eq_true rfl) S_0 rfl (w_getR (r := 230) rfl (fu_S is_fu_224).1 (fu_S is_fu_224).2 rfl (w_iload rfl rfl (w_bipush rfl (bip_c rfl) (w_aload_n rfl rfl (w_getR (r := 224) rfl (Nat.le_of_ble_eq_true rfl) S_0 rfl (w_getR (r := 230) rfl (fu_S is_fu_224).1 (fu_S is_fu_224).2 rfl (w_iload rfl rfl k)))))))))) ?_
    refine J_c (fun r16 e15 => ?_)
    refine J_hyp (fun k => c_vi1 rfl (fun ho hM => cal_be_thistlesOn (by omega) is_be_230 e15 ho hM) v_be_thistlesOn (be_S is_be_230).1 (be_S is_be_230).2 rfl (Nat.le_of_ble_eq_true rfl) k) (fun hr17 hb18 => ?_)
    refine J.mono (fun k => w_iload_n rfl rfl (w_iadd rfl k)) ?_
    refine J.mono (fun k => w_mmin rfl (Nat.le_of_ble_eq_true rfl) k) ?_
    refine J_c (fun M20 e19 => ?_)
    refine J.mono (fun k => c_vv2 rfl (fun ho hM => cal_be_put (by omega) is_be_230 e19 ho hM) v_be_put (be_S is_be_230).1 (be_S is_be_230).2 rfl (Nat.le_of_ble_eq_true rfl) (w_aload_n rfl rfl (w_getR (r := 224) rfl (Nat.le_of_ble_eq_true rfl) S_0 rfl (w_iload_n rfl rfl k)))) ?_
    refine J_c (fun p22 e21 => ?_)
    refine J_hyp (fun k => c_vi1 rfl (fun ho hM => cal_fu_afterStroke (by omega) is_fu_224 e21 ho hM) v_fu_afterStroke (fu_S is_fu_224).1 (fu_S is_fu_224).2 rfl (Nat.le_of_ble_eq_true rfl) k) (fun hr23 hb24 => ?_)
    refine J.mono (fun k => s_istore7 rfl (Nat.le_of_ble_eq_true rfl) (w_iload rfl rfl k)) ?_
    refine J_ite (fun hc25 => ?_) (fun hc25 => ?_)
    · refine J.mono (fun k => s_if_ge_t rfl hc25 (w_iload rfl rfl k)) ?_
      exact J.mono (fun k => w_forget (wk_k (wk_k (wk_k (wk_k (wk_k (wk_k (wk_k (wk_d (wk_d wk_0))))))))) k) (J_dh_plant_j117_37 hd )
    · refine J.mono (fun k => s_if_ge_f rfl hc25 (w_sipush rfl (sip_c rfl) (w_goto rfl k))) ?_
      exact J.mono (fun k => w_forget (wk_k (wk_k (wk_k (wk_k (wk_k (wk_k (wk_k (wk_d (wk_d wk_0))))))))) k) (J_dh_plant_j117_37 hd )
set_option maxRecDepth 20000 in
set_option maxHeartbeats 4000000 in
theorem Jl_dh_plant_b37 {Δ : DT} {Γ : FT} {d : Nat} (hd : 5 ≤ d + 1) {x1 : Int} {x2 : Int} {x3 : Int}   : ∀ (n : Nat) (s : Int × Int × Int × MEM), J (iter (fun s => dh_plant_b37 x1 x2 x3 s.1 s.2.1 s.2.2.1 s.2.2.2) n s) (X_dh_plant_b37 Δ Γ d x1 x2 x3) (HD_dh_plant_b37 Δ Γ d x1 x2 x3 s) := J_iter (fun s => Jb_dh_plant_b37 hd )
set_option maxRecDepth 20000 in
set_option maxHeartbeats 4000000 in
theorem J_dh_plant_j159 {Δ : DT} {Γ : FT} {d : Nat} (hd : 5 ≤ d + 1) {x4 : Int} {s1 : Int}  {M : MEM} : J (dh_plant_j159 x4 s1 M) (K_IM Δ Γ m_dh_plant) (WAt Δ Γ false m_dh_plant (d + 1) 159 [vN, vN, vN, vN, vI (x4), vN, vN, vN, vN] [vI (s1), vR (0)] (NG, S0, M) 0 0) := by
  unfold dh_plant_j159
  refine J_c (fun M32 e31 => ?_)
  refine J.mono (fun k => c_vv1 rfl (fun ho hM => cal_dh_tell (by omega)  e31 ho hM) v_dh_tell (Nat.le_of_ble_eq_true rfl) S_0 rfl (Nat.le_of_ble_eq_true rfl) (w_iload rfl rfl k)) ?_
  exact J_some (fun k => w_ireturn rfl rfl k)
set_option maxRecDepth 20000 in
set_option maxHeartbeats 4000000 in
theorem J_dh_plant {Δ : DT} {Γ : FT} {d : Nat} (hd : 5 ≤ d + 1) {x1 : Int} {x2 : Int} {x3 : Int}  {M : MEM} : J (dh_plant x1 x2 x3 M) (K_IM Δ Γ m_dh_plant) (WAt Δ Γ false m_dh_plant (d + 1) 0 [vR (0), vI (x1), vI (x2), vI (x3), vN, vN, vN, vN, vN] [] (NG, S0, M) 0 0) := by
  unfold dh_plant
  refine J.mono (fun k => w_aload_n rfl rfl (w_iload_n rfl rfl k)) ?_
  refine J_hyp (fun k => c_vi1 rfl (fun ho hM => cal_dh_isDonkey (by omega)   ho hM) v_dh_isDonkey (Nat.le_of_ble_eq_true rfl) S_0 rfl (Nat.le_of_ble_eq_true rfl) k) (fun hr2 hb3 => ?_)
  refine J_ite (fun hc4 => ?_) (fun hc4 => ?_)
  · refine J.mono (fun k => s_if_eq_t rfl hc4 (w_iconst rfl (inR_c rfl) k)) ?_
    exact J_some (fun k => w_ireturn rfl rfl k)
  · refine J.mono (fun k => s_if_eq_f rfl hc4 (w_iload_n rfl rfl (w_iconst rfl (inR_c rfl) k))) ?_
    refine J_ite (fun hc5 => ?_) (fun hc5 => ?_)
    · refine J.mono (fun k => s_icmp_lt_t rfl hc5 (w_iconst rfl (inR_c rfl) k)) ?_
      exact J_some (fun k => w_ireturn rfl rfl k)
    · refine J.mono (fun k => s_icmp_lt_f rfl hc5 (w_iload_n rfl rfl (w_bipush rfl (bip_c rfl) k))) ?_
      refine J_ite (fun hc6 => ?_) (fun hc6 => ?_)
      · refine J.mono (fun k => s_icmp_gt_t rfl hc6 (w_iconst rfl (inR_c rfl) k)) ?_
        exact J_some (fun k => w_ireturn rfl rfl k)
      · refine J.mono (fun k => s_icmp_gt_f rfl hc6 (w_iload_n rfl rfl k)) ?_
        refine J_hyp (fun k => c_si1 rfl rfl (fun ho hM => cal_dh_isAskedStroke (by omega)   ho hM) v_dh_isAskedStroke (Nat.le_of_ble_eq_true rfl) k) (fun hr8 hb9 => ?_)
        refine J_ite (fun hc10 => ?_) (fun hc10 => ?_)
        · refine J.mono (fun k => s_if_ne_f rfl hc10 (w_iconst rfl (inR_c rfl) k)) ?_
          exact J_some (fun k => w_ireturn rfl rfl k)
        · refine J.mono (fun k => s_if_ne_t rfl hc10 (w_iconst rfl (inR_c rfl) (s_istore4 rfl (Nat.le_of_ble_eq_true rfl) (w_iconst rfl (inR_c rfl) (s_istore5 rfl (Nat.le_of_ble_eq_true rfl) (w_iconst rfl (inR_c rfl) (s_istore6 rfl (Nat.le_of_ble_eq_true rfl) k))))))) ?_
          refine J.mono (fun k => w_forget (wk_k (wk_k (wk_k (wk_k (wk_k (wk_k (wk_k (wk_d (wk_d wk_0))))))))) k) ?_
          refine J_loop (Jl_dh_plant_b37 hd  _ _) (fun w27 => ?_)
          refine J.mono (fun k => w_aload_n rfl rfl k) ?_
          refine J_c (fun M29 e28 => ?_)
          refine J.mono (fun k => c_vv0 rfl (fun ho hM => cal_dh_newRow (by omega)  e28 ho hM) v_dh_newRow (Nat.le_of_ble_eq_true rfl) S_0 rfl (Nat.le_of_ble_eq_true rfl) (w_aload_n rfl rfl (w_iload rfl rfl (w_sipush rfl (sip_c rfl) k)))) ?_
          refine J_ite (fun hc30 => ?_) (fun hc30 => ?_)
          · refine J.mono (fun k => s_icmp_ne_f rfl hc30 (w_iconst rfl (inR_c rfl) (w_goto rfl k))) ?_
            exact J.mono (fun k => w_forget (wk_d (wk_d (wk_d (wk_d (wk_k (wk_d (wk_d (wk_d (wk_d wk_0))))))))) k) (J_dh_plant_j159 hd )
          · refine J.mono (fun k => s_icmp_ne_t rfl hc30 (w_iload rfl rfl k)) ?_
            exact J.mono (fun k => w_forget (wk_d (wk_d (wk_d (wk_d (wk_k (wk_d (wk_d (wk_d (wk_d wk_0))))))))) k) (J_dh_plant_j159 hd )
set_option maxRecDepth 20000 in
set_option maxHeartbeats 4000000 in
theorem cal_dh_plant {Δ : DT} {d : Nat} (hd : 5 ≤ d) {x1 : Int} {x2 : Int} {x3 : Int}  {M : MEM} {p : Int × MEM} (h : dh_plant x1 x2 x3 M = some p) (ho : okVs [vR 0, vI x1, vI x2, vI x3]) (hM : okM M) : Cal Δ false m_dh_plant d [vR 0, vI x1, vI x2, vI x3] (NG, S0, M) (some p.1) (NG, S0, p.2) 0 0 := by
  obtain ⟨d, rfl⟩ : ∃ e, d = e + 1 := ⟨d - 1, by omega⟩
  exact cal_of g_dh_plant p_dh_plant (fun v hv => by simp only [List.mem_cons, List.not_mem_nil, or_false] at hv; rcases hv with rfl | rfl | rfl | rfl <;> first | exact Or.inl ⟨_, rfl⟩ | exact Or.inr ⟨_, rfl⟩) ho hM (Nat.le_of_ble_eq_true rfl) (fun Γ _ k => J_dh_plant hd  _ h k)
set_option maxRecDepth 20000 in
set_option maxHeartbeats 4000000 in
theorem J_dh_keep {Δ : DT} {Γ : FT} {d : Nat} (hd : 4 ≤ d + 1) {x1 : Int}  {M : MEM} : J (dh_keep x1 M) (K_IM Δ Γ m_dh_keep) (WAt Δ Γ false m_dh_keep (d + 1) 0 [vR (0), vI (x1)] [] (NG, S0, M) 0 0) := by
  unfold dh_keep
  refine J.mono (fun k => w_iload_n rfl rfl k) ?_
  refine J_ite (fun hc1 => ?_) (fun hc1 => ?_)
  · refine J.mono (fun k => s_if_lt_t rfl hc1 (w_iconst rfl (inR_c rfl) k)) ?_
    exact J_some (fun k => w_zreturn rfl rfl (Or.inl rfl) k)
  · refine J.mono (fun k => s_if_lt_f rfl hc1 (w_iload_n rfl rfl (w_aload_n rfl rfl (w_getR (r := 223) rfl (Nat.le_of_ble_eq_true rfl) S_0 rfl (w_alenq rfl (Nat.le_of_ble_eq_true rfl) (Or.inr rfl) Q_223 (Nat.le_of_ble_eq_true rfl) k))))) ?_
    refine J_ite (fun hc2 => ?_) (fun hc2 => ?_)
    · refine J.mono (fun k => s_icmp_lt_t rfl hc2 (w_aload_n rfl rfl (w_getR (r := 223) rfl (Nat.le_of_ble_eq_true rfl) S_0 rfl (w_iload_n rfl rfl k)))) ?_
      refine J_chk (fun hi3 => ?_)
      refine J.mono (fun k => w_aald rfl (Nat.le_of_ble_eq_true rfl) (Or.inr rfl) Q_223 hi3.1 (q223_get hi3.1 hi3.2) (w_aload_n rfl rfl (w_getR (r := 3) rfl (Nat.le_of_ble_eq_true rfl) S_0 rfl k))) ?_
      refine J_c (fun M5 e4 => ?_)
      refine J.mono (fun k => c_vv1 rfl (fun ho hM => cal_sc_copyWalk (by omega) (q223_is hi3.1 hi3.2) is_sc_3 e4 ho hM) v_sc_copyWalk (sc_S (q223_is hi3.1 hi3.2)).1 (sc_S (q223_is hi3.1 hi3.2)).2 rfl (Nat.le_of_ble_eq_true rfl) (w_aload_n rfl rfl (w_getR (r := 223) rfl (Nat.le_of_ble_eq_true rfl) S_0 rfl (w_iload_n rfl rfl k)))) ?_
      refine J_chk (fun hi6 => ?_)
      refine J.mono (fun k => w_aald rfl (Nat.le_of_ble_eq_true rfl) (Or.inr rfl) Q_223 hi6.1 (q223_get hi6.1 hi6.2) (w_getR (r := ((246 + 16 * (x1).toNat) + 2)) rfl (sc_S (q223_is hi6.1 hi6.2)).1 (sc_S (q223_is hi6.1 hi6.2)).2 rfl (w_aload_n rfl rfl (w_getR (r := 3) rfl (Nat.le_of_ble_eq_true rfl) S_0 rfl (w_getR (r := 5) rfl (sc_S is_sc_3).1 (sc_S is_sc_3).2 rfl k))))) ?_
      refine J_c (fun M8 e7 => ?_)
      refine J.mono (fun k => c_vv1 rfl (fun ho hM => cal_ca_copy (by omega) (sc_f1 (q223_is hi6.1 hi6.2)) is_ca_5 e7 ho hM) v_ca_copy (ca_S (sc_f1 (q223_is hi6.1 hi6.2))).1 (ca_S (sc_f1 (q223_is hi6.1 hi6.2))).2 rfl (Nat.le_of_ble_eq_true rfl) (w_aload_n rfl rfl (w_getR (r := 223) rfl (Nat.le_of_ble_eq_true rfl) S_0 rfl (w_iload_n rfl rfl k)))) ?_
      refine J_chk (fun hi9 => ?_)
      refine J.mono (fun k => w_aald rfl (Nat.le_of_ble_eq_true rfl) (Or.inr rfl) Q_223 hi9.1 (q223_get hi9.1 hi9.2) (w_iconst rfl (inR_c rfl) k)) ?_
      refine J_b ?_
      refine J.mono (fun k => w_putZ rfl (sc_S (q223_is hi9.1 hi9.2)).1 (sc_S (q223_is hi9.1 hi9.2)).2 rfl rfl (Or.inr rfl) (w_iconst rfl (inR_c rfl) k)) ?_
      exact J_some (fun k => w_zreturn rfl rfl (Or.inr rfl) k)
    · refine J.mono (fun k => s_icmp_lt_f rfl hc2 (w_iconst rfl (inR_c rfl) k)) ?_
      exact J_some (fun k => w_zreturn rfl rfl (Or.inl rfl) k)
set_option maxRecDepth 20000 in
set_option maxHeartbeats 4000000 in
theorem cal_dh_keep {Δ : DT} {d : Nat} (hd : 4 ≤ d) {x1 : Int}  {M : MEM} {p : Int × MEM} (h : dh_keep x1 M = some p) (ho : okVs [vR 0, vI x1]) (hM : okM M) : Cal Δ false m_dh_keep d [vR 0, vI x1] (NG, S0, M) (some p.1) (NG, S0, p.2) 0 0 := by
  obtain ⟨d, rfl⟩ : ∃ e, d = e + 1 := ⟨d - 1, by omega⟩
  exact cal_of g_dh_keep p_dh_keep (fun v hv => by simp only [List.mem_cons, List.not_mem_nil, or_false] at hv; rcases hv with rfl | rfl <;> first | exact Or.inl ⟨_, rfl⟩ | exact Or.inr ⟨_, rfl⟩) ho hM (Nat.le_of_ble_eq_true rfl) (fun Γ _ k => J_dh_keep hd  _ h k)
set_option maxRecDepth 20000 in
set_option maxHeartbeats 4000000 in
theorem J_dh_again {Δ : DT} {Γ : FT} {d : Nat} (hd : 4 ≤ d + 1) {x1 : Int}  {M : MEM} : J (dh_again x1 M) (K_IM Δ Γ m_dh_again) (WAt Δ Γ false m_dh_again (d + 1) 0 [vR (0), vI (x1)] [] (NG, S0, M) 0 0) := by
  unfold dh_again
  refine J.mono (fun k => w_iload_n rfl rfl k) ?_
  refine J_ite (fun hc1 => ?_) (fun hc1 => ?_)
  · refine J.mono (fun k => s_if_lt_t rfl hc1 (w_iconst rfl (inR_c rfl) k)) ?_
    exact J_some (fun k => w_zreturn rfl rfl (Or.inl rfl) k)
  · refine J.mono (fun k => s_if_lt_f rfl hc1 (w_iload_n rfl rfl (w_aload_n rfl rfl (w_getR (r := 223) rfl (Nat.le_of_ble_eq_true rfl) S_0 rfl (w_alenq rfl (Nat.le_of_ble_eq_true rfl) (Or.inr rfl) Q_223 (Nat.le_of_ble_eq_true rfl) k))))) ?_
    refine J_ite (fun hc2 => ?_) (fun hc2 => ?_)
    · refine J.mono (fun k => s_icmp_ge_t rfl hc2 (w_iconst rfl (inR_c rfl) k)) ?_
      exact J_some (fun k => w_zreturn rfl rfl (Or.inl rfl) k)
    · refine J.mono (fun k => s_icmp_ge_f rfl hc2 (w_aload_n rfl rfl (w_getR (r := 223) rfl (Nat.le_of_ble_eq_true rfl) S_0 rfl (w_iload_n rfl rfl k)))) ?_
      refine J_chk (fun hi3 => ?_)
      refine J.mono (fun k => w_aald rfl (Nat.le_of_ble_eq_true rfl) (Or.inr rfl) Q_223 hi3.1 (q223_get hi3.1 hi3.2) (w_getI rfl (sc_S (q223_is hi3.1 hi3.2)).1 (sc_S (q223_is hi3.1 hi3.2)).2 rfl k)) ?_
      refine J_ite (fun hc4 => ?_) (fun hc4 => ?_)
      · refine J.mono (fun k => s_if_eq_t rfl hc4 (w_iconst rfl (inR_c rfl) k)) ?_
        exact J_some (fun k => w_zreturn rfl rfl (Or.inl rfl) k)
      · refine J.mono (fun k => s_if_eq_f rfl hc4 (w_aload_n rfl rfl (w_getR (r := 223) rfl (Nat.le_of_ble_eq_true rfl) S_0 rfl (w_iload_n rfl rfl k)))) ?_
        refine J_chk (fun hi5 => ?_)
        refine J.mono (fun k => w_aald rfl (Nat.le_of_ble_eq_true rfl) (Or.inr rfl) Q_223 hi5.1 (q223_get hi5.1 hi5.2) (w_getI rfl (sc_S (q223_is hi5.1 hi5.2)).1 (sc_S (q223_is hi5.1 hi5.2)).2 rfl (w_aload_n rfl rfl (w_getR (r := 3) rfl (Nat.le_of_ble_eq_true rfl) S_0 rfl (w_getI rfl (sc_S is_sc_3).1 (sc_S is_sc_3).2 rfl k))))) ?_
        refine J_ite (fun hc6 => ?_) (fun hc6 => ?_)
        · refine J.mono (fun k => s_icmp_eq_t rfl hc6 (w_aload_n rfl rfl (w_getR (r := 3) rfl (Nat.le_of_ble_eq_true rfl) S_0 rfl (w_aload_n rfl rfl (w_getR (r := 223) rfl (Nat.le_of_ble_eq_true rfl) S_0 rfl (w_iload_n rfl rfl k)))))) ?_
          refine J_chk (fun hi7 => ?_)
          refine J.mono (fun k => w_aald rfl (Nat.le_of_ble_eq_true rfl) (Or.inr rfl) Q_223 hi7.1 (q223_get hi7.1 hi7.2) k) ?_
          refine J_c (fun M9 e8 => ?_)
          refine J.mono (fun k => c_vv1 rfl (fun ho hM => cal_sc_copyWalk (by omega) is_sc_3 (q223_is hi7.1 hi7.2) e8 ho hM) v_sc_copyWalk (sc_S is_sc_3).1 (sc_S is_sc_3).2 rfl (Nat.le_of_ble_eq_true rfl) (w_aload_n rfl rfl (w_getR (r := 3) rfl (Nat.le_of_ble_eq_true rfl) S_0 rfl (w_getR (r := 5) rfl (sc_S is_sc_3).1 (sc_S is_sc_3).2 rfl (w_aload_n rfl rfl (w_getR (r := 223) rfl (Nat.le_of_ble_eq_true rfl) S_0 rfl (w_iload_n rfl rfl k))))))) ?_
          refine J_chk (fun hi10 => ?_)
          refine J.mono (fun k => w_aald rfl (Nat.le_of_ble_eq_true rfl) (Or.inr rfl) Q_223 hi10.1 (q223_get hi10.1 hi10.2) (w_getR (r := ((246 + 16 * (x1).toNat) + 2)) rfl (sc_S (q223_is hi10.1 hi10.2)).1 (sc_S (q223_is hi10.1 hi10.2)).2 rfl k)) ?_
          refine J_c (fun M12 e11 => ?_)
          refine J.mono (fun k => c_vv1 rfl (fun ho hM => cal_ca_copy (by omega) is_ca_5 (sc_f1 (q223_is hi10.1 hi10.2)) e11 ho hM) v_ca_copy (ca_S is_ca_5).1 (ca_S is_ca_5).2 rfl (Nat.le_of_ble_eq_true rfl) (w_aload_n rfl rfl (w_getR (r := 45) rfl (Nat.le_of_ble_eq_true rfl) S_0 rfl k))) ?_
          refine J_c (fun M14 e13 => ?_)
          refine J.mono (fun k => c_vv0 rfl (fun ho hM => cal_hi_clear (by omega)  e13 ho hM) v_hi_clear (Nat.le_of_ble_eq_true rfl) S_45 rfl (Nat.le_of_ble_eq_true rfl) (w_iconst rfl (inR_c rfl) k)) ?_
          exact J_some (fun k => w_zreturn rfl rfl (Or.inr rfl) k)
        · refine J.mono (fun k => s_icmp_eq_f rfl hc6 (w_iconst rfl (inR_c rfl) k)) ?_
          exact J_some (fun k => w_zreturn rfl rfl (Or.inl rfl) k)
set_option maxRecDepth 20000 in
set_option maxHeartbeats 4000000 in
theorem cal_dh_again {Δ : DT} {d : Nat} (hd : 4 ≤ d) {x1 : Int}  {M : MEM} {p : Int × MEM} (h : dh_again x1 M = some p) (ho : okVs [vR 0, vI x1]) (hM : okM M) : Cal Δ false m_dh_again d [vR 0, vI x1] (NG, S0, M) (some p.1) (NG, S0, p.2) 0 0 := by
  obtain ⟨d, rfl⟩ : ∃ e, d = e + 1 := ⟨d - 1, by omega⟩
  exact cal_of g_dh_again p_dh_again (fun v hv => by simp only [List.mem_cons, List.not_mem_nil, or_false] at hv; rcases hv with rfl | rfl <;> first | exact Or.inl ⟨_, rfl⟩ | exact Or.inr ⟨_, rfl⟩) ho hM (Nat.le_of_ble_eq_true rfl) (fun Γ _ k => J_dh_again hd  _ h k)
set_option maxRecDepth 20000 in
set_option maxHeartbeats 4000000 in
theorem J_dh_count {Δ : DT} {Γ : FT} {d : Nat} (hd : 3 ≤ d + 1) {x1 : Int}  {M : MEM} : J (dh_count x1 M) (K_I Δ Γ m_dh_count M) (WAt Δ Γ false m_dh_count (d + 1) 0 [vR (0), vI (x1)] [] (NG, S0, M) 0 0) := by
  unfold dh_count
  refine J.mono (fun k => w_iload_n rfl rfl k) ?_
  refine J_ite (fun hk1 => ?_) (fun hk1 => ?_)
  · refine J.mono (fun k => w_tabIn (off := 55) (tgt := 56) rfl (by omega) (by omega) (by rw [hk1] <;> rfl) (by decide) (w_aload_n rfl rfl (w_getR (r := 3) rfl (Nat.le_of_ble_eq_true rfl) S_0 rfl (w_getI rfl (sc_S is_sc_3).1 (sc_S is_sc_3).2 rfl k)))) ?_
    exact J_some (fun k => w_ireturn rfl rfl k)
  · refine J_ite (fun hk2 => ?_) (fun hk2 => ?_)
    · refine J.mono (fun k => w_tabIn (off := 63) (tgt := 64) rfl (by omega) (by omega) (by rw [hk2] <;> rfl) (by decide) (w_aload_n rfl rfl (w_getR (r := 3) rfl (Nat.le_of_ble_eq_true rfl) S_0 rfl (w_getI rfl (sc_S is_sc_3).1 (sc_S is_sc_3).2 rfl k)))) ?_
      exact J_some (fun k => w_ireturn rfl rfl k)
    · refine J_ite (fun hk3 => ?_) (fun hk3 => ?_)
      · refine J.mono (fun k => w_tabIn (off := 71) (tgt := 72) rfl (by omega) (by omega) (by rw [hk3] <;> rfl) (by decide) (w_aload_n rfl rfl (w_getR (r := 3) rfl (Nat.le_of_ble_eq_true rfl) S_0 rfl (w_getR (r := 5) rfl (sc_S is_sc_3).1 (sc_S is_sc_3).2 rfl (w_getI rfl (ca_S is_ca_5).1 (ca_S is_ca_5).2 rfl k))))) ?_
        exact J_some (fun k => w_ireturn rfl rfl k)
      · refine J_ite (fun hk4 => ?_) (fun hk4 => ?_)
        · refine J.mono (fun k => w_tabIn (off := 82) (tgt := 83) rfl (by omega) (by omega) (by rw [hk4] <;> rfl) (by decide) (w_aload_n rfl rfl (w_getR (r := 34) rfl (Nat.le_of_ble_eq_true rfl) S_0 rfl (w_getI rfl (Nat.le_of_ble_eq_true rfl) S_34 rfl k)))) ?_
          exact J_some (fun k => w_ireturn rfl rfl k)
        · refine J_ite (fun hk5 => ?_) (fun hk5 => ?_)
          · refine J.mono (fun k => w_tabIn (off := 90) (tgt := 91) rfl (by omega) (by omega) (by rw [hk5] <;> rfl) (by decide) (w_aload_n rfl rfl (w_getR (r := 3) rfl (Nat.le_of_ble_eq_true rfl) S_0 rfl k))) ?_
            refine J_c (fun r7 e6 => ?_)
            refine J_hyp (fun k => c_vi0 rfl (fun ho hM => cal_sc_allStrokes (by omega) is_sc_3 e6 ho hM) v_sc_allStrokes (sc_S is_sc_3).1 (sc_S is_sc_3).2 rfl (Nat.le_of_ble_eq_true rfl) k) (fun hr8 hb9 => ?_)
            exact J_some (fun k => w_ireturn rfl rfl k)
          · refine J_ite (fun hk10 => ?_) (fun hk10 => ?_)
            · refine J.mono (fun k => w_tabIn (off := 98) (tgt := 99) rfl (by omega) (by omega) (by rw [hk10] <;> rfl) (by decide) (w_aload_n rfl rfl (w_getR (r := 3) rfl (Nat.le_of_ble_eq_true rfl) S_0 rfl k))) ?_
              refine J_c (fun r12 e11 => ?_)
              refine J_hyp (fun k => c_vi0 rfl (fun ho hM => cal_sc_allThistles (by omega) is_sc_3 e11 ho hM) v_sc_allThistles (sc_S is_sc_3).1 (sc_S is_sc_3).2 rfl (Nat.le_of_ble_eq_true rfl) k) (fun hr13 hb14 => ?_)
              exact J_some (fun k => w_ireturn rfl rfl k)
            · refine J_ite (fun hk15 => ?_) (fun hk15 => ?_)
              · refine J.mono (fun k => w_tabIn (off := 106) (tgt := 107) rfl (by omega) (by omega) (by rw [hk15] <;> rfl) (by decide) (w_aload_n rfl rfl (w_getR (r := 45) rfl (Nat.le_of_ble_eq_true rfl) S_0 rfl (w_getI rfl (Nat.le_of_ble_eq_true rfl) S_45 rfl k)))) ?_
                exact J_some (fun k => w_ireturn rfl rfl k)
              · refine J_ite (fun hk16 => ?_) (fun hk16 => ?_)
                · refine J.mono (fun k => w_tabIn (off := 114) (tgt := 115) rfl (by omega) (by omega) (by rw [hk16] <;> rfl) (by decide) (w_aload_n rfl rfl (w_getR (r := 41) rfl (Nat.le_of_ble_eq_true rfl) S_0 rfl (w_getI rfl (Nat.le_of_ble_eq_true rfl) S_41 rfl k)))) ?_
                  exact J_some (fun k => w_ireturn rfl rfl k)
                · refine J_ite (fun hk17 => ?_) (fun hk17 => ?_)
                  · refine J.mono (fun k => w_tabIn (off := 122) (tgt := 123) rfl (by omega) (by omega) (by rw [hk17] <;> rfl) (by decide) (w_aload_n rfl rfl (w_getI rfl (Nat.le_of_ble_eq_true rfl) S_0 rfl k))) ?_
                    exact J_some (fun k => w_ireturn rfl rfl k)
                  · refine J_ite (fun hk18 => ?_) (fun hk18 => ?_)
                    · refine J.mono (fun k => w_tabIn (off := 127) (tgt := 128) rfl (by omega) (by omega) (by rw [hk18] <;> rfl) (by decide) (w_aload_n rfl rfl (w_getR (r := 1) rfl (Nat.le_of_ble_eq_true rfl) S_0 rfl (w_getI rfl (Nat.le_of_ble_eq_true rfl) S_1 rfl k)))) ?_
                      exact J_some (fun k => w_ireturn rfl rfl k)
                    · refine J.mono (fun k => w_tabDef (keys := [(0), (1), (2), (3), (4), (5), (6), (7), (8), (9)]) (tgt := 136) rfl (by simp only [nokey]; exact ⟨hk1, hk2, hk3, hk4, hk5, hk10, hk15, hk16, hk17, hk18, trivial⟩) (by decide) (by decide) (w_iconst rfl (inR_c rfl) k)) ?_
                      exact J_some (fun k => w_ireturn rfl rfl k)
set_option maxRecDepth 20000 in
set_option maxHeartbeats 4000000 in
theorem cal_dh_count {Δ : DT} {d : Nat} (hd : 3 ≤ d) {x1 : Int}  {M : MEM} {r : Int} (h : dh_count x1 M = some r) (ho : okVs [vR 0, vI x1]) (hM : okM M) : Cal Δ false m_dh_count d [vR 0, vI x1] (NG, S0, M) (some r) (NG, S0, M) 0 0 := by
  obtain ⟨d, rfl⟩ : ∃ e, d = e + 1 := ⟨d - 1, by omega⟩
  exact cal_of g_dh_count p_dh_count (fun v hv => by simp only [List.mem_cons, List.not_mem_nil, or_false] at hv; rcases hv with rfl | rfl <;> first | exact Or.inl ⟨_, rfl⟩ | exact Or.inr ⟨_, rfl⟩) ho hM (Nat.le_of_ble_eq_true rfl) (fun Γ _ k => J_dh_count hd  _ h k)
set_option maxRecDepth 20000 in
set_option maxHeartbeats 4000000 in
theorem J_dh_donkey {Δ : DT} {Γ : FT} {d : Nat} (hd : 3 ≤ d + 1) {x1 : Int} {x2 : Int}  {M : MEM} : J (dh_donkey x1 x2 M) (K_T Δ Γ m_dh_donkey (d + 1) 18 4) (WAt Δ Γ false m_dh_donkey (d + 1) 0 [vR (0), vI (x1), vI (x2), vN] [] (NG, S0, M) 0 0) := by
  unfold dh_donkey
  refine J.mono (fun k => w_aload_n rfl rfl (w_iload_n rfl rfl k)) ?_
  refine J_hyp (fun k => c_vi1 rfl (fun ho hM => cal_dh_isDonkey (by omega)   ho hM) v_dh_isDonkey (Nat.le_of_ble_eq_true rfl) S_0 rfl (Nat.le_of_ble_eq_true rfl) k) (fun hr2 hb3 => ?_)
  refine J_ite (fun hc4 => ?_) (fun hc4 => ?_)
  · refine J.mono (fun k => s_if_eq_t rfl hc4 k) ?_
    exact J_some (fun k => w_forget (wk_d (wk_d (wk_d (wk_d wk_0)))) k)
  · refine J.mono (fun k => s_if_eq_f rfl hc4 (w_iload_n rfl rfl k)) ?_
    refine J_ite (fun hc5 => ?_) (fun hc5 => ?_)
    · refine J.mono (fun k => s_if_lt_t rfl hc5 k) ?_
      exact J_some (fun k => w_forget (wk_d (wk_d (wk_d (wk_d wk_0)))) k)
    · refine J.mono (fun k => s_if_lt_f rfl hc5 (w_iload_n rfl rfl (w_bipush rfl (bip_c rfl) k))) ?_
      refine J_ite (fun hc6 => ?_) (fun hc6 => ?_)
      · refine J.mono (fun k => s_icmp_le_t rfl hc6 (w_aload_n rfl rfl (w_getR (r := 3) rfl (Nat.le_of_ble_eq_true rfl) S_0 rfl (w_getR (r := 4) rfl (sc_S is_sc_3).1 (sc_S is_sc_3).2 rfl (w_iload_n rfl rfl k))))) ?_
        refine J_chk (fun hi7 => ?_)
        refine J.mono (fun k => w_aald rfl (scb_S is_sc_3).1 (Or.inl rfl) (scb_S is_sc_3).2 hi7.1 (scb_get hi7.1 hi7.2) (s_astore3 rfl (Nat.le_of_ble_eq_true rfl) (w_iload_n rfl rfl k))) ?_
        refine J_ite (fun hk8 => ?_) (fun hk8 => ?_)
        · refine J.mono (fun k => w_tabIn (off := 37) (tgt := 76) rfl (by omega) (by omega) (by rw [hk8] <;> rfl) (by decide) (w_aload_n rfl rfl (w_getI rfl (be_S (scb_is is_sc_3 hi7.1 hi7.2)).1 (be_S (scb_is is_sc_3 hi7.1 hi7.2)).2 rfl k))) ?_
          exact J_some (fun k => w_ireturn rfl rfl k)
        · refine J_ite (fun hk9 => ?_) (fun hk9 => ?_)
          · refine J.mono (fun k => w_tabIn (off := 42) (tgt := 81) rfl (by omega) (by omega) (by rw [hk9] <;> rfl) (by decide) (w_aload_n rfl rfl (w_getI rfl (be_S (scb_is is_sc_3 hi7.1 hi7.2)).1 (be_S (scb_is is_sc_3 hi7.1 hi7.2)).2 rfl k))) ?_
            exact J_some (fun k => w_ireturn rfl rfl k)
          · refine J_ite (fun hk10 => ?_) (fun hk10 => ?_)
            · refine J.mono (fun k => w_tabIn (off := 47) (tgt := 86) rfl (by omega) (by omega) (by rw [hk10] <;> rfl) (by decide) (w_aload_n rfl rfl (w_getI rfl (be_S (scb_is is_sc_3 hi7.1 hi7.2)).1 (be_S (scb_is is_sc_3 hi7.1 hi7.2)).2 rfl k))) ?_
              exact J_some (fun k => w_ireturn rfl rfl k)
            · refine J_ite (fun hk11 => ?_) (fun hk11 => ?_)
              · refine J.mono (fun k => w_tabIn (off := 52) (tgt := 91) rfl (by omega) (by omega) (by rw [hk11] <;> rfl) (by decide) (w_aload_n rfl rfl (w_getI rfl (be_S (scb_is is_sc_3 hi7.1 hi7.2)).1 (be_S (scb_is is_sc_3 hi7.1 hi7.2)).2 rfl (w_bipush rfl (bip_c rfl) (w_irem rfl (by decide) k))))) ?_
                exact J_some (fun k => w_ireturn rfl rfl k)
              · refine J_ite (fun hk12 => ?_) (fun hk12 => ?_)
                · refine J.mono (fun k => w_tabIn (off := 60) (tgt := 99) rfl (by omega) (by omega) (by rw [hk12] <;> rfl) (by decide) (w_aload_n rfl rfl (w_getI rfl (be_S (scb_is is_sc_3 hi7.1 hi7.2)).1 (be_S (scb_is is_sc_3 hi7.1 hi7.2)).2 rfl k))) ?_
                  exact J_some (fun k => w_ireturn rfl rfl k)
                · refine J_ite (fun hk13 => ?_) (fun hk13 => ?_)
                  · refine J.mono (fun k => w_tabIn (off := 65) (tgt := 104) rfl (by omega) (by omega) (by rw [hk13] <;> rfl) (by decide) (w_aload_n rfl rfl k)) ?_
                    refine J_c (fun r15 e14 => ?_)
                    refine J_hyp (fun k => c_vi0 rfl (fun ho hM => cal_be_allThistles (by omega) (scb_is is_sc_3 hi7.1 hi7.2) e14 ho hM) v_be_allThistles (be_S (scb_is is_sc_3 hi7.1 hi7.2)).1 (be_S (scb_is is_sc_3 hi7.1 hi7.2)).2 rfl (Nat.le_of_ble_eq_true rfl) k) (fun hr16 hb17 => ?_)
                    exact J_some (fun k => w_ireturn rfl rfl k)
                  · refine J.mono (fun k => w_tabDef (keys := [(0), (1), (2), (3), (4), (5)]) (tgt := 109) rfl (by simp only [nokey]; exact ⟨hk8, hk9, hk10, hk11, hk12, hk13, trivial⟩) (by decide) (by decide) (w_aload_n rfl rfl (w_aload_n rfl rfl (w_iload_n rfl rfl k)))) ?_
                    refine J_c (fun p19 e18 => ?_)
                    refine J_hyp (fun k => c_vi2 rfl (fun ho hM => cal_dh_paceNow (by omega) (scb_is is_sc_3 hi7.1 hi7.2) e18 ho hM) v_dh_paceNow (Nat.le_of_ble_eq_true rfl) S_0 rfl (Nat.le_of_ble_eq_true rfl) k) (fun hr20 hb21 => ?_)
                    exact J_some (fun k => w_ireturn rfl rfl k)
      · refine J.mono (fun k => s_icmp_le_f rfl hc6 k) ?_
        exact J_some (fun k => w_forget (wk_d (wk_d (wk_d (wk_d wk_0)))) k)
set_option maxRecDepth 20000 in
set_option maxHeartbeats 4000000 in
theorem J_dh_apart {Δ : DT} {Γ : FT} {d : Nat} (hd : 5 ≤ d + 1) {x1 : Int} {x2 : Int} {x3 : Int}  {M : MEM} : J (dh_apart x1 x2 x3 M) (K_T Δ Γ m_dh_apart (d + 1) 20 4) (WAt Δ Γ false m_dh_apart (d + 1) 0 [vR (0), vI (x1), vI (x2), vI (x3)] [] (NG, S0, M) 0 0) := by
  unfold dh_apart
  refine J.mono (fun k => w_aload_n rfl rfl (w_iload_n rfl rfl (w_iload_n rfl rfl k))) ?_
  refine J_hyp (fun k => c_vi2 rfl (fun ho hM => cal_dh_areTwo (by omega)   ho hM) v_dh_areTwo (Nat.le_of_ble_eq_true rfl) S_0 rfl (Nat.le_of_ble_eq_true rfl) k) (fun hr2 hb3 => ?_)
  refine J_ite (fun hc4 => ?_) (fun hc4 => ?_)
  · refine J.mono (fun k => s_if_eq_t rfl hc4 k) ?_
    exact J_some (fun k => w_forget (wk_d (wk_d (wk_d (wk_d wk_0)))) k)
  · refine J.mono (fun k => s_if_eq_f rfl hc4 (w_iload_n rfl rfl k)) ?_
    refine J_ite (fun hc5 => ?_) (fun hc5 => ?_)
    · refine J.mono (fun k => s_if_lt_t rfl hc5 k) ?_
      exact J_some (fun k => w_forget (wk_d (wk_d (wk_d (wk_d wk_0)))) k)
    · refine J.mono (fun k => s_if_lt_f rfl hc5 (w_iload_n rfl rfl (w_sipush rfl (sip_c rfl) k))) ?_
      refine J_ite (fun hc6 => ?_) (fun hc6 => ?_)
      · refine J.mono (fun k => s_icmp_le_t rfl hc6 (w_aload_n rfl rfl (w_iload_n rfl rfl (w_iload_n rfl rfl k)))) ?_
        refine J_c (fun M8 e7 => ?_)
        refine J.mono (fun k => c_vv2 rfl (fun ho hM => cal_dh_lookBoth (by omega)  e7 ho hM) v_dh_lookBoth (Nat.le_of_ble_eq_true rfl) S_0 rfl (Nat.le_of_ble_eq_true rfl) (w_aload_n rfl rfl (w_getR (r := 224) rfl (Nat.le_of_ble_eq_true rfl) S_0 rfl (w_iload_n rfl rfl (w_sipush rfl (sip_c rfl) k))))) ?_
        refine J_c (fun M10 e9 => ?_)
        refine J.mono (fun k => c_vv2 rfl (fun ho hM => cal_fu_run (by omega) is_fu_224 e9 ho hM) v_fu_run (fu_S is_fu_224).1 (fu_S is_fu_224).2 rfl (Nat.le_of_ble_eq_true rfl) (w_aload_n rfl rfl (w_getR (r := 234) rfl (Nat.le_of_ble_eq_true rfl) S_0 rfl (w_iload_n rfl rfl (w_sipush rfl (sip_c rfl) k))))) ?_
        refine J_c (fun M12 e11 => ?_)
        refine J.mono (fun k => c_vv2 rfl (fun ho hM => cal_fu_run (by omega) is_fu_234 e11 ho hM) v_fu_run (fu_S is_fu_234).1 (fu_S is_fu_234).2 rfl (Nat.le_of_ble_eq_true rfl) (w_aload_n rfl rfl (w_getR (r := 224) rfl (Nat.le_of_ble_eq_true rfl) S_0 rfl (w_getR (r := 230) rfl (fu_S is_fu_224).1 (fu_S is_fu_224).2 rfl (w_getI rfl (be_S is_be_230).1 (be_S is_be_230).2 rfl (w_aload_n rfl rfl (w_getR (r := 234) rfl (Nat.le_of_ble_eq_true rfl) S_0 rfl (w_getR (r := 240) rfl (fu_S is_fu_234).1 (fu_S is_fu_234).2 rfl (w_getI rfl (be_S is_be_240).1 (be_S is_be_240).2 rfl (w_isub rfl k)))))))))) ?_
        exact J_some (fun k => w_ireturn rfl rfl k)
      · refine J.mono (fun k => s_icmp_le_f rfl hc6 k) ?_
        exact J_some (fun k => w_forget (wk_d (wk_d (wk_d (wk_d wk_0)))) k)
set_option maxRecDepth 20000 in
set_option maxHeartbeats 4000000 in
theorem J_dh_row {Δ : DT} {Γ : FT} {d : Nat} {x1 : Int}  {M : MEM} : J (dh_row x1 M) (K_T Δ Γ m_dh_row d 21 2) (WAt Δ Γ false m_dh_row d 0 [vR (0), vI (x1)] [] (NG, S0, M) 0 0) := by
  unfold dh_row
  refine J.mono (fun k => w_iload_n rfl rfl k) ?_
  refine J_ite (fun hc1 => ?_) (fun hc1 => ?_)
  · refine J.mono (fun k => s_if_lt_t rfl hc1 k) ?_
    exact J_some (fun k => w_forget (wk_d (wk_d wk_0)) k)
  · refine J.mono (fun k => s_if_lt_f rfl hc1 (w_iload_n rfl rfl (w_aload_n rfl rfl (w_getI rfl (Nat.le_of_ble_eq_true rfl) S_0 rfl k)))) ?_
    refine J_ite (fun hc2 => ?_) (fun hc2 => ?_)
    · refine J.mono (fun k => s_icmp_ge_t rfl hc2 k) ?_
      exact J_some (fun k => w_forget (wk_d (wk_d wk_0)) k)
    · refine J.mono (fun k => s_icmp_ge_f rfl hc2 (w_iload_n rfl rfl (w_aload_n rfl rfl (w_getR (r := 245) rfl (Nat.le_of_ble_eq_true rfl) S_0 rfl (w_alen rfl A_245.1 (Nat.le_of_ble_eq_true rfl) A_245.2 (Nat.le_of_ble_eq_true rfl) k))))) ?_
      refine J_ite (fun hc3 => ?_) (fun hc3 => ?_)
      · refine J.mono (fun k => s_icmp_lt_t rfl hc3 (w_aload_n rfl rfl (w_getR (r := 245) rfl (Nat.le_of_ble_eq_true rfl) S_0 rfl (w_iload_n rfl rfl k)))) ?_
        refine J_chk (fun hi4 => ?_)
        refine J.mono (fun k => w_iald rfl A_245.1 A_245.2 hi4.1 hi4.2 k) ?_
        exact J_some (fun k => w_ireturn rfl rfl k)
      · refine J.mono (fun k => s_icmp_lt_f rfl hc3 k) ?_
        exact J_some (fun k => w_forget (wk_d (wk_d wk_0)) k)
set_option maxRecDepth 20000 in
set_option maxHeartbeats 4000000 in
theorem J_mo_thrown {Δ : DT} {Γ : FT} {d : Nat}   {M : MEM} : J (some (mo_thrown M)) (K_I Δ Γ m_mo_thrown M) (WAt Δ Γ false m_mo_thrown d 0 [vR (278)] [] (NG, S0, M) 0 0) := by
  unfold mo_thrown
  refine J.mono (fun k => w_aload_n rfl rfl (w_getI rfl (Nat.le_of_ble_eq_true rfl) S_278 rfl k)) ?_
  exact J_some (fun k => w_ireturn rfl rfl k)
set_option maxRecDepth 20000 in
set_option maxHeartbeats 4000000 in
theorem cal_mo_thrown {Δ : DT} {d : Nat} (hd : 0 ≤ d)   {M : MEM} (ho : okVs [vR 278]) (hM : okM M) : Cal Δ false m_mo_thrown d [vR 278] (NG, S0, M) (some (mo_thrown M)) (NG, S0, M) 0 0 := by
  exact cal_of g_mo_thrown p_mo_thrown (fun v hv => by simp only [List.mem_cons, List.not_mem_nil, or_false] at hv; rcases hv with rfl <;> first | exact Or.inl ⟨_, rfl⟩ | exact Or.inr ⟨_, rfl⟩) ho hM (Nat.le_of_ble_eq_true rfl) (fun Γ _ k => J_mo_thrown  _ rfl k)
abbrev HD_mo_sign_b20 (Δ : DT) (Γ : FT) (d : Nat) (x1 : Int) (s : Int × MEM) : Prop := WAt Δ Γ false m_mo_sign d 20 [vR (278), vI (x1), vI (s.1)] [] (NG, S0, s.2) 0 0
abbrev X_mo_sign_b20 (Δ : DT) (Γ : FT) (d : Nat) (x1 : Int) (s : Int × MEM) : Prop := WAt Δ Γ false m_mo_sign d 53 [vR (278), vN, vN] [] (NG, S0, s.2) 0 0
set_option maxRecDepth 20000 in
set_option maxHeartbeats 4000000 in
theorem Jb_mo_sign_b20 {Δ : DT} {Γ : FT} {d : Nat} {x1 : Int}  {x2 : Int} {M : MEM} : J (mo_sign_b20 x1 x2 M) (Sum.elim (HD_mo_sign_b20 Δ Γ d x1) (X_mo_sign_b20 Δ Γ d x1)) (WAt Δ Γ false m_mo_sign d 20 [vR (278), vI (x1), vI (x2)] [] (NG, S0, M) 0 0) := by
  unfold mo_sign_b20
  refine J.mono (fun k => w_iload_n rfl rfl k) ?_
  refine J_ite (fun hc3 => ?_) (fun hc3 => ?_)
  · refine J.mono (fun k => s_if_lt_t rfl hc3 k) ?_
    exact J_some (fun k => w_forget (wk_k (wk_d (wk_d wk_0))) k)
  · refine J.mono (fun k => s_if_lt_f rfl hc3 (w_aload_n rfl rfl (w_getR (r := 283) rfl (Nat.le_of_ble_eq_true rfl) S_278 rfl (w_aload_n rfl rfl (w_dup rfl (fun _ h => by cases h) (w_getI rfl (Nat.le_of_ble_eq_true rfl) S_278 rfl (w_dup_x1 rfl (fun _ h => by cases h) (fun _ h => by cases h) (w_iconst rfl (inR_c rfl) (w_iadd rfl k))))))))) ?_
    refine J_b ?_
    refine J.mono (fun k => w_putI rfl (Nat.le_of_ble_eq_true rfl) S_278 rfl rfl (w_iload_n rfl rfl (w_bipush rfl (bip_c rfl) (w_iload_n rfl rfl (w_imul rfl (w_ishr rfl (w_i2b rfl k))))))) ?_
    refine J_chk (fun hi6 => ?_)
    refine J_b ?_
    refine J.mono (fun k => w_bast rfl A_283.1 A_283.2 hi6.1 hi6.2 rfl (s_iinc2 rfl (Nat.le_of_ble_eq_true rfl) (w_goto rfl k))) ?_
    exact J_some (fun k => w_forget (wk_k (wk_k (wk_k wk_0))) k)
set_option maxRecDepth 20000 in
set_option maxHeartbeats 4000000 in
theorem Jl_mo_sign_b20 {Δ : DT} {Γ : FT} {d : Nat} {x1 : Int}   : ∀ (n : Nat) (s : Int × MEM), J (iter (fun s => mo_sign_b20 x1 s.1 s.2) n s) (X_mo_sign_b20 Δ Γ d x1) (HD_mo_sign_b20 Δ Γ d x1 s) := J_iter (fun s => Jb_mo_sign_b20 )
set_option maxRecDepth 20000 in
set_option maxHeartbeats 4000000 in
theorem J_mo_sign {Δ : DT} {Γ : FT} {d : Nat} {x1 : Int}  {M : MEM} : J (mo_sign x1 M) (K_IM Δ Γ m_mo_sign) (WAt Δ Γ false m_mo_sign d 0 [vR (278), vI (x1), vN] [] (NG, S0, M) 0 0) := by
  unfold mo_sign
  refine J.mono (fun k => w_aload_n rfl rfl (w_iconst rfl (inR_c rfl) k)) ?_
  refine J_b ?_
  refine J.mono (fun k => w_putI rfl (Nat.le_of_ble_eq_true rfl) S_278 rfl rfl (w_aload_n rfl rfl (w_getI rfl (Nat.le_of_ble_eq_true rfl) S_278 rfl (w_iconst rfl (inR_c rfl) (w_iadd rfl (w_bipush rfl (bip_c rfl) k)))))) ?_
  refine J_ite (fun hc2 => ?_) (fun hc2 => ?_)
  · refine J.mono (fun k => s_icmp_le_t rfl hc2 (w_iconst rfl (inR_c rfl) (s_istore2 rfl (Nat.le_of_ble_eq_true rfl) k))) ?_
    refine J.mono (fun k => w_forget (wk_k (wk_k (wk_k wk_0))) k) ?_
    refine J_loop (Jl_mo_sign_b20  _ _) (fun w7 => ?_)
    refine J.mono (fun k => w_aload_n rfl rfl (w_getI rfl (Nat.le_of_ble_eq_true rfl) S_278 rfl k)) ?_
    exact J_some (fun k => w_ireturn rfl rfl k)
  · refine J.mono (fun k => s_icmp_le_f rfl hc2 (w_iconst rfl (inR_c rfl) k)) ?_
    exact J_some (fun k => w_ireturn rfl rfl k)
set_option maxRecDepth 20000 in
set_option maxHeartbeats 4000000 in
theorem cal_mo_sign {Δ : DT} {d : Nat} (hd : 0 ≤ d) {x1 : Int}  {M : MEM} {p : Int × MEM} (h : mo_sign x1 M = some p) (ho : okVs [vR 278, vI x1]) (hM : okM M) : Cal Δ false m_mo_sign d [vR 278, vI x1] (NG, S0, M) (some p.1) (NG, S0, p.2) 0 0 := by
  exact cal_of g_mo_sign p_mo_sign (fun v hv => by simp only [List.mem_cons, List.not_mem_nil, or_false] at hv; rcases hv with rfl | rfl <;> first | exact Or.inl ⟨_, rfl⟩ | exact Or.inr ⟨_, rfl⟩) ho hM (Nat.le_of_ble_eq_true rfl) (fun Γ _ k => J_mo_sign  _ h k)
set_option maxRecDepth 20000 in
set_option maxHeartbeats 4000000 in
theorem J_mo_in {Δ : DT} {Γ : FT} {d : Nat} {x0 : Int} {x1 : Int} {x2 : Int}  {M : MEM} : J (some (mo_in x0 x1 x2)) (K_I Δ Γ m_mo_in M) (WAt Δ Γ false m_mo_in d 0 [vI (x0), vI (x1), vI (x2)] [] (NG, S0, M) 0 0) := by
  unfold mo_in
  refine J.mono (fun k => w_iload_n rfl rfl (w_iload_n rfl rfl k)) ?_
  refine J_iteT (fun hc1 => ?_) (fun hc1 => ?_)
  · refine J.mono (fun k => s_icmp_lt_t rfl hc1 (w_iconst rfl (inR_c rfl) k)) ?_
    exact J_some (fun k => w_zreturn rfl rfl (Or.inl rfl) k)
  · refine J.mono (fun k => s_icmp_lt_f rfl hc1 (w_iload_n rfl rfl (w_iload_n rfl rfl k))) ?_
    refine J_iteT (fun hc2 => ?_) (fun hc2 => ?_)
    · refine J.mono (fun k => s_icmp_gt_t rfl hc2 (w_iconst rfl (inR_c rfl) k)) ?_
      exact J_some (fun k => w_zreturn rfl rfl (Or.inl rfl) k)
    · refine J.mono (fun k => s_icmp_gt_f rfl hc2 (w_iconst rfl (inR_c rfl) (w_goto rfl k))) ?_
      exact J_some (fun k => w_zreturn rfl rfl (Or.inr rfl) k)
set_option maxRecDepth 20000 in
set_option maxHeartbeats 4000000 in
theorem cal_mo_in {Δ : DT} {d : Nat} (hd : 0 ≤ d) {x0 : Int} {x1 : Int} {x2 : Int}  {M : MEM} (ho : okVs [vI x0, vI x1, vI x2]) (hM : okM M) : Cal Δ false m_mo_in d [vI x0, vI x1, vI x2] (NG, S0, M) (some (mo_in x0 x1 x2)) (NG, S0, M) 0 0 := by
  exact cal_of g_mo_in p_mo_in (fun v hv => by simp only [List.mem_cons, List.not_mem_nil, or_false] at hv; rcases hv with rfl | rfl | rfl <;> first | exact Or.inl ⟨_, rfl⟩ | exact Or.inr ⟨_, rfl⟩) ho hM (Nat.le_of_ble_eq_true rfl) (fun Γ _ k => J_mo_in  _ rfl k)
set_option maxRecDepth 20000 in
set_option maxHeartbeats 4000000 in
theorem J_mo_end {Δ : DT} {Γ : FT} {d : Nat} (hd : 1 ≤ d + 1) {x1 : Int}  {M : MEM} : J (mo_end x1 M) (K_IM Δ Γ m_mo_end) (WAt Δ Γ false m_mo_end (d + 1) 0 [vR (278), vI (x1)] [] (NG, S0, M) 0 0) := by
  unfold mo_end
  refine J.mono (fun k => w_aload_n rfl rfl (w_iconst rfl (inR_c rfl) k)) ?_
  refine J_b ?_
  refine J.mono (fun k => w_putI rfl (Nat.le_of_ble_eq_true rfl) S_278 rfl rfl (w_iload_n rfl rfl (w_iconst rfl (inR_c rfl) (w_aload_n rfl rfl (w_getI rfl (Nat.le_of_ble_eq_true rfl) S_278 rfl k))))) ?_
  refine J_hyp (fun k => c_si3 rfl rfl (fun ho hM => cal_mo_in (by omega)   ho hM) v_mo_in (Nat.le_of_ble_eq_true rfl) k) (fun hr3 hb4 => ?_)
  refine J_ite (fun hc5 => ?_) (fun hc5 => ?_)
  · refine J.mono (fun k => s_if_ne_f rfl hc5 (w_iconst rfl (inR_c rfl) k)) ?_
    exact J_some (fun k => w_zreturn rfl rfl (Or.inl rfl) k)
  · refine J.mono (fun k => s_if_ne_t rfl hc5 (w_aload_n rfl rfl (w_iload_n rfl rfl k))) ?_
    refine J_b ?_
    refine J.mono (fun k => w_putI rfl (Nat.le_of_ble_eq_true rfl) S_278 rfl rfl (w_iconst rfl (inR_c rfl) k)) ?_
    exact J_some (fun k => w_zreturn rfl rfl (Or.inr rfl) k)
set_option maxRecDepth 20000 in
set_option maxHeartbeats 4000000 in
theorem cal_mo_end {Δ : DT} {d : Nat} (hd : 1 ≤ d) {x1 : Int}  {M : MEM} {p : Int × MEM} (h : mo_end x1 M = some p) (ho : okVs [vR 278, vI x1]) (hM : okM M) : Cal Δ false m_mo_end d [vR 278, vI x1] (NG, S0, M) (some p.1) (NG, S0, p.2) 0 0 := by
  obtain ⟨d, rfl⟩ : ∃ e, d = e + 1 := ⟨d - 1, by omega⟩
  exact cal_of g_mo_end p_mo_end (fun v hv => by simp only [List.mem_cons, List.not_mem_nil, or_false] at hv; rcases hv with rfl | rfl <;> first | exact Or.inl ⟨_, rfl⟩ | exact Or.inr ⟨_, rfl⟩) ho hM (Nat.le_of_ble_eq_true rfl) (fun Γ _ k => J_mo_end hd  _ h k)
set_option maxRecDepth 20000 in
set_option maxHeartbeats 4000000 in
theorem J_mo_begin {Δ : DT} {Γ : FT} {d : Nat} {a1 : Nat} {x2 : Int} {x3 : Int} (h_a1 : isArr 1 (lenA a1) a1) {M : MEM} : J (mo_begin a1 x2 x3 M) (K_M Δ Γ m_mo_begin) (WAt Δ Γ false m_mo_begin d 0 [vR (278), vR (a1), vI (x2), vI (x3)] [] (NG, S0, M) 0 0) := by
  unfold mo_begin
  refine J.mono (fun k => w_aload_n rfl rfl (w_aload_n rfl rfl k)) ?_
  refine J_b ?_
  refine J.mono (fun k => w_putD rfl (Nat.le_of_ble_eq_true rfl) S_278 rfl rfl pfd_aB (inR_ref h_a1.1) (w_aload_n rfl rfl (w_iload_n rfl rfl k))) ?_
  refine J_b ?_
  refine J.mono (fun k => w_putI rfl (Nat.le_of_ble_eq_true rfl) S_278 rfl rfl (w_aload_n rfl rfl (w_iload_n rfl rfl k))) ?_
  refine J_b ?_
  refine J.mono (fun k => w_putI rfl (Nat.le_of_ble_eq_true rfl) S_278 rfl rfl (w_aload_n rfl rfl (w_iconst rfl (inR_c rfl) k))) ?_
  refine J_b ?_
  refine J.mono (fun k => w_putI rfl (Nat.le_of_ble_eq_true rfl) S_278 rfl rfl (w_aload_n rfl rfl (w_iconst rfl (inR_c rfl) k))) ?_
  refine J_b ?_
  refine J.mono (fun k => w_putI rfl (Nat.le_of_ble_eq_true rfl) S_278 rfl rfl k) ?_
  exact J_some (fun k => w_return rfl rfl k)
set_option maxRecDepth 20000 in
set_option maxHeartbeats 4000000 in
theorem cal_mo_begin {Δ : DT} {d : Nat} (hd : 0 ≤ d) {a1 : Nat} {x2 : Int} {x3 : Int} (h_a1 : isArr 1 (lenA a1) a1) {M : MEM} {M1 : MEM} (h : mo_begin a1 x2 x3 M = some M1) (ho : okVs [vR 278, vR a1, vI x2, vI x3]) (hM : okM M) : Cal Δ false m_mo_begin d [vR 278, vR a1, vI x2, vI x3] (NG, S0, M) none (NG, S0, M1) 0 0 := by
  exact cal_of g_mo_begin p_mo_begin (fun v hv => by simp only [List.mem_cons, List.not_mem_nil, or_false] at hv; rcases hv with rfl | rfl | rfl | rfl <;> first | exact Or.inl ⟨_, rfl⟩ | exact Or.inr ⟨_, rfl⟩) ho hM (Nat.le_of_ble_eq_true rfl) (fun Γ _ k => J_mo_begin h_a1 _ h k)
set_option maxRecDepth 20000 in
set_option maxHeartbeats 4000000 in
theorem J_mo_fine {Δ : DT} {Γ : FT} {d : Nat}   {M : MEM} : J (some (mo_fine M)) (K_I Δ Γ m_mo_fine M) (WAt Δ Γ false m_mo_fine d 0 [vR (278)] [] (NG, S0, M) 0 0) := by
  unfold mo_fine
  refine J.mono (fun k => w_aload_n rfl rfl (w_getI rfl (Nat.le_of_ble_eq_true rfl) S_278 rfl (w_iconst rfl (inR_c rfl) k))) ?_
  refine J_iteT (fun hc1 => ?_) (fun hc1 => ?_)
  · refine J.mono (fun k => s_icmp_ne_f rfl hc1 (w_iconst rfl (inR_c rfl) (w_goto rfl k))) ?_
    exact J_some (fun k => w_zreturn rfl rfl (Or.inr rfl) k)
  · refine J.mono (fun k => s_icmp_ne_t rfl hc1 (w_iconst rfl (inR_c rfl) k)) ?_
    exact J_some (fun k => w_zreturn rfl rfl (Or.inl rfl) k)
set_option maxRecDepth 20000 in
set_option maxHeartbeats 4000000 in
theorem cal_mo_fine {Δ : DT} {d : Nat} (hd : 0 ≤ d)   {M : MEM} (ho : okVs [vR 278]) (hM : okM M) : Cal Δ false m_mo_fine d [vR 278] (NG, S0, M) (some (mo_fine M)) (NG, S0, M) 0 0 := by
  exact cal_of g_mo_fine p_mo_fine (fun v hv => by simp only [List.mem_cons, List.not_mem_nil, or_false] at hv; rcases hv with rfl <;> first | exact Or.inl ⟨_, rfl⟩ | exact Or.inr ⟨_, rfl⟩) ho hM (Nat.le_of_ble_eq_true rfl) (fun Γ _ k => J_mo_fine  _ rfl k)
set_option maxRecDepth 20000 in
set_option maxHeartbeats 4000000 in
theorem J_mo_fault {Δ : DT} {Γ : FT} {d : Nat} (hd : 1 ≤ d + 1) {x1 : Int}  {M : MEM} : J (mo_fault x1 M) (K_M Δ Γ m_mo_fault) (WAt Δ Γ false m_mo_fault (d + 1) 0 [vR (278), vI (x1)] [] (NG, S0, M) 0 0) := by
  unfold mo_fault
  refine J.mono (fun k => w_aload_n rfl rfl k) ?_
  refine J_hyp (fun k => c_vi0 rfl (fun ho hM => cal_mo_fine (by omega)   ho hM) v_mo_fine (Nat.le_of_ble_eq_true rfl) S_278 rfl (Nat.le_of_ble_eq_true rfl) k) (fun hr2 hb3 => ?_)
  refine J_ite (fun hc4 => ?_) (fun hc4 => ?_)
  · refine J.mono (fun k => s_if_eq_t rfl hc4 k) ?_
    exact J_some (fun k => w_return rfl rfl k)
  · refine J.mono (fun k => s_if_eq_f rfl hc4 (w_aload_n rfl rfl (w_iload_n rfl rfl k))) ?_
    refine J_b ?_
    refine J.mono (fun k => w_putI rfl (Nat.le_of_ble_eq_true rfl) S_278 rfl rfl k) ?_
    exact J_some (fun k => w_return rfl rfl k)
set_option maxRecDepth 20000 in
set_option maxHeartbeats 4000000 in
theorem cal_mo_fault {Δ : DT} {d : Nat} (hd : 1 ≤ d) {x1 : Int}  {M : MEM} {M1 : MEM} (h : mo_fault x1 M = some M1) (ho : okVs [vR 278, vI x1]) (hM : okM M) : Cal Δ false m_mo_fault d [vR 278, vI x1] (NG, S0, M) none (NG, S0, M1) 0 0 := by
  obtain ⟨d, rfl⟩ : ∃ e, d = e + 1 := ⟨d - 1, by omega⟩
  exact cal_of g_mo_fault p_mo_fault (fun v hv => by simp only [List.mem_cons, List.not_mem_nil, or_false] at hv; rcases hv with rfl | rfl <;> first | exact Or.inl ⟨_, rfl⟩ | exact Or.inr ⟨_, rfl⟩) ho hM (Nat.le_of_ble_eq_true rfl) (fun Γ _ k => J_mo_fault hd  _ h k)
set_option maxRecDepth 20000 in
set_option maxHeartbeats 4000000 in
theorem J_mo_here {Δ : DT} {Γ : FT} {d : Nat}   {M : MEM} : J (mo_here M) (K_I Δ Γ m_mo_here M) (WAt Δ Γ false m_mo_here d 0 [vR (278)] [] (NG, S0, M) 0 0) := by
  unfold mo_here
  refine J.mono (fun k => w_aload_n rfl rfl (w_getI rfl (Nat.le_of_ble_eq_true rfl) S_278 rfl (w_aload_n rfl rfl (w_getI rfl (Nat.le_of_ble_eq_true rfl) S_278 rfl k)))) ?_
  refine J_ite (fun hc1 => ?_) (fun hc1 => ?_)
  · refine J.mono (fun k => s_icmp_ge_t rfl hc1 (w_iconst rfl (inR_c rfl) k)) ?_
    exact J_some (fun k => w_ireturn rfl rfl k)
  · refine J.mono (fun k => s_icmp_ge_f rfl hc1 (w_aload_n rfl rfl (w_getI rfl (Nat.le_of_ble_eq_true rfl) S_278 rfl (w_aload_n rfl rfl (w_getI rfl (Nat.le_of_ble_eq_true rfl) S_278 rfl k))))) ?_
    refine J_ite (fun hc2 => ?_) (fun hc2 => ?_)
    · refine J.mono (fun k => s_icmp_ge_t rfl hc2 (w_iconst rfl (inR_c rfl) k)) ?_
      exact J_some (fun k => w_ireturn rfl rfl k)
    · refine J.mono (fun k => s_icmp_ge_f rfl hc2 (w_aload_n rfl rfl k)) ?_
      refine J_chk (fun hp3 => ?_)
      refine J.mono (fun k => w_getD rfl (Nat.le_of_ble_eq_true rfl) S_278 rfl (dref_eq hp3.1) (w_aload_n rfl rfl (w_getI rfl (Nat.le_of_ble_eq_true rfl) S_278 rfl k))) ?_
      refine J_chk (fun hi4 => ?_)
      refine J.mono (fun k => w_bald rfl hp3.2.1 hp3.2.2 hi4.1 hi4.2 (w_goto rfl k)) ?_
      exact J_some (fun k => w_ireturn rfl rfl k)
set_option maxRecDepth 20000 in
set_option maxHeartbeats 4000000 in
theorem cal_mo_here {Δ : DT} {d : Nat} (hd : 0 ≤ d)   {M : MEM} {r : Int} (h : mo_here M = some r) (ho : okVs [vR 278]) (hM : okM M) : Cal Δ false m_mo_here d [vR 278] (NG, S0, M) (some r) (NG, S0, M) 0 0 := by
  exact cal_of g_mo_here p_mo_here (fun v hv => by simp only [List.mem_cons, List.not_mem_nil, or_false] at hv; rcases hv with rfl <;> first | exact Or.inl ⟨_, rfl⟩ | exact Or.inr ⟨_, rfl⟩) ho hM (Nat.le_of_ble_eq_true rfl) (fun Γ _ k => J_mo_here  _ h k)
set_option maxRecDepth 20000 in
set_option maxHeartbeats 4000000 in
theorem J_mo_passes {Δ : DT} {Γ : FT} {d : Nat} (hd : 1 ≤ d + 1) {x1 : Int}  {M : MEM} : J (mo_passes x1 M) (K_IM Δ Γ m_mo_passes) (WAt Δ Γ false m_mo_passes (d + 1) 0 [vR (278), vI (x1)] [] (NG, S0, M) 0 0) := by
  unfold mo_passes
  refine J.mono (fun k => w_aload_n rfl rfl k) ?_
  refine J_hyp (fun k => c_vi0 rfl (fun ho hM => cal_mo_fine (by omega)   ho hM) v_mo_fine (Nat.le_of_ble_eq_true rfl) S_278 rfl (Nat.le_of_ble_eq_true rfl) k) (fun hr2 hb3 => ?_)
  refine J_ite (fun hc4 => ?_) (fun hc4 => ?_)
  · refine J.mono (fun k => s_if_eq_t rfl hc4 (w_iconst rfl (inR_c rfl) k)) ?_
    exact J_some (fun k => w_zreturn rfl rfl (Or.inl rfl) k)
  · refine J.mono (fun k => s_if_eq_f rfl hc4 (w_aload_n rfl rfl k)) ?_
    refine J_c (fun r6 e5 => ?_)
    refine J_hyp (fun k => c_vi0 rfl (fun ho hM => cal_mo_here (by omega)  e5 ho hM) v_mo_here (Nat.le_of_ble_eq_true rfl) S_278 rfl (Nat.le_of_ble_eq_true rfl) k) (fun hr7 hb8 => ?_)
    refine J.mono (fun k => w_iload_n rfl rfl k) ?_
    refine J_ite (fun hc9 => ?_) (fun hc9 => ?_)
    · refine J.mono (fun k => s_icmp_eq_t rfl hc9 (w_aload_n rfl rfl (w_dup rfl (fun _ h => by cases h) (w_getI rfl (Nat.le_of_ble_eq_true rfl) S_278 rfl (w_iconst rfl (inR_c rfl) (w_iadd rfl k)))))) ?_
      refine J_b ?_
      refine J.mono (fun k => w_putI rfl (Nat.le_of_ble_eq_true rfl) S_278 rfl rfl (w_iconst rfl (inR_c rfl) k)) ?_
      exact J_some (fun k => w_zreturn rfl rfl (Or.inr rfl) k)
    · refine J.mono (fun k => s_icmp_eq_f rfl hc9 (w_iconst rfl (inR_c rfl) k)) ?_
      exact J_some (fun k => w_zreturn rfl rfl (Or.inl rfl) k)
set_option maxRecDepth 20000 in
set_option maxHeartbeats 4000000 in
theorem cal_mo_passes {Δ : DT} {d : Nat} (hd : 1 ≤ d) {x1 : Int}  {M : MEM} {p : Int × MEM} (h : mo_passes x1 M = some p) (ho : okVs [vR 278, vI x1]) (hM : okM M) : Cal Δ false m_mo_passes d [vR 278, vI x1] (NG, S0, M) (some p.1) (NG, S0, p.2) 0 0 := by
  obtain ⟨d, rfl⟩ : ∃ e, d = e + 1 := ⟨d - 1, by omega⟩
  exact cal_of g_mo_passes p_mo_passes (fun v hv => by simp only [List.mem_cons, List.not_mem_nil, or_false] at hv; rcases hv with rfl | rfl <;> first | exact Or.inl ⟨_, rfl⟩ | exact Or.inr ⟨_, rfl⟩) ho hM (Nat.le_of_ble_eq_true rfl) (fun Γ _ k => J_mo_passes hd  _ h k)
set_option maxRecDepth 20000 in
set_option maxHeartbeats 4000000 in
theorem J_mo_need {Δ : DT} {Γ : FT} {d : Nat} (hd : 2 ≤ d + 1) {x1 : Int}  {M : MEM} : J (mo_need x1 M) (K_M Δ Γ m_mo_need) (WAt Δ Γ false m_mo_need (d + 1) 0 [vR (278), vI (x1)] [] (NG, S0, M) 0 0) := by
  unfold mo_need
  refine J.mono (fun k => w_aload_n rfl rfl (w_iload_n rfl rfl k)) ?_
  refine J_c (fun p2 e1 => ?_)
  refine J_hyp (fun k => c_vi1 rfl (fun ho hM => cal_mo_passes (by omega)  e1 ho hM) v_mo_passes (Nat.le_of_ble_eq_true rfl) S_278 rfl (Nat.le_of_ble_eq_true rfl) k) (fun hr3 hb4 => ?_)
  refine J_ite (fun hc5 => ?_) (fun hc5 => ?_)
  · refine J.mono (fun k => s_if_ne_f rfl hc5 (w_aload_n rfl rfl (w_aload_n rfl rfl (w_getI rfl (Nat.le_of_ble_eq_true rfl) S_278 rfl k)))) ?_
    refine J_c (fun M7 e6 => ?_)
    refine J.mono (fun k => c_vv1 rfl (fun ho hM => cal_mo_fault (by omega)  e6 ho hM) v_mo_fault (Nat.le_of_ble_eq_true rfl) S_278 rfl (Nat.le_of_ble_eq_true rfl) k) ?_
    exact J_some (fun k => w_return rfl rfl k)
  · refine J.mono (fun k => s_if_ne_t rfl hc5 k) ?_
    exact J_some (fun k => w_return rfl rfl k)
set_option maxRecDepth 20000 in
set_option maxHeartbeats 4000000 in
theorem cal_mo_need {Δ : DT} {d : Nat} (hd : 2 ≤ d) {x1 : Int}  {M : MEM} {M1 : MEM} (h : mo_need x1 M = some M1) (ho : okVs [vR 278, vI x1]) (hM : okM M) : Cal Δ false m_mo_need d [vR 278, vI x1] (NG, S0, M) none (NG, S0, M1) 0 0 := by
  obtain ⟨d, rfl⟩ : ∃ e, d = e + 1 := ⟨d - 1, by omega⟩
  exact cal_of g_mo_need p_mo_need (fun v hv => by simp only [List.mem_cons, List.not_mem_nil, or_false] at hv; rcases hv with rfl | rfl <;> first | exact Or.inl ⟨_, rfl⟩ | exact Or.inr ⟨_, rfl⟩) ho hM (Nat.le_of_ble_eq_true rfl) (fun Γ _ k => J_mo_need hd  _ h k)
abbrev HD_mo_number_b16 (Δ : DT) (Γ : FT) (d : Nat) (x1 : Int) (x2 : Int) (s : Int × MEM) : Prop := WAt Δ Γ false m_mo_number (d + 1) 16 [vR (278), vI (x1), vI (x2), vI (s.1)] [] (NG, S0, s.2) 0 0
abbrev X_mo_number_b16 (Δ : DT) (Γ : FT) (d : Nat) (x1 : Int) (x2 : Int) (s : Int × MEM) : Prop := WAt Δ Γ false m_mo_number (d + 1) 66 [vR (278), vN, vI (x2), vI (s.1)] [] (NG, S0, s.2) 0 0
set_option maxRecDepth 20000 in
set_option maxHeartbeats 4000000 in
theorem Jb_mo_number_b16 {Δ : DT} {Γ : FT} {d : Nat} (hd : 2 ≤ d + 1) {x1 : Int} {x2 : Int}  {x3 : Int} {M : MEM} : J (mo_number_b16 x1 x2 x3 M) (Sum.elim (HD_mo_number_b16 Δ Γ d x1 x2) (X_mo_number_b16 Δ Γ d x1 x2)) (WAt Δ Γ false m_mo_number (d + 1) 16 [vR (278), vI (x1), vI (x2), vI (x3)] [] (NG, S0, M) 0 0) := by
  unfold mo_number_b16
  refine J.mono (fun k => w_aload_n rfl rfl (w_getI rfl (Nat.le_of_ble_eq_true rfl) S_278 rfl (w_iload_n rfl rfl (w_iload_n rfl rfl (w_iadd rfl k))))) ?_
  refine J_ite (fun hc5 => ?_) (fun hc5 => ?_)
  · refine J.mono (fun k => s_icmp_ge_t rfl hc5 k) ?_
    exact J_some (fun k => w_forget (wk_k (wk_d (wk_k (wk_k wk_0)))) k)
  · refine J.mono (fun k => s_icmp_ge_f rfl hc5 (w_aload_n rfl rfl k)) ?_
    refine J_c (fun r7 e6 => ?_)
    refine J_hyp (fun k => c_vi0 rfl (fun ho hM => cal_mo_here (by omega)  e6 ho hM) v_mo_here (Nat.le_of_ble_eq_true rfl) S_278 rfl (Nat.le_of_ble_eq_true rfl) k) (fun hr8 hb9 => ?_)
    refine J.mono (fun k => w_bipush rfl (bip_c rfl) (w_bipush rfl (bip_c rfl) k)) ?_
    refine J_hyp (fun k => c_si3 rfl rfl (fun ho hM => cal_mo_in (by omega)   ho hM) v_mo_in (Nat.le_of_ble_eq_true rfl) k) (fun hr11 hb12 => ?_)
    refine J_ite (fun hc13 => ?_) (fun hc13 => ?_)
    · refine J.mono (fun k => s_if_eq_t rfl hc13 k) ?_
      exact J_some (fun k => w_forget (wk_k (wk_d (wk_k (wk_k wk_0)))) k)
    · refine J.mono (fun k => s_if_eq_f rfl hc13 (w_bipush rfl (bip_c rfl) (w_iload_n rfl rfl (w_imul rfl (w_aload_n rfl rfl k))))) ?_
      refine J_c (fun r15 e14 => ?_)
      refine J_hyp (fun k => c_vi0 rfl (fun ho hM => cal_mo_here (by omega)  e14 ho hM) v_mo_here (Nat.le_of_ble_eq_true rfl) S_278 rfl (Nat.le_of_ble_eq_true rfl) k) (fun hr16 hb17 => ?_)
      refine J.mono (fun k => w_iadd rfl (w_bipush rfl (bip_c rfl) (w_isub rfl (s_istore3 rfl (Nat.le_of_ble_eq_true rfl) (w_aload_n rfl rfl (w_dup rfl (fun _ h => by cases h) (w_getI rfl (Nat.le_of_ble_eq_true rfl) S_278 rfl (w_iconst rfl (inR_c rfl) (w_iadd rfl k))))))))) ?_
      refine J_b ?_
      refine J.mono (fun k => w_putI rfl (Nat.le_of_ble_eq_true rfl) S_278 rfl rfl (w_goto rfl k)) ?_
      exact J_some (fun k => w_forget (wk_k (wk_k (wk_k (wk_k wk_0)))) k)
set_option maxRecDepth 20000 in
set_option maxHeartbeats 4000000 in
theorem Jl_mo_number_b16 {Δ : DT} {Γ : FT} {d : Nat} (hd : 2 ≤ d + 1) {x1 : Int} {x2 : Int}   : ∀ (n : Nat) (s : Int × MEM), J (iter (fun s => mo_number_b16 x1 x2 s.1 s.2) n s) (X_mo_number_b16 Δ Γ d x1 x2) (HD_mo_number_b16 Δ Γ d x1 x2 s) := J_iter (fun s => Jb_mo_number_b16 hd )
set_option maxRecDepth 20000 in
set_option maxHeartbeats 4000000 in
theorem J_mo_number_j66 {Δ : DT} {Γ : FT} {d : Nat} (hd : 2 ≤ d + 1) {x2 : Int} {x3 : Int}  {M : MEM} : J (mo_number_j66 x2 x3 M) (K_IM Δ Γ m_mo_number) (WAt Δ Γ false m_mo_number (d + 1) 66 [vR (278), vN, vI (x2), vI (x3)] [] (NG, S0, M) 0 0) := by
  unfold mo_number_j66
  refine J.mono (fun k => w_aload_n rfl rfl (w_getI rfl (Nat.le_of_ble_eq_true rfl) S_278 rfl (w_iload_n rfl rfl k))) ?_
  refine J_ite (fun hc20 => ?_) (fun hc20 => ?_)
  · refine J.mono (fun k => s_icmp_ne_f rfl hc20 (w_aload_n rfl rfl (w_aload_n rfl rfl (w_getI rfl (Nat.le_of_ble_eq_true rfl) S_278 rfl k)))) ?_
    refine J_c (fun M22 e21 => ?_)
    refine J.mono (fun k => c_vv1 rfl (fun ho hM => cal_mo_fault (by omega)  e21 ho hM) v_mo_fault (Nat.le_of_ble_eq_true rfl) S_278 rfl (Nat.le_of_ble_eq_true rfl) (w_iload_n rfl rfl k)) ?_
    exact J_some (fun k => w_ireturn rfl rfl k)
  · refine J.mono (fun k => s_icmp_ne_t rfl hc20 (w_iload_n rfl rfl k)) ?_
    exact J_some (fun k => w_ireturn rfl rfl k)
set_option maxRecDepth 20000 in
set_option maxHeartbeats 4000000 in
theorem J_mo_number {Δ : DT} {Γ : FT} {d : Nat} (hd : 2 ≤ d + 1) {x1 : Int}  {M : MEM} : J (mo_number x1 M) (K_IM Δ Γ m_mo_number) (WAt Δ Γ false m_mo_number (d + 1) 0 [vR (278), vI (x1), vN, vN] [] (NG, S0, M) 0 0) := by
  unfold mo_number
  refine J.mono (fun k => w_aload_n rfl rfl k) ?_
  refine J_hyp (fun k => c_vi0 rfl (fun ho hM => cal_mo_fine (by omega)   ho hM) v_mo_fine (Nat.le_of_ble_eq_true rfl) S_278 rfl (Nat.le_of_ble_eq_true rfl) k) (fun hr2 hb3 => ?_)
  refine J_ite (fun hc4 => ?_) (fun hc4 => ?_)
  · refine J.mono (fun k => s_if_ne_f rfl hc4 (w_iconst rfl (inR_c rfl) k)) ?_
    exact J_some (fun k => w_ireturn rfl rfl k)
  · refine J.mono (fun k => s_if_ne_t rfl hc4 (w_aload_n rfl rfl (w_getI rfl (Nat.le_of_ble_eq_true rfl) S_278 rfl (s_istore2 rfl (Nat.le_of_ble_eq_true rfl) (w_iconst rfl (inR_c rfl) (s_istore3 rfl (Nat.le_of_ble_eq_true rfl) k)))))) ?_
    refine J.mono (fun k => w_forget (wk_k (wk_k (wk_k (wk_k wk_0)))) k) ?_
    refine J_loop (Jl_mo_number_b16 hd  _ _) (fun w19 => ?_)
    exact J.mono (fun k => w_forget (wk_k (wk_d (wk_k (wk_k wk_0)))) k) (J_mo_number_j66 hd )
set_option maxRecDepth 20000 in
set_option maxHeartbeats 4000000 in
theorem cal_mo_number {Δ : DT} {d : Nat} (hd : 2 ≤ d) {x1 : Int}  {M : MEM} {p : Int × MEM} (h : mo_number x1 M = some p) (ho : okVs [vR 278, vI x1]) (hM : okM M) : Cal Δ false m_mo_number d [vR 278, vI x1] (NG, S0, M) (some p.1) (NG, S0, p.2) 0 0 := by
  obtain ⟨d, rfl⟩ : ∃ e, d = e + 1 := ⟨d - 1, by omega⟩
  exact cal_of g_mo_number p_mo_number (fun v hv => by simp only [List.mem_cons, List.not_mem_nil, or_false] at hv; rcases hv with rfl | rfl <;> first | exact Or.inl ⟨_, rfl⟩ | exact Or.inr ⟨_, rfl⟩) ho hM (Nat.le_of_ble_eq_true rfl) (fun Γ _ k => J_mo_number hd  _ h k)
abbrev HD_mo_readDonkey_b19 (Δ : DT) (Γ : FT) (d : Nat) (x1 : Int) (s : Int × MEM) : Prop := WAt Δ Γ false m_mo_readDonkey (d + 1) 19 [vR (278), vI (x1), vI (s.1)] [] (NG, S0, s.2) 0 0
abbrev X_mo_readDonkey_b19 (Δ : DT) (Γ : FT) (d : Nat) (x1 : Int) (s : Int × MEM) : Prop := WAt Δ Γ false m_mo_readDonkey (d + 1) 90 [vR (278), vI (x1), vI (s.1)] [] (NG, S0, s.2) 0 0
set_option maxRecDepth 20000 in
set_option maxHeartbeats 4000000 in
theorem Jb_mo_readDonkey_b19 {Δ : DT} {Γ : FT} {d : Nat} (hd : 3 ≤ d + 1) {x1 : Int}  {x2 : Int} {M : MEM} : J (mo_readDonkey_b19 x1 x2 M) (Sum.elim (HD_mo_readDonkey_b19 Δ Γ d x1) (X_mo_readDonkey_b19 Δ Γ d x1)) (WAt Δ Γ false m_mo_readDonkey (d + 1) 19 [vR (278), vI (x1), vI (x2)] [] (NG, S0, M) 0 0) := by
  unfold mo_readDonkey_b19
  refine J.mono (fun k => w_aload_n rfl rfl k) ?_
  refine J_hyp (fun k => c_vi0 rfl (fun ho hM => cal_mo_fine (by omega)   ho hM) v_mo_fine (Nat.le_of_ble_eq_true rfl) S_278 rfl (Nat.le_of_ble_eq_true rfl) k) (fun hr10 hb11 => ?_)
  refine J_ite (fun hc12 => ?_) (fun hc12 => ?_)
  · refine J.mono (fun k => s_if_eq_t rfl hc12 k) ?_
    exact J_some (fun k => w_forget (wk_k (wk_k (wk_k wk_0))) k)
  · refine J.mono (fun k => s_if_eq_f rfl hc12 (w_aload_n rfl rfl k)) ?_
    refine J_c (fun r14 e13 => ?_)
    refine J_hyp (fun k => c_vi0 rfl (fun ho hM => cal_mo_here (by omega)  e13 ho hM) v_mo_here (Nat.le_of_ble_eq_true rfl) S_278 rfl (Nat.le_of_ble_eq_true rfl) k) (fun hr15 hb16 => ?_)
    refine J.mono (fun k => w_bipush rfl (bip_c rfl) (w_bipush rfl (bip_c rfl) k)) ?_
    refine J_hyp (fun k => c_si3 rfl rfl (fun ho hM => cal_mo_in (by omega)   ho hM) v_mo_in (Nat.le_of_ble_eq_true rfl) k) (fun hr18 hb19 => ?_)
    refine J_ite (fun hc20 => ?_) (fun hc20 => ?_)
    · refine J.mono (fun k => s_if_eq_t rfl hc20 k) ?_
      exact J_some (fun k => w_forget (wk_k (wk_k (wk_k wk_0))) k)
    · refine J.mono (fun k => s_if_eq_f rfl hc20 (w_iload_n rfl rfl (w_bipush rfl (bip_c rfl) k))) ?_
      refine J_ite (fun hc21 => ?_) (fun hc21 => ?_)
      · refine J.mono (fun k => s_icmp_ne_f rfl hc21 (w_aload_n rfl rfl (w_aload_n rfl rfl (w_getI rfl (Nat.le_of_ble_eq_true rfl) S_278 rfl k)))) ?_
        refine J_c (fun M23 e22 => ?_)
        refine J.mono (fun k => c_vv1 rfl (fun ho hM => cal_mo_fault (by omega)  e22 ho hM) v_mo_fault (Nat.le_of_ble_eq_true rfl) S_278 rfl (Nat.le_of_ble_eq_true rfl) (w_goto rfl k)) ?_
        exact J_some (fun k => w_forget (wk_k (wk_k (wk_k wk_0))) k)
      · refine J.mono (fun k => s_icmp_ne_t rfl hc21 (w_aload_n rfl rfl (w_getR (r := 285) rfl (Nat.le_of_ble_eq_true rfl) S_278 rfl (w_iload_n rfl rfl (w_iconst rfl (inR_c rfl) (w_iadd rfl (w_iload_n rfl rfl (w_iadd rfl (w_aload_n rfl rfl k))))))))) ?_
        refine J_c (fun r25 e24 => ?_)
        refine J_hyp (fun k => c_vi0 rfl (fun ho hM => cal_mo_here (by omega)  e24 ho hM) v_mo_here (Nat.le_of_ble_eq_true rfl) S_278 rfl (Nat.le_of_ble_eq_true rfl) k) (fun hr26 hb27 => ?_)
        refine J.mono (fun k => w_bipush rfl (bip_c rfl) (w_isub rfl k)) ?_
        refine J_chk (fun hi29 => ?_)
        refine J_b ?_
        refine J.mono (fun k => w_iast rfl A_285.1 A_285.2 hi29.1 hi29.2 rfl (s_iinc2 rfl (Nat.le_of_ble_eq_true rfl) (w_aload_n rfl rfl (w_dup rfl (fun _ h => by cases h) (w_getI rfl (Nat.le_of_ble_eq_true rfl) S_278 rfl (w_iconst rfl (inR_c rfl) (w_iadd rfl k))))))) ?_
        refine J_b ?_
        refine J.mono (fun k => w_putI rfl (Nat.le_of_ble_eq_true rfl) S_278 rfl rfl (w_goto rfl k)) ?_
        exact J_some (fun k => w_forget (wk_k (wk_k (wk_k wk_0))) k)
set_option maxRecDepth 20000 in
set_option maxHeartbeats 4000000 in
theorem Jl_mo_readDonkey_b19 {Δ : DT} {Γ : FT} {d : Nat} (hd : 3 ≤ d + 1) {x1 : Int}   : ∀ (n : Nat) (s : Int × MEM), J (iter (fun s => mo_readDonkey_b19 x1 s.1 s.2) n s) (X_mo_readDonkey_b19 Δ Γ d x1) (HD_mo_readDonkey_b19 Δ Γ d x1 s) := J_iter (fun s => Jb_mo_readDonkey_b19 hd )
set_option maxRecDepth 20000 in
set_option maxHeartbeats 4000000 in
theorem J_mo_readDonkey_j103 {Δ : DT} {Γ : FT} {d : Nat} (hd : 3 ≤ d + 1) {x1 : Int} {x2 : Int}  {M : MEM} : J (mo_readDonkey_j103 x1 x2 M) (K_M Δ Γ m_mo_readDonkey) (WAt Δ Γ false m_mo_readDonkey (d + 1) 103 [vR (278), vI (x1), vI (x2)] [] (NG, S0, M) 0 0) := by
  unfold mo_readDonkey_j103
  refine J.mono (fun k => w_aload_n rfl rfl (w_getR (r := 285) rfl (Nat.le_of_ble_eq_true rfl) S_278 rfl (w_iload_n rfl rfl (w_iconst rfl (inR_c rfl) (w_iadd rfl (w_iload_n rfl rfl k)))))) ?_
  refine J_chk (fun hi34 => ?_)
  refine J_b ?_
  refine J.mono (fun k => w_iast rfl A_285.1 A_285.2 hi34.1 hi34.2 rfl k) ?_
  exact J_some (fun k => w_return rfl rfl k)
set_option maxRecDepth 20000 in
set_option maxHeartbeats 4000000 in
theorem J_mo_readDonkey_j90 {Δ : DT} {Γ : FT} {d : Nat} (hd : 3 ≤ d + 1) {x1 : Int} {x2 : Int}  {M : MEM} : J (mo_readDonkey_j90 x1 x2 M) (K_M Δ Γ m_mo_readDonkey) (WAt Δ Γ false m_mo_readDonkey (d + 1) 90 [vR (278), vI (x1), vI (x2)] [] (NG, S0, M) 0 0) := by
  unfold mo_readDonkey_j90
  refine J.mono (fun k => w_iload_n rfl rfl (w_iconst rfl (inR_c rfl) k)) ?_
  refine J_ite (fun hc32 => ?_) (fun hc32 => ?_)
  · refine J.mono (fun k => s_icmp_ge_t rfl hc32 k) ?_
    exact J.mono (fun k => w_forget (wk_k (wk_k (wk_k wk_0))) k) (J_mo_readDonkey_j103 hd )
  · refine J.mono (fun k => s_icmp_ge_f rfl hc32 (w_aload_n rfl rfl (w_aload_n rfl rfl (w_getI rfl (Nat.le_of_ble_eq_true rfl) S_278 rfl k)))) ?_
    refine J_c (fun M36 e35 => ?_)
    refine J.mono (fun k => c_vv1 rfl (fun ho hM => cal_mo_fault (by omega)  e35 ho hM) v_mo_fault (Nat.le_of_ble_eq_true rfl) S_278 rfl (Nat.le_of_ble_eq_true rfl) k) ?_
    exact J.mono (fun k => w_forget (wk_k (wk_k (wk_k wk_0))) k) (J_mo_readDonkey_j103 hd )
set_option maxRecDepth 20000 in
set_option maxHeartbeats 4000000 in
theorem J_mo_readDonkey {Δ : DT} {Γ : FT} {d : Nat} (hd : 3 ≤ d + 1) {x1 : Int}  {M : MEM} : J (mo_readDonkey x1 M) (K_M Δ Γ m_mo_readDonkey) (WAt Δ Γ false m_mo_readDonkey (d + 1) 0 [vR (278), vI (x1), vN] [] (NG, S0, M) 0 0) := by
  unfold mo_readDonkey
  refine J.mono (fun k => w_aload_n rfl rfl (w_getR (r := 285) rfl (Nat.le_of_ble_eq_true rfl) S_278 rfl (w_iload_n rfl rfl (w_aload_n rfl rfl (w_iconst rfl (inR_c rfl) k))))) ?_
  refine J_c (fun p2 e1 => ?_)
  refine J_hyp (fun k => c_vi1 rfl (fun ho hM => cal_mo_number (by omega)  e1 ho hM) v_mo_number (Nat.le_of_ble_eq_true rfl) S_278 rfl (Nat.le_of_ble_eq_true rfl) k) (fun hr3 hb4 => ?_)
  refine J_chk (fun hi6 => ?_)
  refine J_b ?_
  refine J.mono (fun k => w_iast rfl A_285.1 A_285.2 hi6.1 hi6.2 rfl (w_aload_n rfl rfl (w_bipush rfl (bip_c rfl) k))) ?_
  refine J_c (fun M8 e7 => ?_)
  refine J.mono (fun k => c_vv1 rfl (fun ho hM => cal_mo_need (by omega)  e7 ho hM) v_mo_need (Nat.le_of_ble_eq_true rfl) S_278 rfl (Nat.le_of_ble_eq_true rfl) (w_iconst rfl (inR_c rfl) (s_istore2 rfl (Nat.le_of_ble_eq_true rfl) k))) ?_
  refine J.mono (fun k => w_forget (wk_k (wk_k (wk_k wk_0))) k) ?_
  refine J_loop (Jl_mo_readDonkey_b19 hd  _ _) (fun w31 => ?_)
  exact J.mono (fun k => w_forget (wk_k (wk_k (wk_k wk_0))) k) (J_mo_readDonkey_j90 hd )
set_option maxRecDepth 20000 in
set_option maxHeartbeats 4000000 in
theorem cal_mo_readDonkey {Δ : DT} {d : Nat} (hd : 3 ≤ d) {x1 : Int}  {M : MEM} {M1 : MEM} (h : mo_readDonkey x1 M = some M1) (ho : okVs [vR 278, vI x1]) (hM : okM M) : Cal Δ false m_mo_readDonkey d [vR 278, vI x1] (NG, S0, M) none (NG, S0, M1) 0 0 := by
  obtain ⟨d, rfl⟩ : ∃ e, d = e + 1 := ⟨d - 1, by omega⟩
  exact cal_of g_mo_readDonkey p_mo_readDonkey (fun v hv => by simp only [List.mem_cons, List.not_mem_nil, or_false] at hv; rcases hv with rfl | rfl <;> first | exact Or.inl ⟨_, rfl⟩ | exact Or.inr ⟨_, rfl⟩) ho hM (Nat.le_of_ble_eq_true rfl) (fun Γ _ k => J_mo_readDonkey hd  _ h k)
abbrev HD_mo_stable_b37 (Δ : DT) (Γ : FT) (d : Nat)  (s : Int × Int × MEM) : Prop := WAt Δ Γ false m_mo_stable (d + 1) 37 [vR (278), vI (s.1), vI (s.2.1), vN, vN, vN] [] (NG, S0, s.2.2) 0 0
abbrev X_mo_stable_b37 (Δ : DT) (Γ : FT) (d : Nat)  (s : Int × Int × MEM) : Prop := WAt Δ Γ false m_mo_stable (d + 1) 90 [vR (278), vI (s.1), vN, vN, vN, vN] [] (NG, S0, s.2.2) 0 0
set_option maxRecDepth 20000 in
set_option maxHeartbeats 4000000 in
theorem J_mo_stable_j77_37 {Δ : DT} {Γ : FT} {d : Nat} (hd : 4 ≤ d + 1) {x1 : Int}  {M : MEM} : J (mo_stable_j77_37 x1 M) (Sum.elim (HD_mo_stable_b37 Δ Γ d ) (X_mo_stable_b37 Δ Γ d )) (WAt Δ Γ false m_mo_stable (d + 1) 77 [vR (278), vI (x1), vN, vN, vN, vN] [] (NG, S0, M) 0 0) := by
  unfold mo_stable_j77_37
  refine J.mono (fun k => s_iinc1 rfl (Nat.le_of_ble_eq_true rfl) (w_aload_n rfl rfl (w_bipush rfl (bip_c rfl) k))) ?_
  refine J_c (fun p15 e14 => ?_)
  refine J_hyp (fun k => c_vi1 rfl (fun ho hM => cal_mo_passes (by omega)  e14 ho hM) v_mo_passes (Nat.le_of_ble_eq_true rfl) S_278 rfl (Nat.le_of_ble_eq_true rfl) k) (fun hr16 hb17 => ?_)
  refine J.mono (fun k => s_istore2 rfl (Nat.le_of_ble_eq_true rfl) (w_goto rfl k)) ?_
  exact J_some (fun k => w_forget (wk_k (wk_k (wk_k (wk_d (wk_d (wk_d wk_0)))))) k)
set_option maxRecDepth 20000 in
set_option maxHeartbeats 4000000 in
theorem Jb_mo_stable_b37 {Δ : DT} {Γ : FT} {d : Nat} (hd : 4 ≤ d + 1)   {x1 : Int} {x2 : Int} {M : MEM} : J (mo_stable_b37  x1 x2 M) (Sum.elim (HD_mo_stable_b37 Δ Γ d ) (X_mo_stable_b37 Δ Γ d )) (WAt Δ Γ false m_mo_stable (d + 1) 37 [vR (278), vI (x1), vI (x2), vN, vN, vN] [] (NG, S0, M) 0 0) := by
  unfold mo_stable_b37
  refine J.mono (fun k => w_iload_n rfl rfl k) ?_
  refine J_ite (fun hc6 => ?_) (fun hc6 => ?_)
  · refine J.mono (fun k => s_if_eq_t rfl hc6 k) ?_
    exact J_some (fun k => w_forget (wk_k (wk_k (wk_d (wk_d (wk_d (wk_d wk_0)))))) k)
  · refine J.mono (fun k => s_if_eq_f rfl hc6 (w_aload_n rfl rfl k)) ?_
    refine J_hyp (fun k => c_vi0 rfl (fun ho hM => cal_mo_fine (by omega)   ho hM) v_mo_fine (Nat.le_of_ble_eq_true rfl) S_278 rfl (Nat.le_of_ble_eq_true rfl) k) (fun hr8 hb9 => ?_)
    refine J_ite (fun hc10 => ?_) (fun hc10 => ?_)
    · refine J.mono (fun k => s_if_eq_t rfl hc10 k) ?_
      exact J_some (fun k => w_forget (wk_k (wk_k (wk_d (wk_d (wk_d (wk_d wk_0)))))) k)
    · refine J.mono (fun k => s_if_eq_f rfl hc10 (w_aload_n rfl rfl (w_getI rfl (Nat.le_of_ble_eq_true rfl) S_278 rfl (w_iload_n rfl rfl (w_iadd rfl (w_iconst rfl (inR_c rfl) k)))))) ?_
      refine J_ite (fun hc11 => ?_) (fun hc11 => ?_)
      · refine J.mono (fun k => s_icmp_ne_f rfl hc11 (w_aload_n rfl rfl (w_aload_n rfl rfl (w_getI rfl (Nat.le_of_ble_eq_true rfl) S_278 rfl k)))) ?_
        refine J_c (fun M13 e12 => ?_)
        refine J.mono (fun k => c_vv1 rfl (fun ho hM => cal_mo_fault (by omega)  e12 ho hM) v_mo_fault (Nat.le_of_ble_eq_true rfl) S_278 rfl (Nat.le_of_ble_eq_true rfl) (w_goto rfl k)) ?_
        exact J.mono (fun k => w_forget (wk_k (wk_k (wk_d (wk_d (wk_d (wk_d wk_0)))))) k) (J_mo_stable_j77_37 hd )
      · refine J.mono (fun k => s_icmp_ne_t rfl hc11 (w_aload_n rfl rfl (w_bipush rfl (bip_c rfl) (w_iload_n rfl rfl (w_imul rfl k))))) ?_
        refine J_c (fun M19 e18 => ?_)
        refine J.mono (fun k => c_vv1 rfl (fun ho hM => cal_mo_readDonkey (by omega)  e18 ho hM) v_mo_readDonkey (Nat.le_of_ble_eq_true rfl) S_278 rfl (Nat.le_of_ble_eq_true rfl) k) ?_
        exact J.mono (fun k => w_forget (wk_k (wk_k (wk_d (wk_d (wk_d (wk_d wk_0)))))) k) (J_mo_stable_j77_37 hd )
set_option maxRecDepth 20000 in
set_option maxHeartbeats 4000000 in
theorem Jl_mo_stable_b37 {Δ : DT} {Γ : FT} {d : Nat} (hd : 4 ≤ d + 1)    : ∀ (n : Nat) (s : Int × Int × MEM), J (iter (fun s => mo_stable_b37  s.1 s.2.1 s.2.2) n s) (X_mo_stable_b37 Δ Γ d ) (HD_mo_stable_b37 Δ Γ d  s) := J_iter (fun s => Jb_mo_stable_b37 hd )
abbrev HD_mo_stable_b125 (Δ : DT) (Γ : FT) (d : Nat) (x1 : Int) (s : Int × MEM) : Prop := WAt Δ Γ false m_mo_stable (d + 1) 125 [vR (278), vI (x1), vN, vI (s.1), vN, vN] [] (NG, S0, s.2) 0 0
abbrev X_mo_stable_b125 (Δ : DT) (Γ : FT) (d : Nat) (x1 : Int) (s : Int × MEM) : Prop := WAt Δ Γ false m_mo_stable (d + 1) 267 [vR (278), vI (x1), vN, vN, vN, vN] [] (NG, S0, s.2) 0 0
abbrev HD_mo_stable_b142 (Δ : DT) (Γ : FT) (d : Nat) (x1 : Int) (x3 : Int) (x4 : Int) (s : Int × MEM) : Prop := WAt Δ Γ false m_mo_stable (d + 1) 142 [vR (278), vI (x1), vN, vI (x3), vI (x4), vI (s.1)] [] (NG, S0, s.2) 0 0
abbrev X_mo_stable_b142 (Δ : DT) (Γ : FT) (d : Nat) (x1 : Int) (x3 : Int) (x4 : Int) (s : Int × MEM) : Prop := WAt Δ Γ false m_mo_stable (d + 1) 166 [vR (278), vI (x1), vN, vI (x3), vI (x4), vN] [] (NG, S0, s.2) 0 0
set_option maxRecDepth 20000 in
set_option maxHeartbeats 4000000 in
theorem Jb_mo_stable_b142 {Δ : DT} {Γ : FT} {d : Nat} (hd : 4 ≤ d + 1) {x1 : Int} {x3 : Int} {x4 : Int}  {x5 : Int} {M : MEM} : J (mo_stable_b142 x1 x3 x4 x5 M) (Sum.elim (HD_mo_stable_b142 Δ Γ d x1 x3 x4) (X_mo_stable_b142 Δ Γ d x1 x3 x4)) (WAt Δ Γ false m_mo_stable (d + 1) 142 [vR (278), vI (x1), vN, vI (x3), vI (x4), vI (x5)] [] (NG, S0, M) 0 0) := by
  unfold mo_stable_b142
  refine J.mono (fun k => w_iload rfl rfl (w_bipush rfl (bip_c rfl) k)) ?_
  refine J_ite (fun hc27 => ?_) (fun hc27 => ?_)
  · refine J.mono (fun k => s_icmp_ge_t rfl hc27 k) ?_
    exact J_some (fun k => w_forget (wk_k (wk_k (wk_d (wk_k (wk_k (wk_d wk_0)))))) k)
  · refine J.mono (fun k => s_icmp_ge_f rfl hc27 (w_aload_n rfl rfl (w_getR (r := 279) rfl (Nat.le_of_ble_eq_true rfl) S_278 rfl (w_iload rfl rfl (w_iload rfl rfl (w_iadd rfl (w_iconst rfl (inR_c rfl) k))))))) ?_
    refine J_chk (fun hi29 => ?_)
    refine J_b ?_
    refine J.mono (fun k => w_iast rfl A_279.1 A_279.2 hi29.1 hi29.2 rfl (s_iinc5 rfl (Nat.le_of_ble_eq_true rfl) (w_goto rfl k))) ?_
    exact J_some (fun k => w_forget (wk_k (wk_k (wk_d (wk_k (wk_k (wk_k wk_0)))))) k)
set_option maxRecDepth 20000 in
set_option maxHeartbeats 4000000 in
theorem Jl_mo_stable_b142 {Δ : DT} {Γ : FT} {d : Nat} (hd : 4 ≤ d + 1) {x1 : Int} {x3 : Int} {x4 : Int}   : ∀ (n : Nat) (s : Int × MEM), J (iter (fun s => mo_stable_b142 x1 x3 x4 s.1 s.2) n s) (X_mo_stable_b142 Δ Γ d x1 x3 x4) (HD_mo_stable_b142 Δ Γ d x1 x3 x4 s) := J_iter (fun s => Jb_mo_stable_b142 hd )
abbrev HD_mo_stable_b205 (Δ : DT) (Γ : FT) (d : Nat) (x1 : Int) (x3 : Int) (x4 : Int) (s : Int × MEM) : Prop := WAt Δ Γ false m_mo_stable (d + 1) 205 [vR (278), vI (x1), vN, vI (x3), vI (x4), vI (s.1)] [] (NG, S0, s.2) 0 0
abbrev X_mo_stable_b205 (Δ : DT) (Γ : FT) (d : Nat) (x1 : Int) (x3 : Int) (x4 : Int) (s : Int × MEM) : Prop := WAt Δ Γ false m_mo_stable (d + 1) 251 [vR (278), vI (x1), vN, vI (x3), vN, vN] [] (NG, S0, s.2) 0 0
set_option maxRecDepth 20000 in
set_option maxHeartbeats 4000000 in
theorem Jb_mo_stable_b205 {Δ : DT} {Γ : FT} {d : Nat} (hd : 4 ≤ d + 1) {x1 : Int} {x3 : Int} {x4 : Int}  {x5 : Int} {M : MEM} : J (mo_stable_b205 x1 x3 x4 x5 M) (Sum.elim (HD_mo_stable_b205 Δ Γ d x1 x3 x4) (X_mo_stable_b205 Δ Γ d x1 x3 x4)) (WAt Δ Γ false m_mo_stable (d + 1) 205 [vR (278), vI (x1), vN, vI (x3), vI (x4), vI (x5)] [] (NG, S0, M) 0 0) := by
  unfold mo_stable_b205
  refine J.mono (fun k => w_iload rfl rfl (w_aload_n rfl rfl (w_getR (r := 280) rfl (Nat.le_of_ble_eq_true rfl) S_278 rfl (w_aload_n rfl rfl (w_getI rfl (Nat.le_of_ble_eq_true rfl) S_278 rfl k))))) ?_
  refine J_chk (fun hi37 => ?_)
  refine J.mono (fun k => w_iald rfl A_280.1 A_280.2 hi37.1 hi37.2 k) ?_
  refine J_ite (fun hc38 => ?_) (fun hc38 => ?_)
  · refine J.mono (fun k => s_icmp_ge_t rfl hc38 k) ?_
    exact J_some (fun k => w_forget (wk_k (wk_k (wk_d (wk_k (wk_d (wk_d wk_0)))))) k)
  · refine J.mono (fun k => s_icmp_ge_f rfl hc38 (w_aload_n rfl rfl (w_getR (r := 279) rfl (Nat.le_of_ble_eq_true rfl) S_278 rfl (w_iload rfl rfl (w_iconst rfl (inR_c rfl) (w_iadd rfl (w_iload rfl rfl (w_iadd rfl (w_aload_n rfl rfl (w_getR (r := 285) rfl (Nat.le_of_ble_eq_true rfl) S_278 rfl (w_bipush rfl (bip_c rfl) (w_iload_n rfl rfl (w_imul rfl (w_iconst rfl (inR_c rfl) (w_iadd rfl (w_iload rfl rfl (w_iadd rfl k))))))))))))))))) ?_
    refine J_chk (fun hi39 => ?_)
    refine J.mono (fun k => w_iald rfl A_285.1 A_285.2 hi39.1 hi39.2 k) ?_
    refine J_chk (fun hi41 => ?_)
    refine J_b ?_
    refine J.mono (fun k => w_iast rfl A_279.1 A_279.2 hi41.1 hi41.2 rfl (s_iinc5 rfl (Nat.le_of_ble_eq_true rfl) (w_goto rfl k))) ?_
    exact J_some (fun k => w_forget (wk_k (wk_k (wk_d (wk_k (wk_k (wk_k wk_0)))))) k)
set_option maxRecDepth 20000 in
set_option maxHeartbeats 4000000 in
theorem Jl_mo_stable_b205 {Δ : DT} {Γ : FT} {d : Nat} (hd : 4 ≤ d + 1) {x1 : Int} {x3 : Int} {x4 : Int}   : ∀ (n : Nat) (s : Int × MEM), J (iter (fun s => mo_stable_b205 x1 x3 x4 s.1 s.2) n s) (X_mo_stable_b205 Δ Γ d x1 x3 x4) (HD_mo_stable_b205 Δ Γ d x1 x3 x4 s) := J_iter (fun s => Jb_mo_stable_b205 hd )
set_option maxRecDepth 20000 in
set_option maxHeartbeats 4000000 in
theorem Jb_mo_stable_b125 {Δ : DT} {Γ : FT} {d : Nat} (hd : 4 ≤ d + 1) {x1 : Int}  {x3 : Int} {M : MEM} : J (mo_stable_b125 x1 x3 M) (Sum.elim (HD_mo_stable_b125 Δ Γ d x1) (X_mo_stable_b125 Δ Γ d x1)) (WAt Δ Γ false m_mo_stable (d + 1) 125 [vR (278), vI (x1), vN, vI (x3), vN, vN] [] (NG, S0, M) 0 0) := by
  unfold mo_stable_b125
  refine J.mono (fun k => w_iload_n rfl rfl (w_iload_n rfl rfl k)) ?_
  refine J_ite (fun hc26 => ?_) (fun hc26 => ?_)
  · refine J.mono (fun k => s_icmp_ge_t rfl hc26 k) ?_
    exact J_some (fun k => w_forget (wk_k (wk_k (wk_d (wk_d (wk_d (wk_d wk_0)))))) k)
  · refine J.mono (fun k => s_icmp_ge_f rfl hc26 (w_bipush rfl (bip_c rfl) (w_aload_n rfl rfl (w_getI rfl (Nat.le_of_ble_eq_true rfl) S_278 rfl (w_imul rfl (s_istore4 rfl (Nat.le_of_ble_eq_true rfl) (w_iconst rfl (inR_c rfl) (s_istore5 rfl (Nat.le_of_ble_eq_true rfl) k)))))))) ?_
    refine J.mono (fun k => w_forget (wk_k (wk_k (wk_d (wk_k (wk_k (wk_k wk_0)))))) k) ?_
    refine J_loop (Jl_mo_stable_b142 hd  _ _) (fun w30 => ?_)
    refine J.mono (fun k => w_aload_n rfl rfl (w_getR (r := 279) rfl (Nat.le_of_ble_eq_true rfl) S_278 rfl (w_iload rfl rfl (w_aload_n rfl rfl (w_getR (r := 285) rfl (Nat.le_of_ble_eq_true rfl) S_278 rfl (w_bipush rfl (bip_c rfl) (w_iload_n rfl rfl (w_imul rfl k)))))))) ?_
    refine J_chk (fun hi31 => ?_)
    refine J.mono (fun k => w_iald rfl A_285.1 A_285.2 hi31.1 hi31.2 k) ?_
    refine J_chk (fun hi33 => ?_)
    refine J_b ?_
    refine J.mono (fun k => w_iast rfl A_279.1 A_279.2 hi33.1 hi33.2 rfl (w_aload_n rfl rfl (w_getR (r := 280) rfl (Nat.le_of_ble_eq_true rfl) S_278 rfl (w_aload_n rfl rfl (w_getI rfl (Nat.le_of_ble_eq_true rfl) S_278 rfl (w_aload_n rfl rfl (w_getR (r := 285) rfl (Nat.le_of_ble_eq_true rfl) S_278 rfl (w_bipush rfl (bip_c rfl) (w_iload_n rfl rfl (w_imul rfl (w_iconst rfl (inR_c rfl) (w_iadd rfl k)))))))))))) ?_
    refine J_chk (fun hi34 => ?_)
    refine J.mono (fun k => w_iald rfl A_285.1 A_285.2 hi34.1 hi34.2 k) ?_
    refine J_chk (fun hi36 => ?_)
    refine J_b ?_
    refine J.mono (fun k => w_iast rfl A_280.1 A_280.2 hi36.1 hi36.2 rfl (w_iconst rfl (inR_c rfl) (s_istore5 rfl (Nat.le_of_ble_eq_true rfl) k))) ?_
    refine J.mono (fun k => w_forget (wk_k (wk_k (wk_d (wk_k (wk_k (wk_k wk_0)))))) k) ?_
    refine J_loop (Jl_mo_stable_b205 hd  _ _) (fun w42 => ?_)
    refine J.mono (fun k => w_aload_n rfl rfl (w_dup rfl (fun _ h => by cases h) (w_getI rfl (Nat.le_of_ble_eq_true rfl) S_278 rfl (w_iconst rfl (inR_c rfl) (w_iadd rfl k))))) ?_
    refine J_b ?_
    refine J.mono (fun k => w_putI rfl (Nat.le_of_ble_eq_true rfl) S_278 rfl rfl (s_iinc3 rfl (Nat.le_of_ble_eq_true rfl) (w_goto rfl k))) ?_
    exact J_some (fun k => w_forget (wk_k (wk_k (wk_d (wk_k (wk_d (wk_d wk_0)))))) k)
set_option maxRecDepth 20000 in
set_option maxHeartbeats 4000000 in
theorem Jl_mo_stable_b125 {Δ : DT} {Γ : FT} {d : Nat} (hd : 4 ≤ d + 1) {x1 : Int}   : ∀ (n : Nat) (s : Int × MEM), J (iter (fun s => mo_stable_b125 x1 s.1 s.2) n s) (X_mo_stable_b125 Δ Γ d x1) (HD_mo_stable_b125 Δ Γ d x1 s) := J_iter (fun s => Jb_mo_stable_b125 hd )
set_option maxRecDepth 20000 in
set_option maxHeartbeats 4000000 in
theorem J_mo_stable_j109 {Δ : DT} {Γ : FT} {d : Nat} (hd : 4 ≤ d + 1) {x1 : Int}  {M : MEM} : J (mo_stable_j109 x1 M) (K_IM Δ Γ m_mo_stable) (WAt Δ Γ false m_mo_stable (d + 1) 109 [vR (278), vI (x1), vN, vN, vN, vN] [] (NG, S0, M) 0 0) := by
  unfold mo_stable_j109
  refine J.mono (fun k => w_aload_n rfl rfl k) ?_
  refine J_hyp (fun k => c_vi0 rfl (fun ho hM => cal_mo_fine (by omega)   ho hM) v_mo_fine (Nat.le_of_ble_eq_true rfl) S_278 rfl (Nat.le_of_ble_eq_true rfl) k) (fun hr23 hb24 => ?_)
  refine J_ite (fun hc25 => ?_) (fun hc25 => ?_)
  · refine J.mono (fun k => s_if_ne_f rfl hc25 (w_iconst rfl (inR_c rfl) (w_aload_n rfl rfl (w_getI rfl (Nat.le_of_ble_eq_true rfl) S_278 rfl (w_isub rfl k))))) ?_
    exact J_some (fun k => w_ireturn rfl rfl k)
  · refine J.mono (fun k => s_if_ne_t rfl hc25 (w_iconst rfl (inR_c rfl) (s_istore3 rfl (Nat.le_of_ble_eq_true rfl) k))) ?_
    refine J.mono (fun k => w_forget (wk_k (wk_k (wk_d (wk_k (wk_d (wk_d wk_0)))))) k) ?_
    refine J_loop (Jl_mo_stable_b125 hd  _ _) (fun w44 => ?_)
    refine J.mono (fun k => w_aload_n rfl rfl (w_iconst rfl (inR_c rfl) k)) ?_
    refine J_b ?_
    refine J.mono (fun k => w_putI rfl (Nat.le_of_ble_eq_true rfl) S_278 rfl rfl (w_aload_n rfl rfl (w_dup rfl (fun _ h => by cases h) (w_getI rfl (Nat.le_of_ble_eq_true rfl) S_278 rfl (w_iconst rfl (inR_c rfl) (w_iadd rfl k)))))) ?_
    refine J_b ?_
    refine J.mono (fun k => w_putI rfl (Nat.le_of_ble_eq_true rfl) S_278 rfl rfl (w_iload_n rfl rfl k)) ?_
    exact J_some (fun k => w_ireturn rfl rfl k)
set_option maxRecDepth 20000 in
set_option maxHeartbeats 4000000 in
theorem J_mo_stable_j90 {Δ : DT} {Γ : FT} {d : Nat} (hd : 4 ≤ d + 1) {x1 : Int}  {M : MEM} : J (mo_stable_j90 x1 M) (K_IM Δ Γ m_mo_stable) (WAt Δ Γ false m_mo_stable (d + 1) 90 [vR (278), vI (x1), vN, vN, vN, vN] [] (NG, S0, M) 0 0) := by
  unfold mo_stable_j90
  refine J.mono (fun k => w_aload_n rfl rfl (w_getI rfl (Nat.le_of_ble_eq_true rfl) S_278 rfl (w_aload_n rfl rfl (w_getI rfl (Nat.le_of_ble_eq_true rfl) S_278 rfl k)))) ?_
  refine J_ite (fun hc21 => ?_) (fun hc21 => ?_)
  · refine J.mono (fun k => s_icmp_ge_t rfl hc21 k) ?_
    exact J.mono (fun k => w_forget (wk_k (wk_k (wk_d (wk_d (wk_d (wk_d wk_0)))))) k) (J_mo_stable_j109 hd )
  · refine J.mono (fun k => s_icmp_ge_f rfl hc21 (w_aload_n rfl rfl (w_aload_n rfl rfl (w_getI rfl (Nat.le_of_ble_eq_true rfl) S_278 rfl k)))) ?_
    refine J_c (fun M48 e47 => ?_)
    refine J.mono (fun k => c_vv1 rfl (fun ho hM => cal_mo_fault (by omega)  e47 ho hM) v_mo_fault (Nat.le_of_ble_eq_true rfl) S_278 rfl (Nat.le_of_ble_eq_true rfl) k) ?_
    exact J.mono (fun k => w_forget (wk_k (wk_k (wk_d (wk_d (wk_d (wk_d wk_0)))))) k) (J_mo_stable_j109 hd )
set_option maxRecDepth 20000 in
set_option maxHeartbeats 4000000 in
theorem J_mo_stable {Δ : DT} {Γ : FT} {d : Nat} (hd : 4 ≤ d + 1)   {M : MEM} : J (mo_stable M) (K_IM Δ Γ m_mo_stable) (WAt Δ Γ false m_mo_stable (d + 1) 0 [vR (278), vN, vN, vN, vN, vN] [] (NG, S0, M) 0 0) := by
  unfold mo_stable
  refine J.mono (fun k => w_aload_n rfl rfl (w_iconst rfl (inR_c rfl) k)) ?_
  refine J_b ?_
  refine J.mono (fun k => w_putI rfl (Nat.le_of_ble_eq_true rfl) S_278 rfl rfl (w_aload_n rfl rfl (w_aload_n rfl rfl (w_getR (r := 283) rfl (Nat.le_of_ble_eq_true rfl) S_278 rfl (w_aload_n rfl rfl (w_getI rfl (Nat.le_of_ble_eq_true rfl) S_278 rfl (w_bipush rfl (bip_c rfl) k))))))) ?_
  refine J_c (fun M3 e2 => ?_)
  refine J.mono (fun k => c_vv3 rfl (fun ho hM => cal_mo_begin (by omega) (isArr_len A_283) e2 ho hM) v_mo_begin (Nat.le_of_ble_eq_true rfl) S_278 rfl (Nat.le_of_ble_eq_true rfl) (w_aload_n rfl rfl (w_iconst rfl (inR_c rfl) k))) ?_
  refine J_b ?_
  refine J.mono (fun k => w_putI rfl (Nat.le_of_ble_eq_true rfl) S_278 rfl rfl (w_aload_n rfl rfl (w_getI rfl (Nat.le_of_ble_eq_true rfl) S_278 rfl k))) ?_
  refine J_ite (fun hc5 => ?_) (fun hc5 => ?_)
  · refine J.mono (fun k => s_if_ne_f rfl hc5 (w_iconst rfl (inR_c rfl) k)) ?_
    exact J_some (fun k => w_ireturn rfl rfl k)
  · refine J.mono (fun k => s_if_ne_t rfl hc5 (w_iconst rfl (inR_c rfl) (s_istore1 rfl (Nat.le_of_ble_eq_true rfl) (w_iconst rfl (inR_c rfl) (s_istore2 rfl (Nat.le_of_ble_eq_true rfl) k))))) ?_
    refine J.mono (fun k => w_forget (wk_k (wk_k (wk_k (wk_d (wk_d (wk_d wk_0)))))) k) ?_
    refine J_loop (Jl_mo_stable_b37 hd  _ _) (fun w20 => ?_)
    exact J.mono (fun k => w_forget (wk_k (wk_k (wk_d (wk_d (wk_d (wk_d wk_0)))))) k) (J_mo_stable_j90 hd )
set_option maxRecDepth 20000 in
set_option maxHeartbeats 4000000 in
theorem cal_mo_stable {Δ : DT} {d : Nat} (hd : 4 ≤ d)   {M : MEM} {p : Int × MEM} (h : mo_stable M = some p) (ho : okVs [vR 278]) (hM : okM M) : Cal Δ false m_mo_stable d [vR 278] (NG, S0, M) (some p.1) (NG, S0, p.2) 0 0 := by
  obtain ⟨d, rfl⟩ : ∃ e, d = e + 1 := ⟨d - 1, by omega⟩
  exact cal_of g_mo_stable p_mo_stable (fun v hv => by simp only [List.mem_cons, List.not_mem_nil, or_false] at hv; rcases hv with rfl <;> first | exact Or.inl ⟨_, rfl⟩ | exact Or.inr ⟨_, rfl⟩) ho hM (Nat.le_of_ble_eq_true rfl) (fun Γ _ k => J_mo_stable hd  _ h k)
abbrev HD_mo_flies_b17 (Δ : DT) (Γ : FT) (d : Nat) (x1 : Int) (M : MEM) (s : Int) : Prop := WAt Δ Γ false m_mo_flies (d + 1) 17 [vR (278), vI (x1), vI (s)] [] (NG, S0, M) 0 0
abbrev X_mo_flies_b17 (Δ : DT) (Γ : FT) (d : Nat) (x1 : Int) (M : MEM) : (Int × MEM) ⊕ (Int) → Prop := Sum.elim (K_IM Δ Γ m_mo_flies) (fun s => WAt Δ Γ false m_mo_flies (d + 1) 54 [vR (278), vI (x1), vN] [] (NG, S0, M) 0 0)
set_option maxRecDepth 20000 in
set_option maxHeartbeats 4000000 in
theorem Jb_mo_flies_b17 {Δ : DT} {Γ : FT} {d : Nat} (hd : 1 ≤ d + 1) {x1 : Int}  {x2 : Int} {M : MEM} : J (mo_flies_b17 x1 x2 M) (Sum.elim (HD_mo_flies_b17 Δ Γ d x1 M) (X_mo_flies_b17 Δ Γ d x1 M)) (WAt Δ Γ false m_mo_flies (d + 1) 17 [vR (278), vI (x1), vI (x2)] [] (NG, S0, M) 0 0) := by
  unfold mo_flies_b17
  refine J.mono (fun k => w_iload_n rfl rfl (w_iload_n rfl rfl k)) ?_
  refine J_ite (fun hc3 => ?_) (fun hc3 => ?_)
  · refine J.mono (fun k => s_icmp_ge_t rfl hc3 k) ?_
    exact J_some (fun k => w_forget (wk_k (wk_k (wk_d wk_0))) k)
  · refine J.mono (fun k => s_icmp_ge_f rfl hc3 (w_iload_n rfl rfl (w_bipush rfl (bip_c rfl) k))) ?_
    refine J_ite (fun hc4 => ?_) (fun hc4 => ?_)
    · refine J.mono (fun k => s_icmp_eq_t rfl hc4 (w_iconst rfl (inR_c rfl) (w_iload_n rfl rfl (w_isub rfl k)))) ?_
      exact J_some (fun k => w_ireturn rfl rfl k)
    · refine J.mono (fun k => s_icmp_eq_f rfl hc4 (w_aload_n rfl rfl (w_getR (r := 283) rfl (Nat.le_of_ble_eq_true rfl) S_278 rfl (w_iload_n rfl rfl k)))) ?_
      refine J_chk (fun hi5 => ?_)
      refine J.mono (fun k => w_bald rfl A_283.1 A_283.2 hi5.1 hi5.2 (w_bipush rfl (bip_c rfl) (w_bipush rfl (bip_c rfl) k))) ?_
      refine J_hyp (fun k => c_si3 rfl rfl (fun ho hM => cal_mo_in (by omega)   ho hM) v_mo_in (Nat.le_of_ble_eq_true rfl) k) (fun hr7 hb8 => ?_)
      refine J_ite (fun hc9 => ?_) (fun hc9 => ?_)
      · refine J.mono (fun k => s_if_ne_f rfl hc9 (w_iconst rfl (inR_c rfl) (w_iload_n rfl rfl (w_isub rfl k)))) ?_
        exact J_some (fun k => w_ireturn rfl rfl k)
      · refine J.mono (fun k => s_if_ne_t rfl hc9 (s_iinc2 rfl (Nat.le_of_ble_eq_true rfl) (w_goto rfl k))) ?_
        exact J_some (fun k => w_forget (wk_k (wk_k (wk_k wk_0))) k)
set_option maxRecDepth 20000 in
set_option maxHeartbeats 4000000 in
theorem Jl_mo_flies_b17 {Δ : DT} {Γ : FT} {d : Nat} (hd : 1 ≤ d + 1) {x1 : Int}  {M : MEM} : ∀ (n : Nat) (s : Int), J (iter (fun s => mo_flies_b17 x1 s M) n s) (X_mo_flies_b17 Δ Γ d x1 M) (HD_mo_flies_b17 Δ Γ d x1 M s) := J_iter (fun s => Jb_mo_flies_b17 hd )
abbrev HD_mo_flies_b56 (Δ : DT) (Γ : FT) (d : Nat) (x1 : Int) (s : Int × MEM) : Prop := WAt Δ Γ false m_mo_flies (d + 1) 56 [vR (278), vI (x1), vI (s.1)] [] (NG, S0, s.2) 0 0
abbrev X_mo_flies_b56 (Δ : DT) (Γ : FT) (d : Nat) (x1 : Int) (s : Int × MEM) : Prop := WAt Δ Γ false m_mo_flies (d + 1) 82 [vR (278), vI (x1), vN] [] (NG, S0, s.2) 0 0
set_option maxRecDepth 20000 in
set_option maxHeartbeats 4000000 in
theorem Jb_mo_flies_b56 {Δ : DT} {Γ : FT} {d : Nat} (hd : 1 ≤ d + 1) {x1 : Int}  {x2 : Int} {M : MEM} : J (mo_flies_b56 x1 x2 M) (Sum.elim (HD_mo_flies_b56 Δ Γ d x1) (X_mo_flies_b56 Δ Γ d x1)) (WAt Δ Γ false m_mo_flies (d + 1) 56 [vR (278), vI (x1), vI (x2)] [] (NG, S0, M) 0 0) := by
  unfold mo_flies_b56
  refine J.mono (fun k => w_iload_n rfl rfl (w_iload_n rfl rfl k)) ?_
  refine J_ite (fun hc11 => ?_) (fun hc11 => ?_)
  · refine J.mono (fun k => s_icmp_ge_t rfl hc11 k) ?_
    exact J_some (fun k => w_forget (wk_k (wk_k (wk_d wk_0))) k)
  · refine J.mono (fun k => s_icmp_ge_f rfl hc11 (w_aload_n rfl rfl (w_getR (r := 281) rfl (Nat.le_of_ble_eq_true rfl) S_278 rfl (w_iload_n rfl rfl (w_aload_n rfl rfl (w_getR (r := 283) rfl (Nat.le_of_ble_eq_true rfl) S_278 rfl (w_iload_n rfl rfl k))))))) ?_
    refine J_chk (fun hi12 => ?_)
    refine J.mono (fun k => w_bald rfl A_283.1 A_283.2 hi12.1 hi12.2 (w_bipush rfl (bip_c rfl) (w_isub rfl k))) ?_
    refine J_chk (fun hi14 => ?_)
    refine J_b ?_
    refine J.mono (fun k => w_iast rfl A_281.1 A_281.2 hi14.1 hi14.2 rfl (s_iinc2 rfl (Nat.le_of_ble_eq_true rfl) (w_goto rfl k))) ?_
    exact J_some (fun k => w_forget (wk_k (wk_k (wk_k wk_0))) k)
set_option maxRecDepth 20000 in
set_option maxHeartbeats 4000000 in
theorem Jl_mo_flies_b56 {Δ : DT} {Γ : FT} {d : Nat} (hd : 1 ≤ d + 1) {x1 : Int}   : ∀ (n : Nat) (s : Int × MEM), J (iter (fun s => mo_flies_b56 x1 s.1 s.2) n s) (X_mo_flies_b56 Δ Γ d x1) (HD_mo_flies_b56 Δ Γ d x1 s) := J_iter (fun s => Jb_mo_flies_b56 hd )
set_option maxRecDepth 20000 in
set_option maxHeartbeats 4000000 in
theorem J_mo_flies {Δ : DT} {Γ : FT} {d : Nat} (hd : 1 ≤ d + 1)   {M : MEM} : J (mo_flies M) (K_IM Δ Γ m_mo_flies) (WAt Δ Γ false m_mo_flies (d + 1) 0 [vR (278), vN, vN] [] (NG, S0, M) 0 0) := by
  unfold mo_flies
  refine J.mono (fun k => w_aload_n rfl rfl (w_iconst rfl (inR_c rfl) k)) ?_
  refine J_b ?_
  refine J.mono (fun k => w_putI rfl (Nat.le_of_ble_eq_true rfl) S_278 rfl rfl (w_aload_n rfl rfl (w_getI rfl (Nat.le_of_ble_eq_true rfl) S_278 rfl (s_istore1 rfl (Nat.le_of_ble_eq_true rfl) (w_aload_n rfl rfl (w_iconst rfl (inR_c rfl) k)))))) ?_
  refine J_b ?_
  refine J.mono (fun k => w_putI rfl (Nat.le_of_ble_eq_true rfl) S_278 rfl rfl (w_iconst rfl (inR_c rfl) (s_istore2 rfl (Nat.le_of_ble_eq_true rfl) k))) ?_
  refine J.mono (fun k => w_forget (wk_k (wk_k (wk_k wk_0))) k) ?_
  refine J_loop (Jl_mo_flies_b17 hd  _ _) (fun w10 => ?_)
  refine J_elim (fun r => J_some (fun k => k)) (fun w10 => ?_)
  refine J.mono (fun k => w_iconst rfl (inR_c rfl) (s_istore2 rfl (Nat.le_of_ble_eq_true rfl) k)) ?_
  refine J.mono (fun k => w_forget (wk_k (wk_k (wk_k wk_0))) k) ?_
  refine J_loop (Jl_mo_flies_b56 hd  _ _) (fun w15 => ?_)
  refine J.mono (fun k => w_aload_n rfl rfl (w_iload_n rfl rfl k)) ?_
  refine J_b ?_
  refine J.mono (fun k => w_putI rfl (Nat.le_of_ble_eq_true rfl) S_278 rfl rfl (w_iload_n rfl rfl k)) ?_
  exact J_some (fun k => w_ireturn rfl rfl k)
set_option maxRecDepth 20000 in
set_option maxHeartbeats 4000000 in
theorem cal_mo_flies {Δ : DT} {d : Nat} (hd : 1 ≤ d)   {M : MEM} {p : Int × MEM} (h : mo_flies M = some p) (ho : okVs [vR 278]) (hM : okM M) : Cal Δ false m_mo_flies d [vR 278] (NG, S0, M) (some p.1) (NG, S0, p.2) 0 0 := by
  obtain ⟨d, rfl⟩ : ∃ e, d = e + 1 := ⟨d - 1, by omega⟩
  exact cal_of g_mo_flies p_mo_flies (fun v hv => by simp only [List.mem_cons, List.not_mem_nil, or_false] at hv; rcases hv with rfl <;> first | exact Or.inl ⟨_, rfl⟩ | exact Or.inr ⟨_, rfl⟩) ho hM (Nat.le_of_ble_eq_true rfl) (fun Γ _ k => J_mo_flies hd  _ h k)
set_option maxRecDepth 20000 in
set_option maxHeartbeats 4000000 in
theorem J_mo_fliesIn {Δ : DT} {Γ : FT} {d : Nat} {x1 : Int}  {M : MEM} : J (mo_fliesIn x1 M) (K_I Δ Γ m_mo_fliesIn M) (WAt Δ Γ false m_mo_fliesIn d 0 [vR (278), vI (x1)] [] (NG, S0, M) 0 0) := by
  unfold mo_fliesIn
  refine J.mono (fun k => w_aload_n rfl rfl (w_getI rfl (Nat.le_of_ble_eq_true rfl) S_278 rfl (w_iconst rfl (inR_c rfl) k))) ?_
  refine J_ite (fun hc1 => ?_) (fun hc1 => ?_)
  · refine J.mono (fun k => s_icmp_eq_t rfl hc1 (w_aload_n rfl rfl (w_getI rfl (Nat.le_of_ble_eq_true rfl) S_278 rfl k))) ?_
    refine J_ite (fun hc2 => ?_) (fun hc2 => ?_)
    · refine J.mono (fun k => s_if_ne_f rfl hc2 (w_iconst rfl (inR_c rfl) (w_goto rfl k))) ?_
      exact J_some (fun k => w_ireturn rfl rfl k)
    · refine J.mono (fun k => s_if_ne_t rfl hc2 (w_aload_n rfl rfl (w_getR (r := 281) rfl (Nat.le_of_ble_eq_true rfl) S_278 rfl (w_iload_n rfl rfl (w_aload_n rfl rfl (w_getI rfl (Nat.le_of_ble_eq_true rfl) S_278 rfl k)))))) ?_
      refine J_chn (fun hz3 => ?_)
      refine J.mono (fun k => w_irem rfl hz3 k) ?_
      refine J_chk (fun hi4 => ?_)
      refine J.mono (fun k => w_iald rfl A_281.1 A_281.2 hi4.1 hi4.2 k) ?_
      exact J_some (fun k => w_ireturn rfl rfl k)
  · refine J.mono (fun k => s_icmp_eq_f rfl hc1 (w_aload_n rfl rfl (w_getI rfl (Nat.le_of_ble_eq_true rfl) S_278 rfl k))) ?_
    exact J_some (fun k => w_ireturn rfl rfl k)
set_option maxRecDepth 20000 in
set_option maxHeartbeats 4000000 in
theorem cal_mo_fliesIn {Δ : DT} {d : Nat} (hd : 0 ≤ d) {x1 : Int}  {M : MEM} {r : Int} (h : mo_fliesIn x1 M = some r) (ho : okVs [vR 278, vI x1]) (hM : okM M) : Cal Δ false m_mo_fliesIn d [vR 278, vI x1] (NG, S0, M) (some r) (NG, S0, M) 0 0 := by
  exact cal_of g_mo_fliesIn p_mo_fliesIn (fun v hv => by simp only [List.mem_cons, List.not_mem_nil, or_false] at hv; rcases hv with rfl | rfl <;> first | exact Or.inl ⟨_, rfl⟩ | exact Or.inr ⟨_, rfl⟩) ho hM (Nat.le_of_ble_eq_true rfl) (fun Γ _ k => J_mo_fliesIn  _ h k)
abbrev HD_mo_hurry_b5 (Δ : DT) (Γ : FT) (d : Nat) (x1 : Int) (x2 : Int) (M : MEM) (s : Int × Int) : Prop := WAt Δ Γ false m_mo_hurry (d + 1) 5 [vR (278), vI (x1), vI (x2), vI (s.1), vI (s.2)] [] (NG, S0, M) 0 0
abbrev X_mo_hurry_b5 (Δ : DT) (Γ : FT) (d : Nat) (x1 : Int) (x2 : Int) (M : MEM) (s : Int × Int) : Prop := WAt Δ Γ false m_mo_hurry (d + 1) 105 [vN, vN, vN, vI (s.1), vN] [] (NG, S0, M) 0 0
set_option maxRecDepth 20000 in
set_option maxHeartbeats 4000000 in
theorem J_mo_hurry_j99_5 {Δ : DT} {Γ : FT} {d : Nat} (hd : 1 ≤ d + 1) {x1 : Int} {x2 : Int} {x3 : Int} {x4 : Int}  {M : MEM} : J (mo_hurry_j99_5 x1 x2 x3 x4 M) (Sum.elim (HD_mo_hurry_b5 Δ Γ d x1 x2 M) (X_mo_hurry_b5 Δ Γ d x1 x2 M)) (WAt Δ Γ false m_mo_hurry (d + 1) 99 [vR (278), vI (x1), vI (x2), vI (x3), vI (x4)] [] (NG, S0, M) 0 0) := by
  unfold mo_hurry_j99_5
  refine J.mono (fun k => s_iinc4 rfl (Nat.le_of_ble_eq_true rfl) (w_goto rfl k)) ?_
  exact J_some (fun k => w_forget (wk_k (wk_k (wk_k (wk_k (wk_k wk_0))))) k)
set_option maxRecDepth 20000 in
set_option maxHeartbeats 4000000 in
theorem J_mo_hurry_j43_5 {Δ : DT} {Γ : FT} {d : Nat} (hd : 1 ≤ d + 1) {x1 : Int} {x2 : Int} {x3 : Int} {x4 : Int}  {M : MEM} : J (mo_hurry_j43_5 x1 x2 x3 x4 M) (Sum.elim (HD_mo_hurry_b5 Δ Γ d x1 x2 M) (X_mo_hurry_b5 Δ Γ d x1 x2 M)) (WAt Δ Γ false m_mo_hurry (d + 1) 43 [vR (278), vI (x1), vI (x2), vI (x3), vI (x4)] [] (NG, S0, M) 0 0) := by
  unfold mo_hurry_j43_5
  refine J.mono (fun k => w_aload_n rfl rfl (w_getR (r := 282) rfl (Nat.le_of_ble_eq_true rfl) S_278 rfl (w_iconst rfl (inR_c rfl) (w_iload rfl rfl (w_imul rfl k))))) ?_
  refine J_chk (fun hi3 => ?_)
  refine J.mono (fun k => w_iald rfl A_282.1 A_282.2 hi3.1 hi3.2 (w_iload_n rfl rfl k)) ?_
  refine J_ite (fun hc4 => ?_) (fun hc4 => ?_)
  · refine J.mono (fun k => s_icmp_ne_f rfl hc4 (w_iload_n rfl rfl (w_aload_n rfl rfl (w_getR (r := 282) rfl (Nat.le_of_ble_eq_true rfl) S_278 rfl (w_iconst rfl (inR_c rfl) (w_iload rfl rfl (w_imul rfl (w_iconst rfl (inR_c rfl) (w_iadd rfl k))))))))) ?_
    refine J_chk (fun hi5 => ?_)
    refine J.mono (fun k => w_iald rfl A_282.1 A_282.2 hi5.1 hi5.2 (w_aload_n rfl rfl (w_getR (r := 282) rfl (Nat.le_of_ble_eq_true rfl) S_278 rfl (w_iconst rfl (inR_c rfl) (w_iload rfl rfl (w_imul rfl (w_iconst rfl (inR_c rfl) (w_iadd rfl k)))))))) ?_
    refine J_chk (fun hi6 => ?_)
    refine J.mono (fun k => w_iald rfl A_282.1 A_282.2 hi6.1 hi6.2 k) ?_
    refine J_hyp (fun k => c_si3 rfl rfl (fun ho hM => cal_mo_in (by omega)   ho hM) v_mo_in (Nat.le_of_ble_eq_true rfl) k) (fun hr8 hb9 => ?_)
    refine J_ite (fun hc10 => ?_) (fun hc10 => ?_)
    · refine J.mono (fun k => s_if_eq_t rfl hc10 k) ?_
      exact J.mono (fun k => w_forget (wk_k (wk_k (wk_k (wk_k (wk_k wk_0))))) k) (J_mo_hurry_j99_5 hd )
    · refine J.mono (fun k => s_if_eq_f rfl hc10 (w_iload_n rfl rfl (w_aload_n rfl rfl (w_getR (r := 282) rfl (Nat.le_of_ble_eq_true rfl) S_278 rfl (w_iconst rfl (inR_c rfl) (w_iload rfl rfl (w_imul rfl (w_iconst rfl (inR_c rfl) (w_iadd rfl k))))))))) ?_
      refine J_chk (fun hi11 => ?_)
      refine J.mono (fun k => w_iald rfl A_282.1 A_282.2 hi11.1 hi11.2 (w_iadd rfl (s_istore3 rfl (Nat.le_of_ble_eq_true rfl) k))) ?_
      exact J.mono (fun k => w_forget (wk_k (wk_k (wk_k (wk_k (wk_k wk_0))))) k) (J_mo_hurry_j99_5 hd )
  · refine J.mono (fun k => s_icmp_ne_t rfl hc4 k) ?_
    exact J.mono (fun k => w_forget (wk_k (wk_k (wk_k (wk_k (wk_k wk_0))))) k) (J_mo_hurry_j99_5 hd )
set_option maxRecDepth 20000 in
set_option maxHeartbeats 4000000 in
theorem Jb_mo_hurry_b5 {Δ : DT} {Γ : FT} {d : Nat} (hd : 1 ≤ d + 1) {x1 : Int} {x2 : Int}  {x3 : Int} {x4 : Int} {M : MEM} : J (mo_hurry_b5 x1 x2 x3 x4 M) (Sum.elim (HD_mo_hurry_b5 Δ Γ d x1 x2 M) (X_mo_hurry_b5 Δ Γ d x1 x2 M)) (WAt Δ Γ false m_mo_hurry (d + 1) 5 [vR (278), vI (x1), vI (x2), vI (x3), vI (x4)] [] (NG, S0, M) 0 0) := by
  unfold mo_hurry_b5
  refine J.mono (fun k => w_iload rfl rfl (w_bipush rfl (bip_c rfl) k)) ?_
  refine J_ite (fun hc1 => ?_) (fun hc1 => ?_)
  · refine J.mono (fun k => s_icmp_ge_t rfl hc1 k) ?_
    exact J_some (fun k => w_forget (wk_d (wk_d (wk_d (wk_k (wk_d wk_0))))) k)
  · refine J.mono (fun k => s_icmp_ge_f rfl hc1 (w_iload rfl rfl (w_aload_n rfl rfl (w_getI rfl (Nat.le_of_ble_eq_true rfl) S_278 rfl k)))) ?_
    refine J_ite (fun hc2 => ?_) (fun hc2 => ?_)
    · refine J.mono (fun k => s_icmp_lt_t rfl hc2 k) ?_
      exact J.mono (fun k => w_forget (wk_k (wk_k (wk_k (wk_k (wk_k wk_0))))) k) (J_mo_hurry_j43_5 hd )
    · refine J.mono (fun k => s_icmp_lt_f rfl hc2 (w_iload rfl rfl (w_bipush rfl (bip_c rfl) k))) ?_
      refine J_ite (fun hc12 => ?_) (fun hc12 => ?_)
      · refine J.mono (fun k => s_icmp_lt_t rfl hc12 k) ?_
        exact J.mono (fun k => w_forget (wk_k (wk_k (wk_k (wk_k (wk_k wk_0))))) k) (J_mo_hurry_j99_5 hd )
      · refine J.mono (fun k => s_icmp_lt_f rfl hc12 (w_iload rfl rfl (w_bipush rfl (bip_c rfl) (w_aload_n rfl rfl (w_getI rfl (Nat.le_of_ble_eq_true rfl) S_278 rfl (w_iadd rfl k)))))) ?_
        refine J_ite (fun hc13 => ?_) (fun hc13 => ?_)
        · refine J.mono (fun k => s_icmp_lt_t rfl hc13 k) ?_
          exact J.mono (fun k => w_forget (wk_k (wk_k (wk_k (wk_k (wk_k wk_0))))) k) (J_mo_hurry_j43_5 hd )
        · refine J.mono (fun k => s_icmp_lt_f rfl hc13 (w_goto rfl k)) ?_
          exact J.mono (fun k => w_forget (wk_k (wk_k (wk_k (wk_k (wk_k wk_0))))) k) (J_mo_hurry_j99_5 hd )
set_option maxRecDepth 20000 in
set_option maxHeartbeats 4000000 in
theorem Jl_mo_hurry_b5 {Δ : DT} {Γ : FT} {d : Nat} (hd : 1 ≤ d + 1) {x1 : Int} {x2 : Int}  {M : MEM} : ∀ (n : Nat) (s : Int × Int), J (iter (fun s => mo_hurry_b5 x1 x2 s.1 s.2 M) n s) (X_mo_hurry_b5 Δ Γ d x1 x2 M) (HD_mo_hurry_b5 Δ Γ d x1 x2 M s) := J_iter (fun s => Jb_mo_hurry_b5 hd )
set_option maxRecDepth 20000 in
set_option maxHeartbeats 4000000 in
theorem J_mo_hurry {Δ : DT} {Γ : FT} {d : Nat} (hd : 1 ≤ d + 1) {x1 : Int} {x2 : Int}  {M : MEM} : J (mo_hurry x1 x2 M) (K_I Δ Γ m_mo_hurry M) (WAt Δ Γ false m_mo_hurry (d + 1) 0 [vR (278), vI (x1), vI (x2), vN, vN] [] (NG, S0, M) 0 0) := by
  unfold mo_hurry
  refine J.mono (fun k => w_iconst rfl (inR_c rfl) (s_istore3 rfl (Nat.le_of_ble_eq_true rfl) (w_iconst rfl (inR_c rfl) (s_istore4 rfl (Nat.le_of_ble_eq_true rfl) k)))) ?_
  refine J.mono (fun k => w_forget (wk_k (wk_k (wk_k (wk_k (wk_k wk_0))))) k) ?_
  refine J_loop (Jl_mo_hurry_b5 hd  _ _) (fun w14 => ?_)
  refine J.mono (fun k => w_iload_n rfl rfl k) ?_
  exact J_some (fun k => w_ireturn rfl rfl k)
set_option maxRecDepth 20000 in
set_option maxHeartbeats 4000000 in
theorem cal_mo_hurry {Δ : DT} {d : Nat} (hd : 1 ≤ d) {x1 : Int} {x2 : Int}  {M : MEM} {r : Int} (h : mo_hurry x1 x2 M = some r) (ho : okVs [vR 278, vI x1, vI x2]) (hM : okM M) : Cal Δ false m_mo_hurry d [vR 278, vI x1, vI x2] (NG, S0, M) (some r) (NG, S0, M) 0 0 := by
  obtain ⟨d, rfl⟩ : ∃ e, d = e + 1 := ⟨d - 1, by omega⟩
  exact cal_of g_mo_hurry p_mo_hurry (fun v hv => by simp only [List.mem_cons, List.not_mem_nil, or_false] at hv; rcases hv with rfl | rfl | rfl <;> first | exact Or.inl ⟨_, rfl⟩ | exact Or.inr ⟨_, rfl⟩) ho hM (Nat.le_of_ble_eq_true rfl) (fun Γ _ k => J_mo_hurry hd  _ h k)

