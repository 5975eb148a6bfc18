abbrev HD_dh_bid_b27 (Δ : DT) (Γ : FT) (d : Nat) (x1 : Int) (x2 : Int) (x3 : Int) (s : Int × MEM) : Prop := WAt Δ Γ false m_dh_bid (d + 1) 27 [vR (0), vI (x1), vI (x2), vI (x3), vI (s.1), vN, vN, vN] [] (NG, S0, s.2) 0 0
abbrev X_dh_bid_b27 (Δ : DT) (Γ : FT) (d : Nat) (x1 : Int) (x2 : Int) (x3 : Int) : (Int × MEM) ⊕ (Int × MEM) → Prop := Sum.elim (K_IM Δ Γ m_dh_bid) (fun s => WAt Δ Γ false m_dh_bid (d + 1) 140 [vN, vN, vN, vN, vN, vN, vN, vN] [] (NG, S0, s.2) 0 0)
set_option maxRecDepth 20000 in
set_option maxHeartbeats 4000000 in
theorem J_dh_bid_j134_27 {Δ : DT} {Γ : FT} {d : Nat} (hd : 5 ≤ d + 1) {x1 : Int} {x2 : Int} {x3 : Int} {x4 : Int}  {M : MEM} : J (dh_bid_j134_27 x1 x2 x3 x4 M) (Sum.elim (HD_dh_bid_b27 Δ Γ d x1 x2 x3) (X_dh_bid_b27 Δ Γ d x1 x2 x3)) (WAt Δ Γ false m_dh_bid (d + 1) 134 [vR (0), vI (x1), vI (x2), vI (x3), vI (x4), vN, vN, vN] [] (NG, S0, M) 0 0) := by
  unfold dh_bid_j134_27
  refine J.mono (fun k => s_iinc4 rfl (Nat.le_of_ble_eq_true rfl) (w_goto rfl k)) ?_
  exact J_some (fun k => w_forget (wk_k (wk_k (wk_k (wk_k (wk_k (wk_d (wk_d (wk_d wk_0)))))))) k)
set_option maxRecDepth 20000 in
set_option maxHeartbeats 4000000 in
theorem J_dh_bid_j112_27 {Δ : DT} {Γ : FT} {d : Nat} (hd : 5 ≤ d + 1) {x1 : Int} {x2 : Int} {x3 : Int} {x4 : Int} {x6 : Int} {s0 : Int}  {M : MEM} : J (dh_bid_j112_27 x1 x2 x3 x4 x6 s0 M) (Sum.elim (HD_dh_bid_b27 Δ Γ d x1 x2 x3) (X_dh_bid_b27 Δ Γ d x1 x2 x3)) (WAt Δ Γ false m_dh_bid (d + 1) 112 [vR (0), vI (x1), vI (x2), vI (x3), vI (x4), vN, vI (x6), vN] [vI (s0)] (NG, S0, M) 0 0) := by
  unfold dh_bid_j112_27
  refine J.mono (fun k => s_istore7 rfl (Nat.le_of_ble_eq_true rfl) (w_iload_n rfl rfl k)) ?_
  refine J_ite (fun hc24 => ?_) (fun hc24 => ?_)
  · refine J.mono (fun k => s_if_ge_t rfl hc24 (w_iload rfl rfl k)) ?_
    refine J_ite (fun hc25 => ?_) (fun hc25 => ?_)
    · refine J.mono (fun k => s_if_eq_t rfl hc25 k) ?_
      exact J.mono (fun k => w_forget (wk_k (wk_k (wk_k (wk_k (wk_k (wk_d (wk_d (wk_d wk_0)))))))) k) (J_dh_bid_j134_27 hd )
    · refine J.mono (fun k => s_if_eq_f rfl hc25 (w_iload rfl rfl k)) ?_
      exact J_some (fun k => w_ireturn rfl rfl k)
  · refine J.mono (fun k => s_if_ge_f rfl hc24 (w_iload rfl rfl k)) ?_
    refine J_ite (fun hc26 => ?_) (fun hc26 => ?_)
    · refine J.mono (fun k => s_if_eq_t rfl hc26 k) ?_
      exact J.mono (fun k => w_forget (wk_k (wk_k (wk_k (wk_k (wk_k (wk_d (wk_d (wk_d wk_0)))))))) k) (J_dh_bid_j134_27 hd )
    · refine J.mono (fun k => s_if_eq_f rfl hc26 (w_goto rfl (w_iload rfl rfl k))) ?_
      exact J_some (fun k => w_ireturn rfl rfl k)
set_option maxRecDepth 20000 in
set_option maxHeartbeats 4000000 in
theorem J_dh_bid_j111_27 {Δ : DT} {Γ : FT} {d : Nat} (hd : 5 ≤ d + 1) {x1 : Int} {x2 : Int} {x3 : Int} {x4 : Int} {x6 : Int}  {M : MEM} : J (dh_bid_j111_27 x1 x2 x3 x4 x6 M) (Sum.elim (HD_dh_bid_b27 Δ Γ d x1 x2 x3) (X_dh_bid_b27 Δ Γ d x1 x2 x3)) (WAt Δ Γ false m_dh_bid (d + 1) 111 [vR (0), vI (x1), vI (x2), vI (x3), vI (x4), vN, vI (x6), vN] [] (NG, S0, M) 0 0) := by
  unfold dh_bid_j111_27
  refine J.mono (fun k => w_iconst rfl (inR_c rfl) k) ?_
  exact J.mono (fun k => w_forget (wk_k (wk_k (wk_k (wk_k (wk_k (wk_d (wk_k (wk_d wk_0)))))))) k) (J_dh_bid_j112_27 hd )
set_option maxRecDepth 20000 in
set_option maxHeartbeats 4000000 in
theorem J_dh_bid_j94_27 {Δ : DT} {Γ : FT} {d : Nat} (hd : 5 ≤ d + 1) {x1 : Int} {x2 : Int} {x3 : Int} {x4 : Int} {x5 : Int} {s0 : Int}  {M : MEM} : J (dh_bid_j94_27 x1 x2 x3 x4 x5 s0 M) (Sum.elim (HD_dh_bid_b27 Δ Γ d x1 x2 x3) (X_dh_bid_b27 Δ Γ d x1 x2 x3)) (WAt Δ Γ false m_dh_bid (d + 1) 94 [vR (0), vI (x1), vI (x2), vI (x3), vI (x4), vI (x5), vN, vN] [vI (s0)] (NG, S0, M) 0 0) := by
  unfold dh_bid_j94_27
  refine J.mono (fun k => s_istore6 rfl (Nat.le_of_ble_eq_true rfl) (w_iload rfl rfl k)) ?_
  refine J_ite (fun hc23 => ?_) (fun hc23 => ?_)
  · refine J.mono (fun k => s_if_lt_t rfl hc23 k) ?_
    exact J.mono (fun k => w_forget (wk_k (wk_k (wk_k (wk_k (wk_k (wk_d (wk_k (wk_d wk_0)))))))) k) (J_dh_bid_j111_27 hd )
  · refine J.mono (fun k => s_if_lt_f rfl hc23 (w_iload rfl rfl (w_iload_n rfl rfl k))) ?_
    refine J_ite (fun hc27 => ?_) (fun hc27 => ?_)
    · refine J.mono (fun k => s_icmp_gt_t rfl hc27 k) ?_
      exact J.mono (fun k => w_forget (wk_k (wk_k (wk_k (wk_k (wk_k (wk_d (wk_k (wk_d wk_0)))))))) k) (J_dh_bid_j111_27 hd )
    · refine J.mono (fun k => s_icmp_gt_f rfl hc27 (w_iconst rfl (inR_c rfl) (w_goto rfl k))) ?_
      exact J.mono (fun k => w_forget (wk_k (wk_k (wk_k (wk_k (wk_k (wk_d (wk_k (wk_d wk_0)))))))) k) (J_dh_bid_j112_27 hd )
set_option maxRecDepth 20000 in
set_option maxHeartbeats 4000000 in
theorem J_dh_bid_j89_27 {Δ : DT} {Γ : FT} {d : Nat} (hd : 5 ≤ d + 1) {x1 : Int} {x2 : Int} {x3 : Int} {x4 : Int} {x5 : Int}  {M : MEM} : J (dh_bid_j89_27 x1 x2 x3 x4 x5 M) (Sum.elim (HD_dh_bid_b27 Δ Γ d x1 x2 x3) (X_dh_bid_b27 Δ Γ d x1 x2 x3)) (WAt Δ Γ false m_dh_bid (d + 1) 89 [vR (0), vI (x1), vI (x2), vI (x3), vI (x4), vI (x5), vN, vN] [] (NG, S0, M) 0 0) := by
  unfold dh_bid_j89_27
  refine J.mono (fun k => w_iconst rfl (inR_c rfl) (w_goto rfl k)) ?_
  exact J.mono (fun k => w_forget (wk_k (wk_k (wk_k (wk_k (wk_k (wk_k (wk_d (wk_d wk_0)))))))) k) (J_dh_bid_j94_27 hd )
set_option maxRecDepth 20000 in
set_option maxHeartbeats 4000000 in
theorem J_dh_bid_j48_27 {Δ : DT} {Γ : FT} {d : Nat} (hd : 5 ≤ d + 1) {x1 : Int} {x2 : Int} {x3 : Int} {x4 : Int}  {M : MEM} : J (dh_bid_j48_27 x1 x2 x3 x4 M) (Sum.elim (HD_dh_bid_b27 Δ Γ d x1 x2 x3) (X_dh_bid_b27 Δ Γ d x1 x2 x3)) (WAt Δ Γ false m_dh_bid (d + 1) 48 [vR (0), vI (x1), vI (x2), vI (x3), vI (x4), vN, vN, vN] [] (NG, S0, M) 0 0) := by
  unfold dh_bid_j48_27
  refine J.mono (fun k => w_aload_n rfl rfl (w_aload_n rfl rfl (w_getR (r := 224) rfl (Nat.le_of_ble_eq_true rfl) S_0 rfl (w_iload_n rfl rfl k)))) ?_
  refine J_c (fun M16 e15 => ?_)
  refine J.mono (fun k => c_vv2 rfl (fun ho hM => cal_dh_look (by omega) is_fu_224 e15 ho hM) v_dh_look (Nat.le_of_ble_eq_true rfl) S_0 rfl (Nat.le_of_ble_eq_true rfl) (w_aload_n rfl rfl (w_getR (r := 224) rfl (Nat.le_of_ble_eq_true rfl) S_0 rfl (w_iconst rfl (inR_c rfl) k)))) ?_
  refine J_c (fun p18 e17 => ?_)
  refine J_hyp (fun k => c_vi1 rfl (fun ho hM => cal_fu_afterStroke (by omega) is_fu_224 e17 ho hM) v_fu_afterStroke (fu_S is_fu_224).1 (fu_S is_fu_224).2 rfl (Nat.le_of_ble_eq_true rfl) k) (fun hr19 hb20 => ?_)
  refine J.mono (fun k => s_istore5 rfl (Nat.le_of_ble_eq_true rfl) (w_aload_n rfl rfl (w_getR (r := 224) rfl (Nat.le_of_ble_eq_true rfl) S_0 rfl (w_getR (r := 225) rfl (fu_S is_fu_224).1 (fu_S is_fu_224).2 rfl (w_iconst rfl (inR_c rfl) k))))) ?_
  refine J_b ?_
  refine J.mono (fun k => w_putI rfl (ca_S is_ca_225).1 (ca_S is_ca_225).2 rfl rfl (w_iload rfl rfl k)) ?_
  refine J_ite (fun hc22 => ?_) (fun hc22 => ?_)
  · refine J.mono (fun k => s_if_lt_t rfl hc22 k) ?_
    exact J.mono (fun k => w_forget (wk_k (wk_k (wk_k (wk_k (wk_k (wk_k (wk_d (wk_d wk_0)))))))) k) (J_dh_bid_j89_27 hd )
  · refine J.mono (fun k => s_if_lt_f rfl hc22 (w_iload rfl rfl (w_iload_n rfl rfl k))) ?_
    refine J_ite (fun hc28 => ?_) (fun hc28 => ?_)
    · refine J.mono (fun k => s_icmp_lt_t rfl hc28 (w_iconst rfl (inR_c rfl) k)) ?_
      exact J.mono (fun k => w_forget (wk_k (wk_k (wk_k (wk_k (wk_k (wk_k (wk_d (wk_d wk_0)))))))) k) (J_dh_bid_j94_27 hd )
    · refine J.mono (fun k => s_icmp_lt_f rfl hc28 k) ?_
      exact J.mono (fun k => w_forget (wk_k (wk_k (wk_k (wk_k (wk_k (wk_k (wk_d (wk_d wk_0)))))))) k) (J_dh_bid_j89_27 hd )
set_option maxRecDepth 20000 in
set_option maxHeartbeats 4000000 in
theorem Jb_dh_bid_b27 {Δ : DT} {Γ : FT} {d : Nat} (hd : 5 ≤ d + 1) {x1 : Int} {x2 : Int} {x3 : Int}  {x4 : Int} {M : MEM} : J (dh_bid_b27 x1 x2 x3 x4 M) (Sum.elim (HD_dh_bid_b27 Δ Γ d x1 x2 x3) (X_dh_bid_b27 Δ Γ d x1 x2 x3)) (WAt Δ Γ false m_dh_bid (d + 1) 27 [vR (0), vI (x1), vI (x2), vI (x3), vI (x4), vN, vN, vN] [] (NG, S0, M) 0 0) := by
  unfold dh_bid_b27
  refine J.mono (fun k => w_iload rfl rfl (w_bipush rfl (bip_c rfl) k)) ?_
  refine J_ite (fun hc13 => ?_) (fun hc13 => ?_)
  · refine J.mono (fun k => s_icmp_gt_t rfl hc13 k) ?_
    exact J_some (fun k => w_forget (wk_d (wk_d (wk_d (wk_d (wk_d (wk_d (wk_d (wk_d wk_0)))))))) k)
  · refine J.mono (fun k => s_icmp_gt_f rfl hc13 (w_iload rfl rfl k)) ?_
    refine J_ite (fun hc14 => ?_) (fun hc14 => ?_)
    · refine J.mono (fun k => s_if_le_t rfl hc14 k) ?_
      exact J.mono (fun k => w_forget (wk_k (wk_k (wk_k (wk_k (wk_k (wk_d (wk_d (wk_d wk_0)))))))) k) (J_dh_bid_j48_27 hd )
    · refine J.mono (fun k => s_if_le_f rfl hc14 (w_aload_n rfl rfl (w_iload_n rfl rfl (w_iconst rfl (inR_c rfl) (w_iload rfl rfl (w_iload_n rfl rfl k)))))) ?_
      refine J_c (fun M30 e29 => ?_)
      refine J.mono (fun k => c_vv4 rfl (fun ho hM => cal_dh_think (by omega)  e29 ho hM) v_dh_think (Nat.le_of_ble_eq_true rfl) S_0 rfl (Nat.le_of_ble_eq_true rfl) k) ?_
      exact J.mono (fun k => w_forget (wk_k (wk_k (wk_k (wk_k (wk_k (wk_d (wk_d (wk_d wk_0)))))))) k) (J_dh_bid_j48_27 hd )
set_option maxRecDepth 20000 in
set_option maxHeartbeats 4000000 in
theorem Jl_dh_bid_b27 {Δ : DT} {Γ : FT} {d : Nat} (hd : 5 ≤ d + 1) {x1 : Int} {x2 : Int} {x3 : Int}   : ∀ (n : Nat) (s : Int × MEM), J (iter (fun s => dh_bid_b27 x1 x2 x3 s.1 s.2) n s) (X_dh_bid_b27 Δ Γ d x1 x2 x3) (HD_dh_bid_b27 Δ Γ d x1 x2 x3 s) := J_iter (fun s => Jb_dh_bid_b27 hd )
set_option maxRecDepth 20000 in
set_option maxHeartbeats 4000000 in
theorem J_dh_bid {Δ : DT} {Γ : FT} {d : Nat} (hd : 5 ≤ d + 1) {x1 : Int} {x2 : Int} {x3 : Int}  {M : MEM} : J (dh_bid x1 x2 x3 M) (K_IM Δ Γ m_dh_bid) (WAt Δ Γ false m_dh_bid (d + 1) 0 [vR (0), vI (x1), vI (x2), vI (x3), vN, vN, vN, vN] [] (NG, S0, M) 0 0) := by
  unfold dh_bid
  refine J.mono (fun k => w_aload_n rfl rfl (w_iload_n rfl rfl k)) ?_
  refine J_hyp (fun k => c_vi1 rfl (fun ho hM => cal_dh_isDonkey (by omega)   ho hM) v_dh_isDonkey (Nat.le_of_ble_eq_true rfl) S_0 rfl (Nat.le_of_ble_eq_true rfl) k) (fun hr2 hb3 => ?_)
  refine J_ite (fun hc4 => ?_) (fun hc4 => ?_)
  · refine J.mono (fun k => s_if_eq_t rfl hc4 (w_iconst rfl (inR_c rfl) k)) ?_
    exact J_some (fun k => w_ireturn rfl rfl k)
  · refine J.mono (fun k => s_if_eq_f rfl hc4 (w_iload_n rfl rfl k)) ?_
    refine J_hyp (fun k => c_si1 rfl rfl (fun ho hM => cal_dh_isWay (by omega)   ho hM) v_dh_isWay (Nat.le_of_ble_eq_true rfl) k) (fun hr6 hb7 => ?_)
    refine J_ite (fun hc8 => ?_) (fun hc8 => ?_)
    · refine J.mono (fun k => s_if_eq_t rfl hc8 (w_iconst rfl (inR_c rfl) k)) ?_
      exact J_some (fun k => w_ireturn rfl rfl k)
    · refine J.mono (fun k => s_if_eq_f rfl hc8 (w_iload_n rfl rfl k)) ?_
      refine J_hyp (fun k => c_si1 rfl rfl (fun ho hM => cal_dh_isFar (by omega)   ho hM) v_dh_isFar (Nat.le_of_ble_eq_true rfl) k) (fun hr10 hb11 => ?_)
      refine J_ite (fun hc12 => ?_) (fun hc12 => ?_)
      · refine J.mono (fun k => s_if_ne_f rfl hc12 (w_iconst rfl (inR_c rfl) k)) ?_
        exact J_some (fun k => w_ireturn rfl rfl k)
      · refine J.mono (fun k => s_if_ne_t rfl hc12 (w_iconst rfl (inR_c rfl) (s_istore4 rfl (Nat.le_of_ble_eq_true rfl) k))) ?_
        refine J.mono (fun k => w_forget (wk_k (wk_k (wk_k (wk_k (wk_k (wk_d (wk_d (wk_d wk_0)))))))) k) ?_
        refine J_loop (Jl_dh_bid_b27 hd  _ _) (fun w31 => ?_)
        refine J_elim (fun r => J_some (fun k => k)) (fun w31 => ?_)
        refine J.mono (fun k => w_bipush rfl (bip_c rfl) k) ?_
        exact J_some (fun k => w_ireturn rfl rfl k)
set_option maxRecDepth 20000 in
set_option maxHeartbeats 4000000 in
theorem cal_dh_bid {Δ : DT} {d : Nat} (hd : 5 ≤ d) {x1 : Int} {x2 : Int} {x3 : Int}  {M : MEM} {p : Int × MEM} (h : dh_bid x1 x2 x3 M = some p) (ho : okVs [vR 0, vI x1, vI x2, vI x3]) (hM : okM M) : Cal Δ false m_dh_bid d [vR 0, vI x1, vI x2, vI x3] (NG, S0, M) (some p.1) (NG, S0, p.2) 0 0 := by
  obtain ⟨d, rfl⟩ : ∃ e, d = e + 1 := ⟨d - 1, by omega⟩
  exact cal_of g_dh_bid p_dh_bid (fun v hv => by simp only [List.mem_cons, List.not_mem_nil, or_false] at hv; rcases hv with rfl | rfl | rfl | rfl <;> first | exact Or.inl ⟨_, rfl⟩ | exact Or.inr ⟨_, rfl⟩) ho hM (Nat.le_of_ble_eq_true rfl) (fun Γ _ k => J_dh_bid hd  _ h k)
set_option maxRecDepth 20000 in
set_option maxHeartbeats 4000000 in
theorem J_rm_add {Δ : DT} {Γ : FT} {d : Nat} {x1 : Int} {x2 : Int} {x3 : Int}  {M : MEM} : J (rm_add x1 x2 x3 M) (K_IM Δ Γ m_rm_add) (WAt Δ Γ false m_rm_add d 0 [vR (41), vI (x1), vI (x2), vI (x3)] [] (NG, S0, M) 0 0) := by
  unfold rm_add
  refine J.mono (fun k => w_aload_n rfl rfl (w_getI rfl (Nat.le_of_ble_eq_true rfl) S_41 rfl k)) ?_
  refine J_ite (fun hc1 => ?_) (fun hc1 => ?_)
  · refine J.mono (fun k => s_if_lt_t rfl hc1 (w_iconst rfl (inR_c rfl) k)) ?_
    exact J_some (fun k => w_zreturn rfl rfl (Or.inl rfl) k)
  · refine J.mono (fun k => s_if_lt_f rfl hc1 (w_aload_n rfl rfl (w_getI rfl (Nat.le_of_ble_eq_true rfl) S_41 rfl (w_bipush rfl (bip_c rfl) k)))) ?_
    refine J_ite (fun hc2 => ?_) (fun hc2 => ?_)
    · refine J.mono (fun k => s_icmp_lt_t rfl hc2 (w_aload_n rfl rfl (w_getR (r := 42) rfl (Nat.le_of_ble_eq_true rfl) S_41 rfl (w_aload_n rfl rfl (w_getI rfl (Nat.le_of_ble_eq_true rfl) S_41 rfl (w_iload_n rfl rfl k)))))) ?_
      refine J_chk (fun hi4 => ?_)
      refine J_b ?_
      refine J.mono (fun k => w_iast rfl A_42.1 A_42.2 hi4.1 hi4.2 rfl (w_aload_n rfl rfl (w_getR (r := 43) rfl (Nat.le_of_ble_eq_true rfl) S_41 rfl (w_aload_n rfl rfl (w_getI rfl (Nat.le_of_ble_eq_true rfl) S_41 rfl (w_iload_n rfl rfl k)))))) ?_
      refine J_chk (fun hi6 => ?_)
      refine J_b ?_
      refine J.mono (fun k => w_iast rfl A_43.1 A_43.2 hi6.1 hi6.2 rfl (w_aload_n rfl rfl (w_getR (r := 44) rfl (Nat.le_of_ble_eq_true rfl) S_41 rfl (w_aload_n rfl rfl (w_getI rfl (Nat.le_of_ble_eq_true rfl) S_41 rfl (w_iload_n rfl rfl k)))))) ?_
      refine J_chk (fun hi8 => ?_)
      refine J_b ?_
      refine J.mono (fun k => w_iast rfl A_44.1 A_44.2 hi8.1 hi8.2 rfl (w_aload_n rfl rfl (w_dup rfl (fun _ h => by cases h) (w_getI rfl (Nat.le_of_ble_eq_true rfl) S_41 rfl (w_iconst rfl (inR_c rfl) (w_iadd rfl k)))))) ?_
      refine J_b ?_
      refine J.mono (fun k => w_putI rfl (Nat.le_of_ble_eq_true rfl) S_41 rfl rfl (w_iconst rfl (inR_c rfl) k)) ?_
      exact J_some (fun k => w_zreturn rfl rfl (Or.inr rfl) k)
    · refine J.mono (fun k => s_icmp_lt_f rfl hc2 (w_iconst rfl (inR_c rfl) k)) ?_
      exact J_some (fun k => w_zreturn rfl rfl (Or.inl rfl) k)
set_option maxRecDepth 20000 in
set_option maxHeartbeats 4000000 in
theorem cal_rm_add {Δ : DT} {d : Nat} (hd : 0 ≤ d) {x1 : Int} {x2 : Int} {x3 : Int}  {M : MEM} {p : Int × MEM} (h : rm_add x1 x2 x3 M = some p) (ho : okVs [vR 41, vI x1, vI x2, vI x3]) (hM : okM M) : Cal Δ false m_rm_add d [vR 41, vI x1, vI x2, vI x3] (NG, S0, M) (some p.1) (NG, S0, p.2) 0 0 := by
  exact cal_of g_rm_add p_rm_add (fun v hv => by simp only [List.mem_cons, List.not_mem_nil, or_false] at hv; rcases hv with rfl | rfl | rfl | rfl <;> first | exact Or.inl ⟨_, rfl⟩ | exact Or.inr ⟨_, rfl⟩) ho hM (Nat.le_of_ble_eq_true rfl) (fun Γ _ k => J_rm_add  _ h k)
set_option maxRecDepth 20000 in
set_option maxHeartbeats 4000000 in
theorem J_dh_heard {Δ : DT} {Γ : FT} {d : Nat} (hd : 1 ≤ d + 1) {x1 : Int} {x2 : Int} {x3 : Int}  {M : MEM} : J (dh_heard x1 x2 x3 M) (K_IM Δ Γ m_dh_heard) (WAt Δ Γ false m_dh_heard (d + 1) 0 [vR (0), vI (x1), vI (x2), vI (x3)] [] (NG, S0, M) 0 0) := by
  unfold dh_heard
  refine J.mono (fun k => w_aload_n rfl rfl (w_iload_n rfl rfl k)) ?_
  refine J_hyp (fun k => c_vi1 rfl (fun ho hM => cal_dh_isDonkey (by omega)   ho hM) v_dh_isDonkey (Nat.le_of_ble_eq_true rfl) S_0 rfl (Nat.le_of_ble_eq_true rfl) k) (fun hr2 hb3 => ?_)
  refine J_ite (fun hc4 => ?_) (fun hc4 => ?_)
  · refine J.mono (fun k => s_if_eq_t rfl hc4 (w_iconst rfl (inR_c rfl) k)) ?_
    exact J_some (fun k => w_ireturn rfl rfl k)
  · refine J.mono (fun k => s_if_eq_f rfl hc4 (w_iload_n rfl rfl k)) ?_
    refine J_ite (fun hc5 => ?_) (fun hc5 => ?_)
    · refine J.mono (fun k => s_if_lt_t rfl hc5 (w_iconst rfl (inR_c rfl) k)) ?_
      exact J_some (fun k => w_ireturn rfl rfl k)
    · refine J.mono (fun k => s_if_lt_f rfl hc5 (w_iload_n rfl rfl (w_bipush rfl (bip_c rfl) k))) ?_
      refine J_ite (fun hc6 => ?_) (fun hc6 => ?_)
      · refine J.mono (fun k => s_icmp_gt_t rfl hc6 (w_iconst rfl (inR_c rfl) k)) ?_
        exact J_some (fun k => w_ireturn rfl rfl k)
      · refine J.mono (fun k => s_icmp_gt_f rfl hc6 (w_iload_n rfl rfl k)) ?_
        refine J_hyp (fun k => c_si1 rfl rfl (fun ho hM => cal_dh_isFar (by omega)   ho hM) v_dh_isFar (Nat.le_of_ble_eq_true rfl) k) (fun hr8 hb9 => ?_)
        refine J_ite (fun hc10 => ?_) (fun hc10 => ?_)
        · refine J.mono (fun k => s_if_ne_f rfl hc10 (w_iconst rfl (inR_c rfl) k)) ?_
          exact J_some (fun k => w_ireturn rfl rfl k)
        · refine J.mono (fun k => s_if_ne_t rfl hc10 (w_aload_n rfl rfl (w_getR (r := 41) rfl (Nat.le_of_ble_eq_true rfl) S_0 rfl (w_iload_n rfl rfl (w_iload_n rfl rfl (w_iload_n rfl rfl k)))))) ?_
          refine J_c (fun p12 e11 => ?_)
          refine J_hyp (fun k => c_vi3 rfl (fun ho hM => cal_rm_add (by omega)  e11 ho hM) v_rm_add (Nat.le_of_ble_eq_true rfl) S_41 rfl (Nat.le_of_ble_eq_true rfl) k) (fun hr13 hb14 => ?_)
          refine J_ite (fun hc15 => ?_) (fun hc15 => ?_)
          · refine J.mono (fun k => s_if_eq_t rfl hc15 (w_iconst rfl (inR_c rfl) k)) ?_
            exact J_some (fun k => w_ireturn rfl rfl k)
          · refine J.mono (fun k => s_if_eq_f rfl hc15 (w_aload_n rfl rfl (w_getR (r := 41) rfl (Nat.le_of_ble_eq_true rfl) S_0 rfl (w_getI rfl (Nat.le_of_ble_eq_true rfl) S_41 rfl (w_goto rfl k))))) ?_
            exact J_some (fun k => w_ireturn rfl rfl k)
set_option maxRecDepth 20000 in
set_option maxHeartbeats 4000000 in
theorem cal_dh_heard {Δ : DT} {d : Nat} (hd : 1 ≤ d) {x1 : Int} {x2 : Int} {x3 : Int}  {M : MEM} {p : Int × MEM} (h : dh_heard x1 x2 x3 M = some p) (ho : okVs [vR 0, vI x1, vI x2, vI x3]) (hM : okM M) : Cal Δ false m_dh_heard d [vR 0, vI x1, vI x2, vI x3] (NG, S0, M) (some p.1) (NG, S0, p.2) 0 0 := by
  obtain ⟨d, rfl⟩ : ∃ e, d = e + 1 := ⟨d - 1, by omega⟩
  exact cal_of g_dh_heard p_dh_heard (fun v hv => by simp only [List.mem_cons, List.not_mem_nil, or_false] at hv; rcases hv with rfl | rfl | rfl | rfl <;> first | exact Or.inl ⟨_, rfl⟩ | exact Or.inr ⟨_, rfl⟩) ho hM (Nat.le_of_ble_eq_true rfl) (fun Γ _ k => J_dh_heard hd  _ h k)
set_option maxRecDepth 20000 in
set_option maxHeartbeats 4000000 in
theorem J_dh_forget {Δ : DT} {Γ : FT} {d : Nat}   {M : MEM} : J (dh_forget M) (K_IM Δ Γ m_dh_forget) (WAt Δ Γ false m_dh_forget d 0 [vR (0), vN] [] (NG, S0, M) 0 0) := by
  unfold dh_forget
  refine J.mono (fun k => w_aload_n rfl rfl (w_getR (r := 41) rfl (Nat.le_of_ble_eq_true rfl) S_0 rfl (w_getI rfl (Nat.le_of_ble_eq_true rfl) S_41 rfl (s_istore1 rfl (Nat.le_of_ble_eq_true rfl) (w_aload_n rfl rfl (w_getR (r := 41) rfl (Nat.le_of_ble_eq_true rfl) S_0 rfl (w_iconst rfl (inR_c rfl) k))))))) ?_
  refine J_b ?_
  refine J.mono (fun k => w_putI rfl (Nat.le_of_ble_eq_true rfl) S_41 rfl rfl (w_iload_n rfl rfl k)) ?_
  exact J_some (fun k => w_ireturn rfl rfl k)
set_option maxRecDepth 20000 in
set_option maxHeartbeats 4000000 in
theorem cal_dh_forget {Δ : DT} {d : Nat} (hd : 0 ≤ d)   {M : MEM} {p : Int × MEM} (h : dh_forget M = some p) (ho : okVs [vR 0]) (hM : okM M) : Cal Δ false m_dh_forget d [vR 0] (NG, S0, M) (some p.1) (NG, S0, p.2) 0 0 := by
  exact cal_of g_dh_forget p_dh_forget (fun v hv => by simp only [List.mem_cons, List.not_mem_nil, or_false] at hv; rcases hv with rfl <;> first | exact Or.inl ⟨_, rfl⟩ | exact Or.inr ⟨_, rfl⟩) ho hM (Nat.le_of_ble_eq_true rfl) (fun Γ _ k => J_dh_forget  _ h k)
abbrev HD_fu_strokesWithin_b2 (Δ : DT) (Γ : FT) (d : Nat) (a0 : Nat) (x1 : Int) (M : MEM) (s : Int) : Prop := WAt Δ Γ false m_fu_strokesWithin (d + 1) 2 [vR (a0), vI (x1), vI (s)] [] (NG, S0, M) 0 0
abbrev X_fu_strokesWithin_b2 (Δ : DT) (Γ : FT) (d : Nat) (a0 : Nat) (x1 : Int) (M : MEM) (s : Int) : Prop := WAt Δ Γ false m_fu_strokesWithin (d + 1) 27 [vN, vN, vI (s)] [] (NG, S0, M) 0 0
set_option maxRecDepth 20000 in
set_option maxHeartbeats 4000000 in
theorem Jb_fu_strokesWithin_b2 {Δ : DT} {Γ : FT} {d : Nat} (hd : 1 ≤ d + 1) {a0 : Nat} {x1 : Int} (h_a0 : is_fu a0) {x2 : Int} {M : MEM} : J (fu_strokesWithin_b2 a0 x1 x2 M) (Sum.elim (HD_fu_strokesWithin_b2 Δ Γ d a0 x1 M) (X_fu_strokesWithin_b2 Δ Γ d a0 x1 M)) (WAt Δ Γ false m_fu_strokesWithin (d + 1) 2 [vR (a0), vI (x1), vI (x2)] [] (NG, S0, M) 0 0) := by
  unfold fu_strokesWithin_b2
  refine J.mono (fun k => w_iload_n rfl rfl (w_aload_n rfl rfl (w_getI rfl (fu_S h_a0).1 (fu_S h_a0).2 rfl k))) ?_
  refine J_ite (fun hc1 => ?_) (fun hc1 => ?_)
  · refine J.mono (fun k => s_icmp_ge_t rfl hc1 k) ?_
    exact J_some (fun k => w_forget (wk_d (wk_d (wk_k wk_0))) k)
  · refine J.mono (fun k => s_icmp_ge_f rfl hc1 (w_aload_n rfl rfl (w_iload_n rfl rfl (w_iconst rfl (inR_c rfl) (w_iadd rfl k))))) ?_
    refine J_c (fun r3 e2 => ?_)
    refine J_hyp (fun k => c_vi1 rfl (fun ho hM => cal_fu_strokeMinute (by omega) h_a0 e2 ho hM) v_fu_strokeMinute (fu_S h_a0).1 (fu_S h_a0).2 rfl (Nat.le_of_ble_eq_true rfl) k) (fun hr4 hb5 => ?_)
    refine J.mono (fun k => w_iload_n rfl rfl k) ?_
    refine J_ite (fun hc6 => ?_) (fun hc6 => ?_)
    · refine J.mono (fun k => s_icmp_ge_t rfl hc6 k) ?_
      exact J_some (fun k => w_forget (wk_d (wk_d (wk_k wk_0))) k)
    · refine J.mono (fun k => s_icmp_ge_f rfl hc6 (s_iinc2 rfl (Nat.le_of_ble_eq_true rfl) (w_goto rfl k))) ?_
      exact J_some (fun k => w_forget (wk_k (wk_k (wk_k wk_0))) k)
set_option maxRecDepth 20000 in
set_option maxHeartbeats 4000000 in
theorem Jl_fu_strokesWithin_b2 {Δ : DT} {Γ : FT} {d : Nat} (hd : 1 ≤ d + 1) {a0 : Nat} {x1 : Int} (h_a0 : is_fu a0) {M : MEM} : ∀ (n : Nat) (s : Int), J (iter (fun s => fu_strokesWithin_b2 a0 x1 s M) n s) (X_fu_strokesWithin_b2 Δ Γ d a0 x1 M) (HD_fu_strokesWithin_b2 Δ Γ d a0 x1 M s) := J_iter (fun s => Jb_fu_strokesWithin_b2 hd h_a0)
set_option maxRecDepth 20000 in
set_option maxHeartbeats 4000000 in
theorem J_fu_strokesWithin {Δ : DT} {Γ : FT} {d : Nat} (hd : 1 ≤ d + 1) {a0 : Nat} {x1 : Int} (h_a0 : is_fu a0) {M : MEM} : J (fu_strokesWithin a0 x1 M) (K_I Δ Γ m_fu_strokesWithin M) (WAt Δ Γ false m_fu_strokesWithin (d + 1) 0 [vR (a0), vI (x1), vN] [] (NG, S0, M) 0 0) := by
  unfold fu_strokesWithin
  refine J.mono (fun k => w_iconst rfl (inR_c rfl) (s_istore2 rfl (Nat.le_of_ble_eq_true rfl) k)) ?_
  refine J.mono (fun k => w_forget (wk_k (wk_k (wk_k wk_0))) k) ?_
  refine J_loop (Jl_fu_strokesWithin_b2 hd h_a0 _ _) (fun w7 => ?_)
  refine J.mono (fun k => w_iload_n rfl rfl k) ?_
  exact J_some (fun k => w_ireturn rfl rfl k)
set_option maxRecDepth 20000 in
set_option maxHeartbeats 4000000 in
theorem cal_fu_strokesWithin {Δ : DT} {d : Nat} (hd : 1 ≤ d) {a0 : Nat} {x1 : Int} (h_a0 : is_fu a0) {M : MEM} {r : Int} (h : fu_strokesWithin a0 x1 M = some r) (ho : okVs [vR a0, vI x1]) (hM : okM M) : Cal Δ false m_fu_strokesWithin d [vR a0, vI x1] (NG, S0, M) (some r) (NG, S0, M) 0 0 := by
  obtain ⟨d, rfl⟩ : ∃ e, d = e + 1 := ⟨d - 1, by omega⟩
  exact cal_of g_fu_strokesWithin p_fu_strokesWithin (fun v hv => by simp only [List.mem_cons, List.not_mem_nil, or_false] at hv; rcases hv with rfl | rfl <;> first | exact Or.inl ⟨_, rfl⟩ | exact Or.inr ⟨_, rfl⟩) ho hM (Nat.le_of_ble_eq_true rfl) (fun Γ _ k => J_fu_strokesWithin hd h_a0 _ h k)
abbrev HD_rm_fit_b2 (Δ : DT) (Γ : FT) (d : Nat) (a1 : Nat) (s : Int × MEM) : Prop := WAt Δ Γ false m_rm_fit (d + 1) 2 [vR (41), vR (a1), vI (s.1)] [] (NG, S0, s.2) 0 0
abbrev X_rm_fit_b2 (Δ : DT) (Γ : FT) (d : Nat) (a1 : Nat) : (Int × MEM) ⊕ (Int × MEM) → Prop := Sum.elim (K_IM Δ Γ m_rm_fit) (fun s => WAt Δ Γ false m_rm_fit (d + 1) 69 [vN, vN, vN] [] (NG, S0, s.2) 0 0)
set_option maxRecDepth 20000 in
set_option maxHeartbeats 4000000 in
theorem J_rm_fit_j63_2 {Δ : DT} {Γ : FT} {d : Nat} (hd : 4 ≤ d + 1) {a1 : Nat} {x2 : Int} (h_a1 : is_fu a1) {M : MEM} : J (rm_fit_j63_2 a1 x2 M) (Sum.elim (HD_rm_fit_b2 Δ Γ d a1) (X_rm_fit_b2 Δ Γ d a1)) (WAt Δ Γ false m_rm_fit (d + 1) 63 [vR (41), vR (a1), vI (x2)] [] (NG, S0, M) 0 0) := by
  unfold rm_fit_j63_2
  refine J.mono (fun k => s_iinc2 rfl (Nat.le_of_ble_eq_true rfl) (w_goto rfl k)) ?_
  exact J_some (fun k => w_forget (wk_k (wk_k (wk_k wk_0))) k)
set_option maxRecDepth 20000 in
set_option maxHeartbeats 4000000 in
theorem Jb_rm_fit_b2 {Δ : DT} {Γ : FT} {d : Nat} (hd : 4 ≤ d + 1) {a1 : Nat} (h_a1 : is_fu a1) {x2 : Int} {M : MEM} : J (rm_fit_b2 a1 x2 M) (Sum.elim (HD_rm_fit_b2 Δ Γ d a1) (X_rm_fit_b2 Δ Γ d a1)) (WAt Δ Γ false m_rm_fit (d + 1) 2 [vR (41), vR (a1), vI (x2)] [] (NG, S0, M) 0 0) := by
  unfold rm_fit_b2
  refine J.mono (fun k => w_iload_n rfl rfl (w_aload_n rfl rfl (w_getI rfl (Nat.le_of_ble_eq_true rfl) S_41 rfl k))) ?_
  refine J_ite (fun hc1 => ?_) (fun hc1 => ?_)
  · refine J.mono (fun k => s_icmp_ge_t rfl hc1 k) ?_
    exact J_some (fun k => w_forget (wk_d (wk_d (wk_d wk_0))) k)
  · refine J.mono (fun k => s_icmp_ge_f rfl hc1 (w_iload_n rfl rfl (w_bipush rfl (bip_c rfl) k))) ?_
    refine J_ite (fun hc2 => ?_) (fun hc2 => ?_)
    · refine J.mono (fun k => s_icmp_ge_t rfl hc2 k) ?_
      exact J_some (fun k => w_forget (wk_d (wk_d (wk_d wk_0))) k)
    · refine J.mono (fun k => s_icmp_ge_f rfl hc2 (w_aload_n rfl rfl (w_getR (r := 42) rfl (Nat.le_of_ble_eq_true rfl) S_41 rfl (w_iload_n rfl rfl k)))) ?_
      refine J_chk (fun hi3 => ?_)
      refine J.mono (fun k => w_iald rfl A_42.1 A_42.2 hi3.1 hi3.2 (w_aload_n rfl rfl (w_getI rfl (fu_S h_a1).1 (fu_S h_a1).2 rfl k))) ?_
      refine J_ite (fun hc4 => ?_) (fun hc4 => ?_)
      · refine J.mono (fun k => s_icmp_ne_f rfl hc4 (w_aload_n rfl rfl (w_aload_n rfl rfl (w_getR (r := 44) rfl (Nat.le_of_ble_eq_true rfl) S_41 rfl (w_iload_n rfl rfl k))))) ?_
        refine J_chk (fun hi5 => ?_)
        refine J.mono (fun k => w_iald rfl A_44.1 A_44.2 hi5.1 hi5.2 (w_sipush rfl (sip_c rfl) k)) ?_
        refine J_c (fun M7 e6 => ?_)
        refine J.mono (fun k => c_vv2 rfl (fun ho hM => cal_fu_run (by omega) h_a1 e6 ho hM) v_fu_run (fu_S h_a1).1 (fu_S h_a1).2 rfl (Nat.le_of_ble_eq_true rfl) (w_aload_n rfl rfl (w_aload_n rfl rfl (w_getR (r := 44) rfl (Nat.le_of_ble_eq_true rfl) S_41 rfl (w_iload_n rfl rfl k))))) ?_
        refine J_chk (fun hi8 => ?_)
        refine J.mono (fun k => w_iald rfl A_44.1 A_44.2 hi8.1 hi8.2 k) ?_
        refine J_c (fun r10 e9 => ?_)
        refine J_hyp (fun k => c_vi1 rfl (fun ho hM => cal_fu_strokesWithin (by omega) h_a1 e9 ho hM) v_fu_strokesWithin (fu_S h_a1).1 (fu_S h_a1).2 rfl (Nat.le_of_ble_eq_true rfl) k) (fun hr11 hb12 => ?_)
        refine J.mono (fun k => w_aload_n rfl rfl (w_getR (r := 43) rfl (Nat.le_of_ble_eq_true rfl) S_41 rfl (w_iload_n rfl rfl k))) ?_
        refine J_chk (fun hi13 => ?_)
        refine J.mono (fun k => w_iald rfl A_43.1 A_43.2 hi13.1 hi13.2 k) ?_
        refine J_ite (fun hc14 => ?_) (fun hc14 => ?_)
        · refine J.mono (fun k => s_icmp_eq_t rfl hc14 k) ?_
          exact J.mono (fun k => w_forget (wk_k (wk_k (wk_k wk_0))) k) (J_rm_fit_j63_2 hd h_a1)
        · refine J.mono (fun k => s_icmp_eq_f rfl hc14 (w_iconst rfl (inR_c rfl) k)) ?_
          exact J_some (fun k => w_zreturn rfl rfl (Or.inl rfl) k)
      · refine J.mono (fun k => s_icmp_ne_t rfl hc4 k) ?_
        exact J.mono (fun k => w_forget (wk_k (wk_k (wk_k wk_0))) k) (J_rm_fit_j63_2 hd h_a1)
set_option maxRecDepth 20000 in
set_option maxHeartbeats 4000000 in
theorem Jl_rm_fit_b2 {Δ : DT} {Γ : FT} {d : Nat} (hd : 4 ≤ d + 1) {a1 : Nat} (h_a1 : is_fu a1)  : ∀ (n : Nat) (s : Int × MEM), J (iter (fun s => rm_fit_b2 a1 s.1 s.2) n s) (X_rm_fit_b2 Δ Γ d a1) (HD_rm_fit_b2 Δ Γ d a1 s) := J_iter (fun s => Jb_rm_fit_b2 hd h_a1)
set_option maxRecDepth 20000 in
set_option maxHeartbeats 4000000 in
theorem J_rm_fit {Δ : DT} {Γ : FT} {d : Nat} (hd : 4 ≤ d + 1) {a1 : Nat} (h_a1 : is_fu a1) {M : MEM} : J (rm_fit a1 M) (K_IM Δ Γ m_rm_fit) (WAt Δ Γ false m_rm_fit (d + 1) 0 [vR (41), vR (a1), vN] [] (NG, S0, M) 0 0) := by
  unfold rm_fit
  refine J.mono (fun k => w_iconst rfl (inR_c rfl) (s_istore2 rfl (Nat.le_of_ble_eq_true rfl) k)) ?_
  refine J.mono (fun k => w_forget (wk_k (wk_k (wk_k wk_0))) k) ?_
  refine J_loop (Jl_rm_fit_b2 hd h_a1 _ _) (fun w15 => ?_)
  refine J_elim (fun r => J_some (fun k => k)) (fun w15 => ?_)
  refine J.mono (fun k => w_iconst rfl (inR_c rfl) k) ?_
  exact J_some (fun k => w_zreturn rfl rfl (Or.inr rfl) k)
set_option maxRecDepth 20000 in
set_option maxHeartbeats 4000000 in
theorem cal_rm_fit {Δ : DT} {d : Nat} (hd : 4 ≤ d) {a1 : Nat} (h_a1 : is_fu a1) {M : MEM} {p : Int × MEM} (h : rm_fit a1 M = some p) (ho : okVs [vR 41, vR a1]) (hM : okM M) : Cal Δ false m_rm_fit d [vR 41, vR a1] (NG, S0, M) (some p.1) (NG, S0, p.2) 0 0 := by
  obtain ⟨d, rfl⟩ : ∃ e, d = e + 1 := ⟨d - 1, by omega⟩
  exact cal_of g_rm_fit p_rm_fit (fun v hv => by simp only [List.mem_cons, List.not_mem_nil, or_false] at hv; rcases hv with rfl | rfl <;> first | exact Or.inl ⟨_, rfl⟩ | exact Or.inr ⟨_, rfl⟩) ho hM (Nat.le_of_ble_eq_true rfl) (fun Γ _ k => J_rm_fit hd h_a1 _ h k)
set_option maxRecDepth 20000 in
set_option maxHeartbeats 4000000 in
theorem J_dh_isWayHeard {Δ : DT} {Γ : FT} {d : Nat} (hd : 5 ≤ d + 1) {x1 : Int} {x2 : Int} {x3 : Int}  {M : MEM} : J (dh_isWayHeard x1 x2 x3 M) (K_IM Δ Γ m_dh_isWayHeard) (WAt Δ Γ false m_dh_isWayHeard (d + 1) 0 [vR (0), vI (x1), vI (x2), vI (x3)] [] (NG, S0, M) 0 0) := by
  unfold dh_isWayHeard
  refine J.mono (fun k => w_aload_n rfl rfl (w_aload_n rfl rfl (w_getR (r := 224) rfl (Nat.le_of_ble_eq_true rfl) S_0 rfl (w_iload_n rfl rfl k)))) ?_
  refine J_c (fun M2 e1 => ?_)
  refine J.mono (fun k => c_vv2 rfl (fun ho hM => cal_dh_look (by omega) is_fu_224 e1 ho hM) v_dh_look (Nat.le_of_ble_eq_true rfl) S_0 rfl (Nat.le_of_ble_eq_true rfl) (w_aload_n rfl rfl (w_getR (r := 224) rfl (Nat.le_of_ble_eq_true rfl) S_0 rfl (w_getR (r := 230) rfl (fu_S is_fu_224).1 (fu_S is_fu_224).2 rfl (w_iload_n rfl rfl k))))) ?_
  refine J_b ?_
  refine J.mono (fun k => w_putI rfl (be_S is_be_230).1 (be_S is_be_230).2 rfl rfl (w_aload_n rfl rfl (w_getR (r := 224) rfl (Nat.le_of_ble_eq_true rfl) S_0 rfl (w_getR (r := 230) rfl (fu_S is_fu_224).1 (fu_S is_fu_224).2 rfl (w_iload_n rfl rfl k))))) ?_
  refine J_b ?_
  refine J.mono (fun k => w_putI rfl (be_S is_be_230).1 (be_S is_be_230).2 rfl rfl (w_aload_n rfl rfl (w_getR (r := 41) rfl (Nat.le_of_ble_eq_true rfl) S_0 rfl (w_aload_n rfl rfl (w_getR (r := 224) rfl (Nat.le_of_ble_eq_true rfl) S_0 rfl k))))) ?_
  refine J_c (fun p6 e5 => ?_)
  refine J_hyp (fun k => c_vi1 rfl (fun ho hM => cal_rm_fit (by omega) is_fu_224 e5 ho hM) v_rm_fit (Nat.le_of_ble_eq_true rfl) S_41 rfl (Nat.le_of_ble_eq_true rfl) k) (fun hr7 hb8 => ?_)
  exact J_some (fun k => w_zreturn rfl rfl (hb8 rfl) k)
set_option maxRecDepth 20000 in
set_option maxHeartbeats 4000000 in
theorem cal_dh_isWayHeard {Δ : DT} {d : Nat} (hd : 5 ≤ d) {x1 : Int} {x2 : Int} {x3 : Int}  {M : MEM} {p : Int × MEM} (h : dh_isWayHeard x1 x2 x3 M = some p) (ho : okVs [vR 0, vI x1, vI x2, vI x3]) (hM : okM M) : Cal Δ false m_dh_isWayHeard d [vR 0, vI x1, vI x2, vI x3] (NG, S0, M) (some p.1) (NG, S0, p.2) 0 0 := by
  obtain ⟨d, rfl⟩ : ∃ e, d = e + 1 := ⟨d - 1, by omega⟩
  exact cal_of g_dh_isWayHeard p_dh_isWayHeard (fun v hv => by simp only [List.mem_cons, List.not_mem_nil, or_false] at hv; rcases hv with rfl | rfl | rfl | rfl <;> first | exact Or.inl ⟨_, rfl⟩ | exact Or.inr ⟨_, rfl⟩) ho hM (Nat.le_of_ble_eq_true rfl) (fun Γ _ k => J_dh_isWayHeard hd  _ h k)
abbrev HD_dh_hungers_b25 (Δ : DT) (Γ : FT) (d : Nat) (x1 : Int) (a2 : Nat) (s : Int × Int × MEM) : Prop := WAt Δ Γ false m_dh_hungers (d + 1) 25 [vR (0), vI (x1), vR (a2), vI (s.1), vI (s.2.1), vN] [] (NG, S0, s.2.2) 0 0
abbrev X_dh_hungers_b25 (Δ : DT) (Γ : FT) (d : Nat) (x1 : Int) (a2 : Nat) (s : Int × Int × MEM) : Prop := WAt Δ Γ false m_dh_hungers (d + 1) 59 [vR (0), vI (x1), vR (a2), vI (s.1), vN, vN] [] (NG, S0, s.2.2) 0 0
set_option maxRecDepth 20000 in
set_option maxHeartbeats 4000000 in
theorem J_dh_hungers_j53_25 {Δ : DT} {Γ : FT} {d : Nat} (hd : 6 ≤ d + 1) {x1 : Int} {a2 : Nat} {x3 : Int} {x4 : Int} (h_a2 : is_be a2) {M : MEM} : J (dh_hungers_j53_25 x1 a2 x3 x4 M) (Sum.elim (HD_dh_hungers_b25 Δ Γ d x1 a2) (X_dh_hungers_b25 Δ Γ d x1 a2)) (WAt Δ Γ false m_dh_hungers (d + 1) 53 [vR (0), vI (x1), vR (a2), vI (x3), vI (x4), vN] [] (NG, S0, M) 0 0) := by
  unfold dh_hungers_j53_25
  refine J.mono (fun k => s_iinc4 rfl (Nat.le_of_ble_eq_true rfl) (w_goto rfl k)) ?_
  exact J_some (fun k => w_forget (wk_k (wk_k (wk_k (wk_k (wk_k (wk_d wk_0)))))) k)
set_option maxRecDepth 20000 in
set_option maxHeartbeats 4000000 in
theorem Jb_dh_hungers_b25 {Δ : DT} {Γ : FT} {d : Nat} (hd : 6 ≤ d + 1) {x1 : Int} {a2 : Nat} (h_a2 : is_be a2) {x3 : Int} {x4 : Int} {M : MEM} : J (dh_hungers_b25 x1 a2 x3 x4 M) (Sum.elim (HD_dh_hungers_b25 Δ Γ d x1 a2) (X_dh_hungers_b25 Δ Γ d x1 a2)) (WAt Δ Γ false m_dh_hungers (d + 1) 25 [vR (0), vI (x1), vR (a2), vI (x3), vI (x4), vN] [] (NG, S0, M) 0 0) := by
  unfold dh_hungers_b25
  refine J.mono (fun k => w_iload rfl rfl (w_bipush rfl (bip_c rfl) k)) ?_
  refine J_ite (fun hc6 => ?_) (fun hc6 => ?_)
  · refine J.mono (fun k => s_icmp_ge_t rfl hc6 k) ?_
    exact J_some (fun k => w_forget (wk_k (wk_k (wk_k (wk_k (wk_d (wk_d wk_0)))))) k)
  · refine J.mono (fun k => s_icmp_ge_f rfl hc6 (w_aload_n rfl rfl (w_iload_n rfl rfl (w_iload rfl rfl (w_aload_n rfl rfl (w_getI rfl (be_S h_a2).1 (be_S h_a2).2 rfl k)))))) ?_
    refine J_c (fun p8 e7 => ?_)
    refine J_hyp (fun k => c_vi3 rfl (fun ho hM => cal_dh_isWayHeard (by omega)  e7 ho hM) v_dh_isWayHeard (Nat.le_of_ble_eq_true rfl) S_0 rfl (Nat.le_of_ble_eq_true rfl) k) (fun hr9 hb10 => ?_)
    refine J_ite (fun hc11 => ?_) (fun hc11 => ?_)
    · refine J.mono (fun k => s_if_eq_t rfl hc11 k) ?_
      exact J.mono (fun k => w_forget (wk_k (wk_k (wk_k (wk_k (wk_k (wk_d wk_0)))))) k) (J_dh_hungers_j53_25 hd h_a2)
    · refine J.mono (fun k => s_if_eq_f rfl hc11 (w_iload_n rfl rfl (w_iconst rfl (inR_c rfl) (w_iload rfl rfl (w_ishl rfl (w_ior rfl (s_istore3 rfl (Nat.le_of_ble_eq_true rfl) k))))))) ?_
      exact J.mono (fun k => w_forget (wk_k (wk_k (wk_k (wk_k (wk_k (wk_d wk_0)))))) k) (J_dh_hungers_j53_25 hd h_a2)
set_option maxRecDepth 20000 in
set_option maxHeartbeats 4000000 in
theorem Jl_dh_hungers_b25 {Δ : DT} {Γ : FT} {d : Nat} (hd : 6 ≤ d + 1) {x1 : Int} {a2 : Nat} (h_a2 : is_be a2)  : ∀ (n : Nat) (s : Int × Int × MEM), J (iter (fun s => dh_hungers_b25 x1 a2 s.1 s.2.1 s.2.2) n s) (X_dh_hungers_b25 Δ Γ d x1 a2) (HD_dh_hungers_b25 Δ Γ d x1 a2 s) := J_iter (fun s => Jb_dh_hungers_b25 hd h_a2)
abbrev HD_dh_hungers_b65 (Δ : DT) (Γ : FT) (d : Nat) (x1 : Int) (a2 : Nat) (x3 : Int) (s : Int × Int × MEM) : Prop := WAt Δ Γ false m_dh_hungers (d + 1) 65 [vR (0), vI (x1), vR (a2), vI (x3), vI (s.1), vI (s.2.1)] [] (NG, S0, s.2.2) 0 0
abbrev X_dh_hungers_b65 (Δ : DT) (Γ : FT) (d : Nat) (x1 : Int) (a2 : Nat) (x3 : Int) (s : Int × Int × MEM) : Prop := WAt Δ Γ false m_dh_hungers (d + 1) 103 [vR (0), vN, vN, vI (x3), vI (s.1), vN] [] (NG, S0, s.2.2) 0 0
set_option maxRecDepth 20000 in
set_option maxHeartbeats 4000000 in
theorem J_dh_hungers_j97_65 {Δ : DT} {Γ : FT} {d : Nat} (hd : 6 ≤ d + 1) {x1 : Int} {a2 : Nat} {x3 : Int} {x4 : Int} {x5 : Int} (h_a2 : is_be a2) {M : MEM} : J (dh_hungers_j97_65 x1 a2 x3 x4 x5 M) (Sum.elim (HD_dh_hungers_b65 Δ Γ d x1 a2 x3) (X_dh_hungers_b65 Δ Γ d x1 a2 x3)) (WAt Δ Γ false m_dh_hungers (d + 1) 97 [vR (0), vI (x1), vR (a2), vI (x3), vI (x4), vI (x5)] [] (NG, S0, M) 0 0) := by
  unfold dh_hungers_j97_65
  refine J.mono (fun k => s_iinc5 rfl (Nat.le_of_ble_eq_true rfl) (w_goto rfl k)) ?_
  exact J_some (fun k => w_forget (wk_k (wk_k (wk_k (wk_k (wk_k (wk_k wk_0)))))) k)
set_option maxRecDepth 20000 in
set_option maxHeartbeats 4000000 in
theorem Jb_dh_hungers_b65 {Δ : DT} {Γ : FT} {d : Nat} (hd : 6 ≤ d + 1) {x1 : Int} {a2 : Nat} {x3 : Int} (h_a2 : is_be a2) {x4 : Int} {x5 : Int} {M : MEM} : J (dh_hungers_b65 x1 a2 x3 x4 x5 M) (Sum.elim (HD_dh_hungers_b65 Δ Γ d x1 a2 x3) (X_dh_hungers_b65 Δ Γ d x1 a2 x3)) (WAt Δ Γ false m_dh_hungers (d + 1) 65 [vR (0), vI (x1), vR (a2), vI (x3), vI (x4), vI (x5)] [] (NG, S0, M) 0 0) := by
  unfold dh_hungers_b65
  refine J.mono (fun k => w_iload rfl rfl (w_aload_n rfl rfl (w_getI rfl (be_S h_a2).1 (be_S h_a2).2 rfl k))) ?_
  refine J_ite (fun hc13 => ?_) (fun hc13 => ?_)
  · refine J.mono (fun k => s_icmp_ge_t rfl hc13 k) ?_
    exact J_some (fun k => w_forget (wk_k (wk_d (wk_d (wk_k (wk_k (wk_d wk_0)))))) k)
  · refine J.mono (fun k => s_icmp_ge_f rfl hc13 (w_aload_n rfl rfl (w_iload_n rfl rfl (w_aload_n rfl rfl (w_getI rfl (be_S h_a2).1 (be_S h_a2).2 rfl (w_iload rfl rfl k)))))) ?_
    refine J_c (fun p15 e14 => ?_)
    refine J_hyp (fun k => c_vi3 rfl (fun ho hM => cal_dh_isWayHeard (by omega)  e14 ho hM) v_dh_isWayHeard (Nat.le_of_ble_eq_true rfl) S_0 rfl (Nat.le_of_ble_eq_true rfl) k) (fun hr16 hb17 => ?_)
    refine J_ite (fun hc18 => ?_) (fun hc18 => ?_)
    · refine J.mono (fun k => s_if_eq_t rfl hc18 k) ?_
      exact J.mono (fun k => w_forget (wk_k (wk_k (wk_k (wk_k (wk_k (wk_k wk_0)))))) k) (J_dh_hungers_j97_65 hd h_a2)
    · refine J.mono (fun k => s_if_eq_f rfl hc18 (w_iload rfl rfl (w_iconst rfl (inR_c rfl) (w_iload rfl rfl (w_ishl rfl (w_ior rfl (s_istore4 rfl (Nat.le_of_ble_eq_true rfl) k))))))) ?_
      exact J.mono (fun k => w_forget (wk_k (wk_k (wk_k (wk_k (wk_k (wk_k wk_0)))))) k) (J_dh_hungers_j97_65 hd h_a2)
set_option maxRecDepth 20000 in
set_option maxHeartbeats 4000000 in
theorem Jl_dh_hungers_b65 {Δ : DT} {Γ : FT} {d : Nat} (hd : 6 ≤ d + 1) {x1 : Int} {a2 : Nat} {x3 : Int} (h_a2 : is_be a2)  : ∀ (n : Nat) (s : Int × Int × MEM), J (iter (fun s => dh_hungers_b65 x1 a2 x3 s.1 s.2.1 s.2.2) n s) (X_dh_hungers_b65 Δ Γ d x1 a2 x3) (HD_dh_hungers_b65 Δ Γ d x1 a2 x3 s) := J_iter (fun s => Jb_dh_hungers_b65 hd h_a2)
set_option maxRecDepth 20000 in
set_option maxHeartbeats 4000000 in
theorem J_dh_hungers {Δ : DT} {Γ : FT} {d : Nat} (hd : 6 ≤ d + 1) {x1 : Int}  {M : MEM} : J (dh_hungers x1 M) (K_IM Δ Γ m_dh_hungers) (WAt Δ Γ false m_dh_hungers (d + 1) 0 [vR (0), vI (x1), vN, vN, vN, vN] [] (NG, S0, M) 0 0) := by
  unfold dh_hungers
  refine J.mono (fun k => w_aload_n rfl rfl (w_iload_n rfl rfl k)) ?_
  refine J_hyp (fun k => c_vi1 rfl (fun ho hM => cal_dh_isDonkey (by omega)   ho hM) v_dh_isDonkey (Nat.le_of_ble_eq_true rfl) S_0 rfl (Nat.le_of_ble_eq_true rfl) k) (fun hr2 hb3 => ?_)
  refine J_ite (fun hc4 => ?_) (fun hc4 => ?_)
  · refine J.mono (fun k => s_if_ne_f rfl hc4 (w_iconst rfl (inR_c rfl) k)) ?_
    exact J_some (fun k => w_ireturn rfl rfl k)
  · refine J.mono (fun k => s_if_ne_t rfl hc4 (w_aload_n rfl rfl (w_getR (r := 3) rfl (Nat.le_of_ble_eq_true rfl) S_0 rfl (w_getR (r := 4) rfl (sc_S is_sc_3).1 (sc_S is_sc_3).2 rfl (w_iload_n rfl rfl k))))) ?_
    refine J_chk (fun hi5 => ?_)
    refine J.mono (fun k => w_aald rfl (scb_S is_sc_3).1 (Or.inl rfl) (scb_S is_sc_3).2 hi5.1 (scb_get hi5.1 hi5.2) (s_astore2 rfl (Nat.le_of_ble_eq_true rfl) (w_iconst rfl (inR_c rfl) (s_istore3 rfl (Nat.le_of_ble_eq_true rfl) (w_iconst rfl (inR_c rfl) (s_istore4 rfl (Nat.le_of_ble_eq_true rfl) k)))))) ?_
    refine J.mono (fun k => w_forget (wk_k (wk_k (wk_k (wk_k (wk_k (wk_d wk_0)))))) k) ?_
    refine J_loop (Jl_dh_hungers_b25 hd (scb_is is_sc_3 hi5.1 hi5.2) _ _) (fun w12 => ?_)
    refine J.mono (fun k => w_iconst rfl (inR_c rfl) (s_istore4 rfl (Nat.le_of_ble_eq_true rfl) (w_iconst rfl (inR_c rfl) (s_istore5 rfl (Nat.le_of_ble_eq_true rfl) k)))) ?_
    refine J.mono (fun k => w_forget (wk_k (wk_k (wk_k (wk_k (wk_k (wk_k wk_0)))))) k) ?_
    refine J_loop (Jl_dh_hungers_b65 hd (scb_is is_sc_3 hi5.1 hi5.2) _ _) (fun w19 => ?_)
    refine J.mono (fun k => w_aload_n rfl rfl k) ?_
    refine J_c (fun M21 e20 => ?_)
    refine J.mono (fun k => c_vv0 rfl (fun ho hM => cal_dh_newRow (by omega)  e20 ho hM) v_dh_newRow (Nat.le_of_ble_eq_true rfl) S_0 rfl (Nat.le_of_ble_eq_true rfl) (w_aload_n rfl rfl (w_iload rfl rfl k))) ?_
    refine J_c (fun M23 e22 => ?_)
    refine J.mono (fun k => c_vv1 rfl (fun ho hM => cal_dh_tell (by omega)  e22 ho hM) v_dh_tell (Nat.le_of_ble_eq_true rfl) S_0 rfl (Nat.le_of_ble_eq_true rfl) (w_iload_n rfl rfl k)) ?_
    exact J_some (fun k => w_ireturn rfl rfl k)
set_option maxRecDepth 20000 in
set_option maxHeartbeats 4000000 in
theorem cal_dh_hungers {Δ : DT} {d : Nat} (hd : 6 ≤ d) {x1 : Int}  {M : MEM} {p : Int × MEM} (h : dh_hungers x1 M = some p) (ho : okVs [vR 0, vI x1]) (hM : okM M) : Cal Δ false m_dh_hungers d [vR 0, vI x1] (NG, S0, M) (some p.1) (NG, S0, p.2) 0 0 := by
  obtain ⟨d, rfl⟩ : ∃ e, d = e + 1 := ⟨d - 1, by omega⟩
  exact cal_of g_dh_hungers p_dh_hungers (fun v hv => by simp only [List.mem_cons, List.not_mem_nil, or_false] at hv; rcases hv with rfl | rfl <;> first | exact Or.inl ⟨_, rfl⟩ | exact Or.inr ⟨_, rfl⟩) ho hM (Nat.le_of_ble_eq_true rfl) (fun Γ _ k => J_dh_hungers hd  _ h k)
abbrev HD_dh_ways_b18 (Δ : DT) (Γ : FT) (d : Nat) (x1 : Int) (s : Int × Int × MEM) : Prop := WAt Δ Γ false m_dh_ways (d + 1) 18 [vR (0), vI (x1), vI (s.1), vI (s.2.1), vN] [] (NG, S0, s.2.2) 0 0
abbrev X_dh_ways_b18 (Δ : DT) (Γ : FT) (d : Nat) (x1 : Int) (s : Int × Int × MEM) : Prop := WAt Δ Γ false m_dh_ways (d + 1) 85 [vN, vN, vI (s.1), vN, vN] [] (NG, S0, s.2.2) 0 0
abbrev HD_dh_ways_b27 (Δ : DT) (Γ : FT) (d : Nat) (x1 : Int) (x3 : Int) (s : Int × Int × MEM) : Prop := WAt Δ Γ false m_dh_ways (d + 1) 27 [vR (0), vI (x1), vI (s.1), vI (x3), vI (s.2.1)] [] (NG, S0, s.2.2) 0 0
abbrev X_dh_ways_b27 (Δ : DT) (Γ : FT) (d : Nat) (x1 : Int) (x3 : Int) (s : Int × Int × MEM) : Prop := WAt Δ Γ false m_dh_ways (d + 1) 79 [vR (0), vI (x1), vI (s.1), vI (x3), vN] [] (NG, S0, s.2.2) 0 0
set_option maxRecDepth 20000 in
set_option maxHeartbeats 4000000 in
theorem J_dh_ways_j73_27 {Δ : DT} {Γ : FT} {d : Nat} (hd : 6 ≤ d + 1) {x1 : Int} {x2 : Int} {x3 : Int} {x4 : Int}  {M : MEM} : J (dh_ways_j73_27 x1 x2 x3 x4 M) (Sum.elim (HD_dh_ways_b27 Δ Γ d x1 x3) (X_dh_ways_b27 Δ Γ d x1 x3)) (WAt Δ Γ false m_dh_ways (d + 1) 73 [vR (0), vI (x1), vI (x2), vI (x3), vI (x4)] [] (NG, S0, M) 0 0) := by
  unfold dh_ways_j73_27
  refine J.mono (fun k => s_iinc4 rfl (Nat.le_of_ble_eq_true rfl) (w_goto rfl k)) ?_
  exact J_some (fun k => w_forget (wk_k (wk_k (wk_k (wk_k (wk_k wk_0))))) k)
set_option maxRecDepth 20000 in
set_option maxHeartbeats 4000000 in
theorem J_dh_ways_j70_27 {Δ : DT} {Γ : FT} {d : Nat} (hd : 6 ≤ d + 1) {x1 : Int} {x2 : Int} {x3 : Int} {x4 : Int}  {M : MEM} : J (dh_ways_j70_27 x1 x2 x3 x4 M) (Sum.elim (HD_dh_ways_b27 Δ Γ d x1 x3) (X_dh_ways_b27 Δ Γ d x1 x3)) (WAt Δ Γ false m_dh_ways (d + 1) 70 [vR (0), vI (x1), vI (x2), vI (x3), vI (x4)] [] (NG, S0, M) 0 0) := by
  unfold dh_ways_j70_27
  refine J.mono (fun k => s_iinc2 rfl (Nat.le_of_ble_eq_true rfl) k) ?_
  exact J.mono (fun k => w_forget (wk_k (wk_k (wk_k (wk_k (wk_k wk_0))))) k) (J_dh_ways_j73_27 hd )
set_option maxRecDepth 20000 in
set_option maxHeartbeats 4000000 in
theorem Jb_dh_ways_b27 {Δ : DT} {Γ : FT} {d : Nat} (hd : 6 ≤ d + 1) {x1 : Int} {x3 : Int}  {x2 : Int} {x4 : Int} {M : MEM} : J (dh_ways_b27 x1 x3 x2 x4 M) (Sum.elim (HD_dh_ways_b27 Δ Γ d x1 x3) (X_dh_ways_b27 Δ Γ d x1 x3)) (WAt Δ Γ false m_dh_ways (d + 1) 27 [vR (0), vI (x1), vI (x2), vI (x3), vI (x4)] [] (NG, S0, M) 0 0) := by
  unfold dh_ways_b27
  refine J.mono (fun k => w_iload rfl rfl (w_aload_n rfl rfl (w_getR (r := 3) rfl (Nat.le_of_ble_eq_true rfl) S_0 rfl (w_getR (r := 4) rfl (sc_S is_sc_3).1 (sc_S is_sc_3).2 rfl (w_iload_n rfl rfl k))))) ?_
  refine J_chk (fun hi8 => ?_)
  refine J.mono (fun k => w_aald rfl (scb_S is_sc_3).1 (Or.inl rfl) (scb_S is_sc_3).2 hi8.1 (scb_get hi8.1 hi8.2) (w_getI rfl (be_S (scb_is is_sc_3 hi8.1 hi8.2)).1 (be_S (scb_is is_sc_3 hi8.1 hi8.2)).2 rfl k)) ?_
  refine J_ite (fun hc9 => ?_) (fun hc9 => ?_)
  · refine J.mono (fun k => s_icmp_ge_t rfl hc9 k) ?_
    exact J_some (fun k => w_forget (wk_k (wk_k (wk_k (wk_k (wk_d wk_0))))) k)
  · refine J.mono (fun k => s_icmp_ge_f rfl hc9 (w_aload_n rfl rfl (w_iload_n rfl rfl (w_iload_n rfl rfl (w_iload rfl rfl k))))) ?_
    refine J_c (fun p11 e10 => ?_)
    refine J_hyp (fun k => c_vi3 rfl (fun ho hM => cal_dh_isWayHeard (by omega)  e10 ho hM) v_dh_isWayHeard (Nat.le_of_ble_eq_true rfl) S_0 rfl (Nat.le_of_ble_eq_true rfl) k) (fun hr12 hb13 => ?_)
    refine J_ite (fun hc14 => ?_) (fun hc14 => ?_)
    · refine J.mono (fun k => s_if_eq_t rfl hc14 k) ?_
      exact J.mono (fun k => w_forget (wk_k (wk_k (wk_k (wk_k (wk_k wk_0))))) k) (J_dh_ways_j73_27 hd )
    · refine J.mono (fun k => s_if_eq_f rfl hc14 (w_iload_n rfl rfl k)) ?_
      refine J_ite (fun hc15 => ?_) (fun hc15 => ?_)
      · refine J.mono (fun k => s_if_ne_f rfl hc15 (w_aload_n rfl rfl (w_iload_n rfl rfl k))) ?_
        refine J_c (fun M17 e16 => ?_)
        refine J.mono (fun k => c_vv1 rfl (fun ho hM => cal_dh_tell (by omega)  e16 ho hM) v_dh_tell (Nat.le_of_ble_eq_true rfl) S_0 rfl (Nat.le_of_ble_eq_true rfl) (w_aload_n rfl rfl (w_iload rfl rfl k))) ?_
        refine J_c (fun M19 e18 => ?_)
        refine J.mono (fun k => c_vv1 rfl (fun ho hM => cal_dh_tell (by omega)  e18 ho hM) v_dh_tell (Nat.le_of_ble_eq_true rfl) S_0 rfl (Nat.le_of_ble_eq_true rfl) k) ?_
        exact J.mono (fun k => w_forget (wk_k (wk_k (wk_k (wk_k (wk_k wk_0))))) k) (J_dh_ways_j70_27 hd )
      · refine J.mono (fun k => s_if_ne_t rfl hc15 k) ?_
        exact J.mono (fun k => w_forget (wk_k (wk_k (wk_k (wk_k (wk_k wk_0))))) k) (J_dh_ways_j70_27 hd )
set_option maxRecDepth 20000 in
set_option maxHeartbeats 4000000 in
theorem Jl_dh_ways_b27 {Δ : DT} {Γ : FT} {d : Nat} (hd : 6 ≤ d + 1) {x1 : Int} {x3 : Int}   : ∀ (n : Nat) (s : Int × Int × MEM), J (iter (fun s => dh_ways_b27 x1 x3 s.1 s.2.1 s.2.2) n s) (X_dh_ways_b27 Δ Γ d x1 x3) (HD_dh_ways_b27 Δ Γ d x1 x3 s) := J_iter (fun s => Jb_dh_ways_b27 hd )
set_option maxRecDepth 20000 in
set_option maxHeartbeats 4000000 in
theorem Jb_dh_ways_b18 {Δ : DT} {Γ : FT} {d : Nat} (hd : 6 ≤ d + 1) {x1 : Int}  {x2 : Int} {x3 : Int} {M : MEM} : J (dh_ways_b18 x1 x2 x3 M) (Sum.elim (HD_dh_ways_b18 Δ Γ d x1) (X_dh_ways_b18 Δ Γ d x1)) (WAt Δ Γ false m_dh_ways (d + 1) 18 [vR (0), vI (x1), vI (x2), vI (x3), vN] [] (NG, S0, M) 0 0) := by
  unfold dh_ways_b18
  refine J.mono (fun k => w_iload_n rfl rfl (w_bipush rfl (bip_c rfl) k)) ?_
  refine J_ite (fun hc7 => ?_) (fun hc7 => ?_)
  · refine J.mono (fun k => s_icmp_ge_t rfl hc7 k) ?_
    exact J_some (fun k => w_forget (wk_d (wk_d (wk_k (wk_d (wk_d wk_0))))) k)
  · refine J.mono (fun k => s_icmp_ge_f rfl hc7 (w_iconst rfl (inR_c rfl) (s_istore4 rfl (Nat.le_of_ble_eq_true rfl) k))) ?_
    refine J.mono (fun k => w_forget (wk_k (wk_k (wk_k (wk_k (wk_k wk_0))))) k) ?_
    refine J_loop (Jl_dh_ways_b27 hd  _ _) (fun w20 => ?_)
    refine J.mono (fun k => s_iinc3 rfl (Nat.le_of_ble_eq_true rfl) (w_goto rfl k)) ?_
    exact J_some (fun k => w_forget (wk_k (wk_k (wk_k (wk_k (wk_d wk_0))))) k)
set_option maxRecDepth 20000 in
set_option maxHeartbeats 4000000 in
theorem Jl_dh_ways_b18 {Δ : DT} {Γ : FT} {d : Nat} (hd : 6 ≤ d + 1) {x1 : Int}   : ∀ (n : Nat) (s : Int × Int × MEM), J (iter (fun s => dh_ways_b18 x1 s.1 s.2.1 s.2.2) n s) (X_dh_ways_b18 Δ Γ d x1) (HD_dh_ways_b18 Δ Γ d x1 s) := J_iter (fun s => Jb_dh_ways_b18 hd )
set_option maxRecDepth 20000 in
set_option maxHeartbeats 4000000 in
theorem J_dh_ways {Δ : DT} {Γ : FT} {d : Nat} (hd : 6 ≤ d + 1) {x1 : Int}  {M : MEM} : J (dh_ways x1 M) (K_IM Δ Γ m_dh_ways) (WAt Δ Γ false m_dh_ways (d + 1) 0 [vR (0), vI (x1), vN, vN, vN] [] (NG, S0, M) 0 0) := by
  unfold dh_ways
  refine J.mono (fun k => w_aload_n rfl rfl (w_iload_n rfl rfl k)) ?_
  refine J_hyp (fun k => c_vi1 rfl (fun ho hM => cal_dh_isDonkey (by omega)   ho hM) v_dh_isDonkey (Nat.le_of_ble_eq_true rfl) S_0 rfl (Nat.le_of_ble_eq_true rfl) k) (fun hr2 hb3 => ?_)
  refine J_ite (fun hc4 => ?_) (fun hc4 => ?_)
  · refine J.mono (fun k => s_if_ne_f rfl hc4 (w_iconst rfl (inR_c rfl) k)) ?_
    exact J_some (fun k => w_ireturn rfl rfl k)
  · refine J.mono (fun k => s_if_ne_t rfl hc4 (w_aload_n rfl rfl k)) ?_
    refine J_c (fun M6 e5 => ?_)
    refine J.mono (fun k => c_vv0 rfl (fun ho hM => cal_dh_newRow (by omega)  e5 ho hM) v_dh_newRow (Nat.le_of_ble_eq_true rfl) S_0 rfl (Nat.le_of_ble_eq_true rfl) (w_iconst rfl (inR_c rfl) (s_istore2 rfl (Nat.le_of_ble_eq_true rfl) (w_iconst rfl (inR_c rfl) (s_istore3 rfl (Nat.le_of_ble_eq_true rfl) k))))) ?_
    refine J.mono (fun k => w_forget (wk_k (wk_k (wk_k (wk_k (wk_d wk_0))))) k) ?_
    refine J_loop (Jl_dh_ways_b18 hd  _ _) (fun w21 => ?_)
    refine J.mono (fun k => w_iload_n rfl rfl k) ?_
    exact J_some (fun k => w_ireturn rfl rfl k)
set_option maxRecDepth 20000 in
set_option maxHeartbeats 4000000 in
theorem cal_dh_ways {Δ : DT} {d : Nat} (hd : 6 ≤ d) {x1 : Int}  {M : MEM} {p : Int × MEM} (h : dh_ways x1 M = some p) (ho : okVs [vR 0, vI x1]) (hM : okM M) : Cal Δ false m_dh_ways d [vR 0, vI x1] (NG, S0, M) (some p.1) (NG, S0, p.2) 0 0 := by
  obtain ⟨d, rfl⟩ : ∃ e, d = e + 1 := ⟨d - 1, by omega⟩
  exact cal_of g_dh_ways p_dh_ways (fun v hv => by simp only [List.mem_cons, List.not_mem_nil, or_false] at hv; rcases hv with rfl | rfl <;> first | exact Or.inl ⟨_, rfl⟩ | exact Or.inr ⟨_, rfl⟩) ho hM (Nat.le_of_ble_eq_true rfl) (fun Γ _ k => J_dh_ways hd  _ h k)
abbrev HD_dh_swarms_b4 (Δ : DT) (Γ : FT) (d : Nat)  (s : Int × Int × MEM) : Prop := WAt Δ Γ false m_dh_swarms (d + 1) 4 [vR (0), vI (s.1), vI (s.2.1), vN, vN] [] (NG, S0, s.2.2) 0 0
abbrev X_dh_swarms_b4 (Δ : DT) (Γ : FT) (d : Nat)  (s : Int × Int × MEM) : Prop := WAt Δ Γ false m_dh_swarms (d + 1) 91 [vN, vI (s.1), vN, vN, vN] [] (NG, S0, s.2.2) 0 0
abbrev HD_dh_swarms_b23 (Δ : DT) (Γ : FT) (d : Nat) (x1 : Int) (x2 : Int) (s : Int × Int × MEM) : Prop := WAt Δ Γ false m_dh_swarms (d + 1) 23 [vR (0), vI (x1), vI (x2), vI (s.1), vI (s.2.1)] [] (NG, S0, s.2.2) 0 0
abbrev X_dh_swarms_b23 (Δ : DT) (Γ : FT) (d : Nat) (x1 : Int) (x2 : Int) (s : Int × Int × MEM) : Prop := WAt Δ Γ false m_dh_swarms (d + 1) 67 [vR (0), vI (x1), vI (x2), vI (s.1), vN] [] (NG, S0, s.2.2) 0 0
set_option maxRecDepth 20000 in
set_option maxHeartbeats 4000000 in
theorem Jb_dh_swarms_b23 {Δ : DT} {Γ : FT} {d : Nat} (hd : 5 ≤ d + 1) {x1 : Int} {x2 : Int}  {x3 : Int} {x4 : Int} {M : MEM} : J (dh_swarms_b23 x1 x2 x3 x4 M) (Sum.elim (HD_dh_swarms_b23 Δ Γ d x1 x2) (X_dh_swarms_b23 Δ Γ d x1 x2)) (WAt Δ Γ false m_dh_swarms (d + 1) 23 [vR (0), vI (x1), vI (x2), vI (x3), vI (x4)] [] (NG, S0, M) 0 0) := by
  unfold dh_swarms_b23
  refine J.mono (fun k => w_iload rfl rfl (w_aload_n rfl rfl (w_getR (r := 3) rfl (Nat.le_of_ble_eq_true rfl) S_0 rfl (w_getI rfl (sc_S is_sc_3).1 (sc_S is_sc_3).2 rfl k)))) ?_
  refine J_ite (fun hc3 => ?_) (fun hc3 => ?_)
  · refine J.mono (fun k => s_icmp_ge_t rfl hc3 k) ?_
    exact J_some (fun k => w_forget (wk_k (wk_k (wk_k (wk_k (wk_d wk_0))))) k)
  · refine J.mono (fun k => s_icmp_ge_f rfl hc3 (w_iload_n rfl rfl k)) ?_
    refine J_ite (fun hc4 => ?_) (fun hc4 => ?_)
    · refine J.mono (fun k => s_if_eq_t rfl hc4 k) ?_
      exact J_some (fun k => w_forget (wk_k (wk_k (wk_k (wk_k (wk_d wk_0))))) k)
    · refine J.mono (fun k => s_if_eq_f rfl hc4 (w_aload_n rfl rfl (w_aload_n rfl rfl (w_getR (r := 224) rfl (Nat.le_of_ble_eq_true rfl) S_0 rfl (w_iload rfl rfl k))))) ?_
      refine J_c (fun M6 e5 => ?_)
      refine J.mono (fun k => c_vv2 rfl (fun ho hM => cal_dh_look (by omega) is_fu_224 e5 ho hM) v_dh_look (Nat.le_of_ble_eq_true rfl) S_0 rfl (Nat.le_of_ble_eq_true rfl) (w_aload_n rfl rfl (w_getR (r := 41) rfl (Nat.le_of_ble_eq_true rfl) S_0 rfl (w_aload_n rfl rfl (w_getR (r := 224) rfl (Nat.le_of_ble_eq_true rfl) S_0 rfl k))))) ?_
      refine J_c (fun p8 e7 => ?_)
      refine J_hyp (fun k => c_vi1 rfl (fun ho hM => cal_rm_fit (by omega) is_fu_224 e7 ho hM) v_rm_fit (Nat.le_of_ble_eq_true rfl) S_41 rfl (Nat.le_of_ble_eq_true rfl) k) (fun hr9 hb10 => ?_)
      refine J.mono (fun k => s_istore3 rfl (Nat.le_of_ble_eq_true rfl) (s_iinc4 rfl (Nat.le_of_ble_eq_true rfl) (w_goto rfl k))) ?_
      exact J_some (fun k => w_forget (wk_k (wk_k (wk_k (wk_k (wk_k wk_0))))) k)
set_option maxRecDepth 20000 in
set_option maxHeartbeats 4000000 in
theorem Jl_dh_swarms_b23 {Δ : DT} {Γ : FT} {d : Nat} (hd : 5 ≤ d + 1) {x1 : Int} {x2 : Int}   : ∀ (n : Nat) (s : Int × Int × MEM), J (iter (fun s => dh_swarms_b23 x1 x2 s.1 s.2.1 s.2.2) n s) (X_dh_swarms_b23 Δ Γ d x1 x2) (HD_dh_swarms_b23 Δ Γ d x1 x2 s) := J_iter (fun s => Jb_dh_swarms_b23 hd )
set_option maxRecDepth 20000 in
set_option maxHeartbeats 4000000 in
theorem J_dh_swarms_j85_4 {Δ : DT} {Γ : FT} {d : Nat} (hd : 5 ≤ d + 1) {x1 : Int} {x2 : Int}  {M : MEM} : J (dh_swarms_j85_4 x1 x2 M) (Sum.elim (HD_dh_swarms_b4 Δ Γ d ) (X_dh_swarms_b4 Δ Γ d )) (WAt Δ Γ false m_dh_swarms (d + 1) 85 [vR (0), vI (x1), vI (x2), vN, vN] [] (NG, S0, M) 0 0) := by
  unfold dh_swarms_j85_4
  refine J.mono (fun k => s_iinc2 rfl (Nat.le_of_ble_eq_true rfl) (w_goto rfl k)) ?_
  exact J_some (fun k => w_forget (wk_k (wk_k (wk_k (wk_d (wk_d wk_0))))) k)
set_option maxRecDepth 20000 in
set_option maxHeartbeats 4000000 in
theorem J_dh_swarms_j67_4 {Δ : DT} {Γ : FT} {d : Nat} (hd : 5 ≤ d + 1) {x1 : Int} {x2 : Int} {x3 : Int}  {M : MEM} : J (dh_swarms_j67_4 x1 x2 x3 M) (Sum.elim (HD_dh_swarms_b4 Δ Γ d ) (X_dh_swarms_b4 Δ Γ d )) (WAt Δ Γ false m_dh_swarms (d + 1) 67 [vR (0), vI (x1), vI (x2), vI (x3), vN] [] (NG, S0, M) 0 0) := by
  unfold dh_swarms_j67_4
  refine J.mono (fun k => w_aload_n rfl rfl (w_getR (r := 224) rfl (Nat.le_of_ble_eq_true rfl) S_0 rfl (w_iconst rfl (inR_c rfl) k))) ?_
  refine J_b ?_
  refine J.mono (fun k => w_putI rfl (fu_S is_fu_224).1 (fu_S is_fu_224).2 rfl rfl (w_iload_n rfl rfl k)) ?_
  refine J_ite (fun hc13 => ?_) (fun hc13 => ?_)
  · refine J.mono (fun k => s_if_eq_t rfl hc13 k) ?_
    exact J.mono (fun k => w_forget (wk_k (wk_k (wk_k (wk_d (wk_d wk_0))))) k) (J_dh_swarms_j85_4 hd )
  · refine J.mono (fun k => s_if_eq_f rfl hc13 (w_iload_n rfl rfl (w_iconst rfl (inR_c rfl) (w_iload_n rfl rfl (w_ishl rfl (w_ior rfl (s_istore1 rfl (Nat.le_of_ble_eq_true rfl) k))))))) ?_
    exact J.mono (fun k => w_forget (wk_k (wk_k (wk_k (wk_d (wk_d wk_0))))) k) (J_dh_swarms_j85_4 hd )
set_option maxRecDepth 20000 in
set_option maxHeartbeats 4000000 in
theorem Jb_dh_swarms_b4 {Δ : DT} {Γ : FT} {d : Nat} (hd : 5 ≤ d + 1)   {x1 : Int} {x2 : Int} {M : MEM} : J (dh_swarms_b4  x1 x2 M) (Sum.elim (HD_dh_swarms_b4 Δ Γ d ) (X_dh_swarms_b4 Δ Γ d )) (WAt Δ Γ false m_dh_swarms (d + 1) 4 [vR (0), vI (x1), vI (x2), vN, vN] [] (NG, S0, M) 0 0) := by
  unfold dh_swarms_b4
  refine J.mono (fun k => w_iload_n rfl rfl (w_bipush rfl (bip_c rfl) k)) ?_
  refine J_ite (fun hc1 => ?_) (fun hc1 => ?_)
  · refine J.mono (fun k => s_icmp_ge_t rfl hc1 k) ?_
    exact J_some (fun k => w_forget (wk_d (wk_k (wk_d (wk_d (wk_d wk_0))))) k)
  · refine J.mono (fun k => s_icmp_ge_f rfl hc1 (w_aload_n rfl rfl (w_getR (r := 224) rfl (Nat.le_of_ble_eq_true rfl) S_0 rfl (w_iload_n rfl rfl k)))) ?_
    refine J_b ?_
    refine J.mono (fun k => w_putI rfl (fu_S is_fu_224).1 (fu_S is_fu_224).2 rfl rfl (w_iconst rfl (inR_c rfl) (s_istore3 rfl (Nat.le_of_ble_eq_true rfl) (w_iconst rfl (inR_c rfl) (s_istore4 rfl (Nat.le_of_ble_eq_true rfl) k))))) ?_
    refine J.mono (fun k => w_forget (wk_k (wk_k (wk_k (wk_k (wk_k wk_0))))) k) ?_
    refine J_loop (Jl_dh_swarms_b23 hd  _ _) (fun w11 => ?_)
    exact J.mono (fun k => w_forget (wk_k (wk_k (wk_k (wk_k (wk_d wk_0))))) k) (J_dh_swarms_j67_4 hd )
set_option maxRecDepth 20000 in
set_option maxHeartbeats 4000000 in
theorem Jl_dh_swarms_b4 {Δ : DT} {Γ : FT} {d : Nat} (hd : 5 ≤ d + 1)    : ∀ (n : Nat) (s : Int × Int × MEM), J (iter (fun s => dh_swarms_b4  s.1 s.2.1 s.2.2) n s) (X_dh_swarms_b4 Δ Γ d ) (HD_dh_swarms_b4 Δ Γ d  s) := J_iter (fun s => Jb_dh_swarms_b4 hd )
set_option maxRecDepth 20000 in
set_option maxHeartbeats 4000000 in
theorem J_dh_swarms {Δ : DT} {Γ : FT} {d : Nat} (hd : 5 ≤ d + 1)   {M : MEM} : J (dh_swarms M) (K_IM Δ Γ m_dh_swarms) (WAt Δ Γ false m_dh_swarms (d + 1) 0 [vR (0), vN, vN, vN, vN] [] (NG, S0, M) 0 0) := by
  unfold dh_swarms
  refine J.mono (fun k => w_iconst rfl (inR_c rfl) (s_istore1 rfl (Nat.le_of_ble_eq_true rfl) (w_iconst rfl (inR_c rfl) (s_istore2 rfl (Nat.le_of_ble_eq_true rfl) k)))) ?_
  refine J.mono (fun k => w_forget (wk_k (wk_k (wk_k (wk_d (wk_d wk_0))))) k) ?_
  refine J_loop (Jl_dh_swarms_b4 hd  _ _) (fun w14 => ?_)
  refine J.mono (fun k => w_iload_n rfl rfl k) ?_
  exact J_some (fun k => w_ireturn rfl rfl k)
set_option maxRecDepth 20000 in
set_option maxHeartbeats 4000000 in
theorem cal_dh_swarms {Δ : DT} {d : Nat} (hd : 5 ≤ d)   {M : MEM} {p : Int × MEM} (h : dh_swarms M = some p) (ho : okVs [vR 0]) (hM : okM M) : Cal Δ false m_dh_swarms d [vR 0] (NG, S0, M) (some p.1) (NG, S0, p.2) 0 0 := by
  obtain ⟨d, rfl⟩ : ∃ e, d = e + 1 := ⟨d - 1, by omega⟩
  exact cal_of g_dh_swarms p_dh_swarms (fun v hv => by simp only [List.mem_cons, List.not_mem_nil, or_false] at hv; rcases hv with rfl <;> first | exact Or.inl ⟨_, rfl⟩ | exact Or.inr ⟨_, rfl⟩) ho hM (Nat.le_of_ble_eq_true rfl) (fun Γ _ k => J_dh_swarms hd  _ h k)
abbrev HD_dh_span_b28 (Δ : DT) (Γ : FT) (d : Nat) (x1 : Int) (x2 : Int) (s : Int × Int × Int × Int × MEM) : Prop := WAt Δ Γ false m_dh_span (d + 1) 28 [vR (0), vI (x1), vI (x2), vI (s.1), vI (s.2.1), vI (s.2.2.1), vI (s.2.2.2.1), vN, vN] [] (NG, S0, s.2.2.2.2) 0 0
abbrev X_dh_span_b28 (Δ : DT) (Γ : FT) (d : Nat) (x1 : Int) (x2 : Int) (s : Int × Int × Int × Int × MEM) : Prop := WAt Δ Γ false m_dh_span (d + 1) 127 [vR (0), vN, vN, vI (s.1), vI (s.2.1), vI (s.2.2.1), vN, vN, vN] [] (NG, S0, s.2.2.2.2) 0 0
abbrev HD_dh_span_b38 (Δ : DT) (Γ : FT) (d : Nat) (x1 : Int) (x2 : Int) (x6 : Int) (s : Int × Int × Int × Int × MEM) : Prop := WAt Δ Γ false m_dh_span (d + 1) 38 [vR (0), vI (x1), vI (x2), vI (s.1), vI (s.2.1), vI (s.2.2.1), vI (x6), vI (s.2.2.2.1), vN] [] (NG, S0, s.2.2.2.2) 0 0
abbrev X_dh_span_b38 (Δ : DT) (Γ : FT) (d : Nat) (x1 : Int) (x2 : Int) (x6 : Int) (s : Int × Int × Int × Int × MEM) : Prop := WAt Δ Γ false m_dh_span (d + 1) 121 [vR (0), vI (x1), vI (x2), vI (s.1), vI (s.2.1), vI (s.2.2.1), vI (x6), vN, vN] [] (NG, S0, s.2.2.2.2) 0 0
set_option maxRecDepth 20000 in
set_option maxHeartbeats 4000000 in
theorem J_dh_span_j115_38 {Δ : DT} {Γ : FT} {d : Nat} (hd : 6 ≤ d + 1) {x1 : Int} {x2 : Int} {x3 : Int} {x4 : Int} {x5 : Int} {x6 : Int} {x7 : Int}  {M : MEM} : J (dh_span_j115_38 x1 x2 x3 x4 x5 x6 x7 M) (Sum.elim (HD_dh_span_b38 Δ Γ d x1 x2 x6) (X_dh_span_b38 Δ Γ d x1 x2 x6)) (WAt Δ Γ false m_dh_span (d + 1) 115 [vR (0), vI (x1), vI (x2), vI (x3), vI (x4), vI (x5), vI (x6), vI (x7), vN] [] (NG, S0, M) 0 0) := by
  unfold dh_span_j115_38
  refine J.mono (fun k => s_iinc7 rfl (Nat.le_of_ble_eq_true rfl) (w_goto rfl k)) ?_
  exact J_some (fun k => w_forget (wk_k (wk_k (wk_k (wk_k (wk_k (wk_k (wk_k (wk_k (wk_d wk_0))))))))) k)
set_option maxRecDepth 20000 in
set_option maxHeartbeats 4000000 in
theorem J_dh_span_j102_38 {Δ : DT} {Γ : FT} {d : Nat} (hd : 6 ≤ d + 1) {x1 : Int} {x2 : Int} {x4 : Int} {x5 : Int} {x6 : Int} {x7 : Int} {x8 : Int} {s0 : Int}  {M : MEM} : J (dh_span_j102_38 x1 x2 x4 x5 x6 x7 x8 s0 M) (Sum.elim (HD_dh_span_b38 Δ Γ d x1 x2 x6) (X_dh_span_b38 Δ Γ d x1 x2 x6)) (WAt Δ Γ false m_dh_span (d + 1) 102 [vR (0), vI (x1), vI (x2), vN, vI (x4), vI (x5), vI (x6), vI (x7), vI (x8)] [vI (s0)] (NG, S0, M) 0 0) := by
  unfold dh_span_j102_38
  refine J.mono (fun k => s_istore3 rfl (Nat.le_of_ble_eq_true rfl) (w_iload rfl rfl (w_iload rfl rfl k))) ?_
  refine J.mono (fun k => w_mmax rfl (Nat.le_of_ble_eq_true rfl) k) ?_
  refine J.mono (fun k => s_istore4 rfl (Nat.le_of_ble_eq_true rfl) (s_iinc5 rfl (Nat.le_of_ble_eq_true rfl) k)) ?_
  exact J.mono (fun k => w_forget (wk_k (wk_k (wk_k (wk_k (wk_k (wk_k (wk_k (wk_k (wk_d wk_0))))))))) k) (J_dh_span_j115_38 hd )
set_option maxRecDepth 20000 in
set_option maxHeartbeats 4000000 in
theorem J_dh_span_j79_38 {Δ : DT} {Γ : FT} {d : Nat} (hd : 6 ≤ d + 1) {x1 : Int} {x2 : Int} {x3 : Int} {x4 : Int} {x5 : Int} {x6 : Int} {x7 : Int} {s0 : Int}  {M : MEM} : J (dh_span_j79_38 x1 x2 x3 x4 x5 x6 x7 s0 M) (Sum.elim (HD_dh_span_b38 Δ Γ d x1 x2 x6) (X_dh_span_b38 Δ Γ d x1 x2 x6)) (WAt Δ Γ false m_dh_span (d + 1) 79 [vR (0), vI (x1), vI (x2), vI (x3), vI (x4), vI (x5), vI (x6), vI (x7), vN] [vI (s0)] (NG, S0, M) 0 0) := by
  unfold dh_span_j79_38
  refine J.mono (fun k => s_istore8 rfl (Nat.le_of_ble_eq_true rfl) (w_iload rfl rfl k)) ?_
  refine J_ite (fun hc17 => ?_) (fun hc17 => ?_)
  · refine J.mono (fun k => s_if_lt_t rfl hc17 k) ?_
    exact J.mono (fun k => w_forget (wk_k (wk_k (wk_k (wk_k (wk_k (wk_k (wk_k (wk_k (wk_d wk_0))))))))) k) (J_dh_span_j115_38 hd )
  · refine J.mono (fun k => s_if_lt_f rfl hc17 (w_iload rfl rfl k)) ?_
    refine J_ite (fun hc18 => ?_) (fun hc18 => ?_)
    · refine J.mono (fun k => s_if_ne_f rfl hc18 (w_iload rfl rfl (w_goto rfl k))) ?_
      exact J.mono (fun k => w_forget (wk_k (wk_k (wk_k (wk_d (wk_k (wk_k (wk_k (wk_k (wk_k wk_0))))))))) k) (J_dh_span_j102_38 hd )
    · refine J.mono (fun k => s_if_ne_t rfl hc18 (w_iload_n rfl rfl (w_iload rfl rfl k))) ?_
      refine J.mono (fun k => w_mmin rfl (Nat.le_of_ble_eq_true rfl) k) ?_
      exact J.mono (fun k => w_forget (wk_k (wk_k (wk_k (wk_d (wk_k (wk_k (wk_k (wk_k (wk_k wk_0))))))))) k) (J_dh_span_j102_38 hd )
set_option maxRecDepth 20000 in
set_option maxHeartbeats 4000000 in
theorem Jb_dh_span_b38 {Δ : DT} {Γ : FT} {d : Nat} (hd : 6 ≤ d + 1) {x1 : Int} {x2 : Int} {x6 : Int}  {x3 : Int} {x4 : Int} {x5 : Int} {x7 : Int} {M : MEM} : J (dh_span_b38 x1 x2 x6 x3 x4 x5 x7 M) (Sum.elim (HD_dh_span_b38 Δ Γ d x1 x2 x6) (X_dh_span_b38 Δ Γ d x1 x2 x6)) (WAt Δ Γ false m_dh_span (d + 1) 38 [vR (0), vI (x1), vI (x2), vI (x3), vI (x4), vI (x5), vI (x6), vI (x7), vN] [] (NG, S0, M) 0 0) := by
  unfold dh_span_b38
  refine J.mono (fun k => w_iload rfl rfl (w_aload_n rfl rfl (w_getR (r := 3) rfl (Nat.le_of_ble_eq_true rfl) S_0 rfl (w_getR (r := 4) rfl (sc_S is_sc_3).1 (sc_S is_sc_3).2 rfl (w_iload_n rfl rfl k))))) ?_
  refine J_chk (fun hi10 => ?_)
  refine J.mono (fun k => w_aald rfl (scb_S is_sc_3).1 (Or.inl rfl) (scb_S is_sc_3).2 hi10.1 (scb_get hi10.1 hi10.2) (w_getI rfl (be_S (scb_is is_sc_3 hi10.1 hi10.2)).1 (be_S (scb_is is_sc_3 hi10.1 hi10.2)).2 rfl k)) ?_
  refine J_ite (fun hc11 => ?_) (fun hc11 => ?_)
  · refine J.mono (fun k => s_icmp_ge_t rfl hc11 k) ?_
    exact J_some (fun k => w_forget (wk_k (wk_k (wk_k (wk_k (wk_k (wk_k (wk_k (wk_d (wk_d wk_0))))))))) k)
  · refine J.mono (fun k => s_icmp_ge_f rfl hc11 (w_aload_n rfl rfl (w_iload_n rfl rfl (w_iload rfl rfl (w_iload rfl rfl k))))) ?_
    refine J_c (fun p13 e12 => ?_)
    refine J_hyp (fun k => c_vi3 rfl (fun ho hM => cal_dh_isWayHeard (by omega)  e12 ho hM) v_dh_isWayHeard (Nat.le_of_ble_eq_true rfl) S_0 rfl (Nat.le_of_ble_eq_true rfl) k) (fun hr14 hb15 => ?_)
    refine J_ite (fun hc16 => ?_) (fun hc16 => ?_)
    · refine J.mono (fun k => s_if_eq_t rfl hc16 (w_iconst rfl (inR_c rfl) k)) ?_
      exact J.mono (fun k => w_forget (wk_k (wk_k (wk_k (wk_k (wk_k (wk_k (wk_k (wk_k (wk_d wk_0))))))))) k) (J_dh_span_j79_38 hd )
    · refine J.mono (fun k => s_if_eq_f rfl hc16 (w_aload_n rfl rfl (w_getR (r := 224) rfl (Nat.le_of_ble_eq_true rfl) S_0 rfl (w_iload_n rfl rfl k)))) ?_
      refine J_c (fun p20 e19 => ?_)
      refine J_hyp (fun k => c_vi1 rfl (fun ho hM => cal_fu_afterStroke (by omega) is_fu_224 e19 ho hM) v_fu_afterStroke (fu_S is_fu_224).1 (fu_S is_fu_224).2 rfl (Nat.le_of_ble_eq_true rfl) k) (fun hr21 hb22 => ?_)
      refine J.mono (fun k => w_goto rfl k) ?_
      exact J.mono (fun k => w_forget (wk_k (wk_k (wk_k (wk_k (wk_k (wk_k (wk_k (wk_k (wk_d wk_0))))))))) k) (J_dh_span_j79_38 hd )
set_option maxRecDepth 20000 in
set_option maxHeartbeats 4000000 in
theorem Jl_dh_span_b38 {Δ : DT} {Γ : FT} {d : Nat} (hd : 6 ≤ d + 1) {x1 : Int} {x2 : Int} {x6 : Int}   : ∀ (n : Nat) (s : Int × Int × Int × Int × MEM), J (iter (fun s => dh_span_b38 x1 x2 x6 s.1 s.2.1 s.2.2.1 s.2.2.2.1 s.2.2.2.2) n s) (X_dh_span_b38 Δ Γ d x1 x2 x6) (HD_dh_span_b38 Δ Γ d x1 x2 x6 s) := J_iter (fun s => Jb_dh_span_b38 hd )
set_option maxRecDepth 20000 in
set_option maxHeartbeats 4000000 in
theorem Jb_dh_span_b28 {Δ : DT} {Γ : FT} {d : Nat} (hd : 6 ≤ d + 1) {x1 : Int} {x2 : Int}  {x3 : Int} {x4 : Int} {x5 : Int} {x6 : Int} {M : MEM} : J (dh_span_b28 x1 x2 x3 x4 x5 x6 M) (Sum.elim (HD_dh_span_b28 Δ Γ d x1 x2) (X_dh_span_b28 Δ Γ d x1 x2)) (WAt Δ Γ false m_dh_span (d + 1) 28 [vR (0), vI (x1), vI (x2), vI (x3), vI (x4), vI (x5), vI (x6), vN, vN] [] (NG, S0, M) 0 0) := by
  unfold dh_span_b28
  refine J.mono (fun k => w_iload rfl rfl (w_bipush rfl (bip_c rfl) k)) ?_
  refine J_ite (fun hc9 => ?_) (fun hc9 => ?_)
  · refine J.mono (fun k => s_icmp_ge_t rfl hc9 k) ?_
    exact J_some (fun k => w_forget (wk_k (wk_d (wk_d (wk_k (wk_k (wk_k (wk_d (wk_d (wk_d wk_0))))))))) k)
  · refine J.mono (fun k => s_icmp_ge_f rfl hc9 (w_iconst rfl (inR_c rfl) (s_istore7 rfl (Nat.le_of_ble_eq_true rfl) k))) ?_
    refine J.mono (fun k => w_forget (wk_k (wk_k (wk_k (wk_k (wk_k (wk_k (wk_k (wk_k (wk_d wk_0))))))))) k) ?_
    refine J_loop (Jl_dh_span_b38 hd  _ _) (fun w23 => ?_)
    refine J.mono (fun k => s_iinc6 rfl (Nat.le_of_ble_eq_true rfl) (w_goto rfl k)) ?_
    exact J_some (fun k => w_forget (wk_k (wk_k (wk_k (wk_k (wk_k (wk_k (wk_k (wk_d (wk_d wk_0))))))))) k)
set_option maxRecDepth 20000 in
set_option maxHeartbeats 4000000 in
theorem Jl_dh_span_b28 {Δ : DT} {Γ : FT} {d : Nat} (hd : 6 ≤ d + 1) {x1 : Int} {x2 : Int}   : ∀ (n : Nat) (s : Int × Int × Int × Int × MEM), J (iter (fun s => dh_span_b28 x1 x2 s.1 s.2.1 s.2.2.1 s.2.2.2.1 s.2.2.2.2) n s) (X_dh_span_b28 Δ Γ d x1 x2) (HD_dh_span_b28 Δ Γ d x1 x2 s) := J_iter (fun s => Jb_dh_span_b28 hd )
set_option maxRecDepth 20000 in
set_option maxHeartbeats 4000000 in
theorem J_dh_span {Δ : DT} {Γ : FT} {d : Nat} (hd : 6 ≤ d + 1) {x1 : Int} {x2 : Int}  {M : MEM} : J (dh_span x1 x2 M) (K_IM Δ Γ m_dh_span) (WAt Δ Γ false m_dh_span (d + 1) 0 [vR (0), vI (x1), vI (x2), vN, vN, vN, vN, vN, vN] [] (NG, S0, M) 0 0) := by
  unfold dh_span
  refine J.mono (fun k => w_aload_n rfl rfl (w_iload_n rfl rfl k)) ?_
  refine J_hyp (fun k => c_vi1 rfl (fun ho hM => cal_dh_isDonkey (by omega)   ho hM) v_dh_isDonkey (Nat.le_of_ble_eq_true rfl) S_0 rfl (Nat.le_of_ble_eq_true rfl) k) (fun hr2 hb3 => ?_)
  refine J_ite (fun hc4 => ?_) (fun hc4 => ?_)
  · refine J.mono (fun k => s_if_eq_t rfl hc4 (w_iconst rfl (inR_c rfl) k)) ?_
    exact J_some (fun k => w_ireturn rfl rfl k)
  · refine J.mono (fun k => s_if_eq_f rfl hc4 (w_iload_n rfl rfl k)) ?_
    refine J_hyp (fun k => c_si1 rfl rfl (fun ho hM => cal_dh_isAskedStroke (by omega)   ho hM) v_dh_isAskedStroke (Nat.le_of_ble_eq_true rfl) k) (fun hr6 hb7 => ?_)
    refine J_ite (fun hc8 => ?_) (fun hc8 => ?_)
    · refine J.mono (fun k => s_if_ne_f rfl hc8 (w_iconst rfl (inR_c rfl) k)) ?_
      exact J_some (fun k => w_ireturn rfl rfl k)
    · refine J.mono (fun k => s_if_ne_t rfl hc8 (w_iconst rfl (inR_c rfl) (s_istore3 rfl (Nat.le_of_ble_eq_true rfl) (w_iconst rfl (inR_c rfl) (s_istore4 rfl (Nat.le_of_ble_eq_true rfl) (w_iconst rfl (inR_c rfl) (s_istore5 rfl (Nat.le_of_ble_eq_true rfl) (w_iconst rfl (inR_c rfl) (s_istore6 rfl (Nat.le_of_ble_eq_true rfl) k))))))))) ?_
      refine J.mono (fun k => w_forget (wk_k (wk_k (wk_k (wk_k (wk_k (wk_k (wk_k (wk_d (wk_d wk_0))))))))) k) ?_
      refine J_loop (Jl_dh_span_b28 hd  _ _) (fun w24 => ?_)
      refine J.mono (fun k => w_iload rfl rfl k) ?_
      refine J_ite (fun hc25 => ?_) (fun hc25 => ?_)
      · refine J.mono (fun k => s_if_ne_f rfl hc25 (w_bipush rfl (bip_c rfl) k)) ?_
        exact J_some (fun k => w_ireturn rfl rfl k)
      · refine J.mono (fun k => s_if_ne_t rfl hc25 (w_aload_n rfl rfl k)) ?_
        refine J_c (fun M27 e26 => ?_)
        refine J.mono (fun k => c_vv0 rfl (fun ho hM => cal_dh_newRow (by omega)  e26 ho hM) v_dh_newRow (Nat.le_of_ble_eq_true rfl) S_0 rfl (Nat.le_of_ble_eq_true rfl) (w_aload_n rfl rfl (w_iload rfl rfl k))) ?_
        refine J_c (fun M29 e28 => ?_)
        refine J.mono (fun k => c_vv1 rfl (fun ho hM => cal_dh_tell (by omega)  e28 ho hM) v_dh_tell (Nat.le_of_ble_eq_true rfl) S_0 rfl (Nat.le_of_ble_eq_true rfl) (w_aload_n rfl rfl (w_iload rfl rfl k))) ?_
        refine J_c (fun M31 e30 => ?_)
        refine J.mono (fun k => c_vv1 rfl (fun ho hM => cal_dh_tell (by omega)  e30 ho hM) v_dh_tell (Nat.le_of_ble_eq_true rfl) S_0 rfl (Nat.le_of_ble_eq_true rfl) (w_iload_n rfl rfl k)) ?_
        exact J_some (fun k => w_ireturn rfl rfl k)
set_option maxRecDepth 20000 in
set_option maxHeartbeats 4000000 in
theorem cal_dh_span {Δ : DT} {d : Nat} (hd : 6 ≤ d) {x1 : Int} {x2 : Int}  {M : MEM} {p : Int × MEM} (h : dh_span x1 x2 M = some p) (ho : okVs [vR 0, vI x1, vI x2]) (hM : okM M) : Cal Δ false m_dh_span d [vR 0, vI x1, vI x2] (NG, S0, M) (some p.1) (NG, S0, p.2) 0 0 := by
  obtain ⟨d, rfl⟩ : ∃ e, d = e + 1 := ⟨d - 1, by omega⟩
  exact cal_of g_dh_span p_dh_span (fun v hv => by simp only [List.mem_cons, List.not_mem_nil, or_false] at hv; rcases hv with rfl | rfl | rfl <;> first | exact Or.inl ⟨_, rfl⟩ | exact Or.inr ⟨_, rfl⟩) ho hM (Nat.le_of_ble_eq_true rfl) (fun Γ _ k => J_dh_span hd  _ h k)
set_option maxRecDepth 20000 in
set_option maxHeartbeats 4000000 in
theorem J_dh_areTwo {Δ : DT} {Γ : FT} {d : Nat} (hd : 1 ≤ d + 1) {x1 : Int} {x2 : Int}  {M : MEM} : J (some (dh_areTwo x1 x2 M)) (K_I Δ Γ m_dh_areTwo M) (WAt Δ Γ false m_dh_areTwo (d + 1) 0 [vR (0), vI (x1), vI (x2)] [] (NG, S0, M) 0 0) := by
  unfold dh_areTwo
  refine J.mono (fun k => w_aload_n rfl rfl (w_iload_n rfl rfl k)) ?_
  refine J_hyp (fun k => c_vi1 rfl (fun ho hM => cal_dh_isDonkey (by omega)   ho hM) v_dh_isDonkey (Nat.le_of_ble_eq_true rfl) S_0 rfl (Nat.le_of_ble_eq_true rfl) k) (fun hr2 hb3 => ?_)
  refine J_iteT (fun hc4 => ?_) (fun hc4 => ?_)
  · refine J.mono (fun k => s_if_eq_t rfl hc4 (w_iconst rfl (inR_c rfl) k)) ?_
    exact J_some (fun k => w_zreturn rfl rfl (Or.inl rfl) k)
  · refine J.mono (fun k => s_if_eq_f rfl hc4 (w_aload_n rfl rfl (w_iload_n rfl rfl k))) ?_
    refine J_hyp (fun k => c_vi1 rfl (fun ho hM => cal_dh_isDonkey (by omega)   ho hM) v_dh_isDonkey (Nat.le_of_ble_eq_true rfl) S_0 rfl (Nat.le_of_ble_eq_true rfl) k) (fun hr6 hb7 => ?_)
    refine J_iteT (fun hc8 => ?_) (fun hc8 => ?_)
    · refine J.mono (fun k => s_if_eq_t rfl hc8 (w_iconst rfl (inR_c rfl) k)) ?_
      exact J_some (fun k => w_zreturn rfl rfl (Or.inl rfl) k)
    · refine J.mono (fun k => s_if_eq_f rfl hc8 (w_iload_n rfl rfl (w_iload_n rfl rfl k))) ?_
      refine J_iteT (fun hc9 => ?_) (fun hc9 => ?_)
      · refine J.mono (fun k => s_icmp_eq_t rfl hc9 (w_iconst rfl (inR_c rfl) k)) ?_
        exact J_some (fun k => w_zreturn rfl rfl (Or.inl rfl) k)
      · refine J.mono (fun k => s_icmp_eq_f rfl hc9 (w_iconst rfl (inR_c rfl) (w_goto rfl k))) ?_
        exact J_some (fun k => w_zreturn rfl rfl (Or.inr rfl) k)
set_option maxRecDepth 20000 in
set_option maxHeartbeats 4000000 in
theorem cal_dh_areTwo {Δ : DT} {d : Nat} (hd : 1 ≤ d) {x1 : Int} {x2 : Int}  {M : MEM} (ho : okVs [vR 0, vI x1, vI x2]) (hM : okM M) : Cal Δ false m_dh_areTwo d [vR 0, vI x1, vI x2] (NG, S0, M) (some (dh_areTwo x1 x2 M)) (NG, S0, M) 0 0 := by
  obtain ⟨d, rfl⟩ : ∃ e, d = e + 1 := ⟨d - 1, by omega⟩
  exact cal_of g_dh_areTwo p_dh_areTwo (fun v hv => by simp only [List.mem_cons, List.not_mem_nil, or_false] at hv; rcases hv with rfl | rfl | rfl <;> first | exact Or.inl ⟨_, rfl⟩ | exact Or.inr ⟨_, rfl⟩) ho hM (Nat.le_of_ble_eq_true rfl) (fun Γ _ k => J_dh_areTwo hd  _ rfl k)
set_option maxRecDepth 20000 in
set_option maxHeartbeats 4000000 in
theorem J_dh_lookBoth {Δ : DT} {Γ : FT} {d : Nat} (hd : 4 ≤ d + 1) {x1 : Int} {x2 : Int}  {M : MEM} : J (dh_lookBoth x1 x2 M) (K_M Δ Γ m_dh_lookBoth) (WAt Δ Γ false m_dh_lookBoth (d + 1) 0 [vR (0), vI (x1), vI (x2)] [] (NG, S0, M) 0 0) := by
  unfold dh_lookBoth
  refine J.mono (fun k => w_aload_n rfl rfl (w_aload_n rfl rfl (w_getR (r := 224) rfl (Nat.le_of_ble_eq_true rfl) S_0 rfl (w_iload_n rfl rfl k)))) ?_
  refine J_c (fun M2 e1 => ?_)
  refine J.mono (fun k => c_vv2 rfl (fun ho hM => cal_dh_look (by omega) is_fu_224 e1 ho hM) v_dh_look (Nat.le_of_ble_eq_true rfl) S_0 rfl (Nat.le_of_ble_eq_true rfl) (w_aload_n rfl rfl (w_aload_n rfl rfl (w_getR (r := 234) rfl (Nat.le_of_ble_eq_true rfl) S_0 rfl (w_iload_n rfl rfl k))))) ?_
  refine J_c (fun M4 e3 => ?_)
  refine J.mono (fun k => c_vv2 rfl (fun ho hM => cal_dh_look (by omega) is_fu_234 e3 ho hM) v_dh_look (Nat.le_of_ble_eq_true rfl) S_0 rfl (Nat.le_of_ble_eq_true rfl) k) ?_
  exact J_some (fun k => w_return rfl rfl k)
set_option maxRecDepth 20000 in
set_option maxHeartbeats 4000000 in
theorem cal_dh_lookBoth {Δ : DT} {d : Nat} (hd : 4 ≤ d) {x1 : Int} {x2 : Int}  {M : MEM} {M1 : MEM} (h : dh_lookBoth x1 x2 M = some M1) (ho : okVs [vR 0, vI x1, vI x2]) (hM : okM M) : Cal Δ false m_dh_lookBoth d [vR 0, vI x1, vI x2] (NG, S0, M) none (NG, S0, M1) 0 0 := by
  obtain ⟨d, rfl⟩ : ∃ e, d = e + 1 := ⟨d - 1, by omega⟩
  exact cal_of g_dh_lookBoth p_dh_lookBoth (fun v hv => by simp only [List.mem_cons, List.not_mem_nil, or_false] at hv; rcases hv with rfl | rfl | rfl <;> first | exact Or.inl ⟨_, rfl⟩ | exact Or.inr ⟨_, rfl⟩) ho hM (Nat.le_of_ble_eq_true rfl) (fun Γ _ k => J_dh_lookBoth hd  _ h k)
abbrev HD_dh_together_b19 (Δ : DT) (Γ : FT) (d : Nat)  (s : Int × MEM) : Prop := WAt Δ Γ false m_dh_together (d + 1) 19 [vR (0), vN, vN, vI (s.1), vN] [] (NG, S0, s.2) 0 0
abbrev X_dh_together_b19 (Δ : DT) (Γ : FT) (d : Nat)  : (Int × MEM) ⊕ (Int × MEM) → Prop := Sum.elim (K_IM Δ Γ m_dh_together) (fun s => WAt Δ Γ false m_dh_together (d + 1) 60 [vN, vN, vN, vN, vN] [] (NG, S0, s.2) 0 0)
set_option maxRecDepth 20000 in
set_option maxHeartbeats 4000000 in
theorem Jb_dh_together_b19 {Δ : DT} {Γ : FT} {d : Nat} (hd : 5 ≤ d + 1)   {x3 : Int} {M : MEM} : J (dh_together_b19  x3 M) (Sum.elim (HD_dh_together_b19 Δ Γ d ) (X_dh_together_b19 Δ Γ d )) (WAt Δ Γ false m_dh_together (d + 1) 19 [vR (0), vN, vN, vI (x3), vN] [] (NG, S0, M) 0 0) := by
  unfold dh_together_b19
  refine J.mono (fun k => w_iload_n rfl rfl (w_sipush rfl (sip_c rfl) k)) ?_
  refine J_ite (fun hc7 => ?_) (fun hc7 => ?_)
  · refine J.mono (fun k => s_icmp_ge_t rfl hc7 k) ?_
    exact J_some (fun k => w_forget (wk_d (wk_d (wk_d (wk_d (wk_d wk_0))))) k)
  · refine J.mono (fun k => s_icmp_ge_f rfl hc7 (w_aload_n rfl rfl (w_getR (r := 224) rfl (Nat.le_of_ble_eq_true rfl) S_0 rfl k))) ?_
    refine J_c (fun p9 e8 => ?_)
    refine J_hyp (fun k => c_vi0 rfl (fun ho hM => cal_fu_step (by omega) is_fu_224 e8 ho hM) v_fu_step (fu_S is_fu_224).1 (fu_S is_fu_224).2 rfl (Nat.le_of_ble_eq_true rfl) k) (fun hr10 hb11 => ?_)
    refine J.mono (fun k => s_istore4 rfl (Nat.le_of_ble_eq_true rfl) (w_iload rfl rfl (w_aload_n rfl rfl (w_getR (r := 234) rfl (Nat.le_of_ble_eq_true rfl) S_0 rfl k)))) ?_
    refine J_c (fun p13 e12 => ?_)
    refine J_hyp (fun k => c_vi0 rfl (fun ho hM => cal_fu_step (by omega) is_fu_234 e12 ho hM) v_fu_step (fu_S is_fu_234).1 (fu_S is_fu_234).2 rfl (Nat.le_of_ble_eq_true rfl) k) (fun hr14 hb15 => ?_)
    refine J.mono (fun k => w_iand rfl (w_iconst rfl (inR_c rfl) (w_iand rfl k))) ?_
    refine J_ite (fun hc16 => ?_) (fun hc16 => ?_)
    · refine J.mono (fun k => s_if_eq_t rfl hc16 (s_iinc3 rfl (Nat.le_of_ble_eq_true rfl) (w_goto rfl k))) ?_
      exact J_some (fun k => w_forget (wk_k (wk_d (wk_d (wk_k (wk_d wk_0))))) k)
    · refine J.mono (fun k => s_if_eq_f rfl hc16 (w_iload_n rfl rfl (w_iconst rfl (inR_c rfl) (w_iadd rfl k)))) ?_
      exact J_some (fun k => w_ireturn rfl rfl k)
set_option maxRecDepth 20000 in
set_option maxHeartbeats 4000000 in
theorem Jl_dh_together_b19 {Δ : DT} {Γ : FT} {d : Nat} (hd : 5 ≤ d + 1)    : ∀ (n : Nat) (s : Int × MEM), J (iter (fun s => dh_together_b19  s.1 s.2) n s) (X_dh_together_b19 Δ Γ d ) (HD_dh_together_b19 Δ Γ d  s) := J_iter (fun s => Jb_dh_together_b19 hd )
set_option maxRecDepth 20000 in
set_option maxHeartbeats 4000000 in
theorem J_dh_together {Δ : DT} {Γ : FT} {d : Nat} (hd : 5 ≤ d + 1) {x1 : Int} {x2 : Int}  {M : MEM} : J (dh_together x1 x2 M) (K_IM Δ Γ m_dh_together) (WAt Δ Γ false m_dh_together (d + 1) 0 [vR (0), vI (x1), vI (x2), vN, vN] [] (NG, S0, M) 0 0) := by
  unfold dh_together
  refine J.mono (fun k => w_aload_n rfl rfl (w_iload_n rfl rfl (w_iload_n rfl rfl k))) ?_
  refine J_hyp (fun k => c_vi2 rfl (fun ho hM => cal_dh_areTwo (by omega)   ho hM) v_dh_areTwo (Nat.le_of_ble_eq_true rfl) S_0 rfl (Nat.le_of_ble_eq_true rfl) k) (fun hr2 hb3 => ?_)
  refine J_ite (fun hc4 => ?_) (fun hc4 => ?_)
  · refine J.mono (fun k => s_if_ne_f rfl hc4 (w_iconst rfl (inR_c rfl) k)) ?_
    exact J_some (fun k => w_ireturn rfl rfl k)
  · refine J.mono (fun k => s_if_ne_t rfl hc4 (w_aload_n rfl rfl (w_iload_n rfl rfl (w_iload_n rfl rfl k)))) ?_
    refine J_c (fun M6 e5 => ?_)
    refine J.mono (fun k => c_vv2 rfl (fun ho hM => cal_dh_lookBoth (by omega)  e5 ho hM) v_dh_lookBoth (Nat.le_of_ble_eq_true rfl) S_0 rfl (Nat.le_of_ble_eq_true rfl) (w_iconst rfl (inR_c rfl) (s_istore3 rfl (Nat.le_of_ble_eq_true rfl) k))) ?_
    refine J.mono (fun k => w_forget (wk_k (wk_d (wk_d (wk_k (wk_d wk_0))))) k) ?_
    refine J_loop (Jl_dh_together_b19 hd  _ _) (fun w17 => ?_)
    refine J_elim (fun r => J_some (fun k => k)) (fun w17 => ?_)
    refine J.mono (fun k => w_bipush rfl (bip_c rfl) k) ?_
    exact J_some (fun k => w_ireturn rfl rfl k)
set_option maxRecDepth 20000 in
set_option maxHeartbeats 4000000 in
theorem cal_dh_together {Δ : DT} {d : Nat} (hd : 5 ≤ d) {x1 : Int} {x2 : Int}  {M : MEM} {p : Int × MEM} (h : dh_together x1 x2 M = some p) (ho : okVs [vR 0, vI x1, vI x2]) (hM : okM M) : Cal Δ false m_dh_together d [vR 0, vI x1, vI x2] (NG, S0, M) (some p.1) (NG, S0, p.2) 0 0 := by
  obtain ⟨d, rfl⟩ : ∃ e, d = e + 1 := ⟨d - 1, by omega⟩
  exact cal_of g_dh_together p_dh_together (fun v hv => by simp only [List.mem_cons, List.not_mem_nil, or_false] at hv; rcases hv with rfl | rfl | rfl <;> first | exact Or.inl ⟨_, rfl⟩ | exact Or.inr ⟨_, rfl⟩) ho hM (Nat.le_of_ble_eq_true rfl) (fun Γ _ k => J_dh_together hd  _ h k)
abbrev HD_dh_join_b27 (Δ : DT) (Γ : FT) (d : Nat) (x3 : Int) (s : Int × MEM) : Prop := WAt Δ Γ false m_dh_join (d + 1) 27 [vR (0), vN, vN, vI (x3), vI (s.1), vN] [] (NG, S0, s.2) 0 0
abbrev X_dh_join_b27 (Δ : DT) (Γ : FT) (d : Nat) (x3 : Int) (s : Int × MEM) : Prop := WAt Δ Γ false m_dh_join (d + 1) 48 [vR (0), vN, vN, vI (x3), vN, vN] [] (NG, S0, s.2) 0 0
set_option maxRecDepth 20000 in
set_option maxHeartbeats 4000000 in
theorem Jb_dh_join_b27 {Δ : DT} {Γ : FT} {d : Nat} (hd : 5 ≤ d + 1) {x3 : Int}  {x4 : Int} {M : MEM} : J (dh_join_b27 x3 x4 M) (Sum.elim (HD_dh_join_b27 Δ Γ d x3) (X_dh_join_b27 Δ Γ d x3)) (WAt Δ Γ false m_dh_join (d + 1) 27 [vR (0), vN, vN, vI (x3), vI (x4), vN] [] (NG, S0, M) 0 0) := by
  unfold dh_join_b27
  refine J.mono (fun k => w_iload rfl rfl (w_bipush rfl (bip_c rfl) k)) ?_
  refine J_ite (fun hc11 => ?_) (fun hc11 => ?_)
  · refine J.mono (fun k => s_icmp_ge_t rfl hc11 k) ?_
    exact J_some (fun k => w_forget (wk_k (wk_d (wk_d (wk_k (wk_d (wk_d wk_0)))))) k)
  · refine J.mono (fun k => s_icmp_ge_f rfl hc11 (w_aload_n rfl rfl (w_getR (r := 244) rfl (Nat.le_of_ble_eq_true rfl) S_0 rfl (w_iload rfl rfl (w_iconst rfl (inR_c rfl) k))))) ?_
    refine J_chk (fun hi13 => ?_)
    refine J_b ?_
    refine J.mono (fun k => w_iast rfl A_244.1 A_244.2 hi13.1 hi13.2 rfl (s_iinc4 rfl (Nat.le_of_ble_eq_true rfl) (w_goto rfl k))) ?_
    exact J_some (fun k => w_forget (wk_k (wk_d (wk_d (wk_k (wk_k (wk_d wk_0)))))) k)
set_option maxRecDepth 20000 in
set_option maxHeartbeats 4000000 in
theorem Jl_dh_join_b27 {Δ : DT} {Γ : FT} {d : Nat} (hd : 5 ≤ d + 1) {x3 : Int}   : ∀ (n : Nat) (s : Int × MEM), J (iter (fun s => dh_join_b27 x3 s.1 s.2) n s) (X_dh_join_b27 Δ Γ d x3) (HD_dh_join_b27 Δ Γ d x3 s) := J_iter (fun s => Jb_dh_join_b27 hd )
abbrev HD_dh_join_b51 (Δ : DT) (Γ : FT) (d : Nat) (x3 : Int) (s : Int × MEM) : Prop := WAt Δ Γ false m_dh_join (d + 1) 51 [vR (0), vN, vN, vI (x3), vI (s.1), vN] [] (NG, S0, s.2) 0 0
abbrev X_dh_join_b51 (Δ : DT) (Γ : FT) (d : Nat) (x3 : Int) (s : Int × MEM) : Prop := WAt Δ Γ false m_dh_join (d + 1) 114 [vR (0), vN, vN, vN, vN, vN] [] (NG, S0, s.2) 0 0
set_option maxRecDepth 20000 in
set_option maxHeartbeats 4000000 in
theorem Jb_dh_join_b51 {Δ : DT} {Γ : FT} {d : Nat} (hd : 5 ≤ d + 1) {x3 : Int}  {x4 : Int} {M : MEM} : J (dh_join_b51 x3 x4 M) (Sum.elim (HD_dh_join_b51 Δ Γ d x3) (X_dh_join_b51 Δ Γ d x3)) (WAt Δ Γ false m_dh_join (d + 1) 51 [vR (0), vN, vN, vI (x3), vI (x4), vN] [] (NG, S0, M) 0 0) := by
  unfold dh_join_b51
  refine J.mono (fun k => w_iload rfl rfl (w_iload_n rfl rfl k)) ?_
  refine J_ite (fun hc15 => ?_) (fun hc15 => ?_)
  · refine J.mono (fun k => s_icmp_ge_t rfl hc15 k) ?_
    exact J_some (fun k => w_forget (wk_k (wk_d (wk_d (wk_d (wk_d (wk_d wk_0)))))) k)
  · refine J.mono (fun k => s_icmp_ge_f rfl hc15 (w_aload_n rfl rfl (w_getR (r := 224) rfl (Nat.le_of_ble_eq_true rfl) S_0 rfl k))) ?_
    refine J_c (fun p17 e16 => ?_)
    refine J_hyp (fun k => c_vi0 rfl (fun ho hM => cal_fu_step (by omega) is_fu_224 e16 ho hM) v_fu_step (fu_S is_fu_224).1 (fu_S is_fu_224).2 rfl (Nat.le_of_ble_eq_true rfl) k) (fun hr18 hb19 => ?_)
    refine J.mono (fun k => w_pop rfl (fun _ h => by cases h) (w_aload_n rfl rfl (w_getR (r := 234) rfl (Nat.le_of_ble_eq_true rfl) S_0 rfl k))) ?_
    refine J_c (fun p21 e20 => ?_)
    refine J_hyp (fun k => c_vi0 rfl (fun ho hM => cal_fu_step (by omega) is_fu_234 e20 ho hM) v_fu_step (fu_S is_fu_234).1 (fu_S is_fu_234).2 rfl (Nat.le_of_ble_eq_true rfl) k) (fun hr22 hb23 => ?_)
    refine J.mono (fun k => w_pop rfl (fun _ h => by cases h) (w_aload_n rfl rfl (w_getR (r := 244) rfl (Nat.le_of_ble_eq_true rfl) S_0 rfl (w_aload_n rfl rfl (w_getR (r := 224) rfl (Nat.le_of_ble_eq_true rfl) S_0 rfl (w_getR (r := 230) rfl (fu_S is_fu_224).1 (fu_S is_fu_224).2 rfl (w_getI rfl (be_S is_be_230).1 (be_S is_be_230).2 rfl (w_aload_n rfl rfl (w_getR (r := 234) rfl (Nat.le_of_ble_eq_true rfl) S_0 rfl (w_getR (r := 240) rfl (fu_S is_fu_234).1 (fu_S is_fu_234).2 rfl (w_getI rfl (be_S is_be_240).1 (be_S is_be_240).2 rfl (w_isub rfl (w_bipush rfl (bip_c rfl) k))))))))))))) ?_
    refine J_c (fun r25 e24 => ?_)
    refine J_hyp (fun k => c_si2 rfl rfl (fun ho hM => cal_jm_floorMod (by omega)  e24 ho hM) v_jm_floorMod (Nat.le_of_ble_eq_true rfl) k) (fun hr26 hb27 => ?_)
    refine J.mono (fun k => w_dup2 rfl (fun _ h => by cases h) (fun _ h => by cases h) k) ?_
    refine J_chk (fun hi28 => ?_)
    refine J.mono (fun k => w_iald rfl A_244.1 A_244.2 hi28.1 hi28.2 (w_iconst rfl (inR_c rfl) (w_iadd rfl k))) ?_
    refine J_chk (fun hi30 => ?_)
    refine J_b ?_
    refine J.mono (fun k => w_iast rfl A_244.1 A_244.2 hi30.1 hi30.2 rfl (s_iinc4 rfl (Nat.le_of_ble_eq_true rfl) (w_goto rfl k))) ?_
    exact J_some (fun k => w_forget (wk_k (wk_d (wk_d (wk_k (wk_k (wk_d wk_0)))))) k)
set_option maxRecDepth 20000 in
set_option maxHeartbeats 4000000 in
theorem Jl_dh_join_b51 {Δ : DT} {Γ : FT} {d : Nat} (hd : 5 ≤ d + 1) {x3 : Int}   : ∀ (n : Nat) (s : Int × MEM), J (iter (fun s => dh_join_b51 x3 s.1 s.2) n s) (X_dh_join_b51 Δ Γ d x3) (HD_dh_join_b51 Δ Γ d x3 s) := J_iter (fun s => Jb_dh_join_b51 hd )
abbrev HD_dh_join_b120 (Δ : DT) (Γ : FT) (d : Nat)  (M : MEM) (s : Int × Int) : Prop := WAt Δ Γ false m_dh_join (d + 1) 120 [vR (0), vN, vN, vN, vI (s.1), vI (s.2)] [] (NG, S0, M) 0 0
abbrev X_dh_join_b120 (Δ : DT) (Γ : FT) (d : Nat)  (M : MEM) (s : Int × Int) : Prop := WAt Δ Γ false m_dh_join (d + 1) 154 [vR (0), vN, vN, vN, vI (s.1), vN] [] (NG, S0, M) 0 0
set_option maxRecDepth 20000 in
set_option maxHeartbeats 4000000 in
theorem J_dh_join_j148_120 {Δ : DT} {Γ : FT} {d : Nat} (hd : 5 ≤ d + 1) {x4 : Int} {x5 : Int}  {M : MEM} : J (dh_join_j148_120 x4 x5 M) (Sum.elim (HD_dh_join_b120 Δ Γ d  M) (X_dh_join_b120 Δ Γ d  M)) (WAt Δ Γ false m_dh_join (d + 1) 148 [vR (0), vN, vN, vN, vI (x4), vI (x5)] [] (NG, S0, M) 0 0) := by
  unfold dh_join_j148_120
  refine J.mono (fun k => s_iinc5 rfl (Nat.le_of_ble_eq_true rfl) (w_goto rfl k)) ?_
  exact J_some (fun k => w_forget (wk_k (wk_d (wk_d (wk_d (wk_k (wk_k wk_0)))))) k)
set_option maxRecDepth 20000 in
set_option maxHeartbeats 4000000 in
theorem Jb_dh_join_b120 {Δ : DT} {Γ : FT} {d : Nat} (hd : 5 ≤ d + 1)   {x4 : Int} {x5 : Int} {M : MEM} : J (dh_join_b120  x4 x5 M) (Sum.elim (HD_dh_join_b120 Δ Γ d  M) (X_dh_join_b120 Δ Γ d  M)) (WAt Δ Γ false m_dh_join (d + 1) 120 [vR (0), vN, vN, vN, vI (x4), vI (x5)] [] (NG, S0, M) 0 0) := by
  unfold dh_join_b120
  refine J.mono (fun k => w_iload rfl rfl (w_bipush rfl (bip_c rfl) k)) ?_
  refine J_ite (fun hc32 => ?_) (fun hc32 => ?_)
  · refine J.mono (fun k => s_icmp_ge_t rfl hc32 k) ?_
    exact J_some (fun k => w_forget (wk_k (wk_d (wk_d (wk_d (wk_k (wk_d wk_0)))))) k)
  · refine J.mono (fun k => s_icmp_ge_f rfl hc32 (w_aload_n rfl rfl (w_getR (r := 244) rfl (Nat.le_of_ble_eq_true rfl) S_0 rfl (w_iload rfl rfl k)))) ?_
    refine J_chk (fun hi33 => ?_)
    refine J.mono (fun k => w_iald rfl A_244.1 A_244.2 hi33.1 hi33.2 (w_aload_n rfl rfl (w_getR (r := 244) rfl (Nat.le_of_ble_eq_true rfl) S_0 rfl (w_iload rfl rfl k)))) ?_
    refine J_chk (fun hi34 => ?_)
    refine J.mono (fun k => w_iald rfl A_244.1 A_244.2 hi34.1 hi34.2 k) ?_
    refine J_ite (fun hc35 => ?_) (fun hc35 => ?_)
    · refine J.mono (fun k => s_icmp_le_t rfl hc35 k) ?_
      exact J.mono (fun k => w_forget (wk_k (wk_d (wk_d (wk_d (wk_k (wk_k wk_0)))))) k) (J_dh_join_j148_120 hd )
    · refine J.mono (fun k => s_icmp_le_f rfl hc35 (w_iload rfl rfl (s_istore4 rfl (Nat.le_of_ble_eq_true rfl) k))) ?_
      exact J.mono (fun k => w_forget (wk_k (wk_d (wk_d (wk_d (wk_k (wk_k wk_0)))))) k) (J_dh_join_j148_120 hd )
set_option maxRecDepth 20000 in
set_option maxHeartbeats 4000000 in
theorem Jl_dh_join_b120 {Δ : DT} {Γ : FT} {d : Nat} (hd : 5 ≤ d + 1)   {M : MEM} : ∀ (n : Nat) (s : Int × Int), J (iter (fun s => dh_join_b120  s.1 s.2 M) n s) (X_dh_join_b120 Δ Γ d  M) (HD_dh_join_b120 Δ Γ d  M s) := J_iter (fun s => Jb_dh_join_b120 hd )
set_option maxRecDepth 20000 in
set_option maxHeartbeats 4000000 in
theorem J_dh_join {Δ : DT} {Γ : FT} {d : Nat} (hd : 5 ≤ d + 1) {x1 : Int} {x2 : Int} {x3 : Int}  {M : MEM} : J (dh_join x1 x2 x3 M) (K_IM Δ Γ m_dh_join) (WAt Δ Γ false m_dh_join (d + 1) 0 [vR (0), vI (x1), vI (x2), vI (x3), vN, vN] [] (NG, S0, M) 0 0) := by
  unfold dh_join
  refine J.mono (fun k => w_aload_n rfl rfl (w_iload_n rfl rfl (w_iload_n rfl rfl k))) ?_
  refine J_hyp (fun k => c_vi2 rfl (fun ho hM => cal_dh_areTwo (by omega)   ho hM) v_dh_areTwo (Nat.le_of_ble_eq_true rfl) S_0 rfl (Nat.le_of_ble_eq_true rfl) k) (fun hr2 hb3 => ?_)
  refine J_ite (fun hc4 => ?_) (fun hc4 => ?_)
  · refine J.mono (fun k => s_if_eq_t rfl hc4 (w_iconst rfl (inR_c rfl) k)) ?_
    exact J_some (fun k => w_ireturn rfl rfl k)
  · refine J.mono (fun k => s_if_eq_f rfl hc4 (w_iload_n rfl rfl k)) ?_
    refine J_hyp (fun k => c_si1 rfl rfl (fun ho hM => cal_dh_isFar (by omega)   ho hM) v_dh_isFar (Nat.le_of_ble_eq_true rfl) k) (fun hr6 hb7 => ?_)
    refine J_ite (fun hc8 => ?_) (fun hc8 => ?_)
    · refine J.mono (fun k => s_if_ne_f rfl hc8 (w_iconst rfl (inR_c rfl) k)) ?_
      exact J_some (fun k => w_ireturn rfl rfl k)
    · refine J.mono (fun k => s_if_ne_t rfl hc8 (w_aload_n rfl rfl (w_iload_n rfl rfl (w_iload_n rfl rfl k)))) ?_
      refine J_c (fun M10 e9 => ?_)
      refine J.mono (fun k => c_vv2 rfl (fun ho hM => cal_dh_lookBoth (by omega)  e9 ho hM) v_dh_lookBoth (Nat.le_of_ble_eq_true rfl) S_0 rfl (Nat.le_of_ble_eq_true rfl) (w_iconst rfl (inR_c rfl) (s_istore4 rfl (Nat.le_of_ble_eq_true rfl) k))) ?_
      refine J.mono (fun k => w_forget (wk_k (wk_d (wk_d (wk_k (wk_k (wk_d wk_0)))))) k) ?_
      refine J_loop (Jl_dh_join_b27 hd  _ _) (fun w14 => ?_)
      refine J.mono (fun k => w_iconst rfl (inR_c rfl) (s_istore4 rfl (Nat.le_of_ble_eq_true rfl) k)) ?_
      refine J.mono (fun k => w_forget (wk_k (wk_d (wk_d (wk_k (wk_k (wk_d wk_0)))))) k) ?_
      refine J_loop (Jl_dh_join_b51 hd  _ _) (fun w31 => ?_)
      refine J.mono (fun k => w_iconst rfl (inR_c rfl) (s_istore4 rfl (Nat.le_of_ble_eq_true rfl) (w_iconst rfl (inR_c rfl) (s_istore5 rfl (Nat.le_of_ble_eq_true rfl) k)))) ?_
      refine J.mono (fun k => w_forget (wk_k (wk_d (wk_d (wk_d (wk_k (wk_k wk_0)))))) k) ?_
      refine J_loop (Jl_dh_join_b120 hd  _ _) (fun w36 => ?_)
      refine J.mono (fun k => w_aload_n rfl rfl k) ?_
      refine J_c (fun M38 e37 => ?_)
      refine J.mono (fun k => c_vv0 rfl (fun ho hM => cal_dh_newRow (by omega)  e37 ho hM) v_dh_newRow (Nat.le_of_ble_eq_true rfl) S_0 rfl (Nat.le_of_ble_eq_true rfl) (w_aload_n rfl rfl (w_iload rfl rfl k))) ?_
      refine J_c (fun M40 e39 => ?_)
      refine J.mono (fun k => c_vv1 rfl (fun ho hM => cal_dh_tell (by omega)  e39 ho hM) v_dh_tell (Nat.le_of_ble_eq_true rfl) S_0 rfl (Nat.le_of_ble_eq_true rfl) (w_aload_n rfl rfl (w_aload_n rfl rfl (w_getR (r := 244) rfl (Nat.le_of_ble_eq_true rfl) S_0 rfl (w_iload rfl rfl k))))) ?_
      refine J_chk (fun hi41 => ?_)
      refine J.mono (fun k => w_iald rfl A_244.1 A_244.2 hi41.1 hi41.2 k) ?_
      refine J_c (fun M43 e42 => ?_)
      refine J.mono (fun k => c_vv1 rfl (fun ho hM => cal_dh_tell (by omega)  e42 ho hM) v_dh_tell (Nat.le_of_ble_eq_true rfl) S_0 rfl (Nat.le_of_ble_eq_true rfl) (w_aload_n rfl rfl (w_getR (r := 244) rfl (Nat.le_of_ble_eq_true rfl) S_0 rfl (w_iconst rfl (inR_c rfl) (w_iald rfl A_244.1 A_244.2 (by decide) (by decide) k))))) ?_
      exact J_some (fun k => w_ireturn rfl rfl k)
set_option maxRecDepth 20000 in
set_option maxHeartbeats 4000000 in
theorem cal_dh_join {Δ : DT} {d : Nat} (hd : 5 ≤ d) {x1 : Int} {x2 : Int} {x3 : Int}  {M : MEM} {p : Int × MEM} (h : dh_join x1 x2 x3 M = some p) (ho : okVs [vR 0, vI x1, vI x2, vI x3]) (hM : okM M) : Cal Δ false m_dh_join d [vR 0, vI x1, vI x2, vI x3] (NG, S0, M) (some p.1) (NG, S0, p.2) 0 0 := by
  obtain ⟨d, rfl⟩ : ∃ e, d = e + 1 := ⟨d - 1, by omega⟩
  exact cal_of g_dh_join p_dh_join (fun v hv => by simp only [List.mem_cons, List.not_mem_nil, or_false] at hv; rcases hv with rfl | rfl | rfl | rfl <;> first | exact Or.inl ⟨_, rfl⟩ | exact Or.inr ⟨_, rfl⟩) ho hM (Nat.le_of_ble_eq_true rfl) (fun Γ _ k => J_dh_join hd  _ h k)
set_option maxRecDepth 20000 in
set_option maxHeartbeats 4000000 in
theorem J_dh_shows {Δ : DT} {Γ : FT} {d : Nat} (hd : 5 ≤ d + 1) {x1 : Int} {x2 : Int} {x3 : Int}  {M : MEM} : J (dh_shows x1 x2 x3 M) (K_IM Δ Γ m_dh_shows) (WAt Δ Γ false m_dh_shows (d + 1) 0 [vR (0), vI (x1), vI (x2), vI (x3), vN] [] (NG, S0, M) 0 0) := by
  unfold dh_shows
  refine J.mono (fun k => w_aload_n rfl rfl (w_iload_n rfl rfl (w_iload_n rfl rfl k))) ?_
  refine J_hyp (fun k => c_vi2 rfl (fun ho hM => cal_dh_areTwo (by omega)   ho hM) v_dh_areTwo (Nat.le_of_ble_eq_true rfl) S_0 rfl (Nat.le_of_ble_eq_true rfl) k) (fun hr2 hb3 => ?_)
  refine J_ite (fun hc4 => ?_) (fun hc4 => ?_)
  · refine J.mono (fun k => s_if_eq_t rfl hc4 (w_iconst rfl (inR_c rfl) k)) ?_
    exact J_some (fun k => w_ireturn rfl rfl k)
  · refine J.mono (fun k => s_if_eq_f rfl hc4 (w_iload_n rfl rfl k)) ?_
    refine J_hyp (fun k => c_si1 rfl rfl (fun ho hM => cal_dh_isAskedStroke (by omega)   ho hM) v_dh_isAskedStroke (Nat.le_of_ble_eq_true rfl) k) (fun hr6 hb7 => ?_)
    refine J_ite (fun hc8 => ?_) (fun hc8 => ?_)
    · refine J.mono (fun k => s_if_ne_f rfl hc8 (w_iconst rfl (inR_c rfl) k)) ?_
      exact J_some (fun k => w_ireturn rfl rfl k)
    · refine J.mono (fun k => s_if_ne_t rfl hc8 (w_aload_n rfl rfl (w_iload_n rfl rfl (w_iload_n rfl rfl k)))) ?_
      refine J_c (fun M10 e9 => ?_)
      refine J.mono (fun k => c_vv2 rfl (fun ho hM => cal_dh_lookBoth (by omega)  e9 ho hM) v_dh_lookBoth (Nat.le_of_ble_eq_true rfl) S_0 rfl (Nat.le_of_ble_eq_true rfl) (w_aload_n rfl rfl (w_getR (r := 234) rfl (Nat.le_of_ble_eq_true rfl) S_0 rfl (w_iload_n rfl rfl k)))) ?_
      refine J_c (fun p12 e11 => ?_)
      refine J_hyp (fun k => c_vi1 rfl (fun ho hM => cal_fu_afterStroke (by omega) is_fu_234 e11 ho hM) v_fu_afterStroke (fu_S is_fu_234).1 (fu_S is_fu_234).2 rfl (Nat.le_of_ble_eq_true rfl) k) (fun hr13 hb14 => ?_)
      refine J.mono (fun k => s_istore4 rfl (Nat.le_of_ble_eq_true rfl) (w_iload rfl rfl k)) ?_
      refine J_ite (fun hc15 => ?_) (fun hc15 => ?_)
      · refine J.mono (fun k => s_if_ge_t rfl hc15 (w_aload_n rfl rfl (w_getR (r := 224) rfl (Nat.le_of_ble_eq_true rfl) S_0 rfl (w_iload rfl rfl (w_sipush rfl (sip_c rfl) k))))) ?_
        refine J_c (fun M17 e16 => ?_)
        refine J.mono (fun k => c_vv2 rfl (fun ho hM => cal_fu_run (by omega) is_fu_224 e16 ho hM) v_fu_run (fu_S is_fu_224).1 (fu_S is_fu_224).2 rfl (Nat.le_of_ble_eq_true rfl) (w_aload_n rfl rfl (w_getR (r := 224) rfl (Nat.le_of_ble_eq_true rfl) S_0 rfl (w_getR (r := 230) rfl (fu_S is_fu_224).1 (fu_S is_fu_224).2 rfl (w_getI rfl (be_S is_be_230).1 (be_S is_be_230).2 rfl (w_bipush rfl (bip_c rfl) (w_irem rfl (by decide) k))))))) ?_
        exact J_some (fun k => w_ireturn rfl rfl k)
      · refine J.mono (fun k => s_if_ge_f rfl hc15 (w_bipush rfl (bip_c rfl) k)) ?_
        exact J_some (fun k => w_ireturn rfl rfl k)
set_option maxRecDepth 20000 in
set_option maxHeartbeats 4000000 in
theorem cal_dh_shows {Δ : DT} {d : Nat} (hd : 5 ≤ d) {x1 : Int} {x2 : Int} {x3 : Int}  {M : MEM} {p : Int × MEM} (h : dh_shows x1 x2 x3 M = some p) (ho : okVs [vR 0, vI x1, vI x2, vI x3]) (hM : okM M) : Cal Δ false m_dh_shows d [vR 0, vI x1, vI x2, vI x3] (NG, S0, M) (some p.1) (NG, S0, p.2) 0 0 := by
  obtain ⟨d, rfl⟩ : ∃ e, d = e + 1 := ⟨d - 1, by omega⟩
  exact cal_of g_dh_shows p_dh_shows (fun v hv => by simp only [List.mem_cons, List.not_mem_nil, or_false] at hv; rcases hv with rfl | rfl | rfl | rfl <;> first | exact Or.inl ⟨_, rfl⟩ | exact Or.inr ⟨_, rfl⟩) ho hM (Nat.le_of_ble_eq_true rfl) (fun Γ _ k => J_dh_shows hd  _ h k)
abbrev HD_dh_egg_b71 (Δ : DT) (Γ : FT) (d : Nat) (x2 : Int) (x3 : Int) (M : MEM) (s : Int × Int) : Prop := WAt Δ Γ false m_dh_egg (d + 1) 71 [vR (0), vN, vI (x2), vI (x3), vI (s.1), vI (s.2)] [] (NG, S0, M) 0 0
abbrev X_dh_egg_b71 (Δ : DT) (Γ : FT) (d : Nat) (x2 : Int) (x3 : Int) (M : MEM) (s : Int × Int) : Prop := WAt Δ Γ false m_dh_egg (d + 1) 131 [vR (0), vN, vI (x2), vN, vI (s.1), vN] [] (NG, S0, M) 0 0
set_option maxRecDepth 20000 in
set_option maxHeartbeats 4000000 in
theorem J_dh_egg_j125_71 {Δ : DT} {Γ : FT} {d : Nat} (hd : 4 ≤ d + 1) {x2 : Int} {x3 : Int} {x4 : Int} {x5 : Int}  {M : MEM} : J (dh_egg_j125_71 x2 x3 x4 x5 M) (Sum.elim (HD_dh_egg_b71 Δ Γ d x2 x3 M) (X_dh_egg_b71 Δ Γ d x2 x3 M)) (WAt Δ Γ false m_dh_egg (d + 1) 125 [vR (0), vN, vI (x2), vI (x3), vI (x4), vI (x5)] [] (NG, S0, M) 0 0) := by
  unfold dh_egg_j125_71
  refine J.mono (fun k => s_iinc5 rfl (Nat.le_of_ble_eq_true rfl) (w_goto rfl k)) ?_
  exact J_some (fun k => w_forget (wk_k (wk_d (wk_k (wk_k (wk_k (wk_k wk_0)))))) k)
set_option maxRecDepth 20000 in
set_option maxHeartbeats 4000000 in
theorem Jb_dh_egg_b71 {Δ : DT} {Γ : FT} {d : Nat} (hd : 4 ≤ d + 1) {x2 : Int} {x3 : Int}  {x4 : Int} {x5 : Int} {M : MEM} : J (dh_egg_b71 x2 x3 x4 x5 M) (Sum.elim (HD_dh_egg_b71 Δ Γ d x2 x3 M) (X_dh_egg_b71 Δ Γ d x2 x3 M)) (WAt Δ Γ false m_dh_egg (d + 1) 71 [vR (0), vN, vI (x2), vI (x3), vI (x4), vI (x5)] [] (NG, S0, M) 0 0) := by
  unfold dh_egg_b71
  refine J.mono (fun k => w_iload rfl rfl (w_aload_n rfl rfl (w_getR (r := 224) rfl (Nat.le_of_ble_eq_true rfl) S_0 rfl (w_getI rfl (fu_S is_fu_224).1 (fu_S is_fu_224).2 rfl k)))) ?_
  refine J_ite (fun hc16 => ?_) (fun hc16 => ?_)
  · refine J.mono (fun k => s_icmp_ge_t rfl hc16 k) ?_
    exact J_some (fun k => w_forget (wk_k (wk_d (wk_k (wk_d (wk_k (wk_d wk_0)))))) k)
  · refine J.mono (fun k => s_icmp_ge_f rfl hc16 (w_iload rfl rfl (w_bipush rfl (bip_c rfl) k))) ?_
    refine J_ite (fun hc17 => ?_) (fun hc17 => ?_)
    · refine J.mono (fun k => s_icmp_gt_t rfl hc17 k) ?_
      exact J_some (fun k => w_forget (wk_k (wk_d (wk_k (wk_d (wk_k (wk_d wk_0)))))) k)
    · refine J.mono (fun k => s_icmp_gt_f rfl hc17 (w_aload_n rfl rfl (w_getR (r := 224) rfl (Nat.le_of_ble_eq_true rfl) S_0 rfl (w_iload rfl rfl k)))) ?_
      refine J_c (fun r19 e18 => ?_)
      refine J_hyp (fun k => c_vi1 rfl (fun ho hM => cal_fu_boiled (by omega) is_fu_224 e18 ho hM) v_fu_boiled (fu_S is_fu_224).1 (fu_S is_fu_224).2 rfl (Nat.le_of_ble_eq_true rfl) k) (fun hr20 hb21 => ?_)
      refine J.mono (fun k => w_iload_n rfl rfl (w_isub rfl k)) ?_
      refine J.mono (fun k => w_mabs rfl (Nat.le_of_ble_eq_true rfl) k) ?_
      refine J.mono (fun k => w_aload_n rfl rfl (w_getR (r := 224) rfl (Nat.le_of_ble_eq_true rfl) S_0 rfl (w_iload rfl rfl k))) ?_
      refine J_c (fun r23 e22 => ?_)
      refine J_hyp (fun k => c_vi1 rfl (fun ho hM => cal_fu_boiled (by omega) is_fu_224 e22 ho hM) v_fu_boiled (fu_S is_fu_224).1 (fu_S is_fu_224).2 rfl (Nat.le_of_ble_eq_true rfl) k) (fun hr24 hb25 => ?_)
      refine J.mono (fun k => w_iload_n rfl rfl (w_isub rfl k)) ?_
      refine J.mono (fun k => w_mabs rfl (Nat.le_of_ble_eq_true rfl) k) ?_
      refine J_ite (fun hc26 => ?_) (fun hc26 => ?_)
      · refine J.mono (fun k => s_icmp_ge_t rfl hc26 k) ?_
        exact J.mono (fun k => w_forget (wk_k (wk_d (wk_k (wk_k (wk_k (wk_k wk_0)))))) k) (J_dh_egg_j125_71 hd )
      · refine J.mono (fun k => s_icmp_ge_f rfl hc26 (w_iload rfl rfl (s_istore4 rfl (Nat.le_of_ble_eq_true rfl) k))) ?_
        exact J.mono (fun k => w_forget (wk_k (wk_d (wk_k (wk_k (wk_k (wk_k wk_0)))))) k) (J_dh_egg_j125_71 hd )
set_option maxRecDepth 20000 in
set_option maxHeartbeats 4000000 in
theorem Jl_dh_egg_b71 {Δ : DT} {Γ : FT} {d : Nat} (hd : 4 ≤ d + 1) {x2 : Int} {x3 : Int}  {M : MEM} : ∀ (n : Nat) (s : Int × Int), J (iter (fun s => dh_egg_b71 x2 x3 s.1 s.2 M) n s) (X_dh_egg_b71 Δ Γ d x2 x3 M) (HD_dh_egg_b71 Δ Γ d x2 x3 M s) := J_iter (fun s => Jb_dh_egg_b71 hd )
set_option maxRecDepth 20000 in
set_option maxHeartbeats 4000000 in
theorem J_dh_egg_j131 {Δ : DT} {Γ : FT} {d : Nat} (hd : 4 ≤ d + 1) {x2 : Int} {x4 : Int}  {M : MEM} : J (dh_egg_j131 x2 x4 M) (K_IM Δ Γ m_dh_egg) (WAt Δ Γ false m_dh_egg (d + 1) 131 [vR (0), vN, vI (x2), vN, vI (x4), vN] [] (NG, S0, M) 0 0) := by
  unfold dh_egg_j131
  refine J.mono (fun k => w_aload_n rfl rfl k) ?_
  refine J_c (fun M29 e28 => ?_)
  refine J.mono (fun k => c_vv0 rfl (fun ho hM => cal_dh_newRow (by omega)  e28 ho hM) v_dh_newRow (Nat.le_of_ble_eq_true rfl) S_0 rfl (Nat.le_of_ble_eq_true rfl) (w_aload_n rfl rfl (w_iload rfl rfl k))) ?_
  refine J_c (fun M31 e30 => ?_)
  refine J.mono (fun k => c_vv1 rfl (fun ho hM => cal_dh_tell (by omega)  e30 ho hM) v_dh_tell (Nat.le_of_ble_eq_true rfl) S_0 rfl (Nat.le_of_ble_eq_true rfl) (w_aload_n rfl rfl (w_aload_n rfl rfl (w_getR (r := 224) rfl (Nat.le_of_ble_eq_true rfl) S_0 rfl (w_iload rfl rfl k))))) ?_
  refine J_c (fun r33 e32 => ?_)
  refine J_hyp (fun k => c_vi1 rfl (fun ho hM => cal_fu_boiled (by omega) is_fu_224 e32 ho hM) v_fu_boiled (fu_S is_fu_224).1 (fu_S is_fu_224).2 rfl (Nat.le_of_ble_eq_true rfl) k) (fun hr34 hb35 => ?_)
  refine J_c (fun M37 e36 => ?_)
  refine J.mono (fun k => c_vv1 rfl (fun ho hM => cal_dh_tell (by omega)  e36 ho hM) v_dh_tell (Nat.le_of_ble_eq_true rfl) S_0 rfl (Nat.le_of_ble_eq_true rfl) (w_aload_n rfl rfl (w_getR (r := 224) rfl (Nat.le_of_ble_eq_true rfl) S_0 rfl (w_iload_n rfl rfl k)))) ?_
  refine J_c (fun r39 e38 => ?_)
  refine J_hyp (fun k => c_vi1 rfl (fun ho hM => cal_fu_boiled (by omega) is_fu_224 e38 ho hM) v_fu_boiled (fu_S is_fu_224).1 (fu_S is_fu_224).2 rfl (Nat.le_of_ble_eq_true rfl) k) (fun hr40 hb41 => ?_)
  exact J_some (fun k => w_ireturn rfl rfl k)
set_option maxRecDepth 20000 in
set_option maxHeartbeats 4000000 in
theorem J_dh_egg {Δ : DT} {Γ : FT} {d : Nat} (hd : 4 ≤ d + 1) {x1 : Int} {x2 : Int} {x3 : Int}  {M : MEM} : J (dh_egg x1 x2 x3 M) (K_IM Δ Γ m_dh_egg) (WAt Δ Γ false m_dh_egg (d + 1) 0 [vR (0), vI (x1), vI (x2), vI (x3), vN, vN] [] (NG, S0, M) 0 0) := by
  unfold dh_egg
  refine J.mono (fun k => w_aload_n rfl rfl (w_iload_n rfl rfl k)) ?_
  refine J_hyp (fun k => c_vi1 rfl (fun ho hM => cal_dh_isDonkey (by omega)   ho hM) v_dh_isDonkey (Nat.le_of_ble_eq_true rfl) S_0 rfl (Nat.le_of_ble_eq_true rfl) k) (fun hr2 hb3 => ?_)
  refine J_ite (fun hc4 => ?_) (fun hc4 => ?_)
  · refine J.mono (fun k => s_if_eq_t rfl hc4 (w_iconst rfl (inR_c rfl) k)) ?_
    exact J_some (fun k => w_ireturn rfl rfl k)
  · refine J.mono (fun k => s_if_eq_f rfl hc4 (w_iload_n rfl rfl (w_iconst rfl (inR_c rfl) k))) ?_
    refine J_ite (fun hc5 => ?_) (fun hc5 => ?_)
    · refine J.mono (fun k => s_icmp_lt_t rfl hc5 (w_iconst rfl (inR_c rfl) k)) ?_
      exact J_some (fun k => w_ireturn rfl rfl k)
    · refine J.mono (fun k => s_icmp_lt_f rfl hc5 (w_iload_n rfl rfl (w_bipush rfl (bip_c rfl) k))) ?_
      refine J_ite (fun hc6 => ?_) (fun hc6 => ?_)
      · refine J.mono (fun k => s_icmp_gt_t rfl hc6 (w_iconst rfl (inR_c rfl) k)) ?_
        exact J_some (fun k => w_ireturn rfl rfl k)
      · refine J.mono (fun k => s_icmp_gt_f rfl hc6 (w_iload_n rfl rfl k)) ?_
        refine J_hyp (fun k => c_si1 rfl rfl (fun ho hM => cal_dh_isFar (by omega)   ho hM) v_dh_isFar (Nat.le_of_ble_eq_true rfl) k) (fun hr8 hb9 => ?_)
        refine J_ite (fun hc10 => ?_) (fun hc10 => ?_)
        · refine J.mono (fun k => s_if_ne_f rfl hc10 (w_iconst rfl (inR_c rfl) k)) ?_
          exact J_some (fun k => w_ireturn rfl rfl k)
        · refine J.mono (fun k => s_if_ne_t rfl hc10 (w_aload_n rfl rfl (w_aload_n rfl rfl (w_getR (r := 224) rfl (Nat.le_of_ble_eq_true rfl) S_0 rfl (w_iload_n rfl rfl k))))) ?_
          refine J_c (fun M12 e11 => ?_)
          refine J.mono (fun k => c_vv2 rfl (fun ho hM => cal_dh_look (by omega) is_fu_224 e11 ho hM) v_dh_look (Nat.le_of_ble_eq_true rfl) S_0 rfl (Nat.le_of_ble_eq_true rfl) (w_aload_n rfl rfl (w_getR (r := 224) rfl (Nat.le_of_ble_eq_true rfl) S_0 rfl (w_sipush rfl (sip_c rfl) (w_bipush rfl (bip_c rfl) k))))) ?_
          refine J_c (fun M14 e13 => ?_)
          refine J.mono (fun k => c_vv2 rfl (fun ho hM => cal_fu_run (by omega) is_fu_224 e13 ho hM) v_fu_run (fu_S is_fu_224).1 (fu_S is_fu_224).2 rfl (Nat.le_of_ble_eq_true rfl) (w_aload_n rfl rfl (w_getR (r := 224) rfl (Nat.le_of_ble_eq_true rfl) S_0 rfl (w_getI rfl (fu_S is_fu_224).1 (fu_S is_fu_224).2 rfl (w_iload_n rfl rfl (w_iconst rfl (inR_c rfl) (w_iadd rfl k))))))) ?_
          refine J_ite (fun hc15 => ?_) (fun hc15 => ?_)
          · refine J.mono (fun k => s_icmp_ge_t rfl hc15 (w_iconst rfl (inR_c rfl) (s_istore4 rfl (Nat.le_of_ble_eq_true rfl) (w_iconst rfl (inR_c rfl) (s_istore5 rfl (Nat.le_of_ble_eq_true rfl) k))))) ?_
            refine J.mono (fun k => w_forget (wk_k (wk_d (wk_k (wk_k (wk_k (wk_k wk_0)))))) k) ?_
            refine J_loop (Jl_dh_egg_b71 hd  _ _) (fun w27 => ?_)
            exact J.mono (fun k => w_forget (wk_k (wk_d (wk_k (wk_d (wk_k (wk_d wk_0)))))) k) (J_dh_egg_j131 hd )
          · refine J.mono (fun k => s_icmp_ge_f rfl hc15 (w_bipush rfl (bip_c rfl) k)) ?_
            exact J_some (fun k => w_ireturn rfl rfl k)
set_option maxRecDepth 20000 in
set_option maxHeartbeats 4000000 in
theorem cal_dh_egg {Δ : DT} {d : Nat} (hd : 4 ≤ d) {x1 : Int} {x2 : Int} {x3 : Int}  {M : MEM} {p : Int × MEM} (h : dh_egg x1 x2 x3 M = some p) (ho : okVs [vR 0, vI x1, vI x2, vI x3]) (hM : okM M) : Cal Δ false m_dh_egg d [vR 0, vI x1, vI x2, vI x3] (NG, S0, M) (some p.1) (NG, S0, p.2) 0 0 := by
  obtain ⟨d, rfl⟩ : ∃ e, d = e + 1 := ⟨d - 1, by omega⟩
  exact cal_of g_dh_egg p_dh_egg (fun v hv => by simp only [List.mem_cons, List.not_mem_nil, or_false] at hv; rcases hv with rfl | rfl | rfl | rfl <;> first | exact Or.inl ⟨_, rfl⟩ | exact Or.inr ⟨_, rfl⟩) ho hM (Nat.le_of_ble_eq_true rfl) (fun Γ _ k => J_dh_egg hd  _ h k)

