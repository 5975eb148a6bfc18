set_option maxRecDepth 20000 in
set_option maxHeartbeats 4000000 in
theorem J_mo_there {Δ : DT} {Γ : FT} {d : Nat} {x1 : Int} {x2 : Int}  {M : MEM} : J (mo_there x1 x2 M) (K_I Δ Γ m_mo_there M) (WAt Δ Γ false m_mo_there d 0 [vR (278), vI (x1), vI (x2)] [] (NG, S0, M) 0 0) := by
  unfold mo_there
  refine J.mono (fun k => w_iload_n rfl rfl k) ?_
  refine J_ite (fun hc1 => ?_) (fun hc1 => ?_)
  · refine J.mono (fun k => s_if_ne_f rfl hc1 (w_iload_n rfl rfl (w_goto rfl k))) ?_
    exact J_some (fun k => w_ireturn rfl rfl k)
  · refine J.mono (fun k => s_if_ne_t rfl hc1 (w_aload_n rfl rfl (w_getR (r := 293) rfl (Nat.le_of_ble_eq_true rfl) S_278 rfl (w_iload_n rfl rfl (w_iconst rfl (inR_c rfl) (w_isub rfl k)))))) ?_
    refine J_chk (fun hi2 => ?_)
    refine J.mono (fun k => w_iald rfl A_293.1 A_293.2 hi2.1 hi2.2 (w_iload_n rfl rfl (w_iadd rfl (w_iconst rfl (inR_c rfl) (w_iadd rfl k))))) ?_
    exact J_some (fun k => w_ireturn rfl rfl k)
set_option maxRecDepth 20000 in
set_option maxHeartbeats 4000000 in
theorem cal_mo_there {Δ : DT} {d : Nat} (hd : 0 ≤ d) {x1 : Int} {x2 : Int}  {M : MEM} {r : Int} (h : mo_there x1 x2 M = some r) (ho : okVs [vR 278, vI x1, vI x2]) (hM : okM M) : Cal Δ false m_mo_there d [vR 278, vI x1, vI x2] (NG, S0, M) (some r) (NG, S0, M) 0 0 := by
  exact cal_of g_mo_there p_mo_there (fun v hv => by simp only [List.mem_cons, List.not_mem_nil, or_false] at hv; rcases hv with rfl | rfl | rfl <;> first | exact Or.inl ⟨_, rfl⟩ | exact Or.inr ⟨_, rfl⟩) ho hM (Nat.le_of_ble_eq_true rfl) (fun Γ _ k => J_mo_there  _ h k)
abbrev HD_mo_latest_b5 (Δ : DT) (Γ : FT) (d : Nat) (x1 : Int) (x2 : Int) (M : MEM) (s : Int × Int) : Prop := WAt Δ Γ false m_mo_latest (d + 1) 5 [vR (278), vI (x1), vI (x2), vI (s.1), vI (s.2)] [] (NG, S0, M) 0 0
abbrev X_mo_latest_b5 (Δ : DT) (Γ : FT) (d : Nat) (x1 : Int) (x2 : Int) (M : MEM) (s : Int × Int) : Prop := WAt Δ Γ false m_mo_latest (d + 1) 34 [vN, vN, vN, vI (s.1), vN] [] (NG, S0, M) 0 0
set_option maxRecDepth 20000 in
set_option maxHeartbeats 4000000 in
theorem J_mo_latest_j28_5 {Δ : DT} {Γ : FT} {d : Nat} (hd : 1 ≤ d + 1) {x1 : Int} {x2 : Int} {x3 : Int} {x4 : Int}  {M : MEM} : J (mo_latest_j28_5 x1 x2 x3 x4 M) (Sum.elim (HD_mo_latest_b5 Δ Γ d x1 x2 M) (X_mo_latest_b5 Δ Γ d x1 x2 M)) (WAt Δ Γ false m_mo_latest (d + 1) 28 [vR (278), vI (x1), vI (x2), vI (x3), vI (x4)] [] (NG, S0, M) 0 0) := by
  unfold mo_latest_j28_5
  refine J.mono (fun k => s_iinc4 rfl (Nat.le_of_ble_eq_true rfl) (w_goto rfl k)) ?_
  exact J_some (fun k => w_forget (wk_k (wk_k (wk_k (wk_k (wk_k wk_0))))) k)
set_option maxRecDepth 20000 in
set_option maxHeartbeats 4000000 in
theorem Jb_mo_latest_b5 {Δ : DT} {Γ : FT} {d : Nat} (hd : 1 ≤ d + 1) {x1 : Int} {x2 : Int}  {x3 : Int} {x4 : Int} {M : MEM} : J (mo_latest_b5 x1 x2 x3 x4 M) (Sum.elim (HD_mo_latest_b5 Δ Γ d x1 x2 M) (X_mo_latest_b5 Δ Γ d x1 x2 M)) (WAt Δ Γ false m_mo_latest (d + 1) 5 [vR (278), vI (x1), vI (x2), vI (x3), vI (x4)] [] (NG, S0, M) 0 0) := by
  unfold mo_latest_b5
  refine J.mono (fun k => w_iload rfl rfl (w_aload_n rfl rfl (w_getI rfl (Nat.le_of_ble_eq_true rfl) S_278 rfl k))) ?_
  refine J_ite (fun hc1 => ?_) (fun hc1 => ?_)
  · refine J.mono (fun k => s_icmp_gt_t rfl hc1 k) ?_
    exact J_some (fun k => w_forget (wk_d (wk_d (wk_d (wk_k (wk_d wk_0))))) k)
  · refine J.mono (fun k => s_icmp_gt_f rfl hc1 (w_aload_n rfl rfl (w_iload rfl rfl (w_iload_n rfl rfl k)))) ?_
    refine J_c (fun r3 e2 => ?_)
    refine J_hyp (fun k => c_vi2 rfl (fun ho hM => cal_mo_there (by omega)  e2 ho hM) v_mo_there (Nat.le_of_ble_eq_true rfl) S_278 rfl (Nat.le_of_ble_eq_true rfl) k) (fun hr4 hb5 => ?_)
    refine J.mono (fun k => w_iload_n rfl rfl k) ?_
    refine J_ite (fun hc6 => ?_) (fun hc6 => ?_)
    · refine J.mono (fun k => s_icmp_gt_t rfl hc6 k) ?_
      exact J.mono (fun k => w_forget (wk_k (wk_k (wk_k (wk_k (wk_k wk_0))))) k) (J_mo_latest_j28_5 hd )
    · refine J.mono (fun k => s_icmp_gt_f rfl hc6 (w_iload rfl rfl (s_istore3 rfl (Nat.le_of_ble_eq_true rfl) k))) ?_
      exact J.mono (fun k => w_forget (wk_k (wk_k (wk_k (wk_k (wk_k wk_0))))) k) (J_mo_latest_j28_5 hd )
set_option maxRecDepth 20000 in
set_option maxHeartbeats 4000000 in
theorem Jl_mo_latest_b5 {Δ : DT} {Γ : FT} {d : Nat} (hd : 1 ≤ d + 1) {x1 : Int} {x2 : Int}  {M : MEM} : ∀ (n : Nat) (s : Int × Int), J (iter (fun s => mo_latest_b5 x1 x2 s.1 s.2 M) n s) (X_mo_latest_b5 Δ Γ d x1 x2 M) (HD_mo_latest_b5 Δ Γ d x1 x2 M s) := J_iter (fun s => Jb_mo_latest_b5 hd )
set_option maxRecDepth 20000 in
set_option maxHeartbeats 4000000 in
theorem J_mo_latest {Δ : DT} {Γ : FT} {d : Nat} (hd : 1 ≤ d + 1) {x1 : Int} {x2 : Int}  {M : MEM} : J (mo_latest x1 x2 M) (K_I Δ Γ m_mo_latest M) (WAt Δ Γ false m_mo_latest (d + 1) 0 [vR (278), vI (x1), vI (x2), vN, vN] [] (NG, S0, M) 0 0) := by
  unfold mo_latest
  refine J.mono (fun k => w_iconst rfl (inR_c rfl) (s_istore3 rfl (Nat.le_of_ble_eq_true rfl) (w_iconst rfl (inR_c rfl) (s_istore4 rfl (Nat.le_of_ble_eq_true rfl) k)))) ?_
  refine J.mono (fun k => w_forget (wk_k (wk_k (wk_k (wk_k (wk_k wk_0))))) k) ?_
  refine J_loop (Jl_mo_latest_b5 hd  _ _) (fun w7 => ?_)
  refine J.mono (fun k => w_iload_n rfl rfl k) ?_
  exact J_some (fun k => w_ireturn rfl rfl k)
set_option maxRecDepth 20000 in
set_option maxHeartbeats 4000000 in
theorem cal_mo_latest {Δ : DT} {d : Nat} (hd : 1 ≤ d) {x1 : Int} {x2 : Int}  {M : MEM} {r : Int} (h : mo_latest x1 x2 M = some r) (ho : okVs [vR 278, vI x1, vI x2]) (hM : okM M) : Cal Δ false m_mo_latest d [vR 278, vI x1, vI x2] (NG, S0, M) (some r) (NG, S0, M) 0 0 := by
  obtain ⟨d, rfl⟩ : ∃ e, d = e + 1 := ⟨d - 1, by omega⟩
  exact cal_of g_mo_latest p_mo_latest (fun v hv => by simp only [List.mem_cons, List.not_mem_nil, or_false] at hv; rcases hv with rfl | rfl | rfl <;> first | exact Or.inl ⟨_, rfl⟩ | exact Or.inr ⟨_, rfl⟩) ho hM (Nat.le_of_ble_eq_true rfl) (fun Γ _ k => J_mo_latest hd  _ h k)
set_option maxRecDepth 20000 in
set_option maxHeartbeats 4000000 in
theorem J_mo_leave {Δ : DT} {Γ : FT} {d : Nat} (hd : 78 ≤ d + 1) {x1 : Int} {x2 : Int} {x3 : Int}  {M : MEM} : J (mo_leave x1 x2 x3 M) (K_IM Δ Γ m_mo_leave) (WAt Δ Γ false m_mo_leave (d + 1) 0 [vR (278), vI (x1), vI (x2), vI (x3), vN] [] (NG, S0, M) 0 0) := by
  unfold mo_leave
  refine J.mono (fun k => w_aload_n rfl rfl (w_iconst rfl (inR_c rfl) k)) ?_
  refine J_b ?_
  refine J.mono (fun k => w_putI rfl (Nat.le_of_ble_eq_true rfl) S_278 rfl rfl (w_aload_n rfl rfl (w_iload_n rfl rfl k))) ?_
  refine J_hyp (fun k => c_vi1 rfl (fun ho hM => cal_mo_isDonkey (by omega)   ho hM) v_mo_isDonkey (Nat.le_of_ble_eq_true rfl) S_278 rfl (Nat.le_of_ble_eq_true rfl) k) (fun hr3 hb4 => ?_)
  refine J_ite (fun hc5 => ?_) (fun hc5 => ?_)
  · refine J.mono (fun k => s_if_eq_t rfl hc5 (w_iconst rfl (inR_c rfl) k)) ?_
    exact J_some (fun k => w_ireturn rfl rfl k)
  · refine J.mono (fun k => s_if_eq_f rfl hc5 (w_iload_n rfl rfl k)) ?_
    refine J_hyp (fun k => c_si1 rfl rfl (fun ho hM => cal_mo_isMore (by omega)   ho hM) v_mo_isMore (Nat.le_of_ble_eq_true rfl) k) (fun hr7 hb8 => ?_)
    refine J_ite (fun hc9 => ?_) (fun hc9 => ?_)
    · refine J.mono (fun k => s_if_eq_t rfl hc9 (w_iconst rfl (inR_c rfl) k)) ?_
      exact J_some (fun k => w_ireturn rfl rfl k)
    · refine J.mono (fun k => s_if_eq_f rfl hc9 (w_iload_n rfl rfl (w_iconst rfl (inR_c rfl) (w_bipush rfl (bip_c rfl) k)))) ?_
      refine J_hyp (fun k => c_si3 rfl rfl (fun ho hM => cal_mo_in (by omega)   ho hM) v_mo_in (Nat.le_of_ble_eq_true rfl) k) (fun hr11 hb12 => ?_)
      refine J_ite (fun hc13 => ?_) (fun hc13 => ?_)
      · refine J.mono (fun k => s_if_ne_f rfl hc13 (w_iconst rfl (inR_c rfl) k)) ?_
        exact J_some (fun k => w_ireturn rfl rfl k)
      · refine J.mono (fun k => s_if_ne_t rfl hc13 (w_aload_n rfl rfl (w_iload_n rfl rfl k))) ?_
        refine J_c (fun M15 e14 => ?_)
        refine J.mono (fun k => c_vv1 rfl (fun ho hM => cal_mo_timesNow (by omega)  e14 ho hM) v_mo_timesNow (Nat.le_of_ble_eq_true rfl) S_278 rfl (Nat.le_of_ble_eq_true rfl) (w_aload_n rfl rfl (w_iload_n rfl rfl (w_iload_n rfl rfl k)))) ?_
        refine J_c (fun r17 e16 => ?_)
        refine J_hyp (fun k => c_vi2 rfl (fun ho hM => cal_mo_latest (by omega)  e16 ho hM) v_mo_latest (Nat.le_of_ble_eq_true rfl) S_278 rfl (Nat.le_of_ble_eq_true rfl) k) (fun hr18 hb19 => ?_)
        refine J.mono (fun k => s_istore4 rfl (Nat.le_of_ble_eq_true rfl) (w_iload rfl rfl (w_iconst rfl (inR_c rfl) k))) ?_
        refine J_ite (fun hc20 => ?_) (fun hc20 => ?_)
        · refine J.mono (fun k => s_icmp_ne_f rfl hc20 (w_bipush rfl (bip_c rfl) k)) ?_
          exact J_some (fun k => w_ireturn rfl rfl k)
        · refine J.mono (fun k => s_icmp_ne_t rfl hc20 (w_aload_n rfl rfl (w_iconst rfl (inR_c rfl) k))) ?_
          refine J_b ?_
          refine J.mono (fun k => w_putI rfl (Nat.le_of_ble_eq_true rfl) S_278 rfl rfl (w_aload_n rfl rfl (w_iload_n rfl rfl (w_aload_n rfl rfl (w_iload rfl rfl (w_iload_n rfl rfl k)))))) ?_
          refine J_c (fun r23 e22 => ?_)
          refine J_hyp (fun k => c_vi2 rfl (fun ho hM => cal_mo_there (by omega)  e22 ho hM) v_mo_there (Nat.le_of_ble_eq_true rfl) S_278 rfl (Nat.le_of_ble_eq_true rfl) k) (fun hr24 hb25 => ?_)
          refine J.mono (fun k => w_isub rfl k) ?_
          refine J_c (fun M27 e26 => ?_)
          refine J.mono (fun k => c_vv1 rfl (fun ho hM => cal_mo_tell (by omega)  e26 ho hM) v_mo_tell (Nat.le_of_ble_eq_true rfl) S_278 rfl (Nat.le_of_ble_eq_true rfl) (w_iload rfl rfl k)) ?_
          exact J_some (fun k => w_ireturn rfl rfl k)
set_option maxRecDepth 20000 in
set_option maxHeartbeats 4000000 in
theorem cal_mo_leave {Δ : DT} {d : Nat} (hd : 78 ≤ d) {x1 : Int} {x2 : Int} {x3 : Int}  {M : MEM} {p : Int × MEM} (h : mo_leave x1 x2 x3 M = some p) (ho : okVs [vR 278, vI x1, vI x2, vI x3]) (hM : okM M) : Cal Δ false m_mo_leave d [vR 278, vI x1, vI x2, vI x3] (NG, S0, M) (some p.1) (NG, S0, p.2) 0 0 := by
  obtain ⟨d, rfl⟩ : ∃ e, d = e + 1 := ⟨d - 1, by omega⟩
  exact cal_of g_mo_leave p_mo_leave (fun v hv => by simp only [List.mem_cons, List.not_mem_nil, or_false] at hv; rcases hv with rfl | rfl | rfl | rfl <;> first | exact Or.inl ⟨_, rfl⟩ | exact Or.inr ⟨_, rfl⟩) ho hM (Nat.le_of_ble_eq_true rfl) (fun Γ _ k => J_mo_leave hd  _ h k)
abbrev HD_mo_sure_b46 (Δ : DT) (Γ : FT) (d : Nat) (x1 : Int) (x2 : Int) (x3 : Int) (x4 : Int) (s : Int × MEM) : Prop := WAt Δ Γ false m_mo_sure (d + 1) 46 [vR (278), vI (x1), vI (x2), vI (x3), vI (x4), vI (s.1), vN, vN, vN, vN, vN] [] (NG, S0, s.2) 0 0
abbrev X_mo_sure_b46 (Δ : DT) (Γ : FT) (d : Nat) (x1 : Int) (x2 : Int) (x3 : Int) (x4 : Int) (s : Int × MEM) : Prop := WAt Δ Γ false m_mo_sure (d + 1) 92 [vR (278), vN, vN, vN, vI (x4), vN, vN, vN, vN, vN, vN] [] (NG, S0, s.2) 0 0
set_option maxRecDepth 20000 in
set_option maxHeartbeats 4000000 in
theorem Jb_mo_sure_b46 {Δ : DT} {Γ : FT} {d : Nat} (hd : 77 ≤ d + 1) {x1 : Int} {x2 : Int} {x3 : Int} {x4 : Int}  {x5 : Int} {M : MEM} : J (mo_sure_b46 x1 x2 x3 x4 x5 M) (Sum.elim (HD_mo_sure_b46 Δ Γ d x1 x2 x3 x4) (X_mo_sure_b46 Δ Γ d x1 x2 x3 x4)) (WAt Δ Γ false m_mo_sure (d + 1) 46 [vR (278), vI (x1), vI (x2), vI (x3), vI (x4), vI (x5), vN, vN, vN, vN, vN] [] (NG, S0, M) 0 0) := by
  unfold mo_sure_b46
  refine J.mono (fun k => w_iload rfl rfl (w_bipush rfl (bip_c rfl) k)) ?_
  refine J_ite (fun hc18 => ?_) (fun hc18 => ?_)
  · refine J.mono (fun k => s_icmp_ge_t rfl hc18 k) ?_
    exact J_some (fun k => w_forget (wk_k (wk_d (wk_d (wk_d (wk_k (wk_d (wk_d (wk_d (wk_d (wk_d (wk_d wk_0))))))))))) k)
  · refine J.mono (fun k => s_icmp_ge_f rfl hc18 (w_aload_n rfl rfl k)) ?_
    refine J_c (fun M20 e19 => ?_)
    refine J.mono (fun k => c_vv0 rfl (fun ho hM => cal_mo_beginThen (by omega)  e19 ho hM) v_mo_beginThen (Nat.le_of_ble_eq_true rfl) S_278 rfl (Nat.le_of_ble_eq_true rfl) (w_aload_n rfl rfl (w_getR (r := 292) rfl (Nat.le_of_ble_eq_true rfl) S_278 rfl (w_bipush rfl (bip_c rfl) (w_iload_n rfl rfl (w_imul rfl (w_iload rfl rfl k))))))) ?_
    refine J_chk (fun hi22 => ?_)
    refine J_b ?_
    refine J.mono (fun k => w_iast rfl A_292.1 A_292.2 hi22.1 hi22.2 rfl (w_aload_n rfl rfl (w_iload_n rfl rfl k))) ?_
    refine J_c (fun M24 e23 => ?_)
    refine J.mono (fun k => c_vv1 rfl (fun ho hM => cal_mo_findTimes (by omega)  e23 ho hM) v_mo_findTimes (Nat.le_of_ble_eq_true rfl) S_278 rfl (Nat.le_of_ble_eq_true rfl) (w_aload_n rfl rfl (w_getR (r := 299) rfl (Nat.le_of_ble_eq_true rfl) S_278 rfl (w_iload rfl rfl (w_aload_n rfl rfl (w_iload_n rfl rfl (w_iload_n rfl rfl k))))))) ?_
    refine J_c (fun r26 e25 => ?_)
    refine J_hyp (fun k => c_vi2 rfl (fun ho hM => cal_mo_latest (by omega)  e25 ho hM) v_mo_latest (Nat.le_of_ble_eq_true rfl) S_278 rfl (Nat.le_of_ble_eq_true rfl) k) (fun hr27 hb28 => ?_)
    refine J_chk (fun hi30 => ?_)
    refine J_b ?_
    refine J.mono (fun k => w_iast rfl A_299.1 A_299.2 hi30.1 hi30.2 rfl (s_iinc5 rfl (Nat.le_of_ble_eq_true rfl) (w_goto rfl k))) ?_
    exact J_some (fun k => w_forget (wk_k (wk_k (wk_k (wk_k (wk_k (wk_k (wk_d (wk_d (wk_d (wk_d (wk_d wk_0))))))))))) k)
set_option maxRecDepth 20000 in
set_option maxHeartbeats 4000000 in
theorem Jl_mo_sure_b46 {Δ : DT} {Γ : FT} {d : Nat} (hd : 77 ≤ d + 1) {x1 : Int} {x2 : Int} {x3 : Int} {x4 : Int}   : ∀ (n : Nat) (s : Int × MEM), J (iter (fun s => mo_sure_b46 x1 x2 x3 x4 s.1 s.2) n s) (X_mo_sure_b46 Δ Γ d x1 x2 x3 x4) (HD_mo_sure_b46 Δ Γ d x1 x2 x3 x4 s) := J_iter (fun s => Jb_mo_sure_b46 hd )
abbrev HD_mo_sure_b97 (Δ : DT) (Γ : FT) (d : Nat) (x4 : Int) (M : MEM) (s : Int) : Prop := WAt Δ Γ false m_mo_sure (d + 1) 97 [vR (278), vN, vN, vN, vI (x4), vI (s), vN, vN, vN, vN, vN] [] (NG, S0, M) 0 0
abbrev X_mo_sure_b97 (Δ : DT) (Γ : FT) (d : Nat) (x4 : Int) (M : MEM) : (Int × MEM) ⊕ (Int) → Prop := Sum.elim (K_IM Δ Γ m_mo_sure) (fun s => WAt Δ Γ false m_mo_sure (d + 1) 186 [vN, vN, vN, vN, vN, vN, vN, vN, vN, vN, vN] [] (NG, S0, M) 0 0)
abbrev HD_mo_sure_b119 (Δ : DT) (Γ : FT) (d : Nat) (x4 : Int) (x5 : Int) (x8 : Int) (M : MEM) (s : Int × Int) : Prop := WAt Δ Γ false m_mo_sure (d + 1) 119 [vR (278), vN, vN, vN, vI (x4), vI (x5), vI (s.1), vR (299), vI (x8), vI (s.2), vN] [] (NG, S0, M) 0 0
abbrev X_mo_sure_b119 (Δ : DT) (Γ : FT) (d : Nat) (x4 : Int) (x5 : Int) (x8 : Int) (M : MEM) (s : Int × Int) : Prop := WAt Δ Γ false m_mo_sure (d + 1) 156 [vR (278), vN, vN, vN, vI (x4), vI (x5), vI (s.1), vN, vN, vN, vN] [] (NG, S0, M) 0 0
set_option maxRecDepth 20000 in
set_option maxHeartbeats 4000000 in
theorem J_mo_sure_j147_119 {Δ : DT} {Γ : FT} {d : Nat} (hd : 77 ≤ d + 1) {x4 : Int} {x5 : Int} {x8 : Int} {x9 : Int} {s0 : Int} {s1 : Int}  {M : MEM} : J (mo_sure_j147_119 x4 x5 x8 x9 s0 s1 M) (Sum.elim (HD_mo_sure_b119 Δ Γ d x4 x5 x8 M) (X_mo_sure_b119 Δ Γ d x4 x5 x8 M)) (WAt Δ Γ false m_mo_sure (d + 1) 147 [vR (278), vN, vN, vN, vI (x4), vI (x5), vN, vR (299), vI (x8), vI (x9), vN] [vI (s1), vI (s0)] (NG, S0, M) 0 0) := by
  unfold mo_sure_j147_119
  refine J.mono (fun k => w_iadd rfl (s_istore6 rfl (Nat.le_of_ble_eq_true rfl) (s_iinc9 rfl (Nat.le_of_ble_eq_true rfl) (w_goto rfl k)))) ?_
  exact J_some (fun k => w_forget (wk_k (wk_d (wk_d (wk_d (wk_k (wk_k (wk_k (wk_k (wk_k (wk_k (wk_d wk_0))))))))))) k)
set_option maxRecDepth 20000 in
set_option maxHeartbeats 4000000 in
theorem Jb_mo_sure_b119 {Δ : DT} {Γ : FT} {d : Nat} (hd : 77 ≤ d + 1) {x4 : Int} {x5 : Int} {x8 : Int}  {x6 : Int} {x9 : Int} {M : MEM} : J (mo_sure_b119 x4 x5 x8 x6 x9 M) (Sum.elim (HD_mo_sure_b119 Δ Γ d x4 x5 x8 M) (X_mo_sure_b119 Δ Γ d x4 x5 x8 M)) (WAt Δ Γ false m_mo_sure (d + 1) 119 [vR (278), vN, vN, vN, vI (x4), vI (x5), vI (x6), vR (299), vI (x8), vI (x9), vN] [] (NG, S0, M) 0 0) := by
  unfold mo_sure_b119
  refine J.mono (fun k => w_iload rfl rfl (w_iload rfl rfl k)) ?_
  refine J_ite (fun hc33 => ?_) (fun hc33 => ?_)
  · refine J.mono (fun k => s_icmp_ge_t rfl hc33 k) ?_
    exact J_some (fun k => w_forget (wk_k (wk_d (wk_d (wk_d (wk_k (wk_k (wk_k (wk_d (wk_d (wk_d (wk_d wk_0))))))))))) k)
  · refine J.mono (fun k => s_icmp_ge_f rfl hc33 (w_aload rfl rfl (w_iload rfl rfl k))) ?_
    refine J_chk (fun hi34 => ?_)
    refine J.mono (fun k => w_iald rfl A_299.1 A_299.2 hi34.1 hi34.2 (s_istore10 rfl (Nat.le_of_ble_eq_true rfl) (w_iload rfl rfl (w_iload rfl rfl (w_iload rfl rfl k))))) ?_
    refine J_ite (fun hc35 => ?_) (fun hc35 => ?_)
    · refine J.mono (fun k => s_icmp_lt_t rfl hc35 (w_iconst rfl (inR_c rfl) k)) ?_
      exact J.mono (fun k => w_forget (wk_k (wk_d (wk_d (wk_d (wk_k (wk_k (wk_d (wk_k (wk_k (wk_k (wk_d wk_0))))))))))) k) (J_mo_sure_j147_119 hd )
    · refine J.mono (fun k => s_icmp_lt_f rfl hc35 (w_iconst rfl (inR_c rfl) (w_goto rfl k))) ?_
      exact J.mono (fun k => w_forget (wk_k (wk_d (wk_d (wk_d (wk_k (wk_k (wk_d (wk_k (wk_k (wk_k (wk_d wk_0))))))))))) k) (J_mo_sure_j147_119 hd )
set_option maxRecDepth 20000 in
set_option maxHeartbeats 4000000 in
theorem Jl_mo_sure_b119 {Δ : DT} {Γ : FT} {d : Nat} (hd : 77 ≤ d + 1) {x4 : Int} {x5 : Int} {x8 : Int}  {M : MEM} : ∀ (n : Nat) (s : Int × Int), J (iter (fun s => mo_sure_b119 x4 x5 x8 s.1 s.2 M) n s) (X_mo_sure_b119 Δ Γ d x4 x5 x8 M) (HD_mo_sure_b119 Δ Γ d x4 x5 x8 M s) := J_iter (fun s => Jb_mo_sure_b119 hd )
set_option maxRecDepth 20000 in
set_option maxHeartbeats 4000000 in
theorem Jb_mo_sure_b97 {Δ : DT} {Γ : FT} {d : Nat} (hd : 77 ≤ d + 1) {x4 : Int}  {x5 : Int} {M : MEM} : J (mo_sure_b97 x4 x5 M) (Sum.elim (HD_mo_sure_b97 Δ Γ d x4 M) (X_mo_sure_b97 Δ Γ d x4 M)) (WAt Δ Γ false m_mo_sure (d + 1) 97 [vR (278), vN, vN, vN, vI (x4), vI (x5), vN, vN, vN, vN, vN] [] (NG, S0, M) 0 0) := by
  unfold mo_sure_b97
  refine J.mono (fun k => w_iload rfl rfl k) ?_
  refine J_ite (fun hc32 => ?_) (fun hc32 => ?_)
  · refine J.mono (fun k => s_if_lt_t rfl hc32 k) ?_
    exact J_some (fun k => w_forget (wk_d (wk_d (wk_d (wk_d (wk_d (wk_d (wk_d (wk_d (wk_d (wk_d (wk_d wk_0))))))))))) k)
  · refine J.mono (fun k => s_if_lt_f rfl hc32 (w_iconst rfl (inR_c rfl) (s_istore6 rfl (Nat.le_of_ble_eq_true rfl) (w_aload_n rfl rfl (w_getR (r := 299) rfl (Nat.le_of_ble_eq_true rfl) S_278 rfl (s_astore7 rfl (Nat.le_of_ble_eq_true rfl) (w_aload rfl rfl (w_alen rfl A_299.1 (Nat.le_of_ble_eq_true rfl) A_299.2 (Nat.le_of_ble_eq_true rfl) (s_istore8 rfl (Nat.le_of_ble_eq_true rfl) (w_iconst rfl (inR_c rfl) (s_istore9 rfl (Nat.le_of_ble_eq_true rfl) k))))))))))) ?_
    refine J.mono (fun k => w_forget (wk_k (wk_d (wk_d (wk_d (wk_k (wk_k (wk_k (wk_k (wk_k (wk_k (wk_d wk_0))))))))))) k) ?_
    refine J_loop (Jl_mo_sure_b119 hd  _ _) (fun w36 => ?_)
    refine J.mono (fun k => w_iload rfl rfl (w_iload rfl rfl k)) ?_
    refine J_ite (fun hc37 => ?_) (fun hc37 => ?_)
    · refine J.mono (fun k => s_icmp_ge_t rfl hc37 (w_aload_n rfl rfl (w_iconst rfl (inR_c rfl) k))) ?_
      refine J_b ?_
      refine J.mono (fun k => w_putI rfl (Nat.le_of_ble_eq_true rfl) S_278 rfl rfl (w_aload_n rfl rfl (w_iload rfl rfl k))) ?_
      refine J_c (fun M40 e39 => ?_)
      refine J.mono (fun k => c_vv1 rfl (fun ho hM => cal_mo_tell (by omega)  e39 ho hM) v_mo_tell (Nat.le_of_ble_eq_true rfl) S_278 rfl (Nat.le_of_ble_eq_true rfl) (w_iload rfl rfl k)) ?_
      exact J_some (fun k => w_ireturn rfl rfl k)
    · refine J.mono (fun k => s_icmp_ge_f rfl hc37 (w_goto rfl (s_iinc5 rfl (Nat.le_of_ble_eq_true rfl) (w_goto rfl k)))) ?_
      exact J_some (fun k => w_forget (wk_k (wk_d (wk_d (wk_d (wk_k (wk_k (wk_d (wk_d (wk_d (wk_d (wk_d wk_0))))))))))) k)
set_option maxRecDepth 20000 in
set_option maxHeartbeats 4000000 in
theorem Jl_mo_sure_b97 {Δ : DT} {Γ : FT} {d : Nat} (hd : 77 ≤ d + 1) {x4 : Int}  {M : MEM} : ∀ (n : Nat) (s : Int), J (iter (fun s => mo_sure_b97 x4 s M) n s) (X_mo_sure_b97 Δ Γ d x4 M) (HD_mo_sure_b97 Δ Γ d x4 M s) := J_iter (fun s => Jb_mo_sure_b97 hd )
set_option maxRecDepth 20000 in
set_option maxHeartbeats 4000000 in
theorem J_mo_sure {Δ : DT} {Γ : FT} {d : Nat} (hd : 77 ≤ d + 1) {x1 : Int} {x2 : Int} {x3 : Int} {x4 : Int}  {M : MEM} : J (mo_sure x1 x2 x3 x4 M) (K_IM Δ Γ m_mo_sure) (WAt Δ Γ false m_mo_sure (d + 1) 0 [vR (278), vI (x1), vI (x2), vI (x3), vI (x4), vN, vN, vN, vN, vN, vN] [] (NG, S0, M) 0 0) := by
  unfold mo_sure
  refine J.mono (fun k => w_aload_n rfl rfl (w_iconst rfl (inR_c rfl) k)) ?_
  refine J_b ?_
  refine J.mono (fun k => w_putI rfl (Nat.le_of_ble_eq_true rfl) S_278 rfl rfl (w_aload_n rfl rfl (w_iload_n rfl rfl k))) ?_
  refine J_hyp (fun k => c_vi1 rfl (fun ho hM => cal_mo_isDonkey (by omega)   ho hM) v_mo_isDonkey (Nat.le_of_ble_eq_true rfl) S_278 rfl (Nat.le_of_ble_eq_true rfl) k) (fun hr3 hb4 => ?_)
  refine J_ite (fun hc5 => ?_) (fun hc5 => ?_)
  · refine J.mono (fun k => s_if_eq_t rfl hc5 (w_iconst rfl (inR_c rfl) k)) ?_
    exact J_some (fun k => w_ireturn rfl rfl k)
  · refine J.mono (fun k => s_if_eq_f rfl hc5 (w_iload_n rfl rfl k)) ?_
    refine J_hyp (fun k => c_si1 rfl rfl (fun ho hM => cal_mo_isMore (by omega)   ho hM) v_mo_isMore (Nat.le_of_ble_eq_true rfl) k) (fun hr7 hb8 => ?_)
    refine J_ite (fun hc9 => ?_) (fun hc9 => ?_)
    · refine J.mono (fun k => s_if_eq_t rfl hc9 (w_iconst rfl (inR_c rfl) k)) ?_
      exact J_some (fun k => w_ireturn rfl rfl k)
    · refine J.mono (fun k => s_if_eq_f rfl hc9 (w_iload_n rfl rfl (w_iconst rfl (inR_c rfl) (w_bipush rfl (bip_c rfl) k)))) ?_
      refine J_hyp (fun k => c_si3 rfl rfl (fun ho hM => cal_mo_in (by omega)   ho hM) v_mo_in (Nat.le_of_ble_eq_true rfl) k) (fun hr11 hb12 => ?_)
      refine J_ite (fun hc13 => ?_) (fun hc13 => ?_)
      · refine J.mono (fun k => s_if_eq_t rfl hc13 (w_iconst rfl (inR_c rfl) k)) ?_
        exact J_some (fun k => w_ireturn rfl rfl k)
      · refine J.mono (fun k => s_if_eq_f rfl hc13 (w_iload rfl rfl (w_iconst rfl (inR_c rfl) (w_bipush rfl (bip_c rfl) k)))) ?_
        refine J_hyp (fun k => c_si3 rfl rfl (fun ho hM => cal_mo_in (by omega)   ho hM) v_mo_in (Nat.le_of_ble_eq_true rfl) k) (fun hr15 hb16 => ?_)
        refine J_ite (fun hc17 => ?_) (fun hc17 => ?_)
        · refine J.mono (fun k => s_if_ne_f rfl hc17 (w_iconst rfl (inR_c rfl) k)) ?_
          exact J_some (fun k => w_ireturn rfl rfl k)
        · refine J.mono (fun k => s_if_ne_t rfl hc17 (w_iconst rfl (inR_c rfl) (s_istore5 rfl (Nat.le_of_ble_eq_true rfl) k))) ?_
          refine J.mono (fun k => w_forget (wk_k (wk_k (wk_k (wk_k (wk_k (wk_k (wk_d (wk_d (wk_d (wk_d (wk_d wk_0))))))))))) k) ?_
          refine J_loop (Jl_mo_sure_b46 hd  _ _) (fun w31 => ?_)
          refine J.mono (fun k => w_sipush rfl (sip_c rfl) (s_istore5 rfl (Nat.le_of_ble_eq_true rfl) k)) ?_
          refine J.mono (fun k => w_forget (wk_k (wk_d (wk_d (wk_d (wk_k (wk_k (wk_d (wk_d (wk_d (wk_d (wk_d wk_0))))))))))) k) ?_
          refine J_loop (Jl_mo_sure_b97 hd  _ _) (fun w41 => ?_)
          refine J_elim (fun r => J_some (fun k => k)) (fun w41 => ?_)
          refine J.mono (fun k => w_bipush rfl (bip_c rfl) k) ?_
          exact J_some (fun k => w_ireturn rfl rfl k)
set_option maxRecDepth 20000 in
set_option maxHeartbeats 4000000 in
theorem cal_mo_sure {Δ : DT} {d : Nat} (hd : 77 ≤ d) {x1 : Int} {x2 : Int} {x3 : Int} {x4 : Int}  {M : MEM} {p : Int × MEM} (h : mo_sure x1 x2 x3 x4 M = some p) (ho : okVs [vR 278, vI x1, vI x2, vI x3, vI x4]) (hM : okM M) : Cal Δ false m_mo_sure d [vR 278, vI x1, vI x2, vI x3, vI x4] (NG, S0, M) (some p.1) (NG, S0, p.2) 0 0 := by
  obtain ⟨d, rfl⟩ : ∃ e, d = e + 1 := ⟨d - 1, by omega⟩
  exact cal_of g_mo_sure p_mo_sure (fun v hv => by simp only [List.mem_cons, List.not_mem_nil, or_false] at hv; rcases hv with rfl | rfl | rfl | rfl | rfl <;> first | exact Or.inl ⟨_, rfl⟩ | exact Or.inr ⟨_, rfl⟩) ho hM (Nat.le_of_ble_eq_true rfl) (fun Γ _ k => J_mo_sure hd  _ h k)
abbrev HD_mo_missed_b54 (Δ : DT) (Γ : FT) (d : Nat) (x2 : Int) (x3 : Int) (x4 : Int) (s : Int × MEM) : Prop := WAt Δ Γ false m_mo_missed (d + 1) 54 [vR (278), vN, vI (x2), vI (x3), vI (x4), vI (s.1), vN, vN] [] (NG, S0, s.2) 0 0
abbrev X_mo_missed_b54 (Δ : DT) (Γ : FT) (d : Nat) (x2 : Int) (x3 : Int) (x4 : Int) (s : Int × MEM) : Prop := WAt Δ Γ false m_mo_missed (d + 1) 76 [vR (278), vN, vI (x2), vI (x3), vI (x4), vN, vN, vN] [] (NG, S0, s.2) 0 0
set_option maxRecDepth 20000 in
set_option maxHeartbeats 4000000 in
theorem Jb_mo_missed_b54 {Δ : DT} {Γ : FT} {d : Nat} (hd : 78 ≤ d + 1) {x2 : Int} {x3 : Int} {x4 : Int}  {x5 : Int} {M : MEM} : J (mo_missed_b54 x2 x3 x4 x5 M) (Sum.elim (HD_mo_missed_b54 Δ Γ d x2 x3 x4) (X_mo_missed_b54 Δ Γ d x2 x3 x4)) (WAt Δ Γ false m_mo_missed (d + 1) 54 [vR (278), vN, vI (x2), vI (x3), vI (x4), vI (x5), vN, vN] [] (NG, S0, M) 0 0) := by
  unfold mo_missed_b54
  refine J.mono (fun k => w_iload rfl rfl (w_sipush rfl (sip_c rfl) k)) ?_
  refine J_ite (fun hc20 => ?_) (fun hc20 => ?_)
  · refine J.mono (fun k => s_icmp_gt_t rfl hc20 k) ?_
    exact J_some (fun k => w_forget (wk_k (wk_d (wk_k (wk_k (wk_k (wk_d (wk_d (wk_d wk_0)))))))) k)
  · refine J.mono (fun k => s_icmp_gt_f rfl hc20 (w_aload_n rfl rfl (w_getR (r := 300) rfl (Nat.le_of_ble_eq_true rfl) S_278 rfl (w_iload rfl rfl (w_iconst rfl (inR_c rfl) k))))) ?_
    refine J_chk (fun hi22 => ?_)
    refine J_b ?_
    refine J.mono (fun k => w_zast rfl A_300.1 A_300.2 hi22.1 hi22.2 (Or.inl rfl) rfl (s_iinc5 rfl (Nat.le_of_ble_eq_true rfl) (w_goto rfl k))) ?_
    exact J_some (fun k => w_forget (wk_k (wk_d (wk_k (wk_k (wk_k (wk_k (wk_d (wk_d wk_0)))))))) k)
set_option maxRecDepth 20000 in
set_option maxHeartbeats 4000000 in
theorem Jl_mo_missed_b54 {Δ : DT} {Γ : FT} {d : Nat} (hd : 78 ≤ d + 1) {x2 : Int} {x3 : Int} {x4 : Int}   : ∀ (n : Nat) (s : Int × MEM), J (iter (fun s => mo_missed_b54 x2 x3 x4 s.1 s.2) n s) (X_mo_missed_b54 Δ Γ d x2 x3 x4) (HD_mo_missed_b54 Δ Γ d x2 x3 x4 s) := J_iter (fun s => Jb_mo_missed_b54 hd )
abbrev HD_mo_missed_b82 (Δ : DT) (Γ : FT) (d : Nat) (x2 : Int) (x3 : Int) (x4 : Int) (s : Int × Int × MEM) : Prop := WAt Δ Γ false m_mo_missed (d + 1) 82 [vR (278), vN, vI (x2), vI (x3), vI (x4), vI (s.1), vI (s.2.1), vN] [] (NG, S0, s.2.2) 0 0
abbrev X_mo_missed_b82 (Δ : DT) (Γ : FT) (d : Nat) (x2 : Int) (x3 : Int) (x4 : Int) (s : Int × Int × MEM) : Prop := WAt Δ Γ false m_mo_missed (d + 1) 144 [vR (278), vN, vI (x2), vN, vN, vI (s.1), vN, vN] [] (NG, S0, s.2.2) 0 0
set_option maxRecDepth 20000 in
set_option maxHeartbeats 4000000 in
theorem J_mo_missed_j135_82 {Δ : DT} {Γ : FT} {d : Nat} (hd : 78 ≤ d + 1) {x2 : Int} {x3 : Int} {x4 : Int} {x5 : Int} {x6 : Int}  {M : MEM} : J (mo_missed_j135_82 x2 x3 x4 x5 x6 M) (Sum.elim (HD_mo_missed_b82 Δ Γ d x2 x3 x4) (X_mo_missed_b82 Δ Γ d x2 x3 x4)) (WAt Δ Γ false m_mo_missed (d + 1) 135 [vR (278), vN, vI (x2), vI (x3), vI (x4), vI (x5), vI (x6), vN] [] (NG, S0, M) 0 0) := by
  unfold mo_missed_j135_82
  refine J.mono (fun k => w_iload rfl rfl (w_iload_n rfl rfl (w_iadd rfl (s_istore6 rfl (Nat.le_of_ble_eq_true rfl) (w_goto rfl k))))) ?_
  exact J_some (fun k => w_forget (wk_k (wk_d (wk_k (wk_k (wk_k (wk_k (wk_k (wk_d wk_0)))))))) k)
set_option maxRecDepth 20000 in
set_option maxHeartbeats 4000000 in
theorem Jb_mo_missed_b82 {Δ : DT} {Γ : FT} {d : Nat} (hd : 78 ≤ d + 1) {x2 : Int} {x3 : Int} {x4 : Int}  {x5 : Int} {x6 : Int} {M : MEM} : J (mo_missed_b82 x2 x3 x4 x5 x6 M) (Sum.elim (HD_mo_missed_b82 Δ Γ d x2 x3 x4) (X_mo_missed_b82 Δ Γ d x2 x3 x4)) (WAt Δ Γ false m_mo_missed (d + 1) 82 [vR (278), vN, vI (x2), vI (x3), vI (x4), vI (x5), vI (x6), vN] [] (NG, S0, M) 0 0) := by
  unfold mo_missed_b82
  refine J.mono (fun k => w_iload rfl rfl (w_aload_n rfl rfl (w_getI rfl (Nat.le_of_ble_eq_true rfl) S_278 rfl k))) ?_
  refine J_ite (fun hc24 => ?_) (fun hc24 => ?_)
  · refine J.mono (fun k => s_icmp_gt_t rfl hc24 k) ?_
    exact J_some (fun k => w_forget (wk_k (wk_d (wk_k (wk_d (wk_d (wk_k (wk_d (wk_d wk_0)))))))) k)
  · refine J.mono (fun k => s_icmp_gt_f rfl hc24 (w_iconst rfl (inR_c rfl) (w_aload_n rfl rfl (w_iload rfl rfl (w_iload rfl rfl k))))) ?_
    refine J_c (fun r26 e25 => ?_)
    refine J_hyp (fun k => c_vi2 rfl (fun ho hM => cal_mo_there (by omega)  e25 ho hM) v_mo_there (Nat.le_of_ble_eq_true rfl) S_278 rfl (Nat.le_of_ble_eq_true rfl) k) (fun hr27 hb28 => ?_)
    refine J.mono (fun k => w_iload_n rfl rfl (w_iadd rfl (w_iconst rfl (inR_c rfl) (w_isub rfl (w_iload_n rfl rfl k))))) ?_
    refine J_chn (fun hz29 => ?_)
    refine J.mono (fun k => w_idiv rfl hz29 k) ?_
    refine J.mono (fun k => w_mmax rfl (Nat.le_of_ble_eq_true rfl) k) ?_
    refine J.mono (fun k => w_iload_n rfl rfl (w_imul rfl (s_istore7 rfl (Nat.le_of_ble_eq_true rfl) (w_iload rfl rfl (w_sipush rfl (sip_c rfl) k))))) ?_
    refine J_ite (fun hc30 => ?_) (fun hc30 => ?_)
    · refine J.mono (fun k => s_icmp_le_t rfl hc30 (w_aload_n rfl rfl (w_getR (r := 300) rfl (Nat.le_of_ble_eq_true rfl) S_278 rfl (w_iload rfl rfl (w_iconst rfl (inR_c rfl) k))))) ?_
      refine J_chk (fun hi32 => ?_)
      refine J_b ?_
      refine J.mono (fun k => w_zast rfl A_300.1 A_300.2 hi32.1 hi32.2 (Or.inr rfl) rfl k) ?_
      exact J.mono (fun k => w_forget (wk_k (wk_d (wk_k (wk_k (wk_k (wk_k (wk_k (wk_d wk_0)))))))) k) (J_mo_missed_j135_82 hd )
    · refine J.mono (fun k => s_icmp_le_f rfl hc30 (s_iinc5 rfl (Nat.le_of_ble_eq_true rfl) (w_goto rfl k))) ?_
      exact J.mono (fun k => w_forget (wk_k (wk_d (wk_k (wk_k (wk_k (wk_k (wk_k (wk_d wk_0)))))))) k) (J_mo_missed_j135_82 hd )
set_option maxRecDepth 20000 in
set_option maxHeartbeats 4000000 in
theorem Jl_mo_missed_b82 {Δ : DT} {Γ : FT} {d : Nat} (hd : 78 ≤ d + 1) {x2 : Int} {x3 : Int} {x4 : Int}   : ∀ (n : Nat) (s : Int × Int × MEM), J (iter (fun s => mo_missed_b82 x2 x3 x4 s.1 s.2.1 s.2.2) n s) (X_mo_missed_b82 Δ Γ d x2 x3 x4) (HD_mo_missed_b82 Δ Γ d x2 x3 x4 s) := J_iter (fun s => Jb_mo_missed_b82 hd )
abbrev HD_mo_missed_b150 (Δ : DT) (Γ : FT) (d : Nat) (x2 : Int) (x5 : Int) (M : MEM) (s : Int × Int) : Prop := WAt Δ Γ false m_mo_missed (d + 1) 150 [vR (278), vN, vI (x2), vN, vN, vI (x5), vI (s.1), vI (s.2)] [] (NG, S0, M) 0 0
abbrev X_mo_missed_b150 (Δ : DT) (Γ : FT) (d : Nat) (x2 : Int) (x5 : Int) (M : MEM) (s : Int × Int) : Prop := WAt Δ Γ false m_mo_missed (d + 1) 187 [vR (278), vN, vN, vN, vN, vI (x5), vI (s.1), vN] [] (NG, S0, M) 0 0
set_option maxRecDepth 20000 in
set_option maxHeartbeats 4000000 in
theorem J_mo_missed_j175_150 {Δ : DT} {Γ : FT} {d : Nat} (hd : 78 ≤ d + 1) {x2 : Int} {x5 : Int} {x7 : Int} {s0 : Int} {s1 : Int}  {M : MEM} : J (mo_missed_j175_150 x2 x5 x7 s0 s1 M) (Sum.elim (HD_mo_missed_b150 Δ Γ d x2 x5 M) (X_mo_missed_b150 Δ Γ d x2 x5 M)) (WAt Δ Γ false m_mo_missed (d + 1) 175 [vR (278), vN, vI (x2), vN, vN, vI (x5), vN, vI (x7)] [vI (s1), vI (s0)] (NG, S0, M) 0 0) := by
  unfold mo_missed_j175_150
  refine J.mono (fun k => w_iadd rfl (s_istore6 rfl (Nat.le_of_ble_eq_true rfl) (w_iload rfl rfl (w_iload_n rfl rfl (w_iadd rfl (s_istore7 rfl (Nat.le_of_ble_eq_true rfl) (w_goto rfl k))))))) ?_
  exact J_some (fun k => w_forget (wk_k (wk_d (wk_k (wk_d (wk_d (wk_k (wk_k (wk_k wk_0)))))))) k)
set_option maxRecDepth 20000 in
set_option maxHeartbeats 4000000 in
theorem Jb_mo_missed_b150 {Δ : DT} {Γ : FT} {d : Nat} (hd : 78 ≤ d + 1) {x2 : Int} {x5 : Int}  {x6 : Int} {x7 : Int} {M : MEM} : J (mo_missed_b150 x2 x5 x6 x7 M) (Sum.elim (HD_mo_missed_b150 Δ Γ d x2 x5 M) (X_mo_missed_b150 Δ Γ d x2 x5 M)) (WAt Δ Γ false m_mo_missed (d + 1) 150 [vR (278), vN, vI (x2), vN, vN, vI (x5), vI (x6), vI (x7)] [] (NG, S0, M) 0 0) := by
  unfold mo_missed_b150
  refine J.mono (fun k => w_iload rfl rfl (w_sipush rfl (sip_c rfl) k)) ?_
  refine J_ite (fun hc34 => ?_) (fun hc34 => ?_)
  · refine J.mono (fun k => s_icmp_gt_t rfl hc34 k) ?_
    exact J_some (fun k => w_forget (wk_k (wk_d (wk_d (wk_d (wk_d (wk_k (wk_k (wk_d wk_0)))))))) k)
  · refine J.mono (fun k => s_icmp_gt_f rfl hc34 (w_iload rfl rfl (w_aload_n rfl rfl (w_getR (r := 300) rfl (Nat.le_of_ble_eq_true rfl) S_278 rfl (w_iload rfl rfl k))))) ?_
    refine J_chk (fun hi35 => ?_)
    refine J.mono (fun k => w_zald rfl A_300.1 A_300.2 hi35.1 hi35.2 k) ?_
    refine J_ite (fun hc36 => ?_) (fun hc36 => ?_)
    · refine J.mono (fun k => s_if_eq_t rfl hc36 (w_iconst rfl (inR_c rfl) k)) ?_
      exact J.mono (fun k => w_forget (wk_k (wk_d (wk_k (wk_d (wk_d (wk_k (wk_d (wk_k wk_0)))))))) k) (J_mo_missed_j175_150 hd )
    · refine J.mono (fun k => s_if_eq_f rfl hc36 (w_iconst rfl (inR_c rfl) (w_goto rfl k))) ?_
      exact J.mono (fun k => w_forget (wk_k (wk_d (wk_k (wk_d (wk_d (wk_k (wk_d (wk_k wk_0)))))))) k) (J_mo_missed_j175_150 hd )
set_option maxRecDepth 20000 in
set_option maxHeartbeats 4000000 in
theorem Jl_mo_missed_b150 {Δ : DT} {Γ : FT} {d : Nat} (hd : 78 ≤ d + 1) {x2 : Int} {x5 : Int}  {M : MEM} : ∀ (n : Nat) (s : Int × Int), J (iter (fun s => mo_missed_b150 x2 x5 s.1 s.2 M) n s) (X_mo_missed_b150 Δ Γ d x2 x5 M) (HD_mo_missed_b150 Δ Γ d x2 x5 M s) := J_iter (fun s => Jb_mo_missed_b150 hd )
set_option maxRecDepth 20000 in
set_option maxHeartbeats 4000000 in
theorem J_mo_missed {Δ : DT} {Γ : FT} {d : Nat} (hd : 78 ≤ d + 1) {x1 : Int} {x2 : Int} {x3 : Int} {x4 : Int}  {M : MEM} : J (mo_missed x1 x2 x3 x4 M) (K_IM Δ Γ m_mo_missed) (WAt Δ Γ false m_mo_missed (d + 1) 0 [vR (278), vI (x1), vI (x2), vI (x3), vI (x4), vN, vN, vN] [] (NG, S0, M) 0 0) := by
  unfold mo_missed
  refine J.mono (fun k => w_aload_n rfl rfl (w_iconst rfl (inR_c rfl) k)) ?_
  refine J_b ?_
  refine J.mono (fun k => w_putI rfl (Nat.le_of_ble_eq_true rfl) S_278 rfl rfl (w_aload_n rfl rfl (w_iload_n rfl rfl k))) ?_
  refine J_hyp (fun k => c_vi1 rfl (fun ho hM => cal_mo_isDonkey (by omega)   ho hM) v_mo_isDonkey (Nat.le_of_ble_eq_true rfl) S_278 rfl (Nat.le_of_ble_eq_true rfl) k) (fun hr3 hb4 => ?_)
  refine J_ite (fun hc5 => ?_) (fun hc5 => ?_)
  · refine J.mono (fun k => s_if_eq_t rfl hc5 (w_iconst rfl (inR_c rfl) k)) ?_
    exact J_some (fun k => w_ireturn rfl rfl k)
  · refine J.mono (fun k => s_if_eq_f rfl hc5 (w_iload_n rfl rfl (w_iconst rfl (inR_c rfl) (w_bipush rfl (bip_c rfl) k)))) ?_
    refine J_hyp (fun k => c_si3 rfl rfl (fun ho hM => cal_mo_in (by omega)   ho hM) v_mo_in (Nat.le_of_ble_eq_true rfl) k) (fun hr7 hb8 => ?_)
    refine J_ite (fun hc9 => ?_) (fun hc9 => ?_)
    · refine J.mono (fun k => s_if_eq_t rfl hc9 (w_iconst rfl (inR_c rfl) k)) ?_
      exact J_some (fun k => w_ireturn rfl rfl k)
    · refine J.mono (fun k => s_if_eq_f rfl hc9 (w_iload_n rfl rfl (w_iconst rfl (inR_c rfl) (w_bipush rfl (bip_c rfl) k)))) ?_
      refine J_hyp (fun k => c_si3 rfl rfl (fun ho hM => cal_mo_in (by omega)   ho hM) v_mo_in (Nat.le_of_ble_eq_true rfl) k) (fun hr11 hb12 => ?_)
      refine J_ite (fun hc13 => ?_) (fun hc13 => ?_)
      · refine J.mono (fun k => s_if_eq_t rfl hc13 (w_iconst rfl (inR_c rfl) k)) ?_
        exact J_some (fun k => w_ireturn rfl rfl k)
      · refine J.mono (fun k => s_if_eq_f rfl hc13 (w_iload rfl rfl (w_iconst rfl (inR_c rfl) (w_bipush rfl (bip_c rfl) k)))) ?_
        refine J_hyp (fun k => c_si3 rfl rfl (fun ho hM => cal_mo_in (by omega)   ho hM) v_mo_in (Nat.le_of_ble_eq_true rfl) k) (fun hr15 hb16 => ?_)
        refine J_ite (fun hc17 => ?_) (fun hc17 => ?_)
        · refine J.mono (fun k => s_if_ne_f rfl hc17 (w_iconst rfl (inR_c rfl) k)) ?_
          exact J_some (fun k => w_ireturn rfl rfl k)
        · refine J.mono (fun k => s_if_ne_t rfl hc17 (w_aload_n rfl rfl (w_iload_n rfl rfl k))) ?_
          refine J_c (fun M19 e18 => ?_)
          refine J.mono (fun k => c_vv1 rfl (fun ho hM => cal_mo_timesNow (by omega)  e18 ho hM) v_mo_timesNow (Nat.le_of_ble_eq_true rfl) S_278 rfl (Nat.le_of_ble_eq_true rfl) (w_iconst rfl (inR_c rfl) (s_istore5 rfl (Nat.le_of_ble_eq_true rfl) k))) ?_
          refine J.mono (fun k => w_forget (wk_k (wk_d (wk_k (wk_k (wk_k (wk_k (wk_d (wk_d wk_0)))))))) k) ?_
          refine J_loop (Jl_mo_missed_b54 hd  _ _) (fun w23 => ?_)
          refine J.mono (fun k => w_iconst rfl (inR_c rfl) (s_istore5 rfl (Nat.le_of_ble_eq_true rfl) (w_iload_n rfl rfl (s_istore6 rfl (Nat.le_of_ble_eq_true rfl) k)))) ?_
          refine J.mono (fun k => w_forget (wk_k (wk_d (wk_k (wk_k (wk_k (wk_k (wk_k (wk_d wk_0)))))))) k) ?_
          refine J_loop (Jl_mo_missed_b82 hd  _ _) (fun w33 => ?_)
          refine J.mono (fun k => w_iconst rfl (inR_c rfl) (s_istore6 rfl (Nat.le_of_ble_eq_true rfl) (w_iload_n rfl rfl (s_istore7 rfl (Nat.le_of_ble_eq_true rfl) k)))) ?_
          refine J.mono (fun k => w_forget (wk_k (wk_d (wk_k (wk_d (wk_d (wk_k (wk_k (wk_k wk_0)))))))) k) ?_
          refine J_loop (Jl_mo_missed_b150 hd  _ _) (fun w37 => ?_)
          refine J.mono (fun k => w_aload_n rfl rfl (w_iconst rfl (inR_c rfl) k)) ?_
          refine J_b ?_
          refine J.mono (fun k => w_putI rfl (Nat.le_of_ble_eq_true rfl) S_278 rfl rfl (w_aload_n rfl rfl (w_iload rfl rfl k))) ?_
          refine J_c (fun M40 e39 => ?_)
          refine J.mono (fun k => c_vv1 rfl (fun ho hM => cal_mo_tell (by omega)  e39 ho hM) v_mo_tell (Nat.le_of_ble_eq_true rfl) S_278 rfl (Nat.le_of_ble_eq_true rfl) (w_iload rfl rfl k)) ?_
          exact J_some (fun k => w_ireturn rfl rfl k)
set_option maxRecDepth 20000 in
set_option maxHeartbeats 4000000 in
theorem cal_mo_missed {Δ : DT} {d : Nat} (hd : 78 ≤ d) {x1 : Int} {x2 : Int} {x3 : Int} {x4 : Int}  {M : MEM} {p : Int × MEM} (h : mo_missed x1 x2 x3 x4 M = some p) (ho : okVs [vR 278, vI x1, vI x2, vI x3, vI x4]) (hM : okM M) : Cal Δ false m_mo_missed d [vR 278, vI x1, vI x2, vI x3, vI x4] (NG, S0, M) (some p.1) (NG, S0, p.2) 0 0 := by
  obtain ⟨d, rfl⟩ : ∃ e, d = e + 1 := ⟨d - 1, by omega⟩
  exact cal_of g_mo_missed p_mo_missed (fun v hv => by simp only [List.mem_cons, List.not_mem_nil, or_false] at hv; rcases hv with rfl | rfl | rfl | rfl | rfl <;> first | exact Or.inl ⟨_, rfl⟩ | exact Or.inr ⟨_, rfl⟩) ho hM (Nat.le_of_ble_eq_true rfl) (fun Γ _ k => J_mo_missed hd  _ h k)
set_option maxRecDepth 20000 in
set_option maxHeartbeats 4000000 in
theorem J_mo_hour {Δ : DT} {Γ : FT} {d : Nat} (hd : 78 ≤ d + 1) {x1 : Int}  {M : MEM} : J (mo_hour x1 M) (K_IM Δ Γ m_mo_hour) (WAt Δ Γ false m_mo_hour (d + 1) 0 [vR (278), vI (x1)] [] (NG, S0, M) 0 0) := by
  unfold mo_hour
  refine J.mono (fun k => w_aload_n rfl rfl (w_iload_n rfl rfl k)) ?_
  refine J_c (fun M2 e1 => ?_)
  refine J.mono (fun k => c_vv1 rfl (fun ho hM => cal_mo_timesNow (by omega)  e1 ho hM) v_mo_timesNow (Nat.le_of_ble_eq_true rfl) S_278 rfl (Nat.le_of_ble_eq_true rfl) (w_aload_n rfl rfl (w_getI rfl (Nat.le_of_ble_eq_true rfl) S_278 rfl (w_iconst rfl (inR_c rfl) k)))) ?_
  refine J_ite (fun hc3 => ?_) (fun hc3 => ?_)
  · refine J.mono (fun k => s_icmp_ge_t rfl hc3 (w_aload_n rfl rfl (w_getR (r := 293) rfl (Nat.le_of_ble_eq_true rfl) S_278 rfl (w_iconst rfl (inR_c rfl) (w_iald rfl A_293.1 A_293.2 (by decide) (by decide) (w_aload_n rfl rfl (w_getR (r := 293) rfl (Nat.le_of_ble_eq_true rfl) S_278 rfl (w_iconst rfl (inR_c rfl) (w_iald rfl A_293.1 A_293.2 (by decide) (by decide) (w_isub rfl k)))))))))) ?_
    exact J_some (fun k => w_ireturn rfl rfl k)
  · refine J.mono (fun k => s_icmp_ge_f rfl hc3 (w_sipush rfl (sip_c rfl) (w_goto rfl k))) ?_
    exact J_some (fun k => w_ireturn rfl rfl k)
set_option maxRecDepth 20000 in
set_option maxHeartbeats 4000000 in
theorem cal_mo_hour {Δ : DT} {d : Nat} (hd : 78 ≤ d) {x1 : Int}  {M : MEM} {p : Int × MEM} (h : mo_hour x1 M = some p) (ho : okVs [vR 278, vI x1]) (hM : okM M) : Cal Δ false m_mo_hour d [vR 278, vI x1] (NG, S0, M) (some p.1) (NG, S0, p.2) 0 0 := by
  obtain ⟨d, rfl⟩ : ∃ e, d = e + 1 := ⟨d - 1, by omega⟩
  exact cal_of g_mo_hour p_mo_hour (fun v hv => by simp only [List.mem_cons, List.not_mem_nil, or_false] at hv; rcases hv with rfl | rfl <;> first | exact Or.inl ⟨_, rfl⟩ | exact Or.inr ⟨_, rfl⟩) ho hM (Nat.le_of_ble_eq_true rfl) (fun Γ _ k => J_mo_hour hd  _ h k)
set_option maxRecDepth 20000 in
set_option maxHeartbeats 4000000 in
theorem J_mo_think {Δ : DT} {Γ : FT} {d : Nat} (hd : 1 ≤ d + 1) {x1 : Int} {x2 : Int} {x3 : Int} {x4 : Int} {x5 : Int}  {M : MEM} : J (mo_think x1 x2 x3 x4 x5 M) (K_M Δ Γ m_mo_think) (WAt Δ Γ false m_mo_think (d + 1) 0 [vR (278), vI (x1), vI (x2), vI (x3), vI (x4), vI (x5)] [] (NG, S0, M) 0 0) := by
  unfold mo_think
  refine J.mono (fun k => w_aload_n rfl rfl (w_bipush rfl (bip_c rfl) (w_iload_n rfl rfl (w_iadd rfl (w_iload_n rfl rfl (w_aload_n rfl rfl (w_getR (r := 279) rfl (Nat.le_of_ble_eq_true rfl) S_278 rfl (w_sipush rfl (sip_c rfl) (w_iald rfl A_279.1 A_279.2 (by decide) (by decide) (w_iload_n rfl rfl (w_iadd rfl (w_aload_n rfl rfl (w_getR (r := 279) rfl (Nat.le_of_ble_eq_true rfl) S_278 rfl (w_sipush rfl (sip_c rfl) (w_iald rfl A_279.1 A_279.2 (by decide) (by decide) (w_iload_n rfl rfl (w_iadd rfl (w_iload rfl rfl (w_iadd rfl (w_iconst rfl (inR_c rfl) (w_isub rfl (w_iload rfl rfl k)))))))))))))))))))))) ?_
  refine J_c (fun M2 e1 => ?_)
  refine J.mono (fun k => c_vv5 rfl (fun ho hM => cal_mo_layCarrot (by omega)  e1 ho hM) v_mo_layCarrot (Nat.le_of_ble_eq_true rfl) S_278 rfl (Nat.le_of_ble_eq_true rfl) (w_aload_n rfl rfl (w_aload_n rfl rfl (w_getI rfl (Nat.le_of_ble_eq_true rfl) S_278 rfl (w_iload_n rfl rfl (w_iconst rfl (inR_c rfl) (w_iadd rfl k))))))) ?_
  refine J.mono (fun k => w_mmax rfl (Nat.le_of_ble_eq_true rfl) k) ?_
  refine J_b ?_
  refine J.mono (fun k => w_putI rfl (Nat.le_of_ble_eq_true rfl) S_278 rfl rfl k) ?_
  exact J_some (fun k => w_return rfl rfl k)
set_option maxRecDepth 20000 in
set_option maxHeartbeats 4000000 in
theorem cal_mo_think {Δ : DT} {d : Nat} (hd : 1 ≤ d) {x1 : Int} {x2 : Int} {x3 : Int} {x4 : Int} {x5 : Int}  {M : MEM} {M1 : MEM} (h : mo_think x1 x2 x3 x4 x5 M = some M1) (ho : okVs [vR 278, vI x1, vI x2, vI x3, vI x4, vI x5]) (hM : okM M) : Cal Δ false m_mo_think d [vR 278, vI x1, vI x2, vI x3, vI x4, vI x5] (NG, S0, M) none (NG, S0, M1) 0 0 := by
  obtain ⟨d, rfl⟩ : ∃ e, d = e + 1 := ⟨d - 1, by omega⟩
  exact cal_of g_mo_think p_mo_think (fun v hv => by simp only [List.mem_cons, List.not_mem_nil, or_false] at hv; rcases hv with rfl | rfl | rfl | rfl | rfl | rfl <;> first | exact Or.inl ⟨_, rfl⟩ | exact Or.inr ⟨_, rfl⟩) ho hM (Nat.le_of_ble_eq_true rfl) (fun Γ _ k => J_mo_think hd  _ h k)
abbrev HD_mo_bribe_b51 (Δ : DT) (Γ : FT) (d : Nat) (x1 : Int) (x2 : Int) (x3 : Int) (x4 : Int) (s : Int × Int × Int × MEM) : Prop := WAt Δ Γ false m_mo_bribe (d + 1) 51 [vR (278), vI (x1), vI (x2), vI (x3), vI (x4), vI (s.1), vI (s.2.1), vI (s.2.2.1), vN] [] (NG, S0, s.2.2.2) 0 0
abbrev X_mo_bribe_b51 (Δ : DT) (Γ : FT) (d : Nat) (x1 : Int) (x2 : Int) (x3 : Int) (x4 : Int) (s : Int × Int × Int × MEM) : Prop := WAt Δ Γ false m_mo_bribe (d + 1) 124 [vR (278), vN, vN, vN, vI (x4), vI (s.1), vI (s.2.1), vN, vN] [] (NG, S0, s.2.2.2) 0 0
set_option maxRecDepth 20000 in
set_option maxHeartbeats 4000000 in
theorem J_mo_bribe_j118_51 {Δ : DT} {Γ : FT} {d : Nat} (hd : 79 ≤ d + 1) {x1 : Int} {x2 : Int} {x3 : Int} {x4 : Int} {x5 : Int} {x6 : Int} {x7 : Int}  {M : MEM} : J (mo_bribe_j118_51 x1 x2 x3 x4 x5 x6 x7 M) (Sum.elim (HD_mo_bribe_b51 Δ Γ d x1 x2 x3 x4) (X_mo_bribe_b51 Δ Γ d x1 x2 x3 x4)) (WAt Δ Γ false m_mo_bribe (d + 1) 118 [vR (278), vI (x1), vI (x2), vI (x3), vI (x4), vI (x5), vI (x6), vI (x7), vN] [] (NG, S0, M) 0 0) := by
  unfold mo_bribe_j118_51
  refine J.mono (fun k => s_iinc7 rfl (Nat.le_of_ble_eq_true rfl) (w_goto rfl k)) ?_
  exact J_some (fun k => w_forget (wk_k (wk_k (wk_k (wk_k (wk_k (wk_k (wk_k (wk_k (wk_d wk_0))))))))) k)
set_option maxRecDepth 20000 in
set_option maxHeartbeats 4000000 in
theorem J_mo_bribe_j110_51 {Δ : DT} {Γ : FT} {d : Nat} (hd : 79 ≤ d + 1) {x1 : Int} {x2 : Int} {x3 : Int} {x4 : Int} {x7 : Int} {x8 : Int}  {M : MEM} : J (mo_bribe_j110_51 x1 x2 x3 x4 x7 x8 M) (Sum.elim (HD_mo_bribe_b51 Δ Γ d x1 x2 x3 x4) (X_mo_bribe_b51 Δ Γ d x1 x2 x3 x4)) (WAt Δ Γ false m_mo_bribe (d + 1) 110 [vR (278), vI (x1), vI (x2), vI (x3), vI (x4), vN, vN, vI (x7), vI (x8)] [] (NG, S0, M) 0 0) := by
  unfold mo_bribe_j110_51
  refine J.mono (fun k => w_iload rfl rfl (s_istore5 rfl (Nat.le_of_ble_eq_true rfl) (w_iload rfl rfl (s_istore6 rfl (Nat.le_of_ble_eq_true rfl) k)))) ?_
  exact J.mono (fun k => w_forget (wk_k (wk_k (wk_k (wk_k (wk_k (wk_k (wk_k (wk_k (wk_d wk_0))))))))) k) (J_mo_bribe_j118_51 hd )
set_option maxRecDepth 20000 in
set_option maxHeartbeats 4000000 in
theorem Jb_mo_bribe_b51 {Δ : DT} {Γ : FT} {d : Nat} (hd : 79 ≤ d + 1) {x1 : Int} {x2 : Int} {x3 : Int} {x4 : Int}  {x5 : Int} {x6 : Int} {x7 : Int} {M : MEM} : J (mo_bribe_b51 x1 x2 x3 x4 x5 x6 x7 M) (Sum.elim (HD_mo_bribe_b51 Δ Γ d x1 x2 x3 x4) (X_mo_bribe_b51 Δ Γ d x1 x2 x3 x4)) (WAt Δ Γ false m_mo_bribe (d + 1) 51 [vR (278), vI (x1), vI (x2), vI (x3), vI (x4), vI (x5), vI (x6), vI (x7), vN] [] (NG, S0, M) 0 0) := by
  unfold mo_bribe_b51
  refine J.mono (fun k => w_iload rfl rfl (w_bipush rfl (bip_c rfl) k)) ?_
  refine J_ite (fun hc15 => ?_) (fun hc15 => ?_)
  · refine J.mono (fun k => s_icmp_gt_t rfl hc15 k) ?_
    exact J_some (fun k => w_forget (wk_k (wk_d (wk_d (wk_d (wk_k (wk_k (wk_k (wk_d (wk_d wk_0))))))))) k)
  · refine J.mono (fun k => s_icmp_gt_f rfl hc15 (w_aload_n rfl rfl (w_iconst rfl (inR_c rfl) (w_iload_n rfl rfl (w_iload rfl rfl (w_iload_n rfl rfl (w_iload_n rfl rfl k))))))) ?_
    refine J_c (fun M17 e16 => ?_)
    refine J.mono (fun k => c_vv5 rfl (fun ho hM => cal_mo_think (by omega)  e16 ho hM) v_mo_think (Nat.le_of_ble_eq_true rfl) S_278 rfl (Nat.le_of_ble_eq_true rfl) (w_aload_n rfl rfl (w_iload_n rfl rfl k))) ?_
    refine J_c (fun p19 e18 => ?_)
    refine J_hyp (fun k => c_vi1 rfl (fun ho hM => cal_mo_hour (by omega)  e18 ho hM) v_mo_hour (Nat.le_of_ble_eq_true rfl) S_278 rfl (Nat.le_of_ble_eq_true rfl) k) (fun hr20 hb21 => ?_)
    refine J.mono (fun k => s_istore8 rfl (Nat.le_of_ble_eq_true rfl) (w_aload_n rfl rfl (w_iconst rfl (inR_c rfl) k))) ?_
    refine J_b ?_
    refine J.mono (fun k => w_putI rfl (Nat.le_of_ble_eq_true rfl) S_278 rfl rfl (w_iload rfl rfl k)) ?_
    refine J_ite (fun hc23 => ?_) (fun hc23 => ?_)
    · refine J.mono (fun k => s_if_le_t rfl hc23 k) ?_
      exact J.mono (fun k => w_forget (wk_k (wk_k (wk_k (wk_k (wk_k (wk_d (wk_d (wk_k (wk_k wk_0))))))))) k) (J_mo_bribe_j110_51 hd )
    · refine J.mono (fun k => s_if_le_f rfl hc23 (w_iload_n rfl rfl (w_iconst rfl (inR_c rfl) k))) ?_
      refine J_ite (fun hc24 => ?_) (fun hc24 => ?_)
      · refine J.mono (fun k => s_icmp_ne_f rfl hc24 (w_iload rfl rfl (w_iload rfl rfl k))) ?_
        refine J_ite (fun hc25 => ?_) (fun hc25 => ?_)
        · refine J.mono (fun k => s_icmp_lt_t rfl hc25 k) ?_
          exact J.mono (fun k => w_forget (wk_k (wk_k (wk_k (wk_k (wk_k (wk_d (wk_d (wk_k (wk_k wk_0))))))))) k) (J_mo_bribe_j110_51 hd )
        · refine J.mono (fun k => s_icmp_lt_f rfl hc25 (w_goto rfl k)) ?_
          exact J.mono (fun k => w_forget (wk_k (wk_k (wk_k (wk_k (wk_k (wk_k (wk_k (wk_k (wk_d wk_0))))))))) k) (J_mo_bribe_j118_51 hd )
      · refine J.mono (fun k => s_icmp_ne_t rfl hc24 (w_iload rfl rfl (w_iload rfl rfl k))) ?_
        refine J_ite (fun hc26 => ?_) (fun hc26 => ?_)
        · refine J.mono (fun k => s_icmp_gt_t rfl hc26 k) ?_
          exact J.mono (fun k => w_forget (wk_k (wk_k (wk_k (wk_k (wk_k (wk_d (wk_d (wk_k (wk_k wk_0))))))))) k) (J_mo_bribe_j110_51 hd )
        · refine J.mono (fun k => s_icmp_gt_f rfl hc26 (w_goto rfl k)) ?_
          exact J.mono (fun k => w_forget (wk_k (wk_k (wk_k (wk_k (wk_k (wk_k (wk_k (wk_k (wk_d wk_0))))))))) k) (J_mo_bribe_j118_51 hd )
set_option maxRecDepth 20000 in
set_option maxHeartbeats 4000000 in
theorem Jl_mo_bribe_b51 {Δ : DT} {Γ : FT} {d : Nat} (hd : 79 ≤ d + 1) {x1 : Int} {x2 : Int} {x3 : Int} {x4 : Int}   : ∀ (n : Nat) (s : Int × Int × Int × MEM), J (iter (fun s => mo_bribe_b51 x1 x2 x3 x4 s.1 s.2.1 s.2.2.1 s.2.2.2) n s) (X_mo_bribe_b51 Δ Γ d x1 x2 x3 x4) (HD_mo_bribe_b51 Δ Γ d x1 x2 x3 x4 s) := J_iter (fun s => Jb_mo_bribe_b51 hd )
set_option maxRecDepth 20000 in
set_option maxHeartbeats 4000000 in
theorem J_mo_bribe_j35 {Δ : DT} {Γ : FT} {d : Nat} (hd : 79 ≤ d + 1) {x1 : Int} {x2 : Int} {x3 : Int}  {M : MEM} : J (mo_bribe_j35 x1 x2 x3 M) (K_IM Δ Γ m_mo_bribe) (WAt Δ Γ false m_mo_bribe (d + 1) 35 [vR (278), vI (x1), vI (x2), vI (x3), vN, vN, vN, vN, vN] [] (NG, S0, M) 0 0) := by
  unfold mo_bribe_j35
  refine J.mono (fun k => w_aload_n rfl rfl (w_iload_n rfl rfl k)) ?_
  refine J_c (fun p12 e11 => ?_)
  refine J_hyp (fun k => c_vi1 rfl (fun ho hM => cal_mo_hour (by omega)  e11 ho hM) v_mo_hour (Nat.le_of_ble_eq_true rfl) S_278 rfl (Nat.le_of_ble_eq_true rfl) k) (fun hr13 hb14 => ?_)
  refine J.mono (fun k => s_istore4 rfl (Nat.le_of_ble_eq_true rfl) (w_iconst rfl (inR_c rfl) (s_istore5 rfl (Nat.le_of_ble_eq_true rfl) (w_iconst rfl (inR_c rfl) (s_istore6 rfl (Nat.le_of_ble_eq_true rfl) (w_iconst rfl (inR_c rfl) (s_istore7 rfl (Nat.le_of_ble_eq_true rfl) k))))))) ?_
  refine J.mono (fun k => w_forget (wk_k (wk_k (wk_k (wk_k (wk_k (wk_k (wk_k (wk_k (wk_d wk_0))))))))) k) ?_
  refine J_loop (Jl_mo_bribe_b51 hd  _ _) (fun w27 => ?_)
  refine J.mono (fun k => w_aload_n rfl rfl (w_iconst rfl (inR_c rfl) k)) ?_
  refine J_b ?_
  refine J.mono (fun k => w_putI rfl (Nat.le_of_ble_eq_true rfl) S_278 rfl rfl (w_aload_n rfl rfl (w_iload rfl rfl k))) ?_
  refine J_c (fun M30 e29 => ?_)
  refine J.mono (fun k => c_vv1 rfl (fun ho hM => cal_mo_tell (by omega)  e29 ho hM) v_mo_tell (Nat.le_of_ble_eq_true rfl) S_278 rfl (Nat.le_of_ble_eq_true rfl) (w_aload_n rfl rfl (w_iload rfl rfl k))) ?_
  refine J_c (fun M32 e31 => ?_)
  refine J.mono (fun k => c_vv1 rfl (fun ho hM => cal_mo_tell (by omega)  e31 ho hM) v_mo_tell (Nat.le_of_ble_eq_true rfl) S_278 rfl (Nat.le_of_ble_eq_true rfl) (w_iload rfl rfl k)) ?_
  exact J_some (fun k => w_ireturn rfl rfl k)
set_option maxRecDepth 20000 in
set_option maxHeartbeats 4000000 in
theorem J_mo_bribe {Δ : DT} {Γ : FT} {d : Nat} (hd : 79 ≤ d + 1) {x1 : Int} {x2 : Int} {x3 : Int}  {M : MEM} : J (mo_bribe x1 x2 x3 M) (K_IM Δ Γ m_mo_bribe) (WAt Δ Γ false m_mo_bribe (d + 1) 0 [vR (278), vI (x1), vI (x2), vI (x3), vN, vN, vN, vN, vN] [] (NG, S0, M) 0 0) := by
  unfold mo_bribe
  refine J.mono (fun k => w_aload_n rfl rfl (w_iconst rfl (inR_c rfl) k)) ?_
  refine J_b ?_
  refine J.mono (fun k => w_putI rfl (Nat.le_of_ble_eq_true rfl) S_278 rfl rfl (w_aload_n rfl rfl (w_iload_n rfl rfl k))) ?_
  refine J_hyp (fun k => c_vi1 rfl (fun ho hM => cal_mo_isDonkey (by omega)   ho hM) v_mo_isDonkey (Nat.le_of_ble_eq_true rfl) S_278 rfl (Nat.le_of_ble_eq_true rfl) k) (fun hr3 hb4 => ?_)
  refine J_ite (fun hc5 => ?_) (fun hc5 => ?_)
  · refine J.mono (fun k => s_if_eq_t rfl hc5 (w_iconst rfl (inR_c rfl) k)) ?_
    exact J_some (fun k => w_ireturn rfl rfl k)
  · refine J.mono (fun k => s_if_eq_f rfl hc5 (w_iload_n rfl rfl (w_iconst rfl (inR_c rfl) (w_bipush rfl (bip_c rfl) k)))) ?_
    refine J_hyp (fun k => c_si3 rfl rfl (fun ho hM => cal_mo_in (by omega)   ho hM) v_mo_in (Nat.le_of_ble_eq_true rfl) k) (fun hr7 hb8 => ?_)
    refine J_ite (fun hc9 => ?_) (fun hc9 => ?_)
    · refine J.mono (fun k => s_if_eq_t rfl hc9 (w_iconst rfl (inR_c rfl) k)) ?_
      exact J_some (fun k => w_ireturn rfl rfl k)
    · refine J.mono (fun k => s_if_eq_f rfl hc9 (w_iload_n rfl rfl (w_iconst rfl (inR_c rfl) k))) ?_
      refine J_ite (fun hc10 => ?_) (fun hc10 => ?_)
      · refine J.mono (fun k => s_icmp_eq_t rfl hc10 k) ?_
        exact J.mono (fun k => w_forget (wk_k (wk_k (wk_k (wk_k (wk_d (wk_d (wk_d (wk_d (wk_d wk_0))))))))) k) (J_mo_bribe_j35 hd )
      · refine J.mono (fun k => s_icmp_eq_f rfl hc10 (w_iload_n rfl rfl (w_iconst rfl (inR_c rfl) k))) ?_
        refine J_ite (fun hc33 => ?_) (fun hc33 => ?_)
        · refine J.mono (fun k => s_icmp_eq_t rfl hc33 k) ?_
          exact J.mono (fun k => w_forget (wk_k (wk_k (wk_k (wk_k (wk_d (wk_d (wk_d (wk_d (wk_d wk_0))))))))) k) (J_mo_bribe_j35 hd )
        · refine J.mono (fun k => s_icmp_eq_f rfl hc33 (w_iconst rfl (inR_c rfl) k)) ?_
          exact J_some (fun k => w_ireturn rfl rfl k)
set_option maxRecDepth 20000 in
set_option maxHeartbeats 4000000 in
theorem cal_mo_bribe {Δ : DT} {d : Nat} (hd : 79 ≤ d) {x1 : Int} {x2 : Int} {x3 : Int}  {M : MEM} {p : Int × MEM} (h : mo_bribe x1 x2 x3 M = some p) (ho : okVs [vR 278, vI x1, vI x2, vI x3]) (hM : okM M) : Cal Δ false m_mo_bribe d [vR 278, vI x1, vI x2, vI x3] (NG, S0, M) (some p.1) (NG, S0, p.2) 0 0 := by
  obtain ⟨d, rfl⟩ : ∃ e, d = e + 1 := ⟨d - 1, by omega⟩
  exact cal_of g_mo_bribe p_mo_bribe (fun v hv => by simp only [List.mem_cons, List.not_mem_nil, or_false] at hv; rcases hv with rfl | rfl | rfl | rfl <;> first | exact Or.inl ⟨_, rfl⟩ | exact Or.inr ⟨_, rfl⟩) ho hM (Nat.le_of_ble_eq_true rfl) (fun Γ _ k => J_mo_bribe hd  _ h k)
set_option maxRecDepth 20000 in
set_option maxHeartbeats 4000000 in
theorem J_mo_hourBy {Δ : DT} {Γ : FT} {d : Nat} (hd : 79 ≤ d + 1) {x1 : Int} {x2 : Int}  {M : MEM} : J (mo_hourBy x1 x2 M) (K_IM Δ Γ m_mo_hourBy) (WAt Δ Γ false m_mo_hourBy (d + 1) 0 [vR (278), vI (x1), vI (x2), vN] [] (NG, S0, M) 0 0) := by
  unfold mo_hourBy
  refine J.mono (fun k => w_aload_n rfl rfl (w_iconst rfl (inR_c rfl) (w_iload_n rfl rfl (w_aload_n rfl rfl (w_getR (r := 301) rfl (Nat.le_of_ble_eq_true rfl) S_278 rfl (w_iconst rfl (inR_c rfl) (w_iald rfl A_301.1 A_301.2 (by decide) (by decide) (w_iload_n rfl rfl (w_iconst rfl (inR_c rfl) k))))))))) ?_
  refine J_c (fun M2 e1 => ?_)
  refine J.mono (fun k => c_vv5 rfl (fun ho hM => cal_mo_think (by omega)  e1 ho hM) v_mo_think (Nat.le_of_ble_eq_true rfl) S_278 rfl (Nat.le_of_ble_eq_true rfl) (w_aload_n rfl rfl (w_iconst rfl (inR_c rfl) (w_iload_n rfl rfl (w_aload_n rfl rfl (w_getR (r := 301) rfl (Nat.le_of_ble_eq_true rfl) S_278 rfl (w_iconst rfl (inR_c rfl) (w_iald rfl A_301.1 A_301.2 (by decide) (by decide) (w_iload_n rfl rfl (w_iconst rfl (inR_c rfl) k)))))))))) ?_
  refine J_c (fun M4 e3 => ?_)
  refine J.mono (fun k => c_vv5 rfl (fun ho hM => cal_mo_think (by omega)  e3 ho hM) v_mo_think (Nat.le_of_ble_eq_true rfl) S_278 rfl (Nat.le_of_ble_eq_true rfl) (w_aload_n rfl rfl (w_iload_n rfl rfl k))) ?_
  refine J_c (fun p6 e5 => ?_)
  refine J_hyp (fun k => c_vi1 rfl (fun ho hM => cal_mo_hour (by omega)  e5 ho hM) v_mo_hour (Nat.le_of_ble_eq_true rfl) S_278 rfl (Nat.le_of_ble_eq_true rfl) k) (fun hr7 hb8 => ?_)
  refine J.mono (fun k => s_istore3 rfl (Nat.le_of_ble_eq_true rfl) (w_aload_n rfl rfl (w_iconst rfl (inR_c rfl) k))) ?_
  refine J_b ?_
  refine J.mono (fun k => w_putI rfl (Nat.le_of_ble_eq_true rfl) S_278 rfl rfl (w_iload_n rfl rfl k)) ?_
  exact J_some (fun k => w_ireturn rfl rfl k)
set_option maxRecDepth 20000 in
set_option maxHeartbeats 4000000 in
theorem cal_mo_hourBy {Δ : DT} {d : Nat} (hd : 79 ≤ d) {x1 : Int} {x2 : Int}  {M : MEM} {p : Int × MEM} (h : mo_hourBy x1 x2 M = some p) (ho : okVs [vR 278, vI x1, vI x2]) (hM : okM M) : Cal Δ false m_mo_hourBy d [vR 278, vI x1, vI x2] (NG, S0, M) (some p.1) (NG, S0, p.2) 0 0 := by
  obtain ⟨d, rfl⟩ : ∃ e, d = e + 1 := ⟨d - 1, by omega⟩
  exact cal_of g_mo_hourBy p_mo_hourBy (fun v hv => by simp only [List.mem_cons, List.not_mem_nil, or_false] at hv; rcases hv with rfl | rfl | rfl <;> first | exact Or.inl ⟨_, rfl⟩ | exact Or.inr ⟨_, rfl⟩) ho hM (Nat.le_of_ble_eq_true rfl) (fun Γ _ k => J_mo_hourBy hd  _ h k)
abbrev HD_mo_rests_b55 (Δ : DT) (Γ : FT) (d : Nat) (x1 : Int) (x2 : Int) (x3 : Int) (s : Int × Int × MEM) : Prop := WAt Δ Γ false m_mo_rests (d + 1) 55 [vR (278), vI (x1), vI (x2), vI (x3), vI (s.1), vI (s.2.1), vN, vN, vN, vN, vN, vN] [] (NG, S0, s.2.2) 0 0
abbrev X_mo_rests_b55 (Δ : DT) (Γ : FT) (d : Nat) (x1 : Int) (x2 : Int) (x3 : Int) (s : Int × Int × MEM) : Prop := WAt Δ Γ false m_mo_rests (d + 1) 192 [vR (278), vI (x1), vI (x2), vN, vI (s.1), vI (s.2.1), vN, vN, vN, vN, vN, vN] [] (NG, S0, s.2.2) 0 0
abbrev HD_mo_rests_b97 (Δ : DT) (Γ : FT) (d : Nat) (x1 : Int) (x2 : Int) (x3 : Int) (x4 : Int) (x5 : Int) (x6 : Int) (x7 : Int) (s : Int × Int × Int × MEM) : Prop := WAt Δ Γ false m_mo_rests (d + 1) 97 [vR (278), vI (x1), vI (x2), vI (x3), vI (x4), vI (x5), vI (x6), vI (x7), vI (s.1), vI (s.2.1), vI (s.2.2.1), vN] [] (NG, S0, s.2.2.2) 0 0
abbrev X_mo_rests_b97 (Δ : DT) (Γ : FT) (d : Nat) (x1 : Int) (x2 : Int) (x3 : Int) (x4 : Int) (x5 : Int) (x6 : Int) (x7 : Int) (s : Int × Int × Int × MEM) : Prop := WAt Δ Γ false m_mo_rests (d + 1) 160 [vR (278), vI (x1), vI (x2), vI (x3), vI (x4), vI (x5), vI (x6), vI (x7), vI (s.1), vN, vN, vN] [] (NG, S0, s.2.2.2) 0 0
set_option maxRecDepth 20000 in
set_option maxHeartbeats 4000000 in
theorem J_mo_rests_j154_97 {Δ : DT} {Γ : FT} {d : Nat} (hd : 80 ≤ d + 1) {x1 : Int} {x2 : Int} {x3 : Int} {x4 : Int} {x5 : Int} {x6 : Int} {x7 : Int} {x8 : Int} {x9 : Int} {x10 : Int}  {M : MEM} : J (mo_rests_j154_97 x1 x2 x3 x4 x5 x6 x7 x8 x9 x10 M) (Sum.elim (HD_mo_rests_b97 Δ Γ d x1 x2 x3 x4 x5 x6 x7) (X_mo_rests_b97 Δ Γ d x1 x2 x3 x4 x5 x6 x7)) (WAt Δ Γ false m_mo_rests (d + 1) 154 [vR (278), vI (x1), vI (x2), vI (x3), vI (x4), vI (x5), vI (x6), vI (x7), vI (x8), vI (x9), vI (x10), vN] [] (NG, S0, M) 0 0) := by
  unfold mo_rests_j154_97
  refine J.mono (fun k => s_iinc10 rfl (Nat.le_of_ble_eq_true rfl) (w_goto rfl k)) ?_
  exact J_some (fun k => w_forget (wk_k (wk_k (wk_k (wk_k (wk_k (wk_k (wk_k (wk_k (wk_k (wk_k (wk_k (wk_d wk_0)))))))))))) k)
set_option maxRecDepth 20000 in
set_option maxHeartbeats 4000000 in
theorem J_mo_rests_j146_97 {Δ : DT} {Γ : FT} {d : Nat} (hd : 80 ≤ d + 1) {x1 : Int} {x2 : Int} {x3 : Int} {x4 : Int} {x5 : Int} {x6 : Int} {x7 : Int} {x10 : Int} {x11 : Int}  {M : MEM} : J (mo_rests_j146_97 x1 x2 x3 x4 x5 x6 x7 x10 x11 M) (Sum.elim (HD_mo_rests_b97 Δ Γ d x1 x2 x3 x4 x5 x6 x7) (X_mo_rests_b97 Δ Γ d x1 x2 x3 x4 x5 x6 x7)) (WAt Δ Γ false m_mo_rests (d + 1) 146 [vR (278), vI (x1), vI (x2), vI (x3), vI (x4), vI (x5), vI (x6), vI (x7), vN, vN, vI (x10), vI (x11)] [] (NG, S0, M) 0 0) := by
  unfold mo_rests_j146_97
  refine J.mono (fun k => w_iload rfl rfl (s_istore8 rfl (Nat.le_of_ble_eq_true rfl) (w_iload rfl rfl (s_istore9 rfl (Nat.le_of_ble_eq_true rfl) k)))) ?_
  exact J.mono (fun k => w_forget (wk_k (wk_k (wk_k (wk_k (wk_k (wk_k (wk_k (wk_k (wk_k (wk_k (wk_k (wk_d wk_0)))))))))))) k) (J_mo_rests_j154_97 hd )
set_option maxRecDepth 20000 in
set_option maxHeartbeats 4000000 in
theorem Jb_mo_rests_b97 {Δ : DT} {Γ : FT} {d : Nat} (hd : 80 ≤ d + 1) {x1 : Int} {x2 : Int} {x3 : Int} {x4 : Int} {x5 : Int} {x6 : Int} {x7 : Int}  {x8 : Int} {x9 : Int} {x10 : Int} {M : MEM} : J (mo_rests_b97 x1 x2 x3 x4 x5 x6 x7 x8 x9 x10 M) (Sum.elim (HD_mo_rests_b97 Δ Γ d x1 x2 x3 x4 x5 x6 x7) (X_mo_rests_b97 Δ Γ d x1 x2 x3 x4 x5 x6 x7)) (WAt Δ Γ false m_mo_rests (d + 1) 97 [vR (278), vI (x1), vI (x2), vI (x3), vI (x4), vI (x5), vI (x6), vI (x7), vI (x8), vI (x9), vI (x10), vN] [] (NG, S0, M) 0 0) := by
  unfold mo_rests_b97
  refine J.mono (fun k => w_iload rfl rfl (w_bipush rfl (bip_c rfl) k)) ?_
  refine J_ite (fun hc23 => ?_) (fun hc23 => ?_)
  · refine J.mono (fun k => s_icmp_gt_t rfl hc23 k) ?_
    exact J_some (fun k => w_forget (wk_k (wk_k (wk_k (wk_k (wk_k (wk_k (wk_k (wk_k (wk_k (wk_d (wk_d (wk_d wk_0)))))))))))) k)
  · refine J.mono (fun k => s_icmp_gt_f rfl hc23 (w_aload_n rfl rfl (w_getR (r := 301) rfl (Nat.le_of_ble_eq_true rfl) S_278 rfl (w_iload rfl rfl (w_iload rfl rfl k))))) ?_
    refine J_chk (fun hi25 => ?_)
    refine J_b ?_
    refine J.mono (fun k => w_iast rfl A_301.1 A_301.2 hi25.1 hi25.2 rfl (w_aload_n rfl rfl (w_iload_n rfl rfl (w_iload_n rfl rfl k)))) ?_
    refine J_c (fun p27 e26 => ?_)
    refine J_hyp (fun k => c_vi2 rfl (fun ho hM => cal_mo_hourBy (by omega)  e26 ho hM) v_mo_hourBy (Nat.le_of_ble_eq_true rfl) S_278 rfl (Nat.le_of_ble_eq_true rfl) k) (fun hr28 hb29 => ?_)
    refine J.mono (fun k => s_istore11 rfl (Nat.le_of_ble_eq_true rfl) (w_iload rfl rfl k)) ?_
    refine J_ite (fun hc30 => ?_) (fun hc30 => ?_)
    · refine J.mono (fun k => s_if_ne_f rfl hc30 (w_iload rfl rfl (w_iload rfl rfl k))) ?_
      refine J_ite (fun hc31 => ?_) (fun hc31 => ?_)
      · refine J.mono (fun k => s_icmp_gt_t rfl hc31 k) ?_
        exact J.mono (fun k => w_forget (wk_k (wk_k (wk_k (wk_k (wk_k (wk_k (wk_k (wk_k (wk_d (wk_d (wk_k (wk_k wk_0)))))))))))) k) (J_mo_rests_j146_97 hd )
      · refine J.mono (fun k => s_icmp_gt_f rfl hc31 (w_goto rfl k)) ?_
        exact J.mono (fun k => w_forget (wk_k (wk_k (wk_k (wk_k (wk_k (wk_k (wk_k (wk_k (wk_k (wk_k (wk_k (wk_d wk_0)))))))))))) k) (J_mo_rests_j154_97 hd )
    · refine J.mono (fun k => s_if_ne_t rfl hc30 (w_iload rfl rfl (w_iload rfl rfl k))) ?_
      refine J_ite (fun hc32 => ?_) (fun hc32 => ?_)
      · refine J.mono (fun k => s_icmp_lt_t rfl hc32 k) ?_
        exact J.mono (fun k => w_forget (wk_k (wk_k (wk_k (wk_k (wk_k (wk_k (wk_k (wk_k (wk_d (wk_d (wk_k (wk_k wk_0)))))))))))) k) (J_mo_rests_j146_97 hd )
      · refine J.mono (fun k => s_icmp_lt_f rfl hc32 (w_goto rfl k)) ?_
        exact J.mono (fun k => w_forget (wk_k (wk_k (wk_k (wk_k (wk_k (wk_k (wk_k (wk_k (wk_k (wk_k (wk_k (wk_d wk_0)))))))))))) k) (J_mo_rests_j154_97 hd )
set_option maxRecDepth 20000 in
set_option maxHeartbeats 4000000 in
theorem Jl_mo_rests_b97 {Δ : DT} {Γ : FT} {d : Nat} (hd : 80 ≤ d + 1) {x1 : Int} {x2 : Int} {x3 : Int} {x4 : Int} {x5 : Int} {x6 : Int} {x7 : Int}   : ∀ (n : Nat) (s : Int × Int × Int × MEM), J (iter (fun s => mo_rests_b97 x1 x2 x3 x4 x5 x6 x7 s.1 s.2.1 s.2.2.1 s.2.2.2) n s) (X_mo_rests_b97 Δ Γ d x1 x2 x3 x4 x5 x6 x7) (HD_mo_rests_b97 Δ Γ d x1 x2 x3 x4 x5 x6 x7 s) := J_iter (fun s => Jb_mo_rests_b97 hd )
set_option maxRecDepth 20000 in
set_option maxHeartbeats 4000000 in
theorem J_mo_rests_j184_55 {Δ : DT} {Γ : FT} {d : Nat} (hd : 80 ≤ d + 1) {x1 : Int} {x2 : Int} {x3 : Int} {x4 : Int} {s0 : Int}  {M : MEM} : J (mo_rests_j184_55 x1 x2 x3 x4 s0 M) (Sum.elim (HD_mo_rests_b55 Δ Γ d x1 x2 x3) (X_mo_rests_b55 Δ Γ d x1 x2 x3)) (WAt Δ Γ false m_mo_rests (d + 1) 184 [vR (278), vI (x1), vI (x2), vI (x3), vI (x4), vN, vN, vN, vN, vN, vN, vN] [vI (s0)] (NG, S0, M) 0 0) := by
  unfold mo_rests_j184_55
  refine J.mono (fun k => s_istore5 rfl (Nat.le_of_ble_eq_true rfl) (s_iinc4 rfl (Nat.le_of_ble_eq_true rfl) (w_goto rfl k))) ?_
  exact J_some (fun k => w_forget (wk_k (wk_k (wk_k (wk_k (wk_k (wk_k (wk_d (wk_d (wk_d (wk_d (wk_d (wk_d wk_0)))))))))))) k)
set_option maxRecDepth 20000 in
set_option maxHeartbeats 4000000 in
theorem Jb_mo_rests_b55 {Δ : DT} {Γ : FT} {d : Nat} (hd : 80 ≤ d + 1) {x1 : Int} {x2 : Int} {x3 : Int}  {x4 : Int} {x5 : Int} {M : MEM} : J (mo_rests_b55 x1 x2 x3 x4 x5 M) (Sum.elim (HD_mo_rests_b55 Δ Γ d x1 x2 x3) (X_mo_rests_b55 Δ Γ d x1 x2 x3)) (WAt Δ Γ false m_mo_rests (d + 1) 55 [vR (278), vI (x1), vI (x2), vI (x3), vI (x4), vI (x5), vN, vN, vN, vN, vN, vN] [] (NG, S0, M) 0 0) := by
  unfold mo_rests_b55
  refine J.mono (fun k => w_iload rfl rfl (w_iload_n rfl rfl k)) ?_
  refine J_ite (fun hc16 => ?_) (fun hc16 => ?_)
  · refine J.mono (fun k => s_icmp_ge_t rfl hc16 k) ?_
    exact J_some (fun k => w_forget (wk_k (wk_k (wk_k (wk_d (wk_k (wk_k (wk_d (wk_d (wk_d (wk_d (wk_d (wk_d wk_0)))))))))))) k)
  · refine J.mono (fun k => s_icmp_ge_f rfl hc16 (w_iload rfl rfl (w_iconst rfl (inR_c rfl) k))) ?_
    refine J_ite (fun hc17 => ?_) (fun hc17 => ?_)
    · refine J.mono (fun k => s_icmp_ge_t rfl hc17 k) ?_
      exact J_some (fun k => w_forget (wk_k (wk_k (wk_k (wk_d (wk_k (wk_k (wk_d (wk_d (wk_d (wk_d (wk_d (wk_d wk_0)))))))))))) k)
    · refine J.mono (fun k => s_icmp_ge_f rfl hc17 (w_iload rfl rfl (w_iconst rfl (inR_c rfl) (w_irem rfl (by decide) (s_istore6 rfl (Nat.le_of_ble_eq_true rfl) (w_aload_n rfl rfl (w_getR (r := 301) rfl (Nat.le_of_ble_eq_true rfl) S_278 rfl (w_iload rfl rfl k)))))))) ?_
      refine J_chk (fun hi18 => ?_)
      refine J.mono (fun k => w_iald rfl A_301.1 A_301.2 hi18.1 hi18.2 (s_istore7 rfl (Nat.le_of_ble_eq_true rfl) (w_iload rfl rfl (s_istore8 rfl (Nat.le_of_ble_eq_true rfl) (w_aload_n rfl rfl (w_iload_n rfl rfl (w_iload_n rfl rfl k))))))) ?_
      refine J_c (fun p20 e19 => ?_)
      refine J_hyp (fun k => c_vi2 rfl (fun ho hM => cal_mo_hourBy (by omega)  e19 ho hM) v_mo_hourBy (Nat.le_of_ble_eq_true rfl) S_278 rfl (Nat.le_of_ble_eq_true rfl) k) (fun hr21 hb22 => ?_)
      refine J.mono (fun k => s_istore9 rfl (Nat.le_of_ble_eq_true rfl) (w_iconst rfl (inR_c rfl) (s_istore10 rfl (Nat.le_of_ble_eq_true rfl) k))) ?_
      refine J.mono (fun k => w_forget (wk_k (wk_k (wk_k (wk_k (wk_k (wk_k (wk_k (wk_k (wk_k (wk_k (wk_k (wk_d wk_0)))))))))))) k) ?_
      refine J_loop (Jl_mo_rests_b97 hd  _ _) (fun w33 => ?_)
      refine J.mono (fun k => w_aload_n rfl rfl (w_getR (r := 301) rfl (Nat.le_of_ble_eq_true rfl) S_278 rfl (w_iload rfl rfl (w_iload rfl rfl k)))) ?_
      refine J_chk (fun hi35 => ?_)
      refine J_b ?_
      refine J.mono (fun k => w_iast rfl A_301.1 A_301.2 hi35.1 hi35.2 rfl (w_iload rfl rfl (w_iload rfl rfl k))) ?_
      refine J_ite (fun hc36 => ?_) (fun hc36 => ?_)
      · refine J.mono (fun k => s_icmp_ne_f rfl hc36 (w_iload rfl rfl (w_iconst rfl (inR_c rfl) (w_iadd rfl (w_goto rfl k))))) ?_
        exact J.mono (fun k => w_forget (wk_k (wk_k (wk_k (wk_k (wk_k (wk_d (wk_d (wk_d (wk_d (wk_d (wk_d (wk_d wk_0)))))))))))) k) (J_mo_rests_j184_55 hd )
      · refine J.mono (fun k => s_icmp_ne_t rfl hc36 (w_iconst rfl (inR_c rfl) k)) ?_
        exact J.mono (fun k => w_forget (wk_k (wk_k (wk_k (wk_k (wk_k (wk_d (wk_d (wk_d (wk_d (wk_d (wk_d (wk_d wk_0)))))))))))) k) (J_mo_rests_j184_55 hd )
set_option maxRecDepth 20000 in
set_option maxHeartbeats 4000000 in
theorem Jl_mo_rests_b55 {Δ : DT} {Γ : FT} {d : Nat} (hd : 80 ≤ d + 1) {x1 : Int} {x2 : Int} {x3 : Int}   : ∀ (n : Nat) (s : Int × Int × MEM), J (iter (fun s => mo_rests_b55 x1 x2 x3 s.1 s.2.1 s.2.2) n s) (X_mo_rests_b55 Δ Γ d x1 x2 x3) (HD_mo_rests_b55 Δ Γ d x1 x2 x3 s) := J_iter (fun s => Jb_mo_rests_b55 hd )
set_option maxRecDepth 20000 in
set_option maxHeartbeats 4000000 in
theorem J_mo_rests_j217 {Δ : DT} {Γ : FT} {d : Nat} (hd : 80 ≤ d + 1) {x4 : Int} {x6 : Int} {s1 : Int}  {M : MEM} : J (mo_rests_j217 x4 x6 s1 M) (K_IM Δ Γ m_mo_rests) (WAt Δ Γ false m_mo_rests (d + 1) 217 [vR (278), vN, vN, vN, vI (x4), vN, vI (x6), vN, vN, vN, vN, vN] [vI (s1), vR (278)] (NG, S0, M) 0 0) := by
  unfold mo_rests_j217
  refine J_c (fun M45 e44 => ?_)
  refine J.mono (fun k => c_vv1 rfl (fun ho hM => cal_mo_tell (by omega)  e44 ho hM) v_mo_tell (Nat.le_of_ble_eq_true rfl) S_278 rfl (Nat.le_of_ble_eq_true rfl) (w_aload_n rfl rfl (w_aload_n rfl rfl (w_getR (r := 301) rfl (Nat.le_of_ble_eq_true rfl) S_278 rfl (w_iconst rfl (inR_c rfl) (w_iald rfl A_301.1 A_301.2 (by decide) (by decide) k)))))) ?_
  refine J_c (fun M47 e46 => ?_)
  refine J.mono (fun k => c_vv1 rfl (fun ho hM => cal_mo_tell (by omega)  e46 ho hM) v_mo_tell (Nat.le_of_ble_eq_true rfl) S_278 rfl (Nat.le_of_ble_eq_true rfl) (w_aload_n rfl rfl (w_aload_n rfl rfl (w_getR (r := 301) rfl (Nat.le_of_ble_eq_true rfl) S_278 rfl (w_iconst rfl (inR_c rfl) (w_iald rfl A_301.1 A_301.2 (by decide) (by decide) k)))))) ?_
  refine J_c (fun M49 e48 => ?_)
  refine J.mono (fun k => c_vv1 rfl (fun ho hM => cal_mo_tell (by omega)  e48 ho hM) v_mo_tell (Nat.le_of_ble_eq_true rfl) S_278 rfl (Nat.le_of_ble_eq_true rfl) (w_aload_n rfl rfl (w_iload rfl rfl k))) ?_
  refine J_c (fun M51 e50 => ?_)
  refine J.mono (fun k => c_vv1 rfl (fun ho hM => cal_mo_tell (by omega)  e50 ho hM) v_mo_tell (Nat.le_of_ble_eq_true rfl) S_278 rfl (Nat.le_of_ble_eq_true rfl) (w_iload rfl rfl k)) ?_
  exact J_some (fun k => w_ireturn rfl rfl k)
set_option maxRecDepth 20000 in
set_option maxHeartbeats 4000000 in
theorem J_mo_rests_j192 {Δ : DT} {Γ : FT} {d : Nat} (hd : 80 ≤ d + 1) {x1 : Int} {x2 : Int} {x4 : Int} {x5 : Int}  {M : MEM} : J (mo_rests_j192 x1 x2 x4 x5 M) (K_IM Δ Γ m_mo_rests) (WAt Δ Γ false m_mo_rests (d + 1) 192 [vR (278), vI (x1), vI (x2), vN, vI (x4), vI (x5), vN, vN, vN, vN, vN, vN] [] (NG, S0, M) 0 0) := by
  unfold mo_rests_j192
  refine J.mono (fun k => w_aload_n rfl rfl (w_iload_n rfl rfl (w_iload_n rfl rfl k))) ?_
  refine J_c (fun p39 e38 => ?_)
  refine J_hyp (fun k => c_vi2 rfl (fun ho hM => cal_mo_hourBy (by omega)  e38 ho hM) v_mo_hourBy (Nat.le_of_ble_eq_true rfl) S_278 rfl (Nat.le_of_ble_eq_true rfl) k) (fun hr40 hb41 => ?_)
  refine J.mono (fun k => s_istore6 rfl (Nat.le_of_ble_eq_true rfl) (w_aload_n rfl rfl (w_iconst rfl (inR_c rfl) k))) ?_
  refine J_b ?_
  refine J.mono (fun k => w_putI rfl (Nat.le_of_ble_eq_true rfl) S_278 rfl rfl (w_aload_n rfl rfl (w_iload rfl rfl (w_iconst rfl (inR_c rfl) k)))) ?_
  refine J_ite (fun hc43 => ?_) (fun hc43 => ?_)
  · refine J.mono (fun k => s_icmp_ne_f rfl hc43 (w_iconst rfl (inR_c rfl) (w_goto rfl k))) ?_
    exact J.mono (fun k => w_forget (wk_k (wk_d (wk_d (wk_d (wk_k (wk_d (wk_k (wk_d (wk_d (wk_d (wk_d (wk_d wk_0)))))))))))) k) (J_mo_rests_j217 hd )
  · refine J.mono (fun k => s_icmp_ne_t rfl hc43 (w_iconst rfl (inR_c rfl) k)) ?_
    exact J.mono (fun k => w_forget (wk_k (wk_d (wk_d (wk_d (wk_k (wk_d (wk_k (wk_d (wk_d (wk_d (wk_d (wk_d wk_0)))))))))))) k) (J_mo_rests_j217 hd )
set_option maxRecDepth 20000 in
set_option maxHeartbeats 4000000 in
theorem J_mo_rests {Δ : DT} {Γ : FT} {d : Nat} (hd : 80 ≤ d + 1) {x1 : Int} {x2 : Int} {x3 : Int}  {M : MEM} : J (mo_rests x1 x2 x3 M) (K_IM Δ Γ m_mo_rests) (WAt Δ Γ false m_mo_rests (d + 1) 0 [vR (278), vI (x1), vI (x2), vI (x3), vN, vN, vN, vN, vN, vN, vN, vN] [] (NG, S0, M) 0 0) := by
  unfold mo_rests
  refine J.mono (fun k => w_aload_n rfl rfl (w_iconst rfl (inR_c rfl) k)) ?_
  refine J_b ?_
  refine J.mono (fun k => w_putI rfl (Nat.le_of_ble_eq_true rfl) S_278 rfl rfl (w_aload_n rfl rfl (w_iload_n rfl rfl k))) ?_
  refine J_hyp (fun k => c_vi1 rfl (fun ho hM => cal_mo_isDonkey (by omega)   ho hM) v_mo_isDonkey (Nat.le_of_ble_eq_true rfl) S_278 rfl (Nat.le_of_ble_eq_true rfl) k) (fun hr3 hb4 => ?_)
  refine J_ite (fun hc5 => ?_) (fun hc5 => ?_)
  · refine J.mono (fun k => s_if_eq_t rfl hc5 (w_iconst rfl (inR_c rfl) k)) ?_
    exact J_some (fun k => w_ireturn rfl rfl k)
  · refine J.mono (fun k => s_if_eq_f rfl hc5 (w_iload_n rfl rfl (w_iconst rfl (inR_c rfl) (w_bipush rfl (bip_c rfl) k)))) ?_
    refine J_hyp (fun k => c_si3 rfl rfl (fun ho hM => cal_mo_in (by omega)   ho hM) v_mo_in (Nat.le_of_ble_eq_true rfl) k) (fun hr7 hb8 => ?_)
    refine J_ite (fun hc9 => ?_) (fun hc9 => ?_)
    · refine J.mono (fun k => s_if_eq_t rfl hc9 (w_iconst rfl (inR_c rfl) k)) ?_
      exact J_some (fun k => w_ireturn rfl rfl k)
    · refine J.mono (fun k => s_if_eq_f rfl hc9 (w_iload_n rfl rfl (w_iconst rfl (inR_c rfl) (w_bipush rfl (bip_c rfl) k)))) ?_
      refine J_hyp (fun k => c_si3 rfl rfl (fun ho hM => cal_mo_in (by omega)   ho hM) v_mo_in (Nat.le_of_ble_eq_true rfl) k) (fun hr11 hb12 => ?_)
      refine J_ite (fun hc13 => ?_) (fun hc13 => ?_)
      · refine J.mono (fun k => s_if_ne_f rfl hc13 (w_iconst rfl (inR_c rfl) k)) ?_
        exact J_some (fun k => w_ireturn rfl rfl k)
      · refine J.mono (fun k => s_if_ne_t rfl hc13 (w_aload_n rfl rfl (w_getR (r := 301) rfl (Nat.le_of_ble_eq_true rfl) S_278 rfl (w_iconst rfl (inR_c rfl) (w_iconst rfl (inR_c rfl) k))))) ?_
        refine J_b ?_
        refine J.mono (fun k => w_iast rfl A_301.1 A_301.2 (by decide) (by decide) rfl (w_aload_n rfl rfl (w_getR (r := 301) rfl (Nat.le_of_ble_eq_true rfl) S_278 rfl (w_iconst rfl (inR_c rfl) (w_iconst rfl (inR_c rfl) k))))) ?_
        refine J_b ?_
        refine J.mono (fun k => w_iast rfl A_301.1 A_301.2 (by decide) (by decide) rfl (w_iconst rfl (inR_c rfl) (s_istore4 rfl (Nat.le_of_ble_eq_true rfl) (w_iconst rfl (inR_c rfl) (s_istore5 rfl (Nat.le_of_ble_eq_true rfl) k))))) ?_
        refine J.mono (fun k => w_forget (wk_k (wk_k (wk_k (wk_k (wk_k (wk_k (wk_d (wk_d (wk_d (wk_d (wk_d (wk_d wk_0)))))))))))) k) ?_
        refine J_loop (Jl_mo_rests_b55 hd  _ _) (fun w37 => ?_)
        exact J.mono (fun k => w_forget (wk_k (wk_k (wk_k (wk_d (wk_k (wk_k (wk_d (wk_d (wk_d (wk_d (wk_d (wk_d wk_0)))))))))))) k) (J_mo_rests_j192 hd )
set_option maxRecDepth 20000 in
set_option maxHeartbeats 4000000 in
theorem cal_mo_rests {Δ : DT} {d : Nat} (hd : 80 ≤ d) {x1 : Int} {x2 : Int} {x3 : Int}  {M : MEM} {p : Int × MEM} (h : mo_rests x1 x2 x3 M = some p) (ho : okVs [vR 278, vI x1, vI x2, vI x3]) (hM : okM M) : Cal Δ false m_mo_rests d [vR 278, vI x1, vI x2, vI x3] (NG, S0, M) (some p.1) (NG, S0, p.2) 0 0 := by
  obtain ⟨d, rfl⟩ : ∃ e, d = e + 1 := ⟨d - 1, by omega⟩
  exact cal_of g_mo_rests p_mo_rests (fun v hv => by simp only [List.mem_cons, List.not_mem_nil, or_false] at hv; rcases hv with rfl | rfl | rfl | rfl <;> first | exact Or.inl ⟨_, rfl⟩ | exact Or.inr ⟨_, rfl⟩) ho hM (Nat.le_of_ble_eq_true rfl) (fun Γ _ k => J_mo_rests hd  _ h k)
abbrev HD_mo_bid_b39 (Δ : DT) (Γ : FT) (d : Nat) (x1 : Int) (x2 : Int) (x3 : Int) (s : Int × Int × MEM) : Prop := WAt Δ Γ false m_mo_bid (d + 1) 39 [vR (278), vI (x1), vI (x2), vI (x3), vI (s.1), vI (s.2.1), vN] [] (NG, S0, s.2.2) 0 0
abbrev X_mo_bid_b39 (Δ : DT) (Γ : FT) (d : Nat) (x1 : Int) (x2 : Int) (x3 : Int) (s : Int × Int × MEM) : Prop := WAt Δ Γ false m_mo_bid (d + 1) 129 [vN, vN, vN, vN, vI (s.1), vN, vN] [] (NG, S0, s.2.2) 0 0
set_option maxRecDepth 20000 in
set_option maxHeartbeats 4000000 in
theorem J_mo_bid_j123_39 {Δ : DT} {Γ : FT} {d : Nat} (hd : 78 ≤ d + 1) {x1 : Int} {x2 : Int} {x3 : Int} {x4 : Int} {x5 : Int}  {M : MEM} : J (mo_bid_j123_39 x1 x2 x3 x4 x5 M) (Sum.elim (HD_mo_bid_b39 Δ Γ d x1 x2 x3) (X_mo_bid_b39 Δ Γ d x1 x2 x3)) (WAt Δ Γ false m_mo_bid (d + 1) 123 [vR (278), vI (x1), vI (x2), vI (x3), vI (x4), vI (x5), vN] [] (NG, S0, M) 0 0) := by
  unfold mo_bid_j123_39
  refine J.mono (fun k => s_iinc5 rfl (Nat.le_of_ble_eq_true rfl) (w_goto rfl k)) ?_
  exact J_some (fun k => w_forget (wk_k (wk_k (wk_k (wk_k (wk_k (wk_k (wk_d wk_0))))))) k)
set_option maxRecDepth 20000 in
set_option maxHeartbeats 4000000 in
theorem J_mo_bid_j119_39 {Δ : DT} {Γ : FT} {d : Nat} (hd : 78 ≤ d + 1) {x1 : Int} {x2 : Int} {x3 : Int} {x5 : Int}  {M : MEM} : J (mo_bid_j119_39 x1 x2 x3 x5 M) (Sum.elim (HD_mo_bid_b39 Δ Γ d x1 x2 x3) (X_mo_bid_b39 Δ Γ d x1 x2 x3)) (WAt Δ Γ false m_mo_bid (d + 1) 119 [vR (278), vI (x1), vI (x2), vI (x3), vN, vI (x5), vN] [] (NG, S0, M) 0 0) := by
  unfold mo_bid_j119_39
  refine J.mono (fun k => w_iload rfl rfl (s_istore4 rfl (Nat.le_of_ble_eq_true rfl) k)) ?_
  exact J.mono (fun k => w_forget (wk_k (wk_k (wk_k (wk_k (wk_k (wk_k (wk_d wk_0))))))) k) (J_mo_bid_j123_39 hd )
set_option maxRecDepth 20000 in
set_option maxHeartbeats 4000000 in
theorem J_mo_bid_j97_39 {Δ : DT} {Γ : FT} {d : Nat} (hd : 78 ≤ d + 1) {x1 : Int} {x2 : Int} {x3 : Int} {x4 : Int} {x5 : Int} {s0 : Int}  {M : MEM} : J (mo_bid_j97_39 x1 x2 x3 x4 x5 s0 M) (Sum.elim (HD_mo_bid_b39 Δ Γ d x1 x2 x3) (X_mo_bid_b39 Δ Γ d x1 x2 x3)) (WAt Δ Γ false m_mo_bid (d + 1) 97 [vR (278), vI (x1), vI (x2), vI (x3), vI (x4), vI (x5), vN] [vI (s0)] (NG, S0, M) 0 0) := by
  unfold mo_bid_j97_39
  refine J.mono (fun k => s_istore6 rfl (Nat.le_of_ble_eq_true rfl) (w_iload_n rfl rfl (w_iconst rfl (inR_c rfl) k))) ?_
  refine J_ite (fun hc18 => ?_) (fun hc18 => ?_)
  · refine J.mono (fun k => s_icmp_ne_f rfl hc18 (w_iload rfl rfl (w_iload_n rfl rfl k))) ?_
    refine J_ite (fun hc19 => ?_) (fun hc19 => ?_)
    · refine J.mono (fun k => s_icmp_gt_t rfl hc19 k) ?_
      exact J.mono (fun k => w_forget (wk_k (wk_k (wk_k (wk_k (wk_k (wk_k (wk_d wk_0))))))) k) (J_mo_bid_j123_39 hd )
    · refine J.mono (fun k => s_icmp_gt_f rfl hc19 (w_goto rfl k)) ?_
      exact J.mono (fun k => w_forget (wk_k (wk_k (wk_k (wk_k (wk_d (wk_k (wk_d wk_0))))))) k) (J_mo_bid_j119_39 hd )
  · refine J.mono (fun k => s_icmp_ne_t rfl hc18 (w_iload rfl rfl (w_iload_n rfl rfl k))) ?_
    refine J_ite (fun hc20 => ?_) (fun hc20 => ?_)
    · refine J.mono (fun k => s_icmp_lt_t rfl hc20 k) ?_
      exact J.mono (fun k => w_forget (wk_k (wk_k (wk_k (wk_k (wk_k (wk_k (wk_d wk_0))))))) k) (J_mo_bid_j123_39 hd )
    · refine J.mono (fun k => s_icmp_lt_f rfl hc20 k) ?_
      exact J.mono (fun k => w_forget (wk_k (wk_k (wk_k (wk_k (wk_d (wk_k (wk_d wk_0))))))) k) (J_mo_bid_j119_39 hd )
set_option maxRecDepth 20000 in
set_option maxHeartbeats 4000000 in
theorem J_mo_bid_j66_39 {Δ : DT} {Γ : FT} {d : Nat} (hd : 78 ≤ d + 1) {x1 : Int} {x2 : Int} {x3 : Int} {x4 : Int} {x5 : Int}  {M : MEM} : J (mo_bid_j66_39 x1 x2 x3 x4 x5 M) (Sum.elim (HD_mo_bid_b39 Δ Γ d x1 x2 x3) (X_mo_bid_b39 Δ Γ d x1 x2 x3)) (WAt Δ Γ false m_mo_bid (d + 1) 66 [vR (278), vI (x1), vI (x2), vI (x3), vI (x4), vI (x5), vN] [] (NG, S0, M) 0 0) := by
  unfold mo_bid_j66_39
  refine J.mono (fun k => w_aload_n rfl rfl (w_iload_n rfl rfl k)) ?_
  refine J_c (fun M15 e14 => ?_)
  refine J.mono (fun k => c_vv1 rfl (fun ho hM => cal_mo_timesNow (by omega)  e14 ho hM) v_mo_timesNow (Nat.le_of_ble_eq_true rfl) S_278 rfl (Nat.le_of_ble_eq_true rfl) (w_aload_n rfl rfl (w_iconst rfl (inR_c rfl) k))) ?_
  refine J_b ?_
  refine J.mono (fun k => w_putI rfl (Nat.le_of_ble_eq_true rfl) S_278 rfl rfl (w_aload_n rfl rfl (w_getI rfl (Nat.le_of_ble_eq_true rfl) S_278 rfl k))) ?_
  refine J_ite (fun hc17 => ?_) (fun hc17 => ?_)
  · refine J.mono (fun k => s_if_ne_f rfl hc17 (w_sipush rfl (sip_c rfl) (w_goto rfl k))) ?_
    exact J.mono (fun k => w_forget (wk_k (wk_k (wk_k (wk_k (wk_k (wk_k (wk_d wk_0))))))) k) (J_mo_bid_j97_39 hd )
  · refine J.mono (fun k => s_if_ne_t rfl hc17 (w_aload_n rfl rfl (w_getR (r := 293) rfl (Nat.le_of_ble_eq_true rfl) S_278 rfl (w_iconst rfl (inR_c rfl) (w_iald rfl A_293.1 A_293.2 (by decide) (by decide) (w_iconst rfl (inR_c rfl) (w_iadd rfl k))))))) ?_
    exact J.mono (fun k => w_forget (wk_k (wk_k (wk_k (wk_k (wk_k (wk_k (wk_d wk_0))))))) k) (J_mo_bid_j97_39 hd )
set_option maxRecDepth 20000 in
set_option maxHeartbeats 4000000 in
theorem Jb_mo_bid_b39 {Δ : DT} {Γ : FT} {d : Nat} (hd : 78 ≤ d + 1) {x1 : Int} {x2 : Int} {x3 : Int}  {x4 : Int} {x5 : Int} {M : MEM} : J (mo_bid_b39 x1 x2 x3 x4 x5 M) (Sum.elim (HD_mo_bid_b39 Δ Γ d x1 x2 x3) (X_mo_bid_b39 Δ Γ d x1 x2 x3)) (WAt Δ Γ false m_mo_bid (d + 1) 39 [vR (278), vI (x1), vI (x2), vI (x3), vI (x4), vI (x5), vN] [] (NG, S0, M) 0 0) := by
  unfold mo_bid_b39
  refine J.mono (fun k => w_iload rfl rfl (w_bipush rfl (bip_c rfl) k)) ?_
  refine J_ite (fun hc11 => ?_) (fun hc11 => ?_)
  · refine J.mono (fun k => s_icmp_gt_t rfl hc11 k) ?_
    exact J_some (fun k => w_forget (wk_d (wk_d (wk_d (wk_d (wk_k (wk_d (wk_d wk_0))))))) k)
  · refine J.mono (fun k => s_icmp_gt_f rfl hc11 (w_iload rfl rfl k)) ?_
    refine J_ite (fun hc12 => ?_) (fun hc12 => ?_)
    · refine J.mono (fun k => s_if_ge_t rfl hc12 k) ?_
      exact J_some (fun k => w_forget (wk_d (wk_d (wk_d (wk_d (wk_k (wk_d (wk_d wk_0))))))) k)
    · refine J.mono (fun k => s_if_ge_f rfl hc12 (w_iload rfl rfl k)) ?_
      refine J_ite (fun hc13 => ?_) (fun hc13 => ?_)
      · refine J.mono (fun k => s_if_le_t rfl hc13 k) ?_
        exact J.mono (fun k => w_forget (wk_k (wk_k (wk_k (wk_k (wk_k (wk_k (wk_d wk_0))))))) k) (J_mo_bid_j66_39 hd )
      · refine J.mono (fun k => s_if_le_f rfl hc13 (w_aload_n rfl rfl (w_iconst rfl (inR_c rfl) (w_iload_n rfl rfl (w_iconst rfl (inR_c rfl) (w_iload rfl rfl (w_iload_n rfl rfl k))))))) ?_
        refine J_c (fun M22 e21 => ?_)
        refine J.mono (fun k => c_vv5 rfl (fun ho hM => cal_mo_think (by omega)  e21 ho hM) v_mo_think (Nat.le_of_ble_eq_true rfl) S_278 rfl (Nat.le_of_ble_eq_true rfl) k) ?_
        exact J.mono (fun k => w_forget (wk_k (wk_k (wk_k (wk_k (wk_k (wk_k (wk_d wk_0))))))) k) (J_mo_bid_j66_39 hd )
set_option maxRecDepth 20000 in
set_option maxHeartbeats 4000000 in
theorem Jl_mo_bid_b39 {Δ : DT} {Γ : FT} {d : Nat} (hd : 78 ≤ d + 1) {x1 : Int} {x2 : Int} {x3 : Int}   : ∀ (n : Nat) (s : Int × Int × MEM), J (iter (fun s => mo_bid_b39 x1 x2 x3 s.1 s.2.1 s.2.2) n s) (X_mo_bid_b39 Δ Γ d x1 x2 x3) (HD_mo_bid_b39 Δ Γ d x1 x2 x3 s) := J_iter (fun s => Jb_mo_bid_b39 hd )
set_option maxRecDepth 20000 in
set_option maxHeartbeats 4000000 in
theorem J_mo_bid_j23 {Δ : DT} {Γ : FT} {d : Nat} (hd : 78 ≤ d + 1) {x1 : Int} {x2 : Int} {x3 : Int}  {M : MEM} : J (mo_bid_j23 x1 x2 x3 M) (K_IM Δ Γ m_mo_bid) (WAt Δ Γ false m_mo_bid (d + 1) 23 [vR (278), vI (x1), vI (x2), vI (x3), vN, vN, vN] [] (NG, S0, M) 0 0) := by
  unfold mo_bid_j23
  refine J.mono (fun k => w_iload_n rfl rfl k) ?_
  refine J_hyp (fun k => c_si1 rfl rfl (fun ho hM => cal_mo_isMore (by omega)   ho hM) v_mo_isMore (Nat.le_of_ble_eq_true rfl) k) (fun hr8 hb9 => ?_)
  refine J_ite (fun hc10 => ?_) (fun hc10 => ?_)
  · refine J.mono (fun k => s_if_ne_f rfl hc10 (w_iconst rfl (inR_c rfl) k)) ?_
    exact J_some (fun k => w_ireturn rfl rfl k)
  · refine J.mono (fun k => s_if_ne_t rfl hc10 (w_bipush rfl (bip_c rfl) (s_istore4 rfl (Nat.le_of_ble_eq_true rfl) (w_iconst rfl (inR_c rfl) (s_istore5 rfl (Nat.le_of_ble_eq_true rfl) k))))) ?_
    refine J.mono (fun k => w_forget (wk_k (wk_k (wk_k (wk_k (wk_k (wk_k (wk_d wk_0))))))) k) ?_
    refine J_loop (Jl_mo_bid_b39 hd  _ _) (fun w23 => ?_)
    refine J.mono (fun k => w_iload rfl rfl k) ?_
    exact J_some (fun k => w_ireturn rfl rfl k)
set_option maxRecDepth 20000 in
set_option maxHeartbeats 4000000 in
theorem J_mo_bid {Δ : DT} {Γ : FT} {d : Nat} (hd : 78 ≤ d + 1) {x1 : Int} {x2 : Int} {x3 : Int}  {M : MEM} : J (mo_bid x1 x2 x3 M) (K_IM Δ Γ m_mo_bid) (WAt Δ Γ false m_mo_bid (d + 1) 0 [vR (278), vI (x1), vI (x2), vI (x3), vN, vN, vN] [] (NG, S0, M) 0 0) := by
  unfold mo_bid
  refine J.mono (fun k => w_aload_n rfl rfl (w_iconst rfl (inR_c rfl) k)) ?_
  refine J_b ?_
  refine J.mono (fun k => w_putI rfl (Nat.le_of_ble_eq_true rfl) S_278 rfl rfl (w_aload_n rfl rfl (w_iload_n rfl rfl k))) ?_
  refine J_hyp (fun k => c_vi1 rfl (fun ho hM => cal_mo_isDonkey (by omega)   ho hM) v_mo_isDonkey (Nat.le_of_ble_eq_true rfl) S_278 rfl (Nat.le_of_ble_eq_true rfl) k) (fun hr3 hb4 => ?_)
  refine J_ite (fun hc5 => ?_) (fun hc5 => ?_)
  · refine J.mono (fun k => s_if_eq_t rfl hc5 (w_iconst rfl (inR_c rfl) k)) ?_
    exact J_some (fun k => w_ireturn rfl rfl k)
  · refine J.mono (fun k => s_if_eq_f rfl hc5 (w_iload_n rfl rfl (w_iconst rfl (inR_c rfl) k))) ?_
    refine J_ite (fun hc6 => ?_) (fun hc6 => ?_)
    · refine J.mono (fun k => s_icmp_eq_t rfl hc6 k) ?_
      exact J.mono (fun k => w_forget (wk_k (wk_k (wk_k (wk_k (wk_d (wk_d (wk_d wk_0))))))) k) (J_mo_bid_j23 hd )
    · refine J.mono (fun k => s_icmp_eq_f rfl hc6 (w_iload_n rfl rfl (w_iconst rfl (inR_c rfl) k))) ?_
      refine J_ite (fun hc24 => ?_) (fun hc24 => ?_)
      · refine J.mono (fun k => s_icmp_ne_f rfl hc24 k) ?_
        exact J.mono (fun k => w_forget (wk_k (wk_k (wk_k (wk_k (wk_d (wk_d (wk_d wk_0))))))) k) (J_mo_bid_j23 hd )
      · refine J.mono (fun k => s_icmp_ne_t rfl hc24 (w_iconst rfl (inR_c rfl) k)) ?_
        exact J_some (fun k => w_ireturn rfl rfl k)
set_option maxRecDepth 20000 in
set_option maxHeartbeats 4000000 in
theorem cal_mo_bid {Δ : DT} {d : Nat} (hd : 78 ≤ d) {x1 : Int} {x2 : Int} {x3 : Int}  {M : MEM} {p : Int × MEM} (h : mo_bid x1 x2 x3 M = some p) (ho : okVs [vR 278, vI x1, vI x2, vI x3]) (hM : okM M) : Cal Δ false m_mo_bid d [vR 278, vI x1, vI x2, vI x3] (NG, S0, M) (some p.1) (NG, S0, p.2) 0 0 := by
  obtain ⟨d, rfl⟩ : ∃ e, d = e + 1 := ⟨d - 1, by omega⟩
  exact cal_of g_mo_bid p_mo_bid (fun v hv => by simp only [List.mem_cons, List.not_mem_nil, or_false] at hv; rcases hv with rfl | rfl | rfl | rfl <;> first | exact Or.inl ⟨_, rfl⟩ | exact Or.inr ⟨_, rfl⟩) ho hM (Nat.le_of_ble_eq_true rfl) (fun Γ _ k => J_mo_bid hd  _ h k)
set_option maxRecDepth 20000 in
set_option maxHeartbeats 4000000 in
theorem J_mo_heard {Δ : DT} {Γ : FT} {d : Nat} (hd : 2 ≤ d + 1) {x1 : Int} {x2 : Int} {x3 : Int}  {M : MEM} : J (mo_heard x1 x2 x3 M) (K_IM Δ Γ m_mo_heard) (WAt Δ Γ false m_mo_heard (d + 1) 0 [vR (278), vI (x1), vI (x2), vI (x3)] [] (NG, S0, M) 0 0) := by
  unfold mo_heard
  refine J.mono (fun k => w_aload_n rfl rfl (w_iconst rfl (inR_c rfl) k)) ?_
  refine J_b ?_
  refine J.mono (fun k => w_putI rfl (Nat.le_of_ble_eq_true rfl) S_278 rfl rfl (w_aload_n rfl rfl (w_iload_n rfl rfl k))) ?_
  refine J_hyp (fun k => c_vi1 rfl (fun ho hM => cal_mo_isDonkey (by omega)   ho hM) v_mo_isDonkey (Nat.le_of_ble_eq_true rfl) S_278 rfl (Nat.le_of_ble_eq_true rfl) k) (fun hr3 hb4 => ?_)
  refine J_ite (fun hc5 => ?_) (fun hc5 => ?_)
  · refine J.mono (fun k => s_if_eq_t rfl hc5 (w_iconst rfl (inR_c rfl) k)) ?_
    exact J_some (fun k => w_ireturn rfl rfl k)
  · refine J.mono (fun k => s_if_eq_f rfl hc5 (w_iload_n rfl rfl (w_iconst rfl (inR_c rfl) (w_bipush rfl (bip_c rfl) k)))) ?_
    refine J_hyp (fun k => c_si3 rfl rfl (fun ho hM => cal_mo_in (by omega)   ho hM) v_mo_in (Nat.le_of_ble_eq_true rfl) k) (fun hr7 hb8 => ?_)
    refine J_ite (fun hc9 => ?_) (fun hc9 => ?_)
    · refine J.mono (fun k => s_if_eq_t rfl hc9 (w_iconst rfl (inR_c rfl) k)) ?_
      exact J_some (fun k => w_ireturn rfl rfl k)
    · refine J.mono (fun k => s_if_eq_f rfl hc9 (w_iload_n rfl rfl k)) ?_
      refine J_hyp (fun k => c_si1 rfl rfl (fun ho hM => cal_mo_isMore (by omega)   ho hM) v_mo_isMore (Nat.le_of_ble_eq_true rfl) k) (fun hr11 hb12 => ?_)
      refine J_ite (fun hc13 => ?_) (fun hc13 => ?_)
      · refine J.mono (fun k => s_if_eq_t rfl hc13 (w_iconst rfl (inR_c rfl) k)) ?_
        exact J_some (fun k => w_ireturn rfl rfl k)
      · refine J.mono (fun k => s_if_eq_f rfl hc13 (w_aload_n rfl rfl (w_getI rfl (Nat.le_of_ble_eq_true rfl) S_278 rfl (w_bipush rfl (bip_c rfl) k)))) ?_
        refine J_ite (fun hc14 => ?_) (fun hc14 => ?_)
        · refine J.mono (fun k => s_icmp_ne_f rfl hc14 (w_iconst rfl (inR_c rfl) k)) ?_
          exact J_some (fun k => w_ireturn rfl rfl k)
        · refine J.mono (fun k => s_icmp_ne_t rfl hc14 (w_aload_n rfl rfl (w_getR (r := 302) rfl (Nat.le_of_ble_eq_true rfl) S_278 rfl (w_iconst rfl (inR_c rfl) (w_aload_n rfl rfl (w_getI rfl (Nat.le_of_ble_eq_true rfl) S_278 rfl (w_imul rfl (w_iload_n rfl rfl k)))))))) ?_
          refine J_chk (fun hi16 => ?_)
          refine J_b ?_
          refine J.mono (fun k => w_iast rfl A_302.1 A_302.2 hi16.1 hi16.2 rfl (w_aload_n rfl rfl (w_getR (r := 302) rfl (Nat.le_of_ble_eq_true rfl) S_278 rfl (w_iconst rfl (inR_c rfl) (w_aload_n rfl rfl (w_getI rfl (Nat.le_of_ble_eq_true rfl) S_278 rfl (w_imul rfl (w_iconst rfl (inR_c rfl) (w_iadd rfl (w_iload_n rfl rfl k)))))))))) ?_
          refine J_chk (fun hi18 => ?_)
          refine J_b ?_
          refine J.mono (fun k => w_iast rfl A_302.1 A_302.2 hi18.1 hi18.2 rfl (w_aload_n rfl rfl (w_getR (r := 302) rfl (Nat.le_of_ble_eq_true rfl) S_278 rfl (w_iconst rfl (inR_c rfl) (w_aload_n rfl rfl (w_getI rfl (Nat.le_of_ble_eq_true rfl) S_278 rfl (w_imul rfl (w_iconst rfl (inR_c rfl) (w_iadd rfl (w_iload_n rfl rfl k)))))))))) ?_
          refine J_chk (fun hi20 => ?_)
          refine J_b ?_
          refine J.mono (fun k => w_iast rfl A_302.1 A_302.2 hi20.1 hi20.2 rfl (w_aload_n rfl rfl (w_dup rfl (fun _ h => by cases h) (w_getI rfl (Nat.le_of_ble_eq_true rfl) S_278 rfl (w_iconst rfl (inR_c rfl) (w_iadd rfl k)))))) ?_
          refine J_b ?_
          refine J.mono (fun k => w_putI rfl (Nat.le_of_ble_eq_true rfl) S_278 rfl rfl (w_aload_n rfl rfl (w_getI rfl (Nat.le_of_ble_eq_true rfl) S_278 rfl k))) ?_
          exact J_some (fun k => w_ireturn rfl rfl k)
set_option maxRecDepth 20000 in
set_option maxHeartbeats 4000000 in
theorem cal_mo_heard {Δ : DT} {d : Nat} (hd : 2 ≤ d) {x1 : Int} {x2 : Int} {x3 : Int}  {M : MEM} {p : Int × MEM} (h : mo_heard x1 x2 x3 M = some p) (ho : okVs [vR 278, vI x1, vI x2, vI x3]) (hM : okM M) : Cal Δ false m_mo_heard d [vR 278, vI x1, vI x2, vI x3] (NG, S0, M) (some p.1) (NG, S0, p.2) 0 0 := by
  obtain ⟨d, rfl⟩ : ∃ e, d = e + 1 := ⟨d - 1, by omega⟩
  exact cal_of g_mo_heard p_mo_heard (fun v hv => by simp only [List.mem_cons, List.not_mem_nil, or_false] at hv; rcases hv with rfl | rfl | rfl | rfl <;> first | exact Or.inl ⟨_, rfl⟩ | exact Or.inr ⟨_, rfl⟩) ho hM (Nat.le_of_ble_eq_true rfl) (fun Γ _ k => J_mo_heard hd  _ h k)
set_option maxRecDepth 20000 in
set_option maxHeartbeats 4000000 in
theorem J_mo_forget {Δ : DT} {Γ : FT} {d : Nat}   {M : MEM} : J (mo_forget M) (K_IM Δ Γ m_mo_forget) (WAt Δ Γ false m_mo_forget d 0 [vR (278), vN] [] (NG, S0, M) 0 0) := by
  unfold mo_forget
  refine J.mono (fun k => w_aload_n rfl rfl (w_iconst rfl (inR_c rfl) k)) ?_
  refine J_b ?_
  refine J.mono (fun k => w_putI rfl (Nat.le_of_ble_eq_true rfl) S_278 rfl rfl (w_aload_n rfl rfl (w_getI rfl (Nat.le_of_ble_eq_true rfl) S_278 rfl (s_istore1 rfl (Nat.le_of_ble_eq_true rfl) (w_aload_n rfl rfl (w_iconst rfl (inR_c rfl) k)))))) ?_
  refine J_b ?_
  refine J.mono (fun k => w_putI rfl (Nat.le_of_ble_eq_true rfl) S_278 rfl rfl (w_iload_n rfl rfl k)) ?_
  exact J_some (fun k => w_ireturn rfl rfl k)
set_option maxRecDepth 20000 in
set_option maxHeartbeats 4000000 in
theorem cal_mo_forget {Δ : DT} {d : Nat} (hd : 0 ≤ d)   {M : MEM} {p : Int × MEM} (h : mo_forget M = some p) (ho : okVs [vR 278]) (hM : okM M) : Cal Δ false m_mo_forget d [vR 278] (NG, S0, M) (some p.1) (NG, S0, p.2) 0 0 := by
  exact cal_of g_mo_forget p_mo_forget (fun v hv => by simp only [List.mem_cons, List.not_mem_nil, or_false] at hv; rcases hv with rfl <;> first | exact Or.inl ⟨_, rfl⟩ | exact Or.inr ⟨_, rfl⟩) ho hM (Nat.le_of_ble_eq_true rfl) (fun Γ _ k => J_mo_forget  _ h k)
abbrev HD_mo_isHeard_b2 (Δ : DT) (Γ : FT) (d : Nat) (x1 : Int) (M : MEM) (s : Int) : Prop := WAt Δ Γ false m_mo_isHeard d 2 [vR (278), vI (x1), vI (s), vN] [] (NG, S0, M) 0 0
abbrev X_mo_isHeard_b2 (Δ : DT) (Γ : FT) (d : Nat) (x1 : Int) (M : MEM) : (Int) ⊕ (Int) → Prop := Sum.elim (K_I Δ Γ m_mo_isHeard M) (fun s => WAt Δ Γ false m_mo_isHeard d 82 [vN, vN, vN, vN] [] (NG, S0, M) 0 0)
abbrev HD_mo_isHeard_b27 (Δ : DT) (Γ : FT) (d : Nat) (x1 : Int) (x2 : Int) (M : MEM) (s : Int) : Prop := WAt Δ Γ false m_mo_isHeard d 27 [vR (278), vI (x1), vI (x2), vI (s)] [] (NG, S0, M) 0 0
abbrev X_mo_isHeard_b27 (Δ : DT) (Γ : FT) (d : Nat) (x1 : Int) (x2 : Int) (M : MEM) (s : Int) : Prop := WAt Δ Γ false m_mo_isHeard d 60 [vR (278), vI (x1), vI (x2), vI (s)] [] (NG, S0, M) 0 0
set_option maxRecDepth 20000 in
set_option maxHeartbeats 4000000 in
theorem Jb_mo_isHeard_b27 {Δ : DT} {Γ : FT} {d : Nat} {x1 : Int} {x2 : Int}  {x3 : Int} {M : MEM} : J (mo_isHeard_b27 x1 x2 x3 M) (Sum.elim (HD_mo_isHeard_b27 Δ Γ d x1 x2 M) (X_mo_isHeard_b27 Δ Γ d x1 x2 M)) (WAt Δ Γ false m_mo_isHeard d 27 [vR (278), vI (x1), vI (x2), vI (x3)] [] (NG, S0, M) 0 0) := by
  unfold mo_isHeard_b27
  refine J.mono (fun k => w_iload_n rfl rfl (w_aload_n rfl rfl (w_getI rfl (Nat.le_of_ble_eq_true rfl) S_278 rfl k))) ?_
  refine J_ite (fun hc4 => ?_) (fun hc4 => ?_)
  · refine J.mono (fun k => s_icmp_ge_t rfl hc4 k) ?_
    exact J_some (fun k => w_forget (wk_k (wk_k (wk_k (wk_k wk_0)))) k)
  · refine J.mono (fun k => s_icmp_ge_f rfl hc4 (w_aload_n rfl rfl (w_getR (r := 293) rfl (Nat.le_of_ble_eq_true rfl) S_278 rfl (w_iload_n rfl rfl k)))) ?_
    refine J_chk (fun hi5 => ?_)
    refine J.mono (fun k => w_iald rfl A_293.1 A_293.2 hi5.1 hi5.2 (w_aload_n rfl rfl (w_getR (r := 302) rfl (Nat.le_of_ble_eq_true rfl) S_278 rfl (w_iconst rfl (inR_c rfl) (w_iload_n rfl rfl (w_imul rfl (w_iconst rfl (inR_c rfl) (w_iadd rfl k)))))))) ?_
    refine J_chk (fun hi6 => ?_)
    refine J.mono (fun k => w_iald rfl A_302.1 A_302.2 hi6.1 hi6.2 k) ?_
    refine J_ite (fun hc7 => ?_) (fun hc7 => ?_)
    · refine J.mono (fun k => s_icmp_ge_t rfl hc7 k) ?_
      exact J_some (fun k => w_forget (wk_k (wk_k (wk_k (wk_k wk_0)))) k)
    · refine J.mono (fun k => s_icmp_ge_f rfl hc7 (s_iinc3 rfl (Nat.le_of_ble_eq_true rfl) (w_goto rfl k))) ?_
      exact J_some (fun k => w_forget (wk_k (wk_k (wk_k (wk_k wk_0)))) k)
set_option maxRecDepth 20000 in
set_option maxHeartbeats 4000000 in
theorem Jl_mo_isHeard_b27 {Δ : DT} {Γ : FT} {d : Nat} {x1 : Int} {x2 : Int}  {M : MEM} : ∀ (n : Nat) (s : Int), J (iter (fun s => mo_isHeard_b27 x1 x2 s M) n s) (X_mo_isHeard_b27 Δ Γ d x1 x2 M) (HD_mo_isHeard_b27 Δ Γ d x1 x2 M s) := J_iter (fun s => Jb_mo_isHeard_b27 )
set_option maxRecDepth 20000 in
set_option maxHeartbeats 4000000 in
theorem J_mo_isHeard_j76_2 {Δ : DT} {Γ : FT} {d : Nat} {x1 : Int} {x2 : Int}  {M : MEM} : J (mo_isHeard_j76_2 x1 x2 M) (Sum.elim (HD_mo_isHeard_b2 Δ Γ d x1 M) (X_mo_isHeard_b2 Δ Γ d x1 M)) (WAt Δ Γ false m_mo_isHeard d 76 [vR (278), vI (x1), vI (x2), vN] [] (NG, S0, M) 0 0) := by
  unfold mo_isHeard_j76_2
  refine J.mono (fun k => s_iinc2 rfl (Nat.le_of_ble_eq_true rfl) (w_goto rfl k)) ?_
  exact J_some (fun k => w_forget (wk_k (wk_k (wk_k (wk_d wk_0)))) k)
set_option maxRecDepth 20000 in
set_option maxHeartbeats 4000000 in
theorem J_mo_isHeard_j60_2 {Δ : DT} {Γ : FT} {d : Nat} {x1 : Int} {x2 : Int} {x3 : Int}  {M : MEM} : J (mo_isHeard_j60_2 x1 x2 x3 M) (Sum.elim (HD_mo_isHeard_b2 Δ Γ d x1 M) (X_mo_isHeard_b2 Δ Γ d x1 M)) (WAt Δ Γ false m_mo_isHeard d 60 [vR (278), vI (x1), vI (x2), vI (x3)] [] (NG, S0, M) 0 0) := by
  unfold mo_isHeard_j60_2
  refine J.mono (fun k => w_iload_n rfl rfl (w_aload_n rfl rfl (w_getR (r := 302) rfl (Nat.le_of_ble_eq_true rfl) S_278 rfl (w_iconst rfl (inR_c rfl) (w_iload_n rfl rfl (w_imul rfl (w_iconst rfl (inR_c rfl) (w_iadd rfl k)))))))) ?_
  refine J_chk (fun hi9 => ?_)
  refine J.mono (fun k => w_iald rfl A_302.1 A_302.2 hi9.1 hi9.2 k) ?_
  refine J_ite (fun hc10 => ?_) (fun hc10 => ?_)
  · refine J.mono (fun k => s_icmp_eq_t rfl hc10 k) ?_
    exact J.mono (fun k => w_forget (wk_k (wk_k (wk_k (wk_d wk_0)))) k) (J_mo_isHeard_j76_2 )
  · refine J.mono (fun k => s_icmp_eq_f rfl hc10 (w_iconst rfl (inR_c rfl) k)) ?_
    exact J_some (fun k => w_zreturn rfl rfl (Or.inl rfl) k)
set_option maxRecDepth 20000 in
set_option maxHeartbeats 4000000 in
theorem Jb_mo_isHeard_b2 {Δ : DT} {Γ : FT} {d : Nat} {x1 : Int}  {x2 : Int} {M : MEM} : J (mo_isHeard_b2 x1 x2 M) (Sum.elim (HD_mo_isHeard_b2 Δ Γ d x1 M) (X_mo_isHeard_b2 Δ Γ d x1 M)) (WAt Δ Γ false m_mo_isHeard d 2 [vR (278), vI (x1), vI (x2), vN] [] (NG, S0, M) 0 0) := by
  unfold mo_isHeard_b2
  refine J.mono (fun k => w_iload_n rfl rfl (w_aload_n rfl rfl (w_getI rfl (Nat.le_of_ble_eq_true rfl) S_278 rfl k))) ?_
  refine J_ite (fun hc1 => ?_) (fun hc1 => ?_)
  · refine J.mono (fun k => s_icmp_ge_t rfl hc1 k) ?_
    exact J_some (fun k => w_forget (wk_d (wk_d (wk_d (wk_d wk_0)))) k)
  · refine J.mono (fun k => s_icmp_ge_f rfl hc1 (w_aload_n rfl rfl (w_getR (r := 302) rfl (Nat.le_of_ble_eq_true rfl) S_278 rfl (w_iconst rfl (inR_c rfl) (w_iload_n rfl rfl (w_imul rfl k)))))) ?_
    refine J_chk (fun hi2 => ?_)
    refine J.mono (fun k => w_iald rfl A_302.1 A_302.2 hi2.1 hi2.2 (w_iload_n rfl rfl k)) ?_
    refine J_ite (fun hc3 => ?_) (fun hc3 => ?_)
    · refine J.mono (fun k => s_icmp_eq_t rfl hc3 (w_iconst rfl (inR_c rfl) (s_istore3 rfl (Nat.le_of_ble_eq_true rfl) k))) ?_
      refine J.mono (fun k => w_forget (wk_k (wk_k (wk_k (wk_k wk_0)))) k) ?_
      refine J_loop (Jl_mo_isHeard_b27  _ _) (fun w8 => ?_)
      exact J.mono (fun k => w_forget (wk_k (wk_k (wk_k (wk_k wk_0)))) k) (J_mo_isHeard_j60_2 )
    · refine J.mono (fun k => s_icmp_eq_f rfl hc3 (w_goto rfl k)) ?_
      exact J.mono (fun k => w_forget (wk_k (wk_k (wk_k (wk_d wk_0)))) k) (J_mo_isHeard_j76_2 )
set_option maxRecDepth 20000 in
set_option maxHeartbeats 4000000 in
theorem Jl_mo_isHeard_b2 {Δ : DT} {Γ : FT} {d : Nat} {x1 : Int}  {M : MEM} : ∀ (n : Nat) (s : Int), J (iter (fun s => mo_isHeard_b2 x1 s M) n s) (X_mo_isHeard_b2 Δ Γ d x1 M) (HD_mo_isHeard_b2 Δ Γ d x1 M s) := J_iter (fun s => Jb_mo_isHeard_b2 )
set_option maxRecDepth 20000 in
set_option maxHeartbeats 4000000 in
theorem J_mo_isHeard {Δ : DT} {Γ : FT} {d : Nat} {x1 : Int}  {M : MEM} : J (mo_isHeard x1 M) (K_I Δ Γ m_mo_isHeard M) (WAt Δ Γ false m_mo_isHeard d 0 [vR (278), vI (x1), vN, vN] [] (NG, S0, M) 0 0) := by
  unfold mo_isHeard
  refine J.mono (fun k => w_iconst rfl (inR_c rfl) (s_istore2 rfl (Nat.le_of_ble_eq_true rfl) k)) ?_
  refine J.mono (fun k => w_forget (wk_k (wk_k (wk_k (wk_d wk_0)))) k) ?_
  refine J_loop (Jl_mo_isHeard_b2  _ _) (fun w11 => ?_)
  refine J_elim (fun r => J_some (fun k => k)) (fun w11 => ?_)
  refine J.mono (fun k => w_iconst rfl (inR_c rfl) k) ?_
  exact J_some (fun k => w_zreturn rfl rfl (Or.inr rfl) k)
set_option maxRecDepth 20000 in
set_option maxHeartbeats 4000000 in
theorem cal_mo_isHeard {Δ : DT} {d : Nat} (hd : 0 ≤ d) {x1 : Int}  {M : MEM} {r : Int} (h : mo_isHeard x1 M = some r) (ho : okVs [vR 278, vI x1]) (hM : okM M) : Cal Δ false m_mo_isHeard d [vR 278, vI x1] (NG, S0, M) (some r) (NG, S0, M) 0 0 := by
  exact cal_of g_mo_isHeard p_mo_isHeard (fun v hv => by simp only [List.mem_cons, List.not_mem_nil, or_false] at hv; rcases hv with rfl | rfl <;> first | exact Or.inl ⟨_, rfl⟩ | exact Or.inr ⟨_, rfl⟩) ho hM (Nat.le_of_ble_eq_true rfl) (fun Γ _ k => J_mo_isHeard  _ h k)

