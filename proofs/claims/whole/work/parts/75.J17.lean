set_option maxRecDepth 20000 in
set_option maxHeartbeats 4000000 in
theorem J_dh_owes {Δ : DT} {Γ : FT} {d : Nat} (hd : 5 ≤ d + 1) {x1 : Int} {x2 : Int} {x3 : Int}  {M : MEM} : J (dh_owes x1 x2 x3 M) (K_IM Δ Γ m_dh_owes) (WAt Δ Γ false m_dh_owes (d + 1) 0 [vR (0), vI (x1), vI (x2), vI (x3)] [] (NG, S0, M) 0 0) := by
  unfold dh_owes
  refine J.mono (fun k => w_iload_n rfl rfl k) ?_
  refine J_hyp (fun k => c_si1 rfl rfl (fun ho hM => cal_dh_isPerson (by omega)   ho hM) v_dh_isPerson (Nat.le_of_ble_eq_true rfl) k) (fun hr2 hb3 => ?_)
  refine J_ite (fun hc4 => ?_) (fun hc4 => ?_)
  · refine J.mono (fun k => s_if_eq_t rfl hc4 (w_iconst rfl (inR_c rfl) k)) ?_
    exact J_some (fun k => w_ireturn rfl rfl k)
  · refine J.mono (fun k => s_if_eq_f rfl hc4 (w_iload_n rfl rfl k)) ?_
    refine J_hyp (fun k => c_si1 rfl rfl (fun ho hM => cal_dh_isLaw (by omega)   ho hM) v_dh_isLaw (Nat.le_of_ble_eq_true rfl) k) (fun hr6 hb7 => ?_)
    refine J_ite (fun hc8 => ?_) (fun hc8 => ?_)
    · refine J.mono (fun k => s_if_eq_t rfl hc8 (w_iconst rfl (inR_c rfl) k)) ?_
      exact J_some (fun k => w_ireturn rfl rfl k)
    · refine J.mono (fun k => s_if_eq_f rfl hc8 (w_iload_n rfl rfl k)) ?_
      refine J_hyp (fun k => c_si1 rfl rfl (fun ho hM => cal_dh_isFar (by omega)   ho hM) v_dh_isFar (Nat.le_of_ble_eq_true rfl) k) (fun hr10 hb11 => ?_)
      refine J_ite (fun hc12 => ?_) (fun hc12 => ?_)
      · refine J.mono (fun k => s_if_ne_f rfl hc12 (w_iconst rfl (inR_c rfl) k)) ?_
        exact J_some (fun k => w_ireturn rfl rfl k)
      · refine J.mono (fun k => s_if_ne_t rfl hc12 (w_aload_n rfl rfl (w_iload_n rfl rfl k))) ?_
        refine J_c (fun M14 e13 => ?_)
        refine J.mono (fun k => c_vv1 rfl (fun ho hM => cal_dh_countDue (by omega)  e13 ho hM) v_dh_countDue (Nat.le_of_ble_eq_true rfl) S_0 rfl (Nat.le_of_ble_eq_true rfl) (w_aload_n rfl rfl k)) ?_
        refine J_c (fun M16 e15 => ?_)
        refine J.mono (fun k => c_vv0 rfl (fun ho hM => cal_dh_newRow (by omega)  e15 ho hM) v_dh_newRow (Nat.le_of_ble_eq_true rfl) S_0 rfl (Nat.le_of_ble_eq_true rfl) (w_aload_n rfl rfl (w_aload_n rfl rfl (w_getR (r := 34) rfl (Nat.le_of_ble_eq_true rfl) S_0 rfl (w_iload_n rfl rfl (w_iload_n rfl rfl k)))))) ?_
        refine J_c (fun r18 e17 => ?_)
        refine J_hyp (fun k => c_vi2 rfl (fun ho hM => cal_co_owedTo (by omega)  e17 ho hM) v_co_owedTo (Nat.le_of_ble_eq_true rfl) S_34 rfl (Nat.le_of_ble_eq_true rfl) k) (fun hr19 hb20 => ?_)
        refine J_c (fun M22 e21 => ?_)
        refine J.mono (fun k => c_vv1 rfl (fun ho hM => cal_dh_tell (by omega)  e21 ho hM) v_dh_tell (Nat.le_of_ble_eq_true rfl) S_0 rfl (Nat.le_of_ble_eq_true rfl) (w_aload_n rfl rfl (w_getR (r := 34) rfl (Nat.le_of_ble_eq_true rfl) S_0 rfl (w_iload_n rfl rfl (w_iload_n rfl rfl k))))) ?_
        refine J_c (fun r24 e23 => ?_)
        refine J_hyp (fun k => c_vi2 rfl (fun ho hM => cal_co_owedBy (by omega)  e23 ho hM) v_co_owedBy (Nat.le_of_ble_eq_true rfl) S_34 rfl (Nat.le_of_ble_eq_true rfl) k) (fun hr25 hb26 => ?_)
        exact J_some (fun k => w_ireturn rfl rfl k)
set_option maxRecDepth 20000 in
set_option maxHeartbeats 4000000 in
theorem cal_dh_owes {Δ : DT} {d : Nat} (hd : 5 ≤ d) {x1 : Int} {x2 : Int} {x3 : Int}  {M : MEM} {p : Int × MEM} (h : dh_owes x1 x2 x3 M = some p) (ho : okVs [vR 0, vI x1, vI x2, vI x3]) (hM : okM M) : Cal Δ false m_dh_owes d [vR 0, vI x1, vI x2, vI x3] (NG, S0, M) (some p.1) (NG, S0, p.2) 0 0 := by
  obtain ⟨d, rfl⟩ : ∃ e, d = e + 1 := ⟨d - 1, by omega⟩
  exact cal_of g_dh_owes p_dh_owes (fun v hv => by simp only [List.mem_cons, List.not_mem_nil, or_false] at hv; rcases hv with rfl | rfl | rfl | rfl <;> first | exact Or.inl ⟨_, rfl⟩ | exact Or.inr ⟨_, rfl⟩) ho hM (Nat.le_of_ble_eq_true rfl) (fun Γ _ k => J_dh_owes hd  _ h k)
set_option maxRecDepth 20000 in
set_option maxHeartbeats 4000000 in
theorem J_co_less {Δ : DT} {Γ : FT} {d : Nat} (hd : 4 ≤ d + 1) {x1 : Int} {x2 : Int}  {M : MEM} : J (co_less x1 x2 M) (K_I Δ Γ m_co_less M) (WAt Δ Γ false m_co_less (d + 1) 0 [vR (34), vI (x1), vI (x2)] [] (NG, S0, M) 0 0) := by
  unfold co_less
  refine J.mono (fun k => w_aload_n rfl rfl (w_iload_n rfl rfl (w_iload_n rfl rfl k))) ?_
  refine J_c (fun r2 e1 => ?_)
  refine J_hyp (fun k => c_vi2 rfl (fun ho hM => cal_co_owedBy (by omega)  e1 ho hM) v_co_owedBy (Nat.le_of_ble_eq_true rfl) S_34 rfl (Nat.le_of_ble_eq_true rfl) k) (fun hr3 hb4 => ?_)
  refine J.mono (fun k => w_aload_n rfl rfl (w_iload_n rfl rfl (w_iload_n rfl rfl k))) ?_
  refine J_c (fun r6 e5 => ?_)
  refine J_hyp (fun k => c_vi2 rfl (fun ho hM => cal_co_owedTo (by omega)  e5 ho hM) v_co_owedTo (Nat.le_of_ble_eq_true rfl) S_34 rfl (Nat.le_of_ble_eq_true rfl) k) (fun hr7 hb8 => ?_)
  refine J.mono (fun k => w_isub rfl k) ?_
  exact J_some (fun k => w_ireturn rfl rfl k)
set_option maxRecDepth 20000 in
set_option maxHeartbeats 4000000 in
theorem cal_co_less {Δ : DT} {d : Nat} (hd : 4 ≤ d) {x1 : Int} {x2 : Int}  {M : MEM} {r : Int} (h : co_less x1 x2 M = some r) (ho : okVs [vR 34, vI x1, vI x2]) (hM : okM M) : Cal Δ false m_co_less d [vR 34, vI x1, vI x2] (NG, S0, M) (some r) (NG, S0, M) 0 0 := by
  obtain ⟨d, rfl⟩ : ∃ e, d = e + 1 := ⟨d - 1, by omega⟩
  exact cal_of g_co_less p_co_less (fun v hv => by simp only [List.mem_cons, List.not_mem_nil, or_false] at hv; rcases hv with rfl | rfl | rfl <;> first | exact Or.inl ⟨_, rfl⟩ | exact Or.inr ⟨_, rfl⟩) ho hM (Nat.le_of_ble_eq_true rfl) (fun Γ _ k => J_co_less hd  _ h k)
abbrev HD_dh_reading_b41 (Δ : DT) (Γ : FT) (d : Nat) (x1 : Int) (s : Int × Int × Int × MEM) : Prop := WAt Δ Γ false m_dh_reading (d + 1) 41 [vR (0), vI (x1), vN, vI (s.1), vI (s.2.1), vI (s.2.2.1), vN] [] (NG, S0, s.2.2.2) 0 0
abbrev X_dh_reading_b41 (Δ : DT) (Γ : FT) (d : Nat) (x1 : Int) (s : Int × Int × Int × MEM) : Prop := WAt Δ Γ false m_dh_reading (d + 1) 85 [vN, vN, vN, vI (s.1), vN, vN, vN] [] (NG, S0, s.2.2.2) 0 0
set_option maxRecDepth 20000 in
set_option maxHeartbeats 4000000 in
theorem J_dh_reading_j79_41 {Δ : DT} {Γ : FT} {d : Nat} (hd : 5 ≤ d + 1) {x1 : Int} {x3 : Int} {x4 : Int} {x5 : Int}  {M : MEM} : J (dh_reading_j79_41 x1 x3 x4 x5 M) (Sum.elim (HD_dh_reading_b41 Δ Γ d x1) (X_dh_reading_b41 Δ Γ d x1)) (WAt Δ Γ false m_dh_reading (d + 1) 79 [vR (0), vI (x1), vN, vI (x3), vI (x4), vI (x5), vN] [] (NG, S0, M) 0 0) := by
  unfold dh_reading_j79_41
  refine J.mono (fun k => s_iinc5 rfl (Nat.le_of_ble_eq_true rfl) (w_goto rfl k)) ?_
  exact J_some (fun k => w_forget (wk_k (wk_k (wk_d (wk_k (wk_k (wk_k (wk_d wk_0))))))) k)
set_option maxRecDepth 20000 in
set_option maxHeartbeats 4000000 in
theorem Jb_dh_reading_b41 {Δ : DT} {Γ : FT} {d : Nat} (hd : 5 ≤ d + 1) {x1 : Int}  {x3 : Int} {x4 : Int} {x5 : Int} {M : MEM} : J (dh_reading_b41 x1 x3 x4 x5 M) (Sum.elim (HD_dh_reading_b41 Δ Γ d x1) (X_dh_reading_b41 Δ Γ d x1)) (WAt Δ Γ false m_dh_reading (d + 1) 41 [vR (0), vI (x1), vN, vI (x3), vI (x4), vI (x5), vN] [] (NG, S0, M) 0 0) := by
  unfold dh_reading_b41
  refine J.mono (fun k => w_iload rfl rfl (w_iconst rfl (inR_c rfl) k)) ?_
  refine J_ite (fun hc17 => ?_) (fun hc17 => ?_)
  · refine J.mono (fun k => s_icmp_ge_t rfl hc17 k) ?_
    exact J_some (fun k => w_forget (wk_d (wk_d (wk_d (wk_k (wk_d (wk_d (wk_d wk_0))))))) k)
  · refine J.mono (fun k => s_icmp_ge_f rfl hc17 (w_aload_n rfl rfl (w_getR (r := 34) rfl (Nat.le_of_ble_eq_true rfl) S_0 rfl (w_iload_n rfl rfl (w_iload rfl rfl k))))) ?_
    refine J_c (fun r19 e18 => ?_)
    refine J_hyp (fun k => c_vi2 rfl (fun ho hM => cal_co_less (by omega)  e18 ho hM) v_co_less (Nat.le_of_ble_eq_true rfl) S_34 rfl (Nat.le_of_ble_eq_true rfl) k) (fun hr20 hb21 => ?_)
    refine J.mono (fun k => s_istore6 rfl (Nat.le_of_ble_eq_true rfl) (w_aload_n rfl rfl (w_iload rfl rfl k))) ?_
    refine J_c (fun M23 e22 => ?_)
    refine J.mono (fun k => c_vv1 rfl (fun ho hM => cal_dh_tell (by omega)  e22 ho hM) v_dh_tell (Nat.le_of_ble_eq_true rfl) S_0 rfl (Nat.le_of_ble_eq_true rfl) (w_iload rfl rfl (w_iload rfl rfl k))) ?_
    refine J_ite (fun hc24 => ?_) (fun hc24 => ?_)
    · refine J.mono (fun k => s_icmp_ge_t rfl hc24 k) ?_
      exact J.mono (fun k => w_forget (wk_k (wk_k (wk_d (wk_k (wk_k (wk_k (wk_d wk_0))))))) k) (J_dh_reading_j79_41 hd )
    · refine J.mono (fun k => s_icmp_ge_f rfl hc24 (w_iload rfl rfl (s_istore4 rfl (Nat.le_of_ble_eq_true rfl) (w_iload rfl rfl (s_istore3 rfl (Nat.le_of_ble_eq_true rfl) k))))) ?_
      exact J.mono (fun k => w_forget (wk_k (wk_k (wk_d (wk_k (wk_k (wk_k (wk_d wk_0))))))) k) (J_dh_reading_j79_41 hd )
set_option maxRecDepth 20000 in
set_option maxHeartbeats 4000000 in
theorem Jl_dh_reading_b41 {Δ : DT} {Γ : FT} {d : Nat} (hd : 5 ≤ d + 1) {x1 : Int}   : ∀ (n : Nat) (s : Int × Int × Int × MEM), J (iter (fun s => dh_reading_b41 x1 s.1 s.2.1 s.2.2.1 s.2.2.2) n s) (X_dh_reading_b41 Δ Γ d x1) (HD_dh_reading_b41 Δ Γ d x1 s) := J_iter (fun s => Jb_dh_reading_b41 hd )
set_option maxRecDepth 20000 in
set_option maxHeartbeats 4000000 in
theorem J_dh_reading {Δ : DT} {Γ : FT} {d : Nat} (hd : 5 ≤ d + 1) {x1 : Int} {x2 : Int}  {M : MEM} : J (dh_reading x1 x2 M) (K_IM Δ Γ m_dh_reading) (WAt Δ Γ false m_dh_reading (d + 1) 0 [vR (0), vI (x1), vI (x2), vN, vN, vN, vN] [] (NG, S0, M) 0 0) := by
  unfold dh_reading
  refine J.mono (fun k => w_iload_n rfl rfl k) ?_
  refine J_hyp (fun k => c_si1 rfl rfl (fun ho hM => cal_dh_isPerson (by omega)   ho hM) v_dh_isPerson (Nat.le_of_ble_eq_true rfl) k) (fun hr2 hb3 => ?_)
  refine J_ite (fun hc4 => ?_) (fun hc4 => ?_)
  · refine J.mono (fun k => s_if_eq_t rfl hc4 (w_iconst rfl (inR_c rfl) k)) ?_
    exact J_some (fun k => w_ireturn rfl rfl k)
  · refine J.mono (fun k => s_if_eq_f rfl hc4 (w_iload_n rfl rfl k)) ?_
    refine J_hyp (fun k => c_si1 rfl rfl (fun ho hM => cal_dh_isFar (by omega)   ho hM) v_dh_isFar (Nat.le_of_ble_eq_true rfl) k) (fun hr6 hb7 => ?_)
    refine J_ite (fun hc8 => ?_) (fun hc8 => ?_)
    · refine J.mono (fun k => s_if_ne_f rfl hc8 (w_iconst rfl (inR_c rfl) k)) ?_
      exact J_some (fun k => w_ireturn rfl rfl k)
    · refine J.mono (fun k => s_if_ne_t rfl hc8 (w_aload_n rfl rfl (w_iload_n rfl rfl k))) ?_
      refine J_c (fun M10 e9 => ?_)
      refine J.mono (fun k => c_vv1 rfl (fun ho hM => cal_dh_countDue (by omega)  e9 ho hM) v_dh_countDue (Nat.le_of_ble_eq_true rfl) S_0 rfl (Nat.le_of_ble_eq_true rfl) (w_aload_n rfl rfl k)) ?_
      refine J_c (fun M12 e11 => ?_)
      refine J.mono (fun k => c_vv0 rfl (fun ho hM => cal_dh_newRow (by omega)  e11 ho hM) v_dh_newRow (Nat.le_of_ble_eq_true rfl) S_0 rfl (Nat.le_of_ble_eq_true rfl) (w_iconst rfl (inR_c rfl) (s_istore3 rfl (Nat.le_of_ble_eq_true rfl) (w_aload_n rfl rfl (w_getR (r := 34) rfl (Nat.le_of_ble_eq_true rfl) S_0 rfl (w_iload_n rfl rfl (w_iconst rfl (inR_c rfl) k))))))) ?_
      refine J_c (fun r14 e13 => ?_)
      refine J_hyp (fun k => c_vi2 rfl (fun ho hM => cal_co_less (by omega)  e13 ho hM) v_co_less (Nat.le_of_ble_eq_true rfl) S_34 rfl (Nat.le_of_ble_eq_true rfl) k) (fun hr15 hb16 => ?_)
      refine J.mono (fun k => s_istore4 rfl (Nat.le_of_ble_eq_true rfl) (w_iconst rfl (inR_c rfl) (s_istore5 rfl (Nat.le_of_ble_eq_true rfl) k))) ?_
      refine J.mono (fun k => w_forget (wk_k (wk_k (wk_d (wk_k (wk_k (wk_k (wk_d wk_0))))))) k) ?_
      refine J_loop (Jl_dh_reading_b41 hd  _ _) (fun w25 => ?_)
      refine J.mono (fun k => w_iload_n rfl rfl k) ?_
      exact J_some (fun k => w_ireturn rfl rfl k)
set_option maxRecDepth 20000 in
set_option maxHeartbeats 4000000 in
theorem cal_dh_reading {Δ : DT} {d : Nat} (hd : 5 ≤ d) {x1 : Int} {x2 : Int}  {M : MEM} {p : Int × MEM} (h : dh_reading x1 x2 M = some p) (ho : okVs [vR 0, vI x1, vI x2]) (hM : okM M) : Cal Δ false m_dh_reading d [vR 0, vI x1, vI x2] (NG, S0, M) (some p.1) (NG, S0, p.2) 0 0 := by
  obtain ⟨d, rfl⟩ : ∃ e, d = e + 1 := ⟨d - 1, by omega⟩
  exact cal_of g_dh_reading p_dh_reading (fun v hv => by simp only [List.mem_cons, List.not_mem_nil, or_false] at hv; rcases hv with rfl | rfl | rfl <;> first | exact Or.inl ⟨_, rfl⟩ | exact Or.inr ⟨_, rfl⟩) ho hM (Nat.le_of_ble_eq_true rfl) (fun Γ _ k => J_dh_reading hd  _ h k)
abbrev HD_co_most_b9 (Δ : DT) (Γ : FT) (d : Nat) (x1 : Int) (M : MEM) (s : Int × Int) : Prop := WAt Δ Γ false m_co_most (d + 1) 9 [vR (34), vI (x1), vI (s.1), vI (s.2)] [] (NG, S0, M) 0 0
abbrev X_co_most_b9 (Δ : DT) (Γ : FT) (d : Nat) (x1 : Int) (M : MEM) (s : Int × Int) : Prop := WAt Δ Γ false m_co_most (d + 1) 32 [vN, vN, vI (s.1), vN] [] (NG, S0, M) 0 0
set_option maxRecDepth 20000 in
set_option maxHeartbeats 4000000 in
theorem Jb_co_most_b9 {Δ : DT} {Γ : FT} {d : Nat} (hd : 5 ≤ d + 1) {x1 : Int}  {x2 : Int} {x3 : Int} {M : MEM} : J (co_most_b9 x1 x2 x3 M) (Sum.elim (HD_co_most_b9 Δ Γ d x1 M) (X_co_most_b9 Δ Γ d x1 M)) (WAt Δ Γ false m_co_most (d + 1) 9 [vR (34), vI (x1), vI (x2), vI (x3)] [] (NG, S0, M) 0 0) := by
  unfold co_most_b9
  refine J.mono (fun k => w_iload_n rfl rfl (w_bipush rfl (bip_c rfl) k)) ?_
  refine J_ite (fun hc5 => ?_) (fun hc5 => ?_)
  · refine J.mono (fun k => s_icmp_ge_t rfl hc5 k) ?_
    exact J_some (fun k => w_forget (wk_d (wk_d (wk_k (wk_d wk_0)))) k)
  · refine J.mono (fun k => s_icmp_ge_f rfl hc5 (w_iload_n rfl rfl (w_aload_n rfl rfl (w_iload_n rfl rfl (w_iload_n rfl rfl k))))) ?_
    refine J_c (fun r7 e6 => ?_)
    refine J_hyp (fun k => c_vi2 rfl (fun ho hM => cal_co_less (by omega)  e6 ho hM) v_co_less (Nat.le_of_ble_eq_true rfl) S_34 rfl (Nat.le_of_ble_eq_true rfl) k) (fun hr8 hb9 => ?_)
    refine J.mono (fun k => w_mmax rfl (Nat.le_of_ble_eq_true rfl) k) ?_
    refine J.mono (fun k => s_istore2 rfl (Nat.le_of_ble_eq_true rfl) (s_iinc3 rfl (Nat.le_of_ble_eq_true rfl) (w_goto rfl k))) ?_
    exact J_some (fun k => w_forget (wk_k (wk_k (wk_k (wk_k wk_0)))) k)
set_option maxRecDepth 20000 in
set_option maxHeartbeats 4000000 in
theorem Jl_co_most_b9 {Δ : DT} {Γ : FT} {d : Nat} (hd : 5 ≤ d + 1) {x1 : Int}  {M : MEM} : ∀ (n : Nat) (s : Int × Int), J (iter (fun s => co_most_b9 x1 s.1 s.2 M) n s) (X_co_most_b9 Δ Γ d x1 M) (HD_co_most_b9 Δ Γ d x1 M s) := J_iter (fun s => Jb_co_most_b9 hd )
set_option maxRecDepth 20000 in
set_option maxHeartbeats 4000000 in
theorem J_co_most {Δ : DT} {Γ : FT} {d : Nat} (hd : 5 ≤ d + 1) {x1 : Int}  {M : MEM} : J (co_most x1 M) (K_I Δ Γ m_co_most M) (WAt Δ Γ false m_co_most (d + 1) 0 [vR (34), vI (x1), vN, vN] [] (NG, S0, M) 0 0) := by
  unfold co_most
  refine J.mono (fun k => w_aload_n rfl rfl (w_iconst rfl (inR_c rfl) (w_iload_n rfl rfl k))) ?_
  refine J_c (fun r2 e1 => ?_)
  refine J_hyp (fun k => c_vi2 rfl (fun ho hM => cal_co_less (by omega)  e1 ho hM) v_co_less (Nat.le_of_ble_eq_true rfl) S_34 rfl (Nat.le_of_ble_eq_true rfl) k) (fun hr3 hb4 => ?_)
  refine J.mono (fun k => s_istore2 rfl (Nat.le_of_ble_eq_true rfl) (w_iconst rfl (inR_c rfl) (s_istore3 rfl (Nat.le_of_ble_eq_true rfl) k))) ?_
  refine J.mono (fun k => w_forget (wk_k (wk_k (wk_k (wk_k wk_0)))) k) ?_
  refine J_loop (Jl_co_most_b9 hd  _ _) (fun w10 => ?_)
  refine J.mono (fun k => w_iload_n rfl rfl k) ?_
  exact J_some (fun k => w_ireturn rfl rfl k)
set_option maxRecDepth 20000 in
set_option maxHeartbeats 4000000 in
theorem cal_co_most {Δ : DT} {d : Nat} (hd : 5 ≤ d) {x1 : Int}  {M : MEM} {r : Int} (h : co_most x1 M = some r) (ho : okVs [vR 34, vI x1]) (hM : okM M) : Cal Δ false m_co_most d [vR 34, vI x1] (NG, S0, M) (some r) (NG, S0, M) 0 0 := by
  obtain ⟨d, rfl⟩ : ∃ e, d = e + 1 := ⟨d - 1, by omega⟩
  exact cal_of g_co_most p_co_most (fun v hv => by simp only [List.mem_cons, List.not_mem_nil, or_false] at hv; rcases hv with rfl | rfl <;> first | exact Or.inl ⟨_, rfl⟩ | exact Or.inr ⟨_, rfl⟩) ho hM (Nat.le_of_ble_eq_true rfl) (fun Γ _ k => J_co_most hd  _ h k)
abbrev HD_dh_mildest_b28 (Δ : DT) (Γ : FT) (d : Nat)  (M : MEM) (s : Int × Int × Int) : Prop := WAt Δ Γ false m_dh_mildest (d + 1) 28 [vR (0), vN, vI (s.1), vI (s.2.1), vI (s.2.2), vN] [] (NG, S0, M) 0 0
abbrev X_dh_mildest_b28 (Δ : DT) (Γ : FT) (d : Nat)  (M : MEM) (s : Int × Int × Int) : Prop := WAt Δ Γ false m_dh_mildest (d + 1) 63 [vR (0), vN, vI (s.1), vI (s.2.1), vN, vN] [] (NG, S0, M) 0 0
set_option maxRecDepth 20000 in
set_option maxHeartbeats 4000000 in
theorem J_dh_mildest_j57_28 {Δ : DT} {Γ : FT} {d : Nat} (hd : 6 ≤ d + 1) {x2 : Int} {x3 : Int} {x4 : Int}  {M : MEM} : J (dh_mildest_j57_28 x2 x3 x4 M) (Sum.elim (HD_dh_mildest_b28 Δ Γ d  M) (X_dh_mildest_b28 Δ Γ d  M)) (WAt Δ Γ false m_dh_mildest (d + 1) 57 [vR (0), vN, vI (x2), vI (x3), vI (x4), vN] [] (NG, S0, M) 0 0) := by
  unfold dh_mildest_j57_28
  refine J.mono (fun k => s_iinc4 rfl (Nat.le_of_ble_eq_true rfl) (w_goto rfl k)) ?_
  exact J_some (fun k => w_forget (wk_k (wk_d (wk_k (wk_k (wk_k (wk_d wk_0)))))) k)
set_option maxRecDepth 20000 in
set_option maxHeartbeats 4000000 in
theorem Jb_dh_mildest_b28 {Δ : DT} {Γ : FT} {d : Nat} (hd : 6 ≤ d + 1)   {x2 : Int} {x3 : Int} {x4 : Int} {M : MEM} : J (dh_mildest_b28  x2 x3 x4 M) (Sum.elim (HD_dh_mildest_b28 Δ Γ d  M) (X_dh_mildest_b28 Δ Γ d  M)) (WAt Δ Γ false m_dh_mildest (d + 1) 28 [vR (0), vN, vI (x2), vI (x3), vI (x4), vN] [] (NG, S0, M) 0 0) := by
  unfold dh_mildest_b28
  refine J.mono (fun k => w_iload rfl rfl (w_iconst rfl (inR_c rfl) k)) ?_
  refine J_ite (fun hc11 => ?_) (fun hc11 => ?_)
  · refine J.mono (fun k => s_icmp_ge_t rfl hc11 k) ?_
    exact J_some (fun k => w_forget (wk_k (wk_d (wk_k (wk_k (wk_d (wk_d wk_0)))))) k)
  · refine J.mono (fun k => s_icmp_ge_f rfl hc11 (w_aload_n rfl rfl (w_getR (r := 34) rfl (Nat.le_of_ble_eq_true rfl) S_0 rfl (w_iload rfl rfl k)))) ?_
    refine J_c (fun r13 e12 => ?_)
    refine J_hyp (fun k => c_vi1 rfl (fun ho hM => cal_co_most (by omega)  e12 ho hM) v_co_most (Nat.le_of_ble_eq_true rfl) S_34 rfl (Nat.le_of_ble_eq_true rfl) k) (fun hr14 hb15 => ?_)
    refine J.mono (fun k => s_istore5 rfl (Nat.le_of_ble_eq_true rfl) (w_iload rfl rfl (w_iload_n rfl rfl k))) ?_
    refine J_ite (fun hc16 => ?_) (fun hc16 => ?_)
    · refine J.mono (fun k => s_icmp_ge_t rfl hc16 k) ?_
      exact J.mono (fun k => w_forget (wk_k (wk_d (wk_k (wk_k (wk_k (wk_d wk_0)))))) k) (J_dh_mildest_j57_28 hd )
    · refine J.mono (fun k => s_icmp_ge_f rfl hc16 (w_iload rfl rfl (s_istore3 rfl (Nat.le_of_ble_eq_true rfl) (w_iload rfl rfl (s_istore2 rfl (Nat.le_of_ble_eq_true rfl) k))))) ?_
      exact J.mono (fun k => w_forget (wk_k (wk_d (wk_k (wk_k (wk_k (wk_d wk_0)))))) k) (J_dh_mildest_j57_28 hd )
set_option maxRecDepth 20000 in
set_option maxHeartbeats 4000000 in
theorem Jl_dh_mildest_b28 {Δ : DT} {Γ : FT} {d : Nat} (hd : 6 ≤ d + 1)   {M : MEM} : ∀ (n : Nat) (s : Int × Int × Int), J (iter (fun s => dh_mildest_b28  s.1 s.2.1 s.2.2 M) n s) (X_dh_mildest_b28 Δ Γ d  M) (HD_dh_mildest_b28 Δ Γ d  M s) := J_iter (fun s => Jb_dh_mildest_b28 hd )
set_option maxRecDepth 20000 in
set_option maxHeartbeats 4000000 in
theorem J_dh_mildest {Δ : DT} {Γ : FT} {d : Nat} (hd : 6 ≤ d + 1) {x1 : Int}  {M : MEM} : J (dh_mildest x1 M) (K_IM Δ Γ m_dh_mildest) (WAt Δ Γ false m_dh_mildest (d + 1) 0 [vR (0), vI (x1), vN, vN, vN, vN] [] (NG, S0, M) 0 0) := by
  unfold dh_mildest
  refine J.mono (fun k => w_iload_n rfl rfl k) ?_
  refine J_hyp (fun k => c_si1 rfl rfl (fun ho hM => cal_dh_isFar (by omega)   ho hM) v_dh_isFar (Nat.le_of_ble_eq_true rfl) k) (fun hr2 hb3 => ?_)
  refine J_ite (fun hc4 => ?_) (fun hc4 => ?_)
  · refine J.mono (fun k => s_if_ne_f rfl hc4 (w_iconst rfl (inR_c rfl) k)) ?_
    exact J_some (fun k => w_ireturn rfl rfl k)
  · refine J.mono (fun k => s_if_ne_t rfl hc4 (w_aload_n rfl rfl (w_iload_n rfl rfl k))) ?_
    refine J_c (fun M6 e5 => ?_)
    refine J.mono (fun k => c_vv1 rfl (fun ho hM => cal_dh_countDue (by omega)  e5 ho hM) v_dh_countDue (Nat.le_of_ble_eq_true rfl) S_0 rfl (Nat.le_of_ble_eq_true rfl) (w_iconst rfl (inR_c rfl) (s_istore2 rfl (Nat.le_of_ble_eq_true rfl) (w_aload_n rfl rfl (w_getR (r := 34) rfl (Nat.le_of_ble_eq_true rfl) S_0 rfl (w_iconst rfl (inR_c rfl) k)))))) ?_
    refine J_c (fun r8 e7 => ?_)
    refine J_hyp (fun k => c_vi1 rfl (fun ho hM => cal_co_most (by omega)  e7 ho hM) v_co_most (Nat.le_of_ble_eq_true rfl) S_34 rfl (Nat.le_of_ble_eq_true rfl) k) (fun hr9 hb10 => ?_)
    refine J.mono (fun k => s_istore3 rfl (Nat.le_of_ble_eq_true rfl) (w_iconst rfl (inR_c rfl) (s_istore4 rfl (Nat.le_of_ble_eq_true rfl) k))) ?_
    refine J.mono (fun k => w_forget (wk_k (wk_d (wk_k (wk_k (wk_k (wk_d wk_0)))))) k) ?_
    refine J_loop (Jl_dh_mildest_b28 hd  _ _) (fun w17 => ?_)
    refine J.mono (fun k => w_aload_n rfl rfl k) ?_
    refine J_c (fun M19 e18 => ?_)
    refine J.mono (fun k => c_vv0 rfl (fun ho hM => cal_dh_newRow (by omega)  e18 ho hM) v_dh_newRow (Nat.le_of_ble_eq_true rfl) S_0 rfl (Nat.le_of_ble_eq_true rfl) (w_aload_n rfl rfl (w_iload_n rfl rfl k))) ?_
    refine J_c (fun M21 e20 => ?_)
    refine J.mono (fun k => c_vv1 rfl (fun ho hM => cal_dh_tell (by omega)  e20 ho hM) v_dh_tell (Nat.le_of_ble_eq_true rfl) S_0 rfl (Nat.le_of_ble_eq_true rfl) (w_iload_n rfl rfl k)) ?_
    exact J_some (fun k => w_ireturn rfl rfl k)
set_option maxRecDepth 20000 in
set_option maxHeartbeats 4000000 in
theorem cal_dh_mildest {Δ : DT} {d : Nat} (hd : 6 ≤ d) {x1 : Int}  {M : MEM} {p : Int × MEM} (h : dh_mildest x1 M = some p) (ho : okVs [vR 0, vI x1]) (hM : okM M) : Cal Δ false m_dh_mildest d [vR 0, vI x1] (NG, S0, M) (some p.1) (NG, S0, p.2) 0 0 := by
  obtain ⟨d, rfl⟩ : ∃ e, d = e + 1 := ⟨d - 1, by omega⟩
  exact cal_of g_dh_mildest p_dh_mildest (fun v hv => by simp only [List.mem_cons, List.not_mem_nil, or_false] at hv; rcases hv with rfl | rfl <;> first | exact Or.inl ⟨_, rfl⟩ | exact Or.inr ⟨_, rfl⟩) ho hM (Nat.le_of_ble_eq_true rfl) (fun Γ _ k => J_dh_mildest hd  _ h k)
set_option maxRecDepth 20000 in
set_option maxHeartbeats 4000000 in
theorem J_dh_isRoad {Δ : DT} {Γ : FT} {d : Nat} {x0 : Int}  {M : MEM} : J (some (dh_isRoad x0)) (K_I Δ Γ m_dh_isRoad M) (WAt Δ Γ false m_dh_isRoad d 0 [vI (x0)] [] (NG, S0, M) 0 0) := by
  unfold dh_isRoad
  refine J.mono (fun k => w_iload_n rfl rfl k) ?_
  refine J_iteT (fun hc1 => ?_) (fun hc1 => ?_)
  · refine J.mono (fun k => s_if_lt_t rfl hc1 (w_iconst rfl (inR_c rfl) k)) ?_
    exact J_some (fun k => w_zreturn rfl rfl (Or.inl rfl) k)
  · refine J.mono (fun k => s_if_lt_f rfl hc1 (w_iload_n rfl rfl (w_bipush rfl (bip_c rfl) k))) ?_
    refine J_iteT (fun hc2 => ?_) (fun hc2 => ?_)
    · refine J.mono (fun k => s_icmp_gt_t rfl hc2 (w_iconst rfl (inR_c rfl) k)) ?_
      exact J_some (fun k => w_zreturn rfl rfl (Or.inl rfl) k)
    · refine J.mono (fun k => s_icmp_gt_f rfl hc2 (w_iconst rfl (inR_c rfl) (w_goto rfl k))) ?_
      exact J_some (fun k => w_zreturn rfl rfl (Or.inr rfl) k)
set_option maxRecDepth 20000 in
set_option maxHeartbeats 4000000 in
theorem cal_dh_isRoad {Δ : DT} {d : Nat} (hd : 0 ≤ d) {x0 : Int}  {M : MEM} (ho : okVs [vI x0]) (hM : okM M) : Cal Δ false m_dh_isRoad d [vI x0] (NG, S0, M) (some (dh_isRoad x0)) (NG, S0, M) 0 0 := by
  exact cal_of g_dh_isRoad p_dh_isRoad (fun v hv => by simp only [List.mem_cons, List.not_mem_nil, or_false] at hv; rcases hv with rfl <;> first | exact Or.inl ⟨_, rfl⟩ | exact Or.inr ⟨_, rfl⟩) ho hM (Nat.le_of_ble_eq_true rfl) (fun Γ _ k => J_dh_isRoad  _ rfl k)
set_option maxRecDepth 20000 in
set_option maxHeartbeats 4000000 in
theorem J_fu_latestFor {Δ : DT} {Γ : FT} {d : Nat} (hd : 4 ≤ d + 1) {a0 : Nat} {x1 : Int} {x2 : Int} (h_a0 : is_fu a0) {M : MEM} : J (fu_latestFor a0 x1 x2 M) (K_IM Δ Γ m_fu_latestFor) (WAt Δ Γ false m_fu_latestFor (d + 1) 0 [vR (a0), vI (x1), vI (x2)] [] (NG, S0, M) 0 0) := by
  unfold fu_latestFor
  refine J.mono (fun k => w_aload_n rfl rfl (w_iload_n rfl rfl (w_iload_n rfl rfl (w_isub rfl (w_sipush rfl (sip_c rfl) k))))) ?_
  refine J_c (fun M2 e1 => ?_)
  refine J.mono (fun k => c_vv2 rfl (fun ho hM => cal_fu_run (by omega) h_a0 e1 ho hM) v_fu_run (fu_S h_a0).1 (fu_S h_a0).2 rfl (Nat.le_of_ble_eq_true rfl) (w_aload_n rfl rfl (w_getI rfl (fu_S h_a0).1 (fu_S h_a0).2 rfl k))) ?_
  exact J_some (fun k => w_ireturn rfl rfl k)
set_option maxRecDepth 20000 in
set_option maxHeartbeats 4000000 in
theorem cal_fu_latestFor {Δ : DT} {d : Nat} (hd : 4 ≤ d) {a0 : Nat} {x1 : Int} {x2 : Int} (h_a0 : is_fu a0) {M : MEM} {p : Int × MEM} (h : fu_latestFor a0 x1 x2 M = some p) (ho : okVs [vR a0, vI x1, vI x2]) (hM : okM M) : Cal Δ false m_fu_latestFor d [vR a0, vI x1, vI x2] (NG, S0, M) (some p.1) (NG, S0, p.2) 0 0 := by
  obtain ⟨d, rfl⟩ : ∃ e, d = e + 1 := ⟨d - 1, by omega⟩
  exact cal_of g_fu_latestFor p_fu_latestFor (fun v hv => by simp only [List.mem_cons, List.not_mem_nil, or_false] at hv; rcases hv with rfl | rfl | rfl <;> first | exact Or.inl ⟨_, rfl⟩ | exact Or.inr ⟨_, rfl⟩) ho hM (Nat.le_of_ble_eq_true rfl) (fun Γ _ k => J_fu_latestFor hd h_a0 _ h k)
set_option maxRecDepth 20000 in
set_option maxHeartbeats 4000000 in
theorem J_fu_there {Δ : DT} {Γ : FT} {d : Nat} (hd : 1 ≤ d + 1) {a0 : Nat} {x1 : Int} {x2 : Int} (h_a0 : is_fu a0) {M : MEM} : J (fu_there a0 x1 x2 M) (K_I Δ Γ m_fu_there M) (WAt Δ Γ false m_fu_there (d + 1) 0 [vR (a0), vI (x1), vI (x2)] [] (NG, S0, M) 0 0) := by
  unfold fu_there
  refine J.mono (fun k => w_aload_n rfl rfl (w_iload_n rfl rfl k)) ?_
  refine J_c (fun r2 e1 => ?_)
  refine J_hyp (fun k => c_vi1 rfl (fun ho hM => cal_fu_strokeMinute (by omega) h_a0 e1 ho hM) v_fu_strokeMinute (fu_S h_a0).1 (fu_S h_a0).2 rfl (Nat.le_of_ble_eq_true rfl) k) (fun hr3 hb4 => ?_)
  refine J.mono (fun k => w_iload_n rfl rfl (w_iadd rfl (w_iconst rfl (inR_c rfl) (w_iadd rfl k)))) ?_
  exact J_some (fun k => w_ireturn rfl rfl k)
set_option maxRecDepth 20000 in
set_option maxHeartbeats 4000000 in
theorem cal_fu_there {Δ : DT} {d : Nat} (hd : 1 ≤ d) {a0 : Nat} {x1 : Int} {x2 : Int} (h_a0 : is_fu a0) {M : MEM} {r : Int} (h : fu_there a0 x1 x2 M = some r) (ho : okVs [vR a0, vI x1, vI x2]) (hM : okM M) : Cal Δ false m_fu_there d [vR a0, vI x1, vI x2] (NG, S0, M) (some r) (NG, S0, M) 0 0 := by
  obtain ⟨d, rfl⟩ : ∃ e, d = e + 1 := ⟨d - 1, by omega⟩
  exact cal_of g_fu_there p_fu_there (fun v hv => by simp only [List.mem_cons, List.not_mem_nil, or_false] at hv; rcases hv with rfl | rfl | rfl <;> first | exact Or.inl ⟨_, rfl⟩ | exact Or.inr ⟨_, rfl⟩) ho hM (Nat.le_of_ble_eq_true rfl) (fun Γ _ k => J_fu_there hd h_a0 _ h k)
set_option maxRecDepth 20000 in
set_option maxHeartbeats 4000000 in
theorem J_dh_leave {Δ : DT} {Γ : FT} {d : Nat} (hd : 5 ≤ d + 1) {x1 : Int} {x2 : Int} {x3 : Int}  {M : MEM} : J (dh_leave x1 x2 x3 M) (K_IM Δ Γ m_dh_leave) (WAt Δ Γ false m_dh_leave (d + 1) 0 [vR (0), vI (x1), vI (x2), vI (x3), vN] [] (NG, S0, M) 0 0) := by
  unfold dh_leave
  refine J.mono (fun k => w_aload_n rfl rfl (w_iload_n rfl rfl k)) ?_
  refine J_hyp (fun k => c_vi1 rfl (fun ho hM => cal_dh_isDonkey (by omega)   ho hM) v_dh_isDonkey (Nat.le_of_ble_eq_true rfl) S_0 rfl (Nat.le_of_ble_eq_true rfl) k) (fun hr2 hb3 => ?_)
  refine J_ite (fun hc4 => ?_) (fun hc4 => ?_)
  · refine J.mono (fun k => s_if_eq_t rfl hc4 (w_iconst rfl (inR_c rfl) k)) ?_
    exact J_some (fun k => w_ireturn rfl rfl k)
  · refine J.mono (fun k => s_if_eq_f rfl hc4 (w_iload_n rfl rfl k)) ?_
    refine J_hyp (fun k => c_si1 rfl rfl (fun ho hM => cal_dh_isFar (by omega)   ho hM) v_dh_isFar (Nat.le_of_ble_eq_true rfl) k) (fun hr6 hb7 => ?_)
    refine J_ite (fun hc8 => ?_) (fun hc8 => ?_)
    · refine J.mono (fun k => s_if_eq_t rfl hc8 (w_iconst rfl (inR_c rfl) k)) ?_
      exact J_some (fun k => w_ireturn rfl rfl k)
    · refine J.mono (fun k => s_if_eq_f rfl hc8 (w_iload_n rfl rfl k)) ?_
      refine J_hyp (fun k => c_si1 rfl rfl (fun ho hM => cal_dh_isRoad (by omega)   ho hM) v_dh_isRoad (Nat.le_of_ble_eq_true rfl) k) (fun hr10 hb11 => ?_)
      refine J_ite (fun hc12 => ?_) (fun hc12 => ?_)
      · refine J.mono (fun k => s_if_ne_f rfl hc12 (w_iconst rfl (inR_c rfl) k)) ?_
        exact J_some (fun k => w_ireturn rfl rfl k)
      · refine J.mono (fun k => s_if_ne_t rfl hc12 (w_iload_n rfl rfl (w_iload_n rfl rfl k))) ?_
        refine J_ite (fun hc13 => ?_) (fun hc13 => ?_)
        · refine J.mono (fun k => s_icmp_le_t rfl hc13 (w_aload_n rfl rfl (w_aload_n rfl rfl (w_getR (r := 224) rfl (Nat.le_of_ble_eq_true rfl) S_0 rfl (w_iload_n rfl rfl k))))) ?_
          refine J_c (fun M15 e14 => ?_)
          refine J.mono (fun k => c_vv2 rfl (fun ho hM => cal_dh_look (by omega) is_fu_224 e14 ho hM) v_dh_look (Nat.le_of_ble_eq_true rfl) S_0 rfl (Nat.le_of_ble_eq_true rfl) (w_aload_n rfl rfl (w_getR (r := 224) rfl (Nat.le_of_ble_eq_true rfl) S_0 rfl (w_iload_n rfl rfl (w_iload_n rfl rfl k))))) ?_
          refine J_c (fun p17 e16 => ?_)
          refine J_hyp (fun k => c_vi2 rfl (fun ho hM => cal_fu_latestFor (by omega) is_fu_224 e16 ho hM) v_fu_latestFor (fu_S is_fu_224).1 (fu_S is_fu_224).2 rfl (Nat.le_of_ble_eq_true rfl) k) (fun hr18 hb19 => ?_)
          refine J.mono (fun k => s_istore4 rfl (Nat.le_of_ble_eq_true rfl) (w_aload_n rfl rfl k)) ?_
          refine J_c (fun M21 e20 => ?_)
          refine J.mono (fun k => c_vv0 rfl (fun ho hM => cal_dh_newRow (by omega)  e20 ho hM) v_dh_newRow (Nat.le_of_ble_eq_true rfl) S_0 rfl (Nat.le_of_ble_eq_true rfl) (w_aload_n rfl rfl (w_iload_n rfl rfl (w_aload_n rfl rfl (w_getR (r := 224) rfl (Nat.le_of_ble_eq_true rfl) S_0 rfl (w_iload rfl rfl (w_iload_n rfl rfl k))))))) ?_
          refine J_c (fun r23 e22 => ?_)
          refine J_hyp (fun k => c_vi2 rfl (fun ho hM => cal_fu_there (by omega) is_fu_224 e22 ho hM) v_fu_there (fu_S is_fu_224).1 (fu_S is_fu_224).2 rfl (Nat.le_of_ble_eq_true rfl) k) (fun hr24 hb25 => ?_)
          refine J.mono (fun k => w_isub rfl k) ?_
          refine J_c (fun M27 e26 => ?_)
          refine J.mono (fun k => c_vv1 rfl (fun ho hM => cal_dh_tell (by omega)  e26 ho hM) v_dh_tell (Nat.le_of_ble_eq_true rfl) S_0 rfl (Nat.le_of_ble_eq_true rfl) (w_iload rfl rfl k)) ?_
          exact J_some (fun k => w_ireturn rfl rfl k)
        · refine J.mono (fun k => s_icmp_le_f rfl hc13 (w_bipush rfl (bip_c rfl) k)) ?_
          exact J_some (fun k => w_ireturn rfl rfl k)
set_option maxRecDepth 20000 in
set_option maxHeartbeats 4000000 in
theorem cal_dh_leave {Δ : DT} {d : Nat} (hd : 5 ≤ d) {x1 : Int} {x2 : Int} {x3 : Int}  {M : MEM} {p : Int × MEM} (h : dh_leave x1 x2 x3 M = some p) (ho : okVs [vR 0, vI x1, vI x2, vI x3]) (hM : okM M) : Cal Δ false m_dh_leave d [vR 0, vI x1, vI x2, vI x3] (NG, S0, M) (some p.1) (NG, S0, p.2) 0 0 := by
  obtain ⟨d, rfl⟩ : ∃ e, d = e + 1 := ⟨d - 1, by omega⟩
  exact cal_of g_dh_leave p_dh_leave (fun v hv => by simp only [List.mem_cons, List.not_mem_nil, or_false] at hv; rcases hv with rfl | rfl | rfl | rfl <;> first | exact Or.inl ⟨_, rfl⟩ | exact Or.inr ⟨_, rfl⟩) ho hM (Nat.le_of_ble_eq_true rfl) (fun Γ _ k => J_dh_leave hd  _ h k)
abbrev HD_dh_waysWithLatest_b4 (Δ : DT) (Γ : FT) (d : Nat) (x1 : Int) (M : MEM) (s : Int × Int) : Prop := WAt Δ Γ false m_dh_waysWithLatest d 4 [vR (0), vI (x1), vI (s.1), vI (s.2)] [] (NG, S0, M) 0 0
abbrev X_dh_waysWithLatest_b4 (Δ : DT) (Γ : FT) (d : Nat) (x1 : Int) (M : MEM) (s : Int × Int) : Prop := WAt Δ Γ false m_dh_waysWithLatest d 29 [vN, vN, vI (s.1), vN] [] (NG, S0, M) 0 0
set_option maxRecDepth 20000 in
set_option maxHeartbeats 4000000 in
theorem J_dh_waysWithLatest_j23_4 {Δ : DT} {Γ : FT} {d : Nat} {x1 : Int} {x2 : Int} {x3 : Int}  {M : MEM} : J (dh_waysWithLatest_j23_4 x1 x2 x3 M) (Sum.elim (HD_dh_waysWithLatest_b4 Δ Γ d x1 M) (X_dh_waysWithLatest_b4 Δ Γ d x1 M)) (WAt Δ Γ false m_dh_waysWithLatest d 23 [vR (0), vI (x1), vI (x2), vI (x3)] [] (NG, S0, M) 0 0) := by
  unfold dh_waysWithLatest_j23_4
  refine J.mono (fun k => s_iinc3 rfl (Nat.le_of_ble_eq_true rfl) (w_goto rfl k)) ?_
  exact J_some (fun k => w_forget (wk_k (wk_k (wk_k (wk_k wk_0)))) k)
set_option maxRecDepth 20000 in
set_option maxHeartbeats 4000000 in
theorem Jb_dh_waysWithLatest_b4 {Δ : DT} {Γ : FT} {d : Nat} {x1 : Int}  {x2 : Int} {x3 : Int} {M : MEM} : J (dh_waysWithLatest_b4 x1 x2 x3 M) (Sum.elim (HD_dh_waysWithLatest_b4 Δ Γ d x1 M) (X_dh_waysWithLatest_b4 Δ Γ d x1 M)) (WAt Δ Γ false m_dh_waysWithLatest d 4 [vR (0), vI (x1), vI (x2), vI (x3)] [] (NG, S0, M) 0 0) := by
  unfold dh_waysWithLatest_b4
  refine J.mono (fun k => w_iload_n rfl rfl (w_bipush rfl (bip_c rfl) k)) ?_
  refine J_ite (fun hc1 => ?_) (fun hc1 => ?_)
  · refine J.mono (fun k => s_icmp_ge_t rfl hc1 k) ?_
    exact J_some (fun k => w_forget (wk_d (wk_d (wk_k (wk_d wk_0)))) k)
  · refine J.mono (fun k => s_icmp_ge_f rfl hc1 (w_aload_n rfl rfl (w_getR (r := 244) rfl (Nat.le_of_ble_eq_true rfl) S_0 rfl (w_iload_n rfl rfl k)))) ?_
    refine J_chk (fun hi2 => ?_)
    refine J.mono (fun k => w_iald rfl A_244.1 A_244.2 hi2.1 hi2.2 (w_iload_n rfl rfl k)) ?_
    refine J_ite (fun hc3 => ?_) (fun hc3 => ?_)
    · refine J.mono (fun k => s_icmp_lt_t rfl hc3 k) ?_
      exact J.mono (fun k => w_forget (wk_k (wk_k (wk_k (wk_k wk_0)))) k) (J_dh_waysWithLatest_j23_4 )
    · refine J.mono (fun k => s_icmp_lt_f rfl hc3 (s_iinc2 rfl (Nat.le_of_ble_eq_true rfl) k)) ?_
      exact J.mono (fun k => w_forget (wk_k (wk_k (wk_k (wk_k wk_0)))) k) (J_dh_waysWithLatest_j23_4 )
set_option maxRecDepth 20000 in
set_option maxHeartbeats 4000000 in
theorem Jl_dh_waysWithLatest_b4 {Δ : DT} {Γ : FT} {d : Nat} {x1 : Int}  {M : MEM} : ∀ (n : Nat) (s : Int × Int), J (iter (fun s => dh_waysWithLatest_b4 x1 s.1 s.2 M) n s) (X_dh_waysWithLatest_b4 Δ Γ d x1 M) (HD_dh_waysWithLatest_b4 Δ Γ d x1 M s) := J_iter (fun s => Jb_dh_waysWithLatest_b4 )
set_option maxRecDepth 20000 in
set_option maxHeartbeats 4000000 in
theorem J_dh_waysWithLatest {Δ : DT} {Γ : FT} {d : Nat} {x1 : Int}  {M : MEM} : J (dh_waysWithLatest x1 M) (K_I Δ Γ m_dh_waysWithLatest M) (WAt Δ Γ false m_dh_waysWithLatest d 0 [vR (0), vI (x1), vN, vN] [] (NG, S0, M) 0 0) := by
  unfold dh_waysWithLatest
  refine J.mono (fun k => w_iconst rfl (inR_c rfl) (s_istore2 rfl (Nat.le_of_ble_eq_true rfl) (w_iconst rfl (inR_c rfl) (s_istore3 rfl (Nat.le_of_ble_eq_true rfl) k)))) ?_
  refine J.mono (fun k => w_forget (wk_k (wk_k (wk_k (wk_k wk_0)))) k) ?_
  refine J_loop (Jl_dh_waysWithLatest_b4  _ _) (fun w4 => ?_)
  refine J.mono (fun k => w_iload_n rfl rfl k) ?_
  exact J_some (fun k => w_ireturn rfl rfl k)
set_option maxRecDepth 20000 in
set_option maxHeartbeats 4000000 in
theorem cal_dh_waysWithLatest {Δ : DT} {d : Nat} (hd : 0 ≤ d) {x1 : Int}  {M : MEM} {r : Int} (h : dh_waysWithLatest x1 M = some r) (ho : okVs [vR 0, vI x1]) (hM : okM M) : Cal Δ false m_dh_waysWithLatest d [vR 0, vI x1] (NG, S0, M) (some r) (NG, S0, M) 0 0 := by
  exact cal_of g_dh_waysWithLatest p_dh_waysWithLatest (fun v hv => by simp only [List.mem_cons, List.not_mem_nil, or_false] at hv; rcases hv with rfl | rfl <;> first | exact Or.inl ⟨_, rfl⟩ | exact Or.inr ⟨_, rfl⟩) ho hM (Nat.le_of_ble_eq_true rfl) (fun Γ _ k => J_dh_waysWithLatest  _ h k)
abbrev HD_dh_sure_b48 (Δ : DT) (Γ : FT) (d : Nat) (x1 : Int) (x2 : Int) (x3 : Int) (x4 : Int) (s : Int × MEM) : Prop := WAt Δ Γ false m_dh_sure (d + 1) 48 [vR (0), vI (x1), vI (x2), vI (x3), vI (x4), vI (s.1), vN] [] (NG, S0, s.2) 0 0
abbrev X_dh_sure_b48 (Δ : DT) (Γ : FT) (d : Nat) (x1 : Int) (x2 : Int) (x3 : Int) (x4 : Int) (s : Int × MEM) : Prop := WAt Δ Γ false m_dh_sure (d + 1) 98 [vR (0), vN, vN, vN, vI (x4), vN, vN] [] (NG, S0, s.2) 0 0
set_option maxRecDepth 20000 in
set_option maxHeartbeats 4000000 in
theorem Jb_dh_sure_b48 {Δ : DT} {Γ : FT} {d : Nat} (hd : 5 ≤ d + 1) {x1 : Int} {x2 : Int} {x3 : Int} {x4 : Int}  {x5 : Int} {M : MEM} : J (dh_sure_b48 x1 x2 x3 x4 x5 M) (Sum.elim (HD_dh_sure_b48 Δ Γ d x1 x2 x3 x4) (X_dh_sure_b48 Δ Γ d x1 x2 x3 x4)) (WAt Δ Γ false m_dh_sure (d + 1) 48 [vR (0), vI (x1), vI (x2), vI (x3), vI (x4), vI (x5), vN] [] (NG, S0, M) 0 0) := by
  unfold dh_sure_b48
  refine J.mono (fun k => w_iload rfl rfl (w_bipush rfl (bip_c rfl) k)) ?_
  refine J_ite (fun hc16 => ?_) (fun hc16 => ?_)
  · refine J.mono (fun k => s_icmp_ge_t rfl hc16 k) ?_
    exact J_some (fun k => w_forget (wk_k (wk_d (wk_d (wk_d (wk_k (wk_d (wk_d wk_0))))))) k)
  · refine J.mono (fun k => s_icmp_ge_f rfl hc16 (w_aload_n rfl rfl (w_aload_n rfl rfl (w_getR (r := 224) rfl (Nat.le_of_ble_eq_true rfl) S_0 rfl (w_iload_n rfl rfl k))))) ?_
    refine J_c (fun M18 e17 => ?_)
    refine J.mono (fun k => c_vv2 rfl (fun ho hM => cal_dh_look (by omega) is_fu_224 e17 ho hM) v_dh_look (Nat.le_of_ble_eq_true rfl) S_0 rfl (Nat.le_of_ble_eq_true rfl) (w_aload_n rfl rfl (w_getR (r := 224) rfl (Nat.le_of_ble_eq_true rfl) S_0 rfl (w_getR (r := 230) rfl (fu_S is_fu_224).1 (fu_S is_fu_224).2 rfl (w_iload rfl rfl k))))) ?_
    refine J_b ?_
    refine J.mono (fun k => w_putI rfl (be_S is_be_230).1 (be_S is_be_230).2 rfl rfl (w_aload_n rfl rfl (w_getR (r := 244) rfl (Nat.le_of_ble_eq_true rfl) S_0 rfl (w_iload rfl rfl (w_aload_n rfl rfl (w_getR (r := 224) rfl (Nat.le_of_ble_eq_true rfl) S_0 rfl (w_iload_n rfl rfl (w_iload_n rfl rfl k)))))))) ?_
    refine J_c (fun p21 e20 => ?_)
    refine J_hyp (fun k => c_vi2 rfl (fun ho hM => cal_fu_latestFor (by omega) is_fu_224 e20 ho hM) v_fu_latestFor (fu_S is_fu_224).1 (fu_S is_fu_224).2 rfl (Nat.le_of_ble_eq_true rfl) k) (fun hr22 hb23 => ?_)
    refine J_chk (fun hi25 => ?_)
    refine J_b ?_
    refine J.mono (fun k => w_iast rfl A_244.1 A_244.2 hi25.1 hi25.2 rfl (s_iinc5 rfl (Nat.le_of_ble_eq_true rfl) (w_goto rfl k))) ?_
    exact J_some (fun k => w_forget (wk_k (wk_k (wk_k (wk_k (wk_k (wk_k (wk_d wk_0))))))) k)
set_option maxRecDepth 20000 in
set_option maxHeartbeats 4000000 in
theorem Jl_dh_sure_b48 {Δ : DT} {Γ : FT} {d : Nat} (hd : 5 ≤ d + 1) {x1 : Int} {x2 : Int} {x3 : Int} {x4 : Int}   : ∀ (n : Nat) (s : Int × MEM), J (iter (fun s => dh_sure_b48 x1 x2 x3 x4 s.1 s.2) n s) (X_dh_sure_b48 Δ Γ d x1 x2 x3 x4) (HD_dh_sure_b48 Δ Γ d x1 x2 x3 x4 s) := J_iter (fun s => Jb_dh_sure_b48 hd )
abbrev HD_dh_sure_b104 (Δ : DT) (Γ : FT) (d : Nat) (x4 : Int) (M : MEM) (s : Int × Int) : Prop := WAt Δ Γ false m_dh_sure (d + 1) 104 [vR (0), vN, vN, vN, vI (x4), vI (s.1), vI (s.2)] [] (NG, S0, M) 0 0
abbrev X_dh_sure_b104 (Δ : DT) (Γ : FT) (d : Nat) (x4 : Int) (M : MEM) (s : Int × Int) : Prop := WAt Δ Γ false m_dh_sure (d + 1) 154 [vR (0), vN, vN, vN, vN, vI (s.1), vN] [] (NG, S0, M) 0 0
set_option maxRecDepth 20000 in
set_option maxHeartbeats 4000000 in
theorem J_dh_sure_j148_104 {Δ : DT} {Γ : FT} {d : Nat} (hd : 5 ≤ d + 1) {x4 : Int} {x5 : Int} {x6 : Int}  {M : MEM} : J (dh_sure_j148_104 x4 x5 x6 M) (Sum.elim (HD_dh_sure_b104 Δ Γ d x4 M) (X_dh_sure_b104 Δ Γ d x4 M)) (WAt Δ Γ false m_dh_sure (d + 1) 148 [vR (0), vN, vN, vN, vI (x4), vI (x5), vI (x6)] [] (NG, S0, M) 0 0) := by
  unfold dh_sure_j148_104
  refine J.mono (fun k => s_iinc6 rfl (Nat.le_of_ble_eq_true rfl) (w_goto rfl k)) ?_
  exact J_some (fun k => w_forget (wk_k (wk_d (wk_d (wk_d (wk_k (wk_k (wk_k wk_0))))))) k)
set_option maxRecDepth 20000 in
set_option maxHeartbeats 4000000 in
theorem Jb_dh_sure_b104 {Δ : DT} {Γ : FT} {d : Nat} (hd : 5 ≤ d + 1) {x4 : Int}  {x5 : Int} {x6 : Int} {M : MEM} : J (dh_sure_b104 x4 x5 x6 M) (Sum.elim (HD_dh_sure_b104 Δ Γ d x4 M) (X_dh_sure_b104 Δ Γ d x4 M)) (WAt Δ Γ false m_dh_sure (d + 1) 104 [vR (0), vN, vN, vN, vI (x4), vI (x5), vI (x6)] [] (NG, S0, M) 0 0) := by
  unfold dh_sure_b104
  refine J.mono (fun k => w_iload rfl rfl (w_bipush rfl (bip_c rfl) k)) ?_
  refine J_ite (fun hc27 => ?_) (fun hc27 => ?_)
  · refine J.mono (fun k => s_icmp_ge_t rfl hc27 k) ?_
    exact J_some (fun k => w_forget (wk_k (wk_d (wk_d (wk_d (wk_d (wk_k (wk_d wk_0))))))) k)
  · refine J.mono (fun k => s_icmp_ge_f rfl hc27 (w_aload_n rfl rfl (w_getR (r := 244) rfl (Nat.le_of_ble_eq_true rfl) S_0 rfl (w_iload rfl rfl k)))) ?_
    refine J_chk (fun hi28 => ?_)
    refine J.mono (fun k => w_iald rfl A_244.1 A_244.2 hi28.1 hi28.2 (w_iload rfl rfl k)) ?_
    refine J_ite (fun hc29 => ?_) (fun hc29 => ?_)
    · refine J.mono (fun k => s_icmp_le_t rfl hc29 k) ?_
      exact J.mono (fun k => w_forget (wk_k (wk_d (wk_d (wk_d (wk_k (wk_k (wk_k wk_0))))))) k) (J_dh_sure_j148_104 hd )
    · refine J.mono (fun k => s_icmp_le_f rfl hc29 (w_aload_n rfl rfl (w_aload_n rfl rfl (w_getR (r := 244) rfl (Nat.le_of_ble_eq_true rfl) S_0 rfl (w_iload rfl rfl k))))) ?_
      refine J_chk (fun hi30 => ?_)
      refine J.mono (fun k => w_iald rfl A_244.1 A_244.2 hi30.1 hi30.2 k) ?_
      refine J_c (fun r32 e31 => ?_)
      refine J_hyp (fun k => c_vi1 rfl (fun ho hM => cal_dh_waysWithLatest (by omega)  e31 ho hM) v_dh_waysWithLatest (Nat.le_of_ble_eq_true rfl) S_0 rfl (Nat.le_of_ble_eq_true rfl) k) (fun hr33 hb34 => ?_)
      refine J.mono (fun k => w_iload rfl rfl k) ?_
      refine J_ite (fun hc35 => ?_) (fun hc35 => ?_)
      · refine J.mono (fun k => s_icmp_lt_t rfl hc35 k) ?_
        exact J.mono (fun k => w_forget (wk_k (wk_d (wk_d (wk_d (wk_k (wk_k (wk_k wk_0))))))) k) (J_dh_sure_j148_104 hd )
      · refine J.mono (fun k => s_icmp_lt_f rfl hc35 (w_aload_n rfl rfl (w_getR (r := 244) rfl (Nat.le_of_ble_eq_true rfl) S_0 rfl (w_iload rfl rfl k)))) ?_
        refine J_chk (fun hi36 => ?_)
        refine J.mono (fun k => w_iald rfl A_244.1 A_244.2 hi36.1 hi36.2 (s_istore5 rfl (Nat.le_of_ble_eq_true rfl) k)) ?_
        exact J.mono (fun k => w_forget (wk_k (wk_d (wk_d (wk_d (wk_k (wk_k (wk_k wk_0))))))) k) (J_dh_sure_j148_104 hd )
set_option maxRecDepth 20000 in
set_option maxHeartbeats 4000000 in
theorem Jl_dh_sure_b104 {Δ : DT} {Γ : FT} {d : Nat} (hd : 5 ≤ d + 1) {x4 : Int}  {M : MEM} : ∀ (n : Nat) (s : Int × Int), J (iter (fun s => dh_sure_b104 x4 s.1 s.2 M) n s) (X_dh_sure_b104 Δ Γ d x4 M) (HD_dh_sure_b104 Δ Γ d x4 M s) := J_iter (fun s => Jb_dh_sure_b104 hd )
set_option maxRecDepth 20000 in
set_option maxHeartbeats 4000000 in
theorem J_dh_sure {Δ : DT} {Γ : FT} {d : Nat} (hd : 5 ≤ d + 1) {x1 : Int} {x2 : Int} {x3 : Int} {x4 : Int}  {M : MEM} : J (dh_sure x1 x2 x3 x4 M) (K_IM Δ Γ m_dh_sure) (WAt Δ Γ false m_dh_sure (d + 1) 0 [vR (0), vI (x1), vI (x2), vI (x3), vI (x4), vN, vN] [] (NG, S0, M) 0 0) := by
  unfold dh_sure
  refine J.mono (fun k => w_aload_n rfl rfl (w_iload_n rfl rfl k)) ?_
  refine J_hyp (fun k => c_vi1 rfl (fun ho hM => cal_dh_isDonkey (by omega)   ho hM) v_dh_isDonkey (Nat.le_of_ble_eq_true rfl) S_0 rfl (Nat.le_of_ble_eq_true rfl) k) (fun hr2 hb3 => ?_)
  refine J_ite (fun hc4 => ?_) (fun hc4 => ?_)
  · refine J.mono (fun k => s_if_eq_t rfl hc4 (w_iconst rfl (inR_c rfl) k)) ?_
    exact J_some (fun k => w_ireturn rfl rfl k)
  · refine J.mono (fun k => s_if_eq_f rfl hc4 (w_iload_n rfl rfl k)) ?_
    refine J_hyp (fun k => c_si1 rfl rfl (fun ho hM => cal_dh_isFar (by omega)   ho hM) v_dh_isFar (Nat.le_of_ble_eq_true rfl) k) (fun hr6 hb7 => ?_)
    refine J_ite (fun hc8 => ?_) (fun hc8 => ?_)
    · refine J.mono (fun k => s_if_eq_t rfl hc8 (w_iconst rfl (inR_c rfl) k)) ?_
      exact J_some (fun k => w_ireturn rfl rfl k)
    · refine J.mono (fun k => s_if_eq_f rfl hc8 (w_iload_n rfl rfl k)) ?_
      refine J_hyp (fun k => c_si1 rfl rfl (fun ho hM => cal_dh_isRoad (by omega)   ho hM) v_dh_isRoad (Nat.le_of_ble_eq_true rfl) k) (fun hr10 hb11 => ?_)
      refine J_ite (fun hc12 => ?_) (fun hc12 => ?_)
      · refine J.mono (fun k => s_if_eq_t rfl hc12 (w_iconst rfl (inR_c rfl) k)) ?_
        exact J_some (fun k => w_ireturn rfl rfl k)
      · refine J.mono (fun k => s_if_eq_f rfl hc12 (w_iload rfl rfl (w_iconst rfl (inR_c rfl) k))) ?_
        refine J_ite (fun hc13 => ?_) (fun hc13 => ?_)
        · refine J.mono (fun k => s_icmp_lt_t rfl hc13 (w_iconst rfl (inR_c rfl) k)) ?_
          exact J_some (fun k => w_ireturn rfl rfl k)
        · refine J.mono (fun k => s_icmp_lt_f rfl hc13 (w_iload rfl rfl (w_bipush rfl (bip_c rfl) k))) ?_
          refine J_ite (fun hc14 => ?_) (fun hc14 => ?_)
          · refine J.mono (fun k => s_icmp_le_t rfl hc14 (w_iload_n rfl rfl (w_iload_n rfl rfl k))) ?_
            refine J_ite (fun hc15 => ?_) (fun hc15 => ?_)
            · refine J.mono (fun k => s_icmp_le_t rfl hc15 (w_iconst rfl (inR_c rfl) (s_istore5 rfl (Nat.le_of_ble_eq_true rfl) k))) ?_
              refine J.mono (fun k => w_forget (wk_k (wk_k (wk_k (wk_k (wk_k (wk_k (wk_d wk_0))))))) k) ?_
              refine J_loop (Jl_dh_sure_b48 hd  _ _) (fun w26 => ?_)
              refine J.mono (fun k => w_iconst rfl (inR_c rfl) (s_istore5 rfl (Nat.le_of_ble_eq_true rfl) (w_iconst rfl (inR_c rfl) (s_istore6 rfl (Nat.le_of_ble_eq_true rfl) k)))) ?_
              refine J.mono (fun k => w_forget (wk_k (wk_d (wk_d (wk_d (wk_k (wk_k (wk_k wk_0))))))) k) ?_
              refine J_loop (Jl_dh_sure_b104 hd  _ _) (fun w37 => ?_)
              refine J.mono (fun k => w_aload_n rfl rfl k) ?_
              refine J_c (fun M39 e38 => ?_)
              refine J.mono (fun k => c_vv0 rfl (fun ho hM => cal_dh_newRow (by omega)  e38 ho hM) v_dh_newRow (Nat.le_of_ble_eq_true rfl) S_0 rfl (Nat.le_of_ble_eq_true rfl) (w_aload_n rfl rfl (w_aload_n rfl rfl (w_iload rfl rfl k)))) ?_
              refine J_c (fun r41 e40 => ?_)
              refine J_hyp (fun k => c_vi1 rfl (fun ho hM => cal_dh_waysWithLatest (by omega)  e40 ho hM) v_dh_waysWithLatest (Nat.le_of_ble_eq_true rfl) S_0 rfl (Nat.le_of_ble_eq_true rfl) k) (fun hr42 hb43 => ?_)
              refine J_c (fun M45 e44 => ?_)
              refine J.mono (fun k => c_vv1 rfl (fun ho hM => cal_dh_tell (by omega)  e44 ho hM) v_dh_tell (Nat.le_of_ble_eq_true rfl) S_0 rfl (Nat.le_of_ble_eq_true rfl) (w_iload rfl rfl k)) ?_
              exact J_some (fun k => w_ireturn rfl rfl k)
            · refine J.mono (fun k => s_icmp_le_f rfl hc15 (w_bipush rfl (bip_c rfl) k)) ?_
              exact J_some (fun k => w_ireturn rfl rfl k)
          · refine J.mono (fun k => s_icmp_le_f rfl hc14 (w_iconst rfl (inR_c rfl) k)) ?_
            exact J_some (fun k => w_ireturn rfl rfl k)
set_option maxRecDepth 20000 in
set_option maxHeartbeats 4000000 in
theorem cal_dh_sure {Δ : DT} {d : Nat} (hd : 5 ≤ d) {x1 : Int} {x2 : Int} {x3 : Int} {x4 : Int}  {M : MEM} {p : Int × MEM} (h : dh_sure x1 x2 x3 x4 M = some p) (ho : okVs [vR 0, vI x1, vI x2, vI x3, vI x4]) (hM : okM M) : Cal Δ false m_dh_sure d [vR 0, vI x1, vI x2, vI x3, vI x4] (NG, S0, M) (some p.1) (NG, S0, p.2) 0 0 := by
  obtain ⟨d, rfl⟩ : ∃ e, d = e + 1 := ⟨d - 1, by omega⟩
  exact cal_of g_dh_sure p_dh_sure (fun v hv => by simp only [List.mem_cons, List.not_mem_nil, or_false] at hv; rcases hv with rfl | rfl | rfl | rfl | rfl <;> first | exact Or.inl ⟨_, rfl⟩ | exact Or.inr ⟨_, rfl⟩) ho hM (Nat.le_of_ble_eq_true rfl) (fun Γ _ k => J_dh_sure hd  _ h k)
abbrev HD_dh_missed_b93 (Δ : DT) (Γ : FT) (d : Nat) (x2 : Int) (x3 : Int) (x4 : Int) (x6 : Int) (M : MEM) (s : Int × Int × Int × Int) : Prop := WAt Δ Γ false m_dh_missed (d + 1) 93 [vR (0), vN, vI (x2), vI (x3), vI (x4), vN, vI (x6), vI (s.1), vI (s.2.1), vI (s.2.2.1), vI (s.2.2.2), vN] [] (NG, S0, M) 0 0
abbrev X_dh_missed_b93 (Δ : DT) (Γ : FT) (d : Nat) (x2 : Int) (x3 : Int) (x4 : Int) (x6 : Int) (M : MEM) (s : Int × Int × Int × Int) : Prop := WAt Δ Γ false m_dh_missed (d + 1) 160 [vR (0), vN, vN, vN, vN, vN, vI (x6), vI (s.1), vN, vI (s.2.2.1), vN, vN] [] (NG, S0, M) 0 0
set_option maxRecDepth 20000 in
set_option maxHeartbeats 4000000 in
theorem J_dh_missed_j151_93 {Δ : DT} {Γ : FT} {d : Nat} (hd : 4 ≤ d + 1) {x2 : Int} {x3 : Int} {x4 : Int} {x6 : Int} {x7 : Int} {x8 : Int} {x9 : Int} {x10 : Int}  {M : MEM} : J (dh_missed_j151_93 x2 x3 x4 x6 x7 x8 x9 x10 M) (Sum.elim (HD_dh_missed_b93 Δ Γ d x2 x3 x4 x6 M) (X_dh_missed_b93 Δ Γ d x2 x3 x4 x6 M)) (WAt Δ Γ false m_dh_missed (d + 1) 151 [vR (0), vN, vI (x2), vI (x3), vI (x4), vN, vI (x6), vI (x7), vI (x8), vI (x9), vI (x10), vN] [] (NG, S0, M) 0 0) := by
  unfold dh_missed_j151_93
  refine J.mono (fun k => w_iload rfl rfl (w_iload_n rfl rfl (w_iadd rfl (s_istore10 rfl (Nat.le_of_ble_eq_true rfl) (w_goto rfl k))))) ?_
  exact J_some (fun k => w_forget (wk_k (wk_d (wk_k (wk_k (wk_k (wk_d (wk_k (wk_k (wk_k (wk_k (wk_k (wk_d wk_0)))))))))))) k)
set_option maxRecDepth 20000 in
set_option maxHeartbeats 4000000 in
theorem Jb_dh_missed_b93 {Δ : DT} {Γ : FT} {d : Nat} (hd : 4 ≤ d + 1) {x2 : Int} {x3 : Int} {x4 : Int} {x6 : Int}  {x7 : Int} {x8 : Int} {x9 : Int} {x10 : Int} {M : MEM} : J (dh_missed_b93 x2 x3 x4 x6 x7 x8 x9 x10 M) (Sum.elim (HD_dh_missed_b93 Δ Γ d x2 x3 x4 x6 M) (X_dh_missed_b93 Δ Γ d x2 x3 x4 x6 M)) (WAt Δ Γ false m_dh_missed (d + 1) 93 [vR (0), vN, vI (x2), vI (x3), vI (x4), vN, vI (x6), vI (x7), vI (x8), vI (x9), vI (x10), vN] [] (NG, S0, M) 0 0) := by
  unfold dh_missed_b93
  refine J.mono (fun k => w_iload rfl rfl (w_aload_n rfl rfl (w_getR (r := 224) rfl (Nat.le_of_ble_eq_true rfl) S_0 rfl (w_getI rfl (fu_S is_fu_224).1 (fu_S is_fu_224).2 rfl k)))) ?_
  refine J_ite (fun hc18 => ?_) (fun hc18 => ?_)
  · refine J.mono (fun k => s_icmp_gt_t rfl hc18 k) ?_
    exact J_some (fun k => w_forget (wk_k (wk_d (wk_d (wk_d (wk_d (wk_d (wk_k (wk_k (wk_d (wk_k (wk_d (wk_d wk_0)))))))))))) k)
  · refine J.mono (fun k => s_icmp_gt_f rfl hc18 (w_aload_n rfl rfl (w_getR (r := 224) rfl (Nat.le_of_ble_eq_true rfl) S_0 rfl (w_iload rfl rfl (w_iload rfl rfl k))))) ?_
    refine J_c (fun r20 e19 => ?_)
    refine J_hyp (fun k => c_vi2 rfl (fun ho hM => cal_fu_there (by omega) is_fu_224 e19 ho hM) v_fu_there (fu_S is_fu_224).1 (fu_S is_fu_224).2 rfl (Nat.le_of_ble_eq_true rfl) k) (fun hr21 hb22 => ?_)
    refine J.mono (fun k => w_iload_n rfl rfl (w_iadd rfl (w_iconst rfl (inR_c rfl) (w_isub rfl (w_iload_n rfl rfl k))))) ?_
    refine J_chn (fun hz23 => ?_)
    refine J.mono (fun k => w_idiv rfl hz23 (s_istore11 rfl (Nat.le_of_ble_eq_true rfl) (w_iload rfl rfl (w_iload rfl rfl k)))) ?_
    refine J_ite (fun hc24 => ?_) (fun hc24 => ?_)
    · refine J.mono (fun k => s_icmp_le_t rfl hc24 (w_iload rfl rfl (w_iload rfl rfl k))) ?_
      refine J_ite (fun hc25 => ?_) (fun hc25 => ?_)
      · refine J.mono (fun k => s_icmp_eq_t rfl hc25 k) ?_
        exact J.mono (fun k => w_forget (wk_k (wk_d (wk_k (wk_k (wk_k (wk_d (wk_k (wk_k (wk_k (wk_k (wk_k (wk_d wk_0)))))))))))) k) (J_dh_missed_j151_93 hd )
      · refine J.mono (fun k => s_icmp_eq_f rfl hc25 (s_iinc7 rfl (Nat.le_of_ble_eq_true rfl) (w_iload rfl rfl (s_istore8 rfl (Nat.le_of_ble_eq_true rfl) k)))) ?_
        exact J.mono (fun k => w_forget (wk_k (wk_d (wk_k (wk_k (wk_k (wk_d (wk_k (wk_k (wk_k (wk_k (wk_k (wk_d wk_0)))))))))))) k) (J_dh_missed_j151_93 hd )
    · refine J.mono (fun k => s_icmp_le_f rfl hc24 (s_iinc9 rfl (Nat.le_of_ble_eq_true rfl) (w_goto rfl k))) ?_
      exact J.mono (fun k => w_forget (wk_k (wk_d (wk_k (wk_k (wk_k (wk_d (wk_k (wk_k (wk_k (wk_k (wk_k (wk_d wk_0)))))))))))) k) (J_dh_missed_j151_93 hd )
set_option maxRecDepth 20000 in
set_option maxHeartbeats 4000000 in
theorem Jl_dh_missed_b93 {Δ : DT} {Γ : FT} {d : Nat} (hd : 4 ≤ d + 1) {x2 : Int} {x3 : Int} {x4 : Int} {x6 : Int}  {M : MEM} : ∀ (n : Nat) (s : Int × Int × Int × Int), J (iter (fun s => dh_missed_b93 x2 x3 x4 x6 s.1 s.2.1 s.2.2.1 s.2.2.2 M) n s) (X_dh_missed_b93 Δ Γ d x2 x3 x4 x6 M) (HD_dh_missed_b93 Δ Γ d x2 x3 x4 x6 M s) := J_iter (fun s => Jb_dh_missed_b93 hd )
set_option maxRecDepth 20000 in
set_option maxHeartbeats 4000000 in
theorem J_dh_missed_j16 {Δ : DT} {Γ : FT} {d : Nat} (hd : 4 ≤ d + 1) {x1 : Int} {x2 : Int} {x3 : Int} {x4 : Int} {s0 : Int}  {M : MEM} : J (dh_missed_j16 x1 x2 x3 x4 s0 M) (K_IM Δ Γ m_dh_missed) (WAt Δ Γ false m_dh_missed (d + 1) 16 [vR (0), vI (x1), vI (x2), vI (x3), vI (x4), vN, vN, vN, vN, vN, vN, vN] [vI (s0)] (NG, S0, M) 0 0) := by
  unfold dh_missed_j16
  refine J.mono (fun k => s_istore5 rfl (Nat.le_of_ble_eq_true rfl) (w_aload_n rfl rfl (w_iload_n rfl rfl k))) ?_
  refine J_hyp (fun k => c_vi1 rfl (fun ho hM => cal_dh_isDonkey (by omega)   ho hM) v_dh_isDonkey (Nat.le_of_ble_eq_true rfl) S_0 rfl (Nat.le_of_ble_eq_true rfl) k) (fun hr3 hb4 => ?_)
  refine J_ite (fun hc5 => ?_) (fun hc5 => ?_)
  · refine J.mono (fun k => s_if_eq_t rfl hc5 (w_iconst rfl (inR_c rfl) k)) ?_
    exact J_some (fun k => w_ireturn rfl rfl k)
  · refine J.mono (fun k => s_if_eq_f rfl hc5 (w_iload rfl rfl k)) ?_
    refine J_ite (fun hc6 => ?_) (fun hc6 => ?_)
    · refine J.mono (fun k => s_if_eq_t rfl hc6 (w_iconst rfl (inR_c rfl) k)) ?_
      exact J_some (fun k => w_ireturn rfl rfl k)
    · refine J.mono (fun k => s_if_eq_f rfl hc6 (w_iload_n rfl rfl (w_iconst rfl (inR_c rfl) k))) ?_
      refine J_ite (fun hc7 => ?_) (fun hc7 => ?_)
      · refine J.mono (fun k => s_icmp_lt_t rfl hc7 (w_iconst rfl (inR_c rfl) k)) ?_
        exact J_some (fun k => w_ireturn rfl rfl k)
      · refine J.mono (fun k => s_icmp_lt_f rfl hc7 (w_iload_n rfl rfl (w_bipush rfl (bip_c rfl) k))) ?_
        refine J_ite (fun hc8 => ?_) (fun hc8 => ?_)
        · refine J.mono (fun k => s_icmp_gt_t rfl hc8 (w_iconst rfl (inR_c rfl) k)) ?_
          exact J_some (fun k => w_ireturn rfl rfl k)
        · refine J.mono (fun k => s_icmp_gt_f rfl hc8 (w_iload rfl rfl k)) ?_
          refine J_hyp (fun k => c_si1 rfl rfl (fun ho hM => cal_dh_isRoad (by omega)   ho hM) v_dh_isRoad (Nat.le_of_ble_eq_true rfl) k) (fun hr10 hb11 => ?_)
          refine J_ite (fun hc12 => ?_) (fun hc12 => ?_)
          · refine J.mono (fun k => s_if_ne_f rfl hc12 (w_iconst rfl (inR_c rfl) k)) ?_
            exact J_some (fun k => w_ireturn rfl rfl k)
          · refine J.mono (fun k => s_if_ne_t rfl hc12 (w_aload_n rfl rfl (w_aload_n rfl rfl (w_getR (r := 224) rfl (Nat.le_of_ble_eq_true rfl) S_0 rfl (w_iload_n rfl rfl k))))) ?_
            refine J_c (fun M14 e13 => ?_)
            refine J.mono (fun k => c_vv2 rfl (fun ho hM => cal_dh_look (by omega) is_fu_224 e13 ho hM) v_dh_look (Nat.le_of_ble_eq_true rfl) S_0 rfl (Nat.le_of_ble_eq_true rfl) (w_aload_n rfl rfl (w_getR (r := 224) rfl (Nat.le_of_ble_eq_true rfl) S_0 rfl (w_sipush rfl (sip_c rfl) (w_sipush rfl (sip_c rfl) k))))) ?_
            refine J_c (fun M16 e15 => ?_)
            refine J.mono (fun k => c_vv2 rfl (fun ho hM => cal_fu_run (by omega) is_fu_224 e15 ho hM) v_fu_run (fu_S is_fu_224).1 (fu_S is_fu_224).2 rfl (Nat.le_of_ble_eq_true rfl) (w_sipush rfl (sip_c rfl) (w_iload_n rfl rfl k))) ?_
            refine J_chn (fun hz17 => ?_)
            refine J.mono (fun k => w_idiv rfl hz17 (s_istore6 rfl (Nat.le_of_ble_eq_true rfl) (w_iconst rfl (inR_c rfl) (s_istore7 rfl (Nat.le_of_ble_eq_true rfl) (w_iconst rfl (inR_c rfl) (s_istore8 rfl (Nat.le_of_ble_eq_true rfl) (w_iconst rfl (inR_c rfl) (s_istore9 rfl (Nat.le_of_ble_eq_true rfl) (w_iload_n rfl rfl (s_istore10 rfl (Nat.le_of_ble_eq_true rfl) k)))))))))) ?_
            refine J.mono (fun k => w_forget (wk_k (wk_d (wk_k (wk_k (wk_k (wk_d (wk_k (wk_k (wk_k (wk_k (wk_k (wk_d wk_0)))))))))))) k) ?_
            refine J_loop (Jl_dh_missed_b93 hd  _ _) (fun w26 => ?_)
            refine J.mono (fun k => w_aload_n rfl rfl k) ?_
            refine J_c (fun M28 e27 => ?_)
            refine J.mono (fun k => c_vv0 rfl (fun ho hM => cal_dh_newRow (by omega)  e27 ho hM) v_dh_newRow (Nat.le_of_ble_eq_true rfl) S_0 rfl (Nat.le_of_ble_eq_true rfl) (w_aload_n rfl rfl (w_iload rfl rfl k))) ?_
            refine J_c (fun M30 e29 => ?_)
            refine J.mono (fun k => c_vv1 rfl (fun ho hM => cal_dh_tell (by omega)  e29 ho hM) v_dh_tell (Nat.le_of_ble_eq_true rfl) S_0 rfl (Nat.le_of_ble_eq_true rfl) (w_iload rfl rfl (w_iload rfl rfl (w_isub rfl k)))) ?_
            exact J_some (fun k => w_ireturn rfl rfl k)
set_option maxRecDepth 20000 in
set_option maxHeartbeats 4000000 in
theorem J_dh_missed_j15 {Δ : DT} {Γ : FT} {d : Nat} (hd : 4 ≤ d + 1) {x1 : Int} {x2 : Int} {x3 : Int} {x4 : Int}  {M : MEM} : J (dh_missed_j15 x1 x2 x3 x4 M) (K_IM Δ Γ m_dh_missed) (WAt Δ Γ false m_dh_missed (d + 1) 15 [vR (0), vI (x1), vI (x2), vI (x3), vI (x4), vN, vN, vN, vN, vN, vN, vN] [] (NG, S0, M) 0 0) := by
  unfold dh_missed_j15
  refine J.mono (fun k => w_iconst rfl (inR_c rfl) k) ?_
  exact J.mono (fun k => w_forget (wk_k (wk_k (wk_k (wk_k (wk_k (wk_d (wk_d (wk_d (wk_d (wk_d (wk_d (wk_d wk_0)))))))))))) k) (J_dh_missed_j16 hd )
set_option maxRecDepth 20000 in
set_option maxHeartbeats 4000000 in
theorem J_dh_missed {Δ : DT} {Γ : FT} {d : Nat} (hd : 4 ≤ d + 1) {x1 : Int} {x2 : Int} {x3 : Int} {x4 : Int}  {M : MEM} : J (dh_missed x1 x2 x3 x4 M) (K_IM Δ Γ m_dh_missed) (WAt Δ Γ false m_dh_missed (d + 1) 0 [vR (0), vI (x1), vI (x2), vI (x3), vI (x4), vN, vN, vN, vN, vN, vN, vN] [] (NG, S0, M) 0 0) := by
  unfold dh_missed
  refine J.mono (fun k => w_iload_n rfl rfl (w_iconst rfl (inR_c rfl) k)) ?_
  refine J_ite (fun hc1 => ?_) (fun hc1 => ?_)
  · refine J.mono (fun k => s_icmp_lt_t rfl hc1 k) ?_
    exact J.mono (fun k => w_forget (wk_k (wk_k (wk_k (wk_k (wk_k (wk_d (wk_d (wk_d (wk_d (wk_d (wk_d (wk_d wk_0)))))))))))) k) (J_dh_missed_j15 hd )
  · refine J.mono (fun k => s_icmp_lt_f rfl hc1 (w_iload_n rfl rfl (w_bipush rfl (bip_c rfl) k))) ?_
    refine J_ite (fun hc31 => ?_) (fun hc31 => ?_)
    · refine J.mono (fun k => s_icmp_gt_t rfl hc31 k) ?_
      exact J.mono (fun k => w_forget (wk_k (wk_k (wk_k (wk_k (wk_k (wk_d (wk_d (wk_d (wk_d (wk_d (wk_d (wk_d wk_0)))))))))))) k) (J_dh_missed_j15 hd )
    · refine J.mono (fun k => s_icmp_gt_f rfl hc31 (w_iconst rfl (inR_c rfl) (w_goto rfl k))) ?_
      exact J.mono (fun k => w_forget (wk_k (wk_k (wk_k (wk_k (wk_k (wk_d (wk_d (wk_d (wk_d (wk_d (wk_d (wk_d wk_0)))))))))))) k) (J_dh_missed_j16 hd )
set_option maxRecDepth 20000 in
set_option maxHeartbeats 4000000 in
theorem cal_dh_missed {Δ : DT} {d : Nat} (hd : 4 ≤ d) {x1 : Int} {x2 : Int} {x3 : Int} {x4 : Int}  {M : MEM} {p : Int × MEM} (h : dh_missed x1 x2 x3 x4 M = some p) (ho : okVs [vR 0, vI x1, vI x2, vI x3, vI x4]) (hM : okM M) : Cal Δ false m_dh_missed d [vR 0, vI x1, vI x2, vI x3, vI x4] (NG, S0, M) (some p.1) (NG, S0, p.2) 0 0 := by
  obtain ⟨d, rfl⟩ : ∃ e, d = e + 1 := ⟨d - 1, by omega⟩
  exact cal_of g_dh_missed p_dh_missed (fun v hv => by simp only [List.mem_cons, List.not_mem_nil, or_false] at hv; rcases hv with rfl | rfl | rfl | rfl | rfl <;> first | exact Or.inl ⟨_, rfl⟩ | exact Or.inr ⟨_, rfl⟩) ho hM (Nat.le_of_ble_eq_true rfl) (fun Γ _ k => J_dh_missed hd  _ h k)
set_option maxRecDepth 20000 in
set_option maxHeartbeats 4000000 in
theorem J_dh_isBetter {Δ : DT} {Γ : FT} {d : Nat} {x0 : Int} {x1 : Int} {x2 : Int}  {M : MEM} : J (some (dh_isBetter x0 x1 x2)) (K_I Δ Γ m_dh_isBetter M) (WAt Δ Γ false m_dh_isBetter d 0 [vI (x0), vI (x1), vI (x2)] [] (NG, S0, M) 0 0) := by
  unfold dh_isBetter
  refine J.mono (fun k => w_iload_n rfl rfl k) ?_
  refine J_iteT (fun hc1 => ?_) (fun hc1 => ?_)
  · refine J.mono (fun k => s_if_ge_t rfl hc1 (w_iload_n rfl rfl (w_iload_n rfl rfl k))) ?_
    refine J_iteT (fun hc2 => ?_) (fun hc2 => ?_)
    · refine J.mono (fun k => s_icmp_ge_t rfl hc2 (w_iconst rfl (inR_c rfl) k)) ?_
      exact J_some (fun k => w_zreturn rfl rfl (Or.inl rfl) k)
    · refine J.mono (fun k => s_icmp_ge_f rfl hc2 (w_iconst rfl (inR_c rfl) (w_goto rfl k))) ?_
      exact J_some (fun k => w_zreturn rfl rfl (Or.inr rfl) k)
  · refine J.mono (fun k => s_if_ge_f rfl hc1 (w_iload_n rfl rfl (w_iload_n rfl rfl k))) ?_
    refine J_iteT (fun hc3 => ?_) (fun hc3 => ?_)
    · refine J.mono (fun k => s_icmp_le_t rfl hc3 (w_iconst rfl (inR_c rfl) (w_goto rfl k))) ?_
      exact J_some (fun k => w_zreturn rfl rfl (Or.inl rfl) k)
    · refine J.mono (fun k => s_icmp_le_f rfl hc3 (w_iconst rfl (inR_c rfl) (w_goto rfl k))) ?_
      exact J_some (fun k => w_zreturn rfl rfl (Or.inr rfl) k)
set_option maxRecDepth 20000 in
set_option maxHeartbeats 4000000 in
theorem cal_dh_isBetter {Δ : DT} {d : Nat} (hd : 0 ≤ d) {x0 : Int} {x1 : Int} {x2 : Int}  {M : MEM} (ho : okVs [vI x0, vI x1, vI x2]) (hM : okM M) : Cal Δ false m_dh_isBetter d [vI x0, vI x1, vI x2] (NG, S0, M) (some (dh_isBetter x0 x1 x2)) (NG, S0, M) 0 0 := by
  exact cal_of g_dh_isBetter p_dh_isBetter (fun v hv => by simp only [List.mem_cons, List.not_mem_nil, or_false] at hv; rcases hv with rfl | rfl | rfl <;> first | exact Or.inl ⟨_, rfl⟩ | exact Or.inr ⟨_, rfl⟩) ho hM (Nat.le_of_ble_eq_true rfl) (fun Γ _ k => J_dh_isBetter  _ rfl k)
set_option maxRecDepth 20000 in
set_option maxHeartbeats 4000000 in
theorem J_fu_boiled {Δ : DT} {Γ : FT} {d : Nat} (hd : 1 ≤ d + 1) {a0 : Nat} {x1 : Int} (h_a0 : is_fu a0) {M : MEM} : J (fu_boiled a0 x1 M) (K_I Δ Γ m_fu_boiled M) (WAt Δ Γ false m_fu_boiled (d + 1) 0 [vR (a0), vI (x1)] [] (NG, S0, M) 0 0) := by
  unfold fu_boiled
  refine J.mono (fun k => w_aload_n rfl rfl (w_iload_n rfl rfl (w_iconst rfl (inR_c rfl) (w_iadd rfl k)))) ?_
  refine J_c (fun r2 e1 => ?_)
  refine J_hyp (fun k => c_vi1 rfl (fun ho hM => cal_fu_strokeMinute (by omega) h_a0 e1 ho hM) v_fu_strokeMinute (fu_S h_a0).1 (fu_S h_a0).2 rfl (Nat.le_of_ble_eq_true rfl) k) (fun hr3 hb4 => ?_)
  refine J.mono (fun k => w_aload_n rfl rfl (w_iconst rfl (inR_c rfl) k)) ?_
  refine J_c (fun r6 e5 => ?_)
  refine J_hyp (fun k => c_vi1 rfl (fun ho hM => cal_fu_strokeMinute (by omega) h_a0 e5 ho hM) v_fu_strokeMinute (fu_S h_a0).1 (fu_S h_a0).2 rfl (Nat.le_of_ble_eq_true rfl) k) (fun hr7 hb8 => ?_)
  refine J.mono (fun k => w_isub rfl k) ?_
  exact J_some (fun k => w_ireturn rfl rfl k)
set_option maxRecDepth 20000 in
set_option maxHeartbeats 4000000 in
theorem cal_fu_boiled {Δ : DT} {d : Nat} (hd : 1 ≤ d) {a0 : Nat} {x1 : Int} (h_a0 : is_fu a0) {M : MEM} {r : Int} (h : fu_boiled a0 x1 M = some r) (ho : okVs [vR a0, vI x1]) (hM : okM M) : Cal Δ false m_fu_boiled d [vR a0, vI x1] (NG, S0, M) (some r) (NG, S0, M) 0 0 := by
  obtain ⟨d, rfl⟩ : ∃ e, d = e + 1 := ⟨d - 1, by omega⟩
  exact cal_of g_fu_boiled p_fu_boiled (fun v hv => by simp only [List.mem_cons, List.not_mem_nil, or_false] at hv; rcases hv with rfl | rfl <;> first | exact Or.inl ⟨_, rfl⟩ | exact Or.inr ⟨_, rfl⟩) ho hM (Nat.le_of_ble_eq_true rfl) (fun Γ _ k => J_fu_boiled hd h_a0 _ h k)
set_option maxRecDepth 20000 in
set_option maxHeartbeats 4000000 in
theorem J_fu_hour {Δ : DT} {Γ : FT} {d : Nat} (hd : 2 ≤ d + 1) {a0 : Nat} (h_a0 : is_fu a0) {M : MEM} : J (fu_hour a0 M) (K_I Δ Γ m_fu_hour M) (WAt Δ Γ false m_fu_hour (d + 1) 0 [vR (a0)] [] (NG, S0, M) 0 0) := by
  unfold fu_hour
  refine J.mono (fun k => w_aload_n rfl rfl (w_getI rfl (fu_S h_a0).1 (fu_S h_a0).2 rfl (w_iconst rfl (inR_c rfl) k))) ?_
  refine J_ite (fun hc1 => ?_) (fun hc1 => ?_)
  · refine J.mono (fun k => s_icmp_ge_t rfl hc1 (w_aload_n rfl rfl (w_iconst rfl (inR_c rfl) k))) ?_
    refine J_c (fun r3 e2 => ?_)
    refine J_hyp (fun k => c_vi1 rfl (fun ho hM => cal_fu_boiled (by omega) h_a0 e2 ho hM) v_fu_boiled (fu_S h_a0).1 (fu_S h_a0).2 rfl (Nat.le_of_ble_eq_true rfl) k) (fun hr4 hb5 => ?_)
    exact J_some (fun k => w_ireturn rfl rfl k)
  · refine J.mono (fun k => s_icmp_ge_f rfl hc1 (w_sipush rfl (sip_c rfl) (w_goto rfl k))) ?_
    exact J_some (fun k => w_ireturn rfl rfl k)
set_option maxRecDepth 20000 in
set_option maxHeartbeats 4000000 in
theorem cal_fu_hour {Δ : DT} {d : Nat} (hd : 2 ≤ d) {a0 : Nat} (h_a0 : is_fu a0) {M : MEM} {r : Int} (h : fu_hour a0 M = some r) (ho : okVs [vR a0]) (hM : okM M) : Cal Δ false m_fu_hour d [vR a0] (NG, S0, M) (some r) (NG, S0, M) 0 0 := by
  obtain ⟨d, rfl⟩ : ∃ e, d = e + 1 := ⟨d - 1, by omega⟩
  exact cal_of g_fu_hour p_fu_hour (fun v hv => by simp only [List.mem_cons, List.not_mem_nil, or_false] at hv; rcases hv with rfl <;> first | exact Or.inl ⟨_, rfl⟩ | exact Or.inr ⟨_, rfl⟩) ho hM (Nat.le_of_ble_eq_true rfl) (fun Γ _ k => J_fu_hour hd h_a0 _ h k)
set_option maxRecDepth 20000 in
set_option maxHeartbeats 4000000 in
theorem J_dh_nextHour {Δ : DT} {Γ : FT} {d : Nat} (hd : 4 ≤ d + 1) {x1 : Int}  {M : MEM} : J (dh_nextHour x1 M) (K_IM Δ Γ m_dh_nextHour) (WAt Δ Γ false m_dh_nextHour (d + 1) 0 [vR (0), vI (x1)] [] (NG, S0, M) 0 0) := by
  unfold dh_nextHour
  refine J.mono (fun k => w_aload_n rfl rfl (w_aload_n rfl rfl (w_getR (r := 224) rfl (Nat.le_of_ble_eq_true rfl) S_0 rfl (w_iload_n rfl rfl k)))) ?_
  refine J_c (fun M2 e1 => ?_)
  refine J.mono (fun k => c_vv2 rfl (fun ho hM => cal_dh_look (by omega) is_fu_224 e1 ho hM) v_dh_look (Nat.le_of_ble_eq_true rfl) S_0 rfl (Nat.le_of_ble_eq_true rfl) (w_aload_n rfl rfl (w_getR (r := 224) rfl (Nat.le_of_ble_eq_true rfl) S_0 rfl (w_sipush rfl (sip_c rfl) (w_iconst rfl (inR_c rfl) k))))) ?_
  refine J_c (fun M4 e3 => ?_)
  refine J.mono (fun k => c_vv2 rfl (fun ho hM => cal_fu_run (by omega) is_fu_224 e3 ho hM) v_fu_run (fu_S is_fu_224).1 (fu_S is_fu_224).2 rfl (Nat.le_of_ble_eq_true rfl) (w_aload_n rfl rfl (w_getR (r := 224) rfl (Nat.le_of_ble_eq_true rfl) S_0 rfl k))) ?_
  refine J_c (fun r6 e5 => ?_)
  refine J_hyp (fun k => c_vi0 rfl (fun ho hM => cal_fu_hour (by omega) is_fu_224 e5 ho hM) v_fu_hour (fu_S is_fu_224).1 (fu_S is_fu_224).2 rfl (Nat.le_of_ble_eq_true rfl) k) (fun hr7 hb8 => ?_)
  exact J_some (fun k => w_ireturn rfl rfl k)
set_option maxRecDepth 20000 in
set_option maxHeartbeats 4000000 in
theorem cal_dh_nextHour {Δ : DT} {d : Nat} (hd : 4 ≤ d) {x1 : Int}  {M : MEM} {p : Int × MEM} (h : dh_nextHour x1 M = some p) (ho : okVs [vR 0, vI x1]) (hM : okM M) : Cal Δ false m_dh_nextHour d [vR 0, vI x1] (NG, S0, M) (some p.1) (NG, S0, p.2) 0 0 := by
  obtain ⟨d, rfl⟩ : ∃ e, d = e + 1 := ⟨d - 1, by omega⟩
  exact cal_of g_dh_nextHour p_dh_nextHour (fun v hv => by simp only [List.mem_cons, List.not_mem_nil, or_false] at hv; rcases hv with rfl | rfl <;> first | exact Or.inl ⟨_, rfl⟩ | exact Or.inr ⟨_, rfl⟩) ho hM (Nat.le_of_ble_eq_true rfl) (fun Γ _ k => J_dh_nextHour hd  _ h k)
set_option maxRecDepth 20000 in
set_option maxHeartbeats 4000000 in
theorem J_dh_think {Δ : DT} {Γ : FT} {d : Nat} (hd : 1 ≤ d + 1) {x1 : Int} {x2 : Int} {x3 : Int} {x4 : Int}  {M : MEM} : J (dh_think x1 x2 x3 x4 M) (K_M Δ Γ m_dh_think) (WAt Δ Γ false m_dh_think (d + 1) 0 [vR (0), vI (x1), vI (x2), vI (x3), vI (x4), vN] [] (NG, S0, M) 0 0) := by
  unfold dh_think
  refine J.mono (fun k => w_aload_n rfl rfl (w_getR (r := 3) rfl (Nat.le_of_ble_eq_true rfl) S_0 rfl (w_getI rfl (sc_S is_sc_3).1 (sc_S is_sc_3).2 rfl (w_iload_n rfl rfl (w_iadd rfl (s_istore5 rfl (Nat.le_of_ble_eq_true rfl) (w_aload_n rfl rfl (w_getR (r := 224) rfl (Nat.le_of_ble_eq_true rfl) S_0 rfl (w_getR (r := 225) rfl (fu_S is_fu_224).1 (fu_S is_fu_224).2 rfl (w_iload_n rfl rfl (w_iload rfl rfl (w_iload rfl rfl (w_iload_n rfl rfl (w_iadd rfl (w_iconst rfl (inR_c rfl) (w_isub rfl (w_iload rfl rfl k))))))))))))))))) ?_
  refine J_c (fun p2 e1 => ?_)
  refine J_hyp (fun k => c_vi4 rfl (fun ho hM => cal_ca_add (by omega) is_ca_225 e1 ho hM) v_ca_add (ca_S is_ca_225).1 (ca_S is_ca_225).2 rfl (Nat.le_of_ble_eq_true rfl) k) (fun hr3 hb4 => ?_)
  refine J.mono (fun k => w_pop rfl (fun _ h => by cases h) k) ?_
  exact J_some (fun k => w_return rfl rfl k)
set_option maxRecDepth 20000 in
set_option maxHeartbeats 4000000 in
theorem cal_dh_think {Δ : DT} {d : Nat} (hd : 1 ≤ d) {x1 : Int} {x2 : Int} {x3 : Int} {x4 : Int}  {M : MEM} {M1 : MEM} (h : dh_think x1 x2 x3 x4 M = some M1) (ho : okVs [vR 0, vI x1, vI x2, vI x3, vI x4]) (hM : okM M) : Cal Δ false m_dh_think d [vR 0, vI x1, vI x2, vI x3, vI x4] (NG, S0, M) none (NG, S0, M1) 0 0 := by
  obtain ⟨d, rfl⟩ : ∃ e, d = e + 1 := ⟨d - 1, by omega⟩
  exact cal_of g_dh_think p_dh_think (fun v hv => by simp only [List.mem_cons, List.not_mem_nil, or_false] at hv; rcases hv with rfl | rfl | rfl | rfl | rfl <;> first | exact Or.inl ⟨_, rfl⟩ | exact Or.inr ⟨_, rfl⟩) ho hM (Nat.le_of_ble_eq_true rfl) (fun Γ _ k => J_dh_think hd  _ h k)
abbrev HD_dh_bribe_b44 (Δ : DT) (Γ : FT) (d : Nat) (x1 : Int) (x2 : Int) (x3 : Int) (x4 : Int) (s : Int × Int × Int × MEM) : Prop := WAt Δ Γ false m_dh_bribe (d + 1) 44 [vR (0), vI (x1), vI (x2), vI (x3), vI (x4), vI (s.1), vI (s.2.1), vI (s.2.2.1), vN] [] (NG, S0, s.2.2.2) 0 0
abbrev X_dh_bribe_b44 (Δ : DT) (Γ : FT) (d : Nat) (x1 : Int) (x2 : Int) (x3 : Int) (x4 : Int) (s : Int × Int × Int × MEM) : Prop := WAt Δ Γ false m_dh_bribe (d + 1) 108 [vR (0), vN, vN, vN, vI (x4), vI (s.1), vI (s.2.1), vN, vN] [] (NG, S0, s.2.2.2) 0 0
set_option maxRecDepth 20000 in
set_option maxHeartbeats 4000000 in
theorem J_dh_bribe_j102_44 {Δ : DT} {Γ : FT} {d : Nat} (hd : 5 ≤ d + 1) {x1 : Int} {x2 : Int} {x3 : Int} {x4 : Int} {x5 : Int} {x6 : Int} {x7 : Int}  {M : MEM} : J (dh_bribe_j102_44 x1 x2 x3 x4 x5 x6 x7 M) (Sum.elim (HD_dh_bribe_b44 Δ Γ d x1 x2 x3 x4) (X_dh_bribe_b44 Δ Γ d x1 x2 x3 x4)) (WAt Δ Γ false m_dh_bribe (d + 1) 102 [vR (0), vI (x1), vI (x2), vI (x3), vI (x4), vI (x5), vI (x6), vI (x7), vN] [] (NG, S0, M) 0 0) := by
  unfold dh_bribe_j102_44
  refine J.mono (fun k => s_iinc7 rfl (Nat.le_of_ble_eq_true rfl) (w_goto rfl k)) ?_
  exact J_some (fun k => w_forget (wk_k (wk_k (wk_k (wk_k (wk_k (wk_k (wk_k (wk_k (wk_d wk_0))))))))) k)
set_option maxRecDepth 20000 in
set_option maxHeartbeats 4000000 in
theorem J_dh_bribe_j94_44 {Δ : DT} {Γ : FT} {d : Nat} (hd : 5 ≤ d + 1) {x1 : Int} {x2 : Int} {x3 : Int} {x4 : Int} {x7 : Int} {x8 : Int}  {M : MEM} : J (dh_bribe_j94_44 x1 x2 x3 x4 x7 x8 M) (Sum.elim (HD_dh_bribe_b44 Δ Γ d x1 x2 x3 x4) (X_dh_bribe_b44 Δ Γ d x1 x2 x3 x4)) (WAt Δ Γ false m_dh_bribe (d + 1) 94 [vR (0), vI (x1), vI (x2), vI (x3), vI (x4), vN, vN, vI (x7), vI (x8)] [] (NG, S0, M) 0 0) := by
  unfold dh_bribe_j94_44
  refine J.mono (fun k => w_iload rfl rfl (s_istore5 rfl (Nat.le_of_ble_eq_true rfl) (w_iload rfl rfl (s_istore6 rfl (Nat.le_of_ble_eq_true rfl) k)))) ?_
  exact J.mono (fun k => w_forget (wk_k (wk_k (wk_k (wk_k (wk_k (wk_k (wk_k (wk_k (wk_d wk_0))))))))) k) (J_dh_bribe_j102_44 hd )
set_option maxRecDepth 20000 in
set_option maxHeartbeats 4000000 in
theorem Jb_dh_bribe_b44 {Δ : DT} {Γ : FT} {d : Nat} (hd : 5 ≤ d + 1) {x1 : Int} {x2 : Int} {x3 : Int} {x4 : Int}  {x5 : Int} {x6 : Int} {x7 : Int} {M : MEM} : J (dh_bribe_b44 x1 x2 x3 x4 x5 x6 x7 M) (Sum.elim (HD_dh_bribe_b44 Δ Γ d x1 x2 x3 x4) (X_dh_bribe_b44 Δ Γ d x1 x2 x3 x4)) (WAt Δ Γ false m_dh_bribe (d + 1) 44 [vR (0), vI (x1), vI (x2), vI (x3), vI (x4), vI (x5), vI (x6), vI (x7), vN] [] (NG, S0, M) 0 0) := by
  unfold dh_bribe_b44
  refine J.mono (fun k => w_iload rfl rfl (w_bipush rfl (bip_c rfl) k)) ?_
  refine J_ite (fun hc15 => ?_) (fun hc15 => ?_)
  · refine J.mono (fun k => s_icmp_gt_t rfl hc15 k) ?_
    exact J_some (fun k => w_forget (wk_k (wk_d (wk_d (wk_d (wk_k (wk_k (wk_k (wk_d (wk_d wk_0))))))))) k)
  · refine J.mono (fun k => s_icmp_gt_f rfl hc15 (w_aload_n rfl rfl (w_iload_n rfl rfl (w_iload rfl rfl (w_iload_n rfl rfl (w_iload_n rfl rfl k)))))) ?_
    refine J_c (fun M17 e16 => ?_)
    refine J.mono (fun k => c_vv4 rfl (fun ho hM => cal_dh_think (by omega)  e16 ho hM) v_dh_think (Nat.le_of_ble_eq_true rfl) S_0 rfl (Nat.le_of_ble_eq_true rfl) (w_aload_n rfl rfl (w_iload_n rfl rfl k))) ?_
    refine J_c (fun p19 e18 => ?_)
    refine J_hyp (fun k => c_vi1 rfl (fun ho hM => cal_dh_nextHour (by omega)  e18 ho hM) v_dh_nextHour (Nat.le_of_ble_eq_true rfl) S_0 rfl (Nat.le_of_ble_eq_true rfl) k) (fun hr20 hb21 => ?_)
    refine J.mono (fun k => s_istore8 rfl (Nat.le_of_ble_eq_true rfl) (w_aload_n rfl rfl (w_getR (r := 224) rfl (Nat.le_of_ble_eq_true rfl) S_0 rfl (w_getR (r := 225) rfl (fu_S is_fu_224).1 (fu_S is_fu_224).2 rfl (w_iconst rfl (inR_c rfl) k))))) ?_
    refine J_b ?_
    refine J.mono (fun k => w_putI rfl (ca_S is_ca_225).1 (ca_S is_ca_225).2 rfl rfl (w_iload rfl rfl k)) ?_
    refine J_ite (fun hc23 => ?_) (fun hc23 => ?_)
    · refine J.mono (fun k => s_if_eq_t rfl hc23 k) ?_
      exact J.mono (fun k => w_forget (wk_k (wk_k (wk_k (wk_k (wk_k (wk_d (wk_d (wk_k (wk_k wk_0))))))))) k) (J_dh_bribe_j94_44 hd )
    · refine J.mono (fun k => s_if_eq_f rfl hc23 (w_iload_n rfl rfl (w_iload rfl rfl (w_iload rfl rfl k)))) ?_
      refine J_hyp (fun k => c_si3 rfl rfl (fun ho hM => cal_dh_isBetter (by omega)   ho hM) v_dh_isBetter (Nat.le_of_ble_eq_true rfl) k) (fun hr25 hb26 => ?_)
      refine J_ite (fun hc27 => ?_) (fun hc27 => ?_)
      · refine J.mono (fun k => s_if_eq_t rfl hc27 k) ?_
        exact J.mono (fun k => w_forget (wk_k (wk_k (wk_k (wk_k (wk_k (wk_k (wk_k (wk_k (wk_d wk_0))))))))) k) (J_dh_bribe_j102_44 hd )
      · refine J.mono (fun k => s_if_eq_f rfl hc27 k) ?_
        exact J.mono (fun k => w_forget (wk_k (wk_k (wk_k (wk_k (wk_k (wk_d (wk_d (wk_k (wk_k wk_0))))))))) k) (J_dh_bribe_j94_44 hd )
set_option maxRecDepth 20000 in
set_option maxHeartbeats 4000000 in
theorem Jl_dh_bribe_b44 {Δ : DT} {Γ : FT} {d : Nat} (hd : 5 ≤ d + 1) {x1 : Int} {x2 : Int} {x3 : Int} {x4 : Int}   : ∀ (n : Nat) (s : Int × Int × Int × MEM), J (iter (fun s => dh_bribe_b44 x1 x2 x3 x4 s.1 s.2.1 s.2.2.1 s.2.2.2) n s) (X_dh_bribe_b44 Δ Γ d x1 x2 x3 x4) (HD_dh_bribe_b44 Δ Γ d x1 x2 x3 x4 s) := J_iter (fun s => Jb_dh_bribe_b44 hd )
set_option maxRecDepth 20000 in
set_option maxHeartbeats 4000000 in
theorem J_dh_bribe {Δ : DT} {Γ : FT} {d : Nat} (hd : 5 ≤ d + 1) {x1 : Int} {x2 : Int} {x3 : Int}  {M : MEM} : J (dh_bribe x1 x2 x3 M) (K_IM Δ Γ m_dh_bribe) (WAt Δ Γ false m_dh_bribe (d + 1) 0 [vR (0), vI (x1), vI (x2), vI (x3), vN, vN, vN, vN, vN] [] (NG, S0, M) 0 0) := by
  unfold dh_bribe
  refine J.mono (fun k => w_aload_n rfl rfl (w_iload_n rfl rfl k)) ?_
  refine J_hyp (fun k => c_vi1 rfl (fun ho hM => cal_dh_isDonkey (by omega)   ho hM) v_dh_isDonkey (Nat.le_of_ble_eq_true rfl) S_0 rfl (Nat.le_of_ble_eq_true rfl) k) (fun hr2 hb3 => ?_)
  refine J_ite (fun hc4 => ?_) (fun hc4 => ?_)
  · refine J.mono (fun k => s_if_eq_t rfl hc4 (w_iconst rfl (inR_c rfl) k)) ?_
    exact J_some (fun k => w_ireturn rfl rfl k)
  · refine J.mono (fun k => s_if_eq_f rfl hc4 (w_iload_n rfl rfl (w_iconst rfl (inR_c rfl) k))) ?_
    refine J_ite (fun hc5 => ?_) (fun hc5 => ?_)
    · refine J.mono (fun k => s_icmp_lt_t rfl hc5 (w_iconst rfl (inR_c rfl) k)) ?_
      exact J_some (fun k => w_ireturn rfl rfl k)
    · refine J.mono (fun k => s_icmp_lt_f rfl hc5 (w_iload_n rfl rfl (w_bipush rfl (bip_c rfl) k))) ?_
      refine J_ite (fun hc6 => ?_) (fun hc6 => ?_)
      · refine J.mono (fun k => s_icmp_gt_t rfl hc6 (w_iconst rfl (inR_c rfl) k)) ?_
        exact J_some (fun k => w_ireturn rfl rfl k)
      · refine J.mono (fun k => s_icmp_gt_f rfl hc6 (w_iload_n rfl rfl k)) ?_
        refine J_hyp (fun k => c_si1 rfl rfl (fun ho hM => cal_dh_isWay (by omega)   ho hM) v_dh_isWay (Nat.le_of_ble_eq_true rfl) k) (fun hr8 hb9 => ?_)
        refine J_ite (fun hc10 => ?_) (fun hc10 => ?_)
        · refine J.mono (fun k => s_if_ne_f rfl hc10 (w_iconst rfl (inR_c rfl) k)) ?_
          exact J_some (fun k => w_ireturn rfl rfl k)
        · refine J.mono (fun k => s_if_ne_t rfl hc10 (w_aload_n rfl rfl (w_iload_n rfl rfl k))) ?_
          refine J_c (fun p12 e11 => ?_)
          refine J_hyp (fun k => c_vi1 rfl (fun ho hM => cal_dh_nextHour (by omega)  e11 ho hM) v_dh_nextHour (Nat.le_of_ble_eq_true rfl) S_0 rfl (Nat.le_of_ble_eq_true rfl) k) (fun hr13 hb14 => ?_)
          refine J.mono (fun k => s_istore4 rfl (Nat.le_of_ble_eq_true rfl) (w_iconst rfl (inR_c rfl) (s_istore5 rfl (Nat.le_of_ble_eq_true rfl) (w_iconst rfl (inR_c rfl) (s_istore6 rfl (Nat.le_of_ble_eq_true rfl) (w_iconst rfl (inR_c rfl) (s_istore7 rfl (Nat.le_of_ble_eq_true rfl) k))))))) ?_
          refine J.mono (fun k => w_forget (wk_k (wk_k (wk_k (wk_k (wk_k (wk_k (wk_k (wk_k (wk_d wk_0))))))))) k) ?_
          refine J_loop (Jl_dh_bribe_b44 hd  _ _) (fun w28 => ?_)
          refine J.mono (fun k => w_aload_n rfl rfl k) ?_
          refine J_c (fun M30 e29 => ?_)
          refine J.mono (fun k => c_vv0 rfl (fun ho hM => cal_dh_newRow (by omega)  e29 ho hM) v_dh_newRow (Nat.le_of_ble_eq_true rfl) S_0 rfl (Nat.le_of_ble_eq_true rfl) (w_aload_n rfl rfl (w_iload rfl rfl k))) ?_
          refine J_c (fun M32 e31 => ?_)
          refine J.mono (fun k => c_vv1 rfl (fun ho hM => cal_dh_tell (by omega)  e31 ho hM) v_dh_tell (Nat.le_of_ble_eq_true rfl) S_0 rfl (Nat.le_of_ble_eq_true rfl) (w_aload_n rfl rfl (w_iload rfl rfl k))) ?_
          refine J_c (fun M34 e33 => ?_)
          refine J.mono (fun k => c_vv1 rfl (fun ho hM => cal_dh_tell (by omega)  e33 ho hM) v_dh_tell (Nat.le_of_ble_eq_true rfl) S_0 rfl (Nat.le_of_ble_eq_true rfl) (w_iload rfl rfl k)) ?_
          exact J_some (fun k => w_ireturn rfl rfl k)
set_option maxRecDepth 20000 in
set_option maxHeartbeats 4000000 in
theorem cal_dh_bribe {Δ : DT} {d : Nat} (hd : 5 ≤ d) {x1 : Int} {x2 : Int} {x3 : Int}  {M : MEM} {p : Int × MEM} (h : dh_bribe x1 x2 x3 M = some p) (ho : okVs [vR 0, vI x1, vI x2, vI x3]) (hM : okM M) : Cal Δ false m_dh_bribe d [vR 0, vI x1, vI x2, vI x3] (NG, S0, M) (some p.1) (NG, S0, p.2) 0 0 := by
  obtain ⟨d, rfl⟩ : ∃ e, d = e + 1 := ⟨d - 1, by omega⟩
  exact cal_of g_dh_bribe p_dh_bribe (fun v hv => by simp only [List.mem_cons, List.not_mem_nil, or_false] at hv; rcases hv with rfl | rfl | rfl | rfl <;> first | exact Or.inl ⟨_, rfl⟩ | exact Or.inr ⟨_, rfl⟩) ho hM (Nat.le_of_ble_eq_true rfl) (fun Γ _ k => J_dh_bribe hd  _ h k)
set_option maxRecDepth 20000 in
set_option maxHeartbeats 4000000 in
theorem J_dh_hourOfBoys {Δ : DT} {Γ : FT} {d : Nat} (hd : 4 ≤ d + 1) {x1 : Int} {x2 : Int} {x3 : Int} {x4 : Int}  {M : MEM} : J (dh_hourOfBoys x1 x2 x3 x4 M) (K_IM Δ Γ m_dh_hourOfBoys) (WAt Δ Γ false m_dh_hourOfBoys (d + 1) 0 [vR (0), vI (x1), vI (x2), vI (x3), vI (x4)] [] (NG, S0, M) 0 0) := by
  unfold dh_hourOfBoys
  refine J.mono (fun k => w_aload_n rfl rfl (w_iload_n rfl rfl (w_iload_n rfl rfl (w_iload_n rfl rfl (w_iconst rfl (inR_c rfl) k))))) ?_
  refine J_c (fun M2 e1 => ?_)
  refine J.mono (fun k => c_vv4 rfl (fun ho hM => cal_dh_think (by omega)  e1 ho hM) v_dh_think (Nat.le_of_ble_eq_true rfl) S_0 rfl (Nat.le_of_ble_eq_true rfl) (w_aload_n rfl rfl (w_iload_n rfl rfl (w_iload rfl rfl (w_iload_n rfl rfl (w_iconst rfl (inR_c rfl) k)))))) ?_
  refine J_c (fun M4 e3 => ?_)
  refine J.mono (fun k => c_vv4 rfl (fun ho hM => cal_dh_think (by omega)  e3 ho hM) v_dh_think (Nat.le_of_ble_eq_true rfl) S_0 rfl (Nat.le_of_ble_eq_true rfl) (w_aload_n rfl rfl (w_aload_n rfl rfl (w_getR (r := 224) rfl (Nat.le_of_ble_eq_true rfl) S_0 rfl (w_iload_n rfl rfl k))))) ?_
  refine J_c (fun M6 e5 => ?_)
  refine J.mono (fun k => c_vv2 rfl (fun ho hM => cal_dh_look (by omega) is_fu_224 e5 ho hM) v_dh_look (Nat.le_of_ble_eq_true rfl) S_0 rfl (Nat.le_of_ble_eq_true rfl) (w_aload_n rfl rfl (w_getR (r := 224) rfl (Nat.le_of_ble_eq_true rfl) S_0 rfl (w_sipush rfl (sip_c rfl) (w_iconst rfl (inR_c rfl) k))))) ?_
  refine J_c (fun M8 e7 => ?_)
  refine J.mono (fun k => c_vv2 rfl (fun ho hM => cal_fu_run (by omega) is_fu_224 e7 ho hM) v_fu_run (fu_S is_fu_224).1 (fu_S is_fu_224).2 rfl (Nat.le_of_ble_eq_true rfl) (w_aload_n rfl rfl (w_getR (r := 224) rfl (Nat.le_of_ble_eq_true rfl) S_0 rfl (w_getR (r := 225) rfl (fu_S is_fu_224).1 (fu_S is_fu_224).2 rfl (w_iconst rfl (inR_c rfl) k))))) ?_
  refine J_b ?_
  refine J.mono (fun k => w_putI rfl (ca_S is_ca_225).1 (ca_S is_ca_225).2 rfl rfl (w_aload_n rfl rfl (w_getR (r := 224) rfl (Nat.le_of_ble_eq_true rfl) S_0 rfl k))) ?_
  refine J_c (fun r11 e10 => ?_)
  refine J_hyp (fun k => c_vi0 rfl (fun ho hM => cal_fu_hour (by omega) is_fu_224 e10 ho hM) v_fu_hour (fu_S is_fu_224).1 (fu_S is_fu_224).2 rfl (Nat.le_of_ble_eq_true rfl) k) (fun hr12 hb13 => ?_)
  exact J_some (fun k => w_ireturn rfl rfl k)
set_option maxRecDepth 20000 in
set_option maxHeartbeats 4000000 in
theorem cal_dh_hourOfBoys {Δ : DT} {d : Nat} (hd : 4 ≤ d) {x1 : Int} {x2 : Int} {x3 : Int} {x4 : Int}  {M : MEM} {p : Int × MEM} (h : dh_hourOfBoys x1 x2 x3 x4 M = some p) (ho : okVs [vR 0, vI x1, vI x2, vI x3, vI x4]) (hM : okM M) : Cal Δ false m_dh_hourOfBoys d [vR 0, vI x1, vI x2, vI x3, vI x4] (NG, S0, M) (some p.1) (NG, S0, p.2) 0 0 := by
  obtain ⟨d, rfl⟩ : ∃ e, d = e + 1 := ⟨d - 1, by omega⟩
  exact cal_of g_dh_hourOfBoys p_dh_hourOfBoys (fun v hv => by simp only [List.mem_cons, List.not_mem_nil, or_false] at hv; rcases hv with rfl | rfl | rfl | rfl | rfl <;> first | exact Or.inl ⟨_, rfl⟩ | exact Or.inr ⟨_, rfl⟩) ho hM (Nat.le_of_ble_eq_true rfl) (fun Γ _ k => J_dh_hourOfBoys hd  _ h k)
abbrev HD_dh_bestOfBoy_b28 (Δ : DT) (Γ : FT) (d : Nat) (x1 : Int) (x2 : Int) (x3 : Int) (x4 : Int) (x5 : Int) (s : Int × Int × Int × MEM) : Prop := WAt Δ Γ false m_dh_bestOfBoy (d + 1) 28 [vR (0), vI (x1), vI (x2), vI (x3), vI (x4), vI (x5), vI (s.1), vI (s.2.1), vI (s.2.2.1), vN] [] (NG, S0, s.2.2.2) 0 0
abbrev X_dh_bestOfBoy_b28 (Δ : DT) (Γ : FT) (d : Nat) (x1 : Int) (x2 : Int) (x3 : Int) (x4 : Int) (x5 : Int) (s : Int × Int × Int × MEM) : Prop := WAt Δ Γ false m_dh_bestOfBoy (d + 1) 97 [vN, vN, vN, vN, vN, vN, vI (s.1), vN, vN, vN] [] (NG, S0, s.2.2.2) 0 0
set_option maxRecDepth 20000 in
set_option maxHeartbeats 4000000 in
theorem J_dh_bestOfBoy_j91_28 {Δ : DT} {Γ : FT} {d : Nat} (hd : 5 ≤ d + 1) {x1 : Int} {x2 : Int} {x3 : Int} {x4 : Int} {x5 : Int} {x6 : Int} {x7 : Int} {x8 : Int}  {M : MEM} : J (dh_bestOfBoy_j91_28 x1 x2 x3 x4 x5 x6 x7 x8 M) (Sum.elim (HD_dh_bestOfBoy_b28 Δ Γ d x1 x2 x3 x4 x5) (X_dh_bestOfBoy_b28 Δ Γ d x1 x2 x3 x4 x5)) (WAt Δ Γ false m_dh_bestOfBoy (d + 1) 91 [vR (0), vI (x1), vI (x2), vI (x3), vI (x4), vI (x5), vI (x6), vI (x7), vI (x8), vN] [] (NG, S0, M) 0 0) := by
  unfold dh_bestOfBoy_j91_28
  refine J.mono (fun k => s_iinc8 rfl (Nat.le_of_ble_eq_true rfl) (w_goto rfl k)) ?_
  exact J_some (fun k => w_forget (wk_k (wk_k (wk_k (wk_k (wk_k (wk_k (wk_k (wk_k (wk_k (wk_d wk_0)))))))))) k)
set_option maxRecDepth 20000 in
set_option maxHeartbeats 4000000 in
theorem J_dh_bestOfBoy_j73_28 {Δ : DT} {Γ : FT} {d : Nat} (hd : 5 ≤ d + 1) {x1 : Int} {x2 : Int} {x3 : Int} {x4 : Int} {x5 : Int} {x6 : Int} {x7 : Int} {x8 : Int} {x9 : Int} {s0 : Int}  {M : MEM} : J (dh_bestOfBoy_j73_28 x1 x2 x3 x4 x5 x6 x7 x8 x9 s0 M) (Sum.elim (HD_dh_bestOfBoy_b28 Δ Γ d x1 x2 x3 x4 x5) (X_dh_bestOfBoy_b28 Δ Γ d x1 x2 x3 x4 x5)) (WAt Δ Γ false m_dh_bestOfBoy (d + 1) 73 [vR (0), vI (x1), vI (x2), vI (x3), vI (x4), vI (x5), vI (x6), vI (x7), vI (x8), vI (x9)] [vI (s0)] (NG, S0, M) 0 0) := by
  unfold dh_bestOfBoy_j73_28
  refine J.mono (fun k => w_iload rfl rfl (w_iload rfl rfl k)) ?_
  refine J_hyp (fun k => c_si3 rfl rfl (fun ho hM => cal_dh_isBetter (by omega)   ho hM) v_dh_isBetter (Nat.le_of_ble_eq_true rfl) k) (fun hr14 hb15 => ?_)
  refine J_ite (fun hc16 => ?_) (fun hc16 => ?_)
  · refine J.mono (fun k => s_if_eq_t rfl hc16 k) ?_
    exact J.mono (fun k => w_forget (wk_k (wk_k (wk_k (wk_k (wk_k (wk_k (wk_k (wk_k (wk_k (wk_d wk_0)))))))))) k) (J_dh_bestOfBoy_j91_28 hd )
  · refine J.mono (fun k => s_if_eq_f rfl hc16 (w_iload rfl rfl (s_istore6 rfl (Nat.le_of_ble_eq_true rfl) (w_iload rfl rfl (s_istore7 rfl (Nat.le_of_ble_eq_true rfl) k))))) ?_
    exact J.mono (fun k => w_forget (wk_k (wk_k (wk_k (wk_k (wk_k (wk_k (wk_k (wk_k (wk_k (wk_d wk_0)))))))))) k) (J_dh_bestOfBoy_j91_28 hd )
set_option maxRecDepth 20000 in
set_option maxHeartbeats 4000000 in
theorem J_dh_bestOfBoy_j62_28 {Δ : DT} {Γ : FT} {d : Nat} (hd : 5 ≤ d + 1) {x1 : Int} {x2 : Int} {x3 : Int} {x4 : Int} {x5 : Int} {x6 : Int} {x7 : Int} {x8 : Int} {s0 : Int}  {M : MEM} : J (dh_bestOfBoy_j62_28 x1 x2 x3 x4 x5 x6 x7 x8 s0 M) (Sum.elim (HD_dh_bestOfBoy_b28 Δ Γ d x1 x2 x3 x4 x5) (X_dh_bestOfBoy_b28 Δ Γ d x1 x2 x3 x4 x5)) (WAt Δ Γ false m_dh_bestOfBoy (d + 1) 62 [vR (0), vI (x1), vI (x2), vI (x3), vI (x4), vI (x5), vI (x6), vI (x7), vI (x8), vN] [vI (s0)] (NG, S0, M) 0 0) := by
  unfold dh_bestOfBoy_j62_28
  refine J.mono (fun k => s_istore9 rfl (Nat.le_of_ble_eq_true rfl) (w_iload_n rfl rfl k)) ?_
  refine J_ite (fun hc12 => ?_) (fun hc12 => ?_)
  · refine J.mono (fun k => s_if_ne_f rfl hc12 (w_iconst rfl (inR_c rfl) (w_goto rfl k))) ?_
    exact J.mono (fun k => w_forget (wk_k (wk_k (wk_k (wk_k (wk_k (wk_k (wk_k (wk_k (wk_k (wk_k wk_0)))))))))) k) (J_dh_bestOfBoy_j73_28 hd )
  · refine J.mono (fun k => s_if_ne_t rfl hc12 (w_iconst rfl (inR_c rfl) k)) ?_
    exact J.mono (fun k => w_forget (wk_k (wk_k (wk_k (wk_k (wk_k (wk_k (wk_k (wk_k (wk_k (wk_k wk_0)))))))))) k) (J_dh_bestOfBoy_j73_28 hd )
set_option maxRecDepth 20000 in
set_option maxHeartbeats 4000000 in
theorem Jb_dh_bestOfBoy_b28 {Δ : DT} {Γ : FT} {d : Nat} (hd : 5 ≤ d + 1) {x1 : Int} {x2 : Int} {x3 : Int} {x4 : Int} {x5 : Int}  {x6 : Int} {x7 : Int} {x8 : Int} {M : MEM} : J (dh_bestOfBoy_b28 x1 x2 x3 x4 x5 x6 x7 x8 M) (Sum.elim (HD_dh_bestOfBoy_b28 Δ Γ d x1 x2 x3 x4 x5) (X_dh_bestOfBoy_b28 Δ Γ d x1 x2 x3 x4 x5)) (WAt Δ Γ false m_dh_bestOfBoy (d + 1) 28 [vR (0), vI (x1), vI (x2), vI (x3), vI (x4), vI (x5), vI (x6), vI (x7), vI (x8), vN] [] (NG, S0, M) 0 0) := by
  unfold dh_bestOfBoy_b28
  refine J.mono (fun k => w_iload rfl rfl (w_bipush rfl (bip_c rfl) k)) ?_
  refine J_ite (fun hc6 => ?_) (fun hc6 => ?_)
  · refine J.mono (fun k => s_icmp_gt_t rfl hc6 k) ?_
    exact J_some (fun k => w_forget (wk_d (wk_d (wk_d (wk_d (wk_d (wk_d (wk_k (wk_d (wk_d (wk_d wk_0)))))))))) k)
  · refine J.mono (fun k => s_icmp_gt_f rfl hc6 (w_iload_n rfl rfl k)) ?_
    refine J_ite (fun hc7 => ?_) (fun hc7 => ?_)
    · refine J.mono (fun k => s_if_ne_f rfl hc7 (w_aload_n rfl rfl (w_iload_n rfl rfl (w_iload_n rfl rfl (w_iload rfl rfl (w_iload rfl rfl k)))))) ?_
      refine J_c (fun p9 e8 => ?_)
      refine J_hyp (fun k => c_vi4 rfl (fun ho hM => cal_dh_hourOfBoys (by omega)  e8 ho hM) v_dh_hourOfBoys (Nat.le_of_ble_eq_true rfl) S_0 rfl (Nat.le_of_ble_eq_true rfl) k) (fun hr10 hb11 => ?_)
      refine J.mono (fun k => w_goto rfl k) ?_
      exact J.mono (fun k => w_forget (wk_k (wk_k (wk_k (wk_k (wk_k (wk_k (wk_k (wk_k (wk_k (wk_d wk_0)))))))))) k) (J_dh_bestOfBoy_j62_28 hd )
    · refine J.mono (fun k => s_if_ne_t rfl hc7 (w_aload_n rfl rfl (w_iload_n rfl rfl (w_iload_n rfl rfl (w_iload rfl rfl (w_iload rfl rfl k)))))) ?_
      refine J_c (fun p18 e17 => ?_)
      refine J_hyp (fun k => c_vi4 rfl (fun ho hM => cal_dh_hourOfBoys (by omega)  e17 ho hM) v_dh_hourOfBoys (Nat.le_of_ble_eq_true rfl) S_0 rfl (Nat.le_of_ble_eq_true rfl) k) (fun hr19 hb20 => ?_)
      exact J.mono (fun k => w_forget (wk_k (wk_k (wk_k (wk_k (wk_k (wk_k (wk_k (wk_k (wk_k (wk_d wk_0)))))))))) k) (J_dh_bestOfBoy_j62_28 hd )
set_option maxRecDepth 20000 in
set_option maxHeartbeats 4000000 in
theorem Jl_dh_bestOfBoy_b28 {Δ : DT} {Γ : FT} {d : Nat} (hd : 5 ≤ d + 1) {x1 : Int} {x2 : Int} {x3 : Int} {x4 : Int} {x5 : Int}   : ∀ (n : Nat) (s : Int × Int × Int × MEM), J (iter (fun s => dh_bestOfBoy_b28 x1 x2 x3 x4 x5 s.1 s.2.1 s.2.2.1 s.2.2.2) n s) (X_dh_bestOfBoy_b28 Δ Γ d x1 x2 x3 x4 x5) (HD_dh_bestOfBoy_b28 Δ Γ d x1 x2 x3 x4 x5 s) := J_iter (fun s => Jb_dh_bestOfBoy_b28 hd )
set_option maxRecDepth 20000 in
set_option maxHeartbeats 4000000 in
theorem J_dh_bestOfBoy_j11 {Δ : DT} {Γ : FT} {d : Nat} (hd : 5 ≤ d + 1) {x1 : Int} {x2 : Int} {x3 : Int} {x4 : Int} {x5 : Int} {s0 : Int}  {M : MEM} : J (dh_bestOfBoy_j11 x1 x2 x3 x4 x5 s0 M) (K_IM Δ Γ m_dh_bestOfBoy) (WAt Δ Γ false m_dh_bestOfBoy (d + 1) 11 [vR (0), vI (x1), vI (x2), vI (x3), vI (x4), vI (x5), vN, vN, vN, vN] [vI (s0)] (NG, S0, M) 0 0) := by
  unfold dh_bestOfBoy_j11
  refine J.mono (fun k => s_istore6 rfl (Nat.le_of_ble_eq_true rfl) (w_aload_n rfl rfl (w_iload_n rfl rfl (w_iload_n rfl rfl (w_iload rfl rfl (w_iload rfl rfl k)))))) ?_
  refine J_c (fun p3 e2 => ?_)
  refine J_hyp (fun k => c_vi4 rfl (fun ho hM => cal_dh_hourOfBoys (by omega)  e2 ho hM) v_dh_hourOfBoys (Nat.le_of_ble_eq_true rfl) S_0 rfl (Nat.le_of_ble_eq_true rfl) k) (fun hr4 hb5 => ?_)
  refine J.mono (fun k => s_istore7 rfl (Nat.le_of_ble_eq_true rfl) (w_iconst rfl (inR_c rfl) (s_istore8 rfl (Nat.le_of_ble_eq_true rfl) k))) ?_
  refine J.mono (fun k => w_forget (wk_k (wk_k (wk_k (wk_k (wk_k (wk_k (wk_k (wk_k (wk_k (wk_d wk_0)))))))))) k) ?_
  refine J_loop (Jl_dh_bestOfBoy_b28 hd  _ _) (fun w21 => ?_)
  refine J.mono (fun k => w_iload rfl rfl k) ?_
  exact J_some (fun k => w_ireturn rfl rfl k)
set_option maxRecDepth 20000 in
set_option maxHeartbeats 4000000 in
theorem J_dh_bestOfBoy {Δ : DT} {Γ : FT} {d : Nat} (hd : 5 ≤ d + 1) {x1 : Int} {x2 : Int} {x3 : Int} {x4 : Int} {x5 : Int}  {M : MEM} : J (dh_bestOfBoy x1 x2 x3 x4 x5 M) (K_IM Δ Γ m_dh_bestOfBoy) (WAt Δ Γ false m_dh_bestOfBoy (d + 1) 0 [vR (0), vI (x1), vI (x2), vI (x3), vI (x4), vI (x5), vN, vN, vN, vN] [] (NG, S0, M) 0 0) := by
  unfold dh_bestOfBoy
  refine J.mono (fun k => w_iload_n rfl rfl k) ?_
  refine J_ite (fun hc1 => ?_) (fun hc1 => ?_)
  · refine J.mono (fun k => s_if_ne_f rfl hc1 (w_iload rfl rfl (w_goto rfl k))) ?_
    exact J.mono (fun k => w_forget (wk_k (wk_k (wk_k (wk_k (wk_k (wk_k (wk_d (wk_d (wk_d (wk_d wk_0)))))))))) k) (J_dh_bestOfBoy_j11 hd )
  · refine J.mono (fun k => s_if_ne_t rfl hc1 (w_iload rfl rfl k)) ?_
    exact J.mono (fun k => w_forget (wk_k (wk_k (wk_k (wk_k (wk_k (wk_k (wk_d (wk_d (wk_d (wk_d wk_0)))))))))) k) (J_dh_bestOfBoy_j11 hd )
set_option maxRecDepth 20000 in
set_option maxHeartbeats 4000000 in
theorem cal_dh_bestOfBoy {Δ : DT} {d : Nat} (hd : 5 ≤ d) {x1 : Int} {x2 : Int} {x3 : Int} {x4 : Int} {x5 : Int}  {M : MEM} {p : Int × MEM} (h : dh_bestOfBoy x1 x2 x3 x4 x5 M = some p) (ho : okVs [vR 0, vI x1, vI x2, vI x3, vI x4, vI x5]) (hM : okM M) : Cal Δ false m_dh_bestOfBoy d [vR 0, vI x1, vI x2, vI x3, vI x4, vI x5] (NG, S0, M) (some p.1) (NG, S0, p.2) 0 0 := by
  obtain ⟨d, rfl⟩ : ∃ e, d = e + 1 := ⟨d - 1, by omega⟩
  exact cal_of g_dh_bestOfBoy p_dh_bestOfBoy (fun v hv => by simp only [List.mem_cons, List.not_mem_nil, or_false] at hv; rcases hv with rfl | rfl | rfl | rfl | rfl | rfl <;> first | exact Or.inl ⟨_, rfl⟩ | exact Or.inr ⟨_, rfl⟩) ho hM (Nat.le_of_ble_eq_true rfl) (fun Γ _ k => J_dh_bestOfBoy hd  _ h k)
abbrev HD_dh_rests_b43 (Δ : DT) (Γ : FT) (d : Nat) (x1 : Int) (x2 : Int) (x3 : Int) (s : Int × Int × Int × Int × MEM) : Prop := WAt Δ Γ false m_dh_rests (d + 1) 43 [vR (0), vI (x1), vI (x2), vI (x3), vI (s.1), vI (s.2.1), vI (s.2.2.1), vI (s.2.2.2.1), vN, vN, vN] [] (NG, S0, s.2.2.2.2) 0 0
abbrev X_dh_rests_b43 (Δ : DT) (Γ : FT) (d : Nat) (x1 : Int) (x2 : Int) (x3 : Int) (s : Int × Int × Int × Int × MEM) : Prop := WAt Δ Γ false m_dh_rests (d + 1) 141 [vR (0), vI (x1), vI (x2), vN, vI (s.1), vI (s.2.1), vI (s.2.2.1), vI (s.2.2.2.1), vN, vN, vN] [] (NG, S0, s.2.2.2.2) 0 0
set_option maxRecDepth 20000 in
set_option maxHeartbeats 4000000 in
theorem J_dh_rests_j133_43 {Δ : DT} {Γ : FT} {d : Nat} (hd : 6 ≤ d + 1) {x1 : Int} {x2 : Int} {x3 : Int} {x4 : Int} {x5 : Int} {x6 : Int} {s0 : Int}  {M : MEM} : J (dh_rests_j133_43 x1 x2 x3 x4 x5 x6 s0 M) (Sum.elim (HD_dh_rests_b43 Δ Γ d x1 x2 x3) (X_dh_rests_b43 Δ Γ d x1 x2 x3)) (WAt Δ Γ false m_dh_rests (d + 1) 133 [vR (0), vI (x1), vI (x2), vI (x3), vI (x4), vI (x5), vI (x6), vN, vN, vN, vN] [vI (s0)] (NG, S0, M) 0 0) := by
  unfold dh_rests_j133_43
  refine J.mono (fun k => s_istore7 rfl (Nat.le_of_ble_eq_true rfl) (s_iinc6 rfl (Nat.le_of_ble_eq_true rfl) (w_goto rfl k))) ?_
  exact J_some (fun k => w_forget (wk_k (wk_k (wk_k (wk_k (wk_k (wk_k (wk_k (wk_k (wk_d (wk_d (wk_d wk_0))))))))))) k)
set_option maxRecDepth 20000 in
set_option maxHeartbeats 4000000 in
theorem J_dh_rests_j116_43 {Δ : DT} {Γ : FT} {d : Nat} (hd : 6 ≤ d + 1) {x1 : Int} {x2 : Int} {x3 : Int} {x4 : Int} {x6 : Int} {x7 : Int} {x9 : Int} {x10 : Int} {s0 : Int}  {M : MEM} : J (dh_rests_j116_43 x1 x2 x3 x4 x6 x7 x9 x10 s0 M) (Sum.elim (HD_dh_rests_b43 Δ Γ d x1 x2 x3) (X_dh_rests_b43 Δ Γ d x1 x2 x3)) (WAt Δ Γ false m_dh_rests (d + 1) 116 [vR (0), vI (x1), vI (x2), vI (x3), vI (x4), vN, vI (x6), vI (x7), vN, vI (x9), vI (x10)] [vI (s0)] (NG, S0, M) 0 0) := by
  unfold dh_rests_j116_43
  refine J.mono (fun k => s_istore5 rfl (Nat.le_of_ble_eq_true rfl) (w_iload rfl rfl (w_iload rfl rfl k))) ?_
  refine J_ite (fun hc18 => ?_) (fun hc18 => ?_)
  · refine J.mono (fun k => s_icmp_ne_f rfl hc18 (w_iload rfl rfl (w_iconst rfl (inR_c rfl) (w_iadd rfl (w_goto rfl k))))) ?_
    exact J.mono (fun k => w_forget (wk_k (wk_k (wk_k (wk_k (wk_k (wk_k (wk_k (wk_d (wk_d (wk_d (wk_d wk_0))))))))))) k) (J_dh_rests_j133_43 hd )
  · refine J.mono (fun k => s_icmp_ne_t rfl hc18 (w_iconst rfl (inR_c rfl) k)) ?_
    exact J.mono (fun k => w_forget (wk_k (wk_k (wk_k (wk_k (wk_k (wk_k (wk_k (wk_d (wk_d (wk_d (wk_d wk_0))))))))))) k) (J_dh_rests_j133_43 hd )
set_option maxRecDepth 20000 in
set_option maxHeartbeats 4000000 in
theorem J_dh_rests_j101_43 {Δ : DT} {Γ : FT} {d : Nat} (hd : 6 ≤ d + 1) {x1 : Int} {x2 : Int} {x3 : Int} {x5 : Int} {x6 : Int} {x7 : Int} {x8 : Int} {x9 : Int} {x10 : Int} {s0 : Int}  {M : MEM} : J (dh_rests_j101_43 x1 x2 x3 x5 x6 x7 x8 x9 x10 s0 M) (Sum.elim (HD_dh_rests_b43 Δ Γ d x1 x2 x3) (X_dh_rests_b43 Δ Γ d x1 x2 x3)) (WAt Δ Γ false m_dh_rests (d + 1) 101 [vR (0), vI (x1), vI (x2), vI (x3), vN, vI (x5), vI (x6), vI (x7), vI (x8), vI (x9), vI (x10)] [vI (s0)] (NG, S0, M) 0 0) := by
  unfold dh_rests_j101_43
  refine J.mono (fun k => s_istore4 rfl (Nat.le_of_ble_eq_true rfl) (w_iload rfl rfl (w_iconst rfl (inR_c rfl) k))) ?_
  refine J_ite (fun hc17 => ?_) (fun hc17 => ?_)
  · refine J.mono (fun k => s_icmp_ne_f rfl hc17 (w_iload rfl rfl (w_goto rfl k))) ?_
    exact J.mono (fun k => w_forget (wk_k (wk_k (wk_k (wk_k (wk_k (wk_d (wk_k (wk_k (wk_d (wk_k (wk_k wk_0))))))))))) k) (J_dh_rests_j116_43 hd )
  · refine J.mono (fun k => s_icmp_ne_t rfl hc17 (w_iload rfl rfl k)) ?_
    exact J.mono (fun k => w_forget (wk_k (wk_k (wk_k (wk_k (wk_k (wk_d (wk_k (wk_k (wk_d (wk_k (wk_k wk_0))))))))))) k) (J_dh_rests_j116_43 hd )
set_option maxRecDepth 20000 in
set_option maxHeartbeats 4000000 in
theorem J_dh_rests_j73_43 {Δ : DT} {Γ : FT} {d : Nat} (hd : 6 ≤ d + 1) {x1 : Int} {x2 : Int} {x3 : Int} {x4 : Int} {x5 : Int} {x6 : Int} {x7 : Int} {x8 : Int} {s0 : Int}  {M : MEM} : J (dh_rests_j73_43 x1 x2 x3 x4 x5 x6 x7 x8 s0 M) (Sum.elim (HD_dh_rests_b43 Δ Γ d x1 x2 x3) (X_dh_rests_b43 Δ Γ d x1 x2 x3)) (WAt Δ Γ false m_dh_rests (d + 1) 73 [vR (0), vI (x1), vI (x2), vI (x3), vI (x4), vI (x5), vI (x6), vI (x7), vI (x8), vN, vN] [vI (s0)] (NG, S0, M) 0 0) := by
  unfold dh_rests_j73_43
  refine J.mono (fun k => s_istore9 rfl (Nat.le_of_ble_eq_true rfl) (w_aload_n rfl rfl (w_iload_n rfl rfl (w_iload_n rfl rfl (w_iload rfl rfl (w_iload rfl rfl (w_iload rfl rfl k))))))) ?_
  refine J_c (fun p13 e12 => ?_)
  refine J_hyp (fun k => c_vi5 rfl (fun ho hM => cal_dh_bestOfBoy (by omega)  e12 ho hM) v_dh_bestOfBoy (Nat.le_of_ble_eq_true rfl) S_0 rfl (Nat.le_of_ble_eq_true rfl) k) (fun hr14 hb15 => ?_)
  refine J.mono (fun k => s_istore10 rfl (Nat.le_of_ble_eq_true rfl) (w_iload rfl rfl k)) ?_
  refine J_ite (fun hc16 => ?_) (fun hc16 => ?_)
  · refine J.mono (fun k => s_if_ne_f rfl hc16 (w_iload rfl rfl (w_goto rfl k))) ?_
    exact J.mono (fun k => w_forget (wk_k (wk_k (wk_k (wk_k (wk_d (wk_k (wk_k (wk_k (wk_k (wk_k (wk_k wk_0))))))))))) k) (J_dh_rests_j101_43 hd )
  · refine J.mono (fun k => s_if_ne_t rfl hc16 (w_iload rfl rfl k)) ?_
    exact J.mono (fun k => w_forget (wk_k (wk_k (wk_k (wk_k (wk_d (wk_k (wk_k (wk_k (wk_k (wk_k (wk_k wk_0))))))))))) k) (J_dh_rests_j101_43 hd )
set_option maxRecDepth 20000 in
set_option maxHeartbeats 4000000 in
theorem Jb_dh_rests_b43 {Δ : DT} {Γ : FT} {d : Nat} (hd : 6 ≤ d + 1) {x1 : Int} {x2 : Int} {x3 : Int}  {x4 : Int} {x5 : Int} {x6 : Int} {x7 : Int} {M : MEM} : J (dh_rests_b43 x1 x2 x3 x4 x5 x6 x7 M) (Sum.elim (HD_dh_rests_b43 Δ Γ d x1 x2 x3) (X_dh_rests_b43 Δ Γ d x1 x2 x3)) (WAt Δ Γ false m_dh_rests (d + 1) 43 [vR (0), vI (x1), vI (x2), vI (x3), vI (x4), vI (x5), vI (x6), vI (x7), vN, vN, vN] [] (NG, S0, M) 0 0) := by
  unfold dh_rests_b43
  refine J.mono (fun k => w_iload rfl rfl (w_iload_n rfl rfl k)) ?_
  refine J_ite (fun hc9 => ?_) (fun hc9 => ?_)
  · refine J.mono (fun k => s_icmp_ge_t rfl hc9 k) ?_
    exact J_some (fun k => w_forget (wk_k (wk_k (wk_k (wk_d (wk_k (wk_k (wk_k (wk_k (wk_d (wk_d (wk_d wk_0))))))))))) k)
  · refine J.mono (fun k => s_icmp_ge_f rfl hc9 (w_iload rfl rfl (w_iconst rfl (inR_c rfl) k))) ?_
    refine J_ite (fun hc10 => ?_) (fun hc10 => ?_)
    · refine J.mono (fun k => s_icmp_ge_t rfl hc10 k) ?_
      exact J_some (fun k => w_forget (wk_k (wk_k (wk_k (wk_d (wk_k (wk_k (wk_k (wk_k (wk_d (wk_d (wk_d wk_0))))))))))) k)
    · refine J.mono (fun k => s_icmp_ge_f rfl hc10 (w_iload rfl rfl (w_iconst rfl (inR_c rfl) (w_irem rfl (by decide) (s_istore8 rfl (Nat.le_of_ble_eq_true rfl) (w_iload rfl rfl k)))))) ?_
      refine J_ite (fun hc11 => ?_) (fun hc11 => ?_)
      · refine J.mono (fun k => s_if_ne_f rfl hc11 (w_iload rfl rfl (w_goto rfl k))) ?_
        exact J.mono (fun k => w_forget (wk_k (wk_k (wk_k (wk_k (wk_k (wk_k (wk_k (wk_k (wk_k (wk_d (wk_d wk_0))))))))))) k) (J_dh_rests_j73_43 hd )
      · refine J.mono (fun k => s_if_ne_t rfl hc11 (w_iload rfl rfl k)) ?_
        exact J.mono (fun k => w_forget (wk_k (wk_k (wk_k (wk_k (wk_k (wk_k (wk_k (wk_k (wk_k (wk_d (wk_d wk_0))))))))))) k) (J_dh_rests_j73_43 hd )
set_option maxRecDepth 20000 in
set_option maxHeartbeats 4000000 in
theorem Jl_dh_rests_b43 {Δ : DT} {Γ : FT} {d : Nat} (hd : 6 ≤ d + 1) {x1 : Int} {x2 : Int} {x3 : Int}   : ∀ (n : Nat) (s : Int × Int × Int × Int × MEM), J (iter (fun s => dh_rests_b43 x1 x2 x3 s.1 s.2.1 s.2.2.1 s.2.2.2.1 s.2.2.2.2) n s) (X_dh_rests_b43 Δ Γ d x1 x2 x3) (HD_dh_rests_b43 Δ Γ d x1 x2 x3 s) := J_iter (fun s => Jb_dh_rests_b43 hd )
set_option maxRecDepth 20000 in
set_option maxHeartbeats 4000000 in
theorem J_dh_rests_j157 {Δ : DT} {Γ : FT} {d : Nat} (hd : 6 ≤ d + 1) {x1 : Int} {x2 : Int} {x4 : Int} {x5 : Int} {x6 : Int} {s1 : Int}  {M : MEM} : J (dh_rests_j157 x1 x2 x4 x5 x6 s1 M) (K_IM Δ Γ m_dh_rests) (WAt Δ Γ false m_dh_rests (d + 1) 157 [vR (0), vI (x1), vI (x2), vN, vI (x4), vI (x5), vI (x6), vN, vN, vN, vN] [vI (s1), vR (0)] (NG, S0, M) 0 0) := by
  unfold dh_rests_j157
  refine J_c (fun M24 e23 => ?_)
  refine J.mono (fun k => c_vv1 rfl (fun ho hM => cal_dh_tell (by omega)  e23 ho hM) v_dh_tell (Nat.le_of_ble_eq_true rfl) S_0 rfl (Nat.le_of_ble_eq_true rfl) (w_aload_n rfl rfl (w_iload rfl rfl k))) ?_
  refine J_c (fun M26 e25 => ?_)
  refine J.mono (fun k => c_vv1 rfl (fun ho hM => cal_dh_tell (by omega)  e25 ho hM) v_dh_tell (Nat.le_of_ble_eq_true rfl) S_0 rfl (Nat.le_of_ble_eq_true rfl) (w_aload_n rfl rfl (w_iload rfl rfl k))) ?_
  refine J_c (fun M28 e27 => ?_)
  refine J.mono (fun k => c_vv1 rfl (fun ho hM => cal_dh_tell (by omega)  e27 ho hM) v_dh_tell (Nat.le_of_ble_eq_true rfl) S_0 rfl (Nat.le_of_ble_eq_true rfl) (w_aload_n rfl rfl (w_aload_n rfl rfl (w_iload_n rfl rfl (w_iload_n rfl rfl (w_iload rfl rfl (w_iload rfl rfl k))))))) ?_
  refine J_c (fun p30 e29 => ?_)
  refine J_hyp (fun k => c_vi4 rfl (fun ho hM => cal_dh_hourOfBoys (by omega)  e29 ho hM) v_dh_hourOfBoys (Nat.le_of_ble_eq_true rfl) S_0 rfl (Nat.le_of_ble_eq_true rfl) k) (fun hr31 hb32 => ?_)
  refine J_c (fun M34 e33 => ?_)
  refine J.mono (fun k => c_vv1 rfl (fun ho hM => cal_dh_tell (by omega)  e33 ho hM) v_dh_tell (Nat.le_of_ble_eq_true rfl) S_0 rfl (Nat.le_of_ble_eq_true rfl) (w_iload rfl rfl k)) ?_
  exact J_some (fun k => w_ireturn rfl rfl k)
set_option maxRecDepth 20000 in
set_option maxHeartbeats 4000000 in
theorem J_dh_rests_j141 {Δ : DT} {Γ : FT} {d : Nat} (hd : 6 ≤ d + 1) {x1 : Int} {x2 : Int} {x4 : Int} {x5 : Int} {x6 : Int} {x7 : Int}  {M : MEM} : J (dh_rests_j141 x1 x2 x4 x5 x6 x7 M) (K_IM Δ Γ m_dh_rests) (WAt Δ Γ false m_dh_rests (d + 1) 141 [vR (0), vI (x1), vI (x2), vN, vI (x4), vI (x5), vI (x6), vI (x7), vN, vN, vN] [] (NG, S0, M) 0 0) := by
  unfold dh_rests_j141
  refine J.mono (fun k => w_aload_n rfl rfl k) ?_
  refine J_c (fun M21 e20 => ?_)
  refine J.mono (fun k => c_vv0 rfl (fun ho hM => cal_dh_newRow (by omega)  e20 ho hM) v_dh_newRow (Nat.le_of_ble_eq_true rfl) S_0 rfl (Nat.le_of_ble_eq_true rfl) (w_aload_n rfl rfl (w_iload rfl rfl (w_iconst rfl (inR_c rfl) k)))) ?_
  refine J_ite (fun hc22 => ?_) (fun hc22 => ?_)
  · refine J.mono (fun k => s_icmp_ne_f rfl hc22 (w_iconst rfl (inR_c rfl) (w_goto rfl k))) ?_
    exact J.mono (fun k => w_forget (wk_k (wk_k (wk_k (wk_d (wk_k (wk_k (wk_k (wk_d (wk_d (wk_d (wk_d wk_0))))))))))) k) (J_dh_rests_j157 hd )
  · refine J.mono (fun k => s_icmp_ne_t rfl hc22 (w_iconst rfl (inR_c rfl) k)) ?_
    exact J.mono (fun k => w_forget (wk_k (wk_k (wk_k (wk_d (wk_k (wk_k (wk_k (wk_d (wk_d (wk_d (wk_d wk_0))))))))))) k) (J_dh_rests_j157 hd )
set_option maxRecDepth 20000 in
set_option maxHeartbeats 4000000 in
theorem J_dh_rests {Δ : DT} {Γ : FT} {d : Nat} (hd : 6 ≤ d + 1) {x1 : Int} {x2 : Int} {x3 : Int}  {M : MEM} : J (dh_rests x1 x2 x3 M) (K_IM Δ Γ m_dh_rests) (WAt Δ Γ false m_dh_rests (d + 1) 0 [vR (0), vI (x1), vI (x2), vI (x3), vN, vN, vN, vN, vN, vN, vN] [] (NG, S0, M) 0 0) := by
  unfold dh_rests
  refine J.mono (fun k => w_aload_n rfl rfl (w_iload_n rfl rfl k)) ?_
  refine J_hyp (fun k => c_vi1 rfl (fun ho hM => cal_dh_isDonkey (by omega)   ho hM) v_dh_isDonkey (Nat.le_of_ble_eq_true rfl) S_0 rfl (Nat.le_of_ble_eq_true rfl) k) (fun hr2 hb3 => ?_)
  refine J_ite (fun hc4 => ?_) (fun hc4 => ?_)
  · refine J.mono (fun k => s_if_eq_t rfl hc4 (w_iconst rfl (inR_c rfl) k)) ?_
    exact J_some (fun k => w_ireturn rfl rfl k)
  · refine J.mono (fun k => s_if_eq_f rfl hc4 (w_iload_n rfl rfl (w_iconst rfl (inR_c rfl) k))) ?_
    refine J_ite (fun hc5 => ?_) (fun hc5 => ?_)
    · refine J.mono (fun k => s_icmp_lt_t rfl hc5 (w_iconst rfl (inR_c rfl) k)) ?_
      exact J_some (fun k => w_ireturn rfl rfl k)
    · refine J.mono (fun k => s_icmp_lt_f rfl hc5 (w_iload_n rfl rfl (w_bipush rfl (bip_c rfl) k))) ?_
      refine J_ite (fun hc6 => ?_) (fun hc6 => ?_)
      · refine J.mono (fun k => s_icmp_gt_t rfl hc6 (w_iconst rfl (inR_c rfl) k)) ?_
        exact J_some (fun k => w_ireturn rfl rfl k)
      · refine J.mono (fun k => s_icmp_gt_f rfl hc6 (w_iload_n rfl rfl k)) ?_
        refine J_ite (fun hc7 => ?_) (fun hc7 => ?_)
        · refine J.mono (fun k => s_if_lt_t rfl hc7 (w_iconst rfl (inR_c rfl) k)) ?_
          exact J_some (fun k => w_ireturn rfl rfl k)
        · refine J.mono (fun k => s_if_lt_f rfl hc7 (w_iload_n rfl rfl (w_bipush rfl (bip_c rfl) k))) ?_
          refine J_ite (fun hc8 => ?_) (fun hc8 => ?_)
          · refine J.mono (fun k => s_icmp_le_t rfl hc8 (w_iconst rfl (inR_c rfl) (s_istore4 rfl (Nat.le_of_ble_eq_true rfl) (w_iconst rfl (inR_c rfl) (s_istore5 rfl (Nat.le_of_ble_eq_true rfl) (w_iconst rfl (inR_c rfl) (s_istore6 rfl (Nat.le_of_ble_eq_true rfl) (w_iconst rfl (inR_c rfl) (s_istore7 rfl (Nat.le_of_ble_eq_true rfl) k))))))))) ?_
            refine J.mono (fun k => w_forget (wk_k (wk_k (wk_k (wk_k (wk_k (wk_k (wk_k (wk_k (wk_d (wk_d (wk_d wk_0))))))))))) k) ?_
            refine J_loop (Jl_dh_rests_b43 hd  _ _) (fun w19 => ?_)
            exact J.mono (fun k => w_forget (wk_k (wk_k (wk_k (wk_d (wk_k (wk_k (wk_k (wk_k (wk_d (wk_d (wk_d wk_0))))))))))) k) (J_dh_rests_j141 hd )
          · refine J.mono (fun k => s_icmp_le_f rfl hc8 (w_iconst rfl (inR_c rfl) k)) ?_
            exact J_some (fun k => w_ireturn rfl rfl k)
set_option maxRecDepth 20000 in
set_option maxHeartbeats 4000000 in
theorem cal_dh_rests {Δ : DT} {d : Nat} (hd : 6 ≤ d) {x1 : Int} {x2 : Int} {x3 : Int}  {M : MEM} {p : Int × MEM} (h : dh_rests x1 x2 x3 M = some p) (ho : okVs [vR 0, vI x1, vI x2, vI x3]) (hM : okM M) : Cal Δ false m_dh_rests d [vR 0, vI x1, vI x2, vI x3] (NG, S0, M) (some p.1) (NG, S0, p.2) 0 0 := by
  obtain ⟨d, rfl⟩ : ∃ e, d = e + 1 := ⟨d - 1, by omega⟩
  exact cal_of g_dh_rests p_dh_rests (fun v hv => by simp only [List.mem_cons, List.not_mem_nil, or_false] at hv; rcases hv with rfl | rfl | rfl | rfl <;> first | exact Or.inl ⟨_, rfl⟩ | exact Or.inr ⟨_, rfl⟩) ho hM (Nat.le_of_ble_eq_true rfl) (fun Γ _ k => J_dh_rests hd  _ h k)

