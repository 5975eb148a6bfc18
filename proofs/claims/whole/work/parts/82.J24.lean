set_option maxRecDepth 20000 in
set_option maxHeartbeats 4000000 in
theorem J_mo_isHeardWith {Δ : DT} {Γ : FT} {d : Nat} (hd : 77 ≤ d + 1) {x1 : Int} {x2 : Int} {x3 : Int}  {M : MEM} : J (mo_isHeardWith x1 x2 x3 M) (K_IM Δ Γ m_mo_isHeardWith) (WAt Δ Γ false m_mo_isHeardWith (d + 1) 0 [vR (278), vI (x1), vI (x2), vI (x3)] [] (NG, S0, M) 0 0) := by
  unfold mo_isHeardWith
  refine J.mono (fun k => w_aload_n rfl rfl k) ?_
  refine J_c (fun M2 e1 => ?_)
  refine J.mono (fun k => c_vv0 rfl (fun ho hM => cal_mo_beginThen (by omega)  e1 ho hM) v_mo_beginThen (Nat.le_of_ble_eq_true rfl) S_278 rfl (Nat.le_of_ble_eq_true rfl) (w_aload_n rfl rfl (w_getR (r := 292) rfl (Nat.le_of_ble_eq_true rfl) S_278 rfl (w_bipush rfl (bip_c rfl) (w_iload_n rfl rfl (w_imul rfl (w_iload_n rfl rfl k))))))) ?_
  refine J_chk (fun hi4 => ?_)
  refine J_b ?_
  refine J.mono (fun k => w_iast rfl A_292.1 A_292.2 hi4.1 hi4.2 rfl (w_aload_n rfl rfl (w_getR (r := 292) rfl (Nat.le_of_ble_eq_true rfl) S_278 rfl (w_bipush rfl (bip_c rfl) (w_iload_n rfl rfl (w_imul rfl (w_iconst rfl (inR_c rfl) (w_iadd rfl (w_iload_n rfl rfl k))))))))) ?_
  refine J_chk (fun hi6 => ?_)
  refine J_b ?_
  refine J.mono (fun k => w_iast rfl A_292.1 A_292.2 hi6.1 hi6.2 rfl (w_aload_n rfl rfl (w_iload_n rfl rfl k))) ?_
  refine J_c (fun M8 e7 => ?_)
  refine J.mono (fun k => c_vv1 rfl (fun ho hM => cal_mo_findTimes (by omega)  e7 ho hM) v_mo_findTimes (Nat.le_of_ble_eq_true rfl) S_278 rfl (Nat.le_of_ble_eq_true rfl) (w_aload_n rfl rfl (w_iload_n rfl rfl k))) ?_
  refine J_c (fun r10 e9 => ?_)
  refine J_hyp (fun k => c_vi1 rfl (fun ho hM => cal_mo_isHeard (by omega)  e9 ho hM) v_mo_isHeard (Nat.le_of_ble_eq_true rfl) S_278 rfl (Nat.le_of_ble_eq_true rfl) k) (fun hr11 hb12 => ?_)
  exact J_some (fun k => w_zreturn rfl rfl (hb12 rfl) k)
set_option maxRecDepth 20000 in
set_option maxHeartbeats 4000000 in
theorem cal_mo_isHeardWith {Δ : DT} {d : Nat} (hd : 77 ≤ d) {x1 : Int} {x2 : Int} {x3 : Int}  {M : MEM} {p : Int × MEM} (h : mo_isHeardWith x1 x2 x3 M = some p) (ho : okVs [vR 278, vI x1, vI x2, vI x3]) (hM : okM M) : Cal Δ false m_mo_isHeardWith d [vR 278, vI x1, vI x2, vI x3] (NG, S0, M) (some p.1) (NG, S0, p.2) 0 0 := by
  obtain ⟨d, rfl⟩ : ∃ e, d = e + 1 := ⟨d - 1, by omega⟩
  exact cal_of g_mo_isHeardWith p_mo_isHeardWith (fun v hv => by simp only [List.mem_cons, List.not_mem_nil, or_false] at hv; rcases hv with rfl | rfl | rfl | rfl <;> first | exact Or.inl ⟨_, rfl⟩ | exact Or.inr ⟨_, rfl⟩) ho hM (Nat.le_of_ble_eq_true rfl) (fun Γ _ k => J_mo_isHeardWith hd  _ h k)
abbrev HD_mo_hungers_b22 (Δ : DT) (Γ : FT) (d : Nat) (x1 : Int) (x3 : Int) (s : Int × Int × MEM) : Prop := WAt Δ Γ false m_mo_hungers (d + 1) 22 [vR (278), vI (x1), vI (s.1), vI (x3), vI (s.2.1)] [] (NG, S0, s.2.2) 0 0
abbrev X_mo_hungers_b22 (Δ : DT) (Γ : FT) (d : Nat) (x1 : Int) (x3 : Int) (s : Int × Int × MEM) : Prop := WAt Δ Γ false m_mo_hungers (d + 1) 67 [vR (278), vI (x1), vI (s.1), vI (x3), vN] [] (NG, S0, s.2.2) 0 0
set_option maxRecDepth 20000 in
set_option maxHeartbeats 4000000 in
theorem J_mo_hungers_j59_22 {Δ : DT} {Γ : FT} {d : Nat} (hd : 78 ≤ d + 1) {x1 : Int} {x3 : Int} {x4 : Int} {s0 : Int} {s1 : Int}  {M : MEM} : J (mo_hungers_j59_22 x1 x3 x4 s0 s1 M) (Sum.elim (HD_mo_hungers_b22 Δ Γ d x1 x3) (X_mo_hungers_b22 Δ Γ d x1 x3)) (WAt Δ Γ false m_mo_hungers (d + 1) 59 [vR (278), vI (x1), vN, vI (x3), vI (x4)] [vI (s1), vI (s0)] (NG, S0, M) 0 0) := by
  unfold mo_hungers_j59_22
  refine J.mono (fun k => w_ior rfl (s_istore2 rfl (Nat.le_of_ble_eq_true rfl) (s_iinc4 rfl (Nat.le_of_ble_eq_true rfl) (w_goto rfl k)))) ?_
  exact J_some (fun k => w_forget (wk_k (wk_k (wk_k (wk_k (wk_k wk_0))))) k)
set_option maxRecDepth 20000 in
set_option maxHeartbeats 4000000 in
theorem Jb_mo_hungers_b22 {Δ : DT} {Γ : FT} {d : Nat} (hd : 78 ≤ d + 1) {x1 : Int} {x3 : Int}  {x2 : Int} {x4 : Int} {M : MEM} : J (mo_hungers_b22 x1 x3 x2 x4 M) (Sum.elim (HD_mo_hungers_b22 Δ Γ d x1 x3) (X_mo_hungers_b22 Δ Γ d x1 x3)) (WAt Δ Γ false m_mo_hungers (d + 1) 22 [vR (278), vI (x1), vI (x2), vI (x3), vI (x4)] [] (NG, S0, M) 0 0) := by
  unfold mo_hungers_b22
  refine J.mono (fun k => w_iload rfl rfl (w_bipush rfl (bip_c rfl) k)) ?_
  refine J_ite (fun hc6 => ?_) (fun hc6 => ?_)
  · refine J.mono (fun k => s_icmp_ge_t rfl hc6 k) ?_
    exact J_some (fun k => w_forget (wk_k (wk_k (wk_k (wk_k (wk_d wk_0))))) k)
  · refine J.mono (fun k => s_icmp_ge_f rfl hc6 (w_iload_n rfl rfl (w_aload_n rfl rfl (w_iload_n rfl rfl (w_iload rfl rfl (w_aload_n rfl rfl (w_getR (r := 279) rfl (Nat.le_of_ble_eq_true rfl) S_278 rfl (w_bipush rfl (bip_c rfl) (w_iload_n rfl rfl (w_imul rfl (w_iconst rfl (inR_c rfl) (w_iadd rfl k)))))))))))) ?_
    refine J_chk (fun hi7 => ?_)
    refine J.mono (fun k => w_iald rfl A_279.1 A_279.2 hi7.1 hi7.2 k) ?_
    refine J_c (fun p9 e8 => ?_)
    refine J_hyp (fun k => c_vi3 rfl (fun ho hM => cal_mo_isHeardWith (by omega)  e8 ho hM) v_mo_isHeardWith (Nat.le_of_ble_eq_true rfl) S_278 rfl (Nat.le_of_ble_eq_true rfl) k) (fun hr10 hb11 => ?_)
    refine J_ite (fun hc12 => ?_) (fun hc12 => ?_)
    · refine J.mono (fun k => s_if_eq_t rfl hc12 (w_iconst rfl (inR_c rfl) k)) ?_
      exact J.mono (fun k => w_forget (wk_k (wk_k (wk_d (wk_k (wk_k wk_0))))) k) (J_mo_hungers_j59_22 hd )
    · refine J.mono (fun k => s_if_eq_f rfl hc12 (w_iconst rfl (inR_c rfl) (w_iload rfl rfl (w_ishl rfl (w_goto rfl k))))) ?_
      exact J.mono (fun k => w_forget (wk_k (wk_k (wk_d (wk_k (wk_k wk_0))))) k) (J_mo_hungers_j59_22 hd )
set_option maxRecDepth 20000 in
set_option maxHeartbeats 4000000 in
theorem Jl_mo_hungers_b22 {Δ : DT} {Γ : FT} {d : Nat} (hd : 78 ≤ d + 1) {x1 : Int} {x3 : Int}   : ∀ (n : Nat) (s : Int × Int × MEM), J (iter (fun s => mo_hungers_b22 x1 x3 s.1 s.2.1 s.2.2) n s) (X_mo_hungers_b22 Δ Γ d x1 x3) (HD_mo_hungers_b22 Δ Γ d x1 x3 s) := J_iter (fun s => Jb_mo_hungers_b22 hd )
abbrev HD_mo_hungers_b70 (Δ : DT) (Γ : FT) (d : Nat) (x1 : Int) (x2 : Int) (s : Int × Int × MEM) : Prop := WAt Δ Γ false m_mo_hungers (d + 1) 70 [vR (278), vI (x1), vI (x2), vI (s.1), vI (s.2.1)] [] (NG, S0, s.2.2) 0 0
abbrev X_mo_hungers_b70 (Δ : DT) (Γ : FT) (d : Nat) (x1 : Int) (x2 : Int) (s : Int × Int × MEM) : Prop := WAt Δ Γ false m_mo_hungers (d + 1) 117 [vR (278), vN, vI (x2), vI (s.1), vN] [] (NG, S0, s.2.2) 0 0
set_option maxRecDepth 20000 in
set_option maxHeartbeats 4000000 in
theorem J_mo_hungers_j109_70 {Δ : DT} {Γ : FT} {d : Nat} (hd : 78 ≤ d + 1) {x1 : Int} {x2 : Int} {x4 : Int} {s0 : Int} {s1 : Int}  {M : MEM} : J (mo_hungers_j109_70 x1 x2 x4 s0 s1 M) (Sum.elim (HD_mo_hungers_b70 Δ Γ d x1 x2) (X_mo_hungers_b70 Δ Γ d x1 x2)) (WAt Δ Γ false m_mo_hungers (d + 1) 109 [vR (278), vI (x1), vI (x2), vN, vI (x4)] [vI (s1), vI (s0)] (NG, S0, M) 0 0) := by
  unfold mo_hungers_j109_70
  refine J.mono (fun k => w_ior rfl (s_istore3 rfl (Nat.le_of_ble_eq_true rfl) (s_iinc4 rfl (Nat.le_of_ble_eq_true rfl) (w_goto rfl k)))) ?_
  exact J_some (fun k => w_forget (wk_k (wk_k (wk_k (wk_k (wk_k wk_0))))) k)
set_option maxRecDepth 20000 in
set_option maxHeartbeats 4000000 in
theorem Jb_mo_hungers_b70 {Δ : DT} {Γ : FT} {d : Nat} (hd : 78 ≤ d + 1) {x1 : Int} {x2 : Int}  {x3 : Int} {x4 : Int} {M : MEM} : J (mo_hungers_b70 x1 x2 x3 x4 M) (Sum.elim (HD_mo_hungers_b70 Δ Γ d x1 x2) (X_mo_hungers_b70 Δ Γ d x1 x2)) (WAt Δ Γ false m_mo_hungers (d + 1) 70 [vR (278), vI (x1), vI (x2), vI (x3), vI (x4)] [] (NG, S0, M) 0 0) := by
  unfold mo_hungers_b70
  refine J.mono (fun k => w_iload rfl rfl (w_aload_n rfl rfl (w_getR (r := 280) rfl (Nat.le_of_ble_eq_true rfl) S_278 rfl (w_iload_n rfl rfl k)))) ?_
  refine J_chk (fun hi14 => ?_)
  refine J.mono (fun k => w_iald rfl A_280.1 A_280.2 hi14.1 hi14.2 k) ?_
  refine J_ite (fun hc15 => ?_) (fun hc15 => ?_)
  · refine J.mono (fun k => s_icmp_ge_t rfl hc15 k) ?_
    exact J_some (fun k => w_forget (wk_k (wk_d (wk_k (wk_k (wk_d wk_0))))) k)
  · refine J.mono (fun k => s_icmp_ge_f rfl hc15 (w_iload_n rfl rfl (w_aload_n rfl rfl (w_iload_n rfl rfl (w_aload_n rfl rfl (w_getR (r := 279) rfl (Nat.le_of_ble_eq_true rfl) S_278 rfl (w_bipush rfl (bip_c rfl) (w_iload_n rfl rfl (w_imul rfl k))))))))) ?_
    refine J_chk (fun hi16 => ?_)
    refine J.mono (fun k => w_iald rfl A_279.1 A_279.2 hi16.1 hi16.2 (w_iload rfl rfl k)) ?_
    refine J_c (fun p18 e17 => ?_)
    refine J_hyp (fun k => c_vi3 rfl (fun ho hM => cal_mo_isHeardWith (by omega)  e17 ho hM) v_mo_isHeardWith (Nat.le_of_ble_eq_true rfl) S_278 rfl (Nat.le_of_ble_eq_true rfl) k) (fun hr19 hb20 => ?_)
    refine J_ite (fun hc21 => ?_) (fun hc21 => ?_)
    · refine J.mono (fun k => s_if_eq_t rfl hc21 (w_iconst rfl (inR_c rfl) k)) ?_
      exact J.mono (fun k => w_forget (wk_k (wk_k (wk_k (wk_d (wk_k wk_0))))) k) (J_mo_hungers_j109_70 hd )
    · refine J.mono (fun k => s_if_eq_f rfl hc21 (w_iconst rfl (inR_c rfl) (w_iload rfl rfl (w_ishl rfl (w_goto rfl k))))) ?_
      exact J.mono (fun k => w_forget (wk_k (wk_k (wk_k (wk_d (wk_k wk_0))))) k) (J_mo_hungers_j109_70 hd )
set_option maxRecDepth 20000 in
set_option maxHeartbeats 4000000 in
theorem Jl_mo_hungers_b70 {Δ : DT} {Γ : FT} {d : Nat} (hd : 78 ≤ d + 1) {x1 : Int} {x2 : Int}   : ∀ (n : Nat) (s : Int × Int × MEM), J (iter (fun s => mo_hungers_b70 x1 x2 s.1 s.2.1 s.2.2) n s) (X_mo_hungers_b70 Δ Γ d x1 x2) (HD_mo_hungers_b70 Δ Γ d x1 x2 s) := J_iter (fun s => Jb_mo_hungers_b70 hd )
set_option maxRecDepth 20000 in
set_option maxHeartbeats 4000000 in
theorem J_mo_hungers {Δ : DT} {Γ : FT} {d : Nat} (hd : 78 ≤ d + 1) {x1 : Int}  {M : MEM} : J (mo_hungers x1 M) (K_IM Δ Γ m_mo_hungers) (WAt Δ Γ false m_mo_hungers (d + 1) 0 [vR (278), vI (x1), vN, vN, vN] [] (NG, S0, M) 0 0) := by
  unfold mo_hungers
  refine J.mono (fun k => w_aload_n rfl rfl (w_iconst rfl (inR_c rfl) k)) ?_
  refine J_b ?_
  refine J.mono (fun k => w_putI rfl (Nat.le_of_ble_eq_true rfl) S_278 rfl rfl (w_aload_n rfl rfl (w_iload_n rfl rfl k))) ?_
  refine J_hyp (fun k => c_vi1 rfl (fun ho hM => cal_mo_isDonkey (by omega)   ho hM) v_mo_isDonkey (Nat.le_of_ble_eq_true rfl) S_278 rfl (Nat.le_of_ble_eq_true rfl) k) (fun hr3 hb4 => ?_)
  refine J_ite (fun hc5 => ?_) (fun hc5 => ?_)
  · refine J.mono (fun k => s_if_ne_f rfl hc5 (w_iconst rfl (inR_c rfl) k)) ?_
    exact J_some (fun k => w_ireturn rfl rfl k)
  · refine J.mono (fun k => s_if_ne_t rfl hc5 (w_iconst rfl (inR_c rfl) (s_istore2 rfl (Nat.le_of_ble_eq_true rfl) (w_iconst rfl (inR_c rfl) (s_istore3 rfl (Nat.le_of_ble_eq_true rfl) (w_iconst rfl (inR_c rfl) (s_istore4 rfl (Nat.le_of_ble_eq_true rfl) k))))))) ?_
    refine J.mono (fun k => w_forget (wk_k (wk_k (wk_k (wk_k (wk_k wk_0))))) k) ?_
    refine J_loop (Jl_mo_hungers_b22 hd  _ _) (fun w13 => ?_)
    refine J.mono (fun k => w_iconst rfl (inR_c rfl) (s_istore4 rfl (Nat.le_of_ble_eq_true rfl) k)) ?_
    refine J.mono (fun k => w_forget (wk_k (wk_k (wk_k (wk_k (wk_k wk_0))))) k) ?_
    refine J_loop (Jl_mo_hungers_b70 hd  _ _) (fun w22 => ?_)
    refine J.mono (fun k => w_aload_n rfl rfl (w_iconst rfl (inR_c rfl) k)) ?_
    refine J_b ?_
    refine J.mono (fun k => w_putI rfl (Nat.le_of_ble_eq_true rfl) S_278 rfl rfl (w_aload_n rfl rfl (w_iload_n rfl rfl k))) ?_
    refine J_c (fun M25 e24 => ?_)
    refine J.mono (fun k => c_vv1 rfl (fun ho hM => cal_mo_tell (by omega)  e24 ho hM) v_mo_tell (Nat.le_of_ble_eq_true rfl) S_278 rfl (Nat.le_of_ble_eq_true rfl) (w_iload_n rfl rfl k)) ?_
    exact J_some (fun k => w_ireturn rfl rfl k)
set_option maxRecDepth 20000 in
set_option maxHeartbeats 4000000 in
theorem cal_mo_hungers {Δ : DT} {d : Nat} (hd : 78 ≤ d) {x1 : Int}  {M : MEM} {p : Int × MEM} (h : mo_hungers x1 M = some p) (ho : okVs [vR 278, vI x1]) (hM : okM M) : Cal Δ false m_mo_hungers d [vR 278, vI x1] (NG, S0, M) (some p.1) (NG, S0, p.2) 0 0 := by
  obtain ⟨d, rfl⟩ : ∃ e, d = e + 1 := ⟨d - 1, by omega⟩
  exact cal_of g_mo_hungers p_mo_hungers (fun v hv => by simp only [List.mem_cons, List.not_mem_nil, or_false] at hv; rcases hv with rfl | rfl <;> first | exact Or.inl ⟨_, rfl⟩ | exact Or.inr ⟨_, rfl⟩) ho hM (Nat.le_of_ble_eq_true rfl) (fun Γ _ k => J_mo_hungers hd  _ h k)
abbrev HD_mo_ways_b22 (Δ : DT) (Γ : FT) (d : Nat) (x1 : Int) (s : Int × Int × Int × MEM) : Prop := WAt Δ Γ false m_mo_ways (d + 1) 22 [vR (278), vI (x1), vI (s.1), vI (s.2.1), vI (s.2.2.1), vN] [] (NG, S0, s.2.2.2) 0 0
abbrev X_mo_ways_b22 (Δ : DT) (Γ : FT) (d : Nat) (x1 : Int) (s : Int × Int × Int × MEM) : Prop := WAt Δ Γ false m_mo_ways (d + 1) 86 [vR (278), vN, vI (s.1), vI (s.2.1), vN, vN] [] (NG, S0, s.2.2.2) 0 0
abbrev HD_mo_ways_b32 (Δ : DT) (Γ : FT) (d : Nat) (x1 : Int) (x4 : Int) (s : Int × Int × Int × MEM) : Prop := WAt Δ Γ false m_mo_ways (d + 1) 32 [vR (278), vI (x1), vI (s.1), vI (s.2.1), vI (x4), vI (s.2.2.1)] [] (NG, S0, s.2.2.2) 0 0
abbrev X_mo_ways_b32 (Δ : DT) (Γ : FT) (d : Nat) (x1 : Int) (x4 : Int) (s : Int × Int × Int × MEM) : Prop := WAt Δ Γ false m_mo_ways (d + 1) 80 [vR (278), vI (x1), vI (s.1), vI (s.2.1), vI (x4), vN] [] (NG, S0, s.2.2.2) 0 0
set_option maxRecDepth 20000 in
set_option maxHeartbeats 4000000 in
theorem J_mo_ways_j74_32 {Δ : DT} {Γ : FT} {d : Nat} (hd : 78 ≤ d + 1) {x1 : Int} {x2 : Int} {x3 : Int} {x4 : Int} {x5 : Int}  {M : MEM} : J (mo_ways_j74_32 x1 x2 x3 x4 x5 M) (Sum.elim (HD_mo_ways_b32 Δ Γ d x1 x4) (X_mo_ways_b32 Δ Γ d x1 x4)) (WAt Δ Γ false m_mo_ways (d + 1) 74 [vR (278), vI (x1), vI (x2), vI (x3), vI (x4), vI (x5)] [] (NG, S0, M) 0 0) := by
  unfold mo_ways_j74_32
  refine J.mono (fun k => s_iinc5 rfl (Nat.le_of_ble_eq_true rfl) (w_goto rfl k)) ?_
  exact J_some (fun k => w_forget (wk_k (wk_k (wk_k (wk_k (wk_k (wk_k wk_0)))))) k)
set_option maxRecDepth 20000 in
set_option maxHeartbeats 4000000 in
theorem J_mo_ways_j71_32 {Δ : DT} {Γ : FT} {d : Nat} (hd : 78 ≤ d + 1) {x1 : Int} {x2 : Int} {x3 : Int} {x4 : Int} {x5 : Int}  {M : MEM} : J (mo_ways_j71_32 x1 x2 x3 x4 x5 M) (Sum.elim (HD_mo_ways_b32 Δ Γ d x1 x4) (X_mo_ways_b32 Δ Γ d x1 x4)) (WAt Δ Γ false m_mo_ways (d + 1) 71 [vR (278), vI (x1), vI (x2), vI (x3), vI (x4), vI (x5)] [] (NG, S0, M) 0 0) := by
  unfold mo_ways_j71_32
  refine J.mono (fun k => s_iinc2 rfl (Nat.le_of_ble_eq_true rfl) k) ?_
  exact J.mono (fun k => w_forget (wk_k (wk_k (wk_k (wk_k (wk_k (wk_k wk_0)))))) k) (J_mo_ways_j74_32 hd )
set_option maxRecDepth 20000 in
set_option maxHeartbeats 4000000 in
theorem Jb_mo_ways_b32 {Δ : DT} {Γ : FT} {d : Nat} (hd : 78 ≤ d + 1) {x1 : Int} {x4 : Int}  {x2 : Int} {x3 : Int} {x5 : Int} {M : MEM} : J (mo_ways_b32 x1 x4 x2 x3 x5 M) (Sum.elim (HD_mo_ways_b32 Δ Γ d x1 x4) (X_mo_ways_b32 Δ Γ d x1 x4)) (WAt Δ Γ false m_mo_ways (d + 1) 32 [vR (278), vI (x1), vI (x2), vI (x3), vI (x4), vI (x5)] [] (NG, S0, M) 0 0) := by
  unfold mo_ways_b32
  refine J.mono (fun k => w_iload rfl rfl (w_aload_n rfl rfl (w_getR (r := 280) rfl (Nat.le_of_ble_eq_true rfl) S_278 rfl (w_iload_n rfl rfl k)))) ?_
  refine J_chk (fun hi7 => ?_)
  refine J.mono (fun k => w_iald rfl A_280.1 A_280.2 hi7.1 hi7.2 k) ?_
  refine J_ite (fun hc8 => ?_) (fun hc8 => ?_)
  · refine J.mono (fun k => s_icmp_ge_t rfl hc8 k) ?_
    exact J_some (fun k => w_forget (wk_k (wk_k (wk_k (wk_k (wk_k (wk_d wk_0)))))) k)
  · refine J.mono (fun k => s_icmp_ge_f rfl hc8 (w_aload_n rfl rfl (w_iload_n rfl rfl (w_iload rfl rfl (w_iload rfl rfl k))))) ?_
    refine J_c (fun p10 e9 => ?_)
    refine J_hyp (fun k => c_vi3 rfl (fun ho hM => cal_mo_isHeardWith (by omega)  e9 ho hM) v_mo_isHeardWith (Nat.le_of_ble_eq_true rfl) S_278 rfl (Nat.le_of_ble_eq_true rfl) k) (fun hr11 hb12 => ?_)
    refine J_ite (fun hc13 => ?_) (fun hc13 => ?_)
    · refine J.mono (fun k => s_if_ne_f rfl hc13 (w_goto rfl k)) ?_
      exact J.mono (fun k => w_forget (wk_k (wk_k (wk_k (wk_k (wk_k (wk_k wk_0)))))) k) (J_mo_ways_j74_32 hd )
    · refine J.mono (fun k => s_if_ne_t rfl hc13 (w_iload_n rfl rfl k)) ?_
      refine J_ite (fun hc14 => ?_) (fun hc14 => ?_)
      · refine J.mono (fun k => s_if_ne_f rfl hc14 (w_bipush rfl (bip_c rfl) (w_iload rfl rfl (w_imul rfl (w_iload rfl rfl (w_iadd rfl (s_istore3 rfl (Nat.le_of_ble_eq_true rfl) k))))))) ?_
        exact J.mono (fun k => w_forget (wk_k (wk_k (wk_k (wk_k (wk_k (wk_k wk_0)))))) k) (J_mo_ways_j71_32 hd )
      · refine J.mono (fun k => s_if_ne_t rfl hc14 k) ?_
        exact J.mono (fun k => w_forget (wk_k (wk_k (wk_k (wk_k (wk_k (wk_k wk_0)))))) k) (J_mo_ways_j71_32 hd )
set_option maxRecDepth 20000 in
set_option maxHeartbeats 4000000 in
theorem Jl_mo_ways_b32 {Δ : DT} {Γ : FT} {d : Nat} (hd : 78 ≤ d + 1) {x1 : Int} {x4 : Int}   : ∀ (n : Nat) (s : Int × Int × Int × MEM), J (iter (fun s => mo_ways_b32 x1 x4 s.1 s.2.1 s.2.2.1 s.2.2.2) n s) (X_mo_ways_b32 Δ Γ d x1 x4) (HD_mo_ways_b32 Δ Γ d x1 x4 s) := J_iter (fun s => Jb_mo_ways_b32 hd )
set_option maxRecDepth 20000 in
set_option maxHeartbeats 4000000 in
theorem Jb_mo_ways_b22 {Δ : DT} {Γ : FT} {d : Nat} (hd : 78 ≤ d + 1) {x1 : Int}  {x2 : Int} {x3 : Int} {x4 : Int} {M : MEM} : J (mo_ways_b22 x1 x2 x3 x4 M) (Sum.elim (HD_mo_ways_b22 Δ Γ d x1) (X_mo_ways_b22 Δ Γ d x1)) (WAt Δ Γ false m_mo_ways (d + 1) 22 [vR (278), vI (x1), vI (x2), vI (x3), vI (x4), vN] [] (NG, S0, M) 0 0) := by
  unfold mo_ways_b22
  refine J.mono (fun k => w_iload rfl rfl (w_bipush rfl (bip_c rfl) k)) ?_
  refine J_ite (fun hc6 => ?_) (fun hc6 => ?_)
  · refine J.mono (fun k => s_icmp_ge_t rfl hc6 k) ?_
    exact J_some (fun k => w_forget (wk_k (wk_d (wk_k (wk_k (wk_d (wk_d wk_0)))))) k)
  · refine J.mono (fun k => s_icmp_ge_f rfl hc6 (w_iconst rfl (inR_c rfl) (s_istore5 rfl (Nat.le_of_ble_eq_true rfl) k))) ?_
    refine J.mono (fun k => w_forget (wk_k (wk_k (wk_k (wk_k (wk_k (wk_k wk_0)))))) k) ?_
    refine J_loop (Jl_mo_ways_b32 hd  _ _) (fun w15 => ?_)
    refine J.mono (fun k => s_iinc4 rfl (Nat.le_of_ble_eq_true rfl) (w_goto rfl k)) ?_
    exact J_some (fun k => w_forget (wk_k (wk_k (wk_k (wk_k (wk_k (wk_d wk_0)))))) k)
set_option maxRecDepth 20000 in
set_option maxHeartbeats 4000000 in
theorem Jl_mo_ways_b22 {Δ : DT} {Γ : FT} {d : Nat} (hd : 78 ≤ d + 1) {x1 : Int}   : ∀ (n : Nat) (s : Int × Int × Int × MEM), J (iter (fun s => mo_ways_b22 x1 s.1 s.2.1 s.2.2.1 s.2.2.2) n s) (X_mo_ways_b22 Δ Γ d x1) (HD_mo_ways_b22 Δ Γ d x1 s) := J_iter (fun s => Jb_mo_ways_b22 hd )
set_option maxRecDepth 20000 in
set_option maxHeartbeats 4000000 in
theorem J_mo_ways {Δ : DT} {Γ : FT} {d : Nat} (hd : 78 ≤ d + 1) {x1 : Int}  {M : MEM} : J (mo_ways x1 M) (K_IM Δ Γ m_mo_ways) (WAt Δ Γ false m_mo_ways (d + 1) 0 [vR (278), vI (x1), vN, vN, vN, vN] [] (NG, S0, M) 0 0) := by
  unfold mo_ways
  refine J.mono (fun k => w_aload_n rfl rfl (w_iconst rfl (inR_c rfl) k)) ?_
  refine J_b ?_
  refine J.mono (fun k => w_putI rfl (Nat.le_of_ble_eq_true rfl) S_278 rfl rfl (w_aload_n rfl rfl (w_iload_n rfl rfl k))) ?_
  refine J_hyp (fun k => c_vi1 rfl (fun ho hM => cal_mo_isDonkey (by omega)   ho hM) v_mo_isDonkey (Nat.le_of_ble_eq_true rfl) S_278 rfl (Nat.le_of_ble_eq_true rfl) k) (fun hr3 hb4 => ?_)
  refine J_ite (fun hc5 => ?_) (fun hc5 => ?_)
  · refine J.mono (fun k => s_if_ne_f rfl hc5 (w_iconst rfl (inR_c rfl) k)) ?_
    exact J_some (fun k => w_ireturn rfl rfl k)
  · refine J.mono (fun k => s_if_ne_t rfl hc5 (w_iconst rfl (inR_c rfl) (s_istore2 rfl (Nat.le_of_ble_eq_true rfl) (w_iconst rfl (inR_c rfl) (s_istore3 rfl (Nat.le_of_ble_eq_true rfl) (w_iconst rfl (inR_c rfl) (s_istore4 rfl (Nat.le_of_ble_eq_true rfl) k))))))) ?_
    refine J.mono (fun k => w_forget (wk_k (wk_k (wk_k (wk_k (wk_k (wk_d wk_0)))))) k) ?_
    refine J_loop (Jl_mo_ways_b22 hd  _ _) (fun w16 => ?_)
    refine J.mono (fun k => w_aload_n rfl rfl (w_iconst rfl (inR_c rfl) k)) ?_
    refine J_b ?_
    refine J.mono (fun k => w_putI rfl (Nat.le_of_ble_eq_true rfl) S_278 rfl rfl (w_iload_n rfl rfl k)) ?_
    refine J_ite (fun hc18 => ?_) (fun hc18 => ?_)
    · refine J.mono (fun k => s_if_le_t rfl hc18 (w_iload_n rfl rfl k)) ?_
      exact J_some (fun k => w_ireturn rfl rfl k)
    · refine J.mono (fun k => s_if_le_f rfl hc18 (w_aload_n rfl rfl (w_iload_n rfl rfl (w_bipush rfl (bip_c rfl) (w_idiv rfl (by decide) k))))) ?_
      refine J_c (fun M20 e19 => ?_)
      refine J.mono (fun k => c_vv1 rfl (fun ho hM => cal_mo_tell (by omega)  e19 ho hM) v_mo_tell (Nat.le_of_ble_eq_true rfl) S_278 rfl (Nat.le_of_ble_eq_true rfl) (w_aload_n rfl rfl (w_iload_n rfl rfl (w_bipush rfl (bip_c rfl) (w_irem rfl (by decide) k))))) ?_
      refine J_c (fun M22 e21 => ?_)
      refine J.mono (fun k => c_vv1 rfl (fun ho hM => cal_mo_tell (by omega)  e21 ho hM) v_mo_tell (Nat.le_of_ble_eq_true rfl) S_278 rfl (Nat.le_of_ble_eq_true rfl) (w_iload_n rfl rfl k)) ?_
      exact J_some (fun k => w_ireturn rfl rfl k)
set_option maxRecDepth 20000 in
set_option maxHeartbeats 4000000 in
theorem cal_mo_ways {Δ : DT} {d : Nat} (hd : 78 ≤ d) {x1 : Int}  {M : MEM} {p : Int × MEM} (h : mo_ways x1 M = some p) (ho : okVs [vR 278, vI x1]) (hM : okM M) : Cal Δ false m_mo_ways d [vR 278, vI x1] (NG, S0, M) (some p.1) (NG, S0, p.2) 0 0 := by
  obtain ⟨d, rfl⟩ : ∃ e, d = e + 1 := ⟨d - 1, by omega⟩
  exact cal_of g_mo_ways p_mo_ways (fun v hv => by simp only [List.mem_cons, List.not_mem_nil, or_false] at hv; rcases hv with rfl | rfl <;> first | exact Or.inl ⟨_, rfl⟩ | exact Or.inr ⟨_, rfl⟩) ho hM (Nat.le_of_ble_eq_true rfl) (fun Γ _ k => J_mo_ways hd  _ h k)
abbrev HD_mo_swarms_b9 (Δ : DT) (Γ : FT) (d : Nat)  (s : Int × Int × MEM) : Prop := WAt Δ Γ false m_mo_swarms (d + 1) 9 [vR (278), vI (s.1), vI (s.2.1), vN, vN] [] (NG, S0, s.2.2) 0 0
abbrev X_mo_swarms_b9 (Δ : DT) (Γ : FT) (d : Nat)  (s : Int × Int × MEM) : Prop := WAt Δ Γ false m_mo_swarms (d + 1) 77 [vR (278), vI (s.1), vN, vN, vN] [] (NG, S0, s.2.2) 0 0
abbrev HD_mo_swarms_b25 (Δ : DT) (Γ : FT) (d : Nat) (x1 : Int) (x2 : Int) (s : Int × Int × MEM) : Prop := WAt Δ Γ false m_mo_swarms (d + 1) 25 [vR (278), vI (x1), vI (x2), vI (s.1), vI (s.2.1)] [] (NG, S0, s.2.2) 0 0
abbrev X_mo_swarms_b25 (Δ : DT) (Γ : FT) (d : Nat) (x1 : Int) (x2 : Int) (s : Int × Int × MEM) : Prop := WAt Δ Γ false m_mo_swarms (d + 1) 57 [vR (278), vI (x1), vI (x2), vI (s.1), vN] [] (NG, S0, s.2.2) 0 0
set_option maxRecDepth 20000 in
set_option maxHeartbeats 4000000 in
theorem Jb_mo_swarms_b25 {Δ : DT} {Γ : FT} {d : Nat} (hd : 78 ≤ d + 1) {x1 : Int} {x2 : Int}  {x3 : Int} {x4 : Int} {M : MEM} : J (mo_swarms_b25 x1 x2 x3 x4 M) (Sum.elim (HD_mo_swarms_b25 Δ Γ d x1 x2) (X_mo_swarms_b25 Δ Γ d x1 x2)) (WAt Δ Γ false m_mo_swarms (d + 1) 25 [vR (278), vI (x1), vI (x2), vI (x3), vI (x4)] [] (NG, S0, M) 0 0) := by
  unfold mo_swarms_b25
  refine J.mono (fun k => w_iload rfl rfl (w_aload_n rfl rfl (w_getI rfl (Nat.le_of_ble_eq_true rfl) S_278 rfl k))) ?_
  refine J_ite (fun hc4 => ?_) (fun hc4 => ?_)
  · refine J.mono (fun k => s_icmp_ge_t rfl hc4 k) ?_
    exact J_some (fun k => w_forget (wk_k (wk_k (wk_k (wk_k (wk_d wk_0))))) k)
  · refine J.mono (fun k => s_icmp_ge_f rfl hc4 (w_iload_n rfl rfl k)) ?_
    refine J_ite (fun hc5 => ?_) (fun hc5 => ?_)
    · refine J.mono (fun k => s_if_eq_t rfl hc5 k) ?_
      exact J_some (fun k => w_forget (wk_k (wk_k (wk_k (wk_k (wk_d wk_0))))) k)
    · refine J.mono (fun k => s_if_eq_f rfl hc5 (w_aload_n rfl rfl (w_iload rfl rfl k))) ?_
      refine J_c (fun M7 e6 => ?_)
      refine J.mono (fun k => c_vv1 rfl (fun ho hM => cal_mo_timesNow (by omega)  e6 ho hM) v_mo_timesNow (Nat.le_of_ble_eq_true rfl) S_278 rfl (Nat.le_of_ble_eq_true rfl) (w_aload_n rfl rfl (w_iload rfl rfl k))) ?_
      refine J_c (fun r9 e8 => ?_)
      refine J_hyp (fun k => c_vi1 rfl (fun ho hM => cal_mo_isHeard (by omega)  e8 ho hM) v_mo_isHeard (Nat.le_of_ble_eq_true rfl) S_278 rfl (Nat.le_of_ble_eq_true rfl) k) (fun hr10 hb11 => ?_)
      refine J.mono (fun k => s_istore3 rfl (Nat.le_of_ble_eq_true rfl) (s_iinc4 rfl (Nat.le_of_ble_eq_true rfl) (w_goto rfl k))) ?_
      exact J_some (fun k => w_forget (wk_k (wk_k (wk_k (wk_k (wk_k wk_0))))) k)
set_option maxRecDepth 20000 in
set_option maxHeartbeats 4000000 in
theorem Jl_mo_swarms_b25 {Δ : DT} {Γ : FT} {d : Nat} (hd : 78 ≤ d + 1) {x1 : Int} {x2 : Int}   : ∀ (n : Nat) (s : Int × Int × MEM), J (iter (fun s => mo_swarms_b25 x1 x2 s.1 s.2.1 s.2.2) n s) (X_mo_swarms_b25 Δ Γ d x1 x2) (HD_mo_swarms_b25 Δ Γ d x1 x2 s) := J_iter (fun s => Jb_mo_swarms_b25 hd )
set_option maxRecDepth 20000 in
set_option maxHeartbeats 4000000 in
theorem J_mo_swarms_j69_9 {Δ : DT} {Γ : FT} {d : Nat} (hd : 78 ≤ d + 1) {x2 : Int} {s0 : Int} {s1 : Int}  {M : MEM} : J (mo_swarms_j69_9 x2 s0 s1 M) (Sum.elim (HD_mo_swarms_b9 Δ Γ d ) (X_mo_swarms_b9 Δ Γ d )) (WAt Δ Γ false m_mo_swarms (d + 1) 69 [vR (278), vN, vI (x2), vN, vN] [vI (s1), vI (s0)] (NG, S0, M) 0 0) := by
  unfold mo_swarms_j69_9
  refine J.mono (fun k => w_ior rfl (s_istore1 rfl (Nat.le_of_ble_eq_true rfl) (s_iinc2 rfl (Nat.le_of_ble_eq_true rfl) (w_goto rfl k)))) ?_
  exact J_some (fun k => w_forget (wk_k (wk_k (wk_k (wk_d (wk_d wk_0))))) k)
set_option maxRecDepth 20000 in
set_option maxHeartbeats 4000000 in
theorem J_mo_swarms_j57_9 {Δ : DT} {Γ : FT} {d : Nat} (hd : 78 ≤ d + 1) {x1 : Int} {x2 : Int} {x3 : Int}  {M : MEM} : J (mo_swarms_j57_9 x1 x2 x3 M) (Sum.elim (HD_mo_swarms_b9 Δ Γ d ) (X_mo_swarms_b9 Δ Γ d )) (WAt Δ Γ false m_mo_swarms (d + 1) 57 [vR (278), vI (x1), vI (x2), vI (x3), vN] [] (NG, S0, M) 0 0) := by
  unfold mo_swarms_j57_9
  refine J.mono (fun k => w_iload_n rfl rfl (w_iload_n rfl rfl k)) ?_
  refine J_ite (fun hc13 => ?_) (fun hc13 => ?_)
  · refine J.mono (fun k => s_if_eq_t rfl hc13 (w_iconst rfl (inR_c rfl) k)) ?_
    exact J.mono (fun k => w_forget (wk_k (wk_d (wk_k (wk_d (wk_d wk_0))))) k) (J_mo_swarms_j69_9 hd )
  · refine J.mono (fun k => s_if_eq_f rfl hc13 (w_iconst rfl (inR_c rfl) (w_iload_n rfl rfl (w_ishl rfl (w_goto rfl k))))) ?_
    exact J.mono (fun k => w_forget (wk_k (wk_d (wk_k (wk_d (wk_d wk_0))))) k) (J_mo_swarms_j69_9 hd )
set_option maxRecDepth 20000 in
set_option maxHeartbeats 4000000 in
theorem Jb_mo_swarms_b9 {Δ : DT} {Γ : FT} {d : Nat} (hd : 78 ≤ d + 1)   {x1 : Int} {x2 : Int} {M : MEM} : J (mo_swarms_b9  x1 x2 M) (Sum.elim (HD_mo_swarms_b9 Δ Γ d ) (X_mo_swarms_b9 Δ Γ d )) (WAt Δ Γ false m_mo_swarms (d + 1) 9 [vR (278), vI (x1), vI (x2), vN, vN] [] (NG, S0, M) 0 0) := by
  unfold mo_swarms_b9
  refine J.mono (fun k => w_iload_n rfl rfl (w_bipush rfl (bip_c rfl) k)) ?_
  refine J_ite (fun hc2 => ?_) (fun hc2 => ?_)
  · refine J.mono (fun k => s_icmp_ge_t rfl hc2 k) ?_
    exact J_some (fun k => w_forget (wk_k (wk_k (wk_d (wk_d (wk_d wk_0))))) k)
  · refine J.mono (fun k => s_icmp_ge_f rfl hc2 (w_aload_n rfl rfl (w_iload_n rfl rfl k))) ?_
    refine J_b ?_
    refine J.mono (fun k => w_putI rfl (Nat.le_of_ble_eq_true rfl) S_278 rfl rfl (w_iconst rfl (inR_c rfl) (s_istore3 rfl (Nat.le_of_ble_eq_true rfl) (w_iconst rfl (inR_c rfl) (s_istore4 rfl (Nat.le_of_ble_eq_true rfl) k))))) ?_
    refine J.mono (fun k => w_forget (wk_k (wk_k (wk_k (wk_k (wk_k wk_0))))) k) ?_
    refine J_loop (Jl_mo_swarms_b25 hd  _ _) (fun w12 => ?_)
    exact J.mono (fun k => w_forget (wk_k (wk_k (wk_k (wk_k (wk_d wk_0))))) k) (J_mo_swarms_j57_9 hd )
set_option maxRecDepth 20000 in
set_option maxHeartbeats 4000000 in
theorem Jl_mo_swarms_b9 {Δ : DT} {Γ : FT} {d : Nat} (hd : 78 ≤ d + 1)    : ∀ (n : Nat) (s : Int × Int × MEM), J (iter (fun s => mo_swarms_b9  s.1 s.2.1 s.2.2) n s) (X_mo_swarms_b9 Δ Γ d ) (HD_mo_swarms_b9 Δ Γ d  s) := J_iter (fun s => Jb_mo_swarms_b9 hd )
set_option maxRecDepth 20000 in
set_option maxHeartbeats 4000000 in
theorem J_mo_swarms {Δ : DT} {Γ : FT} {d : Nat} (hd : 78 ≤ d + 1)   {M : MEM} : J (mo_swarms M) (K_IM Δ Γ m_mo_swarms) (WAt Δ Γ false m_mo_swarms (d + 1) 0 [vR (278), vN, vN, vN, vN] [] (NG, S0, M) 0 0) := by
  unfold mo_swarms
  refine J.mono (fun k => w_aload_n rfl rfl (w_iconst rfl (inR_c rfl) k)) ?_
  refine J_b ?_
  refine J.mono (fun k => w_putI rfl (Nat.le_of_ble_eq_true rfl) S_278 rfl rfl (w_iconst rfl (inR_c rfl) (s_istore1 rfl (Nat.le_of_ble_eq_true rfl) (w_iconst rfl (inR_c rfl) (s_istore2 rfl (Nat.le_of_ble_eq_true rfl) k))))) ?_
  refine J.mono (fun k => w_forget (wk_k (wk_k (wk_k (wk_d (wk_d wk_0))))) k) ?_
  refine J_loop (Jl_mo_swarms_b9 hd  _ _) (fun w14 => ?_)
  refine J.mono (fun k => w_aload_n rfl rfl (w_iconst rfl (inR_c rfl) k)) ?_
  refine J_b ?_
  refine J.mono (fun k => w_putI rfl (Nat.le_of_ble_eq_true rfl) S_278 rfl rfl (w_iload_n rfl rfl k)) ?_
  exact J_some (fun k => w_ireturn rfl rfl k)
set_option maxRecDepth 20000 in
set_option maxHeartbeats 4000000 in
theorem cal_mo_swarms {Δ : DT} {d : Nat} (hd : 78 ≤ d)   {M : MEM} {p : Int × MEM} (h : mo_swarms M = some p) (ho : okVs [vR 278]) (hM : okM M) : Cal Δ false m_mo_swarms d [vR 278] (NG, S0, M) (some p.1) (NG, S0, p.2) 0 0 := by
  obtain ⟨d, rfl⟩ : ∃ e, d = e + 1 := ⟨d - 1, by omega⟩
  exact cal_of g_mo_swarms p_mo_swarms (fun v hv => by simp only [List.mem_cons, List.not_mem_nil, or_false] at hv; rcases hv with rfl <;> first | exact Or.inl ⟨_, rfl⟩ | exact Or.inr ⟨_, rfl⟩) ho hM (Nat.le_of_ble_eq_true rfl) (fun Γ _ k => J_mo_swarms hd  _ h k)
abbrev HD_mo_span_b38 (Δ : DT) (Γ : FT) (d : Nat) (x1 : Int) (x2 : Int) (s : Int × Int × Int × Int × MEM) : Prop := WAt Δ Γ false m_mo_span (d + 1) 38 [vR (278), vI (x1), vI (x2), vI (s.1), vI (s.2.1), vI (s.2.2.1), vI (s.2.2.2.1), vN] [] (NG, S0, s.2.2.2.2) 0 0
abbrev X_mo_span_b38 (Δ : DT) (Γ : FT) (d : Nat) (x1 : Int) (x2 : Int) (s : Int × Int × Int × Int × MEM) : Prop := WAt Δ Γ false m_mo_span (d + 1) 129 [vR (278), vN, vN, vI (s.1), vI (s.2.1), vI (s.2.2.1), vN, vN] [] (NG, S0, s.2.2.2.2) 0 0
abbrev HD_mo_span_b48 (Δ : DT) (Γ : FT) (d : Nat) (x1 : Int) (x2 : Int) (x6 : Int) (s : Int × Int × Int × Int × MEM) : Prop := WAt Δ Γ false m_mo_span (d + 1) 48 [vR (278), vI (x1), vI (x2), vI (s.1), vI (s.2.1), vI (s.2.2.1), vI (x6), vI (s.2.2.2.1)] [] (NG, S0, s.2.2.2.2) 0 0
abbrev X_mo_span_b48 (Δ : DT) (Γ : FT) (d : Nat) (x1 : Int) (x2 : Int) (x6 : Int) (s : Int × Int × Int × Int × MEM) : Prop := WAt Δ Γ false m_mo_span (d + 1) 123 [vR (278), vI (x1), vI (x2), vI (s.1), vI (s.2.1), vI (s.2.2.1), vI (x6), vN] [] (NG, S0, s.2.2.2.2) 0 0
set_option maxRecDepth 20000 in
set_option maxHeartbeats 4000000 in
theorem J_mo_span_j117_48 {Δ : DT} {Γ : FT} {d : Nat} (hd : 78 ≤ d + 1) {x1 : Int} {x2 : Int} {x3 : Int} {x4 : Int} {x5 : Int} {x6 : Int} {x7 : Int}  {M : MEM} : J (mo_span_j117_48 x1 x2 x3 x4 x5 x6 x7 M) (Sum.elim (HD_mo_span_b48 Δ Γ d x1 x2 x6) (X_mo_span_b48 Δ Γ d x1 x2 x6)) (WAt Δ Γ false m_mo_span (d + 1) 117 [vR (278), vI (x1), vI (x2), vI (x3), vI (x4), vI (x5), vI (x6), vI (x7)] [] (NG, S0, M) 0 0) := by
  unfold mo_span_j117_48
  refine J.mono (fun k => s_iinc7 rfl (Nat.le_of_ble_eq_true rfl) (w_goto rfl k)) ?_
  exact J_some (fun k => w_forget (wk_k (wk_k (wk_k (wk_k (wk_k (wk_k (wk_k (wk_k wk_0)))))))) k)
set_option maxRecDepth 20000 in
set_option maxHeartbeats 4000000 in
theorem Jb_mo_span_b48 {Δ : DT} {Γ : FT} {d : Nat} (hd : 78 ≤ d + 1) {x1 : Int} {x2 : Int} {x6 : Int}  {x3 : Int} {x4 : Int} {x5 : Int} {x7 : Int} {M : MEM} : J (mo_span_b48 x1 x2 x6 x3 x4 x5 x7 M) (Sum.elim (HD_mo_span_b48 Δ Γ d x1 x2 x6) (X_mo_span_b48 Δ Γ d x1 x2 x6)) (WAt Δ Γ false m_mo_span (d + 1) 48 [vR (278), vI (x1), vI (x2), vI (x3), vI (x4), vI (x5), vI (x6), vI (x7)] [] (NG, S0, M) 0 0) := by
  unfold mo_span_b48
  refine J.mono (fun k => w_iload rfl rfl (w_aload_n rfl rfl (w_getR (r := 280) rfl (Nat.le_of_ble_eq_true rfl) S_278 rfl (w_iload_n rfl rfl k)))) ?_
  refine J_chk (fun hi11 => ?_)
  refine J.mono (fun k => w_iald rfl A_280.1 A_280.2 hi11.1 hi11.2 k) ?_
  refine J_ite (fun hc12 => ?_) (fun hc12 => ?_)
  · refine J.mono (fun k => s_icmp_ge_t rfl hc12 k) ?_
    exact J_some (fun k => w_forget (wk_k (wk_k (wk_k (wk_k (wk_k (wk_k (wk_k (wk_d wk_0)))))))) k)
  · refine J.mono (fun k => s_icmp_ge_f rfl hc12 (w_aload_n rfl rfl (w_iload_n rfl rfl (w_iload rfl rfl (w_iload rfl rfl k))))) ?_
    refine J_c (fun p14 e13 => ?_)
    refine J_hyp (fun k => c_vi3 rfl (fun ho hM => cal_mo_isHeardWith (by omega)  e13 ho hM) v_mo_isHeardWith (Nat.le_of_ble_eq_true rfl) S_278 rfl (Nat.le_of_ble_eq_true rfl) k) (fun hr15 hb16 => ?_)
    refine J_ite (fun hc17 => ?_) (fun hc17 => ?_)
    · refine J.mono (fun k => s_if_eq_t rfl hc17 k) ?_
      exact J.mono (fun k => w_forget (wk_k (wk_k (wk_k (wk_k (wk_k (wk_k (wk_k (wk_k wk_0)))))))) k) (J_mo_span_j117_48 hd )
    · refine J.mono (fun k => s_if_eq_f rfl hc17 (w_aload_n rfl rfl (w_getI rfl (Nat.le_of_ble_eq_true rfl) S_278 rfl (w_iload_n rfl rfl k)))) ?_
      refine J_ite (fun hc18 => ?_) (fun hc18 => ?_)
      · refine J.mono (fun k => s_icmp_ge_t rfl hc18 (s_iinc5 rfl (Nat.le_of_ble_eq_true rfl) (w_iload_n rfl rfl (w_aload_n rfl rfl (w_getR (r := 293) rfl (Nat.le_of_ble_eq_true rfl) S_278 rfl (w_iload_n rfl rfl (w_iconst rfl (inR_c rfl) (w_isub rfl k)))))))) ?_
        refine J_chk (fun hi19 => ?_)
        refine J.mono (fun k => w_iald rfl A_293.1 A_293.2 hi19.1 hi19.2 (w_iconst rfl (inR_c rfl) (w_iadd rfl k))) ?_
        refine J.mono (fun k => w_mmin rfl (Nat.le_of_ble_eq_true rfl) k) ?_
        refine J.mono (fun k => s_istore3 rfl (Nat.le_of_ble_eq_true rfl) (w_iload rfl rfl (w_aload_n rfl rfl (w_getR (r := 293) rfl (Nat.le_of_ble_eq_true rfl) S_278 rfl (w_iload_n rfl rfl (w_iconst rfl (inR_c rfl) (w_isub rfl k))))))) ?_
        refine J_chk (fun hi20 => ?_)
        refine J.mono (fun k => w_iald rfl A_293.1 A_293.2 hi20.1 hi20.2 (w_iconst rfl (inR_c rfl) (w_iadd rfl k))) ?_
        refine J.mono (fun k => w_mmax rfl (Nat.le_of_ble_eq_true rfl) k) ?_
        refine J.mono (fun k => s_istore4 rfl (Nat.le_of_ble_eq_true rfl) k) ?_
        exact J.mono (fun k => w_forget (wk_k (wk_k (wk_k (wk_k (wk_k (wk_k (wk_k (wk_k wk_0)))))))) k) (J_mo_span_j117_48 hd )
      · refine J.mono (fun k => s_icmp_ge_f rfl hc18 (w_goto rfl k)) ?_
        exact J.mono (fun k => w_forget (wk_k (wk_k (wk_k (wk_k (wk_k (wk_k (wk_k (wk_k wk_0)))))))) k) (J_mo_span_j117_48 hd )
set_option maxRecDepth 20000 in
set_option maxHeartbeats 4000000 in
theorem Jl_mo_span_b48 {Δ : DT} {Γ : FT} {d : Nat} (hd : 78 ≤ d + 1) {x1 : Int} {x2 : Int} {x6 : Int}   : ∀ (n : Nat) (s : Int × Int × Int × Int × MEM), J (iter (fun s => mo_span_b48 x1 x2 x6 s.1 s.2.1 s.2.2.1 s.2.2.2.1 s.2.2.2.2) n s) (X_mo_span_b48 Δ Γ d x1 x2 x6) (HD_mo_span_b48 Δ Γ d x1 x2 x6 s) := J_iter (fun s => Jb_mo_span_b48 hd )
set_option maxRecDepth 20000 in
set_option maxHeartbeats 4000000 in
theorem Jb_mo_span_b38 {Δ : DT} {Γ : FT} {d : Nat} (hd : 78 ≤ d + 1) {x1 : Int} {x2 : Int}  {x3 : Int} {x4 : Int} {x5 : Int} {x6 : Int} {M : MEM} : J (mo_span_b38 x1 x2 x3 x4 x5 x6 M) (Sum.elim (HD_mo_span_b38 Δ Γ d x1 x2) (X_mo_span_b38 Δ Γ d x1 x2)) (WAt Δ Γ false m_mo_span (d + 1) 38 [vR (278), vI (x1), vI (x2), vI (x3), vI (x4), vI (x5), vI (x6), vN] [] (NG, S0, M) 0 0) := by
  unfold mo_span_b38
  refine J.mono (fun k => w_iload rfl rfl (w_bipush rfl (bip_c rfl) k)) ?_
  refine J_ite (fun hc10 => ?_) (fun hc10 => ?_)
  · refine J.mono (fun k => s_icmp_ge_t rfl hc10 k) ?_
    exact J_some (fun k => w_forget (wk_k (wk_d (wk_d (wk_k (wk_k (wk_k (wk_d (wk_d wk_0)))))))) k)
  · refine J.mono (fun k => s_icmp_ge_f rfl hc10 (w_iconst rfl (inR_c rfl) (s_istore7 rfl (Nat.le_of_ble_eq_true rfl) k))) ?_
    refine J.mono (fun k => w_forget (wk_k (wk_k (wk_k (wk_k (wk_k (wk_k (wk_k (wk_k wk_0)))))))) k) ?_
    refine J_loop (Jl_mo_span_b48 hd  _ _) (fun w21 => ?_)
    refine J.mono (fun k => s_iinc6 rfl (Nat.le_of_ble_eq_true rfl) (w_goto rfl k)) ?_
    exact J_some (fun k => w_forget (wk_k (wk_k (wk_k (wk_k (wk_k (wk_k (wk_k (wk_d wk_0)))))))) k)
set_option maxRecDepth 20000 in
set_option maxHeartbeats 4000000 in
theorem Jl_mo_span_b38 {Δ : DT} {Γ : FT} {d : Nat} (hd : 78 ≤ d + 1) {x1 : Int} {x2 : Int}   : ∀ (n : Nat) (s : Int × Int × Int × Int × MEM), J (iter (fun s => mo_span_b38 x1 x2 s.1 s.2.1 s.2.2.1 s.2.2.2.1 s.2.2.2.2) n s) (X_mo_span_b38 Δ Γ d x1 x2) (HD_mo_span_b38 Δ Γ d x1 x2 s) := J_iter (fun s => Jb_mo_span_b38 hd )
set_option maxRecDepth 20000 in
set_option maxHeartbeats 4000000 in
theorem J_mo_span {Δ : DT} {Γ : FT} {d : Nat} (hd : 78 ≤ d + 1) {x1 : Int} {x2 : Int}  {M : MEM} : J (mo_span x1 x2 M) (K_IM Δ Γ m_mo_span) (WAt Δ Γ false m_mo_span (d + 1) 0 [vR (278), vI (x1), vI (x2), vN, vN, vN, vN, vN] [] (NG, S0, M) 0 0) := by
  unfold mo_span
  refine J.mono (fun k => w_aload_n rfl rfl (w_iconst rfl (inR_c rfl) k)) ?_
  refine J_b ?_
  refine J.mono (fun k => w_putI rfl (Nat.le_of_ble_eq_true rfl) S_278 rfl rfl (w_aload_n rfl rfl (w_iload_n rfl rfl k))) ?_
  refine J_hyp (fun k => c_vi1 rfl (fun ho hM => cal_mo_isDonkey (by omega)   ho hM) v_mo_isDonkey (Nat.le_of_ble_eq_true rfl) S_278 rfl (Nat.le_of_ble_eq_true rfl) k) (fun hr3 hb4 => ?_)
  refine J_ite (fun hc5 => ?_) (fun hc5 => ?_)
  · refine J.mono (fun k => s_if_eq_t rfl hc5 (w_iconst rfl (inR_c rfl) k)) ?_
    exact J_some (fun k => w_ireturn rfl rfl k)
  · refine J.mono (fun k => s_if_eq_f rfl hc5 (w_iload_n rfl rfl (w_iconst rfl (inR_c rfl) (w_bipush rfl (bip_c rfl) k)))) ?_
    refine J_hyp (fun k => c_si3 rfl rfl (fun ho hM => cal_mo_in (by omega)   ho hM) v_mo_in (Nat.le_of_ble_eq_true rfl) k) (fun hr7 hb8 => ?_)
    refine J_ite (fun hc9 => ?_) (fun hc9 => ?_)
    · refine J.mono (fun k => s_if_ne_f rfl hc9 (w_iconst rfl (inR_c rfl) k)) ?_
      exact J_some (fun k => w_ireturn rfl rfl k)
    · refine J.mono (fun k => s_if_ne_t rfl hc9 (w_ldcw rfl (inR_c rfl) (s_istore3 rfl (Nat.le_of_ble_eq_true rfl) (w_iconst rfl (inR_c rfl) (s_istore4 rfl (Nat.le_of_ble_eq_true rfl) (w_iconst rfl (inR_c rfl) (s_istore5 rfl (Nat.le_of_ble_eq_true rfl) (w_iconst rfl (inR_c rfl) (s_istore6 rfl (Nat.le_of_ble_eq_true rfl) k))))))))) ?_
      refine J.mono (fun k => w_forget (wk_k (wk_k (wk_k (wk_k (wk_k (wk_k (wk_k (wk_d wk_0)))))))) k) ?_
      refine J_loop (Jl_mo_span_b38 hd  _ _) (fun w22 => ?_)
      refine J.mono (fun k => w_iload rfl rfl k) ?_
      refine J_ite (fun hc23 => ?_) (fun hc23 => ?_)
      · refine J.mono (fun k => s_if_ne_f rfl hc23 (w_bipush rfl (bip_c rfl) k)) ?_
        exact J_some (fun k => w_ireturn rfl rfl k)
      · refine J.mono (fun k => s_if_ne_t rfl hc23 (w_aload_n rfl rfl (w_iconst rfl (inR_c rfl) k))) ?_
        refine J_b ?_
        refine J.mono (fun k => w_putI rfl (Nat.le_of_ble_eq_true rfl) S_278 rfl rfl (w_aload_n rfl rfl (w_iload rfl rfl k))) ?_
        refine J_c (fun M26 e25 => ?_)
        refine J.mono (fun k => c_vv1 rfl (fun ho hM => cal_mo_tell (by omega)  e25 ho hM) v_mo_tell (Nat.le_of_ble_eq_true rfl) S_278 rfl (Nat.le_of_ble_eq_true rfl) (w_aload_n rfl rfl (w_iload rfl rfl k))) ?_
        refine J_c (fun M28 e27 => ?_)
        refine J.mono (fun k => c_vv1 rfl (fun ho hM => cal_mo_tell (by omega)  e27 ho hM) v_mo_tell (Nat.le_of_ble_eq_true rfl) S_278 rfl (Nat.le_of_ble_eq_true rfl) (w_iload_n rfl rfl k)) ?_
        exact J_some (fun k => w_ireturn rfl rfl k)
set_option maxRecDepth 20000 in
set_option maxHeartbeats 4000000 in
theorem cal_mo_span {Δ : DT} {d : Nat} (hd : 78 ≤ d) {x1 : Int} {x2 : Int}  {M : MEM} {p : Int × MEM} (h : mo_span x1 x2 M = some p) (ho : okVs [vR 278, vI x1, vI x2]) (hM : okM M) : Cal Δ false m_mo_span d [vR 278, vI x1, vI x2] (NG, S0, M) (some p.1) (NG, S0, p.2) 0 0 := by
  obtain ⟨d, rfl⟩ : ∃ e, d = e + 1 := ⟨d - 1, by omega⟩
  exact cal_of g_mo_span p_mo_span (fun v hv => by simp only [List.mem_cons, List.not_mem_nil, or_false] at hv; rcases hv with rfl | rfl | rfl <;> first | exact Or.inl ⟨_, rfl⟩ | exact Or.inr ⟨_, rfl⟩) ho hM (Nat.le_of_ble_eq_true rfl) (fun Γ _ k => J_mo_span hd  _ h k)
set_option maxRecDepth 20000 in
set_option maxHeartbeats 4000000 in
theorem J_mo_areTwo {Δ : DT} {Γ : FT} {d : Nat} (hd : 2 ≤ d + 1) {x1 : Int} {x2 : Int}  {M : MEM} : J (some (mo_areTwo x1 x2 M)) (K_I Δ Γ m_mo_areTwo M) (WAt Δ Γ false m_mo_areTwo (d + 1) 0 [vR (278), vI (x1), vI (x2)] [] (NG, S0, M) 0 0) := by
  unfold mo_areTwo
  refine J.mono (fun k => w_aload_n rfl rfl (w_iload_n rfl rfl k)) ?_
  refine J_hyp (fun k => c_vi1 rfl (fun ho hM => cal_mo_isDonkey (by omega)   ho hM) v_mo_isDonkey (Nat.le_of_ble_eq_true rfl) S_278 rfl (Nat.le_of_ble_eq_true rfl) k) (fun hr2 hb3 => ?_)
  refine J_iteT (fun hc4 => ?_) (fun hc4 => ?_)
  · refine J.mono (fun k => s_if_eq_t rfl hc4 (w_iconst rfl (inR_c rfl) k)) ?_
    exact J_some (fun k => w_zreturn rfl rfl (Or.inl rfl) k)
  · refine J.mono (fun k => s_if_eq_f rfl hc4 (w_aload_n rfl rfl (w_iload_n rfl rfl k))) ?_
    refine J_hyp (fun k => c_vi1 rfl (fun ho hM => cal_mo_isDonkey (by omega)   ho hM) v_mo_isDonkey (Nat.le_of_ble_eq_true rfl) S_278 rfl (Nat.le_of_ble_eq_true rfl) k) (fun hr6 hb7 => ?_)
    refine J_iteT (fun hc8 => ?_) (fun hc8 => ?_)
    · refine J.mono (fun k => s_if_eq_t rfl hc8 (w_iconst rfl (inR_c rfl) k)) ?_
      exact J_some (fun k => w_zreturn rfl rfl (Or.inl rfl) k)
    · refine J.mono (fun k => s_if_eq_f rfl hc8 (w_iload_n rfl rfl (w_iload_n rfl rfl k))) ?_
      refine J_iteT (fun hc9 => ?_) (fun hc9 => ?_)
      · refine J.mono (fun k => s_icmp_eq_t rfl hc9 (w_iconst rfl (inR_c rfl) k)) ?_
        exact J_some (fun k => w_zreturn rfl rfl (Or.inl rfl) k)
      · refine J.mono (fun k => s_icmp_eq_f rfl hc9 (w_iconst rfl (inR_c rfl) (w_goto rfl k))) ?_
        exact J_some (fun k => w_zreturn rfl rfl (Or.inr rfl) k)
set_option maxRecDepth 20000 in
set_option maxHeartbeats 4000000 in
theorem cal_mo_areTwo {Δ : DT} {d : Nat} (hd : 2 ≤ d) {x1 : Int} {x2 : Int}  {M : MEM} (ho : okVs [vR 278, vI x1, vI x2]) (hM : okM M) : Cal Δ false m_mo_areTwo d [vR 278, vI x1, vI x2] (NG, S0, M) (some (mo_areTwo x1 x2 M)) (NG, S0, M) 0 0 := by
  obtain ⟨d, rfl⟩ : ∃ e, d = e + 1 := ⟨d - 1, by omega⟩
  exact cal_of g_mo_areTwo p_mo_areTwo (fun v hv => by simp only [List.mem_cons, List.not_mem_nil, or_false] at hv; rcases hv with rfl | rfl | rfl <;> first | exact Or.inl ⟨_, rfl⟩ | exact Or.inr ⟨_, rfl⟩) ho hM (Nat.le_of_ble_eq_true rfl) (fun Γ _ k => J_mo_areTwo hd  _ rfl k)
set_option maxRecDepth 20000 in
set_option maxHeartbeats 4000000 in
theorem J_mo_apart_j25 {Δ : DT} {Γ : FT} {d : Nat} (hd : 76 ≤ d + 1)   {M : MEM} : J (mo_apart_j25  M) (K_IM Δ Γ m_mo_apart) (WAt Δ Γ false m_mo_apart (d + 1) 25 [vR (278), vN, vN, vN, vN] [] (NG, S0, M) 0 0) := by
  unfold mo_apart_j25
  refine J.mono (fun k => w_aload_n rfl rfl k) ?_
  refine J_c (fun p7 e6 => ?_)
  refine J_hyp (fun k => c_vi0 rfl (fun ho hM => cal_mo_lost (by omega)  e6 ho hM) v_mo_lost (Nat.le_of_ble_eq_true rfl) S_278 rfl (Nat.le_of_ble_eq_true rfl) k) (fun hr8 hb9 => ?_)
  exact J_some (fun k => w_ireturn rfl rfl k)
abbrev HD_mo_apart_b37 (Δ : DT) (Γ : FT) (d : Nat) (x1 : Int) (x2 : Int) (x3 : Int) (s : Int × MEM) : Prop := WAt Δ Γ false m_mo_apart (d + 1) 37 [vR (278), vI (x1), vI (x2), vI (x3), vI (s.1)] [] (NG, S0, s.2) 0 0
abbrev X_mo_apart_b37 (Δ : DT) (Γ : FT) (d : Nat) (x1 : Int) (x2 : Int) (x3 : Int) (s : Int × MEM) : Prop := WAt Δ Γ false m_mo_apart (d + 1) 57 [vR (278), vI (x1), vI (x2), vN, vN] [] (NG, S0, s.2) 0 0
set_option maxRecDepth 20000 in
set_option maxHeartbeats 4000000 in
theorem Jb_mo_apart_b37 {Δ : DT} {Γ : FT} {d : Nat} (hd : 76 ≤ d + 1) {x1 : Int} {x2 : Int} {x3 : Int}  {x4 : Int} {M : MEM} : J (mo_apart_b37 x1 x2 x3 x4 M) (Sum.elim (HD_mo_apart_b37 Δ Γ d x1 x2 x3) (X_mo_apart_b37 Δ Γ d x1 x2 x3)) (WAt Δ Γ false m_mo_apart (d + 1) 37 [vR (278), vI (x1), vI (x2), vI (x3), vI (x4)] [] (NG, S0, M) 0 0) := by
  unfold mo_apart_b37
  refine J.mono (fun k => w_iload rfl rfl (w_iload_n rfl rfl k)) ?_
  refine J_ite (fun hc16 => ?_) (fun hc16 => ?_)
  · refine J.mono (fun k => s_icmp_ge_t rfl hc16 k) ?_
    exact J_some (fun k => w_forget (wk_k (wk_k (wk_k (wk_d (wk_d wk_0))))) k)
  · refine J.mono (fun k => s_icmp_ge_f rfl hc16 (w_aload_n rfl rfl (w_aload_n rfl rfl (w_getR (r := 292) rfl (Nat.le_of_ble_eq_true rfl) S_278 rfl k)))) ?_
    refine J_c (fun M18 e17 => ?_)
    refine J.mono (fun k => c_vv1 rfl (fun ho hM => cal_mo_goMinute (by omega) (isArr_len A_292) e17 ho hM) v_mo_goMinute (Nat.le_of_ble_eq_true rfl) S_278 rfl (Nat.le_of_ble_eq_true rfl) (s_iinc4 rfl (Nat.le_of_ble_eq_true rfl) (w_goto rfl k))) ?_
    exact J_some (fun k => w_forget (wk_k (wk_k (wk_k (wk_k (wk_k wk_0))))) k)
set_option maxRecDepth 20000 in
set_option maxHeartbeats 4000000 in
theorem Jl_mo_apart_b37 {Δ : DT} {Γ : FT} {d : Nat} (hd : 76 ≤ d + 1) {x1 : Int} {x2 : Int} {x3 : Int}   : ∀ (n : Nat) (s : Int × MEM), J (iter (fun s => mo_apart_b37 x1 x2 x3 s.1 s.2) n s) (X_mo_apart_b37 Δ Γ d x1 x2 x3) (HD_mo_apart_b37 Δ Γ d x1 x2 x3 s) := J_iter (fun s => Jb_mo_apart_b37 hd )
set_option maxRecDepth 20000 in
set_option maxHeartbeats 4000000 in
theorem J_mo_apart {Δ : DT} {Γ : FT} {d : Nat} (hd : 76 ≤ d + 1) {x1 : Int} {x2 : Int} {x3 : Int}  {M : MEM} : J (mo_apart x1 x2 x3 M) (K_IM Δ Γ m_mo_apart) (WAt Δ Γ false m_mo_apart (d + 1) 0 [vR (278), vI (x1), vI (x2), vI (x3), vN] [] (NG, S0, M) 0 0) := by
  unfold mo_apart
  refine J.mono (fun k => w_aload_n rfl rfl (w_iconst rfl (inR_c rfl) k)) ?_
  refine J_b ?_
  refine J.mono (fun k => w_putI rfl (Nat.le_of_ble_eq_true rfl) S_278 rfl rfl (w_aload_n rfl rfl (w_iload_n rfl rfl (w_iload_n rfl rfl k)))) ?_
  refine J_hyp (fun k => c_vi2 rfl (fun ho hM => cal_mo_areTwo (by omega)   ho hM) v_mo_areTwo (Nat.le_of_ble_eq_true rfl) S_278 rfl (Nat.le_of_ble_eq_true rfl) k) (fun hr3 hb4 => ?_)
  refine J_ite (fun hc5 => ?_) (fun hc5 => ?_)
  · refine J.mono (fun k => s_if_eq_t rfl hc5 k) ?_
    exact J.mono (fun k => w_forget (wk_k (wk_d (wk_d (wk_d (wk_d wk_0))))) k) (J_mo_apart_j25 hd )
  · refine J.mono (fun k => s_if_eq_f rfl hc5 (w_iload_n rfl rfl (w_iconst rfl (inR_c rfl) (w_sipush rfl (sip_c rfl) k)))) ?_
    refine J_hyp (fun k => c_si3 rfl rfl (fun ho hM => cal_mo_in (by omega)   ho hM) v_mo_in (Nat.le_of_ble_eq_true rfl) k) (fun hr11 hb12 => ?_)
    refine J_ite (fun hc13 => ?_) (fun hc13 => ?_)
    · refine J.mono (fun k => s_if_ne_f rfl hc13 k) ?_
      exact J.mono (fun k => w_forget (wk_k (wk_d (wk_d (wk_d (wk_d wk_0))))) k) (J_mo_apart_j25 hd )
    · refine J.mono (fun k => s_if_ne_t rfl hc13 (w_aload_n rfl rfl k)) ?_
      refine J_c (fun M15 e14 => ?_)
      refine J.mono (fun k => c_vv0 rfl (fun ho hM => cal_mo_beginThen (by omega)  e14 ho hM) v_mo_beginThen (Nat.le_of_ble_eq_true rfl) S_278 rfl (Nat.le_of_ble_eq_true rfl) (w_iconst rfl (inR_c rfl) (s_istore4 rfl (Nat.le_of_ble_eq_true rfl) k))) ?_
      refine J.mono (fun k => w_forget (wk_k (wk_k (wk_k (wk_k (wk_k wk_0))))) k) ?_
      refine J_loop (Jl_mo_apart_b37 hd  _ _) (fun w19 => ?_)
      refine J.mono (fun k => w_aload_n rfl rfl (w_getR (r := 292) rfl (Nat.le_of_ble_eq_true rfl) S_278 rfl (w_bipush rfl (bip_c rfl) (w_iload_n rfl rfl (w_imul rfl (w_iconst rfl (inR_c rfl) (w_iadd rfl k))))))) ?_
      refine J_chk (fun hi20 => ?_)
      refine J.mono (fun k => w_iald rfl A_292.1 A_292.2 hi20.1 hi20.2 (w_aload_n rfl rfl (w_getR (r := 292) rfl (Nat.le_of_ble_eq_true rfl) S_278 rfl (w_bipush rfl (bip_c rfl) (w_iload_n rfl rfl (w_imul rfl (w_iconst rfl (inR_c rfl) (w_iadd rfl k)))))))) ?_
      refine J_chk (fun hi21 => ?_)
      refine J.mono (fun k => w_iald rfl A_292.1 A_292.2 hi21.1 hi21.2 (w_isub rfl k)) ?_
      exact J_some (fun k => w_ireturn rfl rfl k)
set_option maxRecDepth 20000 in
set_option maxHeartbeats 4000000 in
theorem cal_mo_apart {Δ : DT} {d : Nat} (hd : 76 ≤ d) {x1 : Int} {x2 : Int} {x3 : Int}  {M : MEM} {p : Int × MEM} (h : mo_apart x1 x2 x3 M = some p) (ho : okVs [vR 278, vI x1, vI x2, vI x3]) (hM : okM M) : Cal Δ false m_mo_apart d [vR 278, vI x1, vI x2, vI x3] (NG, S0, M) (some p.1) (NG, S0, p.2) 0 0 := by
  obtain ⟨d, rfl⟩ : ∃ e, d = e + 1 := ⟨d - 1, by omega⟩
  exact cal_of g_mo_apart p_mo_apart (fun v hv => by simp only [List.mem_cons, List.not_mem_nil, or_false] at hv; rcases hv with rfl | rfl | rfl | rfl <;> first | exact Or.inl ⟨_, rfl⟩ | exact Or.inr ⟨_, rfl⟩) ho hM (Nat.le_of_ble_eq_true rfl) (fun Γ _ k => J_mo_apart hd  _ h k)
abbrev HD_mo_together_b22 (Δ : DT) (Γ : FT) (d : Nat) (x1 : Int) (x2 : Int) (s : Int × MEM) : Prop := WAt Δ Γ false m_mo_together (d + 1) 22 [vR (278), vI (x1), vI (x2), vI (s.1)] [] (NG, S0, s.2) 0 0
abbrev X_mo_together_b22 (Δ : DT) (Γ : FT) (d : Nat) (x1 : Int) (x2 : Int) : (Int × MEM) ⊕ (Int × MEM) → Prop := Sum.elim (K_IM Δ Γ m_mo_together) (fun s => WAt Δ Γ false m_mo_together (d + 1) 63 [vN, vN, vN, vN] [] (NG, S0, s.2) 0 0)
set_option maxRecDepth 20000 in
set_option maxHeartbeats 4000000 in
theorem J_mo_together_j57_22 {Δ : DT} {Γ : FT} {d : Nat} (hd : 76 ≤ d + 1) {x1 : Int} {x2 : Int} {x3 : Int}  {M : MEM} : J (mo_together_j57_22 x1 x2 x3 M) (Sum.elim (HD_mo_together_b22 Δ Γ d x1 x2) (X_mo_together_b22 Δ Γ d x1 x2)) (WAt Δ Γ false m_mo_together (d + 1) 57 [vR (278), vI (x1), vI (x2), vI (x3)] [] (NG, S0, M) 0 0) := by
  unfold mo_together_j57_22
  refine J.mono (fun k => s_iinc3 rfl (Nat.le_of_ble_eq_true rfl) (w_goto rfl k)) ?_
  exact J_some (fun k => w_forget (wk_k (wk_k (wk_k (wk_k wk_0)))) k)
set_option maxRecDepth 20000 in
set_option maxHeartbeats 4000000 in
theorem Jb_mo_together_b22 {Δ : DT} {Γ : FT} {d : Nat} (hd : 76 ≤ d + 1) {x1 : Int} {x2 : Int}  {x3 : Int} {M : MEM} : J (mo_together_b22 x1 x2 x3 M) (Sum.elim (HD_mo_together_b22 Δ Γ d x1 x2) (X_mo_together_b22 Δ Γ d x1 x2)) (WAt Δ Γ false m_mo_together (d + 1) 22 [vR (278), vI (x1), vI (x2), vI (x3)] [] (NG, S0, M) 0 0) := by
  unfold mo_together_b22
  refine J.mono (fun k => w_iload_n rfl rfl (w_sipush rfl (sip_c rfl) k)) ?_
  refine J_ite (fun hc8 => ?_) (fun hc8 => ?_)
  · refine J.mono (fun k => s_icmp_gt_t rfl hc8 k) ?_
    exact J_some (fun k => w_forget (wk_d (wk_d (wk_d (wk_d wk_0)))) k)
  · refine J.mono (fun k => s_icmp_gt_f rfl hc8 (w_aload_n rfl rfl (w_aload_n rfl rfl (w_getR (r := 292) rfl (Nat.le_of_ble_eq_true rfl) S_278 rfl k)))) ?_
    refine J_c (fun M10 e9 => ?_)
    refine J.mono (fun k => c_vv1 rfl (fun ho hM => cal_mo_goMinute (by omega) (isArr_len A_292) e9 ho hM) v_mo_goMinute (Nat.le_of_ble_eq_true rfl) S_278 rfl (Nat.le_of_ble_eq_true rfl) (w_aload_n rfl rfl (w_getR (r := 287) rfl (Nat.le_of_ble_eq_true rfl) S_278 rfl (w_iload_n rfl rfl k)))) ?_
    refine J_chk (fun hi11 => ?_)
    refine J.mono (fun k => w_iald rfl A_287.1 A_287.2 hi11.1 hi11.2 k) ?_
    refine J_ite (fun hc12 => ?_) (fun hc12 => ?_)
    · refine J.mono (fun k => s_if_le_t rfl hc12 k) ?_
      exact J.mono (fun k => w_forget (wk_k (wk_k (wk_k (wk_k wk_0)))) k) (J_mo_together_j57_22 hd )
    · refine J.mono (fun k => s_if_le_f rfl hc12 (w_aload_n rfl rfl (w_getR (r := 287) rfl (Nat.le_of_ble_eq_true rfl) S_278 rfl (w_iload_n rfl rfl k)))) ?_
      refine J_chk (fun hi13 => ?_)
      refine J.mono (fun k => w_iald rfl A_287.1 A_287.2 hi13.1 hi13.2 k) ?_
      refine J_ite (fun hc14 => ?_) (fun hc14 => ?_)
      · refine J.mono (fun k => s_if_le_t rfl hc14 k) ?_
        exact J.mono (fun k => w_forget (wk_k (wk_k (wk_k (wk_k wk_0)))) k) (J_mo_together_j57_22 hd )
      · refine J.mono (fun k => s_if_le_f rfl hc14 (w_iload_n rfl rfl k)) ?_
        exact J_some (fun k => w_ireturn rfl rfl k)
set_option maxRecDepth 20000 in
set_option maxHeartbeats 4000000 in
theorem Jl_mo_together_b22 {Δ : DT} {Γ : FT} {d : Nat} (hd : 76 ≤ d + 1) {x1 : Int} {x2 : Int}   : ∀ (n : Nat) (s : Int × MEM), J (iter (fun s => mo_together_b22 x1 x2 s.1 s.2) n s) (X_mo_together_b22 Δ Γ d x1 x2) (HD_mo_together_b22 Δ Γ d x1 x2 s) := J_iter (fun s => Jb_mo_together_b22 hd )
set_option maxRecDepth 20000 in
set_option maxHeartbeats 4000000 in
theorem J_mo_together {Δ : DT} {Γ : FT} {d : Nat} (hd : 76 ≤ d + 1) {x1 : Int} {x2 : Int}  {M : MEM} : J (mo_together x1 x2 M) (K_IM Δ Γ m_mo_together) (WAt Δ Γ false m_mo_together (d + 1) 0 [vR (278), vI (x1), vI (x2), vN] [] (NG, S0, M) 0 0) := by
  unfold mo_together
  refine J.mono (fun k => w_aload_n rfl rfl (w_iconst rfl (inR_c rfl) k)) ?_
  refine J_b ?_
  refine J.mono (fun k => w_putI rfl (Nat.le_of_ble_eq_true rfl) S_278 rfl rfl (w_aload_n rfl rfl (w_iload_n rfl rfl (w_iload_n rfl rfl k)))) ?_
  refine J_hyp (fun k => c_vi2 rfl (fun ho hM => cal_mo_areTwo (by omega)   ho hM) v_mo_areTwo (Nat.le_of_ble_eq_true rfl) S_278 rfl (Nat.le_of_ble_eq_true rfl) k) (fun hr3 hb4 => ?_)
  refine J_ite (fun hc5 => ?_) (fun hc5 => ?_)
  · refine J.mono (fun k => s_if_ne_f rfl hc5 (w_iconst rfl (inR_c rfl) k)) ?_
    exact J_some (fun k => w_ireturn rfl rfl k)
  · refine J.mono (fun k => s_if_ne_t rfl hc5 (w_aload_n rfl rfl k)) ?_
    refine J_c (fun M7 e6 => ?_)
    refine J.mono (fun k => c_vv0 rfl (fun ho hM => cal_mo_beginThen (by omega)  e6 ho hM) v_mo_beginThen (Nat.le_of_ble_eq_true rfl) S_278 rfl (Nat.le_of_ble_eq_true rfl) (w_iconst rfl (inR_c rfl) (s_istore3 rfl (Nat.le_of_ble_eq_true rfl) k))) ?_
    refine J.mono (fun k => w_forget (wk_k (wk_k (wk_k (wk_k wk_0)))) k) ?_
    refine J_loop (Jl_mo_together_b22 hd  _ _) (fun w15 => ?_)
    refine J_elim (fun r => J_some (fun k => k)) (fun w15 => ?_)
    refine J.mono (fun k => w_bipush rfl (bip_c rfl) k) ?_
    exact J_some (fun k => w_ireturn rfl rfl k)
set_option maxRecDepth 20000 in
set_option maxHeartbeats 4000000 in
theorem cal_mo_together {Δ : DT} {d : Nat} (hd : 76 ≤ d) {x1 : Int} {x2 : Int}  {M : MEM} {p : Int × MEM} (h : mo_together x1 x2 M = some p) (ho : okVs [vR 278, vI x1, vI x2]) (hM : okM M) : Cal Δ false m_mo_together d [vR 278, vI x1, vI x2] (NG, S0, M) (some p.1) (NG, S0, p.2) 0 0 := by
  obtain ⟨d, rfl⟩ : ∃ e, d = e + 1 := ⟨d - 1, by omega⟩
  exact cal_of g_mo_together p_mo_together (fun v hv => by simp only [List.mem_cons, List.not_mem_nil, or_false] at hv; rcases hv with rfl | rfl | rfl <;> first | exact Or.inl ⟨_, rfl⟩ | exact Or.inr ⟨_, rfl⟩) ho hM (Nat.le_of_ble_eq_true rfl) (fun Γ _ k => J_mo_together hd  _ h k)
abbrev HD_mo_join_b26 (Δ : DT) (Γ : FT) (d : Nat) (x1 : Int) (x2 : Int) (x3 : Int) (s : Int × MEM) : Prop := WAt Δ Γ false m_mo_join (d + 1) 26 [vR (278), vI (x1), vI (x2), vI (x3), vI (s.1), vN] [] (NG, S0, s.2) 0 0
abbrev X_mo_join_b26 (Δ : DT) (Γ : FT) (d : Nat) (x1 : Int) (x2 : Int) (x3 : Int) (s : Int × MEM) : Prop := WAt Δ Γ false m_mo_join (d + 1) 47 [vR (278), vI (x1), vI (x2), vI (x3), vN, vN] [] (NG, S0, s.2) 0 0
set_option maxRecDepth 20000 in
set_option maxHeartbeats 4000000 in
theorem Jb_mo_join_b26 {Δ : DT} {Γ : FT} {d : Nat} (hd : 76 ≤ d + 1) {x1 : Int} {x2 : Int} {x3 : Int}  {x4 : Int} {M : MEM} : J (mo_join_b26 x1 x2 x3 x4 M) (Sum.elim (HD_mo_join_b26 Δ Γ d x1 x2 x3) (X_mo_join_b26 Δ Γ d x1 x2 x3)) (WAt Δ Γ false m_mo_join (d + 1) 26 [vR (278), vI (x1), vI (x2), vI (x3), vI (x4), vN] [] (NG, S0, M) 0 0) := by
  unfold mo_join_b26
  refine J.mono (fun k => w_iload rfl rfl (w_bipush rfl (bip_c rfl) k)) ?_
  refine J_ite (fun hc10 => ?_) (fun hc10 => ?_)
  · refine J.mono (fun k => s_icmp_ge_t rfl hc10 k) ?_
    exact J_some (fun k => w_forget (wk_k (wk_k (wk_k (wk_k (wk_d (wk_d wk_0)))))) k)
  · refine J.mono (fun k => s_icmp_ge_f rfl hc10 (w_aload_n rfl rfl (w_getR (r := 303) rfl (Nat.le_of_ble_eq_true rfl) S_278 rfl (w_iload rfl rfl (w_iconst rfl (inR_c rfl) k))))) ?_
    refine J_chk (fun hi12 => ?_)
    refine J_b ?_
    refine J.mono (fun k => w_iast rfl A_303.1 A_303.2 hi12.1 hi12.2 rfl (s_iinc4 rfl (Nat.le_of_ble_eq_true rfl) (w_goto rfl k))) ?_
    exact J_some (fun k => w_forget (wk_k (wk_k (wk_k (wk_k (wk_k (wk_d wk_0)))))) k)
set_option maxRecDepth 20000 in
set_option maxHeartbeats 4000000 in
theorem Jl_mo_join_b26 {Δ : DT} {Γ : FT} {d : Nat} (hd : 76 ≤ d + 1) {x1 : Int} {x2 : Int} {x3 : Int}   : ∀ (n : Nat) (s : Int × MEM), J (iter (fun s => mo_join_b26 x1 x2 x3 s.1 s.2) n s) (X_mo_join_b26 Δ Γ d x1 x2 x3) (HD_mo_join_b26 Δ Γ d x1 x2 x3 s) := J_iter (fun s => Jb_mo_join_b26 hd )
abbrev HD_mo_join_b54 (Δ : DT) (Γ : FT) (d : Nat) (x1 : Int) (x2 : Int) (x3 : Int) (s : Int × MEM) : Prop := WAt Δ Γ false m_mo_join (d + 1) 54 [vR (278), vI (x1), vI (x2), vI (x3), vI (s.1), vN] [] (NG, S0, s.2) 0 0
abbrev X_mo_join_b54 (Δ : DT) (Γ : FT) (d : Nat) (x1 : Int) (x2 : Int) (x3 : Int) (s : Int × MEM) : Prop := WAt Δ Γ false m_mo_join (d + 1) 118 [vR (278), vN, vN, vN, vN, vN] [] (NG, S0, s.2) 0 0
set_option maxRecDepth 20000 in
set_option maxHeartbeats 4000000 in
theorem Jb_mo_join_b54 {Δ : DT} {Γ : FT} {d : Nat} (hd : 76 ≤ d + 1) {x1 : Int} {x2 : Int} {x3 : Int}  {x4 : Int} {M : MEM} : J (mo_join_b54 x1 x2 x3 x4 M) (Sum.elim (HD_mo_join_b54 Δ Γ d x1 x2 x3) (X_mo_join_b54 Δ Γ d x1 x2 x3)) (WAt Δ Γ false m_mo_join (d + 1) 54 [vR (278), vI (x1), vI (x2), vI (x3), vI (x4), vN] [] (NG, S0, M) 0 0) := by
  unfold mo_join_b54
  refine J.mono (fun k => w_iload rfl rfl (w_iload_n rfl rfl k)) ?_
  refine J_ite (fun hc16 => ?_) (fun hc16 => ?_)
  · refine J.mono (fun k => s_icmp_ge_t rfl hc16 k) ?_
    exact J_some (fun k => w_forget (wk_k (wk_d (wk_d (wk_d (wk_d (wk_d wk_0)))))) k)
  · refine J.mono (fun k => s_icmp_ge_f rfl hc16 (w_aload_n rfl rfl (w_aload_n rfl rfl (w_getR (r := 292) rfl (Nat.le_of_ble_eq_true rfl) S_278 rfl k)))) ?_
    refine J_c (fun M18 e17 => ?_)
    refine J.mono (fun k => c_vv1 rfl (fun ho hM => cal_mo_goMinute (by omega) (isArr_len A_292) e17 ho hM) v_mo_goMinute (Nat.le_of_ble_eq_true rfl) S_278 rfl (Nat.le_of_ble_eq_true rfl) (w_aload_n rfl rfl (w_getR (r := 303) rfl (Nat.le_of_ble_eq_true rfl) S_278 rfl (w_aload_n rfl rfl (w_getR (r := 292) rfl (Nat.le_of_ble_eq_true rfl) S_278 rfl (w_bipush rfl (bip_c rfl) (w_iload_n rfl rfl (w_imul rfl (w_iconst rfl (inR_c rfl) (w_iadd rfl k)))))))))) ?_
    refine J_chk (fun hi19 => ?_)
    refine J.mono (fun k => w_iald rfl A_292.1 A_292.2 hi19.1 hi19.2 (w_bipush rfl (bip_c rfl) (w_irem rfl (by decide) (w_bipush rfl (bip_c rfl) (w_iadd rfl (w_aload_n rfl rfl (w_getR (r := 292) rfl (Nat.le_of_ble_eq_true rfl) S_278 rfl (w_bipush rfl (bip_c rfl) (w_iload_n rfl rfl (w_imul rfl (w_iconst rfl (inR_c rfl) (w_iadd rfl k)))))))))))) ?_
    refine J_chk (fun hi20 => ?_)
    refine J.mono (fun k => w_iald rfl A_292.1 A_292.2 hi20.1 hi20.2 (w_bipush rfl (bip_c rfl) (w_irem rfl (by decide) (w_isub rfl (w_bipush rfl (bip_c rfl) (w_irem rfl (by decide) (w_dup2 rfl (fun _ h => by cases h) (fun _ h => by cases h) k))))))) ?_
    refine J_chk (fun hi21 => ?_)
    refine J.mono (fun k => w_iald rfl A_303.1 A_303.2 hi21.1 hi21.2 (w_iconst rfl (inR_c rfl) (w_iadd rfl k))) ?_
    refine J_chk (fun hi23 => ?_)
    refine J_b ?_
    refine J.mono (fun k => w_iast rfl A_303.1 A_303.2 hi23.1 hi23.2 rfl (s_iinc4 rfl (Nat.le_of_ble_eq_true rfl) (w_goto rfl k))) ?_
    exact J_some (fun k => w_forget (wk_k (wk_k (wk_k (wk_k (wk_k (wk_d wk_0)))))) k)
set_option maxRecDepth 20000 in
set_option maxHeartbeats 4000000 in
theorem Jl_mo_join_b54 {Δ : DT} {Γ : FT} {d : Nat} (hd : 76 ≤ d + 1) {x1 : Int} {x2 : Int} {x3 : Int}   : ∀ (n : Nat) (s : Int × MEM), J (iter (fun s => mo_join_b54 x1 x2 x3 s.1 s.2) n s) (X_mo_join_b54 Δ Γ d x1 x2 x3) (HD_mo_join_b54 Δ Γ d x1 x2 x3 s) := J_iter (fun s => Jb_mo_join_b54 hd )
abbrev HD_mo_join_b124 (Δ : DT) (Γ : FT) (d : Nat)  (M : MEM) (s : Int × Int) : Prop := WAt Δ Γ false m_mo_join (d + 1) 124 [vR (278), vN, vN, vN, vI (s.1), vI (s.2)] [] (NG, S0, M) 0 0
abbrev X_mo_join_b124 (Δ : DT) (Γ : FT) (d : Nat)  (M : MEM) (s : Int × Int) : Prop := WAt Δ Γ false m_mo_join (d + 1) 158 [vR (278), vN, vN, vN, vI (s.1), vN] [] (NG, S0, M) 0 0
set_option maxRecDepth 20000 in
set_option maxHeartbeats 4000000 in
theorem J_mo_join_j152_124 {Δ : DT} {Γ : FT} {d : Nat} (hd : 76 ≤ d + 1) {x4 : Int} {x5 : Int}  {M : MEM} : J (mo_join_j152_124 x4 x5 M) (Sum.elim (HD_mo_join_b124 Δ Γ d  M) (X_mo_join_b124 Δ Γ d  M)) (WAt Δ Γ false m_mo_join (d + 1) 152 [vR (278), vN, vN, vN, vI (x4), vI (x5)] [] (NG, S0, M) 0 0) := by
  unfold mo_join_j152_124
  refine J.mono (fun k => s_iinc5 rfl (Nat.le_of_ble_eq_true rfl) (w_goto rfl k)) ?_
  exact J_some (fun k => w_forget (wk_k (wk_d (wk_d (wk_d (wk_k (wk_k wk_0)))))) k)
set_option maxRecDepth 20000 in
set_option maxHeartbeats 4000000 in
theorem Jb_mo_join_b124 {Δ : DT} {Γ : FT} {d : Nat} (hd : 76 ≤ d + 1)   {x4 : Int} {x5 : Int} {M : MEM} : J (mo_join_b124  x4 x5 M) (Sum.elim (HD_mo_join_b124 Δ Γ d  M) (X_mo_join_b124 Δ Γ d  M)) (WAt Δ Γ false m_mo_join (d + 1) 124 [vR (278), vN, vN, vN, vI (x4), vI (x5)] [] (NG, S0, M) 0 0) := by
  unfold mo_join_b124
  refine J.mono (fun k => w_iload rfl rfl (w_bipush rfl (bip_c rfl) k)) ?_
  refine J_ite (fun hc25 => ?_) (fun hc25 => ?_)
  · refine J.mono (fun k => s_icmp_ge_t rfl hc25 k) ?_
    exact J_some (fun k => w_forget (wk_k (wk_d (wk_d (wk_d (wk_k (wk_d wk_0)))))) k)
  · refine J.mono (fun k => s_icmp_ge_f rfl hc25 (w_aload_n rfl rfl (w_getR (r := 303) rfl (Nat.le_of_ble_eq_true rfl) S_278 rfl (w_iload rfl rfl k)))) ?_
    refine J_chk (fun hi26 => ?_)
    refine J.mono (fun k => w_iald rfl A_303.1 A_303.2 hi26.1 hi26.2 (w_aload_n rfl rfl (w_getR (r := 303) rfl (Nat.le_of_ble_eq_true rfl) S_278 rfl (w_iload rfl rfl k)))) ?_
    refine J_chk (fun hi27 => ?_)
    refine J.mono (fun k => w_iald rfl A_303.1 A_303.2 hi27.1 hi27.2 k) ?_
    refine J_ite (fun hc28 => ?_) (fun hc28 => ?_)
    · refine J.mono (fun k => s_icmp_le_t rfl hc28 k) ?_
      exact J.mono (fun k => w_forget (wk_k (wk_d (wk_d (wk_d (wk_k (wk_k wk_0)))))) k) (J_mo_join_j152_124 hd )
    · refine J.mono (fun k => s_icmp_le_f rfl hc28 (w_iload rfl rfl (s_istore4 rfl (Nat.le_of_ble_eq_true rfl) k))) ?_
      exact J.mono (fun k => w_forget (wk_k (wk_d (wk_d (wk_d (wk_k (wk_k wk_0)))))) k) (J_mo_join_j152_124 hd )
set_option maxRecDepth 20000 in
set_option maxHeartbeats 4000000 in
theorem Jl_mo_join_b124 {Δ : DT} {Γ : FT} {d : Nat} (hd : 76 ≤ d + 1)   {M : MEM} : ∀ (n : Nat) (s : Int × Int), J (iter (fun s => mo_join_b124  s.1 s.2 M) n s) (X_mo_join_b124 Δ Γ d  M) (HD_mo_join_b124 Δ Γ d  M s) := J_iter (fun s => Jb_mo_join_b124 hd )
set_option maxRecDepth 20000 in
set_option maxHeartbeats 4000000 in
theorem J_mo_join {Δ : DT} {Γ : FT} {d : Nat} (hd : 76 ≤ d + 1) {x1 : Int} {x2 : Int} {x3 : Int}  {M : MEM} : J (mo_join x1 x2 x3 M) (K_IM Δ Γ m_mo_join) (WAt Δ Γ false m_mo_join (d + 1) 0 [vR (278), vI (x1), vI (x2), vI (x3), vN, vN] [] (NG, S0, M) 0 0) := by
  unfold mo_join
  refine J.mono (fun k => w_aload_n rfl rfl (w_iconst rfl (inR_c rfl) k)) ?_
  refine J_b ?_
  refine J.mono (fun k => w_putI rfl (Nat.le_of_ble_eq_true rfl) S_278 rfl rfl (w_aload_n rfl rfl (w_iload_n rfl rfl (w_iload_n rfl rfl k)))) ?_
  refine J_hyp (fun k => c_vi2 rfl (fun ho hM => cal_mo_areTwo (by omega)   ho hM) v_mo_areTwo (Nat.le_of_ble_eq_true rfl) S_278 rfl (Nat.le_of_ble_eq_true rfl) k) (fun hr3 hb4 => ?_)
  refine J_ite (fun hc5 => ?_) (fun hc5 => ?_)
  · refine J.mono (fun k => s_if_eq_t rfl hc5 (w_iconst rfl (inR_c rfl) k)) ?_
    exact J_some (fun k => w_ireturn rfl rfl k)
  · refine J.mono (fun k => s_if_eq_f rfl hc5 (w_iload_n rfl rfl k)) ?_
    refine J_hyp (fun k => c_si1 rfl rfl (fun ho hM => cal_mo_isMore (by omega)   ho hM) v_mo_isMore (Nat.le_of_ble_eq_true rfl) k) (fun hr7 hb8 => ?_)
    refine J_ite (fun hc9 => ?_) (fun hc9 => ?_)
    · refine J.mono (fun k => s_if_ne_f rfl hc9 (w_iconst rfl (inR_c rfl) k)) ?_
      exact J_some (fun k => w_ireturn rfl rfl k)
    · refine J.mono (fun k => s_if_ne_t rfl hc9 (w_iconst rfl (inR_c rfl) (s_istore4 rfl (Nat.le_of_ble_eq_true rfl) k))) ?_
      refine J.mono (fun k => w_forget (wk_k (wk_k (wk_k (wk_k (wk_k (wk_d wk_0)))))) k) ?_
      refine J_loop (Jl_mo_join_b26 hd  _ _) (fun w13 => ?_)
      refine J.mono (fun k => w_aload_n rfl rfl k) ?_
      refine J_c (fun M15 e14 => ?_)
      refine J.mono (fun k => c_vv0 rfl (fun ho hM => cal_mo_beginThen (by omega)  e14 ho hM) v_mo_beginThen (Nat.le_of_ble_eq_true rfl) S_278 rfl (Nat.le_of_ble_eq_true rfl) (w_iconst rfl (inR_c rfl) (s_istore4 rfl (Nat.le_of_ble_eq_true rfl) k))) ?_
      refine J.mono (fun k => w_forget (wk_k (wk_k (wk_k (wk_k (wk_k (wk_d wk_0)))))) k) ?_
      refine J_loop (Jl_mo_join_b54 hd  _ _) (fun w24 => ?_)
      refine J.mono (fun k => w_iconst rfl (inR_c rfl) (s_istore4 rfl (Nat.le_of_ble_eq_true rfl) (w_iconst rfl (inR_c rfl) (s_istore5 rfl (Nat.le_of_ble_eq_true rfl) k)))) ?_
      refine J.mono (fun k => w_forget (wk_k (wk_d (wk_d (wk_d (wk_k (wk_k wk_0)))))) k) ?_
      refine J_loop (Jl_mo_join_b124 hd  _ _) (fun w29 => ?_)
      refine J.mono (fun k => w_aload_n rfl rfl (w_iconst rfl (inR_c rfl) k)) ?_
      refine J_b ?_
      refine J.mono (fun k => w_putI rfl (Nat.le_of_ble_eq_true rfl) S_278 rfl rfl (w_aload_n rfl rfl (w_iload rfl rfl k))) ?_
      refine J_c (fun M32 e31 => ?_)
      refine J.mono (fun k => c_vv1 rfl (fun ho hM => cal_mo_tell (by omega)  e31 ho hM) v_mo_tell (Nat.le_of_ble_eq_true rfl) S_278 rfl (Nat.le_of_ble_eq_true rfl) (w_aload_n rfl rfl (w_aload_n rfl rfl (w_getR (r := 303) rfl (Nat.le_of_ble_eq_true rfl) S_278 rfl (w_iload rfl rfl k))))) ?_
      refine J_chk (fun hi33 => ?_)
      refine J.mono (fun k => w_iald rfl A_303.1 A_303.2 hi33.1 hi33.2 k) ?_
      refine J_c (fun M35 e34 => ?_)
      refine J.mono (fun k => c_vv1 rfl (fun ho hM => cal_mo_tell (by omega)  e34 ho hM) v_mo_tell (Nat.le_of_ble_eq_true rfl) S_278 rfl (Nat.le_of_ble_eq_true rfl) (w_aload_n rfl rfl (w_getR (r := 303) rfl (Nat.le_of_ble_eq_true rfl) S_278 rfl (w_iconst rfl (inR_c rfl) (w_iald rfl A_303.1 A_303.2 (by decide) (by decide) k))))) ?_
      exact J_some (fun k => w_ireturn rfl rfl k)
set_option maxRecDepth 20000 in
set_option maxHeartbeats 4000000 in
theorem cal_mo_join {Δ : DT} {d : Nat} (hd : 76 ≤ d) {x1 : Int} {x2 : Int} {x3 : Int}  {M : MEM} {p : Int × MEM} (h : mo_join x1 x2 x3 M = some p) (ho : okVs [vR 278, vI x1, vI x2, vI x3]) (hM : okM M) : Cal Δ false m_mo_join d [vR 278, vI x1, vI x2, vI x3] (NG, S0, M) (some p.1) (NG, S0, p.2) 0 0 := by
  obtain ⟨d, rfl⟩ : ∃ e, d = e + 1 := ⟨d - 1, by omega⟩
  exact cal_of g_mo_join p_mo_join (fun v hv => by simp only [List.mem_cons, List.not_mem_nil, or_false] at hv; rcases hv with rfl | rfl | rfl | rfl <;> first | exact Or.inl ⟨_, rfl⟩ | exact Or.inr ⟨_, rfl⟩) ho hM (Nat.le_of_ble_eq_true rfl) (fun Γ _ k => J_mo_join hd  _ h k)
abbrev HD_mo_shows_b36 (Δ : DT) (Γ : FT) (d : Nat) (x1 : Int) (x2 : Int) (x3 : Int) (s : Int × Int × MEM) : Prop := WAt Δ Γ false m_mo_shows (d + 1) 36 [vR (278), vI (x1), vI (x2), vI (x3), vI (s.1), vI (s.2.1)] [] (NG, S0, s.2.2) 0 0
abbrev X_mo_shows_b36 (Δ : DT) (Γ : FT) (d : Nat) (x1 : Int) (x2 : Int) (x3 : Int) : (Int × MEM) ⊕ (Int × Int × MEM) → Prop := Sum.elim (K_IM Δ Γ m_mo_shows) (fun s => WAt Δ Γ false m_mo_shows (d + 1) 90 [vN, vN, vN, vN, vN, vN] [] (NG, S0, s.2.2) 0 0)
set_option maxRecDepth 20000 in
set_option maxHeartbeats 4000000 in
theorem Jb_mo_shows_b36 {Δ : DT} {Γ : FT} {d : Nat} (hd : 76 ≤ d + 1) {x1 : Int} {x2 : Int} {x3 : Int}  {x4 : Int} {x5 : Int} {M : MEM} : J (mo_shows_b36 x1 x2 x3 x4 x5 M) (Sum.elim (HD_mo_shows_b36 Δ Γ d x1 x2 x3) (X_mo_shows_b36 Δ Γ d x1 x2 x3)) (WAt Δ Γ false m_mo_shows (d + 1) 36 [vR (278), vI (x1), vI (x2), vI (x3), vI (x4), vI (x5)] [] (NG, S0, M) 0 0) := by
  unfold mo_shows_b36
  refine J.mono (fun k => w_iload rfl rfl (w_sipush rfl (sip_c rfl) k)) ?_
  refine J_ite (fun hc12 => ?_) (fun hc12 => ?_)
  · refine J.mono (fun k => s_icmp_ge_t rfl hc12 k) ?_
    exact J_some (fun k => w_forget (wk_d (wk_d (wk_d (wk_d (wk_d (wk_d wk_0)))))) k)
  · refine J.mono (fun k => s_icmp_ge_f rfl hc12 (w_aload_n rfl rfl (w_aload_n rfl rfl (w_getR (r := 292) rfl (Nat.le_of_ble_eq_true rfl) S_278 rfl k)))) ?_
    refine J_c (fun M14 e13 => ?_)
    refine J.mono (fun k => c_vv1 rfl (fun ho hM => cal_mo_goMinute (by omega) (isArr_len A_292) e13 ho hM) v_mo_goMinute (Nat.le_of_ble_eq_true rfl) S_278 rfl (Nat.le_of_ble_eq_true rfl) (w_iload rfl rfl (w_aload_n rfl rfl (w_getR (r := 287) rfl (Nat.le_of_ble_eq_true rfl) S_278 rfl (w_iload_n rfl rfl k))))) ?_
    refine J_chk (fun hi15 => ?_)
    refine J.mono (fun k => w_iald rfl A_287.1 A_287.2 hi15.1 hi15.2 (w_iadd rfl (s_istore4 rfl (Nat.le_of_ble_eq_true rfl) (w_iload rfl rfl (w_iload_n rfl rfl k))))) ?_
    refine J_ite (fun hc16 => ?_) (fun hc16 => ?_)
    · refine J.mono (fun k => s_icmp_lt_t rfl hc16 (s_iinc5 rfl (Nat.le_of_ble_eq_true rfl) (w_goto rfl k))) ?_
      exact J_some (fun k => w_forget (wk_k (wk_k (wk_k (wk_k (wk_k (wk_k wk_0)))))) k)
    · refine J.mono (fun k => s_icmp_lt_f rfl hc16 (w_aload_n rfl rfl (w_getR (r := 292) rfl (Nat.le_of_ble_eq_true rfl) S_278 rfl (w_bipush rfl (bip_c rfl) (w_iload_n rfl rfl (w_imul rfl (w_iconst rfl (inR_c rfl) (w_iadd rfl k)))))))) ?_
      refine J_chk (fun hi17 => ?_)
      refine J.mono (fun k => w_iald rfl A_292.1 A_292.2 hi17.1 hi17.2 (w_bipush rfl (bip_c rfl) (w_irem rfl (by decide) k))) ?_
      exact J_some (fun k => w_ireturn rfl rfl k)
set_option maxRecDepth 20000 in
set_option maxHeartbeats 4000000 in
theorem Jl_mo_shows_b36 {Δ : DT} {Γ : FT} {d : Nat} (hd : 76 ≤ d + 1) {x1 : Int} {x2 : Int} {x3 : Int}   : ∀ (n : Nat) (s : Int × Int × MEM), J (iter (fun s => mo_shows_b36 x1 x2 x3 s.1 s.2.1 s.2.2) n s) (X_mo_shows_b36 Δ Γ d x1 x2 x3) (HD_mo_shows_b36 Δ Γ d x1 x2 x3 s) := J_iter (fun s => Jb_mo_shows_b36 hd )
set_option maxRecDepth 20000 in
set_option maxHeartbeats 4000000 in
theorem J_mo_shows {Δ : DT} {Γ : FT} {d : Nat} (hd : 76 ≤ d + 1) {x1 : Int} {x2 : Int} {x3 : Int}  {M : MEM} : J (mo_shows x1 x2 x3 M) (K_IM Δ Γ m_mo_shows) (WAt Δ Γ false m_mo_shows (d + 1) 0 [vR (278), vI (x1), vI (x2), vI (x3), vN, vN] [] (NG, S0, M) 0 0) := by
  unfold mo_shows
  refine J.mono (fun k => w_aload_n rfl rfl (w_iconst rfl (inR_c rfl) k)) ?_
  refine J_b ?_
  refine J.mono (fun k => w_putI rfl (Nat.le_of_ble_eq_true rfl) S_278 rfl rfl (w_aload_n rfl rfl (w_iload_n rfl rfl (w_iload_n rfl rfl k)))) ?_
  refine J_hyp (fun k => c_vi2 rfl (fun ho hM => cal_mo_areTwo (by omega)   ho hM) v_mo_areTwo (Nat.le_of_ble_eq_true rfl) S_278 rfl (Nat.le_of_ble_eq_true rfl) k) (fun hr3 hb4 => ?_)
  refine J_ite (fun hc5 => ?_) (fun hc5 => ?_)
  · refine J.mono (fun k => s_if_eq_t rfl hc5 (w_iconst rfl (inR_c rfl) k)) ?_
    exact J_some (fun k => w_ireturn rfl rfl k)
  · refine J.mono (fun k => s_if_eq_f rfl hc5 (w_iload_n rfl rfl (w_iconst rfl (inR_c rfl) (w_bipush rfl (bip_c rfl) k)))) ?_
    refine J_hyp (fun k => c_si3 rfl rfl (fun ho hM => cal_mo_in (by omega)   ho hM) v_mo_in (Nat.le_of_ble_eq_true rfl) k) (fun hr7 hb8 => ?_)
    refine J_ite (fun hc9 => ?_) (fun hc9 => ?_)
    · refine J.mono (fun k => s_if_ne_f rfl hc9 (w_iconst rfl (inR_c rfl) k)) ?_
      exact J_some (fun k => w_ireturn rfl rfl k)
    · refine J.mono (fun k => s_if_ne_t rfl hc9 (w_aload_n rfl rfl k)) ?_
      refine J_c (fun M11 e10 => ?_)
      refine J.mono (fun k => c_vv0 rfl (fun ho hM => cal_mo_beginThen (by omega)  e10 ho hM) v_mo_beginThen (Nat.le_of_ble_eq_true rfl) S_278 rfl (Nat.le_of_ble_eq_true rfl) (w_iconst rfl (inR_c rfl) (s_istore4 rfl (Nat.le_of_ble_eq_true rfl) (w_iconst rfl (inR_c rfl) (s_istore5 rfl (Nat.le_of_ble_eq_true rfl) k))))) ?_
      refine J.mono (fun k => w_forget (wk_k (wk_k (wk_k (wk_k (wk_k (wk_k wk_0)))))) k) ?_
      refine J_loop (Jl_mo_shows_b36 hd  _ _) (fun w18 => ?_)
      refine J_elim (fun r => J_some (fun k => k)) (fun w18 => ?_)
      refine J.mono (fun k => w_bipush rfl (bip_c rfl) k) ?_
      exact J_some (fun k => w_ireturn rfl rfl k)
set_option maxRecDepth 20000 in
set_option maxHeartbeats 4000000 in
theorem cal_mo_shows {Δ : DT} {d : Nat} (hd : 76 ≤ d) {x1 : Int} {x2 : Int} {x3 : Int}  {M : MEM} {p : Int × MEM} (h : mo_shows x1 x2 x3 M = some p) (ho : okVs [vR 278, vI x1, vI x2, vI x3]) (hM : okM M) : Cal Δ false m_mo_shows d [vR 278, vI x1, vI x2, vI x3] (NG, S0, M) (some p.1) (NG, S0, p.2) 0 0 := by
  obtain ⟨d, rfl⟩ : ∃ e, d = e + 1 := ⟨d - 1, by omega⟩
  exact cal_of g_mo_shows p_mo_shows (fun v hv => by simp only [List.mem_cons, List.not_mem_nil, or_false] at hv; rcases hv with rfl | rfl | rfl | rfl <;> first | exact Or.inl ⟨_, rfl⟩ | exact Or.inr ⟨_, rfl⟩) ho hM (Nat.le_of_ble_eq_true rfl) (fun Γ _ k => J_mo_shows hd  _ h k)
set_option maxRecDepth 20000 in
set_option maxHeartbeats 4000000 in
theorem J_mo_boils {Δ : DT} {Γ : FT} {d : Nat} {x1 : Int}  {M : MEM} : J (mo_boils x1 M) (K_I Δ Γ m_mo_boils M) (WAt Δ Γ false m_mo_boils d 0 [vR (278), vI (x1)] [] (NG, S0, M) 0 0) := by
  unfold mo_boils
  refine J.mono (fun k => w_aload_n rfl rfl (w_getR (r := 293) rfl (Nat.le_of_ble_eq_true rfl) S_278 rfl (w_iload_n rfl rfl k))) ?_
  refine J_chk (fun hi1 => ?_)
  refine J.mono (fun k => w_iald rfl A_293.1 A_293.2 hi1.1 hi1.2 (w_aload_n rfl rfl (w_getR (r := 293) rfl (Nat.le_of_ble_eq_true rfl) S_278 rfl (w_iconst rfl (inR_c rfl) (w_iald rfl A_293.1 A_293.2 (by decide) (by decide) (w_isub rfl k)))))) ?_
  exact J_some (fun k => w_ireturn rfl rfl k)
set_option maxRecDepth 20000 in
set_option maxHeartbeats 4000000 in
theorem cal_mo_boils {Δ : DT} {d : Nat} (hd : 0 ≤ d) {x1 : Int}  {M : MEM} {r : Int} (h : mo_boils x1 M = some r) (ho : okVs [vR 278, vI x1]) (hM : okM M) : Cal Δ false m_mo_boils d [vR 278, vI x1] (NG, S0, M) (some r) (NG, S0, M) 0 0 := by
  exact cal_of g_mo_boils p_mo_boils (fun v hv => by simp only [List.mem_cons, List.not_mem_nil, or_false] at hv; rcases hv with rfl | rfl <;> first | exact Or.inl ⟨_, rfl⟩ | exact Or.inr ⟨_, rfl⟩) ho hM (Nat.le_of_ble_eq_true rfl) (fun Γ _ k => J_mo_boils  _ h k)
abbrev HD_mo_egg_b54 (Δ : DT) (Γ : FT) (d : Nat) (x2 : Int) (x3 : Int) (M : MEM) (s : Int × Int) : Prop := WAt Δ Γ false m_mo_egg (d + 1) 54 [vR (278), vN, vI (x2), vI (x3), vI (s.1), vI (s.2)] [] (NG, S0, M) 0 0
abbrev X_mo_egg_b54 (Δ : DT) (Γ : FT) (d : Nat) (x2 : Int) (x3 : Int) (M : MEM) (s : Int × Int) : Prop := WAt Δ Γ false m_mo_egg (d + 1) 105 [vR (278), vN, vI (x2), vN, vI (s.1), vN] [] (NG, S0, M) 0 0
set_option maxRecDepth 20000 in
set_option maxHeartbeats 4000000 in
theorem J_mo_egg_j99_54 {Δ : DT} {Γ : FT} {d : Nat} (hd : 78 ≤ d + 1) {x2 : Int} {x3 : Int} {x4 : Int} {x5 : Int}  {M : MEM} : J (mo_egg_j99_54 x2 x3 x4 x5 M) (Sum.elim (HD_mo_egg_b54 Δ Γ d x2 x3 M) (X_mo_egg_b54 Δ Γ d x2 x3 M)) (WAt Δ Γ false m_mo_egg (d + 1) 99 [vR (278), vN, vI (x2), vI (x3), vI (x4), vI (x5)] [] (NG, S0, M) 0 0) := by
  unfold mo_egg_j99_54
  refine J.mono (fun k => s_iinc5 rfl (Nat.le_of_ble_eq_true rfl) (w_goto rfl k)) ?_
  exact J_some (fun k => w_forget (wk_k (wk_d (wk_k (wk_k (wk_k (wk_k wk_0)))))) k)
set_option maxRecDepth 20000 in
set_option maxHeartbeats 4000000 in
theorem Jb_mo_egg_b54 {Δ : DT} {Γ : FT} {d : Nat} (hd : 78 ≤ d + 1) {x2 : Int} {x3 : Int}  {x4 : Int} {x5 : Int} {M : MEM} : J (mo_egg_b54 x2 x3 x4 x5 M) (Sum.elim (HD_mo_egg_b54 Δ Γ d x2 x3 M) (X_mo_egg_b54 Δ Γ d x2 x3 M)) (WAt Δ Γ false m_mo_egg (d + 1) 54 [vR (278), vN, vI (x2), vI (x3), vI (x4), vI (x5)] [] (NG, S0, M) 0 0) := by
  unfold mo_egg_b54
  refine J.mono (fun k => w_iload rfl rfl (w_bipush rfl (bip_c rfl) k)) ?_
  refine J_ite (fun hc17 => ?_) (fun hc17 => ?_)
  · refine J.mono (fun k => s_icmp_gt_t rfl hc17 k) ?_
    exact J_some (fun k => w_forget (wk_k (wk_d (wk_k (wk_d (wk_k (wk_d wk_0)))))) k)
  · refine J.mono (fun k => s_icmp_gt_f rfl hc17 (w_iload rfl rfl (w_aload_n rfl rfl (w_getI rfl (Nat.le_of_ble_eq_true rfl) S_278 rfl k)))) ?_
    refine J_ite (fun hc18 => ?_) (fun hc18 => ?_)
    · refine J.mono (fun k => s_icmp_ge_t rfl hc18 k) ?_
      exact J_some (fun k => w_forget (wk_k (wk_d (wk_k (wk_d (wk_k (wk_d wk_0)))))) k)
    · refine J.mono (fun k => s_icmp_ge_f rfl hc18 (w_aload_n rfl rfl (w_iload rfl rfl k))) ?_
      refine J_c (fun r20 e19 => ?_)
      refine J_hyp (fun k => c_vi1 rfl (fun ho hM => cal_mo_boils (by omega)  e19 ho hM) v_mo_boils (Nat.le_of_ble_eq_true rfl) S_278 rfl (Nat.le_of_ble_eq_true rfl) k) (fun hr21 hb22 => ?_)
      refine J.mono (fun k => w_iload_n rfl rfl (w_isub rfl k)) ?_
      refine J.mono (fun k => w_mabs rfl (Nat.le_of_ble_eq_true rfl) k) ?_
      refine J.mono (fun k => w_aload_n rfl rfl (w_iload rfl rfl k)) ?_
      refine J_c (fun r24 e23 => ?_)
      refine J_hyp (fun k => c_vi1 rfl (fun ho hM => cal_mo_boils (by omega)  e23 ho hM) v_mo_boils (Nat.le_of_ble_eq_true rfl) S_278 rfl (Nat.le_of_ble_eq_true rfl) k) (fun hr25 hb26 => ?_)
      refine J.mono (fun k => w_iload_n rfl rfl (w_isub rfl k)) ?_
      refine J.mono (fun k => w_mabs rfl (Nat.le_of_ble_eq_true rfl) k) ?_
      refine J_ite (fun hc27 => ?_) (fun hc27 => ?_)
      · refine J.mono (fun k => s_icmp_ge_t rfl hc27 k) ?_
        exact J.mono (fun k => w_forget (wk_k (wk_d (wk_k (wk_k (wk_k (wk_k wk_0)))))) k) (J_mo_egg_j99_54 hd )
      · refine J.mono (fun k => s_icmp_ge_f rfl hc27 (w_iload rfl rfl (s_istore4 rfl (Nat.le_of_ble_eq_true rfl) k))) ?_
        exact J.mono (fun k => w_forget (wk_k (wk_d (wk_k (wk_k (wk_k (wk_k wk_0)))))) k) (J_mo_egg_j99_54 hd )
set_option maxRecDepth 20000 in
set_option maxHeartbeats 4000000 in
theorem Jl_mo_egg_b54 {Δ : DT} {Γ : FT} {d : Nat} (hd : 78 ≤ d + 1) {x2 : Int} {x3 : Int}  {M : MEM} : ∀ (n : Nat) (s : Int × Int), J (iter (fun s => mo_egg_b54 x2 x3 s.1 s.2 M) n s) (X_mo_egg_b54 Δ Γ d x2 x3 M) (HD_mo_egg_b54 Δ Γ d x2 x3 M s) := J_iter (fun s => Jb_mo_egg_b54 hd )
set_option maxRecDepth 20000 in
set_option maxHeartbeats 4000000 in
theorem J_mo_egg_j105 {Δ : DT} {Γ : FT} {d : Nat} (hd : 78 ≤ d + 1) {x2 : Int} {x4 : Int}  {M : MEM} : J (mo_egg_j105 x2 x4 M) (K_IM Δ Γ m_mo_egg) (WAt Δ Γ false m_mo_egg (d + 1) 105 [vR (278), vN, vI (x2), vN, vI (x4), vN] [] (NG, S0, M) 0 0) := by
  unfold mo_egg_j105
  refine J.mono (fun k => w_aload_n rfl rfl (w_iconst rfl (inR_c rfl) k)) ?_
  refine J_b ?_
  refine J.mono (fun k => w_putI rfl (Nat.le_of_ble_eq_true rfl) S_278 rfl rfl (w_aload_n rfl rfl (w_iload rfl rfl k))) ?_
  refine J_c (fun M31 e30 => ?_)
  refine J.mono (fun k => c_vv1 rfl (fun ho hM => cal_mo_tell (by omega)  e30 ho hM) v_mo_tell (Nat.le_of_ble_eq_true rfl) S_278 rfl (Nat.le_of_ble_eq_true rfl) (w_aload_n rfl rfl (w_aload_n rfl rfl (w_iload rfl rfl k)))) ?_
  refine J_c (fun r33 e32 => ?_)
  refine J_hyp (fun k => c_vi1 rfl (fun ho hM => cal_mo_boils (by omega)  e32 ho hM) v_mo_boils (Nat.le_of_ble_eq_true rfl) S_278 rfl (Nat.le_of_ble_eq_true rfl) k) (fun hr34 hb35 => ?_)
  refine J_c (fun M37 e36 => ?_)
  refine J.mono (fun k => c_vv1 rfl (fun ho hM => cal_mo_tell (by omega)  e36 ho hM) v_mo_tell (Nat.le_of_ble_eq_true rfl) S_278 rfl (Nat.le_of_ble_eq_true rfl) (w_aload_n rfl rfl (w_iload_n rfl rfl k))) ?_
  refine J_c (fun r39 e38 => ?_)
  refine J_hyp (fun k => c_vi1 rfl (fun ho hM => cal_mo_boils (by omega)  e38 ho hM) v_mo_boils (Nat.le_of_ble_eq_true rfl) S_278 rfl (Nat.le_of_ble_eq_true rfl) k) (fun hr40 hb41 => ?_)
  exact J_some (fun k => w_ireturn rfl rfl k)
set_option maxRecDepth 20000 in
set_option maxHeartbeats 4000000 in
theorem J_mo_egg {Δ : DT} {Γ : FT} {d : Nat} (hd : 78 ≤ d + 1) {x1 : Int} {x2 : Int} {x3 : Int}  {M : MEM} : J (mo_egg x1 x2 x3 M) (K_IM Δ Γ m_mo_egg) (WAt Δ Γ false m_mo_egg (d + 1) 0 [vR (278), vI (x1), vI (x2), vI (x3), vN, vN] [] (NG, S0, M) 0 0) := by
  unfold mo_egg
  refine J.mono (fun k => w_aload_n rfl rfl (w_iconst rfl (inR_c rfl) k)) ?_
  refine J_b ?_
  refine J.mono (fun k => w_putI rfl (Nat.le_of_ble_eq_true rfl) S_278 rfl rfl (w_aload_n rfl rfl (w_iload_n rfl rfl k))) ?_
  refine J_hyp (fun k => c_vi1 rfl (fun ho hM => cal_mo_isDonkey (by omega)   ho hM) v_mo_isDonkey (Nat.le_of_ble_eq_true rfl) S_278 rfl (Nat.le_of_ble_eq_true rfl) k) (fun hr3 hb4 => ?_)
  refine J_ite (fun hc5 => ?_) (fun hc5 => ?_)
  · refine J.mono (fun k => s_if_eq_t rfl hc5 (w_iconst rfl (inR_c rfl) k)) ?_
    exact J_some (fun k => w_ireturn rfl rfl k)
  · refine J.mono (fun k => s_if_eq_f rfl hc5 (w_iload_n rfl rfl (w_iconst rfl (inR_c rfl) (w_bipush rfl (bip_c rfl) k)))) ?_
    refine J_hyp (fun k => c_si3 rfl rfl (fun ho hM => cal_mo_in (by omega)   ho hM) v_mo_in (Nat.le_of_ble_eq_true rfl) k) (fun hr7 hb8 => ?_)
    refine J_ite (fun hc9 => ?_) (fun hc9 => ?_)
    · refine J.mono (fun k => s_if_eq_t rfl hc9 (w_iconst rfl (inR_c rfl) k)) ?_
      exact J_some (fun k => w_ireturn rfl rfl k)
    · refine J.mono (fun k => s_if_eq_f rfl hc9 (w_iload_n rfl rfl k)) ?_
      refine J_hyp (fun k => c_si1 rfl rfl (fun ho hM => cal_mo_isMore (by omega)   ho hM) v_mo_isMore (Nat.le_of_ble_eq_true rfl) k) (fun hr11 hb12 => ?_)
      refine J_ite (fun hc13 => ?_) (fun hc13 => ?_)
      · refine J.mono (fun k => s_if_ne_f rfl hc13 (w_iconst rfl (inR_c rfl) k)) ?_
        exact J_some (fun k => w_ireturn rfl rfl k)
      · refine J.mono (fun k => s_if_ne_t rfl hc13 (w_aload_n rfl rfl (w_iload_n rfl rfl k))) ?_
        refine J_c (fun M15 e14 => ?_)
        refine J.mono (fun k => c_vv1 rfl (fun ho hM => cal_mo_timesNow (by omega)  e14 ho hM) v_mo_timesNow (Nat.le_of_ble_eq_true rfl) S_278 rfl (Nat.le_of_ble_eq_true rfl) (w_aload_n rfl rfl (w_getI rfl (Nat.le_of_ble_eq_true rfl) S_278 rfl (w_iload_n rfl rfl k)))) ?_
        refine J_ite (fun hc16 => ?_) (fun hc16 => ?_)
        · refine J.mono (fun k => s_icmp_gt_t rfl hc16 (w_iconst rfl (inR_c rfl) (s_istore4 rfl (Nat.le_of_ble_eq_true rfl) (w_iconst rfl (inR_c rfl) (s_istore5 rfl (Nat.le_of_ble_eq_true rfl) k))))) ?_
          refine J.mono (fun k => w_forget (wk_k (wk_d (wk_k (wk_k (wk_k (wk_k wk_0)))))) k) ?_
          refine J_loop (Jl_mo_egg_b54 hd  _ _) (fun w28 => ?_)
          exact J.mono (fun k => w_forget (wk_k (wk_d (wk_k (wk_d (wk_k (wk_d wk_0)))))) k) (J_mo_egg_j105 hd )
        · refine J.mono (fun k => s_icmp_gt_f rfl hc16 (w_bipush rfl (bip_c rfl) k)) ?_
          exact J_some (fun k => w_ireturn rfl rfl k)
set_option maxRecDepth 20000 in
set_option maxHeartbeats 4000000 in
theorem cal_mo_egg {Δ : DT} {d : Nat} (hd : 78 ≤ d) {x1 : Int} {x2 : Int} {x3 : Int}  {M : MEM} {p : Int × MEM} (h : mo_egg x1 x2 x3 M = some p) (ho : okVs [vR 278, vI x1, vI x2, vI x3]) (hM : okM M) : Cal Δ false m_mo_egg d [vR 278, vI x1, vI x2, vI x3] (NG, S0, M) (some p.1) (NG, S0, p.2) 0 0 := by
  obtain ⟨d, rfl⟩ : ∃ e, d = e + 1 := ⟨d - 1, by omega⟩
  exact cal_of g_mo_egg p_mo_egg (fun v hv => by simp only [List.mem_cons, List.not_mem_nil, or_false] at hv; rcases hv with rfl | rfl | rfl | rfl <;> first | exact Or.inl ⟨_, rfl⟩ | exact Or.inr ⟨_, rfl⟩) ho hM (Nat.le_of_ble_eq_true rfl) (fun Γ _ k => J_mo_egg hd  _ h k)
abbrev HD_mo_plant_b44 (Δ : DT) (Γ : FT) (d : Nat) (x1 : Int) (x2 : Int) (x3 : Int) (s : Int × Int × Int × MEM) : Prop := WAt Δ Γ false m_mo_plant (d + 1) 44 [vR (278), vI (x1), vI (x2), vI (x3), vI (s.1), vI (s.2.1), vI (s.2.2.1), vN, vN] [] (NG, S0, s.2.2.2) 0 0
abbrev X_mo_plant_b44 (Δ : DT) (Γ : FT) (d : Nat) (x1 : Int) (x2 : Int) (x3 : Int) (s : Int × Int × Int × MEM) : Prop := WAt Δ Γ false m_mo_plant (d + 1) 152 [vR (278), vN, vN, vN, vI (s.1), vI (s.2.1), vN, vN, vN] [] (NG, S0, s.2.2.2) 0 0
set_option maxRecDepth 20000 in
set_option maxHeartbeats 4000000 in
theorem J_mo_plant_j146_44 {Δ : DT} {Γ : FT} {d : Nat} (hd : 77 ≤ d + 1) {x1 : Int} {x2 : Int} {x3 : Int} {x4 : Int} {x5 : Int} {x6 : Int}  {M : MEM} : J (mo_plant_j146_44 x1 x2 x3 x4 x5 x6 M) (Sum.elim (HD_mo_plant_b44 Δ Γ d x1 x2 x3) (X_mo_plant_b44 Δ Γ d x1 x2 x3)) (WAt Δ Γ false m_mo_plant (d + 1) 146 [vR (278), vI (x1), vI (x2), vI (x3), vI (x4), vI (x5), vI (x6), vN, vN] [] (NG, S0, M) 0 0) := by
  unfold mo_plant_j146_44
  refine J.mono (fun k => s_iinc6 rfl (Nat.le_of_ble_eq_true rfl) (w_goto rfl k)) ?_
  exact J_some (fun k => w_forget (wk_k (wk_k (wk_k (wk_k (wk_k (wk_k (wk_k (wk_d (wk_d wk_0))))))))) k)
set_option maxRecDepth 20000 in
set_option maxHeartbeats 4000000 in
theorem J_mo_plant_j138_44 {Δ : DT} {Γ : FT} {d : Nat} (hd : 77 ≤ d + 1) {x1 : Int} {x2 : Int} {x3 : Int} {x6 : Int} {x8 : Int}  {M : MEM} : J (mo_plant_j138_44 x1 x2 x3 x6 x8 M) (Sum.elim (HD_mo_plant_b44 Δ Γ d x1 x2 x3) (X_mo_plant_b44 Δ Γ d x1 x2 x3)) (WAt Δ Γ false m_mo_plant (d + 1) 138 [vR (278), vI (x1), vI (x2), vI (x3), vN, vN, vI (x6), vN, vI (x8)] [] (NG, S0, M) 0 0) := by
  unfold mo_plant_j138_44
  refine J.mono (fun k => w_iload rfl rfl (s_istore4 rfl (Nat.le_of_ble_eq_true rfl) (w_iload rfl rfl (s_istore5 rfl (Nat.le_of_ble_eq_true rfl) k)))) ?_
  exact J.mono (fun k => w_forget (wk_k (wk_k (wk_k (wk_k (wk_k (wk_k (wk_k (wk_d (wk_d wk_0))))))))) k) (J_mo_plant_j146_44 hd )
set_option maxRecDepth 20000 in
set_option maxHeartbeats 4000000 in
theorem J_mo_plant_j120_44 {Δ : DT} {Γ : FT} {d : Nat} (hd : 77 ≤ d + 1) {x1 : Int} {x2 : Int} {x3 : Int} {x4 : Int} {x5 : Int} {x6 : Int} {s0 : Int}  {M : MEM} : J (mo_plant_j120_44 x1 x2 x3 x4 x5 x6 s0 M) (Sum.elim (HD_mo_plant_b44 Δ Γ d x1 x2 x3) (X_mo_plant_b44 Δ Γ d x1 x2 x3)) (WAt Δ Γ false m_mo_plant (d + 1) 120 [vR (278), vI (x1), vI (x2), vI (x3), vI (x4), vI (x5), vI (x6), vN, vN] [vI (s0)] (NG, S0, M) 0 0) := by
  unfold mo_plant_j120_44
  refine J.mono (fun k => s_istore8 rfl (Nat.le_of_ble_eq_true rfl) (w_iload rfl rfl (w_iconst rfl (inR_c rfl) k))) ?_
  refine J_ite (fun hc25 => ?_) (fun hc25 => ?_)
  · refine J.mono (fun k => s_icmp_eq_t rfl hc25 k) ?_
    exact J.mono (fun k => w_forget (wk_k (wk_k (wk_k (wk_k (wk_d (wk_d (wk_k (wk_d (wk_k wk_0))))))))) k) (J_mo_plant_j138_44 hd )
  · refine J.mono (fun k => s_icmp_eq_f rfl hc25 (w_iload rfl rfl (w_iload rfl rfl k))) ?_
    refine J_ite (fun hc26 => ?_) (fun hc26 => ?_)
    · refine J.mono (fun k => s_icmp_gt_t rfl hc26 k) ?_
      exact J.mono (fun k => w_forget (wk_k (wk_k (wk_k (wk_k (wk_d (wk_d (wk_k (wk_d (wk_k wk_0))))))))) k) (J_mo_plant_j138_44 hd )
    · refine J.mono (fun k => s_icmp_gt_f rfl hc26 (w_goto rfl k)) ?_
      exact J.mono (fun k => w_forget (wk_k (wk_k (wk_k (wk_k (wk_k (wk_k (wk_k (wk_d (wk_d wk_0))))))))) k) (J_mo_plant_j146_44 hd )
set_option maxRecDepth 20000 in
set_option maxHeartbeats 4000000 in
theorem Jb_mo_plant_b44 {Δ : DT} {Γ : FT} {d : Nat} (hd : 77 ≤ d + 1) {x1 : Int} {x2 : Int} {x3 : Int}  {x4 : Int} {x5 : Int} {x6 : Int} {M : MEM} : J (mo_plant_b44 x1 x2 x3 x4 x5 x6 M) (Sum.elim (HD_mo_plant_b44 Δ Γ d x1 x2 x3) (X_mo_plant_b44 Δ Γ d x1 x2 x3)) (WAt Δ Γ false m_mo_plant (d + 1) 44 [vR (278), vI (x1), vI (x2), vI (x3), vI (x4), vI (x5), vI (x6), vN, vN] [] (NG, S0, M) 0 0) := by
  unfold mo_plant_b44
  refine J.mono (fun k => w_iload rfl rfl (w_aload_n rfl rfl (w_getR (r := 280) rfl (Nat.le_of_ble_eq_true rfl) S_278 rfl (w_iload_n rfl rfl k)))) ?_
  refine J_chk (fun hi14 => ?_)
  refine J.mono (fun k => w_iald rfl A_280.1 A_280.2 hi14.1 hi14.2 k) ?_
  refine J_ite (fun hc15 => ?_) (fun hc15 => ?_)
  · refine J.mono (fun k => s_icmp_ge_t rfl hc15 k) ?_
    exact J_some (fun k => w_forget (wk_k (wk_d (wk_d (wk_d (wk_k (wk_k (wk_d (wk_d (wk_d wk_0))))))))) k)
  · refine J.mono (fun k => s_icmp_ge_f rfl hc15 (w_aload_n rfl rfl k)) ?_
    refine J_c (fun M17 e16 => ?_)
    refine J.mono (fun k => c_vv0 rfl (fun ho hM => cal_mo_beginThen (by omega)  e16 ho hM) v_mo_beginThen (Nat.le_of_ble_eq_true rfl) S_278 rfl (Nat.le_of_ble_eq_true rfl) (w_bipush rfl (bip_c rfl) (w_iload_n rfl rfl (w_imul rfl (w_iconst rfl (inR_c rfl) (w_iadd rfl (w_iload rfl rfl (w_iadd rfl (s_istore7 rfl (Nat.le_of_ble_eq_true rfl) (w_aload_n rfl rfl (w_getR (r := 292) rfl (Nat.le_of_ble_eq_true rfl) S_278 rfl (w_iload rfl rfl (w_bipush rfl (bip_c rfl) (w_aload_n rfl rfl (w_getR (r := 292) rfl (Nat.le_of_ble_eq_true rfl) S_278 rfl (w_iload rfl rfl k)))))))))))))))) ?_
    refine J_chk (fun hi18 => ?_)
    refine J.mono (fun k => w_iald rfl A_292.1 A_292.2 hi18.1 hi18.2 (w_iload_n rfl rfl (w_iadd rfl k))) ?_
    refine J.mono (fun k => w_mmin rfl (Nat.le_of_ble_eq_true rfl) k) ?_
    refine J_chk (fun hi20 => ?_)
    refine J_b ?_
    refine J.mono (fun k => w_iast rfl A_292.1 A_292.2 hi20.1 hi20.2 rfl (w_aload_n rfl rfl (w_iload_n rfl rfl k))) ?_
    refine J_c (fun M22 e21 => ?_)
    refine J.mono (fun k => c_vv1 rfl (fun ho hM => cal_mo_findTimes (by omega)  e21 ho hM) v_mo_findTimes (Nat.le_of_ble_eq_true rfl) S_278 rfl (Nat.le_of_ble_eq_true rfl) (w_aload_n rfl rfl (w_getI rfl (Nat.le_of_ble_eq_true rfl) S_278 rfl (w_iload_n rfl rfl k)))) ?_
    refine J_ite (fun hc23 => ?_) (fun hc23 => ?_)
    · refine J.mono (fun k => s_icmp_ge_t rfl hc23 (w_aload_n rfl rfl (w_getR (r := 293) rfl (Nat.le_of_ble_eq_true rfl) S_278 rfl (w_iload_n rfl rfl (w_iconst rfl (inR_c rfl) (w_isub rfl k)))))) ?_
      refine J_chk (fun hi24 => ?_)
      refine J.mono (fun k => w_iald rfl A_293.1 A_293.2 hi24.1 hi24.2 (w_iconst rfl (inR_c rfl) (w_iadd rfl k))) ?_
      exact J.mono (fun k => w_forget (wk_k (wk_k (wk_k (wk_k (wk_k (wk_k (wk_k (wk_d (wk_d wk_0))))))))) k) (J_mo_plant_j120_44 hd )
    · refine J.mono (fun k => s_icmp_ge_f rfl hc23 (w_sipush rfl (sip_c rfl) (w_goto rfl k))) ?_
      exact J.mono (fun k => w_forget (wk_k (wk_k (wk_k (wk_k (wk_k (wk_k (wk_k (wk_d (wk_d wk_0))))))))) k) (J_mo_plant_j120_44 hd )
set_option maxRecDepth 20000 in
set_option maxHeartbeats 4000000 in
theorem Jl_mo_plant_b44 {Δ : DT} {Γ : FT} {d : Nat} (hd : 77 ≤ d + 1) {x1 : Int} {x2 : Int} {x3 : Int}   : ∀ (n : Nat) (s : Int × Int × Int × MEM), J (iter (fun s => mo_plant_b44 x1 x2 x3 s.1 s.2.1 s.2.2.1 s.2.2.2) n s) (X_mo_plant_b44 Δ Γ d x1 x2 x3) (HD_mo_plant_b44 Δ Γ d x1 x2 x3 s) := J_iter (fun s => Jb_mo_plant_b44 hd )
set_option maxRecDepth 20000 in
set_option maxHeartbeats 4000000 in
theorem J_mo_plant_j172 {Δ : DT} {Γ : FT} {d : Nat} (hd : 77 ≤ d + 1) {x4 : Int} {s1 : Int}  {M : MEM} : J (mo_plant_j172 x4 s1 M) (K_IM Δ Γ m_mo_plant) (WAt Δ Γ false m_mo_plant (d + 1) 172 [vN, vN, vN, vN, vI (x4), vN, vN, vN, vN] [vI (s1), vR (278)] (NG, S0, M) 0 0) := by
  unfold mo_plant_j172
  refine J_c (fun M31 e30 => ?_)
  refine J.mono (fun k => c_vv1 rfl (fun ho hM => cal_mo_tell (by omega)  e30 ho hM) v_mo_tell (Nat.le_of_ble_eq_true rfl) S_278 rfl (Nat.le_of_ble_eq_true rfl) (w_iload rfl rfl k)) ?_
  exact J_some (fun k => w_ireturn rfl rfl k)
set_option maxRecDepth 20000 in
set_option maxHeartbeats 4000000 in
theorem J_mo_plant {Δ : DT} {Γ : FT} {d : Nat} (hd : 77 ≤ d + 1) {x1 : Int} {x2 : Int} {x3 : Int}  {M : MEM} : J (mo_plant x1 x2 x3 M) (K_IM Δ Γ m_mo_plant) (WAt Δ Γ false m_mo_plant (d + 1) 0 [vR (278), vI (x1), vI (x2), vI (x3), vN, vN, vN, vN, vN] [] (NG, S0, M) 0 0) := by
  unfold mo_plant
  refine J.mono (fun k => w_aload_n rfl rfl (w_iconst rfl (inR_c rfl) k)) ?_
  refine J_b ?_
  refine J.mono (fun k => w_putI rfl (Nat.le_of_ble_eq_true rfl) S_278 rfl rfl (w_aload_n rfl rfl (w_iload_n rfl rfl k))) ?_
  refine J_hyp (fun k => c_vi1 rfl (fun ho hM => cal_mo_isDonkey (by omega)   ho hM) v_mo_isDonkey (Nat.le_of_ble_eq_true rfl) S_278 rfl (Nat.le_of_ble_eq_true rfl) k) (fun hr3 hb4 => ?_)
  refine J_ite (fun hc5 => ?_) (fun hc5 => ?_)
  · refine J.mono (fun k => s_if_eq_t rfl hc5 (w_iconst rfl (inR_c rfl) k)) ?_
    exact J_some (fun k => w_ireturn rfl rfl k)
  · refine J.mono (fun k => s_if_eq_f rfl hc5 (w_iload_n rfl rfl (w_iconst rfl (inR_c rfl) (w_bipush rfl (bip_c rfl) k)))) ?_
    refine J_hyp (fun k => c_si3 rfl rfl (fun ho hM => cal_mo_in (by omega)   ho hM) v_mo_in (Nat.le_of_ble_eq_true rfl) k) (fun hr7 hb8 => ?_)
    refine J_ite (fun hc9 => ?_) (fun hc9 => ?_)
    · refine J.mono (fun k => s_if_eq_t rfl hc9 (w_iconst rfl (inR_c rfl) k)) ?_
      exact J_some (fun k => w_ireturn rfl rfl k)
    · refine J.mono (fun k => s_if_eq_f rfl hc9 (w_iload_n rfl rfl (w_iconst rfl (inR_c rfl) (w_bipush rfl (bip_c rfl) k)))) ?_
      refine J_hyp (fun k => c_si3 rfl rfl (fun ho hM => cal_mo_in (by omega)   ho hM) v_mo_in (Nat.le_of_ble_eq_true rfl) k) (fun hr11 hb12 => ?_)
      refine J_ite (fun hc13 => ?_) (fun hc13 => ?_)
      · refine J.mono (fun k => s_if_ne_f rfl hc13 (w_iconst rfl (inR_c rfl) k)) ?_
        exact J_some (fun k => w_ireturn rfl rfl k)
      · refine J.mono (fun k => s_if_ne_t rfl hc13 (w_iconst rfl (inR_c rfl) (s_istore4 rfl (Nat.le_of_ble_eq_true rfl) (w_iconst rfl (inR_c rfl) (s_istore5 rfl (Nat.le_of_ble_eq_true rfl) (w_iconst rfl (inR_c rfl) (s_istore6 rfl (Nat.le_of_ble_eq_true rfl) k))))))) ?_
        refine J.mono (fun k => w_forget (wk_k (wk_k (wk_k (wk_k (wk_k (wk_k (wk_k (wk_d (wk_d wk_0))))))))) k) ?_
        refine J_loop (Jl_mo_plant_b44 hd  _ _) (fun w27 => ?_)
        refine J.mono (fun k => w_aload_n rfl rfl (w_iconst rfl (inR_c rfl) k)) ?_
        refine J_b ?_
        refine J.mono (fun k => w_putI rfl (Nat.le_of_ble_eq_true rfl) S_278 rfl rfl (w_aload_n rfl rfl (w_iload rfl rfl (w_sipush rfl (sip_c rfl) k)))) ?_
        refine J_ite (fun hc29 => ?_) (fun hc29 => ?_)
        · refine J.mono (fun k => s_icmp_ne_f rfl hc29 (w_iconst rfl (inR_c rfl) (w_goto rfl k))) ?_
          exact J.mono (fun k => w_forget (wk_d (wk_d (wk_d (wk_d (wk_k (wk_d (wk_d (wk_d (wk_d wk_0))))))))) k) (J_mo_plant_j172 hd )
        · refine J.mono (fun k => s_icmp_ne_t rfl hc29 (w_iload rfl rfl k)) ?_
          exact J.mono (fun k => w_forget (wk_d (wk_d (wk_d (wk_d (wk_k (wk_d (wk_d (wk_d (wk_d wk_0))))))))) k) (J_mo_plant_j172 hd )
set_option maxRecDepth 20000 in
set_option maxHeartbeats 4000000 in
theorem cal_mo_plant {Δ : DT} {d : Nat} (hd : 77 ≤ d) {x1 : Int} {x2 : Int} {x3 : Int}  {M : MEM} {p : Int × MEM} (h : mo_plant x1 x2 x3 M = some p) (ho : okVs [vR 278, vI x1, vI x2, vI x3]) (hM : okM M) : Cal Δ false m_mo_plant d [vR 278, vI x1, vI x2, vI x3] (NG, S0, M) (some p.1) (NG, S0, p.2) 0 0 := by
  obtain ⟨d, rfl⟩ : ∃ e, d = e + 1 := ⟨d - 1, by omega⟩
  exact cal_of g_mo_plant p_mo_plant (fun v hv => by simp only [List.mem_cons, List.not_mem_nil, or_false] at hv; rcases hv with rfl | rfl | rfl | rfl <;> first | exact Or.inl ⟨_, rfl⟩ | exact Or.inr ⟨_, rfl⟩) ho hM (Nat.le_of_ble_eq_true rfl) (fun Γ _ k => J_mo_plant hd  _ h k)
set_option maxRecDepth 20000 in
set_option maxHeartbeats 4000000 in
theorem J_mo_keep {Δ : DT} {Γ : FT} {d : Nat} (hd : 1 ≤ d + 1) {x1 : Int}  {M : MEM} : J (mo_keep x1 M) (K_IM Δ Γ m_mo_keep) (WAt Δ Γ false m_mo_keep (d + 1) 0 [vR (278), vI (x1)] [] (NG, S0, M) 0 0) := by
  unfold mo_keep
  refine J.mono (fun k => w_aload_n rfl rfl (w_iconst rfl (inR_c rfl) k)) ?_
  refine J_b ?_
  refine J.mono (fun k => w_putI rfl (Nat.le_of_ble_eq_true rfl) S_278 rfl rfl (w_iload_n rfl rfl (w_iconst rfl (inR_c rfl) (w_iconst rfl (inR_c rfl) k)))) ?_
  refine J_hyp (fun k => c_si3 rfl rfl (fun ho hM => cal_mo_in (by omega)   ho hM) v_mo_in (Nat.le_of_ble_eq_true rfl) k) (fun hr3 hb4 => ?_)
  refine J_ite (fun hc5 => ?_) (fun hc5 => ?_)
  · refine J.mono (fun k => s_if_ne_f rfl hc5 (w_iconst rfl (inR_c rfl) k)) ?_
    exact J_some (fun k => w_zreturn rfl rfl (Or.inl rfl) k)
  · refine J.mono (fun k => s_if_ne_t rfl hc5 (w_aload_n rfl rfl (w_getR (r := 305) rfl (Nat.le_of_ble_eq_true rfl) S_278 rfl (w_iload_n rfl rfl (w_iconst rfl (inR_c rfl) k))))) ?_
    refine J_chk (fun hi7 => ?_)
    refine J_b ?_
    refine J.mono (fun k => w_zast rfl A_305.1 A_305.2 hi7.1 hi7.2 (Or.inr rfl) rfl (w_aload_n rfl rfl (w_getR (r := 306) rfl (Nat.le_of_ble_eq_true rfl) S_278 rfl (w_iload_n rfl rfl (w_aload_n rfl rfl (w_getI rfl (Nat.le_of_ble_eq_true rfl) S_278 rfl k)))))) ?_
    refine J_chk (fun hi9 => ?_)
    refine J_b ?_
    refine J.mono (fun k => w_iast rfl A_306.1 A_306.2 hi9.1 hi9.2 rfl (w_aload_n rfl rfl (w_aload_n rfl rfl (w_getR (r := 304) rfl (Nat.le_of_ble_eq_true rfl) S_278 rfl (w_sipush rfl (sip_c rfl) (w_iload_n rfl rfl (w_imul rfl k))))))) ?_
    refine J_c (fun M11 e10 => ?_)
    refine J.mono (fun k => c_vv2 rfl (fun ho hM => cal_mo_layAll (by omega) (isArr_len A_304) e10 ho hM) v_mo_layAll (Nat.le_of_ble_eq_true rfl) S_278 rfl (Nat.le_of_ble_eq_true rfl) (w_iconst rfl (inR_c rfl) k)) ?_
    exact J_some (fun k => w_zreturn rfl rfl (Or.inr rfl) k)
set_option maxRecDepth 20000 in
set_option maxHeartbeats 4000000 in
theorem cal_mo_keep {Δ : DT} {d : Nat} (hd : 1 ≤ d) {x1 : Int}  {M : MEM} {p : Int × MEM} (h : mo_keep x1 M = some p) (ho : okVs [vR 278, vI x1]) (hM : okM M) : Cal Δ false m_mo_keep d [vR 278, vI x1] (NG, S0, M) (some p.1) (NG, S0, p.2) 0 0 := by
  obtain ⟨d, rfl⟩ : ∃ e, d = e + 1 := ⟨d - 1, by omega⟩
  exact cal_of g_mo_keep p_mo_keep (fun v hv => by simp only [List.mem_cons, List.not_mem_nil, or_false] at hv; rcases hv with rfl | rfl <;> first | exact Or.inl ⟨_, rfl⟩ | exact Or.inr ⟨_, rfl⟩) ho hM (Nat.le_of_ble_eq_true rfl) (fun Γ _ k => J_mo_keep hd  _ h k)

