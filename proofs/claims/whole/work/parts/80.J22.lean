abbrev HD_mo_beginThen_b2 (Δ : DT) (Γ : FT) (d : Nat)  (s : Int × MEM) : Prop := WAt Δ Γ false m_mo_beginThen d 2 [vR (278), vI (s.1)] [] (NG, S0, s.2) 0 0
abbrev X_mo_beginThen_b2 (Δ : DT) (Γ : FT) (d : Nat)  (s : Int × MEM) : Prop := WAt Δ Γ false m_mo_beginThen d 27 [vN, vN] [] (NG, S0, s.2) 0 0
set_option maxRecDepth 20000 in
set_option maxHeartbeats 4000000 in
theorem Jb_mo_beginThen_b2 {Δ : DT} {Γ : FT} {d : Nat}   {x1 : Int} {M : MEM} : J (mo_beginThen_b2  x1 M) (Sum.elim (HD_mo_beginThen_b2 Δ Γ d ) (X_mo_beginThen_b2 Δ Γ d )) (WAt Δ Γ false m_mo_beginThen d 2 [vR (278), vI (x1)] [] (NG, S0, M) 0 0) := by
  unfold mo_beginThen_b2
  refine J.mono (fun k => w_iload_n rfl rfl (w_sipush rfl (sip_c rfl) k)) ?_
  refine J_ite (fun hc1 => ?_) (fun hc1 => ?_)
  · refine J.mono (fun k => s_icmp_ge_t rfl hc1 k) ?_
    exact J_some (fun k => w_forget (wk_d (wk_d wk_0)) k)
  · refine J.mono (fun k => s_icmp_ge_f rfl hc1 (w_aload_n rfl rfl (w_getR (r := 292) rfl (Nat.le_of_ble_eq_true rfl) S_278 rfl (w_iload_n rfl rfl (w_aload_n rfl rfl (w_getR (r := 279) rfl (Nat.le_of_ble_eq_true rfl) S_278 rfl (w_iload_n rfl rfl k))))))) ?_
    refine J_chk (fun hi2 => ?_)
    refine J.mono (fun k => w_iald rfl A_279.1 A_279.2 hi2.1 hi2.2 k) ?_
    refine J_chk (fun hi4 => ?_)
    refine J_b ?_
    refine J.mono (fun k => w_iast rfl A_292.1 A_292.2 hi4.1 hi4.2 rfl (s_iinc1 rfl (Nat.le_of_ble_eq_true rfl) (w_goto rfl k))) ?_
    exact J_some (fun k => w_forget (wk_k (wk_k wk_0)) k)
set_option maxRecDepth 20000 in
set_option maxHeartbeats 4000000 in
theorem Jl_mo_beginThen_b2 {Δ : DT} {Γ : FT} {d : Nat}    : ∀ (n : Nat) (s : Int × MEM), J (iter (fun s => mo_beginThen_b2  s.1 s.2) n s) (X_mo_beginThen_b2 Δ Γ d ) (HD_mo_beginThen_b2 Δ Γ d  s) := J_iter (fun s => Jb_mo_beginThen_b2 )
set_option maxRecDepth 20000 in
set_option maxHeartbeats 4000000 in
theorem J_mo_beginThen {Δ : DT} {Γ : FT} {d : Nat}   {M : MEM} : J (mo_beginThen M) (K_M Δ Γ m_mo_beginThen) (WAt Δ Γ false m_mo_beginThen d 0 [vR (278), vN] [] (NG, S0, M) 0 0) := by
  unfold mo_beginThen
  refine J.mono (fun k => w_iconst rfl (inR_c rfl) (s_istore1 rfl (Nat.le_of_ble_eq_true rfl) k)) ?_
  refine J.mono (fun k => w_forget (wk_k (wk_k wk_0)) k) ?_
  refine J_loop (Jl_mo_beginThen_b2  _ _) (fun w5 => ?_)
  exact J_some (fun k => w_return rfl rfl k)
set_option maxRecDepth 20000 in
set_option maxHeartbeats 4000000 in
theorem cal_mo_beginThen {Δ : DT} {d : Nat} (hd : 0 ≤ d)   {M : MEM} {M1 : MEM} (h : mo_beginThen M = some M1) (ho : okVs [vR 278]) (hM : okM M) : Cal Δ false m_mo_beginThen d [vR 278] (NG, S0, M) none (NG, S0, M1) 0 0 := by
  exact cal_of g_mo_beginThen p_mo_beginThen (fun v hv => by simp only [List.mem_cons, List.not_mem_nil, or_false] at hv; rcases hv with rfl <;> first | exact Or.inl ⟨_, rfl⟩ | exact Or.inr ⟨_, rfl⟩) ho hM (Nat.le_of_ble_eq_true rfl) (fun Γ _ k => J_mo_beginThen  _ h k)
abbrev HD_mo_ahead_b32 (Δ : DT) (Γ : FT) (d : Nat) (x1 : Int) (x2 : Int) (s : Int × MEM) : Prop := WAt Δ Γ false m_mo_ahead (d + 1) 32 [vR (278), vI (x1), vI (x2), vI (s.1)] [] (NG, S0, s.2) 0 0
abbrev X_mo_ahead_b32 (Δ : DT) (Γ : FT) (d : Nat) (x1 : Int) (x2 : Int) (s : Int × MEM) : Prop := WAt Δ Γ false m_mo_ahead (d + 1) 51 [vR (278), vI (x1), vN, vN] [] (NG, S0, s.2) 0 0
set_option maxRecDepth 20000 in
set_option maxHeartbeats 4000000 in
theorem Jb_mo_ahead_b32 {Δ : DT} {Γ : FT} {d : Nat} (hd : 76 ≤ d + 1) {x1 : Int} {x2 : Int}  {x3 : Int} {M : MEM} : J (mo_ahead_b32 x1 x2 x3 M) (Sum.elim (HD_mo_ahead_b32 Δ Γ d x1 x2) (X_mo_ahead_b32 Δ Γ d x1 x2)) (WAt Δ Γ false m_mo_ahead (d + 1) 32 [vR (278), vI (x1), vI (x2), vI (x3)] [] (NG, S0, M) 0 0) := by
  unfold mo_ahead_b32
  refine J.mono (fun k => w_iload_n rfl rfl (w_iload_n rfl rfl k)) ?_
  refine J_ite (fun hc12 => ?_) (fun hc12 => ?_)
  · refine J.mono (fun k => s_icmp_ge_t rfl hc12 k) ?_
    exact J_some (fun k => w_forget (wk_k (wk_k (wk_d (wk_d wk_0)))) k)
  · refine J.mono (fun k => s_icmp_ge_f rfl hc12 (w_aload_n rfl rfl (w_aload_n rfl rfl (w_getR (r := 292) rfl (Nat.le_of_ble_eq_true rfl) S_278 rfl k)))) ?_
    refine J_c (fun M14 e13 => ?_)
    refine J.mono (fun k => c_vv1 rfl (fun ho hM => cal_mo_goMinute (by omega) (isArr_len A_292) e13 ho hM) v_mo_goMinute (Nat.le_of_ble_eq_true rfl) S_278 rfl (Nat.le_of_ble_eq_true rfl) (s_iinc3 rfl (Nat.le_of_ble_eq_true rfl) (w_goto rfl k))) ?_
    exact J_some (fun k => w_forget (wk_k (wk_k (wk_k (wk_k wk_0)))) k)
set_option maxRecDepth 20000 in
set_option maxHeartbeats 4000000 in
theorem Jl_mo_ahead_b32 {Δ : DT} {Γ : FT} {d : Nat} (hd : 76 ≤ d + 1) {x1 : Int} {x2 : Int}   : ∀ (n : Nat) (s : Int × MEM), J (iter (fun s => mo_ahead_b32 x1 x2 s.1 s.2) n s) (X_mo_ahead_b32 Δ Γ d x1 x2) (HD_mo_ahead_b32 Δ Γ d x1 x2 s) := J_iter (fun s => Jb_mo_ahead_b32 hd )
set_option maxRecDepth 20000 in
set_option maxHeartbeats 4000000 in
theorem J_mo_ahead {Δ : DT} {Γ : FT} {d : Nat} (hd : 76 ≤ d + 1) {x1 : Int} {x2 : Int}  {M : MEM} : J (mo_ahead x1 x2 M) (K_IM Δ Γ m_mo_ahead) (WAt Δ Γ false m_mo_ahead (d + 1) 0 [vR (278), vI (x1), vI (x2), vN] [] (NG, S0, M) 0 0) := by
  unfold mo_ahead
  refine J.mono (fun k => w_aload_n rfl rfl (w_iconst rfl (inR_c rfl) k)) ?_
  refine J_b ?_
  refine J.mono (fun k => w_putI rfl (Nat.le_of_ble_eq_true rfl) S_278 rfl rfl (w_aload_n rfl rfl (w_iload_n rfl rfl k))) ?_
  refine J_hyp (fun k => c_vi1 rfl (fun ho hM => cal_mo_isDonkey (by omega)   ho hM) v_mo_isDonkey (Nat.le_of_ble_eq_true rfl) S_278 rfl (Nat.le_of_ble_eq_true rfl) k) (fun hr3 hb4 => ?_)
  refine J_ite (fun hc5 => ?_) (fun hc5 => ?_)
  · refine J.mono (fun k => s_if_eq_t rfl hc5 (w_iconst rfl (inR_c rfl) k)) ?_
    exact J_some (fun k => w_ireturn rfl rfl k)
  · refine J.mono (fun k => s_if_eq_f rfl hc5 (w_iload_n rfl rfl (w_iconst rfl (inR_c rfl) (w_sipush rfl (sip_c rfl) k)))) ?_
    refine J_hyp (fun k => c_si3 rfl rfl (fun ho hM => cal_mo_in (by omega)   ho hM) v_mo_in (Nat.le_of_ble_eq_true rfl) k) (fun hr7 hb8 => ?_)
    refine J_ite (fun hc9 => ?_) (fun hc9 => ?_)
    · refine J.mono (fun k => s_if_ne_f rfl hc9 (w_iconst rfl (inR_c rfl) k)) ?_
      exact J_some (fun k => w_ireturn rfl rfl k)
    · refine J.mono (fun k => s_if_ne_t rfl hc9 (w_aload_n rfl rfl k)) ?_
      refine J_c (fun M11 e10 => ?_)
      refine J.mono (fun k => c_vv0 rfl (fun ho hM => cal_mo_beginThen (by omega)  e10 ho hM) v_mo_beginThen (Nat.le_of_ble_eq_true rfl) S_278 rfl (Nat.le_of_ble_eq_true rfl) (w_iconst rfl (inR_c rfl) (s_istore3 rfl (Nat.le_of_ble_eq_true rfl) k))) ?_
      refine J.mono (fun k => w_forget (wk_k (wk_k (wk_k (wk_k wk_0)))) k) ?_
      refine J_loop (Jl_mo_ahead_b32 hd  _ _) (fun w15 => ?_)
      refine J.mono (fun k => w_aload_n rfl rfl (w_iconst rfl (inR_c rfl) k)) ?_
      refine J_b ?_
      refine J.mono (fun k => w_putI rfl (Nat.le_of_ble_eq_true rfl) S_278 rfl rfl (w_aload_n rfl rfl (w_aload_n rfl rfl (w_getR (r := 292) rfl (Nat.le_of_ble_eq_true rfl) S_278 rfl (w_bipush rfl (bip_c rfl) (w_iload_n rfl rfl (w_imul rfl (w_iconst rfl (inR_c rfl) (w_iadd rfl k))))))))) ?_
      refine J_chk (fun hi17 => ?_)
      refine J.mono (fun k => w_iald rfl A_292.1 A_292.2 hi17.1 hi17.2 k) ?_
      refine J_c (fun M19 e18 => ?_)
      refine J.mono (fun k => c_vv1 rfl (fun ho hM => cal_mo_tell (by omega)  e18 ho hM) v_mo_tell (Nat.le_of_ble_eq_true rfl) S_278 rfl (Nat.le_of_ble_eq_true rfl) (w_aload_n rfl rfl (w_aload_n rfl rfl (w_getR (r := 292) rfl (Nat.le_of_ble_eq_true rfl) S_278 rfl (w_bipush rfl (bip_c rfl) (w_iload_n rfl rfl (w_imul rfl k))))))) ?_
      refine J_chk (fun hi20 => ?_)
      refine J.mono (fun k => w_iald rfl A_292.1 A_292.2 hi20.1 hi20.2 k) ?_
      refine J_c (fun M22 e21 => ?_)
      refine J.mono (fun k => c_vv1 rfl (fun ho hM => cal_mo_tell (by omega)  e21 ho hM) v_mo_tell (Nat.le_of_ble_eq_true rfl) S_278 rfl (Nat.le_of_ble_eq_true rfl) (w_aload_n rfl rfl (w_getR (r := 292) rfl (Nat.le_of_ble_eq_true rfl) S_278 rfl (w_bipush rfl (bip_c rfl) (w_iload_n rfl rfl (w_imul rfl (w_iconst rfl (inR_c rfl) (w_iadd rfl k)))))))) ?_
      refine J_chk (fun hi23 => ?_)
      refine J.mono (fun k => w_iald rfl A_292.1 A_292.2 hi23.1 hi23.2 (w_aload_n rfl rfl (w_iload_n rfl rfl k))) ?_
      refine J_c (fun r25 e24 => ?_)
      refine J_hyp (fun k => c_vi1 rfl (fun ho hM => cal_mo_strokes (by omega)  e24 ho hM) v_mo_strokes (Nat.le_of_ble_eq_true rfl) S_278 rfl (Nat.le_of_ble_eq_true rfl) k) (fun hr26 hb27 => ?_)
      refine J.mono (fun k => w_isub rfl k) ?_
      exact J_some (fun k => w_ireturn rfl rfl k)
set_option maxRecDepth 20000 in
set_option maxHeartbeats 4000000 in
theorem cal_mo_ahead {Δ : DT} {d : Nat} (hd : 76 ≤ d) {x1 : Int} {x2 : Int}  {M : MEM} {p : Int × MEM} (h : mo_ahead x1 x2 M = some p) (ho : okVs [vR 278, vI x1, vI x2]) (hM : okM M) : Cal Δ false m_mo_ahead d [vR 278, vI x1, vI x2] (NG, S0, M) (some p.1) (NG, S0, p.2) 0 0 := by
  obtain ⟨d, rfl⟩ : ∃ e, d = e + 1 := ⟨d - 1, by omega⟩
  exact cal_of g_mo_ahead p_mo_ahead (fun v hv => by simp only [List.mem_cons, List.not_mem_nil, or_false] at hv; rcases hv with rfl | rfl | rfl <;> first | exact Or.inl ⟨_, rfl⟩ | exact Or.inr ⟨_, rfl⟩) ho hM (Nat.le_of_ble_eq_true rfl) (fun Γ _ k => J_mo_ahead hd  _ h k)
abbrev HD_mo_findTimes_b7 (Δ : DT) (Γ : FT) (d : Nat) (x1 : Int) (s : Int × MEM) : Prop := WAt Δ Γ false m_mo_findTimes (d + 1) 7 [vR (278), vI (x1), vI (s.1), vN] [] (NG, S0, s.2) 0 0
abbrev X_mo_findTimes_b7 (Δ : DT) (Γ : FT) (d : Nat) (x1 : Int) (s : Int × MEM) : Prop := WAt Δ Γ false m_mo_findTimes (d + 1) 66 [vN, vN, vN, vN] [] (NG, S0, s.2) 0 0
abbrev HD_mo_findTimes_b24 (Δ : DT) (Γ : FT) (d : Nat) (x1 : Int) (x2 : Int) (s : Int × MEM) : Prop := WAt Δ Γ false m_mo_findTimes (d + 1) 24 [vR (278), vI (x1), vI (x2), vI (s.1)] [] (NG, S0, s.2) 0 0
abbrev X_mo_findTimes_b24 (Δ : DT) (Γ : FT) (d : Nat) (x1 : Int) (x2 : Int) (s : Int × MEM) : Prop := WAt Δ Γ false m_mo_findTimes (d + 1) 60 [vR (278), vI (x1), vI (x2), vN] [] (NG, S0, s.2) 0 0
set_option maxRecDepth 20000 in
set_option maxHeartbeats 4000000 in
theorem Jb_mo_findTimes_b24 {Δ : DT} {Γ : FT} {d : Nat} (hd : 76 ≤ d + 1) {x1 : Int} {x2 : Int}  {x3 : Int} {M : MEM} : J (mo_findTimes_b24 x1 x2 x3 M) (Sum.elim (HD_mo_findTimes_b24 Δ Γ d x1 x2) (X_mo_findTimes_b24 Δ Γ d x1 x2)) (WAt Δ Γ false m_mo_findTimes (d + 1) 24 [vR (278), vI (x1), vI (x2), vI (x3)] [] (NG, S0, M) 0 0) := by
  unfold mo_findTimes_b24
  refine J.mono (fun k => w_iload_n rfl rfl (w_aload_n rfl rfl (w_getR (r := 287) rfl (Nat.le_of_ble_eq_true rfl) S_278 rfl (w_iload_n rfl rfl k)))) ?_
  refine J_chk (fun hi5 => ?_)
  refine J.mono (fun k => w_iald rfl A_287.1 A_287.2 hi5.1 hi5.2 k) ?_
  refine J_ite (fun hc6 => ?_) (fun hc6 => ?_)
  · refine J.mono (fun k => s_icmp_ge_t rfl hc6 k) ?_
    exact J_some (fun k => w_forget (wk_k (wk_k (wk_k (wk_d wk_0)))) k)
  · refine J.mono (fun k => s_icmp_ge_f rfl hc6 (w_aload_n rfl rfl (w_getR (r := 293) rfl (Nat.le_of_ble_eq_true rfl) S_278 rfl (w_aload_n rfl rfl (w_getI rfl (Nat.le_of_ble_eq_true rfl) S_278 rfl (w_iload_n rfl rfl k)))))) ?_
    refine J_chk (fun hi8 => ?_)
    refine J_b ?_
    refine J.mono (fun k => w_iast rfl A_293.1 A_293.2 hi8.1 hi8.2 rfl (w_aload_n rfl rfl (w_dup rfl (fun _ h => by cases h) (w_getI rfl (Nat.le_of_ble_eq_true rfl) S_278 rfl (w_iconst rfl (inR_c rfl) (w_iadd rfl k)))))) ?_
    refine J_b ?_
    refine J.mono (fun k => w_putI rfl (Nat.le_of_ble_eq_true rfl) S_278 rfl rfl (s_iinc3 rfl (Nat.le_of_ble_eq_true rfl) (w_goto rfl k))) ?_
    exact J_some (fun k => w_forget (wk_k (wk_k (wk_k (wk_k wk_0)))) k)
set_option maxRecDepth 20000 in
set_option maxHeartbeats 4000000 in
theorem Jl_mo_findTimes_b24 {Δ : DT} {Γ : FT} {d : Nat} (hd : 76 ≤ d + 1) {x1 : Int} {x2 : Int}   : ∀ (n : Nat) (s : Int × MEM), J (iter (fun s => mo_findTimes_b24 x1 x2 s.1 s.2) n s) (X_mo_findTimes_b24 Δ Γ d x1 x2) (HD_mo_findTimes_b24 Δ Γ d x1 x2 s) := J_iter (fun s => Jb_mo_findTimes_b24 hd )
set_option maxRecDepth 20000 in
set_option maxHeartbeats 4000000 in
theorem Jb_mo_findTimes_b7 {Δ : DT} {Γ : FT} {d : Nat} (hd : 76 ≤ d + 1) {x1 : Int}  {x2 : Int} {M : MEM} : J (mo_findTimes_b7 x1 x2 M) (Sum.elim (HD_mo_findTimes_b7 Δ Γ d x1) (X_mo_findTimes_b7 Δ Γ d x1)) (WAt Δ Γ false m_mo_findTimes (d + 1) 7 [vR (278), vI (x1), vI (x2), vN] [] (NG, S0, M) 0 0) := by
  unfold mo_findTimes_b7
  refine J.mono (fun k => w_iload_n rfl rfl (w_sipush rfl (sip_c rfl) k)) ?_
  refine J_ite (fun hc2 => ?_) (fun hc2 => ?_)
  · refine J.mono (fun k => s_icmp_ge_t rfl hc2 k) ?_
    exact J_some (fun k => w_forget (wk_d (wk_d (wk_d (wk_d wk_0)))) k)
  · refine J.mono (fun k => s_icmp_ge_f rfl hc2 (w_aload_n rfl rfl (w_aload_n rfl rfl (w_getR (r := 292) rfl (Nat.le_of_ble_eq_true rfl) S_278 rfl k)))) ?_
    refine J_c (fun M4 e3 => ?_)
    refine J.mono (fun k => c_vv1 rfl (fun ho hM => cal_mo_goMinute (by omega) (isArr_len A_292) e3 ho hM) v_mo_goMinute (Nat.le_of_ble_eq_true rfl) S_278 rfl (Nat.le_of_ble_eq_true rfl) (w_iconst rfl (inR_c rfl) (s_istore3 rfl (Nat.le_of_ble_eq_true rfl) k))) ?_
    refine J.mono (fun k => w_forget (wk_k (wk_k (wk_k (wk_k wk_0)))) k) ?_
    refine J_loop (Jl_mo_findTimes_b24 hd  _ _) (fun w10 => ?_)
    refine J.mono (fun k => s_iinc2 rfl (Nat.le_of_ble_eq_true rfl) (w_goto rfl k)) ?_
    exact J_some (fun k => w_forget (wk_k (wk_k (wk_k (wk_d wk_0)))) k)
set_option maxRecDepth 20000 in
set_option maxHeartbeats 4000000 in
theorem Jl_mo_findTimes_b7 {Δ : DT} {Γ : FT} {d : Nat} (hd : 76 ≤ d + 1) {x1 : Int}   : ∀ (n : Nat) (s : Int × MEM), J (iter (fun s => mo_findTimes_b7 x1 s.1 s.2) n s) (X_mo_findTimes_b7 Δ Γ d x1) (HD_mo_findTimes_b7 Δ Γ d x1 s) := J_iter (fun s => Jb_mo_findTimes_b7 hd )
set_option maxRecDepth 20000 in
set_option maxHeartbeats 4000000 in
theorem J_mo_findTimes {Δ : DT} {Γ : FT} {d : Nat} (hd : 76 ≤ d + 1) {x1 : Int}  {M : MEM} : J (mo_findTimes x1 M) (K_M Δ Γ m_mo_findTimes) (WAt Δ Γ false m_mo_findTimes (d + 1) 0 [vR (278), vI (x1), vN, vN] [] (NG, S0, M) 0 0) := by
  unfold mo_findTimes
  refine J.mono (fun k => w_aload_n rfl rfl (w_iconst rfl (inR_c rfl) k)) ?_
  refine J_b ?_
  refine J.mono (fun k => w_putI rfl (Nat.le_of_ble_eq_true rfl) S_278 rfl rfl (w_iconst rfl (inR_c rfl) (s_istore2 rfl (Nat.le_of_ble_eq_true rfl) k))) ?_
  refine J.mono (fun k => w_forget (wk_k (wk_k (wk_k (wk_d wk_0)))) k) ?_
  refine J_loop (Jl_mo_findTimes_b7 hd  _ _) (fun w11 => ?_)
  exact J_some (fun k => w_return rfl rfl k)
set_option maxRecDepth 20000 in
set_option maxHeartbeats 4000000 in
theorem cal_mo_findTimes {Δ : DT} {d : Nat} (hd : 76 ≤ d) {x1 : Int}  {M : MEM} {M1 : MEM} (h : mo_findTimes x1 M = some M1) (ho : okVs [vR 278, vI x1]) (hM : okM M) : Cal Δ false m_mo_findTimes d [vR 278, vI x1] (NG, S0, M) none (NG, S0, M1) 0 0 := by
  obtain ⟨d, rfl⟩ : ∃ e, d = e + 1 := ⟨d - 1, by omega⟩
  exact cal_of g_mo_findTimes p_mo_findTimes (fun v hv => by simp only [List.mem_cons, List.not_mem_nil, or_false] at hv; rcases hv with rfl | rfl <;> first | exact Or.inl ⟨_, rfl⟩ | exact Or.inr ⟨_, rfl⟩) ho hM (Nat.le_of_ble_eq_true rfl) (fun Γ _ k => J_mo_findTimes hd  _ h k)
set_option maxRecDepth 20000 in
set_option maxHeartbeats 4000000 in
theorem J_mo_timesNow {Δ : DT} {Γ : FT} {d : Nat} (hd : 77 ≤ d + 1) {x1 : Int}  {M : MEM} : J (mo_timesNow x1 M) (K_M Δ Γ m_mo_timesNow) (WAt Δ Γ false m_mo_timesNow (d + 1) 0 [vR (278), vI (x1)] [] (NG, S0, M) 0 0) := by
  unfold mo_timesNow
  refine J.mono (fun k => w_aload_n rfl rfl k) ?_
  refine J_c (fun M2 e1 => ?_)
  refine J.mono (fun k => c_vv0 rfl (fun ho hM => cal_mo_beginThen (by omega)  e1 ho hM) v_mo_beginThen (Nat.le_of_ble_eq_true rfl) S_278 rfl (Nat.le_of_ble_eq_true rfl) (w_aload_n rfl rfl (w_iload_n rfl rfl k))) ?_
  refine J_c (fun M4 e3 => ?_)
  refine J.mono (fun k => c_vv1 rfl (fun ho hM => cal_mo_findTimes (by omega)  e3 ho hM) v_mo_findTimes (Nat.le_of_ble_eq_true rfl) S_278 rfl (Nat.le_of_ble_eq_true rfl) k) ?_
  exact J_some (fun k => w_return rfl rfl k)
set_option maxRecDepth 20000 in
set_option maxHeartbeats 4000000 in
theorem cal_mo_timesNow {Δ : DT} {d : Nat} (hd : 77 ≤ d) {x1 : Int}  {M : MEM} {M1 : MEM} (h : mo_timesNow x1 M = some M1) (ho : okVs [vR 278, vI x1]) (hM : okM M) : Cal Δ false m_mo_timesNow d [vR 278, vI x1] (NG, S0, M) none (NG, S0, M1) 0 0 := by
  obtain ⟨d, rfl⟩ : ∃ e, d = e + 1 := ⟨d - 1, by omega⟩
  exact cal_of g_mo_timesNow p_mo_timesNow (fun v hv => by simp only [List.mem_cons, List.not_mem_nil, or_false] at hv; rcases hv with rfl | rfl <;> first | exact Or.inl ⟨_, rfl⟩ | exact Or.inr ⟨_, rfl⟩) ho hM (Nat.le_of_ble_eq_true rfl) (fun Γ _ k => J_mo_timesNow hd  _ h k)
set_option maxRecDepth 20000 in
set_option maxHeartbeats 4000000 in
theorem J_mo_when {Δ : DT} {Γ : FT} {d : Nat} (hd : 78 ≤ d + 1) {x1 : Int} {x2 : Int}  {M : MEM} : J (mo_when x1 x2 M) (K_IM Δ Γ m_mo_when) (WAt Δ Γ false m_mo_when (d + 1) 0 [vR (278), vI (x1), vI (x2)] [] (NG, S0, M) 0 0) := by
  unfold mo_when
  refine J.mono (fun k => w_aload_n rfl rfl (w_iconst rfl (inR_c rfl) k)) ?_
  refine J_b ?_
  refine J.mono (fun k => w_putI rfl (Nat.le_of_ble_eq_true rfl) S_278 rfl rfl (w_aload_n rfl rfl (w_iload_n rfl rfl k))) ?_
  refine J_hyp (fun k => c_vi1 rfl (fun ho hM => cal_mo_isDonkey (by omega)   ho hM) v_mo_isDonkey (Nat.le_of_ble_eq_true rfl) S_278 rfl (Nat.le_of_ble_eq_true rfl) k) (fun hr3 hb4 => ?_)
  refine J_ite (fun hc5 => ?_) (fun hc5 => ?_)
  · refine J.mono (fun k => s_if_eq_t rfl hc5 (w_iconst rfl (inR_c rfl) k)) ?_
    exact J_some (fun k => w_ireturn rfl rfl k)
  · refine J.mono (fun k => s_if_eq_f rfl hc5 (w_iload_n rfl rfl (w_iconst rfl (inR_c rfl) (w_bipush rfl (bip_c rfl) k)))) ?_
    refine J_hyp (fun k => c_si3 rfl rfl (fun ho hM => cal_mo_in (by omega)   ho hM) v_mo_in (Nat.le_of_ble_eq_true rfl) k) (fun hr7 hb8 => ?_)
    refine J_ite (fun hc9 => ?_) (fun hc9 => ?_)
    · refine J.mono (fun k => s_if_ne_f rfl hc9 (w_iconst rfl (inR_c rfl) k)) ?_
      exact J_some (fun k => w_ireturn rfl rfl k)
    · refine J.mono (fun k => s_if_ne_t rfl hc9 (w_aload_n rfl rfl (w_iload_n rfl rfl k))) ?_
      refine J_c (fun M11 e10 => ?_)
      refine J.mono (fun k => c_vv1 rfl (fun ho hM => cal_mo_timesNow (by omega)  e10 ho hM) v_mo_timesNow (Nat.le_of_ble_eq_true rfl) S_278 rfl (Nat.le_of_ble_eq_true rfl) (w_aload_n rfl rfl (w_getI rfl (Nat.le_of_ble_eq_true rfl) S_278 rfl (w_iload_n rfl rfl k)))) ?_
      refine J_ite (fun hc12 => ?_) (fun hc12 => ?_)
      · refine J.mono (fun k => s_icmp_ge_t rfl hc12 (w_aload_n rfl rfl (w_getR (r := 293) rfl (Nat.le_of_ble_eq_true rfl) S_278 rfl (w_iload_n rfl rfl (w_iconst rfl (inR_c rfl) (w_isub rfl k)))))) ?_
        refine J_chk (fun hi13 => ?_)
        refine J.mono (fun k => w_iald rfl A_293.1 A_293.2 hi13.1 hi13.2 (w_iconst rfl (inR_c rfl) (w_iadd rfl k))) ?_
        exact J_some (fun k => w_ireturn rfl rfl k)
      · refine J.mono (fun k => s_icmp_ge_f rfl hc12 (w_bipush rfl (bip_c rfl) (w_goto rfl k))) ?_
        exact J_some (fun k => w_ireturn rfl rfl k)
set_option maxRecDepth 20000 in
set_option maxHeartbeats 4000000 in
theorem cal_mo_when {Δ : DT} {d : Nat} (hd : 78 ≤ d) {x1 : Int} {x2 : Int}  {M : MEM} {p : Int × MEM} (h : mo_when x1 x2 M = some p) (ho : okVs [vR 278, vI x1, vI x2]) (hM : okM M) : Cal Δ false m_mo_when d [vR 278, vI x1, vI x2] (NG, S0, M) (some p.1) (NG, S0, p.2) 0 0 := by
  obtain ⟨d, rfl⟩ : ∃ e, d = e + 1 := ⟨d - 1, by omega⟩
  exact cal_of g_mo_when p_mo_when (fun v hv => by simp only [List.mem_cons, List.not_mem_nil, or_false] at hv; rcases hv with rfl | rfl | rfl <;> first | exact Or.inl ⟨_, rfl⟩ | exact Or.inr ⟨_, rfl⟩) ho hM (Nat.le_of_ble_eq_true rfl) (fun Γ _ k => J_mo_when hd  _ h k)
abbrev HD_mo_strikes_b32 (Δ : DT) (Γ : FT) (d : Nat) (x1 : Int) (x2 : Int) (M : MEM) (s : Int) : Prop := WAt Δ Γ false m_mo_strikes (d + 1) 32 [vR (278), vI (x1), vI (x2), vI (s)] [] (NG, S0, M) 0 0
abbrev X_mo_strikes_b32 (Δ : DT) (Γ : FT) (d : Nat) (x1 : Int) (x2 : Int) (M : MEM) : (Int × MEM) ⊕ (Int) → Prop := Sum.elim (K_IM Δ Γ m_mo_strikes) (fun s => WAt Δ Γ false m_mo_strikes (d + 1) 84 [vN, vN, vN, vN] [] (NG, S0, M) 0 0)
set_option maxRecDepth 20000 in
set_option maxHeartbeats 4000000 in
theorem Jb_mo_strikes_b32 {Δ : DT} {Γ : FT} {d : Nat} (hd : 78 ≤ d + 1) {x1 : Int} {x2 : Int}  {x3 : Int} {M : MEM} : J (mo_strikes_b32 x1 x2 x3 M) (Sum.elim (HD_mo_strikes_b32 Δ Γ d x1 x2 M) (X_mo_strikes_b32 Δ Γ d x1 x2 M)) (WAt Δ Γ false m_mo_strikes (d + 1) 32 [vR (278), vI (x1), vI (x2), vI (x3)] [] (NG, S0, M) 0 0) := by
  unfold mo_strikes_b32
  refine J.mono (fun k => w_iload_n rfl rfl (w_aload_n rfl rfl (w_getI rfl (Nat.le_of_ble_eq_true rfl) S_278 rfl k))) ?_
  refine J_ite (fun hc12 => ?_) (fun hc12 => ?_)
  · refine J.mono (fun k => s_icmp_gt_t rfl hc12 k) ?_
    exact J_some (fun k => w_forget (wk_d (wk_d (wk_d (wk_d wk_0)))) k)
  · refine J.mono (fun k => s_icmp_gt_f rfl hc12 (w_aload_n rfl rfl (w_iload_n rfl rfl k))) ?_
    refine J_c (fun r14 e13 => ?_)
    refine J_hyp (fun k => c_vi1 rfl (fun ho hM => cal_mo_strokes (by omega)  e13 ho hM) v_mo_strokes (Nat.le_of_ble_eq_true rfl) S_278 rfl (Nat.le_of_ble_eq_true rfl) k) (fun hr15 hb16 => ?_)
    refine J.mono (fun k => w_iload_n rfl rfl (w_iadd rfl (w_bipush rfl (bip_c rfl) (w_irem rfl (by decide) (w_iload_n rfl rfl k))))) ?_
    refine J_ite (fun hc17 => ?_) (fun hc17 => ?_)
    · refine J.mono (fun k => s_icmp_eq_t rfl hc17 (w_aload_n rfl rfl (w_iconst rfl (inR_c rfl) k))) ?_
      refine J_b ?_
      refine J.mono (fun k => w_putI rfl (Nat.le_of_ble_eq_true rfl) S_278 rfl rfl (w_aload_n rfl rfl (w_iload_n rfl rfl k))) ?_
      refine J_c (fun M20 e19 => ?_)
      refine J.mono (fun k => c_vv1 rfl (fun ho hM => cal_mo_tell (by omega)  e19 ho hM) v_mo_tell (Nat.le_of_ble_eq_true rfl) S_278 rfl (Nat.le_of_ble_eq_true rfl) (w_aload_n rfl rfl (w_getR (r := 293) rfl (Nat.le_of_ble_eq_true rfl) S_278 rfl (w_iload_n rfl rfl (w_iconst rfl (inR_c rfl) (w_isub rfl k)))))) ?_
      refine J_chk (fun hi21 => ?_)
      refine J.mono (fun k => w_iald rfl A_293.1 A_293.2 hi21.1 hi21.2 (w_iconst rfl (inR_c rfl) (w_iadd rfl k))) ?_
      exact J_some (fun k => w_ireturn rfl rfl k)
    · refine J.mono (fun k => s_icmp_eq_f rfl hc17 (w_goto rfl (s_iinc3 rfl (Nat.le_of_ble_eq_true rfl) (w_goto rfl k)))) ?_
      exact J_some (fun k => w_forget (wk_k (wk_k (wk_k (wk_k wk_0)))) k)
set_option maxRecDepth 20000 in
set_option maxHeartbeats 4000000 in
theorem Jl_mo_strikes_b32 {Δ : DT} {Γ : FT} {d : Nat} (hd : 78 ≤ d + 1) {x1 : Int} {x2 : Int}  {M : MEM} : ∀ (n : Nat) (s : Int), J (iter (fun s => mo_strikes_b32 x1 x2 s M) n s) (X_mo_strikes_b32 Δ Γ d x1 x2 M) (HD_mo_strikes_b32 Δ Γ d x1 x2 M s) := J_iter (fun s => Jb_mo_strikes_b32 hd )
set_option maxRecDepth 20000 in
set_option maxHeartbeats 4000000 in
theorem J_mo_strikes {Δ : DT} {Γ : FT} {d : Nat} (hd : 78 ≤ d + 1) {x1 : Int} {x2 : Int}  {M : MEM} : J (mo_strikes x1 x2 M) (K_IM Δ Γ m_mo_strikes) (WAt Δ Γ false m_mo_strikes (d + 1) 0 [vR (278), vI (x1), vI (x2), vN] [] (NG, S0, M) 0 0) := by
  unfold mo_strikes
  refine J.mono (fun k => w_aload_n rfl rfl (w_iconst rfl (inR_c rfl) k)) ?_
  refine J_b ?_
  refine J.mono (fun k => w_putI rfl (Nat.le_of_ble_eq_true rfl) S_278 rfl rfl (w_aload_n rfl rfl (w_iload_n rfl rfl k))) ?_
  refine J_hyp (fun k => c_vi1 rfl (fun ho hM => cal_mo_isDonkey (by omega)   ho hM) v_mo_isDonkey (Nat.le_of_ble_eq_true rfl) S_278 rfl (Nat.le_of_ble_eq_true rfl) k) (fun hr3 hb4 => ?_)
  refine J_ite (fun hc5 => ?_) (fun hc5 => ?_)
  · refine J.mono (fun k => s_if_eq_t rfl hc5 (w_iconst rfl (inR_c rfl) k)) ?_
    exact J_some (fun k => w_ireturn rfl rfl k)
  · refine J.mono (fun k => s_if_eq_f rfl hc5 (w_iload_n rfl rfl (w_iconst rfl (inR_c rfl) (w_bipush rfl (bip_c rfl) k)))) ?_
    refine J_hyp (fun k => c_si3 rfl rfl (fun ho hM => cal_mo_in (by omega)   ho hM) v_mo_in (Nat.le_of_ble_eq_true rfl) k) (fun hr7 hb8 => ?_)
    refine J_ite (fun hc9 => ?_) (fun hc9 => ?_)
    · refine J.mono (fun k => s_if_ne_f rfl hc9 (w_iconst rfl (inR_c rfl) k)) ?_
      exact J_some (fun k => w_ireturn rfl rfl k)
    · refine J.mono (fun k => s_if_ne_t rfl hc9 (w_aload_n rfl rfl (w_iload_n rfl rfl k))) ?_
      refine J_c (fun M11 e10 => ?_)
      refine J.mono (fun k => c_vv1 rfl (fun ho hM => cal_mo_timesNow (by omega)  e10 ho hM) v_mo_timesNow (Nat.le_of_ble_eq_true rfl) S_278 rfl (Nat.le_of_ble_eq_true rfl) (w_iconst rfl (inR_c rfl) (s_istore3 rfl (Nat.le_of_ble_eq_true rfl) k))) ?_
      refine J.mono (fun k => w_forget (wk_k (wk_k (wk_k (wk_k wk_0)))) k) ?_
      refine J_loop (Jl_mo_strikes_b32 hd  _ _) (fun w22 => ?_)
      refine J_elim (fun r => J_some (fun k => k)) (fun w22 => ?_)
      refine J.mono (fun k => w_bipush rfl (bip_c rfl) k) ?_
      exact J_some (fun k => w_ireturn rfl rfl k)
set_option maxRecDepth 20000 in
set_option maxHeartbeats 4000000 in
theorem cal_mo_strikes {Δ : DT} {d : Nat} (hd : 78 ≤ d) {x1 : Int} {x2 : Int}  {M : MEM} {p : Int × MEM} (h : mo_strikes x1 x2 M = some p) (ho : okVs [vR 278, vI x1, vI x2]) (hM : okM M) : Cal Δ false m_mo_strikes d [vR 278, vI x1, vI x2] (NG, S0, M) (some p.1) (NG, S0, p.2) 0 0 := by
  obtain ⟨d, rfl⟩ : ∃ e, d = e + 1 := ⟨d - 1, by omega⟩
  exact cal_of g_mo_strikes p_mo_strikes (fun v hv => by simp only [List.mem_cons, List.not_mem_nil, or_false] at hv; rcases hv with rfl | rfl | rfl <;> first | exact Or.inl ⟨_, rfl⟩ | exact Or.inr ⟨_, rfl⟩) ho hM (Nat.le_of_ble_eq_true rfl) (fun Γ _ k => J_mo_strikes hd  _ h k)
set_option maxRecDepth 20000 in
set_option maxHeartbeats 4000000 in
theorem J_mo_has {Δ : DT} {Γ : FT} {d : Nat} {x0 : Int} {x1 : Int}  {M : MEM} : J (some (mo_has x0 x1)) (K_I Δ Γ m_mo_has M) (WAt Δ Γ false m_mo_has d 0 [vI (x0), vI (x1)] [] (NG, S0, M) 0 0) := by
  unfold mo_has
  refine J.mono (fun k => w_iload_n rfl rfl (w_iload_n rfl rfl (w_ishr rfl (w_iconst rfl (inR_c rfl) (w_iand rfl (w_iconst rfl (inR_c rfl) k)))))) ?_
  refine J_iteT (fun hc1 => ?_) (fun hc1 => ?_)
  · refine J.mono (fun k => s_icmp_ne_f rfl hc1 (w_iconst rfl (inR_c rfl) (w_goto rfl k))) ?_
    exact J_some (fun k => w_zreturn rfl rfl (Or.inr rfl) k)
  · refine J.mono (fun k => s_icmp_ne_t rfl hc1 (w_iconst rfl (inR_c rfl) k)) ?_
    exact J_some (fun k => w_zreturn rfl rfl (Or.inl rfl) k)
set_option maxRecDepth 20000 in
set_option maxHeartbeats 4000000 in
theorem cal_mo_has {Δ : DT} {d : Nat} (hd : 0 ≤ d) {x0 : Int} {x1 : Int}  {M : MEM} (ho : okVs [vI x0, vI x1]) (hM : okM M) : Cal Δ false m_mo_has d [vI x0, vI x1] (NG, S0, M) (some (mo_has x0 x1)) (NG, S0, M) 0 0 := by
  exact cal_of g_mo_has p_mo_has (fun v hv => by simp only [List.mem_cons, List.not_mem_nil, or_false] at hv; rcases hv with rfl | rfl <;> first | exact Or.inl ⟨_, rfl⟩ | exact Or.inr ⟨_, rfl⟩) ho hM (Nat.le_of_ble_eq_true rfl) (fun Γ _ k => J_mo_has  _ rfl k)
abbrev HD_mo_stops_b23 (Δ : DT) (Γ : FT) (d : Nat) (x1 : Int) (s : Int × Int × MEM) : Prop := WAt Δ Γ false m_mo_stops (d + 1) 23 [vR (278), vI (x1), vI (s.1), vI (s.2.1)] [] (NG, S0, s.2.2) 0 0
abbrev X_mo_stops_b23 (Δ : DT) (Γ : FT) (d : Nat) (x1 : Int) (s : Int × Int × MEM) : Prop := WAt Δ Γ false m_mo_stops (d + 1) 57 [vN, vN, vI (s.1), vN] [] (NG, S0, s.2.2) 0 0
set_option maxRecDepth 20000 in
set_option maxHeartbeats 4000000 in
theorem J_mo_stops_j51_23 {Δ : DT} {Γ : FT} {d : Nat} (hd : 76 ≤ d + 1) {x1 : Int} {x2 : Int} {x3 : Int}  {M : MEM} : J (mo_stops_j51_23 x1 x2 x3 M) (Sum.elim (HD_mo_stops_b23 Δ Γ d x1) (X_mo_stops_b23 Δ Γ d x1)) (WAt Δ Γ false m_mo_stops (d + 1) 51 [vR (278), vI (x1), vI (x2), vI (x3)] [] (NG, S0, M) 0 0) := by
  unfold mo_stops_j51_23
  refine J.mono (fun k => s_iinc3 rfl (Nat.le_of_ble_eq_true rfl) (w_goto rfl k)) ?_
  exact J_some (fun k => w_forget (wk_k (wk_k (wk_k (wk_k wk_0)))) k)
set_option maxRecDepth 20000 in
set_option maxHeartbeats 4000000 in
theorem Jb_mo_stops_b23 {Δ : DT} {Γ : FT} {d : Nat} (hd : 76 ≤ d + 1) {x1 : Int}  {x2 : Int} {x3 : Int} {M : MEM} : J (mo_stops_b23 x1 x2 x3 M) (Sum.elim (HD_mo_stops_b23 Δ Γ d x1) (X_mo_stops_b23 Δ Γ d x1)) (WAt Δ Γ false m_mo_stops (d + 1) 23 [vR (278), vI (x1), vI (x2), vI (x3)] [] (NG, S0, M) 0 0) := by
  unfold mo_stops_b23
  refine J.mono (fun k => w_iload_n rfl rfl (w_sipush rfl (sip_c rfl) k)) ?_
  refine J_ite (fun hc8 => ?_) (fun hc8 => ?_)
  · refine J.mono (fun k => s_icmp_gt_t rfl hc8 k) ?_
    exact J_some (fun k => w_forget (wk_d (wk_d (wk_k (wk_d wk_0)))) k)
  · refine J.mono (fun k => s_icmp_gt_f rfl hc8 (w_aload_n rfl rfl (w_aload_n rfl rfl (w_getR (r := 292) rfl (Nat.le_of_ble_eq_true rfl) S_278 rfl k)))) ?_
    refine J_c (fun M10 e9 => ?_)
    refine J.mono (fun k => c_vv1 rfl (fun ho hM => cal_mo_goMinute (by omega) (isArr_len A_292) e9 ho hM) v_mo_goMinute (Nat.le_of_ble_eq_true rfl) S_278 rfl (Nat.le_of_ble_eq_true rfl) (w_aload_n rfl rfl (w_getI rfl (Nat.le_of_ble_eq_true rfl) S_278 rfl (w_iload_n rfl rfl k)))) ?_
    refine J_hyp (fun k => c_si2 rfl rfl (fun ho hM => cal_mo_has (by omega)   ho hM) v_mo_has (Nat.le_of_ble_eq_true rfl) k) (fun hr12 hb13 => ?_)
    refine J_ite (fun hc14 => ?_) (fun hc14 => ?_)
    · refine J.mono (fun k => s_if_ne_f rfl hc14 (w_iload_n rfl rfl (s_istore2 rfl (Nat.le_of_ble_eq_true rfl) k))) ?_
      exact J.mono (fun k => w_forget (wk_k (wk_k (wk_k (wk_k wk_0)))) k) (J_mo_stops_j51_23 hd )
    · refine J.mono (fun k => s_if_ne_t rfl hc14 k) ?_
      exact J.mono (fun k => w_forget (wk_k (wk_k (wk_k (wk_k wk_0)))) k) (J_mo_stops_j51_23 hd )
set_option maxRecDepth 20000 in
set_option maxHeartbeats 4000000 in
theorem Jl_mo_stops_b23 {Δ : DT} {Γ : FT} {d : Nat} (hd : 76 ≤ d + 1) {x1 : Int}   : ∀ (n : Nat) (s : Int × Int × MEM), J (iter (fun s => mo_stops_b23 x1 s.1 s.2.1 s.2.2) n s) (X_mo_stops_b23 Δ Γ d x1) (HD_mo_stops_b23 Δ Γ d x1 s) := J_iter (fun s => Jb_mo_stops_b23 hd )
set_option maxRecDepth 20000 in
set_option maxHeartbeats 4000000 in
theorem J_mo_stops {Δ : DT} {Γ : FT} {d : Nat} (hd : 76 ≤ d + 1) {x1 : Int}  {M : MEM} : J (mo_stops x1 M) (K_IM Δ Γ m_mo_stops) (WAt Δ Γ false m_mo_stops (d + 1) 0 [vR (278), vI (x1), vN, vN] [] (NG, S0, M) 0 0) := by
  unfold mo_stops
  refine J.mono (fun k => w_aload_n rfl rfl (w_iconst rfl (inR_c rfl) k)) ?_
  refine J_b ?_
  refine J.mono (fun k => w_putI rfl (Nat.le_of_ble_eq_true rfl) S_278 rfl rfl (w_aload_n rfl rfl (w_iload_n rfl rfl k))) ?_
  refine J_hyp (fun k => c_vi1 rfl (fun ho hM => cal_mo_isDonkey (by omega)   ho hM) v_mo_isDonkey (Nat.le_of_ble_eq_true rfl) S_278 rfl (Nat.le_of_ble_eq_true rfl) k) (fun hr3 hb4 => ?_)
  refine J_ite (fun hc5 => ?_) (fun hc5 => ?_)
  · refine J.mono (fun k => s_if_ne_f rfl hc5 (w_iconst rfl (inR_c rfl) k)) ?_
    exact J_some (fun k => w_ireturn rfl rfl k)
  · refine J.mono (fun k => s_if_ne_t rfl hc5 (w_aload_n rfl rfl k)) ?_
    refine J_c (fun M7 e6 => ?_)
    refine J.mono (fun k => c_vv0 rfl (fun ho hM => cal_mo_beginThen (by omega)  e6 ho hM) v_mo_beginThen (Nat.le_of_ble_eq_true rfl) S_278 rfl (Nat.le_of_ble_eq_true rfl) (w_iconst rfl (inR_c rfl) (s_istore2 rfl (Nat.le_of_ble_eq_true rfl) (w_iconst rfl (inR_c rfl) (s_istore3 rfl (Nat.le_of_ble_eq_true rfl) k))))) ?_
    refine J.mono (fun k => w_forget (wk_k (wk_k (wk_k (wk_k wk_0)))) k) ?_
    refine J_loop (Jl_mo_stops_b23 hd  _ _) (fun w15 => ?_)
    refine J.mono (fun k => w_iload_n rfl rfl (w_sipush rfl (sip_c rfl) k)) ?_
    refine J_ite (fun hc16 => ?_) (fun hc16 => ?_)
    · refine J.mono (fun k => s_icmp_ne_f rfl hc16 (w_bipush rfl (bip_c rfl) (w_goto rfl k))) ?_
      exact J_some (fun k => w_ireturn rfl rfl k)
    · refine J.mono (fun k => s_icmp_ne_t rfl hc16 (w_iload_n rfl rfl k)) ?_
      exact J_some (fun k => w_ireturn rfl rfl k)
set_option maxRecDepth 20000 in
set_option maxHeartbeats 4000000 in
theorem cal_mo_stops {Δ : DT} {d : Nat} (hd : 76 ≤ d) {x1 : Int}  {M : MEM} {p : Int × MEM} (h : mo_stops x1 M = some p) (ho : okVs [vR 278, vI x1]) (hM : okM M) : Cal Δ false m_mo_stops d [vR 278, vI x1] (NG, S0, M) (some p.1) (NG, S0, p.2) 0 0 := by
  obtain ⟨d, rfl⟩ : ∃ e, d = e + 1 := ⟨d - 1, by omega⟩
  exact cal_of g_mo_stops p_mo_stops (fun v hv => by simp only [List.mem_cons, List.not_mem_nil, or_false] at hv; rcases hv with rfl | rfl <;> first | exact Or.inl ⟨_, rfl⟩ | exact Or.inr ⟨_, rfl⟩) ho hM (Nat.le_of_ble_eq_true rfl) (fun Γ _ k => J_mo_stops hd  _ h k)
abbrev HD_mo_eats_b28 (Δ : DT) (Γ : FT) (d : Nat) (x1 : Int) (x2 : Int) (s : Int × MEM) : Prop := WAt Δ Γ false m_mo_eats (d + 1) 28 [vR (278), vI (x1), vI (x2), vI (s.1), vN, vN, vN] [] (NG, S0, s.2) 0 0
abbrev X_mo_eats_b28 (Δ : DT) (Γ : FT) (d : Nat) (x1 : Int) (x2 : Int) (s : Int × MEM) : Prop := WAt Δ Γ false m_mo_eats (d + 1) 47 [vR (278), vI (x1), vI (x2), vN, vN, vN, vN] [] (NG, S0, s.2) 0 0
set_option maxRecDepth 20000 in
set_option maxHeartbeats 4000000 in
theorem Jb_mo_eats_b28 {Δ : DT} {Γ : FT} {d : Nat} (hd : 76 ≤ d + 1) {x1 : Int} {x2 : Int}  {x3 : Int} {M : MEM} : J (mo_eats_b28 x1 x2 x3 M) (Sum.elim (HD_mo_eats_b28 Δ Γ d x1 x2) (X_mo_eats_b28 Δ Γ d x1 x2)) (WAt Δ Γ false m_mo_eats (d + 1) 28 [vR (278), vI (x1), vI (x2), vI (x3), vN, vN, vN] [] (NG, S0, M) 0 0) := by
  unfold mo_eats_b28
  refine J.mono (fun k => w_iload_n rfl rfl (w_bipush rfl (bip_c rfl) k)) ?_
  refine J_ite (fun hc10 => ?_) (fun hc10 => ?_)
  · refine J.mono (fun k => s_icmp_ge_t rfl hc10 k) ?_
    exact J_some (fun k => w_forget (wk_k (wk_k (wk_k (wk_d (wk_d (wk_d (wk_d wk_0))))))) k)
  · refine J.mono (fun k => s_icmp_ge_f rfl hc10 (w_aload_n rfl rfl (w_getR (r := 294) rfl (Nat.le_of_ble_eq_true rfl) S_278 rfl (w_iload_n rfl rfl (w_iconst rfl (inR_c rfl) k))))) ?_
    refine J_chk (fun hi12 => ?_)
    refine J_b ?_
    refine J.mono (fun k => w_iast rfl A_294.1 A_294.2 hi12.1 hi12.2 rfl (s_iinc3 rfl (Nat.le_of_ble_eq_true rfl) (w_goto rfl k))) ?_
    exact J_some (fun k => w_forget (wk_k (wk_k (wk_k (wk_k (wk_d (wk_d (wk_d wk_0))))))) k)
set_option maxRecDepth 20000 in
set_option maxHeartbeats 4000000 in
theorem Jl_mo_eats_b28 {Δ : DT} {Γ : FT} {d : Nat} (hd : 76 ≤ d + 1) {x1 : Int} {x2 : Int}   : ∀ (n : Nat) (s : Int × MEM), J (iter (fun s => mo_eats_b28 x1 x2 s.1 s.2) n s) (X_mo_eats_b28 Δ Γ d x1 x2) (HD_mo_eats_b28 Δ Γ d x1 x2 s) := J_iter (fun s => Jb_mo_eats_b28 hd )
abbrev HD_mo_eats_b61 (Δ : DT) (Γ : FT) (d : Nat) (x1 : Int) (x2 : Int) (s : Int × Int × MEM) : Prop := WAt Δ Γ false m_mo_eats (d + 1) 61 [vR (278), vI (x1), vI (x2), vI (s.1), vI (s.2.1), vN, vN] [] (NG, S0, s.2.2) 0 0
abbrev X_mo_eats_b61 (Δ : DT) (Γ : FT) (d : Nat) (x1 : Int) (x2 : Int) (s : Int × Int × MEM) : Prop := WAt Δ Γ false m_mo_eats (d + 1) 111 [vR (278), vN, vN, vI (s.1), vN, vN, vN] [] (NG, S0, s.2.2) 0 0
set_option maxRecDepth 20000 in
set_option maxHeartbeats 4000000 in
theorem J_mo_eats_j105_61 {Δ : DT} {Γ : FT} {d : Nat} (hd : 76 ≤ d + 1) {x1 : Int} {x2 : Int} {x3 : Int} {x4 : Int}  {M : MEM} : J (mo_eats_j105_61 x1 x2 x3 x4 M) (Sum.elim (HD_mo_eats_b61 Δ Γ d x1 x2) (X_mo_eats_b61 Δ Γ d x1 x2)) (WAt Δ Γ false m_mo_eats (d + 1) 105 [vR (278), vI (x1), vI (x2), vI (x3), vI (x4), vN, vN] [] (NG, S0, M) 0 0) := by
  unfold mo_eats_j105_61
  refine J.mono (fun k => s_iinc4 rfl (Nat.le_of_ble_eq_true rfl) (w_goto rfl k)) ?_
  exact J_some (fun k => w_forget (wk_k (wk_k (wk_k (wk_k (wk_k (wk_d (wk_d wk_0))))))) k)
set_option maxRecDepth 20000 in
set_option maxHeartbeats 4000000 in
theorem Jb_mo_eats_b61 {Δ : DT} {Γ : FT} {d : Nat} (hd : 76 ≤ d + 1) {x1 : Int} {x2 : Int}  {x3 : Int} {x4 : Int} {M : MEM} : J (mo_eats_b61 x1 x2 x3 x4 M) (Sum.elim (HD_mo_eats_b61 Δ Γ d x1 x2) (X_mo_eats_b61 Δ Γ d x1 x2)) (WAt Δ Γ false m_mo_eats (d + 1) 61 [vR (278), vI (x1), vI (x2), vI (x3), vI (x4), vN, vN] [] (NG, S0, M) 0 0) := by
  unfold mo_eats_b61
  refine J.mono (fun k => w_iload rfl rfl (w_iload_n rfl rfl k)) ?_
  refine J_ite (fun hc17 => ?_) (fun hc17 => ?_)
  · refine J.mono (fun k => s_icmp_ge_t rfl hc17 k) ?_
    exact J_some (fun k => w_forget (wk_k (wk_d (wk_d (wk_k (wk_d (wk_d (wk_d wk_0))))))) k)
  · refine J.mono (fun k => s_icmp_ge_f rfl hc17 (w_aload_n rfl rfl (w_aload_n rfl rfl (w_getR (r := 292) rfl (Nat.le_of_ble_eq_true rfl) S_278 rfl k)))) ?_
    refine J_c (fun M19 e18 => ?_)
    refine J.mono (fun k => c_vv1 rfl (fun ho hM => cal_mo_goMinute (by omega) (isArr_len A_292) e18 ho hM) v_mo_goMinute (Nat.le_of_ble_eq_true rfl) S_278 rfl (Nat.le_of_ble_eq_true rfl) (w_aload_n rfl rfl (w_getI rfl (Nat.le_of_ble_eq_true rfl) S_278 rfl (w_iload_n rfl rfl k)))) ?_
    refine J_hyp (fun k => c_si2 rfl rfl (fun ho hM => cal_mo_has (by omega)   ho hM) v_mo_has (Nat.le_of_ble_eq_true rfl) k) (fun hr21 hb22 => ?_)
    refine J_ite (fun hc23 => ?_) (fun hc23 => ?_)
    · refine J.mono (fun k => s_if_ne_f rfl hc23 (w_goto rfl k)) ?_
      exact J.mono (fun k => w_forget (wk_k (wk_k (wk_k (wk_k (wk_k (wk_d (wk_d wk_0))))))) k) (J_mo_eats_j105_61 hd )
    · refine J.mono (fun k => s_if_ne_t rfl hc23 (w_aload_n rfl rfl (w_getR (r := 294) rfl (Nat.le_of_ble_eq_true rfl) S_278 rfl (w_aload_n rfl rfl (w_getI rfl (Nat.le_of_ble_eq_true rfl) S_278 rfl (w_dup2 rfl (fun _ h => by cases h) (fun _ h => by cases h) k)))))) ?_
      refine J_chk (fun hi24 => ?_)
      refine J.mono (fun k => w_iald rfl A_294.1 A_294.2 hi24.1 hi24.2 (w_iconst rfl (inR_c rfl) (w_iadd rfl k))) ?_
      refine J_chk (fun hi26 => ?_)
      refine J_b ?_
      refine J.mono (fun k => w_iast rfl A_294.1 A_294.2 hi26.1 hi26.2 rfl (s_iinc3 rfl (Nat.le_of_ble_eq_true rfl) k)) ?_
      exact J.mono (fun k => w_forget (wk_k (wk_k (wk_k (wk_k (wk_k (wk_d (wk_d wk_0))))))) k) (J_mo_eats_j105_61 hd )
set_option maxRecDepth 20000 in
set_option maxHeartbeats 4000000 in
theorem Jl_mo_eats_b61 {Δ : DT} {Γ : FT} {d : Nat} (hd : 76 ≤ d + 1) {x1 : Int} {x2 : Int}   : ∀ (n : Nat) (s : Int × Int × MEM), J (iter (fun s => mo_eats_b61 x1 x2 s.1 s.2.1 s.2.2) n s) (X_mo_eats_b61 Δ Γ d x1 x2) (HD_mo_eats_b61 Δ Γ d x1 x2 s) := J_iter (fun s => Jb_mo_eats_b61 hd )
abbrev HD_mo_eats_b125 (Δ : DT) (Γ : FT) (d : Nat) (x3 : Int) (M : MEM) (s : Int × Int × Int) : Prop := WAt Δ Γ false m_mo_eats (d + 1) 125 [vR (278), vN, vN, vI (x3), vI (s.1), vI (s.2.1), vI (s.2.2)] [] (NG, S0, M) 0 0
abbrev X_mo_eats_b125 (Δ : DT) (Γ : FT) (d : Nat) (x3 : Int) (M : MEM) (s : Int × Int × Int) : Prop := WAt Δ Γ false m_mo_eats (d + 1) 166 [vR (278), vN, vN, vI (x3), vI (s.1), vI (s.2.1), vN] [] (NG, S0, M) 0 0
set_option maxRecDepth 20000 in
set_option maxHeartbeats 4000000 in
theorem J_mo_eats_j160_125 {Δ : DT} {Γ : FT} {d : Nat} (hd : 76 ≤ d + 1) {x3 : Int} {x4 : Int} {x5 : Int} {x6 : Int}  {M : MEM} : J (mo_eats_j160_125 x3 x4 x5 x6 M) (Sum.elim (HD_mo_eats_b125 Δ Γ d x3 M) (X_mo_eats_b125 Δ Γ d x3 M)) (WAt Δ Γ false m_mo_eats (d + 1) 160 [vR (278), vN, vN, vI (x3), vI (x4), vI (x5), vI (x6)] [] (NG, S0, M) 0 0) := by
  unfold mo_eats_j160_125
  refine J.mono (fun k => s_iinc6 rfl (Nat.le_of_ble_eq_true rfl) (w_goto rfl k)) ?_
  exact J_some (fun k => w_forget (wk_k (wk_d (wk_d (wk_k (wk_k (wk_k (wk_k wk_0))))))) k)
set_option maxRecDepth 20000 in
set_option maxHeartbeats 4000000 in
theorem Jb_mo_eats_b125 {Δ : DT} {Γ : FT} {d : Nat} (hd : 76 ≤ d + 1) {x3 : Int}  {x4 : Int} {x5 : Int} {x6 : Int} {M : MEM} : J (mo_eats_b125 x3 x4 x5 x6 M) (Sum.elim (HD_mo_eats_b125 Δ Γ d x3 M) (X_mo_eats_b125 Δ Γ d x3 M)) (WAt Δ Γ false m_mo_eats (d + 1) 125 [vR (278), vN, vN, vI (x3), vI (x4), vI (x5), vI (x6)] [] (NG, S0, M) 0 0) := by
  unfold mo_eats_b125
  refine J.mono (fun k => w_iload rfl rfl (w_bipush rfl (bip_c rfl) k)) ?_
  refine J_ite (fun hc29 => ?_) (fun hc29 => ?_)
  · refine J.mono (fun k => s_icmp_ge_t rfl hc29 k) ?_
    exact J_some (fun k => w_forget (wk_k (wk_d (wk_d (wk_k (wk_k (wk_k (wk_d wk_0))))))) k)
  · refine J.mono (fun k => s_icmp_ge_f rfl hc29 (w_aload_n rfl rfl (w_getR (r := 294) rfl (Nat.le_of_ble_eq_true rfl) S_278 rfl (w_iload rfl rfl k)))) ?_
    refine J_chk (fun hi30 => ?_)
    refine J.mono (fun k => w_iald rfl A_294.1 A_294.2 hi30.1 hi30.2 (w_iload rfl rfl k)) ?_
    refine J_ite (fun hc31 => ?_) (fun hc31 => ?_)
    · refine J.mono (fun k => s_icmp_gt_t rfl hc31 (w_iload rfl rfl (s_istore4 rfl (Nat.le_of_ble_eq_true rfl) (w_aload_n rfl rfl (w_getR (r := 294) rfl (Nat.le_of_ble_eq_true rfl) S_278 rfl (w_iload rfl rfl k)))))) ?_
      refine J_chk (fun hi32 => ?_)
      refine J.mono (fun k => w_iald rfl A_294.1 A_294.2 hi32.1 hi32.2 (s_istore5 rfl (Nat.le_of_ble_eq_true rfl) k)) ?_
      exact J.mono (fun k => w_forget (wk_k (wk_d (wk_d (wk_k (wk_k (wk_k (wk_k wk_0))))))) k) (J_mo_eats_j160_125 hd )
    · refine J.mono (fun k => s_icmp_gt_f rfl hc31 (w_goto rfl k)) ?_
      exact J.mono (fun k => w_forget (wk_k (wk_d (wk_d (wk_k (wk_k (wk_k (wk_k wk_0))))))) k) (J_mo_eats_j160_125 hd )
set_option maxRecDepth 20000 in
set_option maxHeartbeats 4000000 in
theorem Jl_mo_eats_b125 {Δ : DT} {Γ : FT} {d : Nat} (hd : 76 ≤ d + 1) {x3 : Int}  {M : MEM} : ∀ (n : Nat) (s : Int × Int × Int), J (iter (fun s => mo_eats_b125 x3 s.1 s.2.1 s.2.2 M) n s) (X_mo_eats_b125 Δ Γ d x3 M) (HD_mo_eats_b125 Δ Γ d x3 M s) := J_iter (fun s => Jb_mo_eats_b125 hd )
set_option maxRecDepth 20000 in
set_option maxHeartbeats 4000000 in
theorem J_mo_eats {Δ : DT} {Γ : FT} {d : Nat} (hd : 76 ≤ d + 1) {x1 : Int} {x2 : Int}  {M : MEM} : J (mo_eats x1 x2 M) (K_IM Δ Γ m_mo_eats) (WAt Δ Γ false m_mo_eats (d + 1) 0 [vR (278), vI (x1), vI (x2), vN, vN, vN, vN] [] (NG, S0, M) 0 0) := by
  unfold mo_eats
  refine J.mono (fun k => w_aload_n rfl rfl (w_iconst rfl (inR_c rfl) k)) ?_
  refine J_b ?_
  refine J.mono (fun k => w_putI rfl (Nat.le_of_ble_eq_true rfl) S_278 rfl rfl (w_aload_n rfl rfl (w_iload_n rfl rfl k))) ?_
  refine J_hyp (fun k => c_vi1 rfl (fun ho hM => cal_mo_isDonkey (by omega)   ho hM) v_mo_isDonkey (Nat.le_of_ble_eq_true rfl) S_278 rfl (Nat.le_of_ble_eq_true rfl) k) (fun hr3 hb4 => ?_)
  refine J_ite (fun hc5 => ?_) (fun hc5 => ?_)
  · refine J.mono (fun k => s_if_eq_t rfl hc5 (w_iconst rfl (inR_c rfl) k)) ?_
    exact J_some (fun k => w_ireturn rfl rfl k)
  · refine J.mono (fun k => s_if_eq_f rfl hc5 (w_iload_n rfl rfl (w_iconst rfl (inR_c rfl) (w_sipush rfl (sip_c rfl) k)))) ?_
    refine J_hyp (fun k => c_si3 rfl rfl (fun ho hM => cal_mo_in (by omega)   ho hM) v_mo_in (Nat.le_of_ble_eq_true rfl) k) (fun hr7 hb8 => ?_)
    refine J_ite (fun hc9 => ?_) (fun hc9 => ?_)
    · refine J.mono (fun k => s_if_ne_f rfl hc9 (w_iconst rfl (inR_c rfl) k)) ?_
      exact J_some (fun k => w_ireturn rfl rfl k)
    · refine J.mono (fun k => s_if_ne_t rfl hc9 (w_iconst rfl (inR_c rfl) (s_istore3 rfl (Nat.le_of_ble_eq_true rfl) k))) ?_
      refine J.mono (fun k => w_forget (wk_k (wk_k (wk_k (wk_k (wk_d (wk_d (wk_d wk_0))))))) k) ?_
      refine J_loop (Jl_mo_eats_b28 hd  _ _) (fun w13 => ?_)
      refine J.mono (fun k => w_aload_n rfl rfl k) ?_
      refine J_c (fun M15 e14 => ?_)
      refine J.mono (fun k => c_vv0 rfl (fun ho hM => cal_mo_beginThen (by omega)  e14 ho hM) v_mo_beginThen (Nat.le_of_ble_eq_true rfl) S_278 rfl (Nat.le_of_ble_eq_true rfl) (w_aload_n rfl rfl (w_iload_n rfl rfl k))) ?_
      refine J_b ?_
      refine J.mono (fun k => w_putI rfl (Nat.le_of_ble_eq_true rfl) S_278 rfl rfl (w_iconst rfl (inR_c rfl) (s_istore3 rfl (Nat.le_of_ble_eq_true rfl) (w_iconst rfl (inR_c rfl) (s_istore4 rfl (Nat.le_of_ble_eq_true rfl) k))))) ?_
      refine J.mono (fun k => w_forget (wk_k (wk_k (wk_k (wk_k (wk_k (wk_d (wk_d wk_0))))))) k) ?_
      refine J_loop (Jl_mo_eats_b61 hd  _ _) (fun w27 => ?_)
      refine J.mono (fun k => w_aload_n rfl rfl (w_iconst rfl (inR_c rfl) k)) ?_
      refine J_b ?_
      refine J.mono (fun k => w_putI rfl (Nat.le_of_ble_eq_true rfl) S_278 rfl rfl (w_iconst rfl (inR_c rfl) (s_istore4 rfl (Nat.le_of_ble_eq_true rfl) (w_iconst rfl (inR_c rfl) (s_istore5 rfl (Nat.le_of_ble_eq_true rfl) (w_iconst rfl (inR_c rfl) (s_istore6 rfl (Nat.le_of_ble_eq_true rfl) k))))))) ?_
      refine J.mono (fun k => w_forget (wk_k (wk_d (wk_d (wk_k (wk_k (wk_k (wk_k wk_0))))))) k) ?_
      refine J_loop (Jl_mo_eats_b125 hd  _ _) (fun w33 => ?_)
      refine J.mono (fun k => w_aload_n rfl rfl (w_iconst rfl (inR_c rfl) k)) ?_
      refine J_b ?_
      refine J.mono (fun k => w_putI rfl (Nat.le_of_ble_eq_true rfl) S_278 rfl rfl (w_aload_n rfl rfl (w_iload rfl rfl k))) ?_
      refine J_c (fun M36 e35 => ?_)
      refine J.mono (fun k => c_vv1 rfl (fun ho hM => cal_mo_tell (by omega)  e35 ho hM) v_mo_tell (Nat.le_of_ble_eq_true rfl) S_278 rfl (Nat.le_of_ble_eq_true rfl) (w_aload_n rfl rfl (w_iload rfl rfl k))) ?_
      refine J_c (fun M38 e37 => ?_)
      refine J.mono (fun k => c_vv1 rfl (fun ho hM => cal_mo_tell (by omega)  e37 ho hM) v_mo_tell (Nat.le_of_ble_eq_true rfl) S_278 rfl (Nat.le_of_ble_eq_true rfl) (w_iload_n rfl rfl k)) ?_
      exact J_some (fun k => w_ireturn rfl rfl k)
set_option maxRecDepth 20000 in
set_option maxHeartbeats 4000000 in
theorem cal_mo_eats {Δ : DT} {d : Nat} (hd : 76 ≤ d) {x1 : Int} {x2 : Int}  {M : MEM} {p : Int × MEM} (h : mo_eats x1 x2 M = some p) (ho : okVs [vR 278, vI x1, vI x2]) (hM : okM M) : Cal Δ false m_mo_eats d [vR 278, vI x1, vI x2] (NG, S0, M) (some p.1) (NG, S0, p.2) 0 0 := by
  obtain ⟨d, rfl⟩ : ∃ e, d = e + 1 := ⟨d - 1, by omega⟩
  exact cal_of g_mo_eats p_mo_eats (fun v hv => by simp only [List.mem_cons, List.not_mem_nil, or_false] at hv; rcases hv with rfl | rfl | rfl <;> first | exact Or.inl ⟨_, rfl⟩ | exact Or.inr ⟨_, rfl⟩) ho hM (Nat.le_of_ble_eq_true rfl) (fun Γ _ k => J_mo_eats hd  _ h k)
set_option maxRecDepth 20000 in
set_option maxHeartbeats 4000000 in
theorem J_mo_owe {Δ : DT} {Γ : FT} {d : Nat} (hd : 2 ≤ d + 1) {x1 : Int} {x2 : Int} {x3 : Int} {x4 : Int} {x5 : Int}  {M : MEM} : J (mo_owe x1 x2 x3 x4 x5 M) (K_IM Δ Γ m_mo_owe) (WAt Δ Γ false m_mo_owe (d + 1) 0 [vR (278), vI (x1), vI (x2), vI (x3), vI (x4), vI (x5), vN] [] (NG, S0, M) 0 0) := by
  unfold mo_owe
  refine J.mono (fun k => w_aload_n rfl rfl (w_iconst rfl (inR_c rfl) k)) ?_
  refine J_b ?_
  refine J.mono (fun k => w_putI rfl (Nat.le_of_ble_eq_true rfl) S_278 rfl rfl (w_iload_n rfl rfl (w_iconst rfl (inR_c rfl) (w_iconst rfl (inR_c rfl) k)))) ?_
  refine J_hyp (fun k => c_si3 rfl rfl (fun ho hM => cal_mo_in (by omega)   ho hM) v_mo_in (Nat.le_of_ble_eq_true rfl) k) (fun hr3 hb4 => ?_)
  refine J_ite (fun hc5 => ?_) (fun hc5 => ?_)
  · refine J.mono (fun k => s_if_eq_t rfl hc5 (w_iconst rfl (inR_c rfl) k)) ?_
    exact J_some (fun k => w_ireturn rfl rfl k)
  · refine J.mono (fun k => s_if_eq_f rfl hc5 (w_iload_n rfl rfl (w_iconst rfl (inR_c rfl) (w_iconst rfl (inR_c rfl) k)))) ?_
    refine J_hyp (fun k => c_si3 rfl rfl (fun ho hM => cal_mo_in (by omega)   ho hM) v_mo_in (Nat.le_of_ble_eq_true rfl) k) (fun hr7 hb8 => ?_)
    refine J_ite (fun hc9 => ?_) (fun hc9 => ?_)
    · refine J.mono (fun k => s_if_eq_t rfl hc9 (w_iconst rfl (inR_c rfl) k)) ?_
      exact J_some (fun k => w_ireturn rfl rfl k)
    · refine J.mono (fun k => s_if_eq_f rfl hc9 (w_iload_n rfl rfl (w_iload_n rfl rfl k))) ?_
      refine J_ite (fun hc10 => ?_) (fun hc10 => ?_)
      · refine J.mono (fun k => s_icmp_eq_t rfl hc10 (w_iconst rfl (inR_c rfl) k)) ?_
        exact J_some (fun k => w_ireturn rfl rfl k)
      · refine J.mono (fun k => s_icmp_eq_f rfl hc10 (w_iload_n rfl rfl (w_iconst rfl (inR_c rfl) (w_bipush rfl (bip_c rfl) k)))) ?_
        refine J_hyp (fun k => c_si3 rfl rfl (fun ho hM => cal_mo_in (by omega)   ho hM) v_mo_in (Nat.le_of_ble_eq_true rfl) k) (fun hr12 hb13 => ?_)
        refine J_ite (fun hc14 => ?_) (fun hc14 => ?_)
        · refine J.mono (fun k => s_if_eq_t rfl hc14 (w_iconst rfl (inR_c rfl) k)) ?_
          exact J_some (fun k => w_ireturn rfl rfl k)
        · refine J.mono (fun k => s_if_eq_f rfl hc14 (w_aload_n rfl rfl (w_iload rfl rfl k))) ?_
          refine J_hyp (fun k => c_vi1 rfl (fun ho hM => cal_mo_isDonkey (by omega)   ho hM) v_mo_isDonkey (Nat.le_of_ble_eq_true rfl) S_278 rfl (Nat.le_of_ble_eq_true rfl) k) (fun hr16 hb17 => ?_)
          refine J_ite (fun hc18 => ?_) (fun hc18 => ?_)
          · refine J.mono (fun k => s_if_eq_t rfl hc18 (w_iconst rfl (inR_c rfl) k)) ?_
            exact J_some (fun k => w_ireturn rfl rfl k)
          · refine J.mono (fun k => s_if_eq_f rfl hc18 (w_iload rfl rfl (w_iconst rfl (inR_c rfl) (w_bipush rfl (bip_c rfl) k)))) ?_
            refine J_hyp (fun k => c_si3 rfl rfl (fun ho hM => cal_mo_in (by omega)   ho hM) v_mo_in (Nat.le_of_ble_eq_true rfl) k) (fun hr20 hb21 => ?_)
            refine J_ite (fun hc22 => ?_) (fun hc22 => ?_)
            · refine J.mono (fun k => s_if_ne_f rfl hc22 (w_iconst rfl (inR_c rfl) k)) ?_
              exact J_some (fun k => w_ireturn rfl rfl k)
            · refine J.mono (fun k => s_if_ne_t rfl hc22 (w_aload_n rfl rfl (w_getI rfl (Nat.le_of_ble_eq_true rfl) S_278 rfl (w_bipush rfl (bip_c rfl) k)))) ?_
              refine J_ite (fun hc23 => ?_) (fun hc23 => ?_)
              · refine J.mono (fun k => s_icmp_ne_f rfl hc23 (w_bipush rfl (bip_c rfl) k)) ?_
                exact J_some (fun k => w_ireturn rfl rfl k)
              · refine J.mono (fun k => s_icmp_ne_t rfl hc23 (w_iconst rfl (inR_c rfl) (w_aload_n rfl rfl (w_getI rfl (Nat.le_of_ble_eq_true rfl) S_278 rfl (w_imul rfl (s_istore6 rfl (Nat.le_of_ble_eq_true rfl) (w_aload_n rfl rfl (w_getR (r := 295) rfl (Nat.le_of_ble_eq_true rfl) S_278 rfl (w_iload rfl rfl (w_iload_n rfl rfl k)))))))))) ?_
                refine J_chk (fun hi25 => ?_)
                refine J_b ?_
                refine J.mono (fun k => w_iast rfl A_295.1 A_295.2 hi25.1 hi25.2 rfl (w_aload_n rfl rfl (w_getR (r := 295) rfl (Nat.le_of_ble_eq_true rfl) S_278 rfl (w_iload rfl rfl (w_iconst rfl (inR_c rfl) (w_iadd rfl (w_iload_n rfl rfl k))))))) ?_
                refine J_chk (fun hi27 => ?_)
                refine J_b ?_
                refine J.mono (fun k => w_iast rfl A_295.1 A_295.2 hi27.1 hi27.2 rfl (w_aload_n rfl rfl (w_getR (r := 295) rfl (Nat.le_of_ble_eq_true rfl) S_278 rfl (w_iload rfl rfl (w_iconst rfl (inR_c rfl) (w_iadd rfl (w_iload_n rfl rfl k))))))) ?_
                refine J_chk (fun hi29 => ?_)
                refine J_b ?_
                refine J.mono (fun k => w_iast rfl A_295.1 A_295.2 hi29.1 hi29.2 rfl (w_aload_n rfl rfl (w_getR (r := 295) rfl (Nat.le_of_ble_eq_true rfl) S_278 rfl (w_iload rfl rfl (w_iconst rfl (inR_c rfl) (w_iadd rfl (w_iload rfl rfl k))))))) ?_
                refine J_chk (fun hi31 => ?_)
                refine J_b ?_
                refine J.mono (fun k => w_iast rfl A_295.1 A_295.2 hi31.1 hi31.2 rfl (w_aload_n rfl rfl (w_getR (r := 295) rfl (Nat.le_of_ble_eq_true rfl) S_278 rfl (w_iload rfl rfl (w_iconst rfl (inR_c rfl) (w_iadd rfl (w_iload rfl rfl k))))))) ?_
                refine J_chk (fun hi33 => ?_)
                refine J_b ?_
                refine J.mono (fun k => w_iast rfl A_295.1 A_295.2 hi33.1 hi33.2 rfl (w_aload_n rfl rfl (w_dup rfl (fun _ h => by cases h) (w_getI rfl (Nat.le_of_ble_eq_true rfl) S_278 rfl (w_iconst rfl (inR_c rfl) (w_iadd rfl k)))))) ?_
                refine J_b ?_
                refine J.mono (fun k => w_putI rfl (Nat.le_of_ble_eq_true rfl) S_278 rfl rfl (w_aload_n rfl rfl (w_getI rfl (Nat.le_of_ble_eq_true rfl) S_278 rfl (w_iconst rfl (inR_c rfl) (w_isub rfl k))))) ?_
                exact J_some (fun k => w_ireturn rfl rfl k)
set_option maxRecDepth 20000 in
set_option maxHeartbeats 4000000 in
theorem cal_mo_owe {Δ : DT} {d : Nat} (hd : 2 ≤ d) {x1 : Int} {x2 : Int} {x3 : Int} {x4 : Int} {x5 : Int}  {M : MEM} {p : Int × MEM} (h : mo_owe x1 x2 x3 x4 x5 M = some p) (ho : okVs [vR 278, vI x1, vI x2, vI x3, vI x4, vI x5]) (hM : okM M) : Cal Δ false m_mo_owe d [vR 278, vI x1, vI x2, vI x3, vI x4, vI x5] (NG, S0, M) (some p.1) (NG, S0, p.2) 0 0 := by
  obtain ⟨d, rfl⟩ : ∃ e, d = e + 1 := ⟨d - 1, by omega⟩
  exact cal_of g_mo_owe p_mo_owe (fun v hv => by simp only [List.mem_cons, List.not_mem_nil, or_false] at hv; rcases hv with rfl | rfl | rfl | rfl | rfl | rfl <;> first | exact Or.inl ⟨_, rfl⟩ | exact Or.inr ⟨_, rfl⟩) ho hM (Nat.le_of_ble_eq_true rfl) (fun Γ _ k => J_mo_owe hd  _ h k)
set_option maxRecDepth 20000 in
set_option maxHeartbeats 4000000 in
theorem J_mo_tear {Δ : DT} {Γ : FT} {d : Nat}   {M : MEM} : J (mo_tear M) (K_IM Δ Γ m_mo_tear) (WAt Δ Γ false m_mo_tear d 0 [vR (278), vN] [] (NG, S0, M) 0 0) := by
  unfold mo_tear
  refine J.mono (fun k => w_aload_n rfl rfl (w_iconst rfl (inR_c rfl) k)) ?_
  refine J_b ?_
  refine J.mono (fun k => w_putI rfl (Nat.le_of_ble_eq_true rfl) S_278 rfl rfl (w_aload_n rfl rfl (w_getI rfl (Nat.le_of_ble_eq_true rfl) S_278 rfl (s_istore1 rfl (Nat.le_of_ble_eq_true rfl) (w_aload_n rfl rfl (w_iconst rfl (inR_c rfl) k)))))) ?_
  refine J_b ?_
  refine J.mono (fun k => w_putI rfl (Nat.le_of_ble_eq_true rfl) S_278 rfl rfl (w_iload_n rfl rfl k)) ?_
  exact J_some (fun k => w_ireturn rfl rfl k)
set_option maxRecDepth 20000 in
set_option maxHeartbeats 4000000 in
theorem cal_mo_tear {Δ : DT} {d : Nat} (hd : 0 ≤ d)   {M : MEM} {p : Int × MEM} (h : mo_tear M = some p) (ho : okVs [vR 278]) (hM : okM M) : Cal Δ false m_mo_tear d [vR 278] (NG, S0, M) (some p.1) (NG, S0, p.2) 0 0 := by
  exact cal_of g_mo_tear p_mo_tear (fun v hv => by simp only [List.mem_cons, List.not_mem_nil, or_false] at hv; rcases hv with rfl <;> first | exact Or.inl ⟨_, rfl⟩ | exact Or.inr ⟨_, rfl⟩) ho hM (Nat.le_of_ble_eq_true rfl) (fun Γ _ k => J_mo_tear  _ h k)
abbrev HD_mo_findHours_b2 (Δ : DT) (Γ : FT) (d : Nat) (x1 : Int) (s : Int × MEM) : Prop := WAt Δ Γ false m_mo_findHours (d + 1) 2 [vR (278), vI (x1), vI (s.1), vN, vN, vN] [] (NG, S0, s.2) 0 0
abbrev X_mo_findHours_b2 (Δ : DT) (Γ : FT) (d : Nat) (x1 : Int) (s : Int × MEM) : Prop := WAt Δ Γ false m_mo_findHours (d + 1) 23 [vR (278), vI (x1), vN, vN, vN, vN] [] (NG, S0, s.2) 0 0
set_option maxRecDepth 20000 in
set_option maxHeartbeats 4000000 in
theorem Jb_mo_findHours_b2 {Δ : DT} {Γ : FT} {d : Nat} (hd : 76 ≤ d + 1) {x1 : Int}  {x2 : Int} {M : MEM} : J (mo_findHours_b2 x1 x2 M) (Sum.elim (HD_mo_findHours_b2 Δ Γ d x1) (X_mo_findHours_b2 Δ Γ d x1)) (WAt Δ Γ false m_mo_findHours (d + 1) 2 [vR (278), vI (x1), vI (x2), vN, vN, vN] [] (NG, S0, M) 0 0) := by
  unfold mo_findHours_b2
  refine J.mono (fun k => w_iload_n rfl rfl (w_aload_n rfl rfl (w_getI rfl (Nat.le_of_ble_eq_true rfl) S_278 rfl k))) ?_
  refine J_ite (fun hc1 => ?_) (fun hc1 => ?_)
  · refine J.mono (fun k => s_icmp_ge_t rfl hc1 k) ?_
    exact J_some (fun k => w_forget (wk_k (wk_k (wk_d (wk_d (wk_d (wk_d wk_0)))))) k)
  · refine J.mono (fun k => s_icmp_ge_f rfl hc1 (w_aload_n rfl rfl (w_getR (r := 296) rfl (Nat.le_of_ble_eq_true rfl) S_278 rfl (w_iload_n rfl rfl (w_iconst rfl (inR_c rfl) k))))) ?_
    refine J_chk (fun hi3 => ?_)
    refine J_b ?_
    refine J.mono (fun k => w_iast rfl A_296.1 A_296.2 hi3.1 hi3.2 rfl (s_iinc2 rfl (Nat.le_of_ble_eq_true rfl) (w_goto rfl k))) ?_
    exact J_some (fun k => w_forget (wk_k (wk_k (wk_k (wk_d (wk_d (wk_d wk_0)))))) k)
set_option maxRecDepth 20000 in
set_option maxHeartbeats 4000000 in
theorem Jl_mo_findHours_b2 {Δ : DT} {Γ : FT} {d : Nat} (hd : 76 ≤ d + 1) {x1 : Int}   : ∀ (n : Nat) (s : Int × MEM), J (iter (fun s => mo_findHours_b2 x1 s.1 s.2) n s) (X_mo_findHours_b2 Δ Γ d x1) (HD_mo_findHours_b2 Δ Γ d x1 s) := J_iter (fun s => Jb_mo_findHours_b2 hd )
abbrev HD_mo_findHours_b29 (Δ : DT) (Γ : FT) (d : Nat) (x1 : Int) (s : Int × MEM) : Prop := WAt Δ Γ false m_mo_findHours (d + 1) 29 [vR (278), vI (x1), vI (s.1), vN, vN, vN] [] (NG, S0, s.2) 0 0
abbrev X_mo_findHours_b29 (Δ : DT) (Γ : FT) (d : Nat) (x1 : Int) (s : Int × MEM) : Prop := WAt Δ Γ false m_mo_findHours (d + 1) 164 [vN, vN, vN, vN, vN, vN] [] (NG, S0, s.2) 0 0
abbrev HD_mo_findHours_b44 (Δ : DT) (Γ : FT) (d : Nat) (x1 : Int) (x2 : Int) (s : Int × MEM) : Prop := WAt Δ Γ false m_mo_findHours (d + 1) 44 [vR (278), vI (x1), vI (x2), vI (s.1), vN, vN] [] (NG, S0, s.2) 0 0
abbrev X_mo_findHours_b44 (Δ : DT) (Γ : FT) (d : Nat) (x1 : Int) (x2 : Int) (s : Int × MEM) : Prop := WAt Δ Γ false m_mo_findHours (d + 1) 158 [vR (278), vI (x1), vI (x2), vN, vN, vN] [] (NG, S0, s.2) 0 0
abbrev HD_mo_findHours_b67 (Δ : DT) (Γ : FT) (d : Nat) (x1 : Int) (x2 : Int) (x3 : Int) (x4 : Int) (s : Int × MEM) : Prop := WAt Δ Γ false m_mo_findHours (d + 1) 67 [vR (278), vI (x1), vI (x2), vI (x3), vI (x4), vI (s.1)] [] (NG, S0, s.2) 0 0
abbrev X_mo_findHours_b67 (Δ : DT) (Γ : FT) (d : Nat) (x1 : Int) (x2 : Int) (x3 : Int) (x4 : Int) (s : Int × MEM) : Prop := WAt Δ Γ false m_mo_findHours (d + 1) 152 [vR (278), vI (x1), vI (x2), vI (x3), vN, vN] [] (NG, S0, s.2) 0 0
set_option maxRecDepth 20000 in
set_option maxHeartbeats 4000000 in
theorem J_mo_findHours_j146_67 {Δ : DT} {Γ : FT} {d : Nat} (hd : 76 ≤ d + 1) {x1 : Int} {x2 : Int} {x3 : Int} {x4 : Int} {x5 : Int}  {M : MEM} : J (mo_findHours_j146_67 x1 x2 x3 x4 x5 M) (Sum.elim (HD_mo_findHours_b67 Δ Γ d x1 x2 x3 x4) (X_mo_findHours_b67 Δ Γ d x1 x2 x3 x4)) (WAt Δ Γ false m_mo_findHours (d + 1) 146 [vR (278), vI (x1), vI (x2), vI (x3), vI (x4), vI (x5)] [] (NG, S0, M) 0 0) := by
  unfold mo_findHours_j146_67
  refine J.mono (fun k => s_iinc5 rfl (Nat.le_of_ble_eq_true rfl) (w_goto rfl k)) ?_
  exact J_some (fun k => w_forget (wk_k (wk_k (wk_k (wk_k (wk_k (wk_k wk_0)))))) k)
set_option maxRecDepth 20000 in
set_option maxHeartbeats 4000000 in
theorem J_mo_findHours_j129_67 {Δ : DT} {Γ : FT} {d : Nat} (hd : 76 ≤ d + 1) {x1 : Int} {x2 : Int} {x3 : Int} {x4 : Int} {x5 : Int}  {M : MEM} : J (mo_findHours_j129_67 x1 x2 x3 x4 x5 M) (Sum.elim (HD_mo_findHours_b67 Δ Γ d x1 x2 x3 x4) (X_mo_findHours_b67 Δ Γ d x1 x2 x3 x4)) (WAt Δ Γ false m_mo_findHours (d + 1) 129 [vR (278), vI (x1), vI (x2), vI (x3), vI (x4), vI (x5)] [] (NG, S0, M) 0 0) := by
  unfold mo_findHours_j129_67
  refine J.mono (fun k => w_aload_n rfl rfl (w_getR (r := 298) rfl (Nat.le_of_ble_eq_true rfl) S_278 rfl (w_iload_n rfl rfl (w_iload_n rfl rfl k)))) ?_
  refine J_chk (fun hi22 => ?_)
  refine J_b ?_
  refine J.mono (fun k => w_iast rfl A_298.1 A_298.2 hi22.1 hi22.2 rfl (w_aload_n rfl rfl (w_getR (r := 296) rfl (Nat.le_of_ble_eq_true rfl) S_278 rfl (w_iload_n rfl rfl (w_dup2 rfl (fun _ h => by cases h) (fun _ h => by cases h) k))))) ?_
  refine J_chk (fun hi23 => ?_)
  refine J.mono (fun k => w_iald rfl A_296.1 A_296.2 hi23.1 hi23.2 (w_iconst rfl (inR_c rfl) (w_iadd rfl k))) ?_
  refine J_chk (fun hi25 => ?_)
  refine J_b ?_
  refine J.mono (fun k => w_iast rfl A_296.1 A_296.2 hi25.1 hi25.2 rfl k) ?_
  exact J.mono (fun k => w_forget (wk_k (wk_k (wk_k (wk_k (wk_k (wk_k wk_0)))))) k) (J_mo_findHours_j146_67 hd )
set_option maxRecDepth 20000 in
set_option maxHeartbeats 4000000 in
theorem Jb_mo_findHours_b67 {Δ : DT} {Γ : FT} {d : Nat} (hd : 76 ≤ d + 1) {x1 : Int} {x2 : Int} {x3 : Int} {x4 : Int}  {x5 : Int} {M : MEM} : J (mo_findHours_b67 x1 x2 x3 x4 x5 M) (Sum.elim (HD_mo_findHours_b67 Δ Γ d x1 x2 x3 x4) (X_mo_findHours_b67 Δ Γ d x1 x2 x3 x4)) (WAt Δ Γ false m_mo_findHours (d + 1) 67 [vR (278), vI (x1), vI (x2), vI (x3), vI (x4), vI (x5)] [] (NG, S0, M) 0 0) := by
  unfold mo_findHours_b67
  refine J.mono (fun k => w_iload rfl rfl (w_aload_n rfl rfl (w_getR (r := 287) rfl (Nat.le_of_ble_eq_true rfl) S_278 rfl (w_iload rfl rfl k)))) ?_
  refine J_chk (fun hi12 => ?_)
  refine J.mono (fun k => w_iald rfl A_287.1 A_287.2 hi12.1 hi12.2 k) ?_
  refine J_ite (fun hc13 => ?_) (fun hc13 => ?_)
  · refine J.mono (fun k => s_icmp_ge_t rfl hc13 k) ?_
    exact J_some (fun k => w_forget (wk_k (wk_k (wk_k (wk_k (wk_d (wk_d wk_0)))))) k)
  · refine J.mono (fun k => s_icmp_ge_f rfl hc13 (w_aload_n rfl rfl (w_getR (r := 292) rfl (Nat.le_of_ble_eq_true rfl) S_278 rfl (w_bipush rfl (bip_c rfl) (w_iload rfl rfl (w_imul rfl (w_iconst rfl (inR_c rfl) (w_iadd rfl k)))))))) ?_
    refine J_chk (fun hi14 => ?_)
    refine J.mono (fun k => w_iald rfl A_292.1 A_292.2 hi14.1 hi14.2 (w_iload rfl rfl (w_isub rfl (w_bipush rfl (bip_c rfl) (w_irem rfl (by decide) (w_aload_n rfl rfl (w_getR (r := 295) rfl (Nat.le_of_ble_eq_true rfl) S_278 rfl (w_iconst rfl (inR_c rfl) (w_iload_n rfl rfl (w_imul rfl (w_iconst rfl (inR_c rfl) (w_iadd rfl k)))))))))))) ?_
    refine J_chk (fun hi15 => ?_)
    refine J.mono (fun k => w_iald rfl A_295.1 A_295.2 hi15.1 hi15.2 k) ?_
    refine J_ite (fun hc16 => ?_) (fun hc16 => ?_)
    · refine J.mono (fun k => s_icmp_eq_t rfl hc16 (w_aload_n rfl rfl (w_getR (r := 296) rfl (Nat.le_of_ble_eq_true rfl) S_278 rfl (w_iload_n rfl rfl k)))) ?_
      refine J_chk (fun hi17 => ?_)
      refine J.mono (fun k => w_iald rfl A_296.1 A_296.2 hi17.1 hi17.2 k) ?_
      refine J_ite (fun hc18 => ?_) (fun hc18 => ?_)
      · refine J.mono (fun k => s_if_ne_f rfl hc18 (w_aload_n rfl rfl (w_getR (r := 297) rfl (Nat.le_of_ble_eq_true rfl) S_278 rfl (w_iload_n rfl rfl (w_iload_n rfl rfl k))))) ?_
        refine J_chk (fun hi20 => ?_)
        refine J_b ?_
        refine J.mono (fun k => w_iast rfl A_297.1 A_297.2 hi20.1 hi20.2 rfl k) ?_
        exact J.mono (fun k => w_forget (wk_k (wk_k (wk_k (wk_k (wk_k (wk_k wk_0)))))) k) (J_mo_findHours_j129_67 hd )
      · refine J.mono (fun k => s_if_ne_t rfl hc18 k) ?_
        exact J.mono (fun k => w_forget (wk_k (wk_k (wk_k (wk_k (wk_k (wk_k wk_0)))))) k) (J_mo_findHours_j129_67 hd )
    · refine J.mono (fun k => s_icmp_eq_f rfl hc16 (w_goto rfl k)) ?_
      exact J.mono (fun k => w_forget (wk_k (wk_k (wk_k (wk_k (wk_k (wk_k wk_0)))))) k) (J_mo_findHours_j146_67 hd )
set_option maxRecDepth 20000 in
set_option maxHeartbeats 4000000 in
theorem Jl_mo_findHours_b67 {Δ : DT} {Γ : FT} {d : Nat} (hd : 76 ≤ d + 1) {x1 : Int} {x2 : Int} {x3 : Int} {x4 : Int}   : ∀ (n : Nat) (s : Int × MEM), J (iter (fun s => mo_findHours_b67 x1 x2 x3 x4 s.1 s.2) n s) (X_mo_findHours_b67 Δ Γ d x1 x2 x3 x4) (HD_mo_findHours_b67 Δ Γ d x1 x2 x3 x4 s) := J_iter (fun s => Jb_mo_findHours_b67 hd )
set_option maxRecDepth 20000 in
set_option maxHeartbeats 4000000 in
theorem Jb_mo_findHours_b44 {Δ : DT} {Γ : FT} {d : Nat} (hd : 76 ≤ d + 1) {x1 : Int} {x2 : Int}  {x3 : Int} {M : MEM} : J (mo_findHours_b44 x1 x2 x3 M) (Sum.elim (HD_mo_findHours_b44 Δ Γ d x1 x2) (X_mo_findHours_b44 Δ Γ d x1 x2)) (WAt Δ Γ false m_mo_findHours (d + 1) 44 [vR (278), vI (x1), vI (x2), vI (x3), vN, vN] [] (NG, S0, M) 0 0) := by
  unfold mo_findHours_b44
  refine J.mono (fun k => w_iload_n rfl rfl (w_aload_n rfl rfl (w_getI rfl (Nat.le_of_ble_eq_true rfl) S_278 rfl k))) ?_
  refine J_ite (fun hc10 => ?_) (fun hc10 => ?_)
  · refine J.mono (fun k => s_icmp_ge_t rfl hc10 k) ?_
    exact J_some (fun k => w_forget (wk_k (wk_k (wk_k (wk_d (wk_d (wk_d wk_0)))))) k)
  · refine J.mono (fun k => s_icmp_ge_f rfl hc10 (w_aload_n rfl rfl (w_getR (r := 295) rfl (Nat.le_of_ble_eq_true rfl) S_278 rfl (w_iconst rfl (inR_c rfl) (w_iload_n rfl rfl (w_imul rfl (w_iconst rfl (inR_c rfl) (w_iadd rfl k)))))))) ?_
    refine J_chk (fun hi11 => ?_)
    refine J.mono (fun k => w_iald rfl A_295.1 A_295.2 hi11.1 hi11.2 (s_istore4 rfl (Nat.le_of_ble_eq_true rfl) (w_iconst rfl (inR_c rfl) (s_istore5 rfl (Nat.le_of_ble_eq_true rfl) k)))) ?_
    refine J.mono (fun k => w_forget (wk_k (wk_k (wk_k (wk_k (wk_k (wk_k wk_0)))))) k) ?_
    refine J_loop (Jl_mo_findHours_b67 hd  _ _) (fun w26 => ?_)
    refine J.mono (fun k => s_iinc3 rfl (Nat.le_of_ble_eq_true rfl) (w_goto rfl k)) ?_
    exact J_some (fun k => w_forget (wk_k (wk_k (wk_k (wk_k (wk_d (wk_d wk_0)))))) k)
set_option maxRecDepth 20000 in
set_option maxHeartbeats 4000000 in
theorem Jl_mo_findHours_b44 {Δ : DT} {Γ : FT} {d : Nat} (hd : 76 ≤ d + 1) {x1 : Int} {x2 : Int}   : ∀ (n : Nat) (s : Int × MEM), J (iter (fun s => mo_findHours_b44 x1 x2 s.1 s.2) n s) (X_mo_findHours_b44 Δ Γ d x1 x2) (HD_mo_findHours_b44 Δ Γ d x1 x2 s) := J_iter (fun s => Jb_mo_findHours_b44 hd )
set_option maxRecDepth 20000 in
set_option maxHeartbeats 4000000 in
theorem Jb_mo_findHours_b29 {Δ : DT} {Γ : FT} {d : Nat} (hd : 76 ≤ d + 1) {x1 : Int}  {x2 : Int} {M : MEM} : J (mo_findHours_b29 x1 x2 M) (Sum.elim (HD_mo_findHours_b29 Δ Γ d x1) (X_mo_findHours_b29 Δ Γ d x1)) (WAt Δ Γ false m_mo_findHours (d + 1) 29 [vR (278), vI (x1), vI (x2), vN, vN, vN] [] (NG, S0, M) 0 0) := by
  unfold mo_findHours_b29
  refine J.mono (fun k => w_iload_n rfl rfl (w_iload_n rfl rfl k)) ?_
  refine J_ite (fun hc7 => ?_) (fun hc7 => ?_)
  · refine J.mono (fun k => s_icmp_ge_t rfl hc7 k) ?_
    exact J_some (fun k => w_forget (wk_d (wk_d (wk_d (wk_d (wk_d (wk_d wk_0)))))) k)
  · refine J.mono (fun k => s_icmp_ge_f rfl hc7 (w_aload_n rfl rfl (w_aload_n rfl rfl (w_getR (r := 292) rfl (Nat.le_of_ble_eq_true rfl) S_278 rfl k)))) ?_
    refine J_c (fun M9 e8 => ?_)
    refine J.mono (fun k => c_vv1 rfl (fun ho hM => cal_mo_goMinute (by omega) (isArr_len A_292) e8 ho hM) v_mo_goMinute (Nat.le_of_ble_eq_true rfl) S_278 rfl (Nat.le_of_ble_eq_true rfl) (w_iconst rfl (inR_c rfl) (s_istore3 rfl (Nat.le_of_ble_eq_true rfl) k))) ?_
    refine J.mono (fun k => w_forget (wk_k (wk_k (wk_k (wk_k (wk_d (wk_d wk_0)))))) k) ?_
    refine J_loop (Jl_mo_findHours_b44 hd  _ _) (fun w27 => ?_)
    refine J.mono (fun k => s_iinc2 rfl (Nat.le_of_ble_eq_true rfl) (w_goto rfl k)) ?_
    exact J_some (fun k => w_forget (wk_k (wk_k (wk_k (wk_d (wk_d (wk_d wk_0)))))) k)
set_option maxRecDepth 20000 in
set_option maxHeartbeats 4000000 in
theorem Jl_mo_findHours_b29 {Δ : DT} {Γ : FT} {d : Nat} (hd : 76 ≤ d + 1) {x1 : Int}   : ∀ (n : Nat) (s : Int × MEM), J (iter (fun s => mo_findHours_b29 x1 s.1 s.2) n s) (X_mo_findHours_b29 Δ Γ d x1) (HD_mo_findHours_b29 Δ Γ d x1 s) := J_iter (fun s => Jb_mo_findHours_b29 hd )
set_option maxRecDepth 20000 in
set_option maxHeartbeats 4000000 in
theorem J_mo_findHours {Δ : DT} {Γ : FT} {d : Nat} (hd : 76 ≤ d + 1) {x1 : Int}  {M : MEM} : J (mo_findHours x1 M) (K_M Δ Γ m_mo_findHours) (WAt Δ Γ false m_mo_findHours (d + 1) 0 [vR (278), vI (x1), vN, vN, vN, vN] [] (NG, S0, M) 0 0) := by
  unfold mo_findHours
  refine J.mono (fun k => w_iconst rfl (inR_c rfl) (s_istore2 rfl (Nat.le_of_ble_eq_true rfl) k)) ?_
  refine J.mono (fun k => w_forget (wk_k (wk_k (wk_k (wk_d (wk_d (wk_d wk_0)))))) k) ?_
  refine J_loop (Jl_mo_findHours_b2 hd  _ _) (fun w4 => ?_)
  refine J.mono (fun k => w_aload_n rfl rfl k) ?_
  refine J_c (fun M6 e5 => ?_)
  refine J.mono (fun k => c_vv0 rfl (fun ho hM => cal_mo_beginThen (by omega)  e5 ho hM) v_mo_beginThen (Nat.le_of_ble_eq_true rfl) S_278 rfl (Nat.le_of_ble_eq_true rfl) (w_iconst rfl (inR_c rfl) (s_istore2 rfl (Nat.le_of_ble_eq_true rfl) k))) ?_
  refine J.mono (fun k => w_forget (wk_k (wk_k (wk_k (wk_d (wk_d (wk_d wk_0)))))) k) ?_
  refine J_loop (Jl_mo_findHours_b29 hd  _ _) (fun w28 => ?_)
  exact J_some (fun k => w_return rfl rfl k)
set_option maxRecDepth 20000 in
set_option maxHeartbeats 4000000 in
theorem cal_mo_findHours {Δ : DT} {d : Nat} (hd : 76 ≤ d) {x1 : Int}  {M : MEM} {M1 : MEM} (h : mo_findHours x1 M = some M1) (ho : okVs [vR 278, vI x1]) (hM : okM M) : Cal Δ false m_mo_findHours d [vR 278, vI x1] (NG, S0, M) none (NG, S0, M1) 0 0 := by
  obtain ⟨d, rfl⟩ : ∃ e, d = e + 1 := ⟨d - 1, by omega⟩
  exact cal_of g_mo_findHours p_mo_findHours (fun v hv => by simp only [List.mem_cons, List.not_mem_nil, or_false] at hv; rcases hv with rfl | rfl <;> first | exact Or.inl ⟨_, rfl⟩ | exact Or.inr ⟨_, rfl⟩) ho hM (Nat.le_of_ble_eq_true rfl) (fun Γ _ k => J_mo_findHours hd  _ h k)
set_option maxRecDepth 20000 in
set_option maxHeartbeats 4000000 in
theorem J_mo_isDue {Δ : DT} {Γ : FT} {d : Nat} {x1 : Int} {x2 : Int}  {M : MEM} : J (mo_isDue x1 x2 M) (K_I Δ Γ m_mo_isDue M) (WAt Δ Γ false m_mo_isDue d 0 [vR (278), vI (x1), vI (x2)] [] (NG, S0, M) 0 0) := by
  unfold mo_isDue
  refine J.mono (fun k => w_iload_n rfl rfl (w_iconst rfl (inR_c rfl) k)) ?_
  refine J_ite (fun hc1 => ?_) (fun hc1 => ?_)
  · refine J.mono (fun k => s_icmp_ne_f rfl hc1 (w_aload_n rfl rfl (w_getR (r := 296) rfl (Nat.le_of_ble_eq_true rfl) S_278 rfl (w_iload_n rfl rfl k)))) ?_
    refine J_chk (fun hi2 => ?_)
    refine J.mono (fun k => w_iald rfl A_296.1 A_296.2 hi2.1 hi2.2 (w_iconst rfl (inR_c rfl) k)) ?_
    refine J_ite (fun hc3 => ?_) (fun hc3 => ?_)
    · refine J.mono (fun k => s_icmp_ne_f rfl hc3 (w_iconst rfl (inR_c rfl) (w_goto rfl k))) ?_
      exact J_some (fun k => w_zreturn rfl rfl (Or.inr rfl) k)
    · refine J.mono (fun k => s_icmp_ne_t rfl hc3 (w_iconst rfl (inR_c rfl) (w_goto rfl k))) ?_
      exact J_some (fun k => w_zreturn rfl rfl (Or.inl rfl) k)
  · refine J.mono (fun k => s_icmp_ne_t rfl hc1 (w_aload_n rfl rfl (w_getR (r := 296) rfl (Nat.le_of_ble_eq_true rfl) S_278 rfl (w_iload_n rfl rfl k)))) ?_
    refine J_chk (fun hi4 => ?_)
    refine J.mono (fun k => w_iald rfl A_296.1 A_296.2 hi4.1 hi4.2 k) ?_
    refine J_ite (fun hc5 => ?_) (fun hc5 => ?_)
    · refine J.mono (fun k => s_if_le_t rfl hc5 (w_iconst rfl (inR_c rfl) k)) ?_
      exact J_some (fun k => w_zreturn rfl rfl (Or.inl rfl) k)
    · refine J.mono (fun k => s_if_le_f rfl hc5 (w_iconst rfl (inR_c rfl) (w_goto rfl k))) ?_
      exact J_some (fun k => w_zreturn rfl rfl (Or.inr rfl) k)
set_option maxRecDepth 20000 in
set_option maxHeartbeats 4000000 in
theorem cal_mo_isDue {Δ : DT} {d : Nat} (hd : 0 ≤ d) {x1 : Int} {x2 : Int}  {M : MEM} {r : Int} (h : mo_isDue x1 x2 M = some r) (ho : okVs [vR 278, vI x1, vI x2]) (hM : okM M) : Cal Δ false m_mo_isDue d [vR 278, vI x1, vI x2] (NG, S0, M) (some r) (NG, S0, M) 0 0 := by
  exact cal_of g_mo_isDue p_mo_isDue (fun v hv => by simp only [List.mem_cons, List.not_mem_nil, or_false] at hv; rcases hv with rfl | rfl | rfl <;> first | exact Or.inl ⟨_, rfl⟩ | exact Or.inr ⟨_, rfl⟩) ho hM (Nat.le_of_ble_eq_true rfl) (fun Γ _ k => J_mo_isDue  _ h k)
set_option maxRecDepth 20000 in
set_option maxHeartbeats 4000000 in
theorem J_mo_isMore {Δ : DT} {Γ : FT} {d : Nat} (hd : 1 ≤ d + 1) {x0 : Int}  {M : MEM} : J (some (mo_isMore x0)) (K_I Δ Γ m_mo_isMore M) (WAt Δ Γ false m_mo_isMore (d + 1) 0 [vI (x0)] [] (NG, S0, M) 0 0) := by
  unfold mo_isMore
  refine J.mono (fun k => w_iload_n rfl rfl (w_iconst rfl (inR_c rfl) (w_sipush rfl (sip_c rfl) k))) ?_
  refine J_hyp (fun k => c_si3 rfl rfl (fun ho hM => cal_mo_in (by omega)   ho hM) v_mo_in (Nat.le_of_ble_eq_true rfl) k) (fun hr2 hb3 => ?_)
  exact J_some (fun k => w_zreturn rfl rfl (hb3 rfl) k)
set_option maxRecDepth 20000 in
set_option maxHeartbeats 4000000 in
theorem cal_mo_isMore {Δ : DT} {d : Nat} (hd : 1 ≤ d) {x0 : Int}  {M : MEM} (ho : okVs [vI x0]) (hM : okM M) : Cal Δ false m_mo_isMore d [vI x0] (NG, S0, M) (some (mo_isMore x0)) (NG, S0, M) 0 0 := by
  obtain ⟨d, rfl⟩ : ∃ e, d = e + 1 := ⟨d - 1, by omega⟩
  exact cal_of g_mo_isMore p_mo_isMore (fun v hv => by simp only [List.mem_cons, List.not_mem_nil, or_false] at hv; rcases hv with rfl <;> first | exact Or.inl ⟨_, rfl⟩ | exact Or.inr ⟨_, rfl⟩) ho hM (Nat.le_of_ble_eq_true rfl) (fun Γ _ k => J_mo_isMore hd  _ rfl k)
set_option maxRecDepth 20000 in
set_option maxHeartbeats 4000000 in
theorem J_mo_due {Δ : DT} {Γ : FT} {d : Nat} (hd : 77 ≤ d + 1) {x1 : Int} {x2 : Int} {x3 : Int}  {M : MEM} : J (mo_due x1 x2 x3 M) (K_IM Δ Γ m_mo_due) (WAt Δ Γ false m_mo_due (d + 1) 0 [vR (278), vI (x1), vI (x2), vI (x3)] [] (NG, S0, M) 0 0) := by
  unfold mo_due
  refine J.mono (fun k => w_aload_n rfl rfl (w_iconst rfl (inR_c rfl) k)) ?_
  refine J_b ?_
  refine J.mono (fun k => w_putI rfl (Nat.le_of_ble_eq_true rfl) S_278 rfl rfl (w_iload_n rfl rfl (w_iconst rfl (inR_c rfl) (w_aload_n rfl rfl (w_getI rfl (Nat.le_of_ble_eq_true rfl) S_278 rfl (w_iconst rfl (inR_c rfl) (w_isub rfl k))))))) ?_
  refine J_hyp (fun k => c_si3 rfl rfl (fun ho hM => cal_mo_in (by omega)   ho hM) v_mo_in (Nat.le_of_ble_eq_true rfl) k) (fun hr3 hb4 => ?_)
  refine J_ite (fun hc5 => ?_) (fun hc5 => ?_)
  · refine J.mono (fun k => s_if_eq_t rfl hc5 (w_iconst rfl (inR_c rfl) k)) ?_
    exact J_some (fun k => w_ireturn rfl rfl k)
  · refine J.mono (fun k => s_if_eq_f rfl hc5 (w_iload_n rfl rfl (w_iconst rfl (inR_c rfl) (w_iconst rfl (inR_c rfl) k)))) ?_
    refine J_hyp (fun k => c_si3 rfl rfl (fun ho hM => cal_mo_in (by omega)   ho hM) v_mo_in (Nat.le_of_ble_eq_true rfl) k) (fun hr7 hb8 => ?_)
    refine J_ite (fun hc9 => ?_) (fun hc9 => ?_)
    · refine J.mono (fun k => s_if_eq_t rfl hc9 (w_iconst rfl (inR_c rfl) k)) ?_
      exact J_some (fun k => w_ireturn rfl rfl k)
    · refine J.mono (fun k => s_if_eq_f rfl hc9 (w_iload_n rfl rfl k)) ?_
      refine J_hyp (fun k => c_si1 rfl rfl (fun ho hM => cal_mo_isMore (by omega)   ho hM) v_mo_isMore (Nat.le_of_ble_eq_true rfl) k) (fun hr11 hb12 => ?_)
      refine J_ite (fun hc13 => ?_) (fun hc13 => ?_)
      · refine J.mono (fun k => s_if_ne_f rfl hc13 (w_iconst rfl (inR_c rfl) k)) ?_
        exact J_some (fun k => w_ireturn rfl rfl k)
      · refine J.mono (fun k => s_if_ne_t rfl hc13 (w_aload_n rfl rfl (w_iload_n rfl rfl k))) ?_
        refine J_c (fun M15 e14 => ?_)
        refine J.mono (fun k => c_vv1 rfl (fun ho hM => cal_mo_findHours (by omega)  e14 ho hM) v_mo_findHours (Nat.le_of_ble_eq_true rfl) S_278 rfl (Nat.le_of_ble_eq_true rfl) (w_aload_n rfl rfl (w_iload_n rfl rfl (w_iload_n rfl rfl k)))) ?_
        refine J_c (fun r17 e16 => ?_)
        refine J_hyp (fun k => c_vi2 rfl (fun ho hM => cal_mo_isDue (by omega)  e16 ho hM) v_mo_isDue (Nat.le_of_ble_eq_true rfl) S_278 rfl (Nat.le_of_ble_eq_true rfl) k) (fun hr18 hb19 => ?_)
        refine J_ite (fun hc20 => ?_) (fun hc20 => ?_)
        · refine J.mono (fun k => s_if_ne_f rfl hc20 (w_bipush rfl (bip_c rfl) (w_goto rfl k))) ?_
          exact J_some (fun k => w_ireturn rfl rfl k)
        · refine J.mono (fun k => s_if_ne_t rfl hc20 (w_iload_n rfl rfl (w_iconst rfl (inR_c rfl) k))) ?_
          refine J_ite (fun hc21 => ?_) (fun hc21 => ?_)
          · refine J.mono (fun k => s_icmp_ne_f rfl hc21 (w_aload_n rfl rfl (w_getR (r := 298) rfl (Nat.le_of_ble_eq_true rfl) S_278 rfl (w_iload_n rfl rfl k)))) ?_
            refine J_chk (fun hi22 => ?_)
            refine J.mono (fun k => w_iald rfl A_298.1 A_298.2 hi22.1 hi22.2 (w_goto rfl k)) ?_
            exact J_some (fun k => w_ireturn rfl rfl k)
          · refine J.mono (fun k => s_icmp_ne_t rfl hc21 (w_aload_n rfl rfl (w_getR (r := 297) rfl (Nat.le_of_ble_eq_true rfl) S_278 rfl (w_iload_n rfl rfl k)))) ?_
            refine J_chk (fun hi23 => ?_)
            refine J.mono (fun k => w_iald rfl A_297.1 A_297.2 hi23.1 hi23.2 k) ?_
            exact J_some (fun k => w_ireturn rfl rfl k)
set_option maxRecDepth 20000 in
set_option maxHeartbeats 4000000 in
theorem cal_mo_due {Δ : DT} {d : Nat} (hd : 77 ≤ d) {x1 : Int} {x2 : Int} {x3 : Int}  {M : MEM} {p : Int × MEM} (h : mo_due x1 x2 x3 M = some p) (ho : okVs [vR 278, vI x1, vI x2, vI x3]) (hM : okM M) : Cal Δ false m_mo_due d [vR 278, vI x1, vI x2, vI x3] (NG, S0, M) (some p.1) (NG, S0, p.2) 0 0 := by
  obtain ⟨d, rfl⟩ : ∃ e, d = e + 1 := ⟨d - 1, by omega⟩
  exact cal_of g_mo_due p_mo_due (fun v hv => by simp only [List.mem_cons, List.not_mem_nil, or_false] at hv; rcases hv with rfl | rfl | rfl | rfl <;> first | exact Or.inl ⟨_, rfl⟩ | exact Or.inr ⟨_, rfl⟩) ho hM (Nat.le_of_ble_eq_true rfl) (fun Γ _ k => J_mo_due hd  _ h k)
abbrev HD_mo_frogsOf_b6 (Δ : DT) (Γ : FT) (d : Nat) (x1 : Int) (x2 : Int) (x3 : Int) (M : MEM) (s : Int × Int) : Prop := WAt Δ Γ false m_mo_frogsOf (d + 1) 6 [vR (278), vI (x1), vI (x2), vI (x3), vI (s.1), vI (s.2)] [] (NG, S0, M) 0 0
abbrev X_mo_frogsOf_b6 (Δ : DT) (Γ : FT) (d : Nat) (x1 : Int) (x2 : Int) (x3 : Int) (M : MEM) (s : Int × Int) : Prop := WAt Δ Γ false m_mo_frogsOf (d + 1) 79 [vN, vN, vN, vN, vI (s.1), vN] [] (NG, S0, M) 0 0
set_option maxRecDepth 20000 in
set_option maxHeartbeats 4000000 in
theorem J_mo_frogsOf_j73_6 {Δ : DT} {Γ : FT} {d : Nat} (hd : 1 ≤ d + 1) {x1 : Int} {x2 : Int} {x3 : Int} {x4 : Int} {x5 : Int}  {M : MEM} : J (mo_frogsOf_j73_6 x1 x2 x3 x4 x5 M) (Sum.elim (HD_mo_frogsOf_b6 Δ Γ d x1 x2 x3 M) (X_mo_frogsOf_b6 Δ Γ d x1 x2 x3 M)) (WAt Δ Γ false m_mo_frogsOf (d + 1) 73 [vR (278), vI (x1), vI (x2), vI (x3), vI (x4), vI (x5)] [] (NG, S0, M) 0 0) := by
  unfold mo_frogsOf_j73_6
  refine J.mono (fun k => s_iinc5 rfl (Nat.le_of_ble_eq_true rfl) (w_goto rfl k)) ?_
  exact J_some (fun k => w_forget (wk_k (wk_k (wk_k (wk_k (wk_k (wk_k wk_0)))))) k)
set_option maxRecDepth 20000 in
set_option maxHeartbeats 4000000 in
theorem J_mo_frogsOf_j69_6 {Δ : DT} {Γ : FT} {d : Nat} (hd : 1 ≤ d + 1) {x1 : Int} {x2 : Int} {x3 : Int} {x5 : Int} {s0 : Int} {s1 : Int} {s2 : Int}  {M : MEM} : J (mo_frogsOf_j69_6 x1 x2 x3 x5 s0 s1 s2 M) (Sum.elim (HD_mo_frogsOf_b6 Δ Γ d x1 x2 x3 M) (X_mo_frogsOf_b6 Δ Γ d x1 x2 x3 M)) (WAt Δ Γ false m_mo_frogsOf (d + 1) 69 [vR (278), vI (x1), vI (x2), vI (x3), vN, vI (x5)] [vI (s2), vI (s1), vI (s0)] (NG, S0, M) 0 0) := by
  unfold mo_frogsOf_j69_6
  refine J.mono (fun k => w_imul rfl (w_iadd rfl (s_istore4 rfl (Nat.le_of_ble_eq_true rfl) k))) ?_
  exact J.mono (fun k => w_forget (wk_k (wk_k (wk_k (wk_k (wk_k (wk_k wk_0)))))) k) (J_mo_frogsOf_j73_6 hd )
set_option maxRecDepth 20000 in
set_option maxHeartbeats 4000000 in
theorem Jb_mo_frogsOf_b6 {Δ : DT} {Γ : FT} {d : Nat} (hd : 1 ≤ d + 1) {x1 : Int} {x2 : Int} {x3 : Int}  {x4 : Int} {x5 : Int} {M : MEM} : J (mo_frogsOf_b6 x1 x2 x3 x4 x5 M) (Sum.elim (HD_mo_frogsOf_b6 Δ Γ d x1 x2 x3 M) (X_mo_frogsOf_b6 Δ Γ d x1 x2 x3 M)) (WAt Δ Γ false m_mo_frogsOf (d + 1) 6 [vR (278), vI (x1), vI (x2), vI (x3), vI (x4), vI (x5)] [] (NG, S0, M) 0 0) := by
  unfold mo_frogsOf_b6
  refine J.mono (fun k => w_iload rfl rfl (w_aload_n rfl rfl (w_getI rfl (Nat.le_of_ble_eq_true rfl) S_278 rfl k))) ?_
  refine J_ite (fun hc1 => ?_) (fun hc1 => ?_)
  · refine J.mono (fun k => s_icmp_ge_t rfl hc1 k) ?_
    exact J_some (fun k => w_forget (wk_d (wk_d (wk_d (wk_d (wk_k (wk_d wk_0)))))) k)
  · refine J.mono (fun k => s_icmp_ge_f rfl hc1 (w_aload_n rfl rfl (w_getR (r := 295) rfl (Nat.le_of_ble_eq_true rfl) S_278 rfl (w_iconst rfl (inR_c rfl) (w_iload rfl rfl (w_imul rfl (w_iload_n rfl rfl (w_iadd rfl k)))))))) ?_
    refine J_chk (fun hi2 => ?_)
    refine J.mono (fun k => w_iald rfl A_295.1 A_295.2 hi2.1 hi2.2 (w_iload_n rfl rfl k)) ?_
    refine J_ite (fun hc3 => ?_) (fun hc3 => ?_)
    · refine J.mono (fun k => s_icmp_ne_f rfl hc3 (w_aload_n rfl rfl (w_iload rfl rfl (w_iload_n rfl rfl k)))) ?_
      refine J_c (fun r5 e4 => ?_)
      refine J_hyp (fun k => c_vi2 rfl (fun ho hM => cal_mo_isDue (by omega)  e4 ho hM) v_mo_isDue (Nat.le_of_ble_eq_true rfl) S_278 rfl (Nat.le_of_ble_eq_true rfl) k) (fun hr6 hb7 => ?_)
      refine J_ite (fun hc8 => ?_) (fun hc8 => ?_)
      · refine J.mono (fun k => s_if_eq_t rfl hc8 k) ?_
        exact J.mono (fun k => w_forget (wk_k (wk_k (wk_k (wk_k (wk_k (wk_k wk_0)))))) k) (J_mo_frogsOf_j73_6 hd )
      · refine J.mono (fun k => s_if_eq_f rfl hc8 (w_iload rfl rfl (w_aload_n rfl rfl (w_getR (r := 295) rfl (Nat.le_of_ble_eq_true rfl) S_278 rfl (w_iconst rfl (inR_c rfl) (w_iload rfl rfl (w_imul rfl (w_iconst rfl (inR_c rfl) (w_iadd rfl k))))))))) ?_
        refine J_chk (fun hi9 => ?_)
        refine J.mono (fun k => w_iald rfl A_295.1 A_295.2 hi9.1 hi9.2 (w_iload_n rfl rfl (w_iconst rfl (inR_c rfl) k))) ?_
        refine J_ite (fun hc10 => ?_) (fun hc10 => ?_)
        · refine J.mono (fun k => s_icmp_ne_f rfl hc10 (w_aload_n rfl rfl (w_getR (r := 296) rfl (Nat.le_of_ble_eq_true rfl) S_278 rfl (w_iload rfl rfl k)))) ?_
          refine J_chk (fun hi11 => ?_)
          refine J.mono (fun k => w_iald rfl A_296.1 A_296.2 hi11.1 hi11.2 (w_goto rfl k)) ?_
          exact J.mono (fun k => w_forget (wk_k (wk_k (wk_k (wk_k (wk_d (wk_k wk_0)))))) k) (J_mo_frogsOf_j69_6 hd )
        · refine J.mono (fun k => s_icmp_ne_t rfl hc10 (w_iconst rfl (inR_c rfl) k)) ?_
          exact J.mono (fun k => w_forget (wk_k (wk_k (wk_k (wk_k (wk_d (wk_k wk_0)))))) k) (J_mo_frogsOf_j69_6 hd )
    · refine J.mono (fun k => s_icmp_ne_t rfl hc3 k) ?_
      exact J.mono (fun k => w_forget (wk_k (wk_k (wk_k (wk_k (wk_k (wk_k wk_0)))))) k) (J_mo_frogsOf_j73_6 hd )
set_option maxRecDepth 20000 in
set_option maxHeartbeats 4000000 in
theorem Jl_mo_frogsOf_b6 {Δ : DT} {Γ : FT} {d : Nat} (hd : 1 ≤ d + 1) {x1 : Int} {x2 : Int} {x3 : Int}  {M : MEM} : ∀ (n : Nat) (s : Int × Int), J (iter (fun s => mo_frogsOf_b6 x1 x2 x3 s.1 s.2 M) n s) (X_mo_frogsOf_b6 Δ Γ d x1 x2 x3 M) (HD_mo_frogsOf_b6 Δ Γ d x1 x2 x3 M s) := J_iter (fun s => Jb_mo_frogsOf_b6 hd )
set_option maxRecDepth 20000 in
set_option maxHeartbeats 4000000 in
theorem J_mo_frogsOf {Δ : DT} {Γ : FT} {d : Nat} (hd : 1 ≤ d + 1) {x1 : Int} {x2 : Int} {x3 : Int}  {M : MEM} : J (mo_frogsOf x1 x2 x3 M) (K_I Δ Γ m_mo_frogsOf M) (WAt Δ Γ false m_mo_frogsOf (d + 1) 0 [vR (278), vI (x1), vI (x2), vI (x3), vN, vN] [] (NG, S0, M) 0 0) := by
  unfold mo_frogsOf
  refine J.mono (fun k => w_iconst rfl (inR_c rfl) (s_istore4 rfl (Nat.le_of_ble_eq_true rfl) (w_iconst rfl (inR_c rfl) (s_istore5 rfl (Nat.le_of_ble_eq_true rfl) k)))) ?_
  refine J.mono (fun k => w_forget (wk_k (wk_k (wk_k (wk_k (wk_k (wk_k wk_0)))))) k) ?_
  refine J_loop (Jl_mo_frogsOf_b6 hd  _ _) (fun w12 => ?_)
  refine J.mono (fun k => w_iload rfl rfl k) ?_
  exact J_some (fun k => w_ireturn rfl rfl k)
set_option maxRecDepth 20000 in
set_option maxHeartbeats 4000000 in
theorem cal_mo_frogsOf {Δ : DT} {d : Nat} (hd : 1 ≤ d) {x1 : Int} {x2 : Int} {x3 : Int}  {M : MEM} {r : Int} (h : mo_frogsOf x1 x2 x3 M = some r) (ho : okVs [vR 278, vI x1, vI x2, vI x3]) (hM : okM M) : Cal Δ false m_mo_frogsOf d [vR 278, vI x1, vI x2, vI x3] (NG, S0, M) (some r) (NG, S0, M) 0 0 := by
  obtain ⟨d, rfl⟩ : ∃ e, d = e + 1 := ⟨d - 1, by omega⟩
  exact cal_of g_mo_frogsOf p_mo_frogsOf (fun v hv => by simp only [List.mem_cons, List.not_mem_nil, or_false] at hv; rcases hv with rfl | rfl | rfl | rfl <;> first | exact Or.inl ⟨_, rfl⟩ | exact Or.inr ⟨_, rfl⟩) ho hM (Nat.le_of_ble_eq_true rfl) (fun Γ _ k => J_mo_frogsOf hd  _ h k)
set_option maxRecDepth 20000 in
set_option maxHeartbeats 4000000 in
theorem J_mo_owes {Δ : DT} {Γ : FT} {d : Nat} (hd : 77 ≤ d + 1) {x1 : Int} {x2 : Int} {x3 : Int}  {M : MEM} : J (mo_owes x1 x2 x3 M) (K_IM Δ Γ m_mo_owes) (WAt Δ Γ false m_mo_owes (d + 1) 0 [vR (278), vI (x1), vI (x2), vI (x3)] [] (NG, S0, M) 0 0) := by
  unfold mo_owes
  refine J.mono (fun k => w_aload_n rfl rfl (w_iconst rfl (inR_c rfl) k)) ?_
  refine J_b ?_
  refine J.mono (fun k => w_putI rfl (Nat.le_of_ble_eq_true rfl) S_278 rfl rfl (w_iload_n rfl rfl (w_iconst rfl (inR_c rfl) (w_iconst rfl (inR_c rfl) k)))) ?_
  refine J_hyp (fun k => c_si3 rfl rfl (fun ho hM => cal_mo_in (by omega)   ho hM) v_mo_in (Nat.le_of_ble_eq_true rfl) k) (fun hr3 hb4 => ?_)
  refine J_ite (fun hc5 => ?_) (fun hc5 => ?_)
  · refine J.mono (fun k => s_if_eq_t rfl hc5 (w_iconst rfl (inR_c rfl) k)) ?_
    exact J_some (fun k => w_ireturn rfl rfl k)
  · refine J.mono (fun k => s_if_eq_f rfl hc5 (w_iload_n rfl rfl (w_iconst rfl (inR_c rfl) (w_iconst rfl (inR_c rfl) k)))) ?_
    refine J_hyp (fun k => c_si3 rfl rfl (fun ho hM => cal_mo_in (by omega)   ho hM) v_mo_in (Nat.le_of_ble_eq_true rfl) k) (fun hr7 hb8 => ?_)
    refine J_ite (fun hc9 => ?_) (fun hc9 => ?_)
    · refine J.mono (fun k => s_if_eq_t rfl hc9 (w_iconst rfl (inR_c rfl) k)) ?_
      exact J_some (fun k => w_ireturn rfl rfl k)
    · refine J.mono (fun k => s_if_eq_f rfl hc9 (w_iload_n rfl rfl k)) ?_
      refine J_hyp (fun k => c_si1 rfl rfl (fun ho hM => cal_mo_isMore (by omega)   ho hM) v_mo_isMore (Nat.le_of_ble_eq_true rfl) k) (fun hr11 hb12 => ?_)
      refine J_ite (fun hc13 => ?_) (fun hc13 => ?_)
      · refine J.mono (fun k => s_if_ne_f rfl hc13 (w_iconst rfl (inR_c rfl) k)) ?_
        exact J_some (fun k => w_ireturn rfl rfl k)
      · refine J.mono (fun k => s_if_ne_t rfl hc13 (w_aload_n rfl rfl (w_iload_n rfl rfl k))) ?_
        refine J_c (fun M15 e14 => ?_)
        refine J.mono (fun k => c_vv1 rfl (fun ho hM => cal_mo_findHours (by omega)  e14 ho hM) v_mo_findHours (Nat.le_of_ble_eq_true rfl) S_278 rfl (Nat.le_of_ble_eq_true rfl) (w_aload_n rfl rfl (w_iconst rfl (inR_c rfl) k))) ?_
        refine J_b ?_
        refine J.mono (fun k => w_putI rfl (Nat.le_of_ble_eq_true rfl) S_278 rfl rfl (w_aload_n rfl rfl (w_aload_n rfl rfl (w_iload_n rfl rfl (w_iload_n rfl rfl (w_iconst rfl (inR_c rfl) k)))))) ?_
        refine J_c (fun r18 e17 => ?_)
        refine J_hyp (fun k => c_vi3 rfl (fun ho hM => cal_mo_frogsOf (by omega)  e17 ho hM) v_mo_frogsOf (Nat.le_of_ble_eq_true rfl) S_278 rfl (Nat.le_of_ble_eq_true rfl) k) (fun hr19 hb20 => ?_)
        refine J_c (fun M22 e21 => ?_)
        refine J.mono (fun k => c_vv1 rfl (fun ho hM => cal_mo_tell (by omega)  e21 ho hM) v_mo_tell (Nat.le_of_ble_eq_true rfl) S_278 rfl (Nat.le_of_ble_eq_true rfl) (w_aload_n rfl rfl (w_iload_n rfl rfl (w_iload_n rfl rfl (w_iconst rfl (inR_c rfl) k))))) ?_
        refine J_c (fun r24 e23 => ?_)
        refine J_hyp (fun k => c_vi3 rfl (fun ho hM => cal_mo_frogsOf (by omega)  e23 ho hM) v_mo_frogsOf (Nat.le_of_ble_eq_true rfl) S_278 rfl (Nat.le_of_ble_eq_true rfl) k) (fun hr25 hb26 => ?_)
        exact J_some (fun k => w_ireturn rfl rfl k)
set_option maxRecDepth 20000 in
set_option maxHeartbeats 4000000 in
theorem cal_mo_owes {Δ : DT} {d : Nat} (hd : 77 ≤ d) {x1 : Int} {x2 : Int} {x3 : Int}  {M : MEM} {p : Int × MEM} (h : mo_owes x1 x2 x3 M = some p) (ho : okVs [vR 278, vI x1, vI x2, vI x3]) (hM : okM M) : Cal Δ false m_mo_owes d [vR 278, vI x1, vI x2, vI x3] (NG, S0, M) (some p.1) (NG, S0, p.2) 0 0 := by
  obtain ⟨d, rfl⟩ : ∃ e, d = e + 1 := ⟨d - 1, by omega⟩
  exact cal_of g_mo_owes p_mo_owes (fun v hv => by simp only [List.mem_cons, List.not_mem_nil, or_false] at hv; rcases hv with rfl | rfl | rfl | rfl <;> first | exact Or.inl ⟨_, rfl⟩ | exact Or.inr ⟨_, rfl⟩) ho hM (Nat.le_of_ble_eq_true rfl) (fun Γ _ k => J_mo_owes hd  _ h k)
set_option maxRecDepth 20000 in
set_option maxHeartbeats 4000000 in
theorem J_mo_netOf {Δ : DT} {Γ : FT} {d : Nat} (hd : 2 ≤ d + 1) {x1 : Int} {x2 : Int}  {M : MEM} : J (mo_netOf x1 x2 M) (K_I Δ Γ m_mo_netOf M) (WAt Δ Γ false m_mo_netOf (d + 1) 0 [vR (278), vI (x1), vI (x2)] [] (NG, S0, M) 0 0) := by
  unfold mo_netOf
  refine J.mono (fun k => w_aload_n rfl rfl (w_iload_n rfl rfl (w_iload_n rfl rfl (w_iconst rfl (inR_c rfl) k)))) ?_
  refine J_c (fun r2 e1 => ?_)
  refine J_hyp (fun k => c_vi3 rfl (fun ho hM => cal_mo_frogsOf (by omega)  e1 ho hM) v_mo_frogsOf (Nat.le_of_ble_eq_true rfl) S_278 rfl (Nat.le_of_ble_eq_true rfl) k) (fun hr3 hb4 => ?_)
  refine J.mono (fun k => w_aload_n rfl rfl (w_iload_n rfl rfl (w_iload_n rfl rfl (w_iconst rfl (inR_c rfl) k)))) ?_
  refine J_c (fun r6 e5 => ?_)
  refine J_hyp (fun k => c_vi3 rfl (fun ho hM => cal_mo_frogsOf (by omega)  e5 ho hM) v_mo_frogsOf (Nat.le_of_ble_eq_true rfl) S_278 rfl (Nat.le_of_ble_eq_true rfl) k) (fun hr7 hb8 => ?_)
  refine J.mono (fun k => w_isub rfl k) ?_
  exact J_some (fun k => w_ireturn rfl rfl k)
set_option maxRecDepth 20000 in
set_option maxHeartbeats 4000000 in
theorem cal_mo_netOf {Δ : DT} {d : Nat} (hd : 2 ≤ d) {x1 : Int} {x2 : Int}  {M : MEM} {r : Int} (h : mo_netOf x1 x2 M = some r) (ho : okVs [vR 278, vI x1, vI x2]) (hM : okM M) : Cal Δ false m_mo_netOf d [vR 278, vI x1, vI x2] (NG, S0, M) (some r) (NG, S0, M) 0 0 := by
  obtain ⟨d, rfl⟩ : ∃ e, d = e + 1 := ⟨d - 1, by omega⟩
  exact cal_of g_mo_netOf p_mo_netOf (fun v hv => by simp only [List.mem_cons, List.not_mem_nil, or_false] at hv; rcases hv with rfl | rfl | rfl <;> first | exact Or.inl ⟨_, rfl⟩ | exact Or.inr ⟨_, rfl⟩) ho hM (Nat.le_of_ble_eq_true rfl) (fun Γ _ k => J_mo_netOf hd  _ h k)
abbrev HD_mo_reading_b38 (Δ : DT) (Γ : FT) (d : Nat) (x1 : Int) (s : Int × Int × MEM) : Prop := WAt Δ Γ false m_mo_reading (d + 1) 38 [vR (278), vI (x1), vN, vI (s.1), vI (s.2.1)] [] (NG, S0, s.2.2) 0 0
abbrev X_mo_reading_b38 (Δ : DT) (Γ : FT) (d : Nat) (x1 : Int) (s : Int × Int × MEM) : Prop := WAt Δ Γ false m_mo_reading (d + 1) 80 [vN, vN, vN, vI (s.1), vN] [] (NG, S0, s.2.2) 0 0
set_option maxRecDepth 20000 in
set_option maxHeartbeats 4000000 in
theorem J_mo_reading_j74_38 {Δ : DT} {Γ : FT} {d : Nat} (hd : 77 ≤ d + 1) {x1 : Int} {x3 : Int} {x4 : Int}  {M : MEM} : J (mo_reading_j74_38 x1 x3 x4 M) (Sum.elim (HD_mo_reading_b38 Δ Γ d x1) (X_mo_reading_b38 Δ Γ d x1)) (WAt Δ Γ false m_mo_reading (d + 1) 74 [vR (278), vI (x1), vN, vI (x3), vI (x4)] [] (NG, S0, M) 0 0) := by
  unfold mo_reading_j74_38
  refine J.mono (fun k => s_iinc4 rfl (Nat.le_of_ble_eq_true rfl) (w_goto rfl k)) ?_
  exact J_some (fun k => w_forget (wk_k (wk_k (wk_d (wk_k (wk_k wk_0))))) k)
set_option maxRecDepth 20000 in
set_option maxHeartbeats 4000000 in
theorem Jb_mo_reading_b38 {Δ : DT} {Γ : FT} {d : Nat} (hd : 77 ≤ d + 1) {x1 : Int}  {x3 : Int} {x4 : Int} {M : MEM} : J (mo_reading_b38 x1 x3 x4 M) (Sum.elim (HD_mo_reading_b38 Δ Γ d x1) (X_mo_reading_b38 Δ Γ d x1)) (WAt Δ Γ false m_mo_reading (d + 1) 38 [vR (278), vI (x1), vN, vI (x3), vI (x4)] [] (NG, S0, M) 0 0) := by
  unfold mo_reading_b38
  refine J.mono (fun k => w_iload rfl rfl (w_iconst rfl (inR_c rfl) k)) ?_
  refine J_ite (fun hc13 => ?_) (fun hc13 => ?_)
  · refine J.mono (fun k => s_icmp_ge_t rfl hc13 k) ?_
    exact J_some (fun k => w_forget (wk_d (wk_d (wk_d (wk_k (wk_d wk_0))))) k)
  · refine J.mono (fun k => s_icmp_ge_f rfl hc13 (w_aload_n rfl rfl (w_aload_n rfl rfl (w_iload_n rfl rfl (w_iload rfl rfl k))))) ?_
    refine J_c (fun r15 e14 => ?_)
    refine J_hyp (fun k => c_vi2 rfl (fun ho hM => cal_mo_netOf (by omega)  e14 ho hM) v_mo_netOf (Nat.le_of_ble_eq_true rfl) S_278 rfl (Nat.le_of_ble_eq_true rfl) k) (fun hr16 hb17 => ?_)
    refine J_c (fun M19 e18 => ?_)
    refine J.mono (fun k => c_vv1 rfl (fun ho hM => cal_mo_tell (by omega)  e18 ho hM) v_mo_tell (Nat.le_of_ble_eq_true rfl) S_278 rfl (Nat.le_of_ble_eq_true rfl) (w_aload_n rfl rfl (w_iload_n rfl rfl (w_iload rfl rfl k)))) ?_
    refine J_c (fun r21 e20 => ?_)
    refine J_hyp (fun k => c_vi2 rfl (fun ho hM => cal_mo_netOf (by omega)  e20 ho hM) v_mo_netOf (Nat.le_of_ble_eq_true rfl) S_278 rfl (Nat.le_of_ble_eq_true rfl) k) (fun hr22 hb23 => ?_)
    refine J.mono (fun k => w_aload_n rfl rfl (w_iload_n rfl rfl (w_iload_n rfl rfl k))) ?_
    refine J_c (fun r25 e24 => ?_)
    refine J_hyp (fun k => c_vi2 rfl (fun ho hM => cal_mo_netOf (by omega)  e24 ho hM) v_mo_netOf (Nat.le_of_ble_eq_true rfl) S_278 rfl (Nat.le_of_ble_eq_true rfl) k) (fun hr26 hb27 => ?_)
    refine J_ite (fun hc28 => ?_) (fun hc28 => ?_)
    · refine J.mono (fun k => s_icmp_ge_t rfl hc28 k) ?_
      exact J.mono (fun k => w_forget (wk_k (wk_k (wk_d (wk_k (wk_k wk_0))))) k) (J_mo_reading_j74_38 hd )
    · refine J.mono (fun k => s_icmp_ge_f rfl hc28 (w_iload rfl rfl (s_istore3 rfl (Nat.le_of_ble_eq_true rfl) k))) ?_
      exact J.mono (fun k => w_forget (wk_k (wk_k (wk_d (wk_k (wk_k wk_0))))) k) (J_mo_reading_j74_38 hd )
set_option maxRecDepth 20000 in
set_option maxHeartbeats 4000000 in
theorem Jl_mo_reading_b38 {Δ : DT} {Γ : FT} {d : Nat} (hd : 77 ≤ d + 1) {x1 : Int}   : ∀ (n : Nat) (s : Int × Int × MEM), J (iter (fun s => mo_reading_b38 x1 s.1 s.2.1 s.2.2) n s) (X_mo_reading_b38 Δ Γ d x1) (HD_mo_reading_b38 Δ Γ d x1 s) := J_iter (fun s => Jb_mo_reading_b38 hd )
set_option maxRecDepth 20000 in
set_option maxHeartbeats 4000000 in
theorem J_mo_reading {Δ : DT} {Γ : FT} {d : Nat} (hd : 77 ≤ d + 1) {x1 : Int} {x2 : Int}  {M : MEM} : J (mo_reading x1 x2 M) (K_IM Δ Γ m_mo_reading) (WAt Δ Γ false m_mo_reading (d + 1) 0 [vR (278), vI (x1), vI (x2), vN, vN] [] (NG, S0, M) 0 0) := by
  unfold mo_reading
  refine J.mono (fun k => w_aload_n rfl rfl (w_iconst rfl (inR_c rfl) k)) ?_
  refine J_b ?_
  refine J.mono (fun k => w_putI rfl (Nat.le_of_ble_eq_true rfl) S_278 rfl rfl (w_iload_n rfl rfl (w_iconst rfl (inR_c rfl) (w_iconst rfl (inR_c rfl) k)))) ?_
  refine J_hyp (fun k => c_si3 rfl rfl (fun ho hM => cal_mo_in (by omega)   ho hM) v_mo_in (Nat.le_of_ble_eq_true rfl) k) (fun hr3 hb4 => ?_)
  refine J_ite (fun hc5 => ?_) (fun hc5 => ?_)
  · refine J.mono (fun k => s_if_eq_t rfl hc5 (w_iconst rfl (inR_c rfl) k)) ?_
    exact J_some (fun k => w_ireturn rfl rfl k)
  · refine J.mono (fun k => s_if_eq_f rfl hc5 (w_iload_n rfl rfl k)) ?_
    refine J_hyp (fun k => c_si1 rfl rfl (fun ho hM => cal_mo_isMore (by omega)   ho hM) v_mo_isMore (Nat.le_of_ble_eq_true rfl) k) (fun hr7 hb8 => ?_)
    refine J_ite (fun hc9 => ?_) (fun hc9 => ?_)
    · refine J.mono (fun k => s_if_ne_f rfl hc9 (w_iconst rfl (inR_c rfl) k)) ?_
      exact J_some (fun k => w_ireturn rfl rfl k)
    · refine J.mono (fun k => s_if_ne_t rfl hc9 (w_aload_n rfl rfl (w_iload_n rfl rfl k))) ?_
      refine J_c (fun M11 e10 => ?_)
      refine J.mono (fun k => c_vv1 rfl (fun ho hM => cal_mo_findHours (by omega)  e10 ho hM) v_mo_findHours (Nat.le_of_ble_eq_true rfl) S_278 rfl (Nat.le_of_ble_eq_true rfl) (w_iconst rfl (inR_c rfl) (s_istore3 rfl (Nat.le_of_ble_eq_true rfl) (w_aload_n rfl rfl (w_iconst rfl (inR_c rfl) k))))) ?_
      refine J_b ?_
      refine J.mono (fun k => w_putI rfl (Nat.le_of_ble_eq_true rfl) S_278 rfl rfl (w_iconst rfl (inR_c rfl) (s_istore4 rfl (Nat.le_of_ble_eq_true rfl) k))) ?_
      refine J.mono (fun k => w_forget (wk_k (wk_k (wk_d (wk_k (wk_k wk_0))))) k) ?_
      refine J_loop (Jl_mo_reading_b38 hd  _ _) (fun w29 => ?_)
      refine J.mono (fun k => w_iload_n rfl rfl k) ?_
      exact J_some (fun k => w_ireturn rfl rfl k)
set_option maxRecDepth 20000 in
set_option maxHeartbeats 4000000 in
theorem cal_mo_reading {Δ : DT} {d : Nat} (hd : 77 ≤ d) {x1 : Int} {x2 : Int}  {M : MEM} {p : Int × MEM} (h : mo_reading x1 x2 M = some p) (ho : okVs [vR 278, vI x1, vI x2]) (hM : okM M) : Cal Δ false m_mo_reading d [vR 278, vI x1, vI x2] (NG, S0, M) (some p.1) (NG, S0, p.2) 0 0 := by
  obtain ⟨d, rfl⟩ : ∃ e, d = e + 1 := ⟨d - 1, by omega⟩
  exact cal_of g_mo_reading p_mo_reading (fun v hv => by simp only [List.mem_cons, List.not_mem_nil, or_false] at hv; rcases hv with rfl | rfl | rfl <;> first | exact Or.inl ⟨_, rfl⟩ | exact Or.inr ⟨_, rfl⟩) ho hM (Nat.le_of_ble_eq_true rfl) (fun Γ _ k => J_mo_reading hd  _ h k)
abbrev HD_mo_mildest_b28 (Δ : DT) (Γ : FT) (d : Nat)  (M : MEM) (s : Int × Int × Int) : Prop := WAt Δ Γ false m_mo_mildest (d + 1) 28 [vR (278), vN, vI (s.1), vI (s.2.1), vI (s.2.2), vN, vN] [] (NG, S0, M) 0 0
abbrev X_mo_mildest_b28 (Δ : DT) (Γ : FT) (d : Nat)  (M : MEM) (s : Int × Int × Int) : Prop := WAt Δ Γ false m_mo_mildest (d + 1) 91 [vR (278), vN, vI (s.1), vI (s.2.1), vN, vN, vN] [] (NG, S0, M) 0 0
abbrev HD_mo_mildest_b42 (Δ : DT) (Γ : FT) (d : Nat) (x2 : Int) (x3 : Int) (x4 : Int) (M : MEM) (s : Int × Int) : Prop := WAt Δ Γ false m_mo_mildest (d + 1) 42 [vR (278), vN, vI (x2), vI (x3), vI (x4), vI (s.1), vI (s.2)] [] (NG, S0, M) 0 0
abbrev X_mo_mildest_b42 (Δ : DT) (Γ : FT) (d : Nat) (x2 : Int) (x3 : Int) (x4 : Int) (M : MEM) (s : Int × Int) : Prop := WAt Δ Γ false m_mo_mildest (d + 1) 70 [vR (278), vN, vI (x2), vI (x3), vI (x4), vI (s.1), vN] [] (NG, S0, M) 0 0
set_option maxRecDepth 20000 in
set_option maxHeartbeats 4000000 in
theorem Jb_mo_mildest_b42 {Δ : DT} {Γ : FT} {d : Nat} (hd : 77 ≤ d + 1) {x2 : Int} {x3 : Int} {x4 : Int}  {x5 : Int} {x6 : Int} {M : MEM} : J (mo_mildest_b42 x2 x3 x4 x5 x6 M) (Sum.elim (HD_mo_mildest_b42 Δ Γ d x2 x3 x4 M) (X_mo_mildest_b42 Δ Γ d x2 x3 x4 M)) (WAt Δ Γ false m_mo_mildest (d + 1) 42 [vR (278), vN, vI (x2), vI (x3), vI (x4), vI (x5), vI (x6)] [] (NG, S0, M) 0 0) := by
  unfold mo_mildest_b42
  refine J.mono (fun k => w_iload rfl rfl (w_bipush rfl (bip_c rfl) k)) ?_
  refine J_ite (fun hc9 => ?_) (fun hc9 => ?_)
  · refine J.mono (fun k => s_icmp_ge_t rfl hc9 k) ?_
    exact J_some (fun k => w_forget (wk_k (wk_d (wk_k (wk_k (wk_k (wk_k (wk_d wk_0))))))) k)
  · refine J.mono (fun k => s_icmp_ge_f rfl hc9 (w_iload rfl rfl (w_aload_n rfl rfl (w_iload rfl rfl (w_iload rfl rfl k))))) ?_
    refine J_c (fun r11 e10 => ?_)
    refine J_hyp (fun k => c_vi2 rfl (fun ho hM => cal_mo_netOf (by omega)  e10 ho hM) v_mo_netOf (Nat.le_of_ble_eq_true rfl) S_278 rfl (Nat.le_of_ble_eq_true rfl) k) (fun hr12 hb13 => ?_)
    refine J.mono (fun k => w_mmax rfl (Nat.le_of_ble_eq_true rfl) k) ?_
    refine J.mono (fun k => s_istore5 rfl (Nat.le_of_ble_eq_true rfl) (s_iinc6 rfl (Nat.le_of_ble_eq_true rfl) (w_goto rfl k))) ?_
    exact J_some (fun k => w_forget (wk_k (wk_d (wk_k (wk_k (wk_k (wk_k (wk_k wk_0))))))) k)
set_option maxRecDepth 20000 in
set_option maxHeartbeats 4000000 in
theorem Jl_mo_mildest_b42 {Δ : DT} {Γ : FT} {d : Nat} (hd : 77 ≤ d + 1) {x2 : Int} {x3 : Int} {x4 : Int}  {M : MEM} : ∀ (n : Nat) (s : Int × Int), J (iter (fun s => mo_mildest_b42 x2 x3 x4 s.1 s.2 M) n s) (X_mo_mildest_b42 Δ Γ d x2 x3 x4 M) (HD_mo_mildest_b42 Δ Γ d x2 x3 x4 M s) := J_iter (fun s => Jb_mo_mildest_b42 hd )
set_option maxRecDepth 20000 in
set_option maxHeartbeats 4000000 in
theorem J_mo_mildest_j85_28 {Δ : DT} {Γ : FT} {d : Nat} (hd : 77 ≤ d + 1) {x2 : Int} {x3 : Int} {x4 : Int}  {M : MEM} : J (mo_mildest_j85_28 x2 x3 x4 M) (Sum.elim (HD_mo_mildest_b28 Δ Γ d  M) (X_mo_mildest_b28 Δ Γ d  M)) (WAt Δ Γ false m_mo_mildest (d + 1) 85 [vR (278), vN, vI (x2), vI (x3), vI (x4), vN, vN] [] (NG, S0, M) 0 0) := by
  unfold mo_mildest_j85_28
  refine J.mono (fun k => s_iinc4 rfl (Nat.le_of_ble_eq_true rfl) (w_goto rfl k)) ?_
  exact J_some (fun k => w_forget (wk_k (wk_d (wk_k (wk_k (wk_k (wk_d (wk_d wk_0))))))) k)
set_option maxRecDepth 20000 in
set_option maxHeartbeats 4000000 in
theorem Jb_mo_mildest_b28 {Δ : DT} {Γ : FT} {d : Nat} (hd : 77 ≤ d + 1)   {x2 : Int} {x3 : Int} {x4 : Int} {M : MEM} : J (mo_mildest_b28  x2 x3 x4 M) (Sum.elim (HD_mo_mildest_b28 Δ Γ d  M) (X_mo_mildest_b28 Δ Γ d  M)) (WAt Δ Γ false m_mo_mildest (d + 1) 28 [vR (278), vN, vI (x2), vI (x3), vI (x4), vN, vN] [] (NG, S0, M) 0 0) := by
  unfold mo_mildest_b28
  refine J.mono (fun k => w_iload rfl rfl (w_iconst rfl (inR_c rfl) k)) ?_
  refine J_ite (fun hc8 => ?_) (fun hc8 => ?_)
  · refine J.mono (fun k => s_icmp_ge_t rfl hc8 k) ?_
    exact J_some (fun k => w_forget (wk_k (wk_d (wk_k (wk_k (wk_d (wk_d (wk_d wk_0))))))) k)
  · refine J.mono (fun k => s_icmp_ge_f rfl hc8 (w_ldcw rfl (inR_c rfl) (s_istore5 rfl (Nat.le_of_ble_eq_true rfl) (w_iconst rfl (inR_c rfl) (s_istore6 rfl (Nat.le_of_ble_eq_true rfl) k))))) ?_
    refine J.mono (fun k => w_forget (wk_k (wk_d (wk_k (wk_k (wk_k (wk_k (wk_k wk_0))))))) k) ?_
    refine J_loop (Jl_mo_mildest_b42 hd  _ _) (fun w14 => ?_)
    refine J.mono (fun k => w_iload rfl rfl (w_iload_n rfl rfl k)) ?_
    refine J_ite (fun hc15 => ?_) (fun hc15 => ?_)
    · refine J.mono (fun k => s_icmp_lt_t rfl hc15 (w_iload rfl rfl (s_istore2 rfl (Nat.le_of_ble_eq_true rfl) (w_iload rfl rfl (s_istore3 rfl (Nat.le_of_ble_eq_true rfl) k))))) ?_
      exact J.mono (fun k => w_forget (wk_k (wk_d (wk_k (wk_k (wk_k (wk_d (wk_d wk_0))))))) k) (J_mo_mildest_j85_28 hd )
    · refine J.mono (fun k => s_icmp_lt_f rfl hc15 (w_goto rfl k)) ?_
      exact J.mono (fun k => w_forget (wk_k (wk_d (wk_k (wk_k (wk_k (wk_d (wk_d wk_0))))))) k) (J_mo_mildest_j85_28 hd )
set_option maxRecDepth 20000 in
set_option maxHeartbeats 4000000 in
theorem Jl_mo_mildest_b28 {Δ : DT} {Γ : FT} {d : Nat} (hd : 77 ≤ d + 1)   {M : MEM} : ∀ (n : Nat) (s : Int × Int × Int), J (iter (fun s => mo_mildest_b28  s.1 s.2.1 s.2.2 M) n s) (X_mo_mildest_b28 Δ Γ d  M) (HD_mo_mildest_b28 Δ Γ d  M s) := J_iter (fun s => Jb_mo_mildest_b28 hd )
set_option maxRecDepth 20000 in
set_option maxHeartbeats 4000000 in
theorem J_mo_mildest {Δ : DT} {Γ : FT} {d : Nat} (hd : 77 ≤ d + 1) {x1 : Int}  {M : MEM} : J (mo_mildest x1 M) (K_IM Δ Γ m_mo_mildest) (WAt Δ Γ false m_mo_mildest (d + 1) 0 [vR (278), vI (x1), vN, vN, vN, vN, vN] [] (NG, S0, M) 0 0) := by
  unfold mo_mildest
  refine J.mono (fun k => w_aload_n rfl rfl (w_iconst rfl (inR_c rfl) k)) ?_
  refine J_b ?_
  refine J.mono (fun k => w_putI rfl (Nat.le_of_ble_eq_true rfl) S_278 rfl rfl (w_iload_n rfl rfl k)) ?_
  refine J_hyp (fun k => c_si1 rfl rfl (fun ho hM => cal_mo_isMore (by omega)   ho hM) v_mo_isMore (Nat.le_of_ble_eq_true rfl) k) (fun hr3 hb4 => ?_)
  refine J_ite (fun hc5 => ?_) (fun hc5 => ?_)
  · refine J.mono (fun k => s_if_ne_f rfl hc5 (w_iconst rfl (inR_c rfl) k)) ?_
    exact J_some (fun k => w_ireturn rfl rfl k)
  · refine J.mono (fun k => s_if_ne_t rfl hc5 (w_aload_n rfl rfl (w_iload_n rfl rfl k))) ?_
    refine J_c (fun M7 e6 => ?_)
    refine J.mono (fun k => c_vv1 rfl (fun ho hM => cal_mo_findHours (by omega)  e6 ho hM) v_mo_findHours (Nat.le_of_ble_eq_true rfl) S_278 rfl (Nat.le_of_ble_eq_true rfl) (w_iconst rfl (inR_c rfl) (s_istore2 rfl (Nat.le_of_ble_eq_true rfl) (w_ldcw rfl (inR_c rfl) (s_istore3 rfl (Nat.le_of_ble_eq_true rfl) (w_iconst rfl (inR_c rfl) (s_istore4 rfl (Nat.le_of_ble_eq_true rfl) k))))))) ?_
    refine J.mono (fun k => w_forget (wk_k (wk_d (wk_k (wk_k (wk_k (wk_d (wk_d wk_0))))))) k) ?_
    refine J_loop (Jl_mo_mildest_b28 hd  _ _) (fun w16 => ?_)
    refine J.mono (fun k => w_aload_n rfl rfl (w_iconst rfl (inR_c rfl) k)) ?_
    refine J_b ?_
    refine J.mono (fun k => w_putI rfl (Nat.le_of_ble_eq_true rfl) S_278 rfl rfl (w_aload_n rfl rfl (w_iload_n rfl rfl k))) ?_
    refine J_c (fun M19 e18 => ?_)
    refine J.mono (fun k => c_vv1 rfl (fun ho hM => cal_mo_tell (by omega)  e18 ho hM) v_mo_tell (Nat.le_of_ble_eq_true rfl) S_278 rfl (Nat.le_of_ble_eq_true rfl) (w_iload_n rfl rfl k)) ?_
    exact J_some (fun k => w_ireturn rfl rfl k)
set_option maxRecDepth 20000 in
set_option maxHeartbeats 4000000 in
theorem cal_mo_mildest {Δ : DT} {d : Nat} (hd : 77 ≤ d) {x1 : Int}  {M : MEM} {p : Int × MEM} (h : mo_mildest x1 M = some p) (ho : okVs [vR 278, vI x1]) (hM : okM M) : Cal Δ false m_mo_mildest d [vR 278, vI x1] (NG, S0, M) (some p.1) (NG, S0, p.2) 0 0 := by
  obtain ⟨d, rfl⟩ : ∃ e, d = e + 1 := ⟨d - 1, by omega⟩
  exact cal_of g_mo_mildest p_mo_mildest (fun v hv => by simp only [List.mem_cons, List.not_mem_nil, or_false] at hv; rcases hv with rfl | rfl <;> first | exact Or.inl ⟨_, rfl⟩ | exact Or.inr ⟨_, rfl⟩) ho hM (Nat.le_of_ble_eq_true rfl) (fun Γ _ k => J_mo_mildest hd  _ h k)

