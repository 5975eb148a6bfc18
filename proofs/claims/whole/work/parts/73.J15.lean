set_option maxRecDepth 20000 in
set_option maxHeartbeats 4000000 in
theorem J_dh_tell {Δ : DT} {Γ : FT} {d : Nat} {x1 : Int}  {M : MEM} : J (dh_tell x1 M) (K_M Δ Γ m_dh_tell) (WAt Δ Γ false m_dh_tell d 0 [vR (0), vI (x1)] [] (NG, S0, M) 0 0) := by
  unfold dh_tell
  refine J.mono (fun k => w_aload_n rfl rfl (w_getI rfl (Nat.le_of_ble_eq_true rfl) S_0 rfl (w_aload_n rfl rfl (w_getR (r := 245) rfl (Nat.le_of_ble_eq_true rfl) S_0 rfl (w_alen rfl A_245.1 (Nat.le_of_ble_eq_true rfl) A_245.2 (Nat.le_of_ble_eq_true rfl) k))))) ?_
  refine J_ite (fun hc1 => ?_) (fun hc1 => ?_)
  · refine J.mono (fun k => s_icmp_ge_t rfl hc1 k) ?_
    exact J_some (fun k => w_return rfl rfl k)
  · refine J.mono (fun k => s_icmp_ge_f rfl hc1 (w_aload_n rfl rfl (w_getR (r := 245) rfl (Nat.le_of_ble_eq_true rfl) S_0 rfl (w_aload_n rfl rfl (w_getI rfl (Nat.le_of_ble_eq_true rfl) S_0 rfl (w_iload_n rfl rfl k)))))) ?_
    refine J_chk (fun hi3 => ?_)
    refine J_b ?_
    refine J.mono (fun k => w_iast rfl A_245.1 A_245.2 hi3.1 hi3.2 rfl (w_aload_n rfl rfl (w_dup rfl (fun _ h => by cases h) (w_getI rfl (Nat.le_of_ble_eq_true rfl) S_0 rfl (w_iconst rfl (inR_c rfl) (w_iadd rfl k)))))) ?_
    refine J_b ?_
    refine J.mono (fun k => w_putI rfl (Nat.le_of_ble_eq_true rfl) S_0 rfl rfl k) ?_
    exact J_some (fun k => w_return rfl rfl k)
set_option maxRecDepth 20000 in
set_option maxHeartbeats 4000000 in
theorem cal_dh_tell {Δ : DT} {d : Nat} (hd : 0 ≤ d) {x1 : Int}  {M : MEM} {M1 : MEM} (h : dh_tell x1 M = some M1) (ho : okVs [vR 0, vI x1]) (hM : okM M) : Cal Δ false m_dh_tell d [vR 0, vI x1] (NG, S0, M) none (NG, S0, M1) 0 0 := by
  exact cal_of g_dh_tell p_dh_tell (fun v hv => by simp only [List.mem_cons, List.not_mem_nil, or_false] at hv; rcases hv with rfl | rfl <;> first | exact Or.inl ⟨_, rfl⟩ | exact Or.inr ⟨_, rfl⟩) ho hM (Nat.le_of_ble_eq_true rfl) (fun Γ _ k => J_dh_tell  _ h k)
set_option maxRecDepth 20000 in
set_option maxHeartbeats 4000000 in
theorem J_hi_commit {Δ : DT} {Γ : FT} {d : Nat} (hd : 1 ≤ d + 1)   {M : MEM} : J (hi_commit M) (K_M Δ Γ m_hi_commit) (WAt Δ Γ false m_hi_commit (d + 1) 0 [vR (45)] [] (NG, S0, M) 0 0) := by
  unfold hi_commit
  refine J.mono (fun k => w_aload_n rfl rfl (w_getI rfl (Nat.le_of_ble_eq_true rfl) S_45 rfl (w_bipush rfl (bip_c rfl) k))) ?_
  refine J_ite (fun hc1 => ?_) (fun hc1 => ?_)
  · refine J.mono (fun k => s_icmp_ge_t rfl hc1 (w_aload_n rfl rfl (w_aload_n rfl rfl (w_getI rfl (Nat.le_of_ble_eq_true rfl) S_45 rfl (w_iconst rfl (inR_c rfl) (w_iadd rfl (w_aload_n rfl rfl (w_getR (r := 46) rfl (Nat.le_of_ble_eq_true rfl) S_45 rfl (w_alenq rfl (Nat.le_of_ble_eq_true rfl) (Or.inr rfl) Q_46 (Nat.le_of_ble_eq_true rfl) k))))))))) ?_
    refine J_c (fun r3 e2 => ?_)
    refine J_hyp (fun k => c_si2 rfl rfl (fun ho hM => cal_jm_floorMod (by omega)  e2 ho hM) v_jm_floorMod (Nat.le_of_ble_eq_true rfl) k) (fun hr4 hb5 => ?_)
    refine J_b ?_
    refine J.mono (fun k => w_putI rfl (Nat.le_of_ble_eq_true rfl) S_45 rfl rfl k) ?_
    exact J_some (fun k => w_return rfl rfl k)
  · refine J.mono (fun k => s_icmp_ge_f rfl hc1 (w_aload_n rfl rfl (w_dup rfl (fun _ h => by cases h) (w_getI rfl (Nat.le_of_ble_eq_true rfl) S_45 rfl (w_iconst rfl (inR_c rfl) (w_iadd rfl k)))))) ?_
    refine J_b ?_
    refine J.mono (fun k => w_putI rfl (Nat.le_of_ble_eq_true rfl) S_45 rfl rfl (w_goto rfl k)) ?_
    exact J_some (fun k => w_return rfl rfl k)
set_option maxRecDepth 20000 in
set_option maxHeartbeats 4000000 in
theorem cal_hi_commit {Δ : DT} {d : Nat} (hd : 1 ≤ d)   {M : MEM} {M1 : MEM} (h : hi_commit M = some M1) (ho : okVs [vR 45]) (hM : okM M) : Cal Δ false m_hi_commit d [vR 45] (NG, S0, M) none (NG, S0, M1) 0 0 := by
  obtain ⟨d, rfl⟩ : ∃ e, d = e + 1 := ⟨d - 1, by omega⟩
  exact cal_of g_hi_commit p_hi_commit (fun v hv => by simp only [List.mem_cons, List.not_mem_nil, or_false] at hv; rcases hv with rfl <;> first | exact Or.inl ⟨_, rfl⟩ | exact Or.inr ⟨_, rfl⟩) ho hM (Nat.le_of_ble_eq_true rfl) (fun Γ _ k => J_hi_commit hd  _ h k)
set_option maxRecDepth 20000 in
set_option maxHeartbeats 4000000 in
theorem J_ca_copy {Δ : DT} {Γ : FT} {d : Nat} (hd : 1 ≤ d + 1) {a0 : Nat} {a1 : Nat} (h_a0 : is_ca a0) (h_a1 : is_ca a1) {M : MEM} : J (ca_copy a0 a1 M) (K_M Δ Γ m_ca_copy) (WAt Δ Γ false m_ca_copy (d + 1) 0 [vR (a0), vR (a1)] [] (NG, S0, M) 0 0) := by
  unfold ca_copy
  refine J.mono (fun k => w_aload_n rfl rfl (w_aload_n rfl rfl (w_getI rfl (ca_S h_a1).1 (ca_S h_a1).2 rfl k))) ?_
  refine J_b ?_
  refine J.mono (fun k => w_putI rfl (ca_S h_a0).1 (ca_S h_a0).2 rfl rfl (w_aload_n rfl rfl (w_getR (r := (a1 + 1)) rfl (ca_S h_a1).1 (ca_S h_a1).2 rfl (w_iconst rfl (inR_c rfl) (w_aload_n rfl rfl (w_getR (r := (a0 + 1)) rfl (ca_S h_a0).1 (ca_S h_a0).2 rfl (w_iconst rfl (inR_c rfl) (w_bipush rfl (bip_c rfl) k)))))))) ?_
  refine J_b ?_
  refine J.mono (fun k => w_copy rfl (Nat.le_of_ble_eq_true rfl) (ca_f0 h_a1).1 (ca_f0 h_a1).2 (ca_f0 h_a0).1 (ca_f0 h_a0).2 (by decide) (by decide) (by decide) rfl (w_aload_n rfl rfl (w_getR (r := (a1 + 2)) rfl (ca_S h_a1).1 (ca_S h_a1).2 rfl (w_iconst rfl (inR_c rfl) (w_aload_n rfl rfl (w_getR (r := (a0 + 2)) rfl (ca_S h_a0).1 (ca_S h_a0).2 rfl (w_iconst rfl (inR_c rfl) (w_bipush rfl (bip_c rfl) k)))))))) ?_
  refine J_b ?_
  refine J.mono (fun k => w_copy rfl (Nat.le_of_ble_eq_true rfl) (ca_f1 h_a1).1 (ca_f1 h_a1).2 (ca_f1 h_a0).1 (ca_f1 h_a0).2 (by decide) (by decide) (by decide) rfl (w_aload_n rfl rfl (w_getR (r := (a1 + 3)) rfl (ca_S h_a1).1 (ca_S h_a1).2 rfl (w_iconst rfl (inR_c rfl) (w_aload_n rfl rfl (w_getR (r := (a0 + 3)) rfl (ca_S h_a0).1 (ca_S h_a0).2 rfl (w_iconst rfl (inR_c rfl) (w_bipush rfl (bip_c rfl) k)))))))) ?_
  refine J_b ?_
  refine J.mono (fun k => w_copy rfl (Nat.le_of_ble_eq_true rfl) (ca_f2 h_a1).1 (ca_f2 h_a1).2 (ca_f2 h_a0).1 (ca_f2 h_a0).2 (by decide) (by decide) (by decide) rfl (w_aload_n rfl rfl (w_getR (r := (a1 + 4)) rfl (ca_S h_a1).1 (ca_S h_a1).2 rfl (w_iconst rfl (inR_c rfl) (w_aload_n rfl rfl (w_getR (r := (a0 + 4)) rfl (ca_S h_a0).1 (ca_S h_a0).2 rfl (w_iconst rfl (inR_c rfl) (w_bipush rfl (bip_c rfl) k)))))))) ?_
  refine J_b ?_
  refine J.mono (fun k => w_copy rfl (Nat.le_of_ble_eq_true rfl) (ca_f3 h_a1).1 (ca_f3 h_a1).2 (ca_f3 h_a0).1 (ca_f3 h_a0).2 (by decide) (by decide) (by decide) rfl k) ?_
  exact J_some (fun k => w_return rfl rfl k)
set_option maxRecDepth 20000 in
set_option maxHeartbeats 4000000 in
theorem cal_ca_copy {Δ : DT} {d : Nat} (hd : 1 ≤ d) {a0 : Nat} {a1 : Nat} (h_a0 : is_ca a0) (h_a1 : is_ca a1) {M : MEM} {M1 : MEM} (h : ca_copy a0 a1 M = some M1) (ho : okVs [vR a0, vR a1]) (hM : okM M) : Cal Δ false m_ca_copy d [vR a0, vR a1] (NG, S0, M) none (NG, S0, M1) 0 0 := by
  obtain ⟨d, rfl⟩ : ∃ e, d = e + 1 := ⟨d - 1, by omega⟩
  exact cal_of g_ca_copy p_ca_copy (fun v hv => by simp only [List.mem_cons, List.not_mem_nil, or_false] at hv; rcases hv with rfl | rfl <;> first | exact Or.inl ⟨_, rfl⟩ | exact Or.inr ⟨_, rfl⟩) ho hM (Nat.le_of_ble_eq_true rfl) (fun Γ _ k => J_ca_copy hd h_a0 h_a1 _ h k)
set_option maxRecDepth 20000 in
set_option maxHeartbeats 4000000 in
theorem J_be_copyButBook {Δ : DT} {Γ : FT} {d : Nat} (hd : 1 ≤ d + 1) {a0 : Nat} {a1 : Nat} (h_a0 : is_be a0) (h_a1 : is_be a1) {M : MEM} : J (be_copyButBook a0 a1 M) (K_M Δ Γ m_be_copyButBook) (WAt Δ Γ false m_be_copyButBook (d + 1) 0 [vR (a0), vR (a1)] [] (NG, S0, M) 0 0) := by
  unfold be_copyButBook
  refine J.mono (fun k => w_aload_n rfl rfl (w_aload_n rfl rfl (w_getI rfl (be_S h_a1).1 (be_S h_a1).2 rfl k))) ?_
  refine J_b ?_
  refine J.mono (fun k => w_putI rfl (be_S h_a0).1 (be_S h_a0).2 rfl rfl (w_aload_n rfl rfl (w_aload_n rfl rfl (w_getI rfl (be_S h_a1).1 (be_S h_a1).2 rfl k)))) ?_
  refine J_b ?_
  refine J.mono (fun k => w_putI rfl (be_S h_a0).1 (be_S h_a0).2 rfl rfl (w_aload_n rfl rfl (w_aload_n rfl rfl (w_getI rfl (be_S h_a1).1 (be_S h_a1).2 rfl k)))) ?_
  refine J_b ?_
  refine J.mono (fun k => w_putI rfl (be_S h_a0).1 (be_S h_a0).2 rfl rfl (w_aload_n rfl rfl (w_aload_n rfl rfl (w_getI rfl (be_S h_a1).1 (be_S h_a1).2 rfl k)))) ?_
  refine J_b ?_
  refine J.mono (fun k => w_putI rfl (be_S h_a0).1 (be_S h_a0).2 rfl rfl (w_aload_n rfl rfl (w_getR (r := (a1 + 1)) rfl (be_S h_a1).1 (be_S h_a1).2 rfl (w_iconst rfl (inR_c rfl) (w_aload_n rfl rfl (w_getR (r := (a0 + 1)) rfl (be_S h_a0).1 (be_S h_a0).2 rfl (w_iconst rfl (inR_c rfl) (w_bipush rfl (bip_c rfl) k)))))))) ?_
  refine J_b ?_
  refine J.mono (fun k => w_copy rfl (Nat.le_of_ble_eq_true rfl) (be_f0 h_a1).1 (be_f0 h_a1).2 (be_f0 h_a0).1 (be_f0 h_a0).2 (by decide) (by decide) (by decide) rfl k) ?_
  exact J_some (fun k => w_return rfl rfl k)
set_option maxRecDepth 20000 in
set_option maxHeartbeats 4000000 in
theorem cal_be_copyButBook {Δ : DT} {d : Nat} (hd : 1 ≤ d) {a0 : Nat} {a1 : Nat} (h_a0 : is_be a0) (h_a1 : is_be a1) {M : MEM} {M1 : MEM} (h : be_copyButBook a0 a1 M = some M1) (ho : okVs [vR a0, vR a1]) (hM : okM M) : Cal Δ false m_be_copyButBook d [vR a0, vR a1] (NG, S0, M) none (NG, S0, M1) 0 0 := by
  obtain ⟨d, rfl⟩ : ∃ e, d = e + 1 := ⟨d - 1, by omega⟩
  exact cal_of g_be_copyButBook p_be_copyButBook (fun v hv => by simp only [List.mem_cons, List.not_mem_nil, or_false] at hv; rcases hv with rfl | rfl <;> first | exact Or.inl ⟨_, rfl⟩ | exact Or.inr ⟨_, rfl⟩) ho hM (Nat.le_of_ble_eq_true rfl) (fun Γ _ k => J_be_copyButBook hd h_a0 h_a1 _ h k)
set_option maxRecDepth 20000 in
set_option maxHeartbeats 4000000 in
theorem J_be_copy {Δ : DT} {Γ : FT} {d : Nat} (hd : 2 ≤ d + 1) {a0 : Nat} {a1 : Nat} (h_a0 : is_be a0) (h_a1 : is_be a1) {M : MEM} : J (be_copy a0 a1 M) (K_M Δ Γ m_be_copy) (WAt Δ Γ false m_be_copy (d + 1) 0 [vR (a0), vR (a1)] [] (NG, S0, M) 0 0) := by
  unfold be_copy
  refine J.mono (fun k => w_aload_n rfl rfl (w_aload_n rfl rfl k)) ?_
  refine J_c (fun M2 e1 => ?_)
  refine J.mono (fun k => c_vv1 rfl (fun ho hM => cal_be_copyButBook (by omega) h_a0 h_a1 e1 ho hM) v_be_copyButBook (be_S h_a0).1 (be_S h_a0).2 rfl (Nat.le_of_ble_eq_true rfl) (w_aload_n rfl rfl (w_getR (r := (a1 + 2)) rfl (be_S h_a1).1 (be_S h_a1).2 rfl (w_iconst rfl (inR_c rfl) (w_aload_n rfl rfl (w_getR (r := (a0 + 2)) rfl (be_S h_a0).1 (be_S h_a0).2 rfl (w_iconst rfl (inR_c rfl) (w_bipush rfl (bip_c rfl) k)))))))) ?_
  refine J_b ?_
  refine J.mono (fun k => w_copy rfl (Nat.le_of_ble_eq_true rfl) (be_f1 h_a1).1 (be_f1 h_a1).2 (be_f1 h_a0).1 (be_f1 h_a0).2 (by decide) (by decide) (by decide) rfl k) ?_
  exact J_some (fun k => w_return rfl rfl k)
set_option maxRecDepth 20000 in
set_option maxHeartbeats 4000000 in
theorem cal_be_copy {Δ : DT} {d : Nat} (hd : 2 ≤ d) {a0 : Nat} {a1 : Nat} (h_a0 : is_be a0) (h_a1 : is_be a1) {M : MEM} {M1 : MEM} (h : be_copy a0 a1 M = some M1) (ho : okVs [vR a0, vR a1]) (hM : okM M) : Cal Δ false m_be_copy d [vR a0, vR a1] (NG, S0, M) none (NG, S0, M1) 0 0 := by
  obtain ⟨d, rfl⟩ : ∃ e, d = e + 1 := ⟨d - 1, by omega⟩
  exact cal_of g_be_copy p_be_copy (fun v hv => by simp only [List.mem_cons, List.not_mem_nil, or_false] at hv; rcases hv with rfl | rfl <;> first | exact Or.inl ⟨_, rfl⟩ | exact Or.inr ⟨_, rfl⟩) ho hM (Nat.le_of_ble_eq_true rfl) (fun Γ _ k => J_be_copy hd h_a0 h_a1 _ h k)
abbrev HD_sc_copyWalk_b18 (Δ : DT) (Γ : FT) (d : Nat) (a0 : Nat) (a1 : Nat) (s : Int × MEM) : Prop := WAt Δ Γ false m_sc_copyWalk (d + 1) 18 [vR (a0), vR (a1), vI (s.1)] [] (NG, S0, s.2) 0 0
abbrev X_sc_copyWalk_b18 (Δ : DT) (Γ : FT) (d : Nat) (a0 : Nat) (a1 : Nat) (s : Int × MEM) : Prop := WAt Δ Γ false m_sc_copyWalk (d + 1) 56 [vN, vN, vN] [] (NG, S0, s.2) 0 0
set_option maxRecDepth 20000 in
set_option maxHeartbeats 4000000 in
theorem Jb_sc_copyWalk_b18 {Δ : DT} {Γ : FT} {d : Nat} (hd : 3 ≤ d + 1) {a0 : Nat} {a1 : Nat} (h_a0 : is_sc a0) (h_a1 : is_sc a1) {x2 : Int} {M : MEM} : J (sc_copyWalk_b18 a0 a1 x2 M) (Sum.elim (HD_sc_copyWalk_b18 Δ Γ d a0 a1) (X_sc_copyWalk_b18 Δ Γ d a0 a1)) (WAt Δ Γ false m_sc_copyWalk (d + 1) 18 [vR (a0), vR (a1), vI (x2)] [] (NG, S0, M) 0 0) := by
  unfold sc_copyWalk_b18
  refine J.mono (fun k => w_iload_n rfl rfl (w_aload_n rfl rfl (w_getI rfl (sc_S h_a0).1 (sc_S h_a0).2 rfl k))) ?_
  refine J_ite (fun hc3 => ?_) (fun hc3 => ?_)
  · refine J.mono (fun k => s_icmp_ge_t rfl hc3 k) ?_
    exact J_some (fun k => w_forget (wk_d (wk_d (wk_d wk_0))) k)
  · refine J.mono (fun k => s_icmp_ge_f rfl hc3 (w_iload_n rfl rfl (w_aload_n rfl rfl (w_getR (r := (a0 + 1)) rfl (sc_S h_a0).1 (sc_S h_a0).2 rfl (w_alenq rfl (scb_S h_a0).1 (Or.inl rfl) (scb_S h_a0).2 (Nat.le_of_ble_eq_true rfl) k))))) ?_
    refine J_ite (fun hc4 => ?_) (fun hc4 => ?_)
    · refine J.mono (fun k => s_icmp_ge_t rfl hc4 k) ?_
      exact J_some (fun k => w_forget (wk_d (wk_d (wk_d wk_0))) k)
    · refine J.mono (fun k => s_icmp_ge_f rfl hc4 (w_aload_n rfl rfl (w_getR (r := (a0 + 1)) rfl (sc_S h_a0).1 (sc_S h_a0).2 rfl (w_iload_n rfl rfl k)))) ?_
      refine J_chk (fun hi5 => ?_)
      refine J.mono (fun k => w_aald rfl (scb_S h_a0).1 (Or.inl rfl) (scb_S h_a0).2 hi5.1 (scb_get hi5.1 hi5.2) (w_aload_n rfl rfl (w_getR (r := (a1 + 1)) rfl (sc_S h_a1).1 (sc_S h_a1).2 rfl (w_iload_n rfl rfl k)))) ?_
      refine J_chk (fun hi6 => ?_)
      refine J.mono (fun k => w_aald rfl (scb_S h_a1).1 (Or.inl rfl) (scb_S h_a1).2 hi6.1 (scb_get hi6.1 hi6.2) k) ?_
      refine J_c (fun M8 e7 => ?_)
      refine J.mono (fun k => c_vv1 rfl (fun ho hM => cal_be_copy (by omega) (scb_is h_a0 hi5.1 hi5.2) (scb_is h_a1 hi6.1 hi6.2) e7 ho hM) v_be_copy (be_S (scb_is h_a0 hi5.1 hi5.2)).1 (be_S (scb_is h_a0 hi5.1 hi5.2)).2 rfl (Nat.le_of_ble_eq_true rfl) (s_iinc2 rfl (Nat.le_of_ble_eq_true rfl) (w_goto rfl k))) ?_
      exact J_some (fun k => w_forget (wk_k (wk_k (wk_k wk_0))) k)
set_option maxRecDepth 20000 in
set_option maxHeartbeats 4000000 in
theorem Jl_sc_copyWalk_b18 {Δ : DT} {Γ : FT} {d : Nat} (hd : 3 ≤ d + 1) {a0 : Nat} {a1 : Nat} (h_a0 : is_sc a0) (h_a1 : is_sc a1)  : ∀ (n : Nat) (s : Int × MEM), J (iter (fun s => sc_copyWalk_b18 a0 a1 s.1 s.2) n s) (X_sc_copyWalk_b18 Δ Γ d a0 a1) (HD_sc_copyWalk_b18 Δ Γ d a0 a1 s) := J_iter (fun s => Jb_sc_copyWalk_b18 hd h_a0 h_a1)
set_option maxRecDepth 20000 in
set_option maxHeartbeats 4000000 in
theorem J_sc_copyWalk {Δ : DT} {Γ : FT} {d : Nat} (hd : 3 ≤ d + 1) {a0 : Nat} {a1 : Nat} (h_a0 : is_sc a0) (h_a1 : is_sc a1) {M : MEM} : J (sc_copyWalk a0 a1 M) (K_M Δ Γ m_sc_copyWalk) (WAt Δ Γ false m_sc_copyWalk (d + 1) 0 [vR (a0), vR (a1), vN] [] (NG, S0, M) 0 0) := by
  unfold sc_copyWalk
  refine J.mono (fun k => w_aload_n rfl rfl (w_aload_n rfl rfl (w_getI rfl (sc_S h_a1).1 (sc_S h_a1).2 rfl k))) ?_
  refine J_b ?_
  refine J.mono (fun k => w_putI rfl (sc_S h_a0).1 (sc_S h_a0).2 rfl rfl (w_aload_n rfl rfl (w_aload_n rfl rfl (w_getI rfl (sc_S h_a1).1 (sc_S h_a1).2 rfl k)))) ?_
  refine J_b ?_
  refine J.mono (fun k => w_putI rfl (sc_S h_a0).1 (sc_S h_a0).2 rfl rfl (w_iconst rfl (inR_c rfl) (s_istore2 rfl (Nat.le_of_ble_eq_true rfl) k))) ?_
  refine J.mono (fun k => w_forget (wk_k (wk_k (wk_k wk_0))) k) ?_
  refine J_loop (Jl_sc_copyWalk_b18 hd h_a0 h_a1 _ _) (fun w9 => ?_)
  exact J_some (fun k => w_return rfl rfl k)
set_option maxRecDepth 20000 in
set_option maxHeartbeats 4000000 in
theorem cal_sc_copyWalk {Δ : DT} {d : Nat} (hd : 3 ≤ d) {a0 : Nat} {a1 : Nat} (h_a0 : is_sc a0) (h_a1 : is_sc a1) {M : MEM} {M1 : MEM} (h : sc_copyWalk a0 a1 M = some M1) (ho : okVs [vR a0, vR a1]) (hM : okM M) : Cal Δ false m_sc_copyWalk d [vR a0, vR a1] (NG, S0, M) none (NG, S0, M1) 0 0 := by
  obtain ⟨d, rfl⟩ : ∃ e, d = e + 1 := ⟨d - 1, by omega⟩
  exact cal_of g_sc_copyWalk p_sc_copyWalk (fun v hv => by simp only [List.mem_cons, List.not_mem_nil, or_false] at hv; rcases hv with rfl | rfl <;> first | exact Or.inl ⟨_, rfl⟩ | exact Or.inr ⟨_, rfl⟩) ho hM (Nat.le_of_ble_eq_true rfl) (fun Γ _ k => J_sc_copyWalk hd h_a0 h_a1 _ h k)
set_option maxRecDepth 20000 in
set_option maxHeartbeats 4000000 in
theorem J_hi_prepare {Δ : DT} {Γ : FT} {d : Nat} (hd : 4 ≤ d + 1) {a1 : Nat} {x2 : Int} (h_a1 : is_sc a1) {M : MEM} : J (hi_prepare a1 x2 M) (K_M Δ Γ m_hi_prepare) (WAt Δ Γ false m_hi_prepare (d + 1) 0 [vR (45), vR (a1), vI (x2), vN] [] (NG, S0, M) 0 0) := by
  unfold hi_prepare
  refine J.mono (fun k => w_aload_n rfl rfl (w_getR (r := 46) rfl (Nat.le_of_ble_eq_true rfl) S_45 rfl (w_aload_n rfl rfl (w_getI rfl (Nat.le_of_ble_eq_true rfl) S_45 rfl (w_aload_n rfl rfl (w_getI rfl (Nat.le_of_ble_eq_true rfl) S_45 rfl (w_iadd rfl (w_aload_n rfl rfl (w_getR (r := 46) rfl (Nat.le_of_ble_eq_true rfl) S_45 rfl (w_alenq rfl (Nat.le_of_ble_eq_true rfl) (Or.inr rfl) Q_46 (Nat.le_of_ble_eq_true rfl) k)))))))))) ?_
  refine J_c (fun r2 e1 => ?_)
  refine J_hyp (fun k => c_si2 rfl rfl (fun ho hM => cal_jm_floorMod (by omega)  e1 ho hM) v_jm_floorMod (Nat.le_of_ble_eq_true rfl) k) (fun hr3 hb4 => ?_)
  refine J_chk (fun hi5 => ?_)
  refine J.mono (fun k => w_aald rfl (Nat.le_of_ble_eq_true rfl) (Or.inr rfl) Q_46 hi5.1 (q46_get hi5.1 hi5.2) (s_astore3 rfl (Nat.le_of_ble_eq_true rfl) (w_aload_n rfl rfl (w_aload_n rfl rfl k)))) ?_
  refine J_c (fun M7 e6 => ?_)
  refine J.mono (fun k => c_vv1 rfl (fun ho hM => cal_sc_copyWalk (by omega) (q46_is hi5.1 hi5.2) h_a1 e6 ho hM) v_sc_copyWalk (sc_S (q46_is hi5.1 hi5.2)).1 (sc_S (q46_is hi5.1 hi5.2)).2 rfl (Nat.le_of_ble_eq_true rfl) (w_aload_n rfl rfl (w_getR (r := ((47 + 16 * (r2).toNat) + 2)) rfl (sc_S (q46_is hi5.1 hi5.2)).1 (sc_S (q46_is hi5.1 hi5.2)).2 rfl (w_aload_n rfl rfl (w_getR (r := (a1 + 2)) rfl (sc_S h_a1).1 (sc_S h_a1).2 rfl k))))) ?_
  refine J_c (fun M9 e8 => ?_)
  refine J.mono (fun k => c_vv1 rfl (fun ho hM => cal_ca_copy (by omega) (sc_f1 (q46_is hi5.1 hi5.2)) (sc_f1 h_a1) e8 ho hM) v_ca_copy (ca_S (sc_f1 (q46_is hi5.1 hi5.2))).1 (ca_S (sc_f1 (q46_is hi5.1 hi5.2))).2 rfl (Nat.le_of_ble_eq_true rfl) (w_aload_n rfl rfl (w_iload_n rfl rfl k))) ?_
  refine J_chk (fun hb11 => ?_)
  refine J_b ?_
  refine J.mono (fun k => w_putZ rfl (sc_S (q46_is hi5.1 hi5.2)).1 (sc_S (q46_is hi5.1 hi5.2)).2 rfl rfl hb11 k) ?_
  exact J_some (fun k => w_return rfl rfl k)
set_option maxRecDepth 20000 in
set_option maxHeartbeats 4000000 in
theorem cal_hi_prepare {Δ : DT} {d : Nat} (hd : 4 ≤ d) {a1 : Nat} {x2 : Int} (h_a1 : is_sc a1) {M : MEM} {M1 : MEM} (h : hi_prepare a1 x2 M = some M1) (ho : okVs [vR 45, vR a1, vI x2]) (hM : okM M) : Cal Δ false m_hi_prepare d [vR 45, vR a1, vI x2] (NG, S0, M) none (NG, S0, M1) 0 0 := by
  obtain ⟨d, rfl⟩ : ∃ e, d = e + 1 := ⟨d - 1, by omega⟩
  exact cal_of g_hi_prepare p_hi_prepare (fun v hv => by simp only [List.mem_cons, List.not_mem_nil, or_false] at hv; rcases hv with rfl | rfl | rfl <;> first | exact Or.inl ⟨_, rfl⟩ | exact Or.inr ⟨_, rfl⟩) ho hM (Nat.le_of_ble_eq_true rfl) (fun Γ _ k => J_hi_prepare hd h_a1 _ h k)
abbrev HD_sc_allStrokes_b4 (Δ : DT) (Γ : FT) (d : Nat) (a0 : Nat) (M : MEM) (s : Int × Int) : Prop := WAt Δ Γ false m_sc_allStrokes d 4 [vR (a0), vI (s.1), vI (s.2)] [] (NG, S0, M) 0 0
abbrev X_sc_allStrokes_b4 (Δ : DT) (Γ : FT) (d : Nat) (a0 : Nat) (M : MEM) (s : Int × Int) : Prop := WAt Δ Γ false m_sc_allStrokes d 39 [vN, vI (s.1), vN] [] (NG, S0, M) 0 0
set_option maxRecDepth 20000 in
set_option maxHeartbeats 4000000 in
theorem Jb_sc_allStrokes_b4 {Δ : DT} {Γ : FT} {d : Nat} {a0 : Nat} (h_a0 : is_sc a0) {x1 : Int} {x2 : Int} {M : MEM} : J (sc_allStrokes_b4 a0 x1 x2 M) (Sum.elim (HD_sc_allStrokes_b4 Δ Γ d a0 M) (X_sc_allStrokes_b4 Δ Γ d a0 M)) (WAt Δ Γ false m_sc_allStrokes d 4 [vR (a0), vI (x1), vI (x2)] [] (NG, S0, M) 0 0) := by
  unfold sc_allStrokes_b4
  refine J.mono (fun k => w_iload_n rfl rfl (w_aload_n rfl rfl (w_getI rfl (sc_S h_a0).1 (sc_S h_a0).2 rfl k))) ?_
  refine J_ite (fun hc1 => ?_) (fun hc1 => ?_)
  · refine J.mono (fun k => s_icmp_ge_t rfl hc1 k) ?_
    exact J_some (fun k => w_forget (wk_d (wk_k (wk_d wk_0))) k)
  · refine J.mono (fun k => s_icmp_ge_f rfl hc1 (w_iload_n rfl rfl (w_aload_n rfl rfl (w_getR (r := (a0 + 1)) rfl (sc_S h_a0).1 (sc_S h_a0).2 rfl (w_alenq rfl (scb_S h_a0).1 (Or.inl rfl) (scb_S h_a0).2 (Nat.le_of_ble_eq_true rfl) k))))) ?_
    refine J_ite (fun hc2 => ?_) (fun hc2 => ?_)
    · refine J.mono (fun k => s_icmp_ge_t rfl hc2 k) ?_
      exact J_some (fun k => w_forget (wk_d (wk_k (wk_d wk_0))) k)
    · refine J.mono (fun k => s_icmp_ge_f rfl hc2 (w_iload_n rfl rfl (w_aload_n rfl rfl (w_getR (r := (a0 + 1)) rfl (sc_S h_a0).1 (sc_S h_a0).2 rfl (w_iload_n rfl rfl k))))) ?_
      refine J_chk (fun hi3 => ?_)
      refine J.mono (fun k => w_aald rfl (scb_S h_a0).1 (Or.inl rfl) (scb_S h_a0).2 hi3.1 (scb_get hi3.1 hi3.2) (w_getI rfl (be_S (scb_is h_a0 hi3.1 hi3.2)).1 (be_S (scb_is h_a0 hi3.1 hi3.2)).2 rfl (w_iadd rfl (s_istore1 rfl (Nat.le_of_ble_eq_true rfl) (s_iinc2 rfl (Nat.le_of_ble_eq_true rfl) (w_goto rfl k)))))) ?_
      exact J_some (fun k => w_forget (wk_k (wk_k (wk_k wk_0))) k)
set_option maxRecDepth 20000 in
set_option maxHeartbeats 4000000 in
theorem Jl_sc_allStrokes_b4 {Δ : DT} {Γ : FT} {d : Nat} {a0 : Nat} (h_a0 : is_sc a0) {M : MEM} : ∀ (n : Nat) (s : Int × Int), J (iter (fun s => sc_allStrokes_b4 a0 s.1 s.2 M) n s) (X_sc_allStrokes_b4 Δ Γ d a0 M) (HD_sc_allStrokes_b4 Δ Γ d a0 M s) := J_iter (fun s => Jb_sc_allStrokes_b4 h_a0)
set_option maxRecDepth 20000 in
set_option maxHeartbeats 4000000 in
theorem J_sc_allStrokes {Δ : DT} {Γ : FT} {d : Nat} {a0 : Nat} (h_a0 : is_sc a0) {M : MEM} : J (sc_allStrokes a0 M) (K_I Δ Γ m_sc_allStrokes M) (WAt Δ Γ false m_sc_allStrokes d 0 [vR (a0), vN, vN] [] (NG, S0, M) 0 0) := by
  unfold sc_allStrokes
  refine J.mono (fun k => w_iconst rfl (inR_c rfl) (s_istore1 rfl (Nat.le_of_ble_eq_true rfl) (w_iconst rfl (inR_c rfl) (s_istore2 rfl (Nat.le_of_ble_eq_true rfl) k)))) ?_
  refine J.mono (fun k => w_forget (wk_k (wk_k (wk_k wk_0))) k) ?_
  refine J_loop (Jl_sc_allStrokes_b4 h_a0 _ _) (fun w4 => ?_)
  refine J.mono (fun k => w_iload_n rfl rfl k) ?_
  exact J_some (fun k => w_ireturn rfl rfl k)
set_option maxRecDepth 20000 in
set_option maxHeartbeats 4000000 in
theorem cal_sc_allStrokes {Δ : DT} {d : Nat} (hd : 0 ≤ d) {a0 : Nat} (h_a0 : is_sc a0) {M : MEM} {r : Int} (h : sc_allStrokes a0 M = some r) (ho : okVs [vR a0]) (hM : okM M) : Cal Δ false m_sc_allStrokes d [vR a0] (NG, S0, M) (some r) (NG, S0, M) 0 0 := by
  exact cal_of g_sc_allStrokes p_sc_allStrokes (fun v hv => by simp only [List.mem_cons, List.not_mem_nil, or_false] at hv; rcases hv with rfl <;> first | exact Or.inl ⟨_, rfl⟩ | exact Or.inr ⟨_, rfl⟩) ho hM (Nat.le_of_ble_eq_true rfl) (fun Γ _ k => J_sc_allStrokes h_a0 _ h k)
set_option maxRecDepth 20000 in
set_option maxHeartbeats 4000000 in
theorem J_dh_minute {Δ : DT} {Γ : FT} {d : Nat} (hd : 5 ≤ d + 1)   {M : MEM} : J (dh_minute M) (K_IM Δ Γ m_dh_minute) (WAt Δ Γ false m_dh_minute (d + 1) 0 [vR (0), vN, vN] [] (NG, S0, M) 0 0) := by
  unfold dh_minute
  refine J.mono (fun k => w_aload_n rfl rfl (w_getR (r := 3) rfl (Nat.le_of_ble_eq_true rfl) S_0 rfl k)) ?_
  refine J_c (fun r2 e1 => ?_)
  refine J_hyp (fun k => c_vi0 rfl (fun ho hM => cal_sc_allStrokes (by omega) is_sc_3 e1 ho hM) v_sc_allStrokes (sc_S is_sc_3).1 (sc_S is_sc_3).2 rfl (Nat.le_of_ble_eq_true rfl) k) (fun hr3 hb4 => ?_)
  refine J.mono (fun k => s_istore1 rfl (Nat.le_of_ble_eq_true rfl) (w_aload_n rfl rfl (w_getR (r := 45) rfl (Nat.le_of_ble_eq_true rfl) S_0 rfl (w_aload_n rfl rfl (w_getR (r := 3) rfl (Nat.le_of_ble_eq_true rfl) S_0 rfl (w_iconst rfl (inR_c rfl) k)))))) ?_
  refine J_c (fun M6 e5 => ?_)
  refine J.mono (fun k => c_vv2 rfl (fun ho hM => cal_hi_prepare (by omega) is_sc_3 e5 ho hM) v_hi_prepare (Nat.le_of_ble_eq_true rfl) S_45 rfl (Nat.le_of_ble_eq_true rfl) (w_aload_n rfl rfl (w_getR (r := 45) rfl (Nat.le_of_ble_eq_true rfl) S_0 rfl k))) ?_
  refine J_c (fun M8 e7 => ?_)
  refine J.mono (fun k => c_vv0 rfl (fun ho hM => cal_hi_commit (by omega)  e7 ho hM) v_hi_commit (Nat.le_of_ble_eq_true rfl) S_45 rfl (Nat.le_of_ble_eq_true rfl) (w_aload_n rfl rfl k)) ?_
  refine J_c (fun p10 e9 => ?_)
  refine J_hyp (fun k => c_vi0 rfl (fun ho hM => cal_dh_pass (by omega)  e9 ho hM) v_dh_pass (Nat.le_of_ble_eq_true rfl) S_0 rfl (Nat.le_of_ble_eq_true rfl) k) (fun hr11 hb12 => ?_)
  refine J.mono (fun k => s_istore2 rfl (Nat.le_of_ble_eq_true rfl) (w_aload_n rfl rfl k)) ?_
  refine J_c (fun M14 e13 => ?_)
  refine J.mono (fun k => c_vv0 rfl (fun ho hM => cal_dh_newRow (by omega)  e13 ho hM) v_dh_newRow (Nat.le_of_ble_eq_true rfl) S_0 rfl (Nat.le_of_ble_eq_true rfl) (w_aload_n rfl rfl (w_iload_n rfl rfl (w_bipush rfl (bip_c rfl) (w_iand rfl k))))) ?_
  refine J_c (fun M16 e15 => ?_)
  refine J.mono (fun k => c_vv1 rfl (fun ho hM => cal_dh_tell (by omega)  e15 ho hM) v_dh_tell (Nat.le_of_ble_eq_true rfl) S_0 rfl (Nat.le_of_ble_eq_true rfl) (w_aload_n rfl rfl (w_iload_n rfl rfl (w_iconst rfl (inR_c rfl) (w_ishr rfl k))))) ?_
  refine J_c (fun M18 e17 => ?_)
  refine J.mono (fun k => c_vv1 rfl (fun ho hM => cal_dh_tell (by omega)  e17 ho hM) v_dh_tell (Nat.le_of_ble_eq_true rfl) S_0 rfl (Nat.le_of_ble_eq_true rfl) (w_aload_n rfl rfl (w_getR (r := 3) rfl (Nat.le_of_ble_eq_true rfl) S_0 rfl k))) ?_
  refine J_c (fun r20 e19 => ?_)
  refine J_hyp (fun k => c_vi0 rfl (fun ho hM => cal_sc_allStrokes (by omega) is_sc_3 e19 ho hM) v_sc_allStrokes (sc_S is_sc_3).1 (sc_S is_sc_3).2 rfl (Nat.le_of_ble_eq_true rfl) k) (fun hr21 hb22 => ?_)
  refine J.mono (fun k => w_iload_n rfl rfl (w_isub rfl k)) ?_
  exact J_some (fun k => w_ireturn rfl rfl k)
set_option maxRecDepth 20000 in
set_option maxHeartbeats 4000000 in
theorem cal_dh_minute {Δ : DT} {d : Nat} (hd : 5 ≤ d)   {M : MEM} {p : Int × MEM} (h : dh_minute M = some p) (ho : okVs [vR 0]) (hM : okM M) : Cal Δ false m_dh_minute d [vR 0] (NG, S0, M) (some p.1) (NG, S0, p.2) 0 0 := by
  obtain ⟨d, rfl⟩ : ∃ e, d = e + 1 := ⟨d - 1, by omega⟩
  exact cal_of g_dh_minute p_dh_minute (fun v hv => by simp only [List.mem_cons, List.not_mem_nil, or_false] at hv; rcases hv with rfl <;> first | exact Or.inl ⟨_, rfl⟩ | exact Or.inr ⟨_, rfl⟩) ho hM (Nat.le_of_ble_eq_true rfl) (fun Γ _ k => J_dh_minute hd  _ h k)
abbrev HD_dh_passMany_b2 (Δ : DT) (Γ : FT) (d : Nat) (x1 : Int) (s : Int × MEM) : Prop := WAt Δ Γ false m_dh_passMany (d + 1) 2 [vR (0), vI (x1), vI (s.1)] [] (NG, S0, s.2) 0 0
abbrev X_dh_passMany_b2 (Δ : DT) (Γ : FT) (d : Nat) (x1 : Int) (s : Int × MEM) : Prop := WAt Δ Γ false m_dh_passMany (d + 1) 18 [vN, vN, vN] [] (NG, S0, s.2) 0 0
set_option maxRecDepth 20000 in
set_option maxHeartbeats 4000000 in
theorem Jb_dh_passMany_b2 {Δ : DT} {Γ : FT} {d : Nat} (hd : 4 ≤ d + 1) {x1 : Int}  {x2 : Int} {M : MEM} : J (dh_passMany_b2 x1 x2 M) (Sum.elim (HD_dh_passMany_b2 Δ Γ d x1) (X_dh_passMany_b2 Δ Γ d x1)) (WAt Δ Γ false m_dh_passMany (d + 1) 2 [vR (0), vI (x1), vI (x2)] [] (NG, S0, M) 0 0) := by
  unfold dh_passMany_b2
  refine J.mono (fun k => w_iload_n rfl rfl (w_iload_n rfl rfl k)) ?_
  refine J_ite (fun hc1 => ?_) (fun hc1 => ?_)
  · refine J.mono (fun k => s_icmp_ge_t rfl hc1 k) ?_
    exact J_some (fun k => w_forget (wk_d (wk_d (wk_d wk_0))) k)
  · refine J.mono (fun k => s_icmp_ge_f rfl hc1 (w_aload_n rfl rfl k)) ?_
    refine J_c (fun p3 e2 => ?_)
    refine J_hyp (fun k => c_vi0 rfl (fun ho hM => cal_dh_pass (by omega)  e2 ho hM) v_dh_pass (Nat.le_of_ble_eq_true rfl) S_0 rfl (Nat.le_of_ble_eq_true rfl) k) (fun hr4 hb5 => ?_)
    refine J.mono (fun k => w_pop rfl (fun _ h => by cases h) (s_iinc2 rfl (Nat.le_of_ble_eq_true rfl) (w_goto rfl k))) ?_
    exact J_some (fun k => w_forget (wk_k (wk_k (wk_k wk_0))) k)
set_option maxRecDepth 20000 in
set_option maxHeartbeats 4000000 in
theorem Jl_dh_passMany_b2 {Δ : DT} {Γ : FT} {d : Nat} (hd : 4 ≤ d + 1) {x1 : Int}   : ∀ (n : Nat) (s : Int × MEM), J (iter (fun s => dh_passMany_b2 x1 s.1 s.2) n s) (X_dh_passMany_b2 Δ Γ d x1) (HD_dh_passMany_b2 Δ Γ d x1 s) := J_iter (fun s => Jb_dh_passMany_b2 hd )
set_option maxRecDepth 20000 in
set_option maxHeartbeats 4000000 in
theorem J_dh_passMany {Δ : DT} {Γ : FT} {d : Nat} (hd : 4 ≤ d + 1) {x1 : Int}  {M : MEM} : J (dh_passMany x1 M) (K_M Δ Γ m_dh_passMany) (WAt Δ Γ false m_dh_passMany (d + 1) 0 [vR (0), vI (x1), vN] [] (NG, S0, M) 0 0) := by
  unfold dh_passMany
  refine J.mono (fun k => w_iconst rfl (inR_c rfl) (s_istore2 rfl (Nat.le_of_ble_eq_true rfl) k)) ?_
  refine J.mono (fun k => w_forget (wk_k (wk_k (wk_k wk_0))) k) ?_
  refine J_loop (Jl_dh_passMany_b2 hd  _ _) (fun w6 => ?_)
  exact J_some (fun k => w_return rfl rfl k)
set_option maxRecDepth 20000 in
set_option maxHeartbeats 4000000 in
theorem cal_dh_passMany {Δ : DT} {d : Nat} (hd : 4 ≤ d) {x1 : Int}  {M : MEM} {M1 : MEM} (h : dh_passMany x1 M = some M1) (ho : okVs [vR 0, vI x1]) (hM : okM M) : Cal Δ false m_dh_passMany d [vR 0, vI x1] (NG, S0, M) none (NG, S0, M1) 0 0 := by
  obtain ⟨d, rfl⟩ : ∃ e, d = e + 1 := ⟨d - 1, by omega⟩
  exact cal_of g_dh_passMany p_dh_passMany (fun v hv => by simp only [List.mem_cons, List.not_mem_nil, or_false] at hv; rcases hv with rfl | rfl <;> first | exact Or.inl ⟨_, rfl⟩ | exact Or.inr ⟨_, rfl⟩) ho hM (Nat.le_of_ble_eq_true rfl) (fun Γ _ k => J_dh_passMany hd  _ h k)
abbrev HD_sc_allThistles_b4 (Δ : DT) (Γ : FT) (d : Nat) (a0 : Nat) (M : MEM) (s : Int × Int) : Prop := WAt Δ Γ false m_sc_allThistles (d + 1) 4 [vR (a0), vI (s.1), vI (s.2)] [] (NG, S0, M) 0 0
abbrev X_sc_allThistles_b4 (Δ : DT) (Γ : FT) (d : Nat) (a0 : Nat) (M : MEM) (s : Int × Int) : Prop := WAt Δ Γ false m_sc_allThistles (d + 1) 39 [vN, vI (s.1), vN] [] (NG, S0, M) 0 0
set_option maxRecDepth 20000 in
set_option maxHeartbeats 4000000 in
theorem Jb_sc_allThistles_b4 {Δ : DT} {Γ : FT} {d : Nat} (hd : 2 ≤ d + 1) {a0 : Nat} (h_a0 : is_sc a0) {x1 : Int} {x2 : Int} {M : MEM} : J (sc_allThistles_b4 a0 x1 x2 M) (Sum.elim (HD_sc_allThistles_b4 Δ Γ d a0 M) (X_sc_allThistles_b4 Δ Γ d a0 M)) (WAt Δ Γ false m_sc_allThistles (d + 1) 4 [vR (a0), vI (x1), vI (x2)] [] (NG, S0, M) 0 0) := by
  unfold sc_allThistles_b4
  refine J.mono (fun k => w_iload_n rfl rfl (w_aload_n rfl rfl (w_getI rfl (sc_S h_a0).1 (sc_S h_a0).2 rfl k))) ?_
  refine J_ite (fun hc1 => ?_) (fun hc1 => ?_)
  · refine J.mono (fun k => s_icmp_ge_t rfl hc1 k) ?_
    exact J_some (fun k => w_forget (wk_d (wk_k (wk_d wk_0))) k)
  · refine J.mono (fun k => s_icmp_ge_f rfl hc1 (w_iload_n rfl rfl (w_aload_n rfl rfl (w_getR (r := (a0 + 1)) rfl (sc_S h_a0).1 (sc_S h_a0).2 rfl (w_alenq rfl (scb_S h_a0).1 (Or.inl rfl) (scb_S h_a0).2 (Nat.le_of_ble_eq_true rfl) k))))) ?_
    refine J_ite (fun hc2 => ?_) (fun hc2 => ?_)
    · refine J.mono (fun k => s_icmp_ge_t rfl hc2 k) ?_
      exact J_some (fun k => w_forget (wk_d (wk_k (wk_d wk_0))) k)
    · refine J.mono (fun k => s_icmp_ge_f rfl hc2 (w_iload_n rfl rfl (w_aload_n rfl rfl (w_getR (r := (a0 + 1)) rfl (sc_S h_a0).1 (sc_S h_a0).2 rfl (w_iload_n rfl rfl k))))) ?_
      refine J_chk (fun hi3 => ?_)
      refine J.mono (fun k => w_aald rfl (scb_S h_a0).1 (Or.inl rfl) (scb_S h_a0).2 hi3.1 (scb_get hi3.1 hi3.2) k) ?_
      refine J_c (fun r5 e4 => ?_)
      refine J_hyp (fun k => c_vi0 rfl (fun ho hM => cal_be_allThistles (by omega) (scb_is h_a0 hi3.1 hi3.2) e4 ho hM) v_be_allThistles (be_S (scb_is h_a0 hi3.1 hi3.2)).1 (be_S (scb_is h_a0 hi3.1 hi3.2)).2 rfl (Nat.le_of_ble_eq_true rfl) k) (fun hr6 hb7 => ?_)
      refine J.mono (fun k => w_iadd rfl (s_istore1 rfl (Nat.le_of_ble_eq_true rfl) (s_iinc2 rfl (Nat.le_of_ble_eq_true rfl) (w_goto rfl k)))) ?_
      exact J_some (fun k => w_forget (wk_k (wk_k (wk_k wk_0))) k)
set_option maxRecDepth 20000 in
set_option maxHeartbeats 4000000 in
theorem Jl_sc_allThistles_b4 {Δ : DT} {Γ : FT} {d : Nat} (hd : 2 ≤ d + 1) {a0 : Nat} (h_a0 : is_sc a0) {M : MEM} : ∀ (n : Nat) (s : Int × Int), J (iter (fun s => sc_allThistles_b4 a0 s.1 s.2 M) n s) (X_sc_allThistles_b4 Δ Γ d a0 M) (HD_sc_allThistles_b4 Δ Γ d a0 M s) := J_iter (fun s => Jb_sc_allThistles_b4 hd h_a0)
set_option maxRecDepth 20000 in
set_option maxHeartbeats 4000000 in
theorem J_sc_allThistles {Δ : DT} {Γ : FT} {d : Nat} (hd : 2 ≤ d + 1) {a0 : Nat} (h_a0 : is_sc a0) {M : MEM} : J (sc_allThistles a0 M) (K_I Δ Γ m_sc_allThistles M) (WAt Δ Γ false m_sc_allThistles (d + 1) 0 [vR (a0), vN, vN] [] (NG, S0, M) 0 0) := by
  unfold sc_allThistles
  refine J.mono (fun k => w_iconst rfl (inR_c rfl) (s_istore1 rfl (Nat.le_of_ble_eq_true rfl) (w_iconst rfl (inR_c rfl) (s_istore2 rfl (Nat.le_of_ble_eq_true rfl) k)))) ?_
  refine J.mono (fun k => w_forget (wk_k (wk_k (wk_k wk_0))) k) ?_
  refine J_loop (Jl_sc_allThistles_b4 hd h_a0 _ _) (fun w8 => ?_)
  refine J.mono (fun k => w_iload_n rfl rfl k) ?_
  exact J_some (fun k => w_ireturn rfl rfl k)
set_option maxRecDepth 20000 in
set_option maxHeartbeats 4000000 in
theorem cal_sc_allThistles {Δ : DT} {d : Nat} (hd : 2 ≤ d) {a0 : Nat} (h_a0 : is_sc a0) {M : MEM} {r : Int} (h : sc_allThistles a0 M = some r) (ho : okVs [vR a0]) (hM : okM M) : Cal Δ false m_sc_allThistles d [vR a0] (NG, S0, M) (some r) (NG, S0, M) 0 0 := by
  obtain ⟨d, rfl⟩ : ∃ e, d = e + 1 := ⟨d - 1, by omega⟩
  exact cal_of g_sc_allThistles p_sc_allThistles (fun v hv => by simp only [List.mem_cons, List.not_mem_nil, or_false] at hv; rcases hv with rfl <;> first | exact Or.inl ⟨_, rfl⟩ | exact Or.inr ⟨_, rfl⟩) ho hM (Nat.le_of_ble_eq_true rfl) (fun Γ _ k => J_sc_allThistles hd h_a0 _ h k)
abbrev HD_dh_minutes_b55 (Δ : DT) (Γ : FT) (d : Nat) (x1 : Int) (x2 : Int) (x3 : Int) (s : Int × MEM) : Prop := WAt Δ Γ false m_dh_minutes (d + 1) 55 [vR (0), vI (x1), vI (x2), vI (x3), vI (s.1)] [] (NG, S0, s.2) 0 0
abbrev X_dh_minutes_b55 (Δ : DT) (Γ : FT) (d : Nat) (x1 : Int) (x2 : Int) (x3 : Int) (s : Int × MEM) : Prop := WAt Δ Γ false m_dh_minutes (d + 1) 99 [vR (0), vI (x1), vI (x2), vI (x3), vN] [] (NG, S0, s.2) 0 0
set_option maxRecDepth 20000 in
set_option maxHeartbeats 4000000 in
theorem Jb_dh_minutes_b55 {Δ : DT} {Γ : FT} {d : Nat} (hd : 5 ≤ d + 1) {x1 : Int} {x2 : Int} {x3 : Int}  {x4 : Int} {M : MEM} : J (dh_minutes_b55 x1 x2 x3 x4 M) (Sum.elim (HD_dh_minutes_b55 Δ Γ d x1 x2 x3) (X_dh_minutes_b55 Δ Γ d x1 x2 x3)) (WAt Δ Γ false m_dh_minutes (d + 1) 55 [vR (0), vI (x1), vI (x2), vI (x3), vI (x4)] [] (NG, S0, M) 0 0) := by
  unfold dh_minutes_b55
  refine J.mono (fun k => w_iload rfl rfl (w_aload_n rfl rfl (w_getR (r := 3) rfl (Nat.le_of_ble_eq_true rfl) S_0 rfl (w_getI rfl (sc_S is_sc_3).1 (sc_S is_sc_3).2 rfl k)))) ?_
  refine J_ite (fun hc12 => ?_) (fun hc12 => ?_)
  · refine J.mono (fun k => s_icmp_ge_t rfl hc12 k) ?_
    exact J_some (fun k => w_forget (wk_k (wk_k (wk_k (wk_k (wk_d wk_0))))) k)
  · refine J.mono (fun k => s_icmp_ge_f rfl hc12 (w_iload rfl rfl (w_iconst rfl (inR_c rfl) k))) ?_
    refine J_ite (fun hc13 => ?_) (fun hc13 => ?_)
    · refine J.mono (fun k => s_icmp_ge_t rfl hc13 k) ?_
      exact J_some (fun k => w_forget (wk_k (wk_k (wk_k (wk_k (wk_d wk_0))))) k)
    · refine J.mono (fun k => s_icmp_ge_f rfl hc13 (w_aload_n rfl rfl (w_getR (r := 244) rfl (Nat.le_of_ble_eq_true rfl) S_0 rfl (w_iload rfl rfl (w_aload_n rfl rfl (w_getR (r := 3) rfl (Nat.le_of_ble_eq_true rfl) S_0 rfl (w_getR (r := 4) rfl (sc_S is_sc_3).1 (sc_S is_sc_3).2 rfl (w_iload rfl rfl k)))))))) ?_
      refine J_chk (fun hi14 => ?_)
      refine J.mono (fun k => w_aald rfl (scb_S is_sc_3).1 (Or.inl rfl) (scb_S is_sc_3).2 hi14.1 (scb_get hi14.1 hi14.2) (w_getI rfl (be_S (scb_is is_sc_3 hi14.1 hi14.2)).1 (be_S (scb_is is_sc_3 hi14.1 hi14.2)).2 rfl k)) ?_
      refine J_chk (fun hi16 => ?_)
      refine J_b ?_
      refine J.mono (fun k => w_iast rfl A_244.1 A_244.2 hi16.1 hi16.2 rfl (s_iinc4 rfl (Nat.le_of_ble_eq_true rfl) (w_goto rfl k))) ?_
      exact J_some (fun k => w_forget (wk_k (wk_k (wk_k (wk_k (wk_k wk_0))))) k)
set_option maxRecDepth 20000 in
set_option maxHeartbeats 4000000 in
theorem Jl_dh_minutes_b55 {Δ : DT} {Γ : FT} {d : Nat} (hd : 5 ≤ d + 1) {x1 : Int} {x2 : Int} {x3 : Int}   : ∀ (n : Nat) (s : Int × MEM), J (iter (fun s => dh_minutes_b55 x1 x2 x3 s.1 s.2) n s) (X_dh_minutes_b55 Δ Γ d x1 x2 x3) (HD_dh_minutes_b55 Δ Γ d x1 x2 x3 s) := J_iter (fun s => Jb_dh_minutes_b55 hd )
abbrev HD_dh_minutes_b124 (Δ : DT) (Γ : FT) (d : Nat) (x2 : Int) (s : Int × MEM) : Prop := WAt Δ Γ false m_dh_minutes (d + 1) 124 [vR (0), vN, vI (x2), vN, vI (s.1)] [] (NG, S0, s.2) 0 0
abbrev X_dh_minutes_b124 (Δ : DT) (Γ : FT) (d : Nat) (x2 : Int) (s : Int × MEM) : Prop := WAt Δ Γ false m_dh_minutes (d + 1) 173 [vR (0), vN, vI (x2), vN, vN] [] (NG, S0, s.2) 0 0
set_option maxRecDepth 20000 in
set_option maxHeartbeats 4000000 in
theorem Jb_dh_minutes_b124 {Δ : DT} {Γ : FT} {d : Nat} (hd : 5 ≤ d + 1) {x2 : Int}  {x4 : Int} {M : MEM} : J (dh_minutes_b124 x2 x4 M) (Sum.elim (HD_dh_minutes_b124 Δ Γ d x2) (X_dh_minutes_b124 Δ Γ d x2)) (WAt Δ Γ false m_dh_minutes (d + 1) 124 [vR (0), vN, vI (x2), vN, vI (x4)] [] (NG, S0, M) 0 0) := by
  unfold dh_minutes_b124
  refine J.mono (fun k => w_iload rfl rfl (w_aload_n rfl rfl (w_getR (r := 3) rfl (Nat.le_of_ble_eq_true rfl) S_0 rfl (w_getI rfl (sc_S is_sc_3).1 (sc_S is_sc_3).2 rfl k)))) ?_
  refine J_ite (fun hc28 => ?_) (fun hc28 => ?_)
  · refine J.mono (fun k => s_icmp_ge_t rfl hc28 k) ?_
    exact J_some (fun k => w_forget (wk_k (wk_d (wk_k (wk_d (wk_d wk_0))))) k)
  · refine J.mono (fun k => s_icmp_ge_f rfl hc28 (w_iload rfl rfl (w_iconst rfl (inR_c rfl) k))) ?_
    refine J_ite (fun hc29 => ?_) (fun hc29 => ?_)
    · refine J.mono (fun k => s_icmp_ge_t rfl hc29 k) ?_
      exact J_some (fun k => w_forget (wk_k (wk_d (wk_k (wk_d (wk_d wk_0))))) k)
    · refine J.mono (fun k => s_icmp_ge_f rfl hc29 (w_aload_n rfl rfl (w_aload_n rfl rfl (w_getR (r := 3) rfl (Nat.le_of_ble_eq_true rfl) S_0 rfl (w_getR (r := 4) rfl (sc_S is_sc_3).1 (sc_S is_sc_3).2 rfl (w_iload rfl rfl k)))))) ?_
      refine J_chk (fun hi30 => ?_)
      refine J.mono (fun k => w_aald rfl (scb_S is_sc_3).1 (Or.inl rfl) (scb_S is_sc_3).2 hi30.1 (scb_get hi30.1 hi30.2) (w_getI rfl (be_S (scb_is is_sc_3 hi30.1 hi30.2)).1 (be_S (scb_is is_sc_3 hi30.1 hi30.2)).2 rfl (w_aload_n rfl rfl (w_getR (r := 244) rfl (Nat.le_of_ble_eq_true rfl) S_0 rfl (w_iload rfl rfl k))))) ?_
      refine J_chk (fun hi31 => ?_)
      refine J.mono (fun k => w_iald rfl A_244.1 A_244.2 hi31.1 hi31.2 (w_isub rfl k)) ?_
      refine J_c (fun M33 e32 => ?_)
      refine J.mono (fun k => c_vv1 rfl (fun ho hM => cal_dh_tell (by omega)  e32 ho hM) v_dh_tell (Nat.le_of_ble_eq_true rfl) S_0 rfl (Nat.le_of_ble_eq_true rfl) (s_iinc4 rfl (Nat.le_of_ble_eq_true rfl) (w_goto rfl k))) ?_
      exact J_some (fun k => w_forget (wk_k (wk_d (wk_k (wk_d (wk_k wk_0))))) k)
set_option maxRecDepth 20000 in
set_option maxHeartbeats 4000000 in
theorem Jl_dh_minutes_b124 {Δ : DT} {Γ : FT} {d : Nat} (hd : 5 ≤ d + 1) {x2 : Int}   : ∀ (n : Nat) (s : Int × MEM), J (iter (fun s => dh_minutes_b124 x2 s.1 s.2) n s) (X_dh_minutes_b124 Δ Γ d x2) (HD_dh_minutes_b124 Δ Γ d x2 s) := J_iter (fun s => Jb_dh_minutes_b124 hd )
set_option maxRecDepth 20000 in
set_option maxHeartbeats 4000000 in
theorem J_dh_minutes_j173 {Δ : DT} {Γ : FT} {d : Nat} (hd : 5 ≤ d + 1) {x2 : Int}  {M : MEM} : J (dh_minutes_j173 x2 M) (K_IM Δ Γ m_dh_minutes) (WAt Δ Γ false m_dh_minutes (d + 1) 173 [vR (0), vN, vI (x2), vN, vN] [] (NG, S0, M) 0 0) := by
  unfold dh_minutes_j173
  refine J.mono (fun k => w_aload_n rfl rfl (w_getR (r := 3) rfl (Nat.le_of_ble_eq_true rfl) S_0 rfl k)) ?_
  refine J_c (fun r36 e35 => ?_)
  refine J_hyp (fun k => c_vi0 rfl (fun ho hM => cal_sc_allStrokes (by omega) is_sc_3 e35 ho hM) v_sc_allStrokes (sc_S is_sc_3).1 (sc_S is_sc_3).2 rfl (Nat.le_of_ble_eq_true rfl) k) (fun hr37 hb38 => ?_)
  refine J.mono (fun k => w_iload_n rfl rfl (w_isub rfl k)) ?_
  exact J_some (fun k => w_ireturn rfl rfl k)
set_option maxRecDepth 20000 in
set_option maxHeartbeats 4000000 in
theorem J_dh_minutes_j99 {Δ : DT} {Γ : FT} {d : Nat} (hd : 5 ≤ d + 1) {x1 : Int} {x2 : Int} {x3 : Int}  {M : MEM} : J (dh_minutes_j99 x1 x2 x3 M) (K_IM Δ Γ m_dh_minutes) (WAt Δ Γ false m_dh_minutes (d + 1) 99 [vR (0), vI (x1), vI (x2), vI (x3), vN] [] (NG, S0, M) 0 0) := by
  unfold dh_minutes_j99
  refine J.mono (fun k => w_aload_n rfl rfl (w_iload_n rfl rfl k)) ?_
  refine J_c (fun M19 e18 => ?_)
  refine J.mono (fun k => c_vv1 rfl (fun ho hM => cal_dh_passMany (by omega)  e18 ho hM) v_dh_passMany (Nat.le_of_ble_eq_true rfl) S_0 rfl (Nat.le_of_ble_eq_true rfl) (w_aload_n rfl rfl k)) ?_
  refine J_c (fun M21 e20 => ?_)
  refine J.mono (fun k => c_vv0 rfl (fun ho hM => cal_dh_newRow (by omega)  e20 ho hM) v_dh_newRow (Nat.le_of_ble_eq_true rfl) S_0 rfl (Nat.le_of_ble_eq_true rfl) (w_aload_n rfl rfl (w_iload_n rfl rfl (w_aload_n rfl rfl (w_getR (r := 3) rfl (Nat.le_of_ble_eq_true rfl) S_0 rfl k))))) ?_
  refine J_c (fun r23 e22 => ?_)
  refine J_hyp (fun k => c_vi0 rfl (fun ho hM => cal_sc_allThistles (by omega) is_sc_3 e22 ho hM) v_sc_allThistles (sc_S is_sc_3).1 (sc_S is_sc_3).2 rfl (Nat.le_of_ble_eq_true rfl) k) (fun hr24 hb25 => ?_)
  refine J.mono (fun k => w_isub rfl k) ?_
  refine J_c (fun M27 e26 => ?_)
  refine J.mono (fun k => c_vv1 rfl (fun ho hM => cal_dh_tell (by omega)  e26 ho hM) v_dh_tell (Nat.le_of_ble_eq_true rfl) S_0 rfl (Nat.le_of_ble_eq_true rfl) (w_iconst rfl (inR_c rfl) (s_istore4 rfl (Nat.le_of_ble_eq_true rfl) k))) ?_
  refine J.mono (fun k => w_forget (wk_k (wk_d (wk_k (wk_d (wk_k wk_0))))) k) ?_
  refine J_loop (Jl_dh_minutes_b124 hd  _ _) (fun w34 => ?_)
  exact J.mono (fun k => w_forget (wk_k (wk_d (wk_k (wk_d (wk_d wk_0))))) k) (J_dh_minutes_j173 hd )
set_option maxRecDepth 20000 in
set_option maxHeartbeats 4000000 in
theorem J_dh_minutes_j36 {Δ : DT} {Γ : FT} {d : Nat} (hd : 5 ≤ d + 1) {x1 : Int}  {M : MEM} : J (dh_minutes_j36 x1 M) (K_IM Δ Γ m_dh_minutes) (WAt Δ Γ false m_dh_minutes (d + 1) 36 [vR (0), vI (x1), vN, vN, vN] [] (NG, S0, M) 0 0) := by
  unfold dh_minutes_j36
  refine J.mono (fun k => w_aload_n rfl rfl (w_getR (r := 3) rfl (Nat.le_of_ble_eq_true rfl) S_0 rfl k)) ?_
  refine J_c (fun r5 e4 => ?_)
  refine J_hyp (fun k => c_vi0 rfl (fun ho hM => cal_sc_allStrokes (by omega) is_sc_3 e4 ho hM) v_sc_allStrokes (sc_S is_sc_3).1 (sc_S is_sc_3).2 rfl (Nat.le_of_ble_eq_true rfl) k) (fun hr6 hb7 => ?_)
  refine J.mono (fun k => s_istore2 rfl (Nat.le_of_ble_eq_true rfl) (w_aload_n rfl rfl (w_getR (r := 3) rfl (Nat.le_of_ble_eq_true rfl) S_0 rfl k))) ?_
  refine J_c (fun r9 e8 => ?_)
  refine J_hyp (fun k => c_vi0 rfl (fun ho hM => cal_sc_allThistles (by omega) is_sc_3 e8 ho hM) v_sc_allThistles (sc_S is_sc_3).1 (sc_S is_sc_3).2 rfl (Nat.le_of_ble_eq_true rfl) k) (fun hr10 hb11 => ?_)
  refine J.mono (fun k => s_istore3 rfl (Nat.le_of_ble_eq_true rfl) (w_iconst rfl (inR_c rfl) (s_istore4 rfl (Nat.le_of_ble_eq_true rfl) k))) ?_
  refine J.mono (fun k => w_forget (wk_k (wk_k (wk_k (wk_k (wk_k wk_0))))) k) ?_
  refine J_loop (Jl_dh_minutes_b55 hd  _ _) (fun w17 => ?_)
  exact J.mono (fun k => w_forget (wk_k (wk_k (wk_k (wk_k (wk_d wk_0))))) k) (J_dh_minutes_j99 hd )
set_option maxRecDepth 20000 in
set_option maxHeartbeats 4000000 in
theorem J_dh_minutes {Δ : DT} {Γ : FT} {d : Nat} (hd : 5 ≤ d + 1) {x1 : Int}  {M : MEM} : J (dh_minutes x1 M) (K_IM Δ Γ m_dh_minutes) (WAt Δ Γ false m_dh_minutes (d + 1) 0 [vR (0), vI (x1), vN, vN, vN] [] (NG, S0, M) 0 0) := by
  unfold dh_minutes
  refine J.mono (fun k => w_iload_n rfl rfl k) ?_
  refine J_ite (fun hc1 => ?_) (fun hc1 => ?_)
  · refine J.mono (fun k => s_if_lt_t rfl hc1 (w_iconst rfl (inR_c rfl) k)) ?_
    exact J_some (fun k => w_ireturn rfl rfl k)
  · refine J.mono (fun k => s_if_lt_f rfl hc1 (w_iload_n rfl rfl (w_sipush rfl (sip_c rfl) k))) ?_
    refine J_ite (fun hc2 => ?_) (fun hc2 => ?_)
    · refine J.mono (fun k => s_icmp_le_t rfl hc2 (w_iload_n rfl rfl k)) ?_
      refine J_ite (fun hc3 => ?_) (fun hc3 => ?_)
      · refine J.mono (fun k => s_if_le_t rfl hc3 k) ?_
        exact J.mono (fun k => w_forget (wk_k (wk_k (wk_d (wk_d (wk_d wk_0))))) k) (J_dh_minutes_j36 hd )
      · refine J.mono (fun k => s_if_le_f rfl hc3 (w_aload_n rfl rfl (w_getR (r := 45) rfl (Nat.le_of_ble_eq_true rfl) S_0 rfl (w_aload_n rfl rfl (w_getR (r := 3) rfl (Nat.le_of_ble_eq_true rfl) S_0 rfl (w_iconst rfl (inR_c rfl) k)))))) ?_
        refine J_c (fun M40 e39 => ?_)
        refine J.mono (fun k => c_vv2 rfl (fun ho hM => cal_hi_prepare (by omega) is_sc_3 e39 ho hM) v_hi_prepare (Nat.le_of_ble_eq_true rfl) S_45 rfl (Nat.le_of_ble_eq_true rfl) (w_aload_n rfl rfl (w_getR (r := 45) rfl (Nat.le_of_ble_eq_true rfl) S_0 rfl k))) ?_
        refine J_c (fun M42 e41 => ?_)
        refine J.mono (fun k => c_vv0 rfl (fun ho hM => cal_hi_commit (by omega)  e41 ho hM) v_hi_commit (Nat.le_of_ble_eq_true rfl) S_45 rfl (Nat.le_of_ble_eq_true rfl) k) ?_
        exact J.mono (fun k => w_forget (wk_k (wk_k (wk_d (wk_d (wk_d wk_0))))) k) (J_dh_minutes_j36 hd )
    · refine J.mono (fun k => s_icmp_le_f rfl hc2 (w_iconst rfl (inR_c rfl) k)) ?_
      exact J_some (fun k => w_ireturn rfl rfl k)
set_option maxRecDepth 20000 in
set_option maxHeartbeats 4000000 in
theorem cal_dh_minutes {Δ : DT} {d : Nat} (hd : 5 ≤ d) {x1 : Int}  {M : MEM} {p : Int × MEM} (h : dh_minutes x1 M = some p) (ho : okVs [vR 0, vI x1]) (hM : okM M) : Cal Δ false m_dh_minutes d [vR 0, vI x1] (NG, S0, M) (some p.1) (NG, S0, p.2) 0 0 := by
  obtain ⟨d, rfl⟩ : ∃ e, d = e + 1 := ⟨d - 1, by omega⟩
  exact cal_of g_dh_minutes p_dh_minutes (fun v hv => by simp only [List.mem_cons, List.not_mem_nil, or_false] at hv; rcases hv with rfl | rfl <;> first | exact Or.inl ⟨_, rfl⟩ | exact Or.inr ⟨_, rfl⟩) ho hM (Nat.le_of_ble_eq_true rfl) (fun Γ _ k => J_dh_minutes hd  _ h k)
set_option maxRecDepth 20000 in
set_option maxHeartbeats 4000000 in
theorem J_ac_readBetween {Δ : DT} {Γ : FT} {d : Nat} (hd : 3 ≤ d + 1) {x1 : Int}  {M : MEM} : J (ac_readBetween x1 M) (K_IM Δ Γ m_ac_readBetween) (WAt Δ Γ false m_ac_readBetween (d + 1) 0 [vR (1), vI (x1), vN] [] (NG, S0, M) 0 0) := by
  unfold ac_readBetween
  refine J.mono (fun k => w_iload_n rfl rfl k) ?_
  refine J_ite (fun hk1 => ?_) (fun hk1 => ?_)
  · refine J.mono (fun k => w_lookup (off := 35) (tgt := 36) rfl (by decide) (by rw [hk1] <;> rfl) (by decide) (w_aload_n rfl rfl (w_bipush rfl (bip_c rfl) k))) ?_
    refine J_c (fun p3 e2 => ?_)
    refine J_hyp (fun k => c_vi1 rfl (fun ho hM => cal_tx_takes (by omega)  e2 ho hM) v_tx_takes (Nat.le_of_ble_eq_true rfl) S_1 rfl (Nat.le_of_ble_eq_true rfl) k) (fun hr4 hb5 => ?_)
    refine J_ite (fun hc6 => ?_) (fun hc6 => ?_)
    · refine J.mono (fun k => s_if_eq_t rfl hc6 (w_aload_n rfl rfl (w_bipush rfl (bip_c rfl) k))) ?_
      refine J_c (fun p8 e7 => ?_)
      refine J_hyp (fun k => c_vi1 rfl (fun ho hM => cal_tx_takes (by omega)  e7 ho hM) v_tx_takes (Nat.le_of_ble_eq_true rfl) S_1 rfl (Nat.le_of_ble_eq_true rfl) k) (fun hr9 hb10 => ?_)
      refine J_ite (fun hc11 => ?_) (fun hc11 => ?_)
      · refine J.mono (fun k => s_if_eq_t rfl hc11 (w_bipush rfl (bip_c rfl) k)) ?_
        exact J_some (fun k => w_ireturn rfl rfl k)
      · refine J.mono (fun k => s_if_eq_f rfl hc11 (w_iconst rfl (inR_c rfl) (w_goto rfl k))) ?_
        exact J_some (fun k => w_ireturn rfl rfl k)
    · refine J.mono (fun k => s_if_eq_f rfl hc6 (w_iconst rfl (inR_c rfl) (w_goto rfl k))) ?_
      exact J_some (fun k => w_ireturn rfl rfl k)
  · refine J_ite (fun hk12 => ?_) (fun hk12 => ?_)
    · refine J.mono (fun k => w_lookup (off := 90) (tgt := 91) rfl (by decide) (by rw [hk12] <;> rfl) (by decide) (w_aload_n rfl rfl (w_bipush rfl (bip_c rfl) k))) ?_
      refine J_c (fun p14 e13 => ?_)
      refine J_hyp (fun k => c_vi1 rfl (fun ho hM => cal_tx_takes (by omega)  e13 ho hM) v_tx_takes (Nat.le_of_ble_eq_true rfl) S_1 rfl (Nat.le_of_ble_eq_true rfl) k) (fun hr15 hb16 => ?_)
      refine J_ite (fun hc17 => ?_) (fun hc17 => ?_)
      · refine J.mono (fun k => s_if_eq_t rfl hc17 (w_bipush rfl (bip_c rfl) k)) ?_
        exact J_some (fun k => w_ireturn rfl rfl k)
      · refine J.mono (fun k => s_if_eq_f rfl hc17 (w_iconst rfl (inR_c rfl) (w_goto rfl k))) ?_
        exact J_some (fun k => w_ireturn rfl rfl k)
    · refine J_ite (fun hk18 => ?_) (fun hk18 => ?_)
      · refine J.mono (fun k => w_lookup (off := 64) (tgt := 65) rfl (by decide) (by rw [hk18] <;> rfl) (by decide) (w_aload_n rfl rfl (w_iconst rfl (inR_c rfl) k))) ?_
        refine J_c (fun p20 e19 => ?_)
        refine J_hyp (fun k => c_vi1 rfl (fun ho hM => cal_tx_number (by omega)  e19 ho hM) v_tx_number (Nat.le_of_ble_eq_true rfl) S_1 rfl (Nat.le_of_ble_eq_true rfl) k) (fun hr21 hb22 => ?_)
        refine J.mono (fun k => s_istore2 rfl (Nat.le_of_ble_eq_true rfl) (w_iload_n rfl rfl k)) ?_
        refine J_ite (fun hc23 => ?_) (fun hc23 => ?_)
        · refine J.mono (fun k => s_if_lt_t rfl hc23 (w_bipush rfl (bip_c rfl) k)) ?_
          exact J_some (fun k => w_ireturn rfl rfl k)
        · refine J.mono (fun k => s_if_lt_f rfl hc23 (w_aload_n rfl rfl (w_bipush rfl (bip_c rfl) k))) ?_
          refine J_c (fun p25 e24 => ?_)
          refine J_hyp (fun k => c_vi1 rfl (fun ho hM => cal_tx_takes (by omega)  e24 ho hM) v_tx_takes (Nat.le_of_ble_eq_true rfl) S_1 rfl (Nat.le_of_ble_eq_true rfl) k) (fun hr26 hb27 => ?_)
          refine J_ite (fun hc28 => ?_) (fun hc28 => ?_)
          · refine J.mono (fun k => s_if_eq_t rfl hc28 (w_bipush rfl (bip_c rfl) k)) ?_
            exact J_some (fun k => w_ireturn rfl rfl k)
          · refine J.mono (fun k => s_if_eq_f rfl hc28 (w_iload_n rfl rfl (w_goto rfl k))) ?_
            exact J_some (fun k => w_ireturn rfl rfl k)
      · refine J.mono (fun k => w_lookDef (keys := [(99), (104), (115)]) (tgt := 107) rfl (by decide) (by simp only [nokey]; exact ⟨hk1, hk12, hk18, trivial⟩) (by decide) (by decide) (w_iconst rfl (inR_c rfl) k)) ?_
        exact J_some (fun k => w_ireturn rfl rfl k)
set_option maxRecDepth 20000 in
set_option maxHeartbeats 4000000 in
theorem cal_ac_readBetween {Δ : DT} {d : Nat} (hd : 3 ≤ d) {x1 : Int}  {M : MEM} {p : Int × MEM} (h : ac_readBetween x1 M = some p) (ho : okVs [vR 1, vI x1]) (hM : okM M) : Cal Δ false m_ac_readBetween d [vR 1, vI x1] (NG, S0, M) (some p.1) (NG, S0, p.2) 0 0 := by
  obtain ⟨d, rfl⟩ : ∃ e, d = e + 1 := ⟨d - 1, by omega⟩
  exact cal_of g_ac_readBetween p_ac_readBetween (fun v hv => by simp only [List.mem_cons, List.not_mem_nil, or_false] at hv; rcases hv with rfl | rfl <;> first | exact Or.inl ⟨_, rfl⟩ | exact Or.inr ⟨_, rfl⟩) ho hM (Nat.le_of_ble_eq_true rfl) (fun Γ _ k => J_ac_readBetween hd  _ h k)
set_option maxRecDepth 20000 in
set_option maxHeartbeats 4000000 in
theorem J_ac_readAct_j151 {Δ : DT} {Γ : FT} {d : Nat} (hd : 4 ≤ d + 1) {x2 : Int} {s1 : Int} {s2 : Int}  {M : MEM} : J (ac_readAct_j151 x2 s1 s2 M) (K_IM Δ Γ m_ac_readAct) (WAt Δ Γ false m_ac_readAct (d + 1) 151 [vR (29), vN, vI (x2), vN] [vI (s2), vI (s1), vR (33)] (NG, S0, M) 0 0) := by
  unfold ac_readAct_j151
  refine J_chk (fun hi33 => ?_)
  refine J_b ?_
  refine J.mono (fun k => w_iast rfl A_33.1 A_33.2 hi33.1 hi33.2 rfl (w_aload_n rfl rfl (w_getR (r := 33) rfl (Nat.le_of_ble_eq_true rfl) S_29 rfl (w_iload_n rfl rfl k)))) ?_
  refine J_chk (fun hi34 => ?_)
  refine J.mono (fun k => w_iald rfl A_33.1 A_33.2 hi34.1 hi34.2 k) ?_
  refine J_ite (fun hc35 => ?_) (fun hc35 => ?_)
  · refine J.mono (fun k => s_if_lt_t rfl hc35 (w_iconst rfl (inR_c rfl) k)) ?_
    exact J_some (fun k => w_zreturn rfl rfl (Or.inl rfl) k)
  · refine J.mono (fun k => s_if_lt_f rfl hc35 (w_iconst rfl (inR_c rfl) (w_goto rfl k))) ?_
    exact J_some (fun k => w_zreturn rfl rfl (Or.inr rfl) k)
set_option maxRecDepth 20000 in
set_option maxHeartbeats 4000000 in
theorem J_ac_readAct_j100 {Δ : DT} {Γ : FT} {d : Nat} (hd : 4 ≤ d + 1) {x2 : Int} {x3 : Int} {s1 : Int} {s2 : Int}  {M : MEM} : J (ac_readAct_j100 x2 x3 s1 s2 M) (K_IM Δ Γ m_ac_readAct) (WAt Δ Γ false m_ac_readAct (d + 1) 100 [vR (29), vR (1), vI (x2), vI (x3)] [vI (s2), vI (s1), vR (32)] (NG, S0, M) 0 0) := by
  unfold ac_readAct_j100
  refine J_chk (fun hi24 => ?_)
  refine J_b ?_
  refine J.mono (fun k => w_iast rfl A_32.1 A_32.2 hi24.1 hi24.2 rfl (w_aload_n rfl rfl (w_getR (r := 32) rfl (Nat.le_of_ble_eq_true rfl) S_29 rfl (w_iload_n rfl rfl k)))) ?_
  refine J_chk (fun hi25 => ?_)
  refine J.mono (fun k => w_iald rfl A_32.1 A_32.2 hi25.1 hi25.2 (w_bipush rfl (bip_c rfl) k)) ?_
  refine J_ite (fun hc26 => ?_) (fun hc26 => ?_)
  · refine J.mono (fun k => s_icmp_ne_f rfl hc26 (w_iconst rfl (inR_c rfl) k)) ?_
    exact J_some (fun k => w_zreturn rfl rfl (Or.inl rfl) k)
  · refine J.mono (fun k => s_icmp_ne_t rfl hc26 (w_aload_n rfl rfl (w_getR (r := 33) rfl (Nat.le_of_ble_eq_true rfl) S_29 rfl (w_iload_n rfl rfl (w_iload_n rfl rfl (w_bipush rfl (bip_c rfl) k)))))) ?_
    refine J_ite (fun hc27 => ?_) (fun hc27 => ?_)
    · refine J.mono (fun k => s_icmp_ne_f rfl hc27 (w_aload_n rfl rfl (w_iconst rfl (inR_c rfl) k))) ?_
      refine J_c (fun p29 e28 => ?_)
      refine J_hyp (fun k => c_vi1 rfl (fun ho hM => cal_tx_number (by omega)  e28 ho hM) v_tx_number (Nat.le_of_ble_eq_true rfl) S_1 rfl (Nat.le_of_ble_eq_true rfl) k) (fun hr30 hb31 => ?_)
      refine J.mono (fun k => w_goto rfl k) ?_
      exact J.mono (fun k => w_forget (wk_k (wk_d (wk_k (wk_d wk_0)))) k) (J_ac_readAct_j151 hd )
    · refine J.mono (fun k => s_icmp_ne_t rfl hc27 (w_iload_n rfl rfl (w_bipush rfl (bip_c rfl) k))) ?_
      refine J_ite (fun hc36 => ?_) (fun hc36 => ?_)
      · refine J.mono (fun k => s_icmp_ne_f rfl hc36 (w_aload_n rfl rfl (w_iconst rfl (inR_c rfl) k))) ?_
        refine J_c (fun p38 e37 => ?_)
        refine J_hyp (fun k => c_vi1 rfl (fun ho hM => cal_tx_number (by omega)  e37 ho hM) v_tx_number (Nat.le_of_ble_eq_true rfl) S_1 rfl (Nat.le_of_ble_eq_true rfl) k) (fun hr39 hb40 => ?_)
        refine J.mono (fun k => w_goto rfl k) ?_
        exact J.mono (fun k => w_forget (wk_k (wk_d (wk_k (wk_d wk_0)))) k) (J_ac_readAct_j151 hd )
      · refine J.mono (fun k => s_icmp_ne_t rfl hc36 (w_aload_n rfl rfl k)) ?_
        refine J_c (fun p42 e41 => ?_)
        refine J_hyp (fun k => c_vi0 rfl (fun ho hM => cal_tx_digit (by omega)  e41 ho hM) v_tx_digit (Nat.le_of_ble_eq_true rfl) S_1 rfl (Nat.le_of_ble_eq_true rfl) k) (fun hr43 hb44 => ?_)
        exact J.mono (fun k => w_forget (wk_k (wk_d (wk_k (wk_d wk_0)))) k) (J_ac_readAct_j151 hd )
set_option maxRecDepth 20000 in
set_option maxHeartbeats 4000000 in
theorem J_ac_readAct_j75 {Δ : DT} {Γ : FT} {d : Nat} (hd : 4 ≤ d + 1) {x2 : Int} {x3 : Int} {s1 : Int} {s2 : Int}  {M : MEM} : J (ac_readAct_j75 x2 x3 s1 s2 M) (K_IM Δ Γ m_ac_readAct) (WAt Δ Γ false m_ac_readAct (d + 1) 75 [vR (29), vR (1), vI (x2), vI (x3)] [vI (s2), vI (s1), vR (31)] (NG, S0, M) 0 0) := by
  unfold ac_readAct_j75
  refine J_chk (fun hi16 => ?_)
  refine J_b ?_
  refine J.mono (fun k => w_iast rfl A_31.1 A_31.2 hi16.1 hi16.2 rfl (w_aload_n rfl rfl (w_getR (r := 32) rfl (Nat.le_of_ble_eq_true rfl) S_29 rfl (w_iload_n rfl rfl (w_aload_n rfl rfl (w_getR (r := 31) rfl (Nat.le_of_ble_eq_true rfl) S_29 rfl (w_iload_n rfl rfl k))))))) ?_
  refine J_chk (fun hi17 => ?_)
  refine J.mono (fun k => w_iald rfl A_31.1 A_31.2 hi17.1 hi17.2 k) ?_
  refine J_ite (fun hc18 => ?_) (fun hc18 => ?_)
  · refine J.mono (fun k => s_if_ge_t rfl hc18 (w_aload_n rfl rfl (w_iload_n rfl rfl k))) ?_
    refine J_c (fun p20 e19 => ?_)
    refine J_hyp (fun k => c_si2 rfl rfl (fun ho hM => cal_ac_readBetween (by omega)  e19 ho hM) v_ac_readBetween (Nat.le_of_ble_eq_true rfl) k) (fun hr21 hb22 => ?_)
    exact J.mono (fun k => w_forget (wk_k (wk_k (wk_k (wk_k wk_0)))) k) (J_ac_readAct_j100 hd )
  · refine J.mono (fun k => s_if_ge_f rfl hc18 (w_bipush rfl (bip_c rfl) (w_goto rfl k))) ?_
    exact J.mono (fun k => w_forget (wk_k (wk_k (wk_k (wk_k wk_0)))) k) (J_ac_readAct_j100 hd )
set_option maxRecDepth 20000 in
set_option maxHeartbeats 4000000 in
theorem J_ac_readAct_j43 {Δ : DT} {Γ : FT} {d : Nat} (hd : 4 ≤ d + 1) {x2 : Int} {x3 : Int}  {M : MEM} : J (ac_readAct_j43 x2 x3 M) (K_IM Δ Γ m_ac_readAct) (WAt Δ Γ false m_ac_readAct (d + 1) 43 [vR (29), vR (1), vI (x2), vI (x3)] [] (NG, S0, M) 0 0) := by
  unfold ac_readAct_j43
  refine J.mono (fun k => w_aload_n rfl rfl (w_iload_n rfl rfl k)) ?_
  refine J_c (fun p9 e8 => ?_)
  refine J_hyp (fun k => c_vi1 rfl (fun ho hM => cal_tx_takes (by omega)  e8 ho hM) v_tx_takes (Nat.le_of_ble_eq_true rfl) S_1 rfl (Nat.le_of_ble_eq_true rfl) k) (fun hr10 hb11 => ?_)
  refine J.mono (fun k => w_pop rfl (fun _ h => by cases h) (w_aload_n rfl rfl (w_getR (r := 30) rfl (Nat.le_of_ble_eq_true rfl) S_29 rfl (w_iload_n rfl rfl (w_iload_n rfl rfl k))))) ?_
  refine J_chk (fun hi13 => ?_)
  refine J_b ?_
  refine J.mono (fun k => w_iast rfl A_30.1 A_30.2 hi13.1 hi13.2 rfl (w_aload_n rfl rfl (w_getR (r := 31) rfl (Nat.le_of_ble_eq_true rfl) S_29 rfl (w_iload_n rfl rfl (w_iload_n rfl rfl (w_bipush rfl (bip_c rfl) k)))))) ?_
  refine J_ite (fun hc14 => ?_) (fun hc14 => ?_)
  · refine J.mono (fun k => s_icmp_ne_f rfl hc14 (w_iconst rfl (inR_c rfl) (w_goto rfl k))) ?_
    exact J.mono (fun k => w_forget (wk_k (wk_k (wk_k (wk_k wk_0)))) k) (J_ac_readAct_j75 hd )
  · refine J.mono (fun k => s_icmp_ne_t rfl hc14 (w_aload_n rfl rfl k)) ?_
    refine J_c (fun p46 e45 => ?_)
    refine J_hyp (fun k => c_vi0 rfl (fun ho hM => cal_tx_digit (by omega)  e45 ho hM) v_tx_digit (Nat.le_of_ble_eq_true rfl) S_1 rfl (Nat.le_of_ble_eq_true rfl) k) (fun hr47 hb48 => ?_)
    exact J.mono (fun k => w_forget (wk_k (wk_k (wk_k (wk_k wk_0)))) k) (J_ac_readAct_j75 hd )
set_option maxRecDepth 20000 in
set_option maxHeartbeats 4000000 in
theorem J_ac_readAct {Δ : DT} {Γ : FT} {d : Nat} (hd : 4 ≤ d + 1) {x2 : Int}  {M : MEM} : J (ac_readAct x2 M) (K_IM Δ Γ m_ac_readAct) (WAt Δ Γ false m_ac_readAct (d + 1) 0 [vR (29), vR (1), vI (x2), vN] [] (NG, S0, M) 0 0) := by
  unfold ac_readAct
  refine J.mono (fun k => w_iload_n rfl rfl k) ?_
  refine J_ite (fun hc1 => ?_) (fun hc1 => ?_)
  · refine J.mono (fun k => s_if_lt_t rfl hc1 (w_iconst rfl (inR_c rfl) k)) ?_
    exact J_some (fun k => w_zreturn rfl rfl (Or.inl rfl) k)
  · refine J.mono (fun k => s_if_lt_f rfl hc1 (w_iload_n rfl rfl (w_bipush rfl (bip_c rfl) k))) ?_
    refine J_ite (fun hc2 => ?_) (fun hc2 => ?_)
    · refine J.mono (fun k => s_icmp_lt_t rfl hc2 (w_aload_n rfl rfl k)) ?_
      refine J_c (fun r4 e3 => ?_)
      refine J_hyp (fun k => c_vi0 rfl (fun ho hM => cal_tx_next (by omega)  e3 ho hM) v_tx_next (Nat.le_of_ble_eq_true rfl) S_1 rfl (Nat.le_of_ble_eq_true rfl) k) (fun hr5 hb6 => ?_)
      refine J.mono (fun k => s_istore3 rfl (Nat.le_of_ble_eq_true rfl) (w_iload_n rfl rfl (w_bipush rfl (bip_c rfl) k))) ?_
      refine J_ite (fun hc7 => ?_) (fun hc7 => ?_)
      · refine J.mono (fun k => s_icmp_eq_t rfl hc7 k) ?_
        exact J.mono (fun k => w_forget (wk_k (wk_k (wk_k (wk_k wk_0)))) k) (J_ac_readAct_j43 hd )
      · refine J.mono (fun k => s_icmp_eq_f rfl hc7 (w_iload_n rfl rfl (w_bipush rfl (bip_c rfl) k))) ?_
        refine J_ite (fun hc49 => ?_) (fun hc49 => ?_)
        · refine J.mono (fun k => s_icmp_eq_t rfl hc49 k) ?_
          exact J.mono (fun k => w_forget (wk_k (wk_k (wk_k (wk_k wk_0)))) k) (J_ac_readAct_j43 hd )
        · refine J.mono (fun k => s_icmp_eq_f rfl hc49 (w_iload_n rfl rfl (w_bipush rfl (bip_c rfl) k))) ?_
          refine J_ite (fun hc50 => ?_) (fun hc50 => ?_)
          · refine J.mono (fun k => s_icmp_eq_t rfl hc50 k) ?_
            exact J.mono (fun k => w_forget (wk_k (wk_k (wk_k (wk_k wk_0)))) k) (J_ac_readAct_j43 hd )
          · refine J.mono (fun k => s_icmp_eq_f rfl hc50 (w_iload_n rfl rfl (w_bipush rfl (bip_c rfl) k))) ?_
            refine J_ite (fun hc51 => ?_) (fun hc51 => ?_)
            · refine J.mono (fun k => s_icmp_eq_t rfl hc51 k) ?_
              exact J.mono (fun k => w_forget (wk_k (wk_k (wk_k (wk_k wk_0)))) k) (J_ac_readAct_j43 hd )
            · refine J.mono (fun k => s_icmp_eq_f rfl hc51 (w_iconst rfl (inR_c rfl) k)) ?_
              exact J_some (fun k => w_zreturn rfl rfl (Or.inl rfl) k)
    · refine J.mono (fun k => s_icmp_lt_f rfl hc2 (w_iconst rfl (inR_c rfl) k)) ?_
      exact J_some (fun k => w_zreturn rfl rfl (Or.inl rfl) k)
set_option maxRecDepth 20000 in
set_option maxHeartbeats 4000000 in
theorem cal_ac_readAct {Δ : DT} {d : Nat} (hd : 4 ≤ d) {x2 : Int}  {M : MEM} {p : Int × MEM} (h : ac_readAct x2 M = some p) (ho : okVs [vR 29, vR 1, vI x2]) (hM : okM M) : Cal Δ false m_ac_readAct d [vR 29, vR 1, vI x2] (NG, S0, M) (some p.1) (NG, S0, p.2) 0 0 := by
  obtain ⟨d, rfl⟩ : ∃ e, d = e + 1 := ⟨d - 1, by omega⟩
  exact cal_of g_ac_readAct p_ac_readAct (fun v hv => by simp only [List.mem_cons, List.not_mem_nil, or_false] at hv; rcases hv with rfl | rfl | rfl <;> first | exact Or.inl ⟨_, rfl⟩ | exact Or.inr ⟨_, rfl⟩) ho hM (Nat.le_of_ble_eq_true rfl) (fun Γ _ k => J_ac_readAct hd  _ h k)
abbrev HD_ac_read_b14 (Δ : DT) (Γ : FT) (d : Nat)  (s : MEM) : Prop := WAt Δ Γ false m_ac_read (d + 1) 14 [vR (29), vR (1)] [] (NG, S0, s) 0 0
abbrev X_ac_read_b14 (Δ : DT) (Γ : FT) (d : Nat)  : (Int × MEM) ⊕ (MEM) → Prop := Sum.elim (K_IM Δ Γ m_ac_read) (fun s => WAt Δ Γ false m_ac_read (d + 1) 67 [vN, vN] [] (NG, S0, s) 0 0)
set_option maxRecDepth 20000 in
set_option maxHeartbeats 4000000 in
theorem Jb_ac_read_b14 {Δ : DT} {Γ : FT} {d : Nat} (hd : 5 ≤ d + 1)    {M : MEM} : J (ac_read_b14   M) (Sum.elim (HD_ac_read_b14 Δ Γ d ) (X_ac_read_b14 Δ Γ d )) (WAt Δ Γ false m_ac_read (d + 1) 14 [vR (29), vR (1)] [] (NG, S0, M) 0 0) := by
  unfold ac_read_b14
  refine J.mono (fun k => w_aload_n rfl rfl (w_getI rfl (Nat.le_of_ble_eq_true rfl) S_29 rfl (w_bipush rfl (bip_c rfl) k))) ?_
  refine J_ite (fun hc6 => ?_) (fun hc6 => ?_)
  · refine J.mono (fun k => s_icmp_ge_t rfl hc6 k) ?_
    exact J_some (fun k => w_forget (wk_d (wk_d wk_0)) k)
  · refine J.mono (fun k => s_icmp_ge_f rfl hc6 (w_aload_n rfl rfl (w_aload_n rfl rfl (w_aload_n rfl rfl (w_getI rfl (Nat.le_of_ble_eq_true rfl) S_29 rfl k))))) ?_
    refine J_c (fun p8 e7 => ?_)
    refine J_hyp (fun k => c_vi2 rfl (fun ho hM => cal_ac_readAct (by omega)  e7 ho hM) v_ac_readAct (Nat.le_of_ble_eq_true rfl) S_29 rfl (Nat.le_of_ble_eq_true rfl) k) (fun hr9 hb10 => ?_)
    refine J_ite (fun hc11 => ?_) (fun hc11 => ?_)
    · refine J.mono (fun k => s_if_ne_f rfl hc11 (w_iconst rfl (inR_c rfl) k)) ?_
      exact J_some (fun k => w_zreturn rfl rfl (Or.inl rfl) k)
    · refine J.mono (fun k => s_if_ne_t rfl hc11 (w_aload_n rfl rfl (w_dup rfl (fun _ h => by cases h) (w_getI rfl (Nat.le_of_ble_eq_true rfl) S_29 rfl (w_iconst rfl (inR_c rfl) (w_iadd rfl k)))))) ?_
      refine J_b ?_
      refine J.mono (fun k => w_putI rfl (Nat.le_of_ble_eq_true rfl) S_29 rfl rfl (w_aload_n rfl rfl k)) ?_
      refine J_hyp (fun k => c_vi0 rfl (fun ho hM => cal_tx_isOver (by omega)   ho hM) v_tx_isOver (Nat.le_of_ble_eq_true rfl) S_1 rfl (Nat.le_of_ble_eq_true rfl) k) (fun hr14 hb15 => ?_)
      refine J_ite (fun hc16 => ?_) (fun hc16 => ?_)
      · refine J.mono (fun k => s_if_eq_t rfl hc16 (w_aload_n rfl rfl (w_bipush rfl (bip_c rfl) k))) ?_
        refine J_c (fun p18 e17 => ?_)
        refine J_hyp (fun k => c_vi1 rfl (fun ho hM => cal_tx_takes (by omega)  e17 ho hM) v_tx_takes (Nat.le_of_ble_eq_true rfl) S_1 rfl (Nat.le_of_ble_eq_true rfl) k) (fun hr19 hb20 => ?_)
        refine J_ite (fun hc21 => ?_) (fun hc21 => ?_)
        · refine J.mono (fun k => s_if_ne_f rfl hc21 (w_iconst rfl (inR_c rfl) k)) ?_
          exact J_some (fun k => w_zreturn rfl rfl (Or.inl rfl) k)
        · refine J.mono (fun k => s_if_ne_t rfl hc21 k) ?_
          exact J_some (fun k => w_forget (wk_k (wk_k wk_0)) k)
      · refine J.mono (fun k => s_if_eq_f rfl hc16 (w_iconst rfl (inR_c rfl) k)) ?_
        exact J_some (fun k => w_zreturn rfl rfl (Or.inr rfl) k)
set_option maxRecDepth 20000 in
set_option maxHeartbeats 4000000 in
theorem Jl_ac_read_b14 {Δ : DT} {Γ : FT} {d : Nat} (hd : 5 ≤ d + 1)    : ∀ (n : Nat) (s : MEM), J (iter (fun s => ac_read_b14   s) n s) (X_ac_read_b14 Δ Γ d ) (HD_ac_read_b14 Δ Γ d  s) := J_iter (fun s => Jb_ac_read_b14 hd )
set_option maxRecDepth 20000 in
set_option maxHeartbeats 4000000 in
theorem J_ac_read {Δ : DT} {Γ : FT} {d : Nat} (hd : 5 ≤ d + 1)   {M : MEM} : J (ac_read M) (K_IM Δ Γ m_ac_read) (WAt Δ Γ false m_ac_read (d + 1) 0 [vR (29), vR (1)] [] (NG, S0, M) 0 0) := by
  unfold ac_read
  refine J.mono (fun k => w_aload_n rfl rfl (w_iconst rfl (inR_c rfl) k)) ?_
  refine J_b ?_
  refine J.mono (fun k => w_putI rfl (Nat.le_of_ble_eq_true rfl) S_29 rfl rfl (w_aload_n rfl rfl k)) ?_
  refine J_hyp (fun k => c_vi0 rfl (fun ho hM => cal_tx_isOver (by omega)   ho hM) v_tx_isOver (Nat.le_of_ble_eq_true rfl) S_1 rfl (Nat.le_of_ble_eq_true rfl) k) (fun hr3 hb4 => ?_)
  refine J_ite (fun hc5 => ?_) (fun hc5 => ?_)
  · refine J.mono (fun k => s_if_eq_t rfl hc5 k) ?_
    refine J.mono (fun k => w_forget (wk_k (wk_k wk_0)) k) ?_
    refine J_loop (Jl_ac_read_b14 hd  _ _) (fun w22 => ?_)
    refine J_elim (fun r => J_some (fun k => k)) (fun w22 => ?_)
    refine J.mono (fun k => w_iconst rfl (inR_c rfl) k) ?_
    exact J_some (fun k => w_zreturn rfl rfl (Or.inl rfl) k)
  · refine J.mono (fun k => s_if_eq_f rfl hc5 (w_iconst rfl (inR_c rfl) k)) ?_
    exact J_some (fun k => w_zreturn rfl rfl (Or.inr rfl) k)
set_option maxRecDepth 20000 in
set_option maxHeartbeats 4000000 in
theorem cal_ac_read {Δ : DT} {d : Nat} (hd : 5 ≤ d)   {M : MEM} {p : Int × MEM} (h : ac_read M = some p) (ho : okVs [vR 29, vR 1]) (hM : okM M) : Cal Δ false m_ac_read d [vR 29, vR 1] (NG, S0, M) (some p.1) (NG, S0, p.2) 0 0 := by
  obtain ⟨d, rfl⟩ : ∃ e, d = e + 1 := ⟨d - 1, by omega⟩
  exact cal_of g_ac_read p_ac_read (fun v hv => by simp only [List.mem_cons, List.not_mem_nil, or_false] at hv; rcases hv with rfl | rfl <;> first | exact Or.inl ⟨_, rfl⟩ | exact Or.inr ⟨_, rfl⟩) ho hM (Nat.le_of_ble_eq_true rfl) (fun Γ _ k => J_ac_read hd  _ h k)
set_option maxRecDepth 20000 in
set_option maxHeartbeats 4000000 in
theorem J_dh_doAct {Δ : DT} {Γ : FT} {d : Nat} (hd : 5 ≤ d + 1) {x1 : Int}  {M : MEM} : J (dh_doAct x1 M) (K_IM Δ Γ m_dh_doAct) (WAt Δ Γ false m_dh_doAct (d + 1) 0 [vR (0), vI (x1), vN, vN] [] (NG, S0, M) 0 0) := by
  unfold dh_doAct
  refine J.mono (fun k => w_iload_n rfl rfl k) ?_
  refine J_ite (fun hc1 => ?_) (fun hc1 => ?_)
  · refine J.mono (fun k => s_if_lt_t rfl hc1 (w_iconst rfl (inR_c rfl) k)) ?_
    exact J_some (fun k => w_zreturn rfl rfl (Or.inl rfl) k)
  · refine J.mono (fun k => s_if_lt_f rfl hc1 (w_iload_n rfl rfl (w_aload_n rfl rfl (w_getR (r := 29) rfl (Nat.le_of_ble_eq_true rfl) S_0 rfl (w_getR (r := 30) rfl (Nat.le_of_ble_eq_true rfl) S_29 rfl (w_alen rfl A_30.1 (Nat.le_of_ble_eq_true rfl) A_30.2 (Nat.le_of_ble_eq_true rfl) k)))))) ?_
    refine J_ite (fun hc2 => ?_) (fun hc2 => ?_)
    · refine J.mono (fun k => s_icmp_lt_t rfl hc2 (w_aload_n rfl rfl (w_getR (r := 29) rfl (Nat.le_of_ble_eq_true rfl) S_0 rfl (w_getR (r := 31) rfl (Nat.le_of_ble_eq_true rfl) S_29 rfl (w_iload_n rfl rfl k))))) ?_
      refine J_chk (fun hi3 => ?_)
      refine J.mono (fun k => w_iald rfl A_31.1 A_31.2 hi3.1 hi3.2 (s_istore2 rfl (Nat.le_of_ble_eq_true rfl) (w_aload_n rfl rfl (w_getR (r := 29) rfl (Nat.le_of_ble_eq_true rfl) S_0 rfl (w_getR (r := 33) rfl (Nat.le_of_ble_eq_true rfl) S_29 rfl (w_iload_n rfl rfl k)))))) ?_
      refine J_chk (fun hi4 => ?_)
      refine J.mono (fun k => w_iald rfl A_33.1 A_33.2 hi4.1 hi4.2 (s_istore3 rfl (Nat.le_of_ble_eq_true rfl) (w_aload_n rfl rfl (w_getR (r := 29) rfl (Nat.le_of_ble_eq_true rfl) S_0 rfl (w_getR (r := 30) rfl (Nat.le_of_ble_eq_true rfl) S_29 rfl (w_iload_n rfl rfl k)))))) ?_
      refine J_chk (fun hi5 => ?_)
      refine J.mono (fun k => w_iald rfl A_30.1 A_30.2 hi5.1 hi5.2 k) ?_
      refine J_ite (fun hk6 => ?_) (fun hk6 => ?_)
      · refine J.mono (fun k => w_lookup (off := 49) (tgt := 96) rfl (by decide) (by rw [hk6] <;> rfl) (by decide) (w_aload_n rfl rfl (w_iload_n rfl rfl (w_aload_n rfl rfl (w_getR (r := 3) rfl (Nat.le_of_ble_eq_true rfl) S_0 rfl (w_getI rfl (sc_S is_sc_3).1 (sc_S is_sc_3).2 rfl (w_aload_n rfl rfl (w_getR (r := 3) rfl (Nat.le_of_ble_eq_true rfl) S_0 rfl (w_getI rfl (sc_S is_sc_3).1 (sc_S is_sc_3).2 rfl (w_iload_n rfl rfl (w_iadd rfl (w_iconst rfl (inR_c rfl) (w_isub rfl (w_aload_n rfl rfl (w_getR (r := 29) rfl (Nat.le_of_ble_eq_true rfl) S_0 rfl (w_getR (r := 32) rfl (Nat.le_of_ble_eq_true rfl) S_29 rfl (w_iload_n rfl rfl k))))))))))))))))) ?_
        refine J_chk (fun hi7 => ?_)
        refine J.mono (fun k => w_iald rfl A_32.1 A_32.2 hi7.1 hi7.2 k) ?_
        refine J_c (fun p9 e8 => ?_)
        refine J_hyp (fun k => c_vi4 rfl (fun ho hM => cal_dh_carrot (by omega)  e8 ho hM) v_dh_carrot (Nat.le_of_ble_eq_true rfl) S_0 rfl (Nat.le_of_ble_eq_true rfl) k) (fun hr10 hb11 => ?_)
        refine J_ite (fun hc12 => ?_) (fun hc12 => ?_)
        · refine J.mono (fun k => s_if_lt_t rfl hc12 (w_iconst rfl (inR_c rfl) k)) ?_
          exact J_some (fun k => w_zreturn rfl rfl (Or.inl rfl) k)
        · refine J.mono (fun k => s_if_lt_f rfl hc12 (w_iconst rfl (inR_c rfl) (w_goto rfl k))) ?_
          exact J_some (fun k => w_zreturn rfl rfl (Or.inr rfl) k)
      · refine J_ite (fun hk13 => ?_) (fun hk13 => ?_)
        · refine J.mono (fun k => w_lookup (off := 33) (tgt := 80) rfl (by decide) (by rw [hk13] <;> rfl) (by decide) (w_iload_n rfl rfl (w_sipush rfl (sip_c rfl) k))) ?_
          refine J_ite (fun hc14 => ?_) (fun hc14 => ?_)
          · refine J.mono (fun k => s_icmp_le_t rfl hc14 (w_aload_n rfl rfl (w_iload_n rfl rfl k))) ?_
            refine J_c (fun M16 e15 => ?_)
            refine J.mono (fun k => c_vv1 rfl (fun ho hM => cal_dh_passMany (by omega)  e15 ho hM) v_dh_passMany (Nat.le_of_ble_eq_true rfl) S_0 rfl (Nat.le_of_ble_eq_true rfl) (w_iconst rfl (inR_c rfl) k)) ?_
            exact J_some (fun k => w_zreturn rfl rfl (Or.inr rfl) k)
          · refine J.mono (fun k => s_icmp_le_f rfl hc14 (w_iconst rfl (inR_c rfl) k)) ?_
            exact J_some (fun k => w_zreturn rfl rfl (Or.inl rfl) k)
        · refine J_ite (fun hk17 => ?_) (fun hk17 => ?_)
          · refine J.mono (fun k => w_lookup (off := 90) (tgt := 137) rfl (by decide) (by rw [hk17] <;> rfl) (by decide) (w_aload_n rfl rfl (w_iload_n rfl rfl (w_aload_n rfl rfl (w_getR (r := 29) rfl (Nat.le_of_ble_eq_true rfl) S_0 rfl (w_getR (r := 32) rfl (Nat.le_of_ble_eq_true rfl) S_29 rfl (w_iload_n rfl rfl k))))))) ?_
            refine J_chk (fun hi18 => ?_)
            refine J.mono (fun k => w_iald rfl A_32.1 A_32.2 hi18.1 hi18.2 (w_iload_n rfl rfl k)) ?_
            refine J_c (fun p20 e19 => ?_)
            refine J_hyp (fun k => c_vi3 rfl (fun ho hM => cal_dh_sow (by omega)  e19 ho hM) v_dh_sow (Nat.le_of_ble_eq_true rfl) S_0 rfl (Nat.le_of_ble_eq_true rfl) k) (fun hr21 hb22 => ?_)
            refine J_ite (fun hc23 => ?_) (fun hc23 => ?_)
            · refine J.mono (fun k => s_if_lt_t rfl hc23 (w_iconst rfl (inR_c rfl) k)) ?_
              exact J_some (fun k => w_zreturn rfl rfl (Or.inl rfl) k)
            · refine J.mono (fun k => s_if_lt_f rfl hc23 (w_iconst rfl (inR_c rfl) (w_goto rfl k))) ?_
              exact J_some (fun k => w_zreturn rfl rfl (Or.inr rfl) k)
          · refine J.mono (fun k => w_lookDef (keys := [(99), (109), (115)]) (tgt := 161) rfl (by decide) (by simp only [nokey]; exact ⟨hk6, hk13, hk17, trivial⟩) (by decide) (by decide) (w_aload_n rfl rfl (w_iload_n rfl rfl (w_iload_n rfl rfl k)))) ?_
            refine J_c (fun p25 e24 => ?_)
            refine J_hyp (fun k => c_vi2 rfl (fun ho hM => cal_dh_setHunger (by omega)  e24 ho hM) v_dh_setHunger (Nat.le_of_ble_eq_true rfl) S_0 rfl (Nat.le_of_ble_eq_true rfl) k) (fun hr26 hb27 => ?_)
            refine J_ite (fun hc28 => ?_) (fun hc28 => ?_)
            · refine J.mono (fun k => s_if_lt_t rfl hc28 (w_iconst rfl (inR_c rfl) k)) ?_
              exact J_some (fun k => w_zreturn rfl rfl (Or.inl rfl) k)
            · refine J.mono (fun k => s_if_lt_f rfl hc28 (w_iconst rfl (inR_c rfl) (w_goto rfl k))) ?_
              exact J_some (fun k => w_zreturn rfl rfl (Or.inr rfl) k)
    · refine J.mono (fun k => s_icmp_lt_f rfl hc2 (w_iconst rfl (inR_c rfl) k)) ?_
      exact J_some (fun k => w_zreturn rfl rfl (Or.inl rfl) k)
set_option maxRecDepth 20000 in
set_option maxHeartbeats 4000000 in
theorem cal_dh_doAct {Δ : DT} {d : Nat} (hd : 5 ≤ d) {x1 : Int}  {M : MEM} {p : Int × MEM} (h : dh_doAct x1 M = some p) (ho : okVs [vR 0, vI x1]) (hM : okM M) : Cal Δ false m_dh_doAct d [vR 0, vI x1] (NG, S0, M) (some p.1) (NG, S0, p.2) 0 0 := by
  obtain ⟨d, rfl⟩ : ∃ e, d = e + 1 := ⟨d - 1, by omega⟩
  exact cal_of g_dh_doAct p_dh_doAct (fun v hv => by simp only [List.mem_cons, List.not_mem_nil, or_false] at hv; rcases hv with rfl | rfl <;> first | exact Or.inl ⟨_, rfl⟩ | exact Or.inr ⟨_, rfl⟩) ho hM (Nat.le_of_ble_eq_true rfl) (fun Γ _ k => J_dh_doAct hd  _ h k)
abbrev HD_dh_day_b65 (Δ : DT) (Γ : FT) (d : Nat) (x3 : Int) (s : Int × MEM) : Prop := WAt Δ Γ false m_dh_day (d + 1) 65 [vR (0), vN, vN, vI (x3), vI (s.1)] [] (NG, S0, s.2) 0 0
abbrev X_dh_day_b65 (Δ : DT) (Γ : FT) (d : Nat) (x3 : Int) (s : Int × MEM) : Prop := WAt Δ Γ false m_dh_day (d + 1) 92 [vR (0), vN, vN, vI (x3), vI (s.1)] [] (NG, S0, s.2) 0 0
set_option maxRecDepth 20000 in
set_option maxHeartbeats 4000000 in
theorem Jb_dh_day_b65 {Δ : DT} {Γ : FT} {d : Nat} (hd : 6 ≤ d + 1) {x3 : Int}  {x4 : Int} {M : MEM} : J (dh_day_b65 x3 x4 M) (Sum.elim (HD_dh_day_b65 Δ Γ d x3) (X_dh_day_b65 Δ Γ d x3)) (WAt Δ Γ false m_dh_day (d + 1) 65 [vR (0), vN, vN, vI (x3), vI (x4)] [] (NG, S0, M) 0 0) := by
  unfold dh_day_b65
  refine J.mono (fun k => w_iload rfl rfl (w_aload_n rfl rfl (w_getR (r := 29) rfl (Nat.le_of_ble_eq_true rfl) S_0 rfl (w_getI rfl (Nat.le_of_ble_eq_true rfl) S_29 rfl k)))) ?_
  refine J_ite (fun hc19 => ?_) (fun hc19 => ?_)
  · refine J.mono (fun k => s_icmp_ge_t rfl hc19 k) ?_
    exact J_some (fun k => w_forget (wk_k (wk_d (wk_d (wk_k (wk_k wk_0))))) k)
  · refine J.mono (fun k => s_icmp_ge_f rfl hc19 (w_aload_n rfl rfl (w_iload rfl rfl k))) ?_
    refine J_c (fun p21 e20 => ?_)
    refine J_hyp (fun k => c_vi1 rfl (fun ho hM => cal_dh_doAct (by omega)  e20 ho hM) v_dh_doAct (Nat.le_of_ble_eq_true rfl) S_0 rfl (Nat.le_of_ble_eq_true rfl) k) (fun hr22 hb23 => ?_)
    refine J_ite (fun hc24 => ?_) (fun hc24 => ?_)
    · refine J.mono (fun k => s_if_eq_t rfl hc24 k) ?_
      exact J_some (fun k => w_forget (wk_k (wk_d (wk_d (wk_k (wk_k wk_0))))) k)
    · refine J.mono (fun k => s_if_eq_f rfl hc24 (s_iinc4 rfl (Nat.le_of_ble_eq_true rfl) (w_goto rfl k))) ?_
      exact J_some (fun k => w_forget (wk_k (wk_d (wk_d (wk_k (wk_k wk_0))))) k)
set_option maxRecDepth 20000 in
set_option maxHeartbeats 4000000 in
theorem Jl_dh_day_b65 {Δ : DT} {Γ : FT} {d : Nat} (hd : 6 ≤ d + 1) {x3 : Int}   : ∀ (n : Nat) (s : Int × MEM), J (iter (fun s => dh_day_b65 x3 s.1 s.2) n s) (X_dh_day_b65 Δ Γ d x3) (HD_dh_day_b65 Δ Γ d x3 s) := J_iter (fun s => Jb_dh_day_b65 hd )
set_option maxRecDepth 20000 in
set_option maxHeartbeats 4000000 in
theorem J_dh_day_j126 {Δ : DT} {Γ : FT} {d : Nat} (hd : 6 ≤ d + 1) {x3 : Int} {x4 : Int} {s1 : Int}  {M : MEM} : J (dh_day_j126 x3 x4 s1 M) (K_IM Δ Γ m_dh_day) (WAt Δ Γ false m_dh_day (d + 1) 126 [vR (0), vN, vN, vI (x3), vI (x4)] [vI (s1), vR (0)] (NG, S0, M) 0 0) := by
  unfold dh_day_j126
  refine J_c (fun M31 e30 => ?_)
  refine J.mono (fun k => c_vv1 rfl (fun ho hM => cal_dh_tell (by omega)  e30 ho hM) v_dh_tell (Nat.le_of_ble_eq_true rfl) S_0 rfl (Nat.le_of_ble_eq_true rfl) (w_aload_n rfl rfl (w_aload_n rfl rfl (w_getR (r := 3) rfl (Nat.le_of_ble_eq_true rfl) S_0 rfl k)))) ?_
  refine J_c (fun r33 e32 => ?_)
  refine J_hyp (fun k => c_vi0 rfl (fun ho hM => cal_sc_allStrokes (by omega) is_sc_3 e32 ho hM) v_sc_allStrokes (sc_S is_sc_3).1 (sc_S is_sc_3).2 rfl (Nat.le_of_ble_eq_true rfl) k) (fun hr34 hb35 => ?_)
  refine J.mono (fun k => w_iload_n rfl rfl (w_isub rfl k)) ?_
  refine J_c (fun M37 e36 => ?_)
  refine J.mono (fun k => c_vv1 rfl (fun ho hM => cal_dh_tell (by omega)  e36 ho hM) v_dh_tell (Nat.le_of_ble_eq_true rfl) S_0 rfl (Nat.le_of_ble_eq_true rfl) (w_iload rfl rfl k)) ?_
  exact J_some (fun k => w_ireturn rfl rfl k)
set_option maxRecDepth 20000 in
set_option maxHeartbeats 4000000 in
theorem J_dh_day_j104 {Δ : DT} {Γ : FT} {d : Nat} (hd : 6 ≤ d + 1) {x3 : Int} {x4 : Int}  {M : MEM} : J (dh_day_j104 x3 x4 M) (K_IM Δ Γ m_dh_day) (WAt Δ Γ false m_dh_day (d + 1) 104 [vR (0), vN, vN, vI (x3), vI (x4)] [] (NG, S0, M) 0 0) := by
  unfold dh_day_j104
  refine J.mono (fun k => w_aload_n rfl rfl k) ?_
  refine J_c (fun M28 e27 => ?_)
  refine J.mono (fun k => c_vv0 rfl (fun ho hM => cal_dh_newRow (by omega)  e27 ho hM) v_dh_newRow (Nat.le_of_ble_eq_true rfl) S_0 rfl (Nat.le_of_ble_eq_true rfl) (w_aload_n rfl rfl (w_iload rfl rfl (w_aload_n rfl rfl (w_getR (r := 29) rfl (Nat.le_of_ble_eq_true rfl) S_0 rfl (w_getI rfl (Nat.le_of_ble_eq_true rfl) S_29 rfl k)))))) ?_
  refine J_ite (fun hc29 => ?_) (fun hc29 => ?_)
  · refine J.mono (fun k => s_icmp_ge_t rfl hc29 (w_iconst rfl (inR_c rfl) k)) ?_
    exact J.mono (fun k => w_forget (wk_k (wk_d (wk_d (wk_k (wk_k wk_0))))) k) (J_dh_day_j126 hd )
  · refine J.mono (fun k => s_icmp_ge_f rfl hc29 (w_iconst rfl (inR_c rfl) (w_goto rfl k))) ?_
    exact J.mono (fun k => w_forget (wk_k (wk_d (wk_d (wk_k (wk_k wk_0))))) k) (J_dh_day_j126 hd )
set_option maxRecDepth 20000 in
set_option maxHeartbeats 4000000 in
theorem J_dh_day_j92 {Δ : DT} {Γ : FT} {d : Nat} (hd : 6 ≤ d + 1) {x3 : Int} {x4 : Int}  {M : MEM} : J (dh_day_j92 x3 x4 M) (K_IM Δ Γ m_dh_day) (WAt Δ Γ false m_dh_day (d + 1) 92 [vR (0), vN, vN, vI (x3), vI (x4)] [] (NG, S0, M) 0 0) := by
  unfold dh_day_j92
  refine J.mono (fun k => w_iload rfl rfl k) ?_
  refine J_ite (fun hc26 => ?_) (fun hc26 => ?_)
  · refine J.mono (fun k => s_if_le_t rfl hc26 k) ?_
    exact J.mono (fun k => w_forget (wk_k (wk_d (wk_d (wk_k (wk_k wk_0))))) k) (J_dh_day_j104 hd )
  · refine J.mono (fun k => s_if_le_f rfl hc26 (w_aload_n rfl rfl (w_getR (r := 45) rfl (Nat.le_of_ble_eq_true rfl) S_0 rfl k))) ?_
    refine J_c (fun M39 e38 => ?_)
    refine J.mono (fun k => c_vv0 rfl (fun ho hM => cal_hi_commit (by omega)  e38 ho hM) v_hi_commit (Nat.le_of_ble_eq_true rfl) S_45 rfl (Nat.le_of_ble_eq_true rfl) k) ?_
    exact J.mono (fun k => w_forget (wk_k (wk_d (wk_d (wk_k (wk_k wk_0))))) k) (J_dh_day_j104 hd )
set_option maxRecDepth 20000 in
set_option maxHeartbeats 4000000 in
theorem J_dh_day {Δ : DT} {Γ : FT} {d : Nat} (hd : 6 ≤ d + 1)   {M : MEM} : J (dh_day M) (K_IM Δ Γ m_dh_day) (WAt Δ Γ false m_dh_day (d + 1) 0 [vR (0), vN, vN, vN, vN] [] (NG, S0, M) 0 0) := by
  unfold dh_day
  refine J.mono (fun k => w_aload_n rfl rfl (w_getR (r := 1) rfl (Nat.le_of_ble_eq_true rfl) S_0 rfl (w_bipush rfl (bip_c rfl) k))) ?_
  refine J_c (fun M2 e1 => ?_)
  refine J.mono (fun k => c_vv1 rfl (fun ho hM => cal_tx_begin (by omega)  e1 ho hM) v_tx_begin (Nat.le_of_ble_eq_true rfl) S_1 rfl (Nat.le_of_ble_eq_true rfl) (w_aload_n rfl rfl (w_getR (r := 29) rfl (Nat.le_of_ble_eq_true rfl) S_0 rfl (w_aload_n rfl rfl (w_getR (r := 1) rfl (Nat.le_of_ble_eq_true rfl) S_0 rfl k))))) ?_
  refine J_c (fun p4 e3 => ?_)
  refine J_hyp (fun k => c_vi1 rfl (fun ho hM => cal_ac_read (by omega)  e3 ho hM) v_ac_read (Nat.le_of_ble_eq_true rfl) S_29 rfl (Nat.le_of_ble_eq_true rfl) k) (fun hr5 hb6 => ?_)
  refine J.mono (fun k => s_istore1 rfl (Nat.le_of_ble_eq_true rfl) (w_aload_n rfl rfl (w_getR (r := 1) rfl (Nat.le_of_ble_eq_true rfl) S_0 rfl k))) ?_
  refine J_hyp (fun k => c_vi0 rfl (fun ho hM => cal_tx_wrong (by omega)   ho hM) v_tx_wrong (Nat.le_of_ble_eq_true rfl) S_1 rfl (Nat.le_of_ble_eq_true rfl) k) (fun hr8 hb9 => ?_)
  refine J.mono (fun k => s_istore2 rfl (Nat.le_of_ble_eq_true rfl) (w_aload_n rfl rfl (w_getR (r := 1) rfl (Nat.le_of_ble_eq_true rfl) S_0 rfl k))) ?_
  refine J_c (fun M11 e10 => ?_)
  refine J.mono (fun k => c_vv0 rfl (fun ho hM => cal_tx_empty (by omega)  e10 ho hM) v_tx_empty (Nat.le_of_ble_eq_true rfl) S_1 rfl (Nat.le_of_ble_eq_true rfl) (w_iload_n rfl rfl k)) ?_
  refine J_ite (fun hc12 => ?_) (fun hc12 => ?_)
  · refine J.mono (fun k => s_if_ne_f rfl hc12 (w_iload_n rfl rfl k)) ?_
    exact J_some (fun k => w_ireturn rfl rfl k)
  · refine J.mono (fun k => s_if_ne_t rfl hc12 (w_aload_n rfl rfl (w_getR (r := 3) rfl (Nat.le_of_ble_eq_true rfl) S_0 rfl k))) ?_
    refine J_c (fun r14 e13 => ?_)
    refine J_hyp (fun k => c_vi0 rfl (fun ho hM => cal_sc_allStrokes (by omega) is_sc_3 e13 ho hM) v_sc_allStrokes (sc_S is_sc_3).1 (sc_S is_sc_3).2 rfl (Nat.le_of_ble_eq_true rfl) k) (fun hr15 hb16 => ?_)
    refine J.mono (fun k => s_istore3 rfl (Nat.le_of_ble_eq_true rfl) (w_aload_n rfl rfl (w_getR (r := 45) rfl (Nat.le_of_ble_eq_true rfl) S_0 rfl (w_aload_n rfl rfl (w_getR (r := 3) rfl (Nat.le_of_ble_eq_true rfl) S_0 rfl (w_iconst rfl (inR_c rfl) k)))))) ?_
    refine J_c (fun M18 e17 => ?_)
    refine J.mono (fun k => c_vv2 rfl (fun ho hM => cal_hi_prepare (by omega) is_sc_3 e17 ho hM) v_hi_prepare (Nat.le_of_ble_eq_true rfl) S_45 rfl (Nat.le_of_ble_eq_true rfl) (w_iconst rfl (inR_c rfl) (s_istore4 rfl (Nat.le_of_ble_eq_true rfl) k))) ?_
    refine J.mono (fun k => w_forget (wk_k (wk_d (wk_d (wk_k (wk_k wk_0))))) k) ?_
    refine J_loop (Jl_dh_day_b65 hd  _ _) (fun w25 => ?_)
    exact J.mono (fun k => w_forget (wk_k (wk_d (wk_d (wk_k (wk_k wk_0))))) k) (J_dh_day_j92 hd )
set_option maxRecDepth 20000 in
set_option maxHeartbeats 4000000 in
theorem cal_dh_day {Δ : DT} {d : Nat} (hd : 6 ≤ d)   {M : MEM} {p : Int × MEM} (h : dh_day M = some p) (ho : okVs [vR 0]) (hM : okM M) : Cal Δ false m_dh_day d [vR 0] (NG, S0, M) (some p.1) (NG, S0, p.2) 0 0 := by
  obtain ⟨d, rfl⟩ : ∃ e, d = e + 1 := ⟨d - 1, by omega⟩
  exact cal_of g_dh_day p_dh_day (fun v hv => by simp only [List.mem_cons, List.not_mem_nil, or_false] at hv; rcases hv with rfl <;> first | exact Or.inl ⟨_, rfl⟩ | exact Or.inr ⟨_, rfl⟩) ho hM (Nat.le_of_ble_eq_true rfl) (fun Γ _ k => J_dh_day hd  _ h k)
set_option maxRecDepth 20000 in
set_option maxHeartbeats 4000000 in
theorem J_hi_takeBack {Δ : DT} {Γ : FT} {d : Nat} (hd : 4 ≤ d + 1) {a1 : Nat} (h_a1 : is_sc a1) {M : MEM} : J (hi_takeBack a1 M) (K_IM Δ Γ m_hi_takeBack) (WAt Δ Γ false m_hi_takeBack (d + 1) 0 [vR (45), vR (a1), vN] [] (NG, S0, M) 0 0) := by
  unfold hi_takeBack
  refine J.mono (fun k => w_aload_n rfl rfl (w_getI rfl (Nat.le_of_ble_eq_true rfl) S_45 rfl (w_iconst rfl (inR_c rfl) k))) ?_
  refine J_ite (fun hc1 => ?_) (fun hc1 => ?_)
  · refine J.mono (fun k => s_icmp_ge_t rfl hc1 (w_aload_n rfl rfl (w_dup rfl (fun _ h => by cases h) (w_getI rfl (Nat.le_of_ble_eq_true rfl) S_45 rfl (w_iconst rfl (inR_c rfl) (w_isub rfl k)))))) ?_
    refine J_b ?_
    refine J.mono (fun k => w_putI rfl (Nat.le_of_ble_eq_true rfl) S_45 rfl rfl (w_aload_n rfl rfl (w_getR (r := 46) rfl (Nat.le_of_ble_eq_true rfl) S_45 rfl (w_aload_n rfl rfl (w_getI rfl (Nat.le_of_ble_eq_true rfl) S_45 rfl (w_aload_n rfl rfl (w_getI rfl (Nat.le_of_ble_eq_true rfl) S_45 rfl (w_iadd rfl (w_aload_n rfl rfl (w_getR (r := 46) rfl (Nat.le_of_ble_eq_true rfl) S_45 rfl (w_alenq rfl (Nat.le_of_ble_eq_true rfl) (Or.inr rfl) Q_46 (Nat.le_of_ble_eq_true rfl) k))))))))))) ?_
    refine J_c (fun r4 e3 => ?_)
    refine J_hyp (fun k => c_si2 rfl rfl (fun ho hM => cal_jm_floorMod (by omega)  e3 ho hM) v_jm_floorMod (Nat.le_of_ble_eq_true rfl) k) (fun hr5 hb6 => ?_)
    refine J_chk (fun hi7 => ?_)
    refine J.mono (fun k => w_aald rfl (Nat.le_of_ble_eq_true rfl) (Or.inr rfl) Q_46 hi7.1 (q46_get hi7.1 hi7.2) (s_astore2 rfl (Nat.le_of_ble_eq_true rfl) (w_aload_n rfl rfl (w_aload_n rfl rfl k)))) ?_
    refine J_c (fun M9 e8 => ?_)
    refine J.mono (fun k => c_vv1 rfl (fun ho hM => cal_sc_copyWalk (by omega) h_a1 (q46_is hi7.1 hi7.2) e8 ho hM) v_sc_copyWalk (sc_S h_a1).1 (sc_S h_a1).2 rfl (Nat.le_of_ble_eq_true rfl) (w_aload_n rfl rfl (w_getI rfl (sc_S (q46_is hi7.1 hi7.2)).1 (sc_S (q46_is hi7.1 hi7.2)).2 rfl k))) ?_
    refine J_ite (fun hc10 => ?_) (fun hc10 => ?_)
    · refine J.mono (fun k => s_if_eq_t rfl hc10 (w_iconst rfl (inR_c rfl) k)) ?_
      exact J_some (fun k => w_zreturn rfl rfl (Or.inr rfl) k)
    · refine J.mono (fun k => s_if_eq_f rfl hc10 (w_aload_n rfl rfl (w_getR (r := (a1 + 2)) rfl (sc_S h_a1).1 (sc_S h_a1).2 rfl (w_aload_n rfl rfl (w_getR (r := ((47 + 16 * (r4).toNat) + 2)) rfl (sc_S (q46_is hi7.1 hi7.2)).1 (sc_S (q46_is hi7.1 hi7.2)).2 rfl k))))) ?_
      refine J_c (fun M12 e11 => ?_)
      refine J.mono (fun k => c_vv1 rfl (fun ho hM => cal_ca_copy (by omega) (sc_f1 h_a1) (sc_f1 (q46_is hi7.1 hi7.2)) e11 ho hM) v_ca_copy (ca_S (sc_f1 h_a1)).1 (ca_S (sc_f1 h_a1)).2 rfl (Nat.le_of_ble_eq_true rfl) (w_iconst rfl (inR_c rfl) k)) ?_
      exact J_some (fun k => w_zreturn rfl rfl (Or.inr rfl) k)
  · refine J.mono (fun k => s_icmp_ge_f rfl hc1 (w_iconst rfl (inR_c rfl) k)) ?_
    exact J_some (fun k => w_zreturn rfl rfl (Or.inl rfl) k)
set_option maxRecDepth 20000 in
set_option maxHeartbeats 4000000 in
theorem cal_hi_takeBack {Δ : DT} {d : Nat} (hd : 4 ≤ d) {a1 : Nat} (h_a1 : is_sc a1) {M : MEM} {p : Int × MEM} (h : hi_takeBack a1 M = some p) (ho : okVs [vR 45, vR a1]) (hM : okM M) : Cal Δ false m_hi_takeBack d [vR 45, vR a1] (NG, S0, M) (some p.1) (NG, S0, p.2) 0 0 := by
  obtain ⟨d, rfl⟩ : ∃ e, d = e + 1 := ⟨d - 1, by omega⟩
  exact cal_of g_hi_takeBack p_hi_takeBack (fun v hv => by simp only [List.mem_cons, List.not_mem_nil, or_false] at hv; rcases hv with rfl | rfl <;> first | exact Or.inl ⟨_, rfl⟩ | exact Or.inr ⟨_, rfl⟩) ho hM (Nat.le_of_ble_eq_true rfl) (fun Γ _ k => J_hi_takeBack hd h_a1 _ h k)
set_option maxRecDepth 20000 in
set_option maxHeartbeats 4000000 in
theorem J_dh_undo {Δ : DT} {Γ : FT} {d : Nat} (hd : 5 ≤ d + 1)   {M : MEM} : J (dh_undo M) (K_IM Δ Γ m_dh_undo) (WAt Δ Γ false m_dh_undo (d + 1) 0 [vR (0)] [] (NG, S0, M) 0 0) := by
  unfold dh_undo
  refine J.mono (fun k => w_aload_n rfl rfl (w_getR (r := 45) rfl (Nat.le_of_ble_eq_true rfl) S_0 rfl (w_aload_n rfl rfl (w_getR (r := 3) rfl (Nat.le_of_ble_eq_true rfl) S_0 rfl k)))) ?_
  refine J_c (fun p2 e1 => ?_)
  refine J_hyp (fun k => c_vi1 rfl (fun ho hM => cal_hi_takeBack (by omega) is_sc_3 e1 ho hM) v_hi_takeBack (Nat.le_of_ble_eq_true rfl) S_45 rfl (Nat.le_of_ble_eq_true rfl) k) (fun hr3 hb4 => ?_)
  refine J_ite (fun hc5 => ?_) (fun hc5 => ?_)
  · refine J.mono (fun k => s_if_eq_t rfl hc5 (w_iconst rfl (inR_c rfl) k)) ?_
    exact J_some (fun k => w_ireturn rfl rfl k)
  · refine J.mono (fun k => s_if_eq_f rfl hc5 (w_aload_n rfl rfl (w_getR (r := 45) rfl (Nat.le_of_ble_eq_true rfl) S_0 rfl (w_getI rfl (Nat.le_of_ble_eq_true rfl) S_45 rfl (w_goto rfl k))))) ?_
    exact J_some (fun k => w_ireturn rfl rfl k)
set_option maxRecDepth 20000 in
set_option maxHeartbeats 4000000 in
theorem cal_dh_undo {Δ : DT} {d : Nat} (hd : 5 ≤ d)   {M : MEM} {p : Int × MEM} (h : dh_undo M = some p) (ho : okVs [vR 0]) (hM : okM M) : Cal Δ false m_dh_undo d [vR 0] (NG, S0, M) (some p.1) (NG, S0, p.2) 0 0 := by
  obtain ⟨d, rfl⟩ : ∃ e, d = e + 1 := ⟨d - 1, by omega⟩
  exact cal_of g_dh_undo p_dh_undo (fun v hv => by simp only [List.mem_cons, List.not_mem_nil, or_false] at hv; rcases hv with rfl <;> first | exact Or.inl ⟨_, rfl⟩ | exact Or.inr ⟨_, rfl⟩) ho hM (Nat.le_of_ble_eq_true rfl) (fun Γ _ k => J_dh_undo hd  _ h k)
set_option maxRecDepth 20000 in
set_option maxHeartbeats 4000000 in
theorem J_be_minuteOf {Δ : DT} {Γ : FT} {d : Nat} (hd : 1 ≤ d + 1) {a0 : Nat} {x1 : Int} (h_a0 : is_be a0) {M : MEM} : J (be_minuteOf a0 x1 M) (K_I Δ Γ m_be_minuteOf M) (WAt Δ Γ false m_be_minuteOf (d + 1) 0 [vR (a0), vI (x1)] [] (NG, S0, M) 0 0) := by
  unfold be_minuteOf
  refine J.mono (fun k => w_iload_n rfl rfl (w_aload_n rfl rfl (w_getI rfl (be_S h_a0).1 (be_S h_a0).2 rfl k))) ?_
  refine J_ite (fun hc1 => ?_) (fun hc1 => ?_)
  · refine J.mono (fun k => s_icmp_le_t rfl hc1 (w_iload_n rfl rfl (w_iconst rfl (inR_c rfl) k))) ?_
    refine J_ite (fun hc2 => ?_) (fun hc2 => ?_)
    · refine J.mono (fun k => s_icmp_lt_t rfl hc2 (w_bipush rfl (bip_c rfl) k)) ?_
      exact J_some (fun k => w_ireturn rfl rfl k)
    · refine J.mono (fun k => s_icmp_lt_f rfl hc2 (w_iload_n rfl rfl (w_aload_n rfl rfl (w_getI rfl (be_S h_a0).1 (be_S h_a0).2 rfl (w_bipush rfl (bip_c rfl) (w_isub rfl k)))))) ?_
      refine J_ite (fun hc3 => ?_) (fun hc3 => ?_)
      · refine J.mono (fun k => s_icmp_gt_t rfl hc3 (w_aload_n rfl rfl (w_getR (r := (a0 + 2)) rfl (be_S h_a0).1 (be_S h_a0).2 rfl (w_iload_n rfl rfl (w_bipush rfl (bip_c rfl) k))))) ?_
        refine J_c (fun r5 e4 => ?_)
        refine J_hyp (fun k => c_si2 rfl rfl (fun ho hM => cal_jm_floorMod (by omega)  e4 ho hM) v_jm_floorMod (Nat.le_of_ble_eq_true rfl) k) (fun hr6 hb7 => ?_)
        refine J_chk (fun hi8 => ?_)
        refine J.mono (fun k => w_iald rfl (be_f1 h_a0).1 (be_f1 h_a0).2 hi8.1 hi8.2 k) ?_
        exact J_some (fun k => w_ireturn rfl rfl k)
      · refine J.mono (fun k => s_icmp_gt_f rfl hc3 (w_bipush rfl (bip_c rfl) k)) ?_
        exact J_some (fun k => w_ireturn rfl rfl k)
  · refine J.mono (fun k => s_icmp_le_f rfl hc1 (w_bipush rfl (bip_c rfl) k)) ?_
    exact J_some (fun k => w_ireturn rfl rfl k)
set_option maxRecDepth 20000 in
set_option maxHeartbeats 4000000 in
theorem cal_be_minuteOf {Δ : DT} {d : Nat} (hd : 1 ≤ d) {a0 : Nat} {x1 : Int} (h_a0 : is_be a0) {M : MEM} {r : Int} (h : be_minuteOf a0 x1 M = some r) (ho : okVs [vR a0, vI x1]) (hM : okM M) : Cal Δ false m_be_minuteOf d [vR a0, vI x1] (NG, S0, M) (some r) (NG, S0, M) 0 0 := by
  obtain ⟨d, rfl⟩ : ∃ e, d = e + 1 := ⟨d - 1, by omega⟩
  exact cal_of g_be_minuteOf p_be_minuteOf (fun v hv => by simp only [List.mem_cons, List.not_mem_nil, or_false] at hv; rcases hv with rfl | rfl <;> first | exact Or.inl ⟨_, rfl⟩ | exact Or.inr ⟨_, rfl⟩) ho hM (Nat.le_of_ble_eq_true rfl) (fun Γ _ k => J_be_minuteOf hd h_a0 _ h k)
set_option maxRecDepth 20000 in
set_option maxHeartbeats 4000000 in
theorem J_dh_struck {Δ : DT} {Γ : FT} {d : Nat} (hd : 2 ≤ d + 1) {x1 : Int} {x2 : Int}  {M : MEM} : J (dh_struck x1 x2 M) (K_I Δ Γ m_dh_struck M) (WAt Δ Γ false m_dh_struck (d + 1) 0 [vR (0), vI (x1), vI (x2)] [] (NG, S0, M) 0 0) := by
  unfold dh_struck
  refine J.mono (fun k => w_aload_n rfl rfl (w_iload_n rfl rfl k)) ?_
  refine J_hyp (fun k => c_vi1 rfl (fun ho hM => cal_dh_isDonkey (by omega)   ho hM) v_dh_isDonkey (Nat.le_of_ble_eq_true rfl) S_0 rfl (Nat.le_of_ble_eq_true rfl) k) (fun hr2 hb3 => ?_)
  refine J_ite (fun hc4 => ?_) (fun hc4 => ?_)
  · refine J.mono (fun k => s_if_eq_t rfl hc4 (w_iconst rfl (inR_c rfl) k)) ?_
    exact J_some (fun k => w_ireturn rfl rfl k)
  · refine J.mono (fun k => s_if_eq_f rfl hc4 (w_iload_n rfl rfl (w_iconst rfl (inR_c rfl) k))) ?_
    refine J_ite (fun hc5 => ?_) (fun hc5 => ?_)
    · refine J.mono (fun k => s_icmp_ge_t rfl hc5 (w_aload_n rfl rfl (w_getR (r := 3) rfl (Nat.le_of_ble_eq_true rfl) S_0 rfl (w_getR (r := 4) rfl (sc_S is_sc_3).1 (sc_S is_sc_3).2 rfl (w_iload_n rfl rfl k))))) ?_
      refine J_chk (fun hi6 => ?_)
      refine J.mono (fun k => w_aald rfl (scb_S is_sc_3).1 (Or.inl rfl) (scb_S is_sc_3).2 hi6.1 (scb_get hi6.1 hi6.2) (w_iload_n rfl rfl k)) ?_
      refine J_c (fun r8 e7 => ?_)
      refine J_hyp (fun k => c_vi1 rfl (fun ho hM => cal_be_minuteOf (by omega) (scb_is is_sc_3 hi6.1 hi6.2) e7 ho hM) v_be_minuteOf (be_S (scb_is is_sc_3 hi6.1 hi6.2)).1 (be_S (scb_is is_sc_3 hi6.1 hi6.2)).2 rfl (Nat.le_of_ble_eq_true rfl) k) (fun hr9 hb10 => ?_)
      exact J_some (fun k => w_ireturn rfl rfl k)
    · refine J.mono (fun k => s_icmp_ge_f rfl hc5 (w_iconst rfl (inR_c rfl) k)) ?_
      exact J_some (fun k => w_ireturn rfl rfl k)
set_option maxRecDepth 20000 in
set_option maxHeartbeats 4000000 in
theorem cal_dh_struck {Δ : DT} {d : Nat} (hd : 2 ≤ d) {x1 : Int} {x2 : Int}  {M : MEM} {r : Int} (h : dh_struck x1 x2 M = some r) (ho : okVs [vR 0, vI x1, vI x2]) (hM : okM M) : Cal Δ false m_dh_struck d [vR 0, vI x1, vI x2] (NG, S0, M) (some r) (NG, S0, M) 0 0 := by
  obtain ⟨d, rfl⟩ : ∃ e, d = e + 1 := ⟨d - 1, by omega⟩
  exact cal_of g_dh_struck p_dh_struck (fun v hv => by simp only [List.mem_cons, List.not_mem_nil, or_false] at hv; rcases hv with rfl | rfl | rfl <;> first | exact Or.inl ⟨_, rfl⟩ | exact Or.inr ⟨_, rfl⟩) ho hM (Nat.le_of_ble_eq_true rfl) (fun Γ _ k => J_dh_struck hd  _ h k)
set_option maxRecDepth 20000 in
set_option maxHeartbeats 4000000 in
theorem J_dh_took {Δ : DT} {Γ : FT} {d : Nat} (hd : 2 ≤ d + 1) {x1 : Int} {x2 : Int}  {M : MEM} : J (dh_took x1 x2 M) (K_I Δ Γ m_dh_took M) (WAt Δ Γ false m_dh_took (d + 1) 0 [vR (0), vI (x1), vI (x2), vN, vN, vN] [] (NG, S0, M) 0 0) := by
  unfold dh_took
  refine J.mono (fun k => w_aload_n rfl rfl (w_iload_n rfl rfl k)) ?_
  refine J_hyp (fun k => c_vi1 rfl (fun ho hM => cal_dh_isDonkey (by omega)   ho hM) v_dh_isDonkey (Nat.le_of_ble_eq_true rfl) S_0 rfl (Nat.le_of_ble_eq_true rfl) k) (fun hr2 hb3 => ?_)
  refine J_ite (fun hc4 => ?_) (fun hc4 => ?_)
  · refine J.mono (fun k => s_if_eq_t rfl hc4 (w_iconst rfl (inR_c rfl) k)) ?_
    exact J_some (fun k => w_ireturn rfl rfl k)
  · refine J.mono (fun k => s_if_eq_f rfl hc4 (w_iload_n rfl rfl (w_iconst rfl (inR_c rfl) k))) ?_
    refine J_ite (fun hc5 => ?_) (fun hc5 => ?_)
    · refine J.mono (fun k => s_icmp_ge_t rfl hc5 (w_aload_n rfl rfl (w_getR (r := 3) rfl (Nat.le_of_ble_eq_true rfl) S_0 rfl (w_getR (r := 4) rfl (sc_S is_sc_3).1 (sc_S is_sc_3).2 rfl (w_iload_n rfl rfl k))))) ?_
      refine J_chk (fun hi6 => ?_)
      refine J.mono (fun k => w_aald rfl (scb_S is_sc_3).1 (Or.inl rfl) (scb_S is_sc_3).2 hi6.1 (scb_get hi6.1 hi6.2) (s_astore3 rfl (Nat.le_of_ble_eq_true rfl) (w_aload_n rfl rfl (w_iload_n rfl rfl k)))) ?_
      refine J_c (fun r8 e7 => ?_)
      refine J_hyp (fun k => c_vi1 rfl (fun ho hM => cal_be_minuteOf (by omega) (scb_is is_sc_3 hi6.1 hi6.2) e7 ho hM) v_be_minuteOf (be_S (scb_is is_sc_3 hi6.1 hi6.2)).1 (be_S (scb_is is_sc_3 hi6.1 hi6.2)).2 rfl (Nat.le_of_ble_eq_true rfl) k) (fun hr9 hb10 => ?_)
      refine J.mono (fun k => s_istore4 rfl (Nat.le_of_ble_eq_true rfl) (w_iload rfl rfl k)) ?_
      refine J_ite (fun hc11 => ?_) (fun hc11 => ?_)
      · refine J.mono (fun k => s_if_ge_t rfl hc11 (w_aload_n rfl rfl (w_iload_n rfl rfl (w_iconst rfl (inR_c rfl) (w_iadd rfl k))))) ?_
        refine J_c (fun r13 e12 => ?_)
        refine J_hyp (fun k => c_vi1 rfl (fun ho hM => cal_be_minuteOf (by omega) (scb_is is_sc_3 hi6.1 hi6.2) e12 ho hM) v_be_minuteOf (be_S (scb_is is_sc_3 hi6.1 hi6.2)).1 (be_S (scb_is is_sc_3 hi6.1 hi6.2)).2 rfl (Nat.le_of_ble_eq_true rfl) k) (fun hr14 hb15 => ?_)
        refine J.mono (fun k => s_istore5 rfl (Nat.le_of_ble_eq_true rfl) (w_iload rfl rfl k)) ?_
        refine J_ite (fun hc16 => ?_) (fun hc16 => ?_)
        · refine J.mono (fun k => s_if_ge_t rfl hc16 (w_iload rfl rfl (w_iload rfl rfl (w_isub rfl k)))) ?_
          exact J_some (fun k => w_ireturn rfl rfl k)
        · refine J.mono (fun k => s_if_ge_f rfl hc16 (w_iload rfl rfl (w_goto rfl k))) ?_
          exact J_some (fun k => w_ireturn rfl rfl k)
      · refine J.mono (fun k => s_if_ge_f rfl hc11 (w_iload rfl rfl k)) ?_
        exact J_some (fun k => w_ireturn rfl rfl k)
    · refine J.mono (fun k => s_icmp_ge_f rfl hc5 (w_iconst rfl (inR_c rfl) k)) ?_
      exact J_some (fun k => w_ireturn rfl rfl k)
set_option maxRecDepth 20000 in
set_option maxHeartbeats 4000000 in
theorem cal_dh_took {Δ : DT} {d : Nat} (hd : 2 ≤ d) {x1 : Int} {x2 : Int}  {M : MEM} {r : Int} (h : dh_took x1 x2 M = some r) (ho : okVs [vR 0, vI x1, vI x2]) (hM : okM M) : Cal Δ false m_dh_took d [vR 0, vI x1, vI x2] (NG, S0, M) (some r) (NG, S0, M) 0 0 := by
  obtain ⟨d, rfl⟩ : ∃ e, d = e + 1 := ⟨d - 1, by omega⟩
  exact cal_of g_dh_took p_dh_took (fun v hv => by simp only [List.mem_cons, List.not_mem_nil, or_false] at hv; rcases hv with rfl | rfl | rfl <;> first | exact Or.inl ⟨_, rfl⟩ | exact Or.inr ⟨_, rfl⟩) ho hM (Nat.le_of_ble_eq_true rfl) (fun Γ _ k => J_dh_took hd  _ h k)
abbrev HD_dh_longest_b49 (Δ : DT) (Γ : FT) (d : Nat) (a2 : Nat) (M : MEM) (s : Int × Int × Int × Int × Int) : Prop := WAt Δ Γ false m_dh_longest (d + 1) 49 [vR (0), vN, vR (a2), vN, vI (s.1), vI (s.2.1), vI (s.2.2.1), vI (s.2.2.2.1), vI (s.2.2.2.2), vN] [] (NG, S0, M) 0 0
abbrev X_dh_longest_b49 (Δ : DT) (Γ : FT) (d : Nat) (a2 : Nat) (M : MEM) (s : Int × Int × Int × Int × Int) : Prop := WAt Δ Γ false m_dh_longest (d + 1) 123 [vR (0), vN, vN, vN, vI (s.1), vI (s.2.1), vI (s.2.2.1), vI (s.2.2.2.1), vN, vN] [] (NG, S0, M) 0 0
set_option maxRecDepth 20000 in
set_option maxHeartbeats 4000000 in
theorem J_dh_longest_j117_49 {Δ : DT} {Γ : FT} {d : Nat} (hd : 2 ≤ d + 1) {a2 : Nat} {x4 : Int} {x5 : Int} {x6 : Int} {x7 : Int} {x8 : Int} (h_a2 : is_be a2) {M : MEM} : J (dh_longest_j117_49 a2 x4 x5 x6 x7 x8 M) (Sum.elim (HD_dh_longest_b49 Δ Γ d a2 M) (X_dh_longest_b49 Δ Γ d a2 M)) (WAt Δ Γ false m_dh_longest (d + 1) 117 [vR (0), vN, vR (a2), vN, vI (x4), vI (x5), vI (x6), vI (x7), vI (x8), vN] [] (NG, S0, M) 0 0) := by
  unfold dh_longest_j117_49
  refine J.mono (fun k => s_iinc8 rfl (Nat.le_of_ble_eq_true rfl) (w_goto rfl k)) ?_
  exact J_some (fun k => w_forget (wk_k (wk_d (wk_k (wk_d (wk_k (wk_k (wk_k (wk_k (wk_k (wk_d wk_0)))))))))) k)
set_option maxRecDepth 20000 in
set_option maxHeartbeats 4000000 in
theorem J_dh_longest_j109_49 {Δ : DT} {Γ : FT} {d : Nat} (hd : 2 ≤ d + 1) {a2 : Nat} {x4 : Int} {x5 : Int} {x8 : Int} {x9 : Int} (h_a2 : is_be a2) {M : MEM} : J (dh_longest_j109_49 a2 x4 x5 x8 x9 M) (Sum.elim (HD_dh_longest_b49 Δ Γ d a2 M) (X_dh_longest_b49 Δ Γ d a2 M)) (WAt Δ Γ false m_dh_longest (d + 1) 109 [vR (0), vN, vR (a2), vN, vI (x4), vI (x5), vN, vN, vI (x8), vI (x9)] [] (NG, S0, M) 0 0) := by
  unfold dh_longest_j109_49
  refine J.mono (fun k => w_iload rfl rfl (s_istore6 rfl (Nat.le_of_ble_eq_true rfl) (w_iload rfl rfl (s_istore7 rfl (Nat.le_of_ble_eq_true rfl) k)))) ?_
  exact J.mono (fun k => w_forget (wk_k (wk_d (wk_k (wk_d (wk_k (wk_k (wk_k (wk_k (wk_k (wk_d wk_0)))))))))) k) (J_dh_longest_j117_49 hd h_a2)
set_option maxRecDepth 20000 in
set_option maxHeartbeats 4000000 in
theorem J_dh_longest_j96_49 {Δ : DT} {Γ : FT} {d : Nat} (hd : 2 ≤ d + 1) {a2 : Nat} {x4 : Int} {x5 : Int} {x6 : Int} {x7 : Int} {x8 : Int} {x9 : Int} (h_a2 : is_be a2) {M : MEM} : J (dh_longest_j96_49 a2 x4 x5 x6 x7 x8 x9 M) (Sum.elim (HD_dh_longest_b49 Δ Γ d a2 M) (X_dh_longest_b49 Δ Γ d a2 M)) (WAt Δ Γ false m_dh_longest (d + 1) 96 [vR (0), vN, vR (a2), vN, vI (x4), vI (x5), vI (x6), vI (x7), vI (x8), vI (x9)] [] (NG, S0, M) 0 0) := by
  unfold dh_longest_j96_49
  refine J.mono (fun k => w_iload rfl rfl (w_iconst rfl (inR_c rfl) k)) ?_
  refine J_ite (fun hc16 => ?_) (fun hc16 => ?_)
  · refine J.mono (fun k => s_icmp_eq_t rfl hc16 k) ?_
    exact J.mono (fun k => w_forget (wk_k (wk_d (wk_k (wk_d (wk_k (wk_k (wk_d (wk_d (wk_k (wk_k wk_0)))))))))) k) (J_dh_longest_j109_49 hd h_a2)
  · refine J.mono (fun k => s_icmp_eq_f rfl hc16 (w_iload rfl rfl (w_iload rfl rfl k))) ?_
    refine J_ite (fun hc17 => ?_) (fun hc17 => ?_)
    · refine J.mono (fun k => s_icmp_ge_t rfl hc17 k) ?_
      exact J.mono (fun k => w_forget (wk_k (wk_d (wk_k (wk_d (wk_k (wk_k (wk_k (wk_k (wk_k (wk_d wk_0)))))))))) k) (J_dh_longest_j117_49 hd h_a2)
    · refine J.mono (fun k => s_icmp_ge_f rfl hc17 k) ?_
      exact J.mono (fun k => w_forget (wk_k (wk_d (wk_k (wk_d (wk_k (wk_k (wk_d (wk_d (wk_k (wk_k wk_0)))))))))) k) (J_dh_longest_j109_49 hd h_a2)
set_option maxRecDepth 20000 in
set_option maxHeartbeats 4000000 in
theorem J_dh_longest_j88_49 {Δ : DT} {Γ : FT} {d : Nat} (hd : 2 ≤ d + 1) {a2 : Nat} {x6 : Int} {x7 : Int} {x8 : Int} {x9 : Int} (h_a2 : is_be a2) {M : MEM} : J (dh_longest_j88_49 a2 x6 x7 x8 x9 M) (Sum.elim (HD_dh_longest_b49 Δ Γ d a2 M) (X_dh_longest_b49 Δ Γ d a2 M)) (WAt Δ Γ false m_dh_longest (d + 1) 88 [vR (0), vN, vR (a2), vN, vN, vN, vI (x6), vI (x7), vI (x8), vI (x9)] [] (NG, S0, M) 0 0) := by
  unfold dh_longest_j88_49
  refine J.mono (fun k => w_iload rfl rfl (s_istore4 rfl (Nat.le_of_ble_eq_true rfl) (w_iload rfl rfl (s_istore5 rfl (Nat.le_of_ble_eq_true rfl) k)))) ?_
  exact J.mono (fun k => w_forget (wk_k (wk_d (wk_k (wk_d (wk_k (wk_k (wk_k (wk_k (wk_k (wk_k wk_0)))))))))) k) (J_dh_longest_j96_49 hd h_a2)
set_option maxRecDepth 20000 in
set_option maxHeartbeats 4000000 in
theorem Jb_dh_longest_b49 {Δ : DT} {Γ : FT} {d : Nat} (hd : 2 ≤ d + 1) {a2 : Nat} (h_a2 : is_be a2) {x4 : Int} {x5 : Int} {x6 : Int} {x7 : Int} {x8 : Int} {M : MEM} : J (dh_longest_b49 a2 x4 x5 x6 x7 x8 M) (Sum.elim (HD_dh_longest_b49 Δ Γ d a2 M) (X_dh_longest_b49 Δ Γ d a2 M)) (WAt Δ Γ false m_dh_longest (d + 1) 49 [vR (0), vN, vR (a2), vN, vI (x4), vI (x5), vI (x6), vI (x7), vI (x8), vN] [] (NG, S0, M) 0 0) := by
  unfold dh_longest_b49
  refine J.mono (fun k => w_iload rfl rfl (w_aload_n rfl rfl (w_getI rfl (be_S h_a2).1 (be_S h_a2).2 rfl k))) ?_
  refine J_ite (fun hc6 => ?_) (fun hc6 => ?_)
  · refine J.mono (fun k => s_icmp_ge_t rfl hc6 k) ?_
    exact J_some (fun k => w_forget (wk_k (wk_d (wk_d (wk_d (wk_k (wk_k (wk_k (wk_k (wk_d (wk_d wk_0)))))))))) k)
  · refine J.mono (fun k => s_icmp_ge_f rfl hc6 (w_aload_n rfl rfl (w_iload rfl rfl (w_iconst rfl (inR_c rfl) (w_iadd rfl k))))) ?_
    refine J_c (fun r8 e7 => ?_)
    refine J_hyp (fun k => c_vi1 rfl (fun ho hM => cal_be_minuteOf (by omega) h_a2 e7 ho hM) v_be_minuteOf (be_S h_a2).1 (be_S h_a2).2 rfl (Nat.le_of_ble_eq_true rfl) k) (fun hr9 hb10 => ?_)
    refine J.mono (fun k => w_aload_n rfl rfl (w_iload rfl rfl k)) ?_
    refine J_c (fun r12 e11 => ?_)
    refine J_hyp (fun k => c_vi1 rfl (fun ho hM => cal_be_minuteOf (by omega) h_a2 e11 ho hM) v_be_minuteOf (be_S h_a2).1 (be_S h_a2).2 rfl (Nat.le_of_ble_eq_true rfl) k) (fun hr13 hb14 => ?_)
    refine J.mono (fun k => w_isub rfl (s_istore9 rfl (Nat.le_of_ble_eq_true rfl) (w_iload rfl rfl (w_iconst rfl (inR_c rfl) k)))) ?_
    refine J_ite (fun hc15 => ?_) (fun hc15 => ?_)
    · refine J.mono (fun k => s_icmp_eq_t rfl hc15 k) ?_
      exact J.mono (fun k => w_forget (wk_k (wk_d (wk_k (wk_d (wk_d (wk_d (wk_k (wk_k (wk_k (wk_k wk_0)))))))))) k) (J_dh_longest_j88_49 hd h_a2)
    · refine J.mono (fun k => s_icmp_eq_f rfl hc15 (w_iload rfl rfl (w_iload rfl rfl k))) ?_
      refine J_ite (fun hc18 => ?_) (fun hc18 => ?_)
      · refine J.mono (fun k => s_icmp_le_t rfl hc18 k) ?_
        exact J.mono (fun k => w_forget (wk_k (wk_d (wk_k (wk_d (wk_k (wk_k (wk_k (wk_k (wk_k (wk_k wk_0)))))))))) k) (J_dh_longest_j96_49 hd h_a2)
      · refine J.mono (fun k => s_icmp_le_f rfl hc18 k) ?_
        exact J.mono (fun k => w_forget (wk_k (wk_d (wk_k (wk_d (wk_d (wk_d (wk_k (wk_k (wk_k (wk_k wk_0)))))))))) k) (J_dh_longest_j88_49 hd h_a2)
set_option maxRecDepth 20000 in
set_option maxHeartbeats 4000000 in
theorem Jl_dh_longest_b49 {Δ : DT} {Γ : FT} {d : Nat} (hd : 2 ≤ d + 1) {a2 : Nat} (h_a2 : is_be a2) {M : MEM} : ∀ (n : Nat) (s : Int × Int × Int × Int × Int), J (iter (fun s => dh_longest_b49 a2 s.1 s.2.1 s.2.2.1 s.2.2.2.1 s.2.2.2.2 M) n s) (X_dh_longest_b49 Δ Γ d a2 M) (HD_dh_longest_b49 Δ Γ d a2 M s) := J_iter (fun s => Jb_dh_longest_b49 hd h_a2)
set_option maxRecDepth 20000 in
set_option maxHeartbeats 4000000 in
theorem J_dh_longest {Δ : DT} {Γ : FT} {d : Nat} (hd : 2 ≤ d + 1) {x1 : Int}  {M : MEM} : J (dh_longest x1 M) (K_IM Δ Γ m_dh_longest) (WAt Δ Γ false m_dh_longest (d + 1) 0 [vR (0), vI (x1), vN, vN, vN, vN, vN, vN, vN, vN] [] (NG, S0, M) 0 0) := by
  unfold dh_longest
  refine J.mono (fun k => w_aload_n rfl rfl (w_iload_n rfl rfl k)) ?_
  refine J_hyp (fun k => c_vi1 rfl (fun ho hM => cal_dh_isDonkey (by omega)   ho hM) v_dh_isDonkey (Nat.le_of_ble_eq_true rfl) S_0 rfl (Nat.le_of_ble_eq_true rfl) k) (fun hr2 hb3 => ?_)
  refine J_ite (fun hc4 => ?_) (fun hc4 => ?_)
  · refine J.mono (fun k => s_if_ne_f rfl hc4 (w_iconst rfl (inR_c rfl) k)) ?_
    exact J_some (fun k => w_ireturn rfl rfl k)
  · refine J.mono (fun k => s_if_ne_t rfl hc4 (w_aload_n rfl rfl (w_getR (r := 3) rfl (Nat.le_of_ble_eq_true rfl) S_0 rfl (w_getR (r := 4) rfl (sc_S is_sc_3).1 (sc_S is_sc_3).2 rfl (w_iload_n rfl rfl k))))) ?_
    refine J_chk (fun hi5 => ?_)
    refine J.mono (fun k => w_aald rfl (scb_S is_sc_3).1 (Or.inl rfl) (scb_S is_sc_3).2 hi5.1 (scb_get hi5.1 hi5.2) (s_astore2 rfl (Nat.le_of_ble_eq_true rfl) (w_iconst rfl (inR_c rfl) (w_aload_n rfl rfl (w_getI rfl (be_S (scb_is is_sc_3 hi5.1 hi5.2)).1 (be_S (scb_is is_sc_3 hi5.1 hi5.2)).2 rfl (w_bipush rfl (bip_c rfl) (w_isub rfl (w_iconst rfl (inR_c rfl) (w_iadd rfl k))))))))) ?_
    refine J.mono (fun k => w_mmax rfl (Nat.le_of_ble_eq_true rfl) k) ?_
    refine J.mono (fun k => s_istore3 rfl (Nat.le_of_ble_eq_true rfl) (w_iconst rfl (inR_c rfl) (s_istore4 rfl (Nat.le_of_ble_eq_true rfl) (w_iconst rfl (inR_c rfl) (s_istore5 rfl (Nat.le_of_ble_eq_true rfl) (w_iconst rfl (inR_c rfl) (s_istore6 rfl (Nat.le_of_ble_eq_true rfl) (w_iconst rfl (inR_c rfl) (s_istore7 rfl (Nat.le_of_ble_eq_true rfl) (w_iload_n rfl rfl (s_istore8 rfl (Nat.le_of_ble_eq_true rfl) k))))))))))) ?_
    refine J.mono (fun k => w_forget (wk_k (wk_d (wk_k (wk_d (wk_k (wk_k (wk_k (wk_k (wk_k (wk_d wk_0)))))))))) k) ?_
    refine J_loop (Jl_dh_longest_b49 hd (scb_is is_sc_3 hi5.1 hi5.2) _ _) (fun w19 => ?_)
    refine J.mono (fun k => w_iload rfl rfl (w_iconst rfl (inR_c rfl) k)) ?_
    refine J_ite (fun hc20 => ?_) (fun hc20 => ?_)
    · refine J.mono (fun k => s_icmp_ne_f rfl hc20 (w_bipush rfl (bip_c rfl) k)) ?_
      exact J_some (fun k => w_ireturn rfl rfl k)
    · refine J.mono (fun k => s_icmp_ne_t rfl hc20 (w_aload_n rfl rfl k)) ?_
      refine J_c (fun M22 e21 => ?_)
      refine J.mono (fun k => c_vv0 rfl (fun ho hM => cal_dh_newRow (by omega)  e21 ho hM) v_dh_newRow (Nat.le_of_ble_eq_true rfl) S_0 rfl (Nat.le_of_ble_eq_true rfl) (w_aload_n rfl rfl (w_iload rfl rfl k))) ?_
      refine J_c (fun M24 e23 => ?_)
      refine J.mono (fun k => c_vv1 rfl (fun ho hM => cal_dh_tell (by omega)  e23 ho hM) v_dh_tell (Nat.le_of_ble_eq_true rfl) S_0 rfl (Nat.le_of_ble_eq_true rfl) (w_aload_n rfl rfl (w_iload rfl rfl k))) ?_
      refine J_c (fun M26 e25 => ?_)
      refine J.mono (fun k => c_vv1 rfl (fun ho hM => cal_dh_tell (by omega)  e25 ho hM) v_dh_tell (Nat.le_of_ble_eq_true rfl) S_0 rfl (Nat.le_of_ble_eq_true rfl) (w_aload_n rfl rfl (w_iload rfl rfl k))) ?_
      refine J_c (fun M28 e27 => ?_)
      refine J.mono (fun k => c_vv1 rfl (fun ho hM => cal_dh_tell (by omega)  e27 ho hM) v_dh_tell (Nat.le_of_ble_eq_true rfl) S_0 rfl (Nat.le_of_ble_eq_true rfl) (w_iload rfl rfl k)) ?_
      exact J_some (fun k => w_ireturn rfl rfl k)
set_option maxRecDepth 20000 in
set_option maxHeartbeats 4000000 in
theorem cal_dh_longest {Δ : DT} {d : Nat} (hd : 2 ≤ d) {x1 : Int}  {M : MEM} {p : Int × MEM} (h : dh_longest x1 M = some p) (ho : okVs [vR 0, vI x1]) (hM : okM M) : Cal Δ false m_dh_longest d [vR 0, vI x1] (NG, S0, M) (some p.1) (NG, S0, p.2) 0 0 := by
  obtain ⟨d, rfl⟩ : ∃ e, d = e + 1 := ⟨d - 1, by omega⟩
  exact cal_of g_dh_longest p_dh_longest (fun v hv => by simp only [List.mem_cons, List.not_mem_nil, or_false] at hv; rcases hv with rfl | rfl <;> first | exact Or.inl ⟨_, rfl⟩ | exact Or.inr ⟨_, rfl⟩) ho hM (Nat.le_of_ble_eq_true rfl) (fun Γ _ k => J_dh_longest hd  _ h k)

