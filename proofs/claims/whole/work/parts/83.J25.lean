abbrev HD_mo_again_b40 (Δ : DT) (Γ : FT) (d : Nat) (x1 : Int) (s : Int × MEM) : Prop := WAt Δ Γ false m_mo_again (d + 1) 40 [vR (278), vI (x1), vI (s.1)] [] (NG, S0, s.2) 0 0
abbrev X_mo_again_b40 (Δ : DT) (Γ : FT) (d : Nat) (x1 : Int) (s : Int × MEM) : Prop := WAt Δ Γ false m_mo_again (d + 1) 71 [vR (278), vI (x1), vN] [] (NG, S0, s.2) 0 0
set_option maxRecDepth 20000 in
set_option maxHeartbeats 4000000 in
theorem Jb_mo_again_b40 {Δ : DT} {Γ : FT} {d : Nat} (hd : 1 ≤ d + 1) {x1 : Int}  {x2 : Int} {M : MEM} : J (mo_again_b40 x1 x2 M) (Sum.elim (HD_mo_again_b40 Δ Γ d x1) (X_mo_again_b40 Δ Γ d x1)) (WAt Δ Γ false m_mo_again (d + 1) 40 [vR (278), vI (x1), vI (x2)] [] (NG, S0, M) 0 0) := by
  unfold mo_again_b40
  refine J.mono (fun k => w_iload_n rfl rfl (w_sipush rfl (sip_c rfl) k)) ?_
  refine J_ite (fun hc10 => ?_) (fun hc10 => ?_)
  · refine J.mono (fun k => s_icmp_ge_t rfl hc10 k) ?_
    exact J_some (fun k => w_forget (wk_k (wk_k (wk_d wk_0))) k)
  · refine J.mono (fun k => s_icmp_ge_f rfl hc10 (w_aload_n rfl rfl (w_getR (r := 279) rfl (Nat.le_of_ble_eq_true rfl) S_278 rfl (w_iload_n rfl rfl (w_aload_n rfl rfl (w_getR (r := 304) rfl (Nat.le_of_ble_eq_true rfl) S_278 rfl (w_sipush rfl (sip_c rfl) (w_iload_n rfl rfl (w_imul rfl (w_iload_n rfl rfl (w_iadd rfl k))))))))))) ?_
    refine J_chk (fun hi11 => ?_)
    refine J.mono (fun k => w_iald rfl A_304.1 A_304.2 hi11.1 hi11.2 k) ?_
    refine J_chk (fun hi13 => ?_)
    refine J_b ?_
    refine J.mono (fun k => w_iast rfl A_279.1 A_279.2 hi13.1 hi13.2 rfl (s_iinc2 rfl (Nat.le_of_ble_eq_true rfl) (w_goto rfl k))) ?_
    exact J_some (fun k => w_forget (wk_k (wk_k (wk_k wk_0))) k)
set_option maxRecDepth 20000 in
set_option maxHeartbeats 4000000 in
theorem Jl_mo_again_b40 {Δ : DT} {Γ : FT} {d : Nat} (hd : 1 ≤ d + 1) {x1 : Int}   : ∀ (n : Nat) (s : Int × MEM), J (iter (fun s => mo_again_b40 x1 s.1 s.2) n s) (X_mo_again_b40 Δ Γ d x1) (HD_mo_again_b40 Δ Γ d x1 s) := J_iter (fun s => Jb_mo_again_b40 hd )
set_option maxRecDepth 20000 in
set_option maxHeartbeats 4000000 in
theorem J_mo_again {Δ : DT} {Γ : FT} {d : Nat} (hd : 1 ≤ d + 1) {x1 : Int}  {M : MEM} : J (mo_again x1 M) (K_IM Δ Γ m_mo_again) (WAt Δ Γ false m_mo_again (d + 1) 0 [vR (278), vI (x1), vN] [] (NG, S0, M) 0 0) := by
  unfold mo_again
  refine J.mono (fun k => w_aload_n rfl rfl (w_iconst rfl (inR_c rfl) k)) ?_
  refine J_b ?_
  refine J.mono (fun k => w_putI rfl (Nat.le_of_ble_eq_true rfl) S_278 rfl rfl (w_iload_n rfl rfl (w_iconst rfl (inR_c rfl) (w_iconst rfl (inR_c rfl) k)))) ?_
  refine J_hyp (fun k => c_si3 rfl rfl (fun ho hM => cal_mo_in (by omega)   ho hM) v_mo_in (Nat.le_of_ble_eq_true rfl) k) (fun hr3 hb4 => ?_)
  refine J_ite (fun hc5 => ?_) (fun hc5 => ?_)
  · refine J.mono (fun k => s_if_eq_t rfl hc5 (w_iconst rfl (inR_c rfl) k)) ?_
    exact J_some (fun k => w_zreturn rfl rfl (Or.inl rfl) k)
  · refine J.mono (fun k => s_if_eq_f rfl hc5 (w_aload_n rfl rfl (w_getR (r := 305) rfl (Nat.le_of_ble_eq_true rfl) S_278 rfl (w_iload_n rfl rfl k)))) ?_
    refine J_chk (fun hi6 => ?_)
    refine J.mono (fun k => w_zald rfl A_305.1 A_305.2 hi6.1 hi6.2 k) ?_
    refine J_ite (fun hc7 => ?_) (fun hc7 => ?_)
    · refine J.mono (fun k => s_if_eq_t rfl hc7 (w_iconst rfl (inR_c rfl) k)) ?_
      exact J_some (fun k => w_zreturn rfl rfl (Or.inl rfl) k)
    · refine J.mono (fun k => s_if_eq_f rfl hc7 (w_aload_n rfl rfl (w_getR (r := 306) rfl (Nat.le_of_ble_eq_true rfl) S_278 rfl (w_iload_n rfl rfl k)))) ?_
      refine J_chk (fun hi8 => ?_)
      refine J.mono (fun k => w_iald rfl A_306.1 A_306.2 hi8.1 hi8.2 (w_aload_n rfl rfl (w_getI rfl (Nat.le_of_ble_eq_true rfl) S_278 rfl k))) ?_
      refine J_ite (fun hc9 => ?_) (fun hc9 => ?_)
      · refine J.mono (fun k => s_icmp_eq_t rfl hc9 (w_iconst rfl (inR_c rfl) (s_istore2 rfl (Nat.le_of_ble_eq_true rfl) k))) ?_
        refine J.mono (fun k => w_forget (wk_k (wk_k (wk_k wk_0))) k) ?_
        refine J_loop (Jl_mo_again_b40 hd  _ _) (fun w14 => ?_)
        refine J.mono (fun k => w_aload_n rfl rfl (w_aload_n rfl rfl (w_getR (r := 304) rfl (Nat.le_of_ble_eq_true rfl) S_278 rfl (w_sipush rfl (sip_c rfl) (w_iload_n rfl rfl (w_imul rfl k)))))) ?_
        refine J_c (fun M16 e15 => ?_)
        refine J.mono (fun k => c_vv2 rfl (fun ho hM => cal_mo_takeCarrots (by omega) (isArr_len A_304) e15 ho hM) v_mo_takeCarrots (Nat.le_of_ble_eq_true rfl) S_278 rfl (Nat.le_of_ble_eq_true rfl) (w_aload_n rfl rfl (w_iconst rfl (inR_c rfl) k))) ?_
        refine J_b ?_
        refine J.mono (fun k => w_putI rfl (Nat.le_of_ble_eq_true rfl) S_278 rfl rfl (w_iconst rfl (inR_c rfl) k)) ?_
        exact J_some (fun k => w_zreturn rfl rfl (Or.inr rfl) k)
      · refine J.mono (fun k => s_icmp_eq_f rfl hc9 (w_iconst rfl (inR_c rfl) k)) ?_
        exact J_some (fun k => w_zreturn rfl rfl (Or.inl rfl) k)
set_option maxRecDepth 20000 in
set_option maxHeartbeats 4000000 in
theorem cal_mo_again {Δ : DT} {d : Nat} (hd : 1 ≤ d) {x1 : Int}  {M : MEM} {p : Int × MEM} (h : mo_again x1 M = some p) (ho : okVs [vR 278, vI x1]) (hM : okM M) : Cal Δ false m_mo_again d [vR 278, vI x1] (NG, S0, M) (some p.1) (NG, S0, p.2) 0 0 := by
  obtain ⟨d, rfl⟩ : ∃ e, d = e + 1 := ⟨d - 1, by omega⟩
  exact cal_of g_mo_again p_mo_again (fun v hv => by simp only [List.mem_cons, List.not_mem_nil, or_false] at hv; rcases hv with rfl | rfl <;> first | exact Or.inl ⟨_, rfl⟩ | exact Or.inr ⟨_, rfl⟩) ho hM (Nat.le_of_ble_eq_true rfl) (fun Γ _ k => J_mo_again hd  _ h k)
abbrev HD_mo_count_b90 (Δ : DT) (Γ : FT) (d : Nat)  (M : MEM) (s : Int × Int) : Prop := WAt Δ Γ false m_mo_count (d + 1) 90 [vR (278), vN, vI (s.1), vI (s.2)] [] (NG, S0, M) 0 0
abbrev X_mo_count_b90 (Δ : DT) (Γ : FT) (d : Nat)  (M : MEM) (s : Int × Int) : Prop := WAt Δ Γ false m_mo_count (d + 1) 112 [vN, vN, vI (s.1), vN] [] (NG, S0, M) 0 0
set_option maxRecDepth 20000 in
set_option maxHeartbeats 4000000 in
theorem Jb_mo_count_b90 {Δ : DT} {Γ : FT} {d : Nat} (hd : 1 ≤ d + 1)   {x2 : Int} {x3 : Int} {M : MEM} : J (mo_count_b90  x2 x3 M) (Sum.elim (HD_mo_count_b90 Δ Γ d  M) (X_mo_count_b90 Δ Γ d  M)) (WAt Δ Γ false m_mo_count (d + 1) 90 [vR (278), vN, vI (x2), vI (x3)] [] (NG, S0, M) 0 0) := by
  unfold mo_count_b90
  refine J.mono (fun k => w_iload_n rfl rfl (w_aload_n rfl rfl (w_getI rfl (Nat.le_of_ble_eq_true rfl) S_278 rfl k))) ?_
  refine J_ite (fun hc7 => ?_) (fun hc7 => ?_)
  · refine J.mono (fun k => s_icmp_ge_t rfl hc7 k) ?_
    exact J_some (fun k => w_forget (wk_d (wk_d (wk_k (wk_d wk_0)))) k)
  · refine J.mono (fun k => s_icmp_ge_f rfl hc7 (w_iload_n rfl rfl (w_aload_n rfl rfl (w_iload_n rfl rfl k)))) ?_
    refine J_c (fun r9 e8 => ?_)
    refine J_hyp (fun k => c_vi1 rfl (fun ho hM => cal_mo_strokes (by omega)  e8 ho hM) v_mo_strokes (Nat.le_of_ble_eq_true rfl) S_278 rfl (Nat.le_of_ble_eq_true rfl) k) (fun hr10 hb11 => ?_)
    refine J.mono (fun k => w_iadd rfl (s_istore2 rfl (Nat.le_of_ble_eq_true rfl) (s_iinc3 rfl (Nat.le_of_ble_eq_true rfl) (w_goto rfl k)))) ?_
    exact J_some (fun k => w_forget (wk_k (wk_d (wk_k (wk_k wk_0)))) k)
set_option maxRecDepth 20000 in
set_option maxHeartbeats 4000000 in
theorem Jl_mo_count_b90 {Δ : DT} {Γ : FT} {d : Nat} (hd : 1 ≤ d + 1)   {M : MEM} : ∀ (n : Nat) (s : Int × Int), J (iter (fun s => mo_count_b90  s.1 s.2 M) n s) (X_mo_count_b90 Δ Γ d  M) (HD_mo_count_b90 Δ Γ d  M s) := J_iter (fun s => Jb_mo_count_b90 hd )
abbrev HD_mo_count_b116 (Δ : DT) (Γ : FT) (d : Nat)  (M : MEM) (s : Int × Int) : Prop := WAt Δ Γ false m_mo_count (d + 1) 116 [vR (278), vN, vI (s.1), vI (s.2)] [] (NG, S0, M) 0 0
abbrev X_mo_count_b116 (Δ : DT) (Γ : FT) (d : Nat)  (M : MEM) (s : Int × Int) : Prop := WAt Δ Γ false m_mo_count (d + 1) 141 [vN, vN, vI (s.1), vN] [] (NG, S0, M) 0 0
set_option maxRecDepth 20000 in
set_option maxHeartbeats 4000000 in
theorem Jb_mo_count_b116 {Δ : DT} {Γ : FT} {d : Nat} (hd : 1 ≤ d + 1)   {x2 : Int} {x3 : Int} {M : MEM} : J (mo_count_b116  x2 x3 M) (Sum.elim (HD_mo_count_b116 Δ Γ d  M) (X_mo_count_b116 Δ Γ d  M)) (WAt Δ Γ false m_mo_count (d + 1) 116 [vR (278), vN, vI (x2), vI (x3)] [] (NG, S0, M) 0 0) := by
  unfold mo_count_b116
  refine J.mono (fun k => w_iload_n rfl rfl (w_aload_n rfl rfl (w_getI rfl (Nat.le_of_ble_eq_true rfl) S_278 rfl k))) ?_
  refine J_ite (fun hc14 => ?_) (fun hc14 => ?_)
  · refine J.mono (fun k => s_icmp_ge_t rfl hc14 k) ?_
    exact J_some (fun k => w_forget (wk_d (wk_d (wk_k (wk_d wk_0)))) k)
  · refine J.mono (fun k => s_icmp_ge_f rfl hc14 (w_iload_n rfl rfl (w_aload_n rfl rfl (w_getR (r := 279) rfl (Nat.le_of_ble_eq_true rfl) S_278 rfl (w_iload_n rfl rfl k))))) ?_
    refine J_c (fun r16 e15 => ?_)
    refine J_hyp (fun k => c_si2 rfl rfl (fun ho hM => cal_mo_allThistles (by omega) (isArr_len A_279) e15 ho hM) v_mo_allThistles (Nat.le_of_ble_eq_true rfl) k) (fun hr17 hb18 => ?_)
    refine J.mono (fun k => w_iadd rfl (s_istore2 rfl (Nat.le_of_ble_eq_true rfl) (s_iinc3 rfl (Nat.le_of_ble_eq_true rfl) (w_goto rfl k)))) ?_
    exact J_some (fun k => w_forget (wk_k (wk_d (wk_k (wk_k wk_0)))) k)
set_option maxRecDepth 20000 in
set_option maxHeartbeats 4000000 in
theorem Jl_mo_count_b116 {Δ : DT} {Γ : FT} {d : Nat} (hd : 1 ≤ d + 1)   {M : MEM} : ∀ (n : Nat) (s : Int × Int), J (iter (fun s => mo_count_b116  s.1 s.2 M) n s) (X_mo_count_b116 Δ Γ d  M) (HD_mo_count_b116 Δ Γ d  M s) := J_iter (fun s => Jb_mo_count_b116 hd )
set_option maxRecDepth 20000 in
set_option maxHeartbeats 4000000 in
theorem J_mo_count {Δ : DT} {Γ : FT} {d : Nat} (hd : 1 ≤ d + 1) {x1 : Int}  {M : MEM} : J (mo_count x1 M) (K_IM Δ Γ m_mo_count) (WAt Δ Γ false m_mo_count (d + 1) 0 [vR (278), vI (x1), vN, vN] [] (NG, S0, M) 0 0) := by
  unfold mo_count
  refine J.mono (fun k => w_aload_n rfl rfl (w_iconst rfl (inR_c rfl) k)) ?_
  refine J_b ?_
  refine J.mono (fun k => w_putI rfl (Nat.le_of_ble_eq_true rfl) S_278 rfl rfl (w_iconst rfl (inR_c rfl) (s_istore2 rfl (Nat.le_of_ble_eq_true rfl) (w_iload_n rfl rfl k)))) ?_
  refine J_ite (fun hk2 => ?_) (fun hk2 => ?_)
  · refine J.mono (fun k => w_tabIn (off := 56) (tgt := 64) rfl (by omega) (by omega) (by rw [hk2] <;> rfl) (by decide) (w_aload_n rfl rfl (w_getI rfl (Nat.le_of_ble_eq_true rfl) S_278 rfl k))) ?_
    exact J_some (fun k => w_ireturn rfl rfl k)
  · refine J_ite (fun hk3 => ?_) (fun hk3 => ?_)
    · refine J.mono (fun k => w_tabIn (off := 61) (tgt := 69) rfl (by omega) (by omega) (by rw [hk3] <;> rfl) (by decide) (w_aload_n rfl rfl (w_getR (r := 279) rfl (Nat.le_of_ble_eq_true rfl) S_278 rfl (w_sipush rfl (sip_c rfl) (w_iald rfl A_279.1 A_279.2 (by decide) (by decide) k))))) ?_
      exact J_some (fun k => w_ireturn rfl rfl k)
    · refine J_ite (fun hk4 => ?_) (fun hk4 => ?_)
      · refine J.mono (fun k => w_tabIn (off := 70) (tgt := 78) rfl (by omega) (by omega) (by rw [hk4] <;> rfl) (by decide) (w_aload_n rfl rfl (w_getI rfl (Nat.le_of_ble_eq_true rfl) S_278 rfl k))) ?_
        exact J_some (fun k => w_ireturn rfl rfl k)
      · refine J_ite (fun hk5 => ?_) (fun hk5 => ?_)
        · refine J.mono (fun k => w_tabIn (off := 75) (tgt := 83) rfl (by omega) (by omega) (by rw [hk5] <;> rfl) (by decide) (w_aload_n rfl rfl (w_getI rfl (Nat.le_of_ble_eq_true rfl) S_278 rfl k))) ?_
          exact J_some (fun k => w_ireturn rfl rfl k)
        · refine J_ite (fun hk6 => ?_) (fun hk6 => ?_)
          · refine J.mono (fun k => w_tabIn (off := 80) (tgt := 88) rfl (by omega) (by omega) (by rw [hk6] <;> rfl) (by decide) (w_iconst rfl (inR_c rfl) (s_istore3 rfl (Nat.le_of_ble_eq_true rfl) k))) ?_
            refine J.mono (fun k => w_forget (wk_k (wk_d (wk_k (wk_k wk_0)))) k) ?_
            refine J_loop (Jl_mo_count_b90 hd  _ _) (fun w12 => ?_)
            refine J.mono (fun k => w_iload_n rfl rfl k) ?_
            exact J_some (fun k => w_ireturn rfl rfl k)
          · refine J_ite (fun hk13 => ?_) (fun hk13 => ?_)
            · refine J.mono (fun k => w_tabIn (off := 106) (tgt := 114) rfl (by omega) (by omega) (by rw [hk13] <;> rfl) (by decide) (w_iconst rfl (inR_c rfl) (s_istore3 rfl (Nat.le_of_ble_eq_true rfl) k))) ?_
              refine J.mono (fun k => w_forget (wk_k (wk_d (wk_k (wk_k wk_0)))) k) ?_
              refine J_loop (Jl_mo_count_b116 hd  _ _) (fun w19 => ?_)
              refine J.mono (fun k => w_iload_n rfl rfl k) ?_
              exact J_some (fun k => w_ireturn rfl rfl k)
            · refine J_ite (fun hk20 => ?_) (fun hk20 => ?_)
              · refine J.mono (fun k => w_tabIn (off := 135) (tgt := 143) rfl (by omega) (by omega) (by rw [hk20] <;> rfl) (by decide) (w_aload_n rfl rfl (w_getI rfl (Nat.le_of_ble_eq_true rfl) S_278 rfl k))) ?_
                exact J_some (fun k => w_ireturn rfl rfl k)
              · refine J_ite (fun hk21 => ?_) (fun hk21 => ?_)
                · refine J.mono (fun k => w_tabIn (off := 140) (tgt := 148) rfl (by omega) (by omega) (by rw [hk21] <;> rfl) (by decide) (w_aload_n rfl rfl (w_getI rfl (Nat.le_of_ble_eq_true rfl) S_278 rfl k))) ?_
                  exact J_some (fun k => w_ireturn rfl rfl k)
                · refine J_ite (fun hk22 => ?_) (fun hk22 => ?_)
                  · refine J.mono (fun k => w_tabIn (off := 145) (tgt := 153) rfl (by omega) (by omega) (by rw [hk22] <;> rfl) (by decide) (w_aload_n rfl rfl (w_getI rfl (Nat.le_of_ble_eq_true rfl) S_278 rfl k))) ?_
                    exact J_some (fun k => w_ireturn rfl rfl k)
                  · refine J_ite (fun hk23 => ?_) (fun hk23 => ?_)
                    · refine J.mono (fun k => w_tabIn (off := 150) (tgt := 158) rfl (by omega) (by omega) (by rw [hk23] <;> rfl) (by decide) (w_aload_n rfl rfl (w_getI rfl (Nat.le_of_ble_eq_true rfl) S_278 rfl k))) ?_
                      exact J_some (fun k => w_ireturn rfl rfl k)
                    · refine J.mono (fun k => w_tabDef (keys := [(0), (1), (2), (3), (4), (5), (6), (7), (8), (9)]) (tgt := 163) rfl (by simp only [nokey]; exact ⟨hk2, hk3, hk4, hk5, hk6, hk13, hk20, hk21, hk22, hk23, trivial⟩) (by decide) (by decide) (w_iconst rfl (inR_c rfl) k)) ?_
                      exact J_some (fun k => w_ireturn rfl rfl k)
set_option maxRecDepth 20000 in
set_option maxHeartbeats 4000000 in
theorem cal_mo_count {Δ : DT} {d : Nat} (hd : 1 ≤ d) {x1 : Int}  {M : MEM} {p : Int × MEM} (h : mo_count x1 M = some p) (ho : okVs [vR 278, vI x1]) (hM : okM M) : Cal Δ false m_mo_count d [vR 278, vI x1] (NG, S0, M) (some p.1) (NG, S0, p.2) 0 0 := by
  obtain ⟨d, rfl⟩ : ∃ e, d = e + 1 := ⟨d - 1, by omega⟩
  exact cal_of g_mo_count p_mo_count (fun v hv => by simp only [List.mem_cons, List.not_mem_nil, or_false] at hv; rcases hv with rfl | rfl <;> first | exact Or.inl ⟨_, rfl⟩ | exact Or.inr ⟨_, rfl⟩) ho hM (Nat.le_of_ble_eq_true rfl) (fun Γ _ k => J_mo_count hd  _ h k)
set_option maxRecDepth 20000 in
set_option maxHeartbeats 4000000 in
theorem J_mo_row {Δ : DT} {Γ : FT} {d : Nat} (hd : 1 ≤ d + 1) {x1 : Int}  {M : MEM} : J (mo_row x1 M) (K_IM Δ Γ m_mo_row) (WAt Δ Γ false m_mo_row (d + 1) 0 [vR (278), vI (x1)] [] (NG, S0, M) 0 0) := by
  unfold mo_row
  refine J.mono (fun k => w_aload_n rfl rfl (w_iconst rfl (inR_c rfl) k)) ?_
  refine J_b ?_
  refine J.mono (fun k => w_putI rfl (Nat.le_of_ble_eq_true rfl) S_278 rfl rfl (w_iload_n rfl rfl (w_iconst rfl (inR_c rfl) (w_aload_n rfl rfl (w_getI rfl (Nat.le_of_ble_eq_true rfl) S_278 rfl (w_iconst rfl (inR_c rfl) (w_isub rfl k))))))) ?_
  refine J_hyp (fun k => c_si3 rfl rfl (fun ho hM => cal_mo_in (by omega)   ho hM) v_mo_in (Nat.le_of_ble_eq_true rfl) k) (fun hr3 hb4 => ?_)
  refine J_ite (fun hc5 => ?_) (fun hc5 => ?_)
  · refine J.mono (fun k => s_if_eq_t rfl hc5 (w_aload_n rfl rfl k)) ?_
    refine J_c (fun p7 e6 => ?_)
    refine J_hyp (fun k => c_vi0 rfl (fun ho hM => cal_mo_lost (by omega)  e6 ho hM) v_mo_lost (Nat.le_of_ble_eq_true rfl) S_278 rfl (Nat.le_of_ble_eq_true rfl) k) (fun hr8 hb9 => ?_)
    exact J_some (fun k => w_ireturn rfl rfl k)
  · refine J.mono (fun k => s_if_eq_f rfl hc5 (w_aload_n rfl rfl (w_getR (r := 284) rfl (Nat.le_of_ble_eq_true rfl) S_278 rfl (w_iload_n rfl rfl k)))) ?_
    refine J_chk (fun hi10 => ?_)
    refine J.mono (fun k => w_iald rfl A_284.1 A_284.2 hi10.1 hi10.2 (w_goto rfl k)) ?_
    exact J_some (fun k => w_ireturn rfl rfl k)
set_option maxRecDepth 20000 in
set_option maxHeartbeats 4000000 in
theorem cal_mo_row {Δ : DT} {d : Nat} (hd : 1 ≤ d) {x1 : Int}  {M : MEM} {p : Int × MEM} (h : mo_row x1 M = some p) (ho : okVs [vR 278, vI x1]) (hM : okM M) : Cal Δ false m_mo_row d [vR 278, vI x1] (NG, S0, M) (some p.1) (NG, S0, p.2) 0 0 := by
  obtain ⟨d, rfl⟩ : ∃ e, d = e + 1 := ⟨d - 1, by omega⟩
  exact cal_of g_mo_row p_mo_row (fun v hv => by simp only [List.mem_cons, List.not_mem_nil, or_false] at hv; rcases hv with rfl | rfl <;> first | exact Or.inl ⟨_, rfl⟩ | exact Or.inr ⟨_, rfl⟩) ho hM (Nat.le_of_ble_eq_true rfl) (fun Γ _ k => J_mo_row hd  _ h k)

