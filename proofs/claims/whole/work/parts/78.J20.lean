set_option maxRecDepth 20000 in
set_option maxHeartbeats 4000000 in
theorem J_mo_letter {Δ : DT} {Γ : FT} {d : Nat} (hd : 2 ≤ d + 1) {x1 : Int} {a2 : Nat} {x3 : Int} (h_a2 : isArr 0 (lenA a2) a2) {M : MEM} : J (mo_letter x1 a2 x3 M) (K_I Δ Γ m_mo_letter M) (WAt Δ Γ false m_mo_letter (d + 1) 0 [vR (278), vI (x1), vR (a2), vI (x3), vN] [] (NG, S0, M) 0 0) := by
  unfold mo_letter
  refine J.mono (fun k => w_bipush rfl (bip_c rfl) (w_iload_n rfl rfl (w_imul rfl (s_istore4 rfl (Nat.le_of_ble_eq_true rfl) (w_iload_n rfl rfl k))))) ?_
  refine J_ite (fun hk1 => ?_) (fun hk1 => ?_)
  · refine J.mono (fun k => w_tabIn (off := 121) (tgt := 128) rfl (by omega) (by omega) (by rw [hk1] <;> rfl) (by decide) (w_aload_n rfl rfl (w_iload_n rfl rfl (w_aload_n rfl rfl (w_sipush rfl (sip_c rfl) k))))) ?_
    refine J_chk (fun hi2 => ?_)
    refine J.mono (fun k => w_iald rfl h_a2.1 h_a2.2 hi2.1 hi2.2 k) ?_
    refine J_c (fun r4 e3 => ?_)
    refine J_hyp (fun k => c_vi2 rfl (fun ho hM => cal_mo_hurry (by omega)  e3 ho hM) v_mo_hurry (Nat.le_of_ble_eq_true rfl) S_278 rfl (Nat.le_of_ble_eq_true rfl) k) (fun hr5 hb6 => ?_)
    exact J_some (fun k => w_ireturn rfl rfl k)
  · refine J_ite (fun hk7 => ?_) (fun hk7 => ?_)
    · refine J.mono (fun k => w_tabIn (off := 111) (tgt := 118) rfl (by omega) (by omega) (by rw [hk7] <;> rfl) (by decide) (w_aload_n rfl rfl (w_aload_n rfl rfl (w_sipush rfl (sip_c rfl) k)))) ?_
      refine J_chk (fun hi8 => ?_)
      refine J.mono (fun k => w_iald rfl h_a2.1 h_a2.2 hi8.1 hi8.2 k) ?_
      refine J_c (fun r10 e9 => ?_)
      refine J_hyp (fun k => c_vi1 rfl (fun ho hM => cal_mo_fliesIn (by omega)  e9 ho hM) v_mo_fliesIn (Nat.le_of_ble_eq_true rfl) S_278 rfl (Nat.le_of_ble_eq_true rfl) k) (fun hr11 hb12 => ?_)
      exact J_some (fun k => w_ireturn rfl rfl k)
    · refine J_ite (fun hk13 => ?_) (fun hk13 => ?_)
      · refine J.mono (fun k => w_tabIn (off := 85) (tgt := 92) rfl (by omega) (by omega) (by rw [hk13] <;> rfl) (by decide) (w_aload_n rfl rfl (w_iload rfl rfl k))) ?_
        refine J_chk (fun hi14 => ?_)
        refine J.mono (fun k => w_iald rfl h_a2.1 h_a2.2 hi14.1 hi14.2 k) ?_
        exact J_some (fun k => w_ireturn rfl rfl k)
      · refine J_ite (fun hk15 => ?_) (fun hk15 => ?_)
        · refine J.mono (fun k => w_tabIn (off := 138) (tgt := 145) rfl (by omega) (by omega) (by rw [hk15] <;> rfl) (by decide) (w_aload_n rfl rfl (w_iload rfl rfl (w_iconst rfl (inR_c rfl) (w_iadd rfl k))))) ?_
          refine J_chk (fun hi16 => ?_)
          refine J.mono (fun k => w_iald rfl h_a2.1 h_a2.2 hi16.1 hi16.2 (w_bipush rfl (bip_c rfl) (w_irem rfl (by decide) k))) ?_
          exact J_some (fun k => w_ireturn rfl rfl k)
        · refine J_ite (fun hk17 => ?_) (fun hk17 => ?_)
          · refine J.mono (fun k => w_tabIn (off := 132) (tgt := 139) rfl (by omega) (by omega) (by rw [hk17] <;> rfl) (by decide) (w_aload_n rfl rfl (w_sipush rfl (sip_c rfl) k))) ?_
            refine J_chk (fun hi18 => ?_)
            refine J.mono (fun k => w_iald rfl h_a2.1 h_a2.2 hi18.1 hi18.2 k) ?_
            exact J_some (fun k => w_ireturn rfl rfl k)
          · refine J_ite (fun hk19 => ?_) (fun hk19 => ?_)
            · refine J.mono (fun k => w_tabIn (off := 90) (tgt := 97) rfl (by omega) (by omega) (by rw [hk19] <;> rfl) (by decide) (w_aload_n rfl rfl (w_iload rfl rfl (w_iconst rfl (inR_c rfl) (w_iadd rfl k))))) ?_
              refine J_chk (fun hi20 => ?_)
              refine J.mono (fun k => w_iald rfl h_a2.1 h_a2.2 hi20.1 hi20.2 k) ?_
              exact J_some (fun k => w_ireturn rfl rfl k)
            · refine J_ite (fun hk21 => ?_) (fun hk21 => ?_)
              · refine J.mono (fun k => w_tabIn (off := 97) (tgt := 104) rfl (by omega) (by omega) (by rw [hk21] <;> rfl) (by decide) (w_aload_n rfl rfl (w_iload rfl rfl (w_iconst rfl (inR_c rfl) (w_iadd rfl (w_aload_n rfl rfl (w_iload rfl rfl (w_iconst rfl (inR_c rfl) (w_iadd rfl k))))))))) ?_
                refine J_chk (fun hi22 => ?_)
                refine J.mono (fun k => w_iald rfl h_a2.1 h_a2.2 hi22.1 hi22.2 (w_iadd rfl k)) ?_
                refine J_chk (fun hi23 => ?_)
                refine J.mono (fun k => w_iald rfl h_a2.1 h_a2.2 hi23.1 hi23.2 k) ?_
                exact J_some (fun k => w_ireturn rfl rfl k)
              · refine J.mono (fun k => w_tabDef (keys := [(99), (102), (104), (107), (109), (112), (116)]) (tgt := 155) rfl (by simp only [nokey]; exact ⟨hk1, hk7, hk13, hk15, hk17, hk19, hk21, trivial⟩) (by decide) (by decide) (w_iload_n rfl rfl k)) ?_
                exact J_some (fun k => w_ireturn rfl rfl k)
set_option maxRecDepth 20000 in
set_option maxHeartbeats 4000000 in
theorem cal_mo_letter {Δ : DT} {d : Nat} (hd : 2 ≤ d) {x1 : Int} {a2 : Nat} {x3 : Int} (h_a2 : isArr 0 (lenA a2) a2) {M : MEM} {r : Int} (h : mo_letter x1 a2 x3 M = some r) (ho : okVs [vR 278, vI x1, vR a2, vI x3]) (hM : okM M) : Cal Δ false m_mo_letter d [vR 278, vI x1, vR a2, vI x3] (NG, S0, M) (some r) (NG, S0, M) 0 0 := by
  obtain ⟨d, rfl⟩ : ∃ e, d = e + 1 := ⟨d - 1, by omega⟩
  exact cal_of g_mo_letter p_mo_letter (fun v hv => by simp only [List.mem_cons, List.not_mem_nil, or_false] at hv; rcases hv with rfl | rfl | rfl | rfl <;> first | exact Or.inl ⟨_, rfl⟩ | exact Or.inr ⟨_, rfl⟩) ho hM (Nat.le_of_ble_eq_true rfl) (fun Γ _ k => J_mo_letter hd h_a2 _ h k)
abbrev mdOf : Nat → MD := fun t => match t with
  | 0 => m_mo_held
  | 1 => m_mo_sum
  | 2 => m_mo_product
  | _ => m_mo_thing
/-- what the group's functions are to the machine, at a depth -/
def HREC (Δ : DT) (d : Nat) (rec : Nat → Int → MEM → Option (Int × MEM)) : Prop := ∀ (tag : Nat) (x : Int) (M : MEM) (p : Int × MEM), rec tag x M = some p → okVs [vR 278, vI x] → okM M → Cal Δ false (mdOf tag) d [vR 278, vI x] (NG, S0, M) (some p.1) (NG, S0, p.2) 0 0
set_option maxRecDepth 20000 in
set_option maxHeartbeats 4000000 in
theorem J_mo_thing_j142 {Δ : DT} {Γ : FT} {d : Nat} (hd : 3 ≤ d + 1) {rec : Nat → Int → MEM → Option (Int × MEM)} (hrec : HREC Δ d rec) {x2 : Int}  {M : MEM} : J (mo_thing_j142 rec x2 M) (K_IM Δ Γ m_mo_thing) (WAt Δ Γ false m_mo_thing (d + 1) 142 [vR (278), vN, vI (x2), vN] [] (NG, S0, M) 0 0) := by
  unfold mo_thing_j142
  refine J.mono (fun k => w_aload_n rfl rfl (w_dup rfl (fun _ h => by cases h) (w_getI rfl (Nat.le_of_ble_eq_true rfl) S_278 rfl (w_iconst rfl (inR_c rfl) (w_iadd rfl k))))) ?_
  refine J_b ?_
  refine J.mono (fun k => w_putI rfl (Nat.le_of_ble_eq_true rfl) S_278 rfl rfl (w_aload_n rfl rfl k)) ?_
  refine J_ite (fun hp22 => ?_) (fun hp22 => ?_)
  · refine J.mono (fun k => w_getN rfl (Nat.le_of_ble_eq_true rfl) S_278 rfl hp22 (w_nonnullN rfl (w_iconst rfl (inR_c rfl) (w_goto rfl k)))) ?_
    exact J_some (fun k => w_ireturn rfl rfl k)
  · refine J_chk (fun hp24 => ?_)
    refine J.mono (fun k => w_getD rfl (Nat.le_of_ble_eq_true rfl) S_278 rfl (dref_eq hp24.1) (w_nonnull rfl (w_aload_n rfl rfl (w_iload_n rfl rfl (w_aload_n rfl rfl k))))) ?_
    refine J_chk (fun hp25 => ?_)
    refine J.mono (fun k => w_getD rfl (Nat.le_of_ble_eq_true rfl) S_278 rfl (dref_eq hp25.1) (w_aload_n rfl rfl (w_getI rfl (Nat.le_of_ble_eq_true rfl) S_278 rfl k))) ?_
    refine J_c (fun r27 e26 => ?_)
    refine J_hyp (fun k => c_vi3 rfl (fun ho hM => cal_mo_letter (by omega) hp25.2 e26 ho hM) v_mo_letter (Nat.le_of_ble_eq_true rfl) S_278 rfl (Nat.le_of_ble_eq_true rfl) k) (fun hr28 hb29 => ?_)
    exact J_some (fun k => w_ireturn rfl rfl k)
set_option maxRecDepth 20000 in
set_option maxHeartbeats 4000000 in
theorem J_mo_thing_j67 {Δ : DT} {Γ : FT} {d : Nat} (hd : 3 ≤ d + 1) {rec : Nat → Int → MEM → Option (Int × MEM)} (hrec : HREC Δ d rec) {x2 : Int}  {M : MEM} : J (mo_thing_j67 rec x2 M) (K_IM Δ Γ m_mo_thing) (WAt Δ Γ false m_mo_thing (d + 1) 67 [vR (278), vN, vI (x2), vN] [] (NG, S0, M) 0 0) := by
  unfold mo_thing_j67
  refine J.mono (fun k => w_iload_n rfl rfl (w_bipush rfl (bip_c rfl) (w_bipush rfl (bip_c rfl) k))) ?_
  refine J_hyp (fun k => c_si3 rfl rfl (fun ho hM => cal_mo_in (by omega)   ho hM) v_mo_in (Nat.le_of_ble_eq_true rfl) k) (fun hr17 hb18 => ?_)
  refine J_ite (fun hc19 => ?_) (fun hc19 => ?_)
  · refine J.mono (fun k => s_if_eq_t rfl hc19 (w_iload_n rfl rfl (w_bipush rfl (bip_c rfl) k))) ?_
    refine J_ite (fun hc20 => ?_) (fun hc20 => ?_)
    · refine J.mono (fun k => s_icmp_eq_t rfl hc20 k) ?_
      exact J.mono (fun k => w_forget (wk_k (wk_d (wk_k (wk_d wk_0)))) k) (J_mo_thing_j142 hd hrec )
    · refine J.mono (fun k => s_icmp_eq_f rfl hc20 (w_iload_n rfl rfl (w_bipush rfl (bip_c rfl) k))) ?_
      refine J_ite (fun hc30 => ?_) (fun hc30 => ?_)
      · refine J.mono (fun k => s_icmp_eq_t rfl hc30 k) ?_
        exact J.mono (fun k => w_forget (wk_k (wk_d (wk_k (wk_d wk_0)))) k) (J_mo_thing_j142 hd hrec )
      · refine J.mono (fun k => s_icmp_eq_f rfl hc30 (w_iload_n rfl rfl (w_bipush rfl (bip_c rfl) k))) ?_
        refine J_ite (fun hc31 => ?_) (fun hc31 => ?_)
        · refine J.mono (fun k => s_icmp_eq_t rfl hc31 k) ?_
          exact J.mono (fun k => w_forget (wk_k (wk_d (wk_k (wk_d wk_0)))) k) (J_mo_thing_j142 hd hrec )
        · refine J.mono (fun k => s_icmp_eq_f rfl hc31 (w_iload_n rfl rfl (w_bipush rfl (bip_c rfl) k))) ?_
          refine J_ite (fun hc32 => ?_) (fun hc32 => ?_)
          · refine J.mono (fun k => s_icmp_eq_t rfl hc32 k) ?_
            exact J.mono (fun k => w_forget (wk_k (wk_d (wk_k (wk_d wk_0)))) k) (J_mo_thing_j142 hd hrec )
          · refine J.mono (fun k => s_icmp_eq_f rfl hc32 (w_iload_n rfl rfl (w_bipush rfl (bip_c rfl) k))) ?_
            refine J_ite (fun hc33 => ?_) (fun hc33 => ?_)
            · refine J.mono (fun k => s_icmp_eq_t rfl hc33 k) ?_
              exact J.mono (fun k => w_forget (wk_k (wk_d (wk_k (wk_d wk_0)))) k) (J_mo_thing_j142 hd hrec )
            · refine J.mono (fun k => s_icmp_eq_f rfl hc33 (w_iload_n rfl rfl (w_bipush rfl (bip_c rfl) k))) ?_
              refine J_ite (fun hc34 => ?_) (fun hc34 => ?_)
              · refine J.mono (fun k => s_icmp_eq_t rfl hc34 k) ?_
                exact J.mono (fun k => w_forget (wk_k (wk_d (wk_k (wk_d wk_0)))) k) (J_mo_thing_j142 hd hrec )
              · refine J.mono (fun k => s_icmp_eq_f rfl hc34 (w_iload_n rfl rfl (w_bipush rfl (bip_c rfl) k))) ?_
                refine J_ite (fun hc35 => ?_) (fun hc35 => ?_)
                · refine J.mono (fun k => s_icmp_eq_t rfl hc35 k) ?_
                  exact J.mono (fun k => w_forget (wk_k (wk_d (wk_k (wk_d wk_0)))) k) (J_mo_thing_j142 hd hrec )
                · refine J.mono (fun k => s_icmp_eq_f rfl hc35 (w_iload_n rfl rfl (w_bipush rfl (bip_c rfl) k))) ?_
                  refine J_ite (fun hc36 => ?_) (fun hc36 => ?_)
                  · refine J.mono (fun k => s_icmp_eq_t rfl hc36 k) ?_
                    exact J.mono (fun k => w_forget (wk_k (wk_d (wk_k (wk_d wk_0)))) k) (J_mo_thing_j142 hd hrec )
                  · refine J.mono (fun k => s_icmp_eq_f rfl hc36 (w_aload_n rfl rfl (w_aload_n rfl rfl (w_getI rfl (Nat.le_of_ble_eq_true rfl) S_278 rfl k)))) ?_
                    refine J_c (fun M38 e37 => ?_)
                    refine J.mono (fun k => c_vv1 rfl (fun ho hM => cal_mo_fault (by omega)  e37 ho hM) v_mo_fault (Nat.le_of_ble_eq_true rfl) S_278 rfl (Nat.le_of_ble_eq_true rfl) (w_iconst rfl (inR_c rfl) k)) ?_
                    exact J_some (fun k => w_ireturn rfl rfl k)
  · refine J.mono (fun k => s_if_eq_f rfl hc19 (w_aload_n rfl rfl (w_iconst rfl (inR_c rfl) k))) ?_
    refine J_c (fun p40 e39 => ?_)
    refine J_hyp (fun k => c_vi1 rfl (fun ho hM => cal_mo_number (by omega)  e39 ho hM) v_mo_number (Nat.le_of_ble_eq_true rfl) S_278 rfl (Nat.le_of_ble_eq_true rfl) k) (fun hr41 hb42 => ?_)
    exact J_some (fun k => w_ireturn rfl rfl k)
set_option maxRecDepth 20000 in
set_option maxHeartbeats 4000000 in
theorem J_mo_thing {Δ : DT} {Γ : FT} {d : Nat} (hd : 3 ≤ d + 1) {rec : Nat → Int → MEM → Option (Int × MEM)} (hrec : HREC Δ d rec) {x1 : Int}  {M : MEM} : J (mo_thing_o rec x1 M) (K_IM Δ Γ m_mo_thing) (WAt Δ Γ false m_mo_thing (d + 1) 0 [vR (278), vI (x1), vN, vN] [] (NG, S0, M) 0 0) := by
  unfold mo_thing_o
  refine J.mono (fun k => w_aload_n rfl rfl (w_bipush rfl (bip_c rfl) k)) ?_
  refine J_c (fun p2 e1 => ?_)
  refine J_hyp (fun k => c_vi1 rfl (fun ho hM => cal_mo_passes (by omega)  e1 ho hM) v_mo_passes (Nat.le_of_ble_eq_true rfl) S_278 rfl (Nat.le_of_ble_eq_true rfl) k) (fun hr3 hb4 => ?_)
  refine J_ite (fun hc5 => ?_) (fun hc5 => ?_)
  · refine J.mono (fun k => s_if_eq_t rfl hc5 (w_aload_n rfl rfl k)) ?_
    refine J_hyp (fun k => c_vi0 rfl (fun ho hM => cal_mo_fine (by omega)   ho hM) v_mo_fine (Nat.le_of_ble_eq_true rfl) S_278 rfl (Nat.le_of_ble_eq_true rfl) k) (fun hr7 hb8 => ?_)
    refine J_ite (fun hc9 => ?_) (fun hc9 => ?_)
    · refine J.mono (fun k => s_if_ne_f rfl hc9 (w_iconst rfl (inR_c rfl) k)) ?_
      exact J_some (fun k => w_ireturn rfl rfl k)
    · refine J.mono (fun k => s_if_ne_t rfl hc9 (w_aload_n rfl rfl k)) ?_
      refine J_c (fun r11 e10 => ?_)
      refine J_hyp (fun k => c_vi0 rfl (fun ho hM => cal_mo_here (by omega)  e10 ho hM) v_mo_here (Nat.le_of_ble_eq_true rfl) S_278 rfl (Nat.le_of_ble_eq_true rfl) k) (fun hr12 hb13 => ?_)
      refine J.mono (fun k => s_istore2 rfl (Nat.le_of_ble_eq_true rfl) (w_iload_n rfl rfl (w_bipush rfl (bip_c rfl) k))) ?_
      refine J_ite (fun hc14 => ?_) (fun hc14 => ?_)
      · refine J.mono (fun k => s_icmp_ne_f rfl hc14 (w_iload_n rfl rfl (w_iconst rfl (inR_c rfl) k))) ?_
        refine J_ite (fun hc15 => ?_) (fun hc15 => ?_)
        · refine J.mono (fun k => s_icmp_ge_t rfl hc15 k) ?_
          exact J.mono (fun k => w_forget (wk_k (wk_d (wk_k (wk_d wk_0)))) k) (J_mo_thing_j67 hd hrec )
        · refine J.mono (fun k => s_icmp_ge_f rfl hc15 (w_aload_n rfl rfl (w_dup rfl (fun _ h => by cases h) (w_getI rfl (Nat.le_of_ble_eq_true rfl) S_278 rfl (w_iconst rfl (inR_c rfl) (w_iadd rfl k)))))) ?_
          refine J_b ?_
          refine J.mono (fun k => w_putI rfl (Nat.le_of_ble_eq_true rfl) S_278 rfl rfl (w_aload_n rfl rfl (w_iload_n rfl rfl (w_iconst rfl (inR_c rfl) (w_iadd rfl k))))) ?_
          refine J_c (fun p45 e44 => ?_)
          refine J_hyp (fun k => c_vi1 rfl (fun ho hM => hrec _ _ _ _ e44 ho hM) v_mo_held (Nat.le_of_ble_eq_true rfl) S_278 rfl (Nat.le_of_ble_eq_true rfl) k) (fun hr46 hb47 => ?_)
          refine J.mono (fun k => s_istore3 rfl (Nat.le_of_ble_eq_true rfl) (w_aload_n rfl rfl (w_bipush rfl (bip_c rfl) k))) ?_
          refine J_c (fun M49 e48 => ?_)
          refine J.mono (fun k => c_vv1 rfl (fun ho hM => cal_mo_need (by omega)  e48 ho hM) v_mo_need (Nat.le_of_ble_eq_true rfl) S_278 rfl (Nat.le_of_ble_eq_true rfl) (w_iload_n rfl rfl k)) ?_
          exact J_some (fun k => w_ireturn rfl rfl k)
      · refine J.mono (fun k => s_icmp_ne_t rfl hc14 k) ?_
        exact J.mono (fun k => w_forget (wk_k (wk_d (wk_k (wk_d wk_0)))) k) (J_mo_thing_j67 hd hrec )
  · refine J.mono (fun k => s_if_eq_f rfl hc5 (w_aload_n rfl rfl (w_iload_n rfl rfl k))) ?_
    refine J_c (fun p51 e50 => ?_)
    refine J_hyp (fun k => c_vi1 rfl (fun ho hM => hrec _ _ _ _ e50 ho hM) v_mo_thing (Nat.le_of_ble_eq_true rfl) S_278 rfl (Nat.le_of_ble_eq_true rfl) k) (fun hr52 hb53 => ?_)
    refine J.mono (fun k => w_ineg rfl k) ?_
    exact J_some (fun k => w_ireturn rfl rfl k)
abbrev HD_mo_product_b6 (Δ : DT) (Γ : FT) (d : Nat) (x1 : Int) (s : Int × MEM) : Prop := WAt Δ Γ false m_mo_product (d + 1) 6 [vR (278), vI (x1), vI (s.1), vN, vN] [] (NG, S0, s.2) 0 0
abbrev X_mo_product_b6 (Δ : DT) (Γ : FT) (d : Nat) (x1 : Int) (s : Int × MEM) : Prop := WAt Δ Γ false m_mo_product (d + 1) 91 [vN, vN, vI (s.1), vN, vN] [] (NG, S0, s.2) 0 0
set_option maxRecDepth 20000 in
set_option maxHeartbeats 4000000 in
theorem J_mo_product_j87_6 {Δ : DT} {Γ : FT} {d : Nat} (hd : 3 ≤ d + 1) {rec : Nat → Int → MEM → Option (Int × MEM)} (hrec : HREC Δ d rec) {x1 : Int} {s0 : Int}  {M : MEM} : J (mo_product_j87_6 rec x1 s0 M) (Sum.elim (HD_mo_product_b6 Δ Γ d x1) (X_mo_product_b6 Δ Γ d x1)) (WAt Δ Γ false m_mo_product (d + 1) 87 [vR (278), vI (x1), vN, vN, vN] [vI (s0)] (NG, S0, M) 0 0) := by
  unfold mo_product_j87_6
  refine J.mono (fun k => s_istore2 rfl (Nat.le_of_ble_eq_true rfl) (w_goto rfl k)) ?_
  exact J_some (fun k => w_forget (wk_k (wk_k (wk_k (wk_d (wk_d wk_0))))) k)
set_option maxRecDepth 20000 in
set_option maxHeartbeats 4000000 in
theorem J_mo_product_j45_6 {Δ : DT} {Γ : FT} {d : Nat} (hd : 3 ≤ d + 1) {rec : Nat → Int → MEM → Option (Int × MEM)} (hrec : HREC Δ d rec) {x1 : Int} {x2 : Int} {s0 : Int}  {M : MEM} : J (mo_product_j45_6 rec x1 x2 s0 M) (Sum.elim (HD_mo_product_b6 Δ Γ d x1) (X_mo_product_b6 Δ Γ d x1)) (WAt Δ Γ false m_mo_product (d + 1) 45 [vR (278), vI (x1), vI (x2), vN, vN] [vI (s0)] (NG, S0, M) 0 0) := by
  unfold mo_product_j45_6
  refine J.mono (fun k => s_istore3 rfl (Nat.le_of_ble_eq_true rfl) (w_aload_n rfl rfl (w_dup rfl (fun _ h => by cases h) (w_getI rfl (Nat.le_of_ble_eq_true rfl) S_278 rfl (w_iconst rfl (inR_c rfl) (w_iadd rfl k)))))) ?_
  refine J_b ?_
  refine J.mono (fun k => w_putI rfl (Nat.le_of_ble_eq_true rfl) S_278 rfl rfl (w_aload_n rfl rfl (w_iload_n rfl rfl k))) ?_
  refine J_c (fun p21 e20 => ?_)
  refine J_hyp (fun k => c_vi1 rfl (fun ho hM => hrec _ _ _ _ e20 ho hM) v_mo_thing (Nat.le_of_ble_eq_true rfl) S_278 rfl (Nat.le_of_ble_eq_true rfl) k) (fun hr22 hb23 => ?_)
  refine J.mono (fun k => s_istore4 rfl (Nat.le_of_ble_eq_true rfl) (w_iload_n rfl rfl k)) ?_
  refine J_ite (fun hc24 => ?_) (fun hc24 => ?_)
  · refine J.mono (fun k => s_if_eq_t rfl hc24 (w_iload rfl rfl k)) ?_
    refine J_ite (fun hc25 => ?_) (fun hc25 => ?_)
    · refine J.mono (fun k => s_if_ne_f rfl hc25 (w_iconst rfl (inR_c rfl) (w_goto rfl k))) ?_
      exact J.mono (fun k => w_forget (wk_k (wk_k (wk_d (wk_d (wk_d wk_0))))) k) (J_mo_product_j87_6 hd hrec )
    · refine J.mono (fun k => s_if_ne_t rfl hc25 (w_iload_n rfl rfl (w_iload rfl rfl k))) ?_
      refine J_chn (fun hz26 => ?_)
      refine J.mono (fun k => w_idiv rfl hz26 k) ?_
      exact J.mono (fun k => w_forget (wk_k (wk_k (wk_d (wk_d (wk_d wk_0))))) k) (J_mo_product_j87_6 hd hrec )
  · refine J.mono (fun k => s_if_eq_f rfl hc24 (w_iload_n rfl rfl (w_iload rfl rfl (w_imul rfl (w_goto rfl k))))) ?_
    exact J.mono (fun k => w_forget (wk_k (wk_k (wk_d (wk_d (wk_d wk_0))))) k) (J_mo_product_j87_6 hd hrec )
set_option maxRecDepth 20000 in
set_option maxHeartbeats 4000000 in
theorem J_mo_product_j31_6 {Δ : DT} {Γ : FT} {d : Nat} (hd : 3 ≤ d + 1) {rec : Nat → Int → MEM → Option (Int × MEM)} (hrec : HREC Δ d rec) {x1 : Int} {x2 : Int}  {M : MEM} : J (mo_product_j31_6 rec x1 x2 M) (Sum.elim (HD_mo_product_b6 Δ Γ d x1) (X_mo_product_b6 Δ Γ d x1)) (WAt Δ Γ false m_mo_product (d + 1) 31 [vR (278), vI (x1), vI (x2), vN, vN] [] (NG, S0, M) 0 0) := by
  unfold mo_product_j31_6
  refine J.mono (fun k => w_aload_n rfl rfl k) ?_
  refine J_c (fun r15 e14 => ?_)
  refine J_hyp (fun k => c_vi0 rfl (fun ho hM => cal_mo_here (by omega)  e14 ho hM) v_mo_here (Nat.le_of_ble_eq_true rfl) S_278 rfl (Nat.le_of_ble_eq_true rfl) k) (fun hr16 hb17 => ?_)
  refine J.mono (fun k => w_bipush rfl (bip_c rfl) k) ?_
  refine J_ite (fun hc18 => ?_) (fun hc18 => ?_)
  · refine J.mono (fun k => s_icmp_ne_f rfl hc18 (w_iconst rfl (inR_c rfl) (w_goto rfl k))) ?_
    exact J.mono (fun k => w_forget (wk_k (wk_k (wk_k (wk_d (wk_d wk_0))))) k) (J_mo_product_j45_6 hd hrec )
  · refine J.mono (fun k => s_icmp_ne_t rfl hc18 (w_iconst rfl (inR_c rfl) k)) ?_
    exact J.mono (fun k => w_forget (wk_k (wk_k (wk_k (wk_d (wk_d wk_0))))) k) (J_mo_product_j45_6 hd hrec )
set_option maxRecDepth 20000 in
set_option maxHeartbeats 4000000 in
theorem Jb_mo_product_b6 {Δ : DT} {Γ : FT} {d : Nat} (hd : 3 ≤ d + 1) {rec : Nat → Int → MEM → Option (Int × MEM)} (hrec : HREC Δ d rec) {x1 : Int}  {x2 : Int} {M : MEM} : J (mo_product_b6 rec x1 x2 M) (Sum.elim (HD_mo_product_b6 Δ Γ d x1) (X_mo_product_b6 Δ Γ d x1)) (WAt Δ Γ false m_mo_product (d + 1) 6 [vR (278), vI (x1), vI (x2), vN, vN] [] (NG, S0, M) 0 0) := by
  unfold mo_product_b6
  refine J.mono (fun k => w_aload_n rfl rfl k) ?_
  refine J_hyp (fun k => c_vi0 rfl (fun ho hM => cal_mo_fine (by omega)   ho hM) v_mo_fine (Nat.le_of_ble_eq_true rfl) S_278 rfl (Nat.le_of_ble_eq_true rfl) k) (fun hr6 hb7 => ?_)
  refine J_ite (fun hc8 => ?_) (fun hc8 => ?_)
  · refine J.mono (fun k => s_if_eq_t rfl hc8 k) ?_
    exact J_some (fun k => w_forget (wk_d (wk_d (wk_k (wk_d (wk_d wk_0))))) k)
  · refine J.mono (fun k => s_if_eq_f rfl hc8 (w_aload_n rfl rfl k)) ?_
    refine J_c (fun r10 e9 => ?_)
    refine J_hyp (fun k => c_vi0 rfl (fun ho hM => cal_mo_here (by omega)  e9 ho hM) v_mo_here (Nat.le_of_ble_eq_true rfl) S_278 rfl (Nat.le_of_ble_eq_true rfl) k) (fun hr11 hb12 => ?_)
    refine J.mono (fun k => w_bipush rfl (bip_c rfl) k) ?_
    refine J_ite (fun hc13 => ?_) (fun hc13 => ?_)
    · refine J.mono (fun k => s_icmp_eq_t rfl hc13 k) ?_
      exact J.mono (fun k => w_forget (wk_k (wk_k (wk_k (wk_d (wk_d wk_0))))) k) (J_mo_product_j31_6 hd hrec )
    · refine J.mono (fun k => s_icmp_eq_f rfl hc13 (w_aload_n rfl rfl k)) ?_
      refine J_c (fun r28 e27 => ?_)
      refine J_hyp (fun k => c_vi0 rfl (fun ho hM => cal_mo_here (by omega)  e27 ho hM) v_mo_here (Nat.le_of_ble_eq_true rfl) S_278 rfl (Nat.le_of_ble_eq_true rfl) k) (fun hr29 hb30 => ?_)
      refine J.mono (fun k => w_bipush rfl (bip_c rfl) k) ?_
      refine J_ite (fun hc31 => ?_) (fun hc31 => ?_)
      · refine J.mono (fun k => s_icmp_ne_f rfl hc31 k) ?_
        exact J.mono (fun k => w_forget (wk_k (wk_k (wk_k (wk_d (wk_d wk_0))))) k) (J_mo_product_j31_6 hd hrec )
      · refine J.mono (fun k => s_icmp_ne_t rfl hc31 k) ?_
        exact J_some (fun k => w_forget (wk_d (wk_d (wk_k (wk_d (wk_d wk_0))))) k)
set_option maxRecDepth 20000 in
set_option maxHeartbeats 4000000 in
theorem Jl_mo_product_b6 {Δ : DT} {Γ : FT} {d : Nat} (hd : 3 ≤ d + 1) {rec : Nat → Int → MEM → Option (Int × MEM)} (hrec : HREC Δ d rec) {x1 : Int}   : ∀ (n : Nat) (s : Int × MEM), J (iter (fun s => mo_product_b6 rec x1 s.1 s.2) n s) (X_mo_product_b6 Δ Γ d x1) (HD_mo_product_b6 Δ Γ d x1 s) := J_iter (fun s => Jb_mo_product_b6 hd hrec )
set_option maxRecDepth 20000 in
set_option maxHeartbeats 4000000 in
theorem J_mo_product {Δ : DT} {Γ : FT} {d : Nat} (hd : 3 ≤ d + 1) {rec : Nat → Int → MEM → Option (Int × MEM)} (hrec : HREC Δ d rec) {x1 : Int}  {M : MEM} : J (mo_product_o rec x1 M) (K_IM Δ Γ m_mo_product) (WAt Δ Γ false m_mo_product (d + 1) 0 [vR (278), vI (x1), vN, vN, vN] [] (NG, S0, M) 0 0) := by
  unfold mo_product_o
  refine J.mono (fun k => w_aload_n rfl rfl (w_iload_n rfl rfl k)) ?_
  refine J_c (fun p2 e1 => ?_)
  refine J_hyp (fun k => c_vi1 rfl (fun ho hM => hrec _ _ _ _ e1 ho hM) v_mo_thing (Nat.le_of_ble_eq_true rfl) S_278 rfl (Nat.le_of_ble_eq_true rfl) k) (fun hr3 hb4 => ?_)
  refine J.mono (fun k => s_istore2 rfl (Nat.le_of_ble_eq_true rfl) k) ?_
  refine J.mono (fun k => w_forget (wk_k (wk_k (wk_k (wk_d (wk_d wk_0))))) k) ?_
  refine J_loop (Jl_mo_product_b6 hd hrec  _ _) (fun w32 => ?_)
  refine J.mono (fun k => w_iload_n rfl rfl k) ?_
  exact J_some (fun k => w_ireturn rfl rfl k)
abbrev HD_mo_sum_b6 (Δ : DT) (Γ : FT) (d : Nat) (x1 : Int) (s : Int × MEM) : Prop := WAt Δ Γ false m_mo_sum (d + 1) 6 [vR (278), vI (x1), vI (s.1), vN, vN] [] (NG, S0, s.2) 0 0
abbrev X_mo_sum_b6 (Δ : DT) (Γ : FT) (d : Nat) (x1 : Int) (s : Int × MEM) : Prop := WAt Δ Γ false m_mo_sum (d + 1) 82 [vN, vN, vI (s.1), vN, vN] [] (NG, S0, s.2) 0 0
set_option maxRecDepth 20000 in
set_option maxHeartbeats 4000000 in
theorem J_mo_sum_j78_6 {Δ : DT} {Γ : FT} {d : Nat} (hd : 3 ≤ d + 1) {rec : Nat → Int → MEM → Option (Int × MEM)} (hrec : HREC Δ d rec) {x1 : Int} {s0 : Int}  {M : MEM} : J (mo_sum_j78_6 rec x1 s0 M) (Sum.elim (HD_mo_sum_b6 Δ Γ d x1) (X_mo_sum_b6 Δ Γ d x1)) (WAt Δ Γ false m_mo_sum (d + 1) 78 [vR (278), vI (x1), vN, vN, vN] [vI (s0)] (NG, S0, M) 0 0) := by
  unfold mo_sum_j78_6
  refine J.mono (fun k => s_istore2 rfl (Nat.le_of_ble_eq_true rfl) (w_goto rfl k)) ?_
  exact J_some (fun k => w_forget (wk_k (wk_k (wk_k (wk_d (wk_d wk_0))))) k)
set_option maxRecDepth 20000 in
set_option maxHeartbeats 4000000 in
theorem J_mo_sum_j45_6 {Δ : DT} {Γ : FT} {d : Nat} (hd : 3 ≤ d + 1) {rec : Nat → Int → MEM → Option (Int × MEM)} (hrec : HREC Δ d rec) {x1 : Int} {x2 : Int} {s0 : Int}  {M : MEM} : J (mo_sum_j45_6 rec x1 x2 s0 M) (Sum.elim (HD_mo_sum_b6 Δ Γ d x1) (X_mo_sum_b6 Δ Γ d x1)) (WAt Δ Γ false m_mo_sum (d + 1) 45 [vR (278), vI (x1), vI (x2), vN, vN] [vI (s0)] (NG, S0, M) 0 0) := by
  unfold mo_sum_j45_6
  refine J.mono (fun k => s_istore3 rfl (Nat.le_of_ble_eq_true rfl) (w_aload_n rfl rfl (w_dup rfl (fun _ h => by cases h) (w_getI rfl (Nat.le_of_ble_eq_true rfl) S_278 rfl (w_iconst rfl (inR_c rfl) (w_iadd rfl k)))))) ?_
  refine J_b ?_
  refine J.mono (fun k => w_putI rfl (Nat.le_of_ble_eq_true rfl) S_278 rfl rfl (w_aload_n rfl rfl (w_iload_n rfl rfl k))) ?_
  refine J_c (fun p21 e20 => ?_)
  refine J_hyp (fun k => c_vi1 rfl (fun ho hM => hrec _ _ _ _ e20 ho hM) v_mo_product (Nat.le_of_ble_eq_true rfl) S_278 rfl (Nat.le_of_ble_eq_true rfl) k) (fun hr22 hb23 => ?_)
  refine J.mono (fun k => s_istore4 rfl (Nat.le_of_ble_eq_true rfl) (w_iload_n rfl rfl k)) ?_
  refine J_ite (fun hc24 => ?_) (fun hc24 => ?_)
  · refine J.mono (fun k => s_if_eq_t rfl hc24 (w_iload_n rfl rfl (w_iload rfl rfl (w_isub rfl k)))) ?_
    exact J.mono (fun k => w_forget (wk_k (wk_k (wk_d (wk_d (wk_d wk_0))))) k) (J_mo_sum_j78_6 hd hrec )
  · refine J.mono (fun k => s_if_eq_f rfl hc24 (w_iload_n rfl rfl (w_iload rfl rfl (w_iadd rfl (w_goto rfl k))))) ?_
    exact J.mono (fun k => w_forget (wk_k (wk_k (wk_d (wk_d (wk_d wk_0))))) k) (J_mo_sum_j78_6 hd hrec )
set_option maxRecDepth 20000 in
set_option maxHeartbeats 4000000 in
theorem J_mo_sum_j31_6 {Δ : DT} {Γ : FT} {d : Nat} (hd : 3 ≤ d + 1) {rec : Nat → Int → MEM → Option (Int × MEM)} (hrec : HREC Δ d rec) {x1 : Int} {x2 : Int}  {M : MEM} : J (mo_sum_j31_6 rec x1 x2 M) (Sum.elim (HD_mo_sum_b6 Δ Γ d x1) (X_mo_sum_b6 Δ Γ d x1)) (WAt Δ Γ false m_mo_sum (d + 1) 31 [vR (278), vI (x1), vI (x2), vN, vN] [] (NG, S0, M) 0 0) := by
  unfold mo_sum_j31_6
  refine J.mono (fun k => w_aload_n rfl rfl k) ?_
  refine J_c (fun r15 e14 => ?_)
  refine J_hyp (fun k => c_vi0 rfl (fun ho hM => cal_mo_here (by omega)  e14 ho hM) v_mo_here (Nat.le_of_ble_eq_true rfl) S_278 rfl (Nat.le_of_ble_eq_true rfl) k) (fun hr16 hb17 => ?_)
  refine J.mono (fun k => w_bipush rfl (bip_c rfl) k) ?_
  refine J_ite (fun hc18 => ?_) (fun hc18 => ?_)
  · refine J.mono (fun k => s_icmp_ne_f rfl hc18 (w_iconst rfl (inR_c rfl) (w_goto rfl k))) ?_
    exact J.mono (fun k => w_forget (wk_k (wk_k (wk_k (wk_d (wk_d wk_0))))) k) (J_mo_sum_j45_6 hd hrec )
  · refine J.mono (fun k => s_icmp_ne_t rfl hc18 (w_iconst rfl (inR_c rfl) k)) ?_
    exact J.mono (fun k => w_forget (wk_k (wk_k (wk_k (wk_d (wk_d wk_0))))) k) (J_mo_sum_j45_6 hd hrec )
set_option maxRecDepth 20000 in
set_option maxHeartbeats 4000000 in
theorem Jb_mo_sum_b6 {Δ : DT} {Γ : FT} {d : Nat} (hd : 3 ≤ d + 1) {rec : Nat → Int → MEM → Option (Int × MEM)} (hrec : HREC Δ d rec) {x1 : Int}  {x2 : Int} {M : MEM} : J (mo_sum_b6 rec x1 x2 M) (Sum.elim (HD_mo_sum_b6 Δ Γ d x1) (X_mo_sum_b6 Δ Γ d x1)) (WAt Δ Γ false m_mo_sum (d + 1) 6 [vR (278), vI (x1), vI (x2), vN, vN] [] (NG, S0, M) 0 0) := by
  unfold mo_sum_b6
  refine J.mono (fun k => w_aload_n rfl rfl k) ?_
  refine J_hyp (fun k => c_vi0 rfl (fun ho hM => cal_mo_fine (by omega)   ho hM) v_mo_fine (Nat.le_of_ble_eq_true rfl) S_278 rfl (Nat.le_of_ble_eq_true rfl) k) (fun hr6 hb7 => ?_)
  refine J_ite (fun hc8 => ?_) (fun hc8 => ?_)
  · refine J.mono (fun k => s_if_eq_t rfl hc8 k) ?_
    exact J_some (fun k => w_forget (wk_d (wk_d (wk_k (wk_d (wk_d wk_0))))) k)
  · refine J.mono (fun k => s_if_eq_f rfl hc8 (w_aload_n rfl rfl k)) ?_
    refine J_c (fun r10 e9 => ?_)
    refine J_hyp (fun k => c_vi0 rfl (fun ho hM => cal_mo_here (by omega)  e9 ho hM) v_mo_here (Nat.le_of_ble_eq_true rfl) S_278 rfl (Nat.le_of_ble_eq_true rfl) k) (fun hr11 hb12 => ?_)
    refine J.mono (fun k => w_bipush rfl (bip_c rfl) k) ?_
    refine J_ite (fun hc13 => ?_) (fun hc13 => ?_)
    · refine J.mono (fun k => s_icmp_eq_t rfl hc13 k) ?_
      exact J.mono (fun k => w_forget (wk_k (wk_k (wk_k (wk_d (wk_d wk_0))))) k) (J_mo_sum_j31_6 hd hrec )
    · refine J.mono (fun k => s_icmp_eq_f rfl hc13 (w_aload_n rfl rfl k)) ?_
      refine J_c (fun r26 e25 => ?_)
      refine J_hyp (fun k => c_vi0 rfl (fun ho hM => cal_mo_here (by omega)  e25 ho hM) v_mo_here (Nat.le_of_ble_eq_true rfl) S_278 rfl (Nat.le_of_ble_eq_true rfl) k) (fun hr27 hb28 => ?_)
      refine J.mono (fun k => w_bipush rfl (bip_c rfl) k) ?_
      refine J_ite (fun hc29 => ?_) (fun hc29 => ?_)
      · refine J.mono (fun k => s_icmp_ne_f rfl hc29 k) ?_
        exact J.mono (fun k => w_forget (wk_k (wk_k (wk_k (wk_d (wk_d wk_0))))) k) (J_mo_sum_j31_6 hd hrec )
      · refine J.mono (fun k => s_icmp_ne_t rfl hc29 k) ?_
        exact J_some (fun k => w_forget (wk_d (wk_d (wk_k (wk_d (wk_d wk_0))))) k)
set_option maxRecDepth 20000 in
set_option maxHeartbeats 4000000 in
theorem Jl_mo_sum_b6 {Δ : DT} {Γ : FT} {d : Nat} (hd : 3 ≤ d + 1) {rec : Nat → Int → MEM → Option (Int × MEM)} (hrec : HREC Δ d rec) {x1 : Int}   : ∀ (n : Nat) (s : Int × MEM), J (iter (fun s => mo_sum_b6 rec x1 s.1 s.2) n s) (X_mo_sum_b6 Δ Γ d x1) (HD_mo_sum_b6 Δ Γ d x1 s) := J_iter (fun s => Jb_mo_sum_b6 hd hrec )
set_option maxRecDepth 20000 in
set_option maxHeartbeats 4000000 in
theorem J_mo_sum {Δ : DT} {Γ : FT} {d : Nat} (hd : 3 ≤ d + 1) {rec : Nat → Int → MEM → Option (Int × MEM)} (hrec : HREC Δ d rec) {x1 : Int}  {M : MEM} : J (mo_sum_o rec x1 M) (K_IM Δ Γ m_mo_sum) (WAt Δ Γ false m_mo_sum (d + 1) 0 [vR (278), vI (x1), vN, vN, vN] [] (NG, S0, M) 0 0) := by
  unfold mo_sum_o
  refine J.mono (fun k => w_aload_n rfl rfl (w_iload_n rfl rfl k)) ?_
  refine J_c (fun p2 e1 => ?_)
  refine J_hyp (fun k => c_vi1 rfl (fun ho hM => hrec _ _ _ _ e1 ho hM) v_mo_product (Nat.le_of_ble_eq_true rfl) S_278 rfl (Nat.le_of_ble_eq_true rfl) k) (fun hr3 hb4 => ?_)
  refine J.mono (fun k => s_istore2 rfl (Nat.le_of_ble_eq_true rfl) k) ?_
  refine J.mono (fun k => w_forget (wk_k (wk_k (wk_k (wk_d (wk_d wk_0))))) k) ?_
  refine J_loop (Jl_mo_sum_b6 hd hrec  _ _) (fun w30 => ?_)
  refine J.mono (fun k => w_iload_n rfl rfl k) ?_
  exact J_some (fun k => w_ireturn rfl rfl k)
set_option maxRecDepth 20000 in
set_option maxHeartbeats 4000000 in
theorem J_mo_held {Δ : DT} {Γ : FT} {d : Nat} (hd : 3 ≤ d + 1) {rec : Nat → Int → MEM → Option (Int × MEM)} (hrec : HREC Δ d rec) {x1 : Int}  {M : MEM} : J (mo_held_o rec x1 M) (K_IM Δ Γ m_mo_held) (WAt Δ Γ false m_mo_held (d + 1) 0 [vR (278), vI (x1), vN] [] (NG, S0, M) 0 0) := by
  unfold mo_held_o
  refine J.mono (fun k => w_aload_n rfl rfl (w_iload_n rfl rfl k)) ?_
  refine J_c (fun p2 e1 => ?_)
  refine J_hyp (fun k => c_vi1 rfl (fun ho hM => hrec _ _ _ _ e1 ho hM) v_mo_sum (Nat.le_of_ble_eq_true rfl) S_278 rfl (Nat.le_of_ble_eq_true rfl) k) (fun hr3 hb4 => ?_)
  refine J.mono (fun k => s_istore2 rfl (Nat.le_of_ble_eq_true rfl) (w_aload_n rfl rfl (w_bipush rfl (bip_c rfl) k))) ?_
  refine J_c (fun p6 e5 => ?_)
  refine J_hyp (fun k => c_vi1 rfl (fun ho hM => cal_mo_passes (by omega)  e5 ho hM) v_mo_passes (Nat.le_of_ble_eq_true rfl) S_278 rfl (Nat.le_of_ble_eq_true rfl) k) (fun hr7 hb8 => ?_)
  refine J_ite (fun hc9 => ?_) (fun hc9 => ?_)
  · refine J.mono (fun k => s_if_eq_t rfl hc9 (w_aload_n rfl rfl (w_bipush rfl (bip_c rfl) k))) ?_
    refine J_c (fun p11 e10 => ?_)
    refine J_hyp (fun k => c_vi1 rfl (fun ho hM => cal_mo_passes (by omega)  e10 ho hM) v_mo_passes (Nat.le_of_ble_eq_true rfl) S_278 rfl (Nat.le_of_ble_eq_true rfl) k) (fun hr12 hb13 => ?_)
    refine J_ite (fun hc14 => ?_) (fun hc14 => ?_)
    · refine J.mono (fun k => s_if_eq_t rfl hc14 (w_aload_n rfl rfl (w_bipush rfl (bip_c rfl) k))) ?_
      refine J_c (fun p16 e15 => ?_)
      refine J_hyp (fun k => c_vi1 rfl (fun ho hM => cal_mo_passes (by omega)  e15 ho hM) v_mo_passes (Nat.le_of_ble_eq_true rfl) S_278 rfl (Nat.le_of_ble_eq_true rfl) k) (fun hr17 hb18 => ?_)
      refine J_ite (fun hc19 => ?_) (fun hc19 => ?_)
      · refine J.mono (fun k => s_if_eq_t rfl hc19 (w_iload_n rfl rfl k)) ?_
        exact J_some (fun k => w_ireturn rfl rfl k)
      · refine J.mono (fun k => s_if_eq_f rfl hc19 (w_iload_n rfl rfl (w_aload_n rfl rfl (w_iload_n rfl rfl k)))) ?_
        refine J_c (fun p21 e20 => ?_)
        refine J_hyp (fun k => c_vi1 rfl (fun ho hM => hrec _ _ _ _ e20 ho hM) v_mo_sum (Nat.le_of_ble_eq_true rfl) S_278 rfl (Nat.le_of_ble_eq_true rfl) k) (fun hr22 hb23 => ?_)
        refine J_ite (fun hc24 => ?_) (fun hc24 => ?_)
        · refine J.mono (fun k => s_icmp_ne_f rfl hc24 (w_iconst rfl (inR_c rfl) (w_goto rfl k))) ?_
          exact J_some (fun k => w_ireturn rfl rfl k)
        · refine J.mono (fun k => s_icmp_ne_t rfl hc24 (w_iconst rfl (inR_c rfl) k)) ?_
          exact J_some (fun k => w_ireturn rfl rfl k)
    · refine J.mono (fun k => s_if_eq_f rfl hc14 (w_iload_n rfl rfl (w_aload_n rfl rfl (w_iload_n rfl rfl k)))) ?_
      refine J_c (fun p26 e25 => ?_)
      refine J_hyp (fun k => c_vi1 rfl (fun ho hM => hrec _ _ _ _ e25 ho hM) v_mo_sum (Nat.le_of_ble_eq_true rfl) S_278 rfl (Nat.le_of_ble_eq_true rfl) k) (fun hr27 hb28 => ?_)
      refine J_ite (fun hc29 => ?_) (fun hc29 => ?_)
      · refine J.mono (fun k => s_icmp_le_t rfl hc29 (w_iconst rfl (inR_c rfl) k)) ?_
        exact J_some (fun k => w_ireturn rfl rfl k)
      · refine J.mono (fun k => s_icmp_le_f rfl hc29 (w_iconst rfl (inR_c rfl) (w_goto rfl k))) ?_
        exact J_some (fun k => w_ireturn rfl rfl k)
  · refine J.mono (fun k => s_if_eq_f rfl hc9 (w_iload_n rfl rfl (w_aload_n rfl rfl (w_iload_n rfl rfl k)))) ?_
    refine J_c (fun p31 e30 => ?_)
    refine J_hyp (fun k => c_vi1 rfl (fun ho hM => hrec _ _ _ _ e30 ho hM) v_mo_sum (Nat.le_of_ble_eq_true rfl) S_278 rfl (Nat.le_of_ble_eq_true rfl) k) (fun hr32 hb33 => ?_)
    refine J_ite (fun hc34 => ?_) (fun hc34 => ?_)
    · refine J.mono (fun k => s_icmp_ge_t rfl hc34 (w_iconst rfl (inR_c rfl) k)) ?_
      exact J_some (fun k => w_ireturn rfl rfl k)
    · refine J.mono (fun k => s_icmp_ge_f rfl hc34 (w_iconst rfl (inR_c rfl) (w_goto rfl k))) ?_
      exact J_some (fun k => w_ireturn rfl rfl k)
set_option maxRecDepth 20000 in
theorem hrec_of {Δ : DT} : ∀ (n d : Nat), 3 + n ≤ d → HREC Δ d (mo_rec n) := by
  intro n
  induction n with
  | zero => intro d _ tag x M p h; cases h
  | succ n ih =>
    intro d hd tag x M p h ho hM
    obtain ⟨d, rfl⟩ : ∃ e, d = e + 1 := ⟨d - 1, by omega⟩
    have hr : HREC Δ d (mo_rec n) := ih d (by omega)
    match tag, h with
    | 0, h => exact cal_of g_mo_held p_mo_held (fun v hv => by simp only [List.mem_cons, List.not_mem_nil, or_false] at hv; rcases hv with rfl | rfl <;> first | exact Or.inl ⟨_, rfl⟩ | exact Or.inr ⟨_, rfl⟩) ho hM (Nat.le_of_ble_eq_true rfl) (fun Γ _ k => J_mo_held (by omega) hr _ h k)
    | 1, h => exact cal_of g_mo_sum p_mo_sum (fun v hv => by simp only [List.mem_cons, List.not_mem_nil, or_false] at hv; rcases hv with rfl | rfl <;> first | exact Or.inl ⟨_, rfl⟩ | exact Or.inr ⟨_, rfl⟩) ho hM (Nat.le_of_ble_eq_true rfl) (fun Γ _ k => J_mo_sum (by omega) hr _ h k)
    | 2, h => exact cal_of g_mo_product p_mo_product (fun v hv => by simp only [List.mem_cons, List.not_mem_nil, or_false] at hv; rcases hv with rfl | rfl <;> first | exact Or.inl ⟨_, rfl⟩ | exact Or.inr ⟨_, rfl⟩) ho hM (Nat.le_of_ble_eq_true rfl) (fun Γ _ k => J_mo_product (by omega) hr _ h k)
    | t + 3, h => exact cal_of g_mo_thing p_mo_thing (fun v hv => by simp only [List.mem_cons, List.not_mem_nil, or_false] at hv; rcases hv with rfl | rfl <;> first | exact Or.inl ⟨_, rfl⟩ | exact Or.inr ⟨_, rfl⟩) ho hM (Nat.le_of_ble_eq_true rfl) (fun Γ _ k => J_mo_thing (by omega) hr _ h k)
theorem cal_rec0 {Δ : DT} {d : Nat} (hd : 73 ≤ d) {x : Int} {M : MEM} {p : Int × MEM} (h : mo_rec RF 0 x M = some p) (ho : okVs [vR 278, vI x]) (hM : okM M) : Cal Δ false m_mo_held d [vR 278, vI x] (NG, S0, M) (some p.1) (NG, S0, p.2) 0 0 := hrec_of RF d (by unfold RF; omega) 0 x M p h ho hM
theorem cal_rec1 {Δ : DT} {d : Nat} (hd : 73 ≤ d) {x : Int} {M : MEM} {p : Int × MEM} (h : mo_rec RF 1 x M = some p) (ho : okVs [vR 278, vI x]) (hM : okM M) : Cal Δ false m_mo_sum d [vR 278, vI x] (NG, S0, M) (some p.1) (NG, S0, p.2) 0 0 := hrec_of RF d (by unfold RF; omega) 1 x M p h ho hM
theorem cal_rec2 {Δ : DT} {d : Nat} (hd : 73 ≤ d) {x : Int} {M : MEM} {p : Int × MEM} (h : mo_rec RF 2 x M = some p) (ho : okVs [vR 278, vI x]) (hM : okM M) : Cal Δ false m_mo_product d [vR 278, vI x] (NG, S0, M) (some p.1) (NG, S0, p.2) 0 0 := hrec_of RF d (by unfold RF; omega) 2 x M p h ho hM
theorem cal_rec3 {Δ : DT} {d : Nat} (hd : 73 ≤ d) {x : Int} {M : MEM} {p : Int × MEM} (h : mo_rec RF 3 x M = some p) (ho : okVs [vR 278, vI x]) (hM : okM M) : Cal Δ false m_mo_thing d [vR 278, vI x] (NG, S0, M) (some p.1) (NG, S0, p.2) 0 0 := hrec_of RF d (by unfold RF; omega) 3 x M p h ho hM

abbrev HD_mo_rule_b73 (Δ : DT) (Γ : FT) (d : Nat) (x1 : Int) (s : Int × MEM) : Prop := WAt Δ Γ false m_mo_rule (d + 1) 73 [vR (278), vI (x1), vI (s.1)] [] (NG, S0, s.2) 0 0
abbrev X_mo_rule_b73 (Δ : DT) (Γ : FT) (d : Nat) (x1 : Int) (s : Int × MEM) : Prop := WAt Δ Γ false m_mo_rule (d + 1) 96 [vR (278), vI (x1), vN] [] (NG, S0, s.2) 0 0
set_option maxRecDepth 20000 in
set_option maxHeartbeats 4000000 in
theorem Jb_mo_rule_b73 {Δ : DT} {Γ : FT} {d : Nat} (hd : 74 ≤ d + 1) {x1 : Int}  {x2 : Int} {M : MEM} : J (mo_rule_b73 x1 x2 M) (Sum.elim (HD_mo_rule_b73 Δ Γ d x1) (X_mo_rule_b73 Δ Γ d x1)) (WAt Δ Γ false m_mo_rule (d + 1) 73 [vR (278), vI (x1), vI (x2)] [] (NG, S0, M) 0 0) := by
  unfold mo_rule_b73
  refine J.mono (fun k => w_iload_n rfl rfl (w_iload_n rfl rfl k)) ?_
  refine J_ite (fun hc7 => ?_) (fun hc7 => ?_)
  · refine J.mono (fun k => s_icmp_ge_t rfl hc7 k) ?_
    exact J_some (fun k => w_forget (wk_k (wk_k (wk_d wk_0))) k)
  · refine J.mono (fun k => s_icmp_ge_f rfl hc7 (w_aload_n rfl rfl (w_getR (r := 286) rfl (Nat.le_of_ble_eq_true rfl) S_278 rfl (w_iload_n rfl rfl (w_aload_n rfl rfl (w_getR (r := 283) rfl (Nat.le_of_ble_eq_true rfl) S_278 rfl (w_iload_n rfl rfl k))))))) ?_
    refine J_chk (fun hi8 => ?_)
    refine J.mono (fun k => w_bald rfl A_283.1 A_283.2 hi8.1 hi8.2 k) ?_
    refine J_chk (fun hi10 => ?_)
    refine J_b ?_
    refine J.mono (fun k => w_bast rfl A_286.1 A_286.2 hi10.1 hi10.2 rfl (s_iinc2 rfl (Nat.le_of_ble_eq_true rfl) (w_goto rfl k))) ?_
    exact J_some (fun k => w_forget (wk_k (wk_k (wk_k wk_0))) k)
set_option maxRecDepth 20000 in
set_option maxHeartbeats 4000000 in
theorem Jl_mo_rule_b73 {Δ : DT} {Γ : FT} {d : Nat} (hd : 74 ≤ d + 1) {x1 : Int}   : ∀ (n : Nat) (s : Int × MEM), J (iter (fun s => mo_rule_b73 x1 s.1 s.2) n s) (X_mo_rule_b73 Δ Γ d x1) (HD_mo_rule_b73 Δ Γ d x1 s) := J_iter (fun s => Jb_mo_rule_b73 hd )
set_option maxRecDepth 20000 in
set_option maxHeartbeats 4000000 in
theorem J_mo_rule_j71 {Δ : DT} {Γ : FT} {d : Nat} (hd : 74 ≤ d + 1) {x1 : Int}  {M : MEM} : J (mo_rule_j71 x1 M) (K_IM Δ Γ m_mo_rule) (WAt Δ Γ false m_mo_rule (d + 1) 71 [vR (278), vI (x1), vN] [] (NG, S0, M) 0 0) := by
  unfold mo_rule_j71
  refine J.mono (fun k => w_iconst rfl (inR_c rfl) (s_istore2 rfl (Nat.le_of_ble_eq_true rfl) k)) ?_
  refine J.mono (fun k => w_forget (wk_k (wk_k (wk_k wk_0))) k) ?_
  refine J_loop (Jl_mo_rule_b73 hd  _ _) (fun w11 => ?_)
  refine J.mono (fun k => w_aload_n rfl rfl (w_iload_n rfl rfl k)) ?_
  refine J_b ?_
  refine J.mono (fun k => w_putI rfl (Nat.le_of_ble_eq_true rfl) S_278 rfl rfl (w_iconst rfl (inR_c rfl) k)) ?_
  exact J_some (fun k => w_ireturn rfl rfl k)
set_option maxRecDepth 20000 in
set_option maxHeartbeats 4000000 in
theorem J_mo_rule_j57 {Δ : DT} {Γ : FT} {d : Nat} (hd : 74 ≤ d + 1) {x1 : Int}  {M : MEM} : J (mo_rule_j57 x1 M) (K_IM Δ Γ m_mo_rule) (WAt Δ Γ false m_mo_rule (d + 1) 57 [vR (278), vI (x1), vN] [] (NG, S0, M) 0 0) := by
  unfold mo_rule_j57
  refine J.mono (fun k => w_aload_n rfl rfl k) ?_
  refine J_hyp (fun k => c_vi0 rfl (fun ho hM => cal_mo_fine (by omega)   ho hM) v_mo_fine (Nat.le_of_ble_eq_true rfl) S_278 rfl (Nat.le_of_ble_eq_true rfl) k) (fun hr19 hb20 => ?_)
  refine J_ite (fun hc21 => ?_) (fun hc21 => ?_)
  · refine J.mono (fun k => s_if_ne_f rfl hc21 (w_iconst rfl (inR_c rfl) (w_aload_n rfl rfl (w_getI rfl (Nat.le_of_ble_eq_true rfl) S_278 rfl (w_isub rfl k))))) ?_
    exact J_some (fun k => w_ireturn rfl rfl k)
  · refine J.mono (fun k => s_if_ne_t rfl hc21 k) ?_
    exact J.mono (fun k => w_forget (wk_k (wk_k (wk_d wk_0))) k) (J_mo_rule_j71 hd )
set_option maxRecDepth 20000 in
set_option maxHeartbeats 4000000 in
theorem J_mo_rule {Δ : DT} {Γ : FT} {d : Nat} (hd : 74 ≤ d + 1)   {M : MEM} : J (mo_rule M) (K_IM Δ Γ m_mo_rule) (WAt Δ Γ false m_mo_rule (d + 1) 0 [vR (278), vN, vN] [] (NG, S0, M) 0 0) := by
  unfold mo_rule
  refine J.mono (fun k => w_aload_n rfl rfl (w_iconst rfl (inR_c rfl) k)) ?_
  refine J_b ?_
  refine J.mono (fun k => w_putI rfl (Nat.le_of_ble_eq_true rfl) S_278 rfl rfl (w_aload_n rfl rfl (w_getI rfl (Nat.le_of_ble_eq_true rfl) S_278 rfl (s_istore1 rfl (Nat.le_of_ble_eq_true rfl) (w_aload_n rfl rfl (w_aload_n rfl rfl (w_getR (r := 283) rfl (Nat.le_of_ble_eq_true rfl) S_278 rfl (w_iload_n rfl rfl (w_bipush rfl (bip_c rfl) k))))))))) ?_
  refine J_c (fun M3 e2 => ?_)
  refine J.mono (fun k => c_vv3 rfl (fun ho hM => cal_mo_begin (by omega) (isArr_len A_283) e2 ho hM) v_mo_begin (Nat.le_of_ble_eq_true rfl) S_278 rfl (Nat.le_of_ble_eq_true rfl) (w_aload_n rfl rfl (w_iconst rfl (inR_c rfl) k))) ?_
  refine J_b ?_
  refine J.mono (fun k => w_putI rfl (Nat.le_of_ble_eq_true rfl) S_278 rfl rfl (w_aload_n rfl rfl (w_null rfl k))) ?_
  refine J_b ?_
  refine J.mono (fun k => w_putN rfl (Nat.le_of_ble_eq_true rfl) S_278 rfl rfl pfd_aI (w_iload_n rfl rfl k)) ?_
  refine J_ite (fun hc6 => ?_) (fun hc6 => ?_)
  · refine J.mono (fun k => s_if_le_t rfl hc6 k) ?_
    exact J.mono (fun k => w_forget (wk_k (wk_k (wk_d wk_0))) k) (J_mo_rule_j71 hd )
  · refine J.mono (fun k => s_if_le_f rfl hc6 (w_aload_n rfl rfl (w_iconst rfl (inR_c rfl) k))) ?_
    refine J_c (fun p14 e13 => ?_)
    refine J_hyp (fun k => c_vi1 rfl (fun ho hM => cal_rec0 (by omega) e13 ho hM) v_mo_held (Nat.le_of_ble_eq_true rfl) S_278 rfl (Nat.le_of_ble_eq_true rfl) k) (fun hr15 hb16 => ?_)
    refine J.mono (fun k => w_pop rfl (fun _ h => by cases h) (w_aload_n rfl rfl (w_getI rfl (Nat.le_of_ble_eq_true rfl) S_278 rfl (w_iload_n rfl rfl k)))) ?_
    refine J_ite (fun hc17 => ?_) (fun hc17 => ?_)
    · refine J.mono (fun k => s_icmp_ge_t rfl hc17 k) ?_
      exact J.mono (fun k => w_forget (wk_k (wk_k (wk_d wk_0))) k) (J_mo_rule_j57 hd )
    · refine J.mono (fun k => s_icmp_ge_f rfl hc17 (w_aload_n rfl rfl (w_aload_n rfl rfl (w_getI rfl (Nat.le_of_ble_eq_true rfl) S_278 rfl k)))) ?_
      refine J_c (fun M23 e22 => ?_)
      refine J.mono (fun k => c_vv1 rfl (fun ho hM => cal_mo_fault (by omega)  e22 ho hM) v_mo_fault (Nat.le_of_ble_eq_true rfl) S_278 rfl (Nat.le_of_ble_eq_true rfl) k) ?_
      exact J.mono (fun k => w_forget (wk_k (wk_k (wk_d wk_0))) k) (J_mo_rule_j57 hd )
set_option maxRecDepth 20000 in
set_option maxHeartbeats 4000000 in
theorem cal_mo_rule {Δ : DT} {d : Nat} (hd : 74 ≤ d)   {M : MEM} {p : Int × MEM} (h : mo_rule M = some p) (ho : okVs [vR 278]) (hM : okM M) : Cal Δ false m_mo_rule d [vR 278] (NG, S0, M) (some p.1) (NG, S0, p.2) 0 0 := by
  obtain ⟨d, rfl⟩ : ∃ e, d = e + 1 := ⟨d - 1, by omega⟩
  exact cal_of g_mo_rule p_mo_rule (fun v hv => by simp only [List.mem_cons, List.not_mem_nil, or_false] at hv; rcases hv with rfl <;> first | exact Or.inl ⟨_, rfl⟩ | exact Or.inr ⟨_, rfl⟩) ho hM (Nat.le_of_ble_eq_true rfl) (fun Γ _ k => J_mo_rule hd  _ h k)
abbrev HD_mo_allThistles_b4 (Δ : DT) (Γ : FT) (d : Nat) (a0 : Nat) (x1 : Int) (M : MEM) (s : Int × Int) : Prop := WAt Δ Γ false m_mo_allThistles d 4 [vR (a0), vI (x1), vI (s.1), vI (s.2)] [] (NG, S0, M) 0 0
abbrev X_mo_allThistles_b4 (Δ : DT) (Γ : FT) (d : Nat) (a0 : Nat) (x1 : Int) (M : MEM) (s : Int × Int) : Prop := WAt Δ Γ false m_mo_allThistles d 29 [vN, vN, vI (s.1), vN] [] (NG, S0, M) 0 0
set_option maxRecDepth 20000 in
set_option maxHeartbeats 4000000 in
theorem Jb_mo_allThistles_b4 {Δ : DT} {Γ : FT} {d : Nat} {a0 : Nat} {x1 : Int} (h_a0 : isArr 0 (lenA a0) a0) {x2 : Int} {x3 : Int} {M : MEM} : J (mo_allThistles_b4 a0 x1 x2 x3 M) (Sum.elim (HD_mo_allThistles_b4 Δ Γ d a0 x1 M) (X_mo_allThistles_b4 Δ Γ d a0 x1 M)) (WAt Δ Γ false m_mo_allThistles d 4 [vR (a0), vI (x1), vI (x2), vI (x3)] [] (NG, S0, M) 0 0) := by
  unfold mo_allThistles_b4
  refine J.mono (fun k => w_iload_n rfl rfl (w_bipush rfl (bip_c rfl) k)) ?_
  refine J_ite (fun hc1 => ?_) (fun hc1 => ?_)
  · refine J.mono (fun k => s_icmp_ge_t rfl hc1 k) ?_
    exact J_some (fun k => w_forget (wk_d (wk_d (wk_k (wk_d wk_0)))) k)
  · refine J.mono (fun k => s_icmp_ge_f rfl hc1 (w_iload_n rfl rfl (w_aload_n rfl rfl (w_bipush rfl (bip_c rfl) (w_iload_n rfl rfl (w_imul rfl (w_iconst rfl (inR_c rfl) (w_iadd rfl (w_iload_n rfl rfl (w_iadd rfl k)))))))))) ?_
    refine J_chk (fun hi2 => ?_)
    refine J.mono (fun k => w_iald rfl h_a0.1 h_a0.2 hi2.1 hi2.2 (w_iadd rfl (s_istore2 rfl (Nat.le_of_ble_eq_true rfl) (s_iinc3 rfl (Nat.le_of_ble_eq_true rfl) (w_goto rfl k))))) ?_
    exact J_some (fun k => w_forget (wk_k (wk_k (wk_k (wk_k wk_0)))) k)
set_option maxRecDepth 20000 in
set_option maxHeartbeats 4000000 in
theorem Jl_mo_allThistles_b4 {Δ : DT} {Γ : FT} {d : Nat} {a0 : Nat} {x1 : Int} (h_a0 : isArr 0 (lenA a0) a0) {M : MEM} : ∀ (n : Nat) (s : Int × Int), J (iter (fun s => mo_allThistles_b4 a0 x1 s.1 s.2 M) n s) (X_mo_allThistles_b4 Δ Γ d a0 x1 M) (HD_mo_allThistles_b4 Δ Γ d a0 x1 M s) := J_iter (fun s => Jb_mo_allThistles_b4 h_a0)
set_option maxRecDepth 20000 in
set_option maxHeartbeats 4000000 in
theorem J_mo_allThistles {Δ : DT} {Γ : FT} {d : Nat} {a0 : Nat} {x1 : Int} (h_a0 : isArr 0 (lenA a0) a0) {M : MEM} : J (mo_allThistles a0 x1 M) (K_I Δ Γ m_mo_allThistles M) (WAt Δ Γ false m_mo_allThistles d 0 [vR (a0), vI (x1), vN, vN] [] (NG, S0, M) 0 0) := by
  unfold mo_allThistles
  refine J.mono (fun k => w_iconst rfl (inR_c rfl) (s_istore2 rfl (Nat.le_of_ble_eq_true rfl) (w_iconst rfl (inR_c rfl) (s_istore3 rfl (Nat.le_of_ble_eq_true rfl) k)))) ?_
  refine J.mono (fun k => w_forget (wk_k (wk_k (wk_k (wk_k wk_0)))) k) ?_
  refine J_loop (Jl_mo_allThistles_b4 h_a0 _ _) (fun w3 => ?_)
  refine J.mono (fun k => w_iload_n rfl rfl k) ?_
  exact J_some (fun k => w_ireturn rfl rfl k)
set_option maxRecDepth 20000 in
set_option maxHeartbeats 4000000 in
theorem cal_mo_allThistles {Δ : DT} {d : Nat} (hd : 0 ≤ d) {a0 : Nat} {x1 : Int} (h_a0 : isArr 0 (lenA a0) a0) {M : MEM} {r : Int} (h : mo_allThistles a0 x1 M = some r) (ho : okVs [vR a0, vI x1]) (hM : okM M) : Cal Δ false m_mo_allThistles d [vR a0, vI x1] (NG, S0, M) (some r) (NG, S0, M) 0 0 := by
  exact cal_of g_mo_allThistles p_mo_allThistles (fun v hv => by simp only [List.mem_cons, List.not_mem_nil, or_false] at hv; rcases hv with rfl | rfl <;> first | exact Or.inl ⟨_, rfl⟩ | exact Or.inr ⟨_, rfl⟩) ho hM (Nat.le_of_ble_eq_true rfl) (fun Γ _ k => J_mo_allThistles h_a0 _ h k)
set_option maxRecDepth 20000 in
set_option maxHeartbeats 4000000 in
theorem J_mo_isDonkey {Δ : DT} {Γ : FT} {d : Nat} (hd : 1 ≤ d + 1) {x1 : Int}  {M : MEM} : J (some (mo_isDonkey x1 M)) (K_I Δ Γ m_mo_isDonkey M) (WAt Δ Γ false m_mo_isDonkey (d + 1) 0 [vR (278), vI (x1)] [] (NG, S0, M) 0 0) := by
  unfold mo_isDonkey
  refine J.mono (fun k => w_iload_n rfl rfl (w_iconst rfl (inR_c rfl) (w_aload_n rfl rfl (w_getI rfl (Nat.le_of_ble_eq_true rfl) S_278 rfl (w_iconst rfl (inR_c rfl) (w_isub rfl k)))))) ?_
  refine J_hyp (fun k => c_si3 rfl rfl (fun ho hM => cal_mo_in (by omega)   ho hM) v_mo_in (Nat.le_of_ble_eq_true rfl) k) (fun hr2 hb3 => ?_)
  exact J_some (fun k => w_zreturn rfl rfl (hb3 rfl) k)
set_option maxRecDepth 20000 in
set_option maxHeartbeats 4000000 in
theorem cal_mo_isDonkey {Δ : DT} {d : Nat} (hd : 1 ≤ d) {x1 : Int}  {M : MEM} (ho : okVs [vR 278, vI x1]) (hM : okM M) : Cal Δ false m_mo_isDonkey d [vR 278, vI x1] (NG, S0, M) (some (mo_isDonkey x1 M)) (NG, S0, M) 0 0 := by
  obtain ⟨d, rfl⟩ : ∃ e, d = e + 1 := ⟨d - 1, by omega⟩
  exact cal_of g_mo_isDonkey p_mo_isDonkey (fun v hv => by simp only [List.mem_cons, List.not_mem_nil, or_false] at hv; rcases hv with rfl | rfl <;> first | exact Or.inl ⟨_, rfl⟩ | exact Or.inr ⟨_, rfl⟩) ho hM (Nat.le_of_ble_eq_true rfl) (fun Γ _ k => J_mo_isDonkey hd  _ rfl k)
set_option maxRecDepth 20000 in
set_option maxHeartbeats 4000000 in
theorem J_mo_lost {Δ : DT} {Γ : FT} {d : Nat}   {M : MEM} : J (mo_lost M) (K_IM Δ Γ m_mo_lost) (WAt Δ Γ false m_mo_lost d 0 [vR (278)] [] (NG, S0, M) 0 0) := by
  unfold mo_lost
  refine J.mono (fun k => w_aload_n rfl rfl (w_iconst rfl (inR_c rfl) k)) ?_
  refine J_b ?_
  refine J.mono (fun k => w_putI rfl (Nat.le_of_ble_eq_true rfl) S_278 rfl rfl (w_iconst rfl (inR_c rfl) k)) ?_
  exact J_some (fun k => w_ireturn rfl rfl k)
set_option maxRecDepth 20000 in
set_option maxHeartbeats 4000000 in
theorem cal_mo_lost {Δ : DT} {d : Nat} (hd : 0 ≤ d)   {M : MEM} {p : Int × MEM} (h : mo_lost M = some p) (ho : okVs [vR 278]) (hM : okM M) : Cal Δ false m_mo_lost d [vR 278] (NG, S0, M) (some p.1) (NG, S0, p.2) 0 0 := by
  exact cal_of g_mo_lost p_mo_lost (fun v hv => by simp only [List.mem_cons, List.not_mem_nil, or_false] at hv; rcases hv with rfl <;> first | exact Or.inl ⟨_, rfl⟩ | exact Or.inr ⟨_, rfl⟩) ho hM (Nat.le_of_ble_eq_true rfl) (fun Γ _ k => J_mo_lost  _ h k)
set_option maxRecDepth 20000 in
set_option maxHeartbeats 4000000 in
theorem J_mo_pace {Δ : DT} {Γ : FT} {d : Nat} (hd : 74 ≤ d + 1) {a1 : Nat} {x2 : Int} (h_a1 : isArr 0 (lenA a1) a1) {M : MEM} : J (mo_pace a1 x2 M) (K_IM Δ Γ m_mo_pace) (WAt Δ Γ false m_mo_pace (d + 1) 0 [vR (278), vR (a1), vI (x2)] [] (NG, S0, M) 0 0) := by
  unfold mo_pace
  refine J.mono (fun k => w_aload_n rfl rfl (w_getI rfl (Nat.le_of_ble_eq_true rfl) S_278 rfl k)) ?_
  refine J_ite (fun hc1 => ?_) (fun hc1 => ?_)
  · refine J.mono (fun k => s_if_ne_f rfl hc1 (w_iconst rfl (inR_c rfl) k)) ?_
    exact J_some (fun k => w_ireturn rfl rfl k)
  · refine J.mono (fun k => s_if_ne_t rfl hc1 (w_aload_n rfl rfl (w_aload_n rfl rfl (w_getR (r := 286) rfl (Nat.le_of_ble_eq_true rfl) S_278 rfl (w_aload_n rfl rfl (w_getI rfl (Nat.le_of_ble_eq_true rfl) S_278 rfl (w_bipush rfl (bip_c rfl) k))))))) ?_
    refine J_c (fun M3 e2 => ?_)
    refine J.mono (fun k => c_vv3 rfl (fun ho hM => cal_mo_begin (by omega) (isArr_len A_286) e2 ho hM) v_mo_begin (Nat.le_of_ble_eq_true rfl) S_278 rfl (Nat.le_of_ble_eq_true rfl) (w_aload_n rfl rfl (w_aload_n rfl rfl k))) ?_
    refine J_b ?_
    refine J.mono (fun k => w_putD rfl (Nat.le_of_ble_eq_true rfl) S_278 rfl rfl pfd_aI (inR_ref h_a1.1) (w_aload_n rfl rfl (w_iload_n rfl rfl k))) ?_
    refine J_b ?_
    refine J.mono (fun k => w_putI rfl (Nat.le_of_ble_eq_true rfl) S_278 rfl rfl (w_iconst rfl (inR_c rfl) (w_iconst rfl (inR_c rfl) (w_aload_n rfl rfl (w_iconst rfl (inR_c rfl) k))))) ?_
    refine J_c (fun p7 e6 => ?_)
    refine J_hyp (fun k => c_vi1 rfl (fun ho hM => cal_rec0 (by omega) e6 ho hM) v_mo_held (Nat.le_of_ble_eq_true rfl) S_278 rfl (Nat.le_of_ble_eq_true rfl) k) (fun hr8 hb9 => ?_)
    refine J.mono (fun k => w_mmin rfl (Nat.le_of_ble_eq_true rfl) k) ?_
    refine J.mono (fun k => w_mmax rfl (Nat.le_of_ble_eq_true rfl) k) ?_
    exact J_some (fun k => w_ireturn rfl rfl k)
set_option maxRecDepth 20000 in
set_option maxHeartbeats 4000000 in
theorem cal_mo_pace {Δ : DT} {d : Nat} (hd : 74 ≤ d) {a1 : Nat} {x2 : Int} (h_a1 : isArr 0 (lenA a1) a1) {M : MEM} {p : Int × MEM} (h : mo_pace a1 x2 M = some p) (ho : okVs [vR 278, vR a1, vI x2]) (hM : okM M) : Cal Δ false m_mo_pace d [vR 278, vR a1, vI x2] (NG, S0, M) (some p.1) (NG, S0, p.2) 0 0 := by
  obtain ⟨d, rfl⟩ : ∃ e, d = e + 1 := ⟨d - 1, by omega⟩
  exact cal_of g_mo_pace p_mo_pace (fun v hv => by simp only [List.mem_cons, List.not_mem_nil, or_false] at hv; rcases hv with rfl | rfl | rfl <;> first | exact Or.inl ⟨_, rfl⟩ | exact Or.inr ⟨_, rfl⟩) ho hM (Nat.le_of_ble_eq_true rfl) (fun Γ _ k => J_mo_pace hd h_a1 _ h k)
set_option maxRecDepth 20000 in
set_option maxHeartbeats 4000000 in
theorem J_mo_donkey_j23 {Δ : DT} {Γ : FT} {d : Nat} (hd : 75 ≤ d + 1)   {M : MEM} : J (mo_donkey_j23  M) (K_IM Δ Γ m_mo_donkey) (WAt Δ Γ false m_mo_donkey (d + 1) 23 [vR (278), vN, vN, vN] [] (NG, S0, M) 0 0) := by
  unfold mo_donkey_j23
  refine J.mono (fun k => w_aload_n rfl rfl k) ?_
  refine J_c (fun p7 e6 => ?_)
  refine J_hyp (fun k => c_vi0 rfl (fun ho hM => cal_mo_lost (by omega)  e6 ho hM) v_mo_lost (Nat.le_of_ble_eq_true rfl) S_278 rfl (Nat.le_of_ble_eq_true rfl) k) (fun hr8 hb9 => ?_)
  exact J_some (fun k => w_ireturn rfl rfl k)
set_option maxRecDepth 20000 in
set_option maxHeartbeats 4000000 in
theorem J_mo_donkey {Δ : DT} {Γ : FT} {d : Nat} (hd : 75 ≤ d + 1) {x1 : Int} {x2 : Int}  {M : MEM} : J (mo_donkey x1 x2 M) (K_IM Δ Γ m_mo_donkey) (WAt Δ Γ false m_mo_donkey (d + 1) 0 [vR (278), vI (x1), vI (x2), vN] [] (NG, S0, M) 0 0) := by
  unfold mo_donkey
  refine J.mono (fun k => w_aload_n rfl rfl (w_iconst rfl (inR_c rfl) k)) ?_
  refine J_b ?_
  refine J.mono (fun k => w_putI rfl (Nat.le_of_ble_eq_true rfl) S_278 rfl rfl (w_aload_n rfl rfl (w_iload_n rfl rfl k))) ?_
  refine J_hyp (fun k => c_vi1 rfl (fun ho hM => cal_mo_isDonkey (by omega)   ho hM) v_mo_isDonkey (Nat.le_of_ble_eq_true rfl) S_278 rfl (Nat.le_of_ble_eq_true rfl) k) (fun hr3 hb4 => ?_)
  refine J_ite (fun hc5 => ?_) (fun hc5 => ?_)
  · refine J.mono (fun k => s_if_eq_t rfl hc5 k) ?_
    exact J.mono (fun k => w_forget (wk_k (wk_d (wk_d (wk_d wk_0)))) k) (J_mo_donkey_j23 hd )
  · refine J.mono (fun k => s_if_eq_f rfl hc5 (w_iload_n rfl rfl (w_iconst rfl (inR_c rfl) (w_bipush rfl (bip_c rfl) k)))) ?_
    refine J_hyp (fun k => c_si3 rfl rfl (fun ho hM => cal_mo_in (by omega)   ho hM) v_mo_in (Nat.le_of_ble_eq_true rfl) k) (fun hr11 hb12 => ?_)
    refine J_ite (fun hc13 => ?_) (fun hc13 => ?_)
    · refine J.mono (fun k => s_if_ne_f rfl hc13 k) ?_
      exact J.mono (fun k => w_forget (wk_k (wk_d (wk_d (wk_d wk_0)))) k) (J_mo_donkey_j23 hd )
    · refine J.mono (fun k => s_if_ne_t rfl hc13 (w_bipush rfl (bip_c rfl) (w_iload_n rfl rfl (w_imul rfl (s_istore3 rfl (Nat.le_of_ble_eq_true rfl) (w_iload_n rfl rfl k)))))) ?_
      refine J_ite (fun hk14 => ?_) (fun hk14 => ?_)
      · refine J.mono (fun k => w_tabIn (off := 38) (tgt := 72) rfl (by omega) (by omega) (by rw [hk14] <;> rfl) (by decide) (w_aload_n rfl rfl (w_getR (r := 279) rfl (Nat.le_of_ble_eq_true rfl) S_278 rfl (w_iload_n rfl rfl k)))) ?_
        refine J_chk (fun hi15 => ?_)
        refine J.mono (fun k => w_iald rfl A_279.1 A_279.2 hi15.1 hi15.2 k) ?_
        exact J_some (fun k => w_ireturn rfl rfl k)
      · refine J_ite (fun hk16 => ?_) (fun hk16 => ?_)
        · refine J.mono (fun k => w_tabIn (off := 45) (tgt := 79) rfl (by omega) (by omega) (by rw [hk16] <;> rfl) (by decide) (w_aload_n rfl rfl (w_getR (r := 279) rfl (Nat.le_of_ble_eq_true rfl) S_278 rfl (w_iload_n rfl rfl (w_iconst rfl (inR_c rfl) (w_iadd rfl k)))))) ?_
          refine J_chk (fun hi17 => ?_)
          refine J.mono (fun k => w_iald rfl A_279.1 A_279.2 hi17.1 hi17.2 k) ?_
          exact J_some (fun k => w_ireturn rfl rfl k)
        · refine J_ite (fun hk18 => ?_) (fun hk18 => ?_)
          · refine J.mono (fun k => w_tabIn (off := 54) (tgt := 88) rfl (by omega) (by omega) (by rw [hk18] <;> rfl) (by decide) (w_aload_n rfl rfl (w_getR (r := 279) rfl (Nat.le_of_ble_eq_true rfl) S_278 rfl (w_iload_n rfl rfl (w_iconst rfl (inR_c rfl) (w_iadd rfl k)))))) ?_
            refine J_chk (fun hi19 => ?_)
            refine J.mono (fun k => w_iald rfl A_279.1 A_279.2 hi19.1 hi19.2 k) ?_
            exact J_some (fun k => w_ireturn rfl rfl k)
          · refine J_ite (fun hk20 => ?_) (fun hk20 => ?_)
            · refine J.mono (fun k => w_tabIn (off := 63) (tgt := 97) rfl (by omega) (by omega) (by rw [hk20] <;> rfl) (by decide) (w_aload_n rfl rfl (w_getR (r := 279) rfl (Nat.le_of_ble_eq_true rfl) S_278 rfl (w_iload_n rfl rfl (w_iconst rfl (inR_c rfl) (w_iadd rfl k)))))) ?_
              refine J_chk (fun hi21 => ?_)
              refine J.mono (fun k => w_iald rfl A_279.1 A_279.2 hi21.1 hi21.2 (w_bipush rfl (bip_c rfl) (w_irem rfl (by decide) k))) ?_
              exact J_some (fun k => w_ireturn rfl rfl k)
            · refine J_ite (fun hk22 => ?_) (fun hk22 => ?_)
              · refine J.mono (fun k => w_tabIn (off := 75) (tgt := 109) rfl (by omega) (by omega) (by rw [hk22] <;> rfl) (by decide) (w_aload_n rfl rfl (w_getR (r := 280) rfl (Nat.le_of_ble_eq_true rfl) S_278 rfl (w_iload_n rfl rfl k)))) ?_
                refine J_chk (fun hi23 => ?_)
                refine J.mono (fun k => w_iald rfl A_280.1 A_280.2 hi23.1 hi23.2 k) ?_
                exact J_some (fun k => w_ireturn rfl rfl k)
              · refine J_ite (fun hk24 => ?_) (fun hk24 => ?_)
                · refine J.mono (fun k => w_tabIn (off := 82) (tgt := 116) rfl (by omega) (by omega) (by rw [hk24] <;> rfl) (by decide) (w_aload_n rfl rfl (w_getR (r := 279) rfl (Nat.le_of_ble_eq_true rfl) S_278 rfl (w_iload_n rfl rfl k)))) ?_
                  refine J_c (fun r26 e25 => ?_)
                  refine J_hyp (fun k => c_si2 rfl rfl (fun ho hM => cal_mo_allThistles (by omega) (isArr_len A_279) e25 ho hM) v_mo_allThistles (Nat.le_of_ble_eq_true rfl) k) (fun hr27 hb28 => ?_)
                  exact J_some (fun k => w_ireturn rfl rfl k)
                · refine J.mono (fun k => w_tabDef (keys := [(0), (1), (2), (3), (4), (5)]) (tgt := 125) rfl (by simp only [nokey]; exact ⟨hk14, hk16, hk18, hk20, hk22, hk24, trivial⟩) (by decide) (by decide) (w_aload_n rfl rfl (w_aload_n rfl rfl (w_getR (r := 279) rfl (Nat.le_of_ble_eq_true rfl) S_278 rfl (w_iload_n rfl rfl k))))) ?_
                  refine J_c (fun p30 e29 => ?_)
                  refine J_hyp (fun k => c_vi2 rfl (fun ho hM => cal_mo_pace (by omega) (isArr_len A_279) e29 ho hM) v_mo_pace (Nat.le_of_ble_eq_true rfl) S_278 rfl (Nat.le_of_ble_eq_true rfl) k) (fun hr31 hb32 => ?_)
                  exact J_some (fun k => w_ireturn rfl rfl k)
set_option maxRecDepth 20000 in
set_option maxHeartbeats 4000000 in
theorem cal_mo_donkey {Δ : DT} {d : Nat} (hd : 75 ≤ d) {x1 : Int} {x2 : Int}  {M : MEM} {p : Int × MEM} (h : mo_donkey x1 x2 M = some p) (ho : okVs [vR 278, vI x1, vI x2]) (hM : okM M) : Cal Δ false m_mo_donkey d [vR 278, vI x1, vI x2] (NG, S0, M) (some p.1) (NG, S0, p.2) 0 0 := by
  obtain ⟨d, rfl⟩ : ∃ e, d = e + 1 := ⟨d - 1, by omega⟩
  exact cal_of g_mo_donkey p_mo_donkey (fun v hv => by simp only [List.mem_cons, List.not_mem_nil, or_false] at hv; rcases hv with rfl | rfl | rfl <;> first | exact Or.inl ⟨_, rfl⟩ | exact Or.inr ⟨_, rfl⟩) ho hM (Nat.le_of_ble_eq_true rfl) (fun Γ _ k => J_mo_donkey hd  _ h k)
set_option maxRecDepth 20000 in
set_option maxHeartbeats 4000000 in
theorem J_mo_isPlace {Δ : DT} {Γ : FT} {d : Nat} (hd : 2 ≤ d + 1) {x1 : Int} {x2 : Int}  {M : MEM} : J (mo_isPlace x1 x2 M) (K_I Δ Γ m_mo_isPlace M) (WAt Δ Γ false m_mo_isPlace (d + 1) 0 [vR (278), vI (x1), vI (x2)] [] (NG, S0, M) 0 0) := by
  unfold mo_isPlace
  refine J.mono (fun k => w_aload_n rfl rfl (w_iload_n rfl rfl k)) ?_
  refine J_hyp (fun k => c_vi1 rfl (fun ho hM => cal_mo_isDonkey (by omega)   ho hM) v_mo_isDonkey (Nat.le_of_ble_eq_true rfl) S_278 rfl (Nat.le_of_ble_eq_true rfl) k) (fun hr2 hb3 => ?_)
  refine J_ite (fun hc4 => ?_) (fun hc4 => ?_)
  · refine J.mono (fun k => s_if_eq_t rfl hc4 (w_iconst rfl (inR_c rfl) k)) ?_
    exact J_some (fun k => w_zreturn rfl rfl (Or.inl rfl) k)
  · refine J.mono (fun k => s_if_eq_f rfl hc4 (w_iload_n rfl rfl (w_iconst rfl (inR_c rfl) (w_aload_n rfl rfl (w_getR (r := 280) rfl (Nat.le_of_ble_eq_true rfl) S_278 rfl (w_iload_n rfl rfl k)))))) ?_
    refine J_chk (fun hi5 => ?_)
    refine J.mono (fun k => w_iald rfl A_280.1 A_280.2 hi5.1 hi5.2 (w_iconst rfl (inR_c rfl) (w_isub rfl k))) ?_
    refine J_hyp (fun k => c_si3 rfl rfl (fun ho hM => cal_mo_in (by omega)   ho hM) v_mo_in (Nat.le_of_ble_eq_true rfl) k) (fun hr7 hb8 => ?_)
    refine J_ite (fun hc9 => ?_) (fun hc9 => ?_)
    · refine J.mono (fun k => s_if_eq_t rfl hc9 (w_iconst rfl (inR_c rfl) k)) ?_
      exact J_some (fun k => w_zreturn rfl rfl (Or.inl rfl) k)
    · refine J.mono (fun k => s_if_eq_f rfl hc9 (w_iconst rfl (inR_c rfl) (w_goto rfl k))) ?_
      exact J_some (fun k => w_zreturn rfl rfl (Or.inr rfl) k)
set_option maxRecDepth 20000 in
set_option maxHeartbeats 4000000 in
theorem cal_mo_isPlace {Δ : DT} {d : Nat} (hd : 2 ≤ d) {x1 : Int} {x2 : Int}  {M : MEM} {r : Int} (h : mo_isPlace x1 x2 M = some r) (ho : okVs [vR 278, vI x1, vI x2]) (hM : okM M) : Cal Δ false m_mo_isPlace d [vR 278, vI x1, vI x2] (NG, S0, M) (some r) (NG, S0, M) 0 0 := by
  obtain ⟨d, rfl⟩ : ∃ e, d = e + 1 := ⟨d - 1, by omega⟩
  exact cal_of g_mo_isPlace p_mo_isPlace (fun v hv => by simp only [List.mem_cons, List.not_mem_nil, or_false] at hv; rcases hv with rfl | rfl | rfl <;> first | exact Or.inl ⟨_, rfl⟩ | exact Or.inr ⟨_, rfl⟩) ho hM (Nat.le_of_ble_eq_true rfl) (fun Γ _ k => J_mo_isPlace hd  _ h k)
set_option maxRecDepth 20000 in
set_option maxHeartbeats 4000000 in
theorem J_mo_thistles {Δ : DT} {Γ : FT} {d : Nat} (hd : 3 ≤ d + 1) {x1 : Int} {x2 : Int}  {M : MEM} : J (mo_thistles x1 x2 M) (K_IM Δ Γ m_mo_thistles) (WAt Δ Γ false m_mo_thistles (d + 1) 0 [vR (278), vI (x1), vI (x2)] [] (NG, S0, M) 0 0) := by
  unfold mo_thistles
  refine J.mono (fun k => w_aload_n rfl rfl (w_iconst rfl (inR_c rfl) k)) ?_
  refine J_b ?_
  refine J.mono (fun k => w_putI rfl (Nat.le_of_ble_eq_true rfl) S_278 rfl rfl (w_aload_n rfl rfl (w_iload_n rfl rfl (w_iload_n rfl rfl k)))) ?_
  refine J_c (fun r3 e2 => ?_)
  refine J_hyp (fun k => c_vi2 rfl (fun ho hM => cal_mo_isPlace (by omega)  e2 ho hM) v_mo_isPlace (Nat.le_of_ble_eq_true rfl) S_278 rfl (Nat.le_of_ble_eq_true rfl) k) (fun hr4 hb5 => ?_)
  refine J_ite (fun hc6 => ?_) (fun hc6 => ?_)
  · refine J.mono (fun k => s_if_eq_t rfl hc6 (w_iconst rfl (inR_c rfl) k)) ?_
    exact J_some (fun k => w_ireturn rfl rfl k)
  · refine J.mono (fun k => s_if_eq_f rfl hc6 (w_aload_n rfl rfl (w_getR (r := 279) rfl (Nat.le_of_ble_eq_true rfl) S_278 rfl (w_bipush rfl (bip_c rfl) (w_iload_n rfl rfl (w_imul rfl (w_iconst rfl (inR_c rfl) (w_iadd rfl (w_iload_n rfl rfl (w_iadd rfl k)))))))))) ?_
    refine J_chk (fun hi7 => ?_)
    refine J.mono (fun k => w_iald rfl A_279.1 A_279.2 hi7.1 hi7.2 (w_goto rfl k)) ?_
    exact J_some (fun k => w_ireturn rfl rfl k)
set_option maxRecDepth 20000 in
set_option maxHeartbeats 4000000 in
theorem cal_mo_thistles {Δ : DT} {d : Nat} (hd : 3 ≤ d) {x1 : Int} {x2 : Int}  {M : MEM} {p : Int × MEM} (h : mo_thistles x1 x2 M = some p) (ho : okVs [vR 278, vI x1, vI x2]) (hM : okM M) : Cal Δ false m_mo_thistles d [vR 278, vI x1, vI x2] (NG, S0, M) (some p.1) (NG, S0, p.2) 0 0 := by
  obtain ⟨d, rfl⟩ : ∃ e, d = e + 1 := ⟨d - 1, by omega⟩
  exact cal_of g_mo_thistles p_mo_thistles (fun v hv => by simp only [List.mem_cons, List.not_mem_nil, or_false] at hv; rcases hv with rfl | rfl | rfl <;> first | exact Or.inl ⟨_, rfl⟩ | exact Or.inr ⟨_, rfl⟩) ho hM (Nat.le_of_ble_eq_true rfl) (fun Γ _ k => J_mo_thistles hd  _ h k)
set_option maxRecDepth 20000 in
set_option maxHeartbeats 4000000 in
theorem J_mo_sow {Δ : DT} {Γ : FT} {d : Nat} (hd : 3 ≤ d + 1) {x1 : Int} {x2 : Int} {x3 : Int}  {M : MEM} : J (mo_sow x1 x2 x3 M) (K_IM Δ Γ m_mo_sow) (WAt Δ Γ false m_mo_sow (d + 1) 0 [vR (278), vI (x1), vI (x2), vI (x3), vN] [] (NG, S0, M) 0 0) := by
  unfold mo_sow
  refine J.mono (fun k => w_aload_n rfl rfl (w_iconst rfl (inR_c rfl) k)) ?_
  refine J_b ?_
  refine J.mono (fun k => w_putI rfl (Nat.le_of_ble_eq_true rfl) S_278 rfl rfl (w_aload_n rfl rfl (w_iload_n rfl rfl (w_iload_n rfl rfl k)))) ?_
  refine J_c (fun r3 e2 => ?_)
  refine J_hyp (fun k => c_vi2 rfl (fun ho hM => cal_mo_isPlace (by omega)  e2 ho hM) v_mo_isPlace (Nat.le_of_ble_eq_true rfl) S_278 rfl (Nat.le_of_ble_eq_true rfl) k) (fun hr4 hb5 => ?_)
  refine J_ite (fun hc6 => ?_) (fun hc6 => ?_)
  · refine J.mono (fun k => s_if_eq_t rfl hc6 (w_iconst rfl (inR_c rfl) k)) ?_
    exact J_some (fun k => w_ireturn rfl rfl k)
  · refine J.mono (fun k => s_if_eq_f rfl hc6 (w_iload_n rfl rfl (w_iconst rfl (inR_c rfl) (w_bipush rfl (bip_c rfl) k)))) ?_
    refine J_hyp (fun k => c_si3 rfl rfl (fun ho hM => cal_mo_in (by omega)   ho hM) v_mo_in (Nat.le_of_ble_eq_true rfl) k) (fun hr8 hb9 => ?_)
    refine J_ite (fun hc10 => ?_) (fun hc10 => ?_)
    · refine J.mono (fun k => s_if_ne_f rfl hc10 (w_iconst rfl (inR_c rfl) k)) ?_
      exact J_some (fun k => w_ireturn rfl rfl k)
    · refine J.mono (fun k => s_if_ne_t rfl hc10 (w_aload_n rfl rfl (w_getR (r := 279) rfl (Nat.le_of_ble_eq_true rfl) S_278 rfl (w_bipush rfl (bip_c rfl) (w_iload_n rfl rfl (w_imul rfl (w_iconst rfl (inR_c rfl) (w_iadd rfl (w_iload_n rfl rfl (w_iadd rfl k)))))))))) ?_
      refine J_chk (fun hi11 => ?_)
      refine J.mono (fun k => w_iald rfl A_279.1 A_279.2 hi11.1 hi11.2 (s_istore4 rfl (Nat.le_of_ble_eq_true rfl) (w_aload_n rfl rfl (w_getR (r := 279) rfl (Nat.le_of_ble_eq_true rfl) S_278 rfl (w_bipush rfl (bip_c rfl) (w_iload_n rfl rfl (w_imul rfl (w_iconst rfl (inR_c rfl) (w_iadd rfl (w_iload_n rfl rfl (w_iadd rfl (w_iload_n rfl rfl k)))))))))))) ?_
      refine J_chk (fun hi13 => ?_)
      refine J_b ?_
      refine J.mono (fun k => w_iast rfl A_279.1 A_279.2 hi13.1 hi13.2 rfl (w_iload rfl rfl k)) ?_
      exact J_some (fun k => w_ireturn rfl rfl k)
set_option maxRecDepth 20000 in
set_option maxHeartbeats 4000000 in
theorem cal_mo_sow {Δ : DT} {d : Nat} (hd : 3 ≤ d) {x1 : Int} {x2 : Int} {x3 : Int}  {M : MEM} {p : Int × MEM} (h : mo_sow x1 x2 x3 M = some p) (ho : okVs [vR 278, vI x1, vI x2, vI x3]) (hM : okM M) : Cal Δ false m_mo_sow d [vR 278, vI x1, vI x2, vI x3] (NG, S0, M) (some p.1) (NG, S0, p.2) 0 0 := by
  obtain ⟨d, rfl⟩ : ∃ e, d = e + 1 := ⟨d - 1, by omega⟩
  exact cal_of g_mo_sow p_mo_sow (fun v hv => by simp only [List.mem_cons, List.not_mem_nil, or_false] at hv; rcases hv with rfl | rfl | rfl | rfl <;> first | exact Or.inl ⟨_, rfl⟩ | exact Or.inr ⟨_, rfl⟩) ho hM (Nat.le_of_ble_eq_true rfl) (fun Γ _ k => J_mo_sow hd  _ h k)
set_option maxRecDepth 20000 in
set_option maxHeartbeats 4000000 in
theorem J_mo_set_j41 {Δ : DT} {Γ : FT} {d : Nat} (hd : 2 ≤ d + 1) {x1 : Int} {x2 : Int} {x3 : Int} {s0 : Int} {s1 : Int} {s2 : Int}  {M : MEM} : J (mo_set_j41 x1 x2 x3 s0 s1 s2 M) (K_IM Δ Γ m_mo_set) (WAt Δ Γ false m_mo_set (d + 1) 41 [vR (278), vI (x1), vI (x2), vI (x3), vN] [vI (s2), vI (s1), vI (s0)] (NG, S0, M) 0 0) := by
  unfold mo_set_j41
  refine J_hyp (fun k => c_si3 rfl rfl (fun ho hM => cal_mo_in (by omega)   ho hM) v_mo_in (Nat.le_of_ble_eq_true rfl) k) (fun hr12 hb13 => ?_)
  refine J_ite (fun hc14 => ?_) (fun hc14 => ?_)
  · refine J.mono (fun k => s_if_ne_f rfl hc14 (w_iconst rfl (inR_c rfl) k)) ?_
    exact J_some (fun k => w_ireturn rfl rfl k)
  · refine J.mono (fun k => s_if_ne_t rfl hc14 (w_aload_n rfl rfl (w_getR (r := 279) rfl (Nat.le_of_ble_eq_true rfl) S_278 rfl (w_bipush rfl (bip_c rfl) (w_iload_n rfl rfl (w_imul rfl (w_iload_n rfl rfl (w_iadd rfl k)))))))) ?_
    refine J_chk (fun hi15 => ?_)
    refine J.mono (fun k => w_iald rfl A_279.1 A_279.2 hi15.1 hi15.2 (s_istore4 rfl (Nat.le_of_ble_eq_true rfl) (w_aload_n rfl rfl (w_getR (r := 279) rfl (Nat.le_of_ble_eq_true rfl) S_278 rfl (w_bipush rfl (bip_c rfl) (w_iload_n rfl rfl (w_imul rfl (w_iload_n rfl rfl (w_iadd rfl (w_iload_n rfl rfl k)))))))))) ?_
    refine J_chk (fun hi17 => ?_)
    refine J_b ?_
    refine J.mono (fun k => w_iast rfl A_279.1 A_279.2 hi17.1 hi17.2 rfl (w_iload rfl rfl k)) ?_
    exact J_some (fun k => w_ireturn rfl rfl k)
set_option maxRecDepth 20000 in
set_option maxHeartbeats 4000000 in
theorem J_mo_set {Δ : DT} {Γ : FT} {d : Nat} (hd : 2 ≤ d + 1) {x1 : Int} {x2 : Int} {x3 : Int}  {M : MEM} : J (mo_set x1 x2 x3 M) (K_IM Δ Γ m_mo_set) (WAt Δ Γ false m_mo_set (d + 1) 0 [vR (278), vI (x1), vI (x2), vI (x3), vN] [] (NG, S0, M) 0 0) := by
  unfold mo_set
  refine J.mono (fun k => w_aload_n rfl rfl (w_iconst rfl (inR_c rfl) k)) ?_
  refine J_b ?_
  refine J.mono (fun k => w_putI rfl (Nat.le_of_ble_eq_true rfl) S_278 rfl rfl (w_aload_n rfl rfl (w_iload_n rfl rfl k))) ?_
  refine J_hyp (fun k => c_vi1 rfl (fun ho hM => cal_mo_isDonkey (by omega)   ho hM) v_mo_isDonkey (Nat.le_of_ble_eq_true rfl) S_278 rfl (Nat.le_of_ble_eq_true rfl) k) (fun hr3 hb4 => ?_)
  refine J_ite (fun hc5 => ?_) (fun hc5 => ?_)
  · refine J.mono (fun k => s_if_eq_t rfl hc5 (w_iconst rfl (inR_c rfl) k)) ?_
    exact J_some (fun k => w_ireturn rfl rfl k)
  · refine J.mono (fun k => s_if_eq_f rfl hc5 (w_iload_n rfl rfl (w_iconst rfl (inR_c rfl) (w_iconst rfl (inR_c rfl) k)))) ?_
    refine J_hyp (fun k => c_si3 rfl rfl (fun ho hM => cal_mo_in (by omega)   ho hM) v_mo_in (Nat.le_of_ble_eq_true rfl) k) (fun hr7 hb8 => ?_)
    refine J_ite (fun hc9 => ?_) (fun hc9 => ?_)
    · refine J.mono (fun k => s_if_eq_t rfl hc9 (w_iconst rfl (inR_c rfl) k)) ?_
      exact J_some (fun k => w_ireturn rfl rfl k)
    · refine J.mono (fun k => s_if_eq_f rfl hc9 (w_iload_n rfl rfl (w_iconst rfl (inR_c rfl) (w_iload_n rfl rfl k)))) ?_
      refine J_ite (fun hc10 => ?_) (fun hc10 => ?_)
      · refine J.mono (fun k => s_if_ne_f rfl hc10 (w_bipush rfl (bip_c rfl) (w_goto rfl k))) ?_
        exact J.mono (fun k => w_forget (wk_k (wk_k (wk_k (wk_k (wk_d wk_0))))) k) (J_mo_set_j41 hd )
      · refine J.mono (fun k => s_if_ne_t rfl hc10 (w_aload_n rfl rfl (w_getR (r := 280) rfl (Nat.le_of_ble_eq_true rfl) S_278 rfl (w_iload_n rfl rfl k)))) ?_
        refine J_chk (fun hi18 => ?_)
        refine J.mono (fun k => w_iald rfl A_280.1 A_280.2 hi18.1 hi18.2 (w_iconst rfl (inR_c rfl) (w_isub rfl k))) ?_
        exact J.mono (fun k => w_forget (wk_k (wk_k (wk_k (wk_k (wk_d wk_0))))) k) (J_mo_set_j41 hd )
set_option maxRecDepth 20000 in
set_option maxHeartbeats 4000000 in
theorem cal_mo_set {Δ : DT} {d : Nat} (hd : 2 ≤ d) {x1 : Int} {x2 : Int} {x3 : Int}  {M : MEM} {p : Int × MEM} (h : mo_set x1 x2 x3 M = some p) (ho : okVs [vR 278, vI x1, vI x2, vI x3]) (hM : okM M) : Cal Δ false m_mo_set d [vR 278, vI x1, vI x2, vI x3] (NG, S0, M) (some p.1) (NG, S0, p.2) 0 0 := by
  obtain ⟨d, rfl⟩ : ∃ e, d = e + 1 := ⟨d - 1, by omega⟩
  exact cal_of g_mo_set p_mo_set (fun v hv => by simp only [List.mem_cons, List.not_mem_nil, or_false] at hv; rcases hv with rfl | rfl | rfl | rfl <;> first | exact Or.inl ⟨_, rfl⟩ | exact Or.inr ⟨_, rfl⟩) ho hM (Nat.le_of_ble_eq_true rfl) (fun Γ _ k => J_mo_set hd  _ h k)
abbrev HD_mo_sheet_b50 (Δ : DT) (Γ : FT) (d : Nat) (x1 : Int) (x2 : Int) (x4 : Int) (s : Int × Int × Int × MEM) : Prop := WAt Δ Γ false m_mo_sheet (d + 1) 50 [vR (278), vI (x1), vI (x2), vN, vI (x4), vI (s.1), vI (s.2.1), vI (s.2.2.1), vN] [] (NG, S0, s.2.2.2) 0 0
abbrev X_mo_sheet_b50 (Δ : DT) (Γ : FT) (d : Nat) (x1 : Int) (x2 : Int) (x4 : Int) (s : Int × Int × Int × MEM) : Prop := WAt Δ Γ false m_mo_sheet (d + 1) 148 [vN, vI (x1), vN, vN, vN, vI (s.1), vN, vN, vN] [] (NG, S0, s.2.2.2) 0 0
set_option maxRecDepth 20000 in
set_option maxHeartbeats 4000000 in
theorem J_mo_sheet_j120_50 {Δ : DT} {Γ : FT} {d : Nat} (hd : 1 ≤ d + 1) {x1 : Int} {x2 : Int} {x4 : Int} {x5 : Int} {x6 : Int} {x7 : Int} {s1 : Int} {s2 : Int}  {M : MEM} : J (mo_sheet_j120_50 x1 x2 x4 x5 x6 x7 s1 s2 M) (Sum.elim (HD_mo_sheet_b50 Δ Γ d x1 x2 x4) (X_mo_sheet_b50 Δ Γ d x1 x2 x4)) (WAt Δ Γ false m_mo_sheet (d + 1) 120 [vR (278), vI (x1), vI (x2), vN, vI (x4), vI (x5), vI (x6), vI (x7), vN] [vI (s2), vI (s1), vR (279)] (NG, S0, M) 0 0) := by
  unfold mo_sheet_j120_50
  refine J_chk (fun hi13 => ?_)
  refine J_b ?_
  refine J.mono (fun k => w_iast rfl A_279.1 A_279.2 hi13.1 hi13.2 rfl (w_iload rfl rfl (w_aload_n rfl rfl (w_getR (r := 279) rfl (Nat.le_of_ble_eq_true rfl) S_278 rfl (w_iconst rfl (inR_c rfl) (w_iload rfl rfl (w_iadd rfl k))))))) ?_
  refine J_chk (fun hi14 => ?_)
  refine J.mono (fun k => w_iald rfl A_279.1 A_279.2 hi14.1 hi14.2 (w_iadd rfl (s_istore5 rfl (Nat.le_of_ble_eq_true rfl) (w_iload rfl rfl (w_iload rfl rfl (w_iadd rfl (s_istore6 rfl (Nat.le_of_ble_eq_true rfl) (s_iinc7 rfl (Nat.le_of_ble_eq_true rfl) (w_goto rfl k))))))))) ?_
  exact J_some (fun k => w_forget (wk_k (wk_k (wk_k (wk_d (wk_k (wk_k (wk_k (wk_k (wk_d wk_0))))))))) k)
set_option maxRecDepth 20000 in
set_option maxHeartbeats 4000000 in
theorem J_mo_sheet_j105_50 {Δ : DT} {Γ : FT} {d : Nat} (hd : 1 ≤ d + 1) {x1 : Int} {x2 : Int} {x4 : Int} {x5 : Int} {x6 : Int} {x7 : Int} {s1 : Int}  {M : MEM} : J (mo_sheet_j105_50 x1 x2 x4 x5 x6 x7 s1 M) (Sum.elim (HD_mo_sheet_b50 Δ Γ d x1 x2 x4) (X_mo_sheet_b50 Δ Γ d x1 x2 x4)) (WAt Δ Γ false m_mo_sheet (d + 1) 105 [vR (278), vI (x1), vI (x2), vN, vI (x4), vI (x5), vI (x6), vI (x7), vN] [vI (s1), vR (279)] (NG, S0, M) 0 0) := by
  unfold mo_sheet_j105_50
  refine J.mono (fun k => w_iconst rfl (inR_c rfl) (w_goto rfl k)) ?_
  exact J.mono (fun k => w_forget (wk_k (wk_k (wk_k (wk_d (wk_k (wk_k (wk_k (wk_k (wk_d wk_0))))))))) k) (J_mo_sheet_j120_50 hd )
set_option maxRecDepth 20000 in
set_option maxHeartbeats 4000000 in
theorem J_mo_sheet_j84_50 {Δ : DT} {Γ : FT} {d : Nat} (hd : 1 ≤ d + 1) {x1 : Int} {x2 : Int} {x4 : Int} {x5 : Int} {x6 : Int} {x7 : Int} {s0 : Int}  {M : MEM} : J (mo_sheet_j84_50 x1 x2 x4 x5 x6 x7 s0 M) (Sum.elim (HD_mo_sheet_b50 Δ Γ d x1 x2 x4) (X_mo_sheet_b50 Δ Γ d x1 x2 x4)) (WAt Δ Γ false m_mo_sheet (d + 1) 84 [vR (278), vI (x1), vI (x2), vN, vI (x4), vI (x5), vI (x6), vI (x7), vN] [vI (s0)] (NG, S0, M) 0 0) := by
  unfold mo_sheet_j84_50
  refine J.mono (fun k => s_istore8 rfl (Nat.le_of_ble_eq_true rfl) (w_aload_n rfl rfl (w_getR (r := 279) rfl (Nat.le_of_ble_eq_true rfl) S_278 rfl (w_iconst rfl (inR_c rfl) (w_iload rfl rfl (w_iadd rfl (w_iload_n rfl rfl (w_iconst rfl (inR_c rfl) k)))))))) ?_
  refine J_ite (fun hc11 => ?_) (fun hc11 => ?_)
  · refine J.mono (fun k => s_icmp_eq_t rfl hc11 k) ?_
    exact J.mono (fun k => w_forget (wk_k (wk_k (wk_k (wk_d (wk_k (wk_k (wk_k (wk_k (wk_d wk_0))))))))) k) (J_mo_sheet_j105_50 hd )
  · refine J.mono (fun k => s_icmp_eq_f rfl hc11 (w_iload rfl rfl (w_iload_n rfl rfl k))) ?_
    refine J_ite (fun hc15 => ?_) (fun hc15 => ?_)
    · refine J.mono (fun k => s_icmp_lt_t rfl hc15 (w_iconst rfl (inR_c rfl) (w_bipush rfl (bip_c rfl) (w_iload rfl rfl k)))) ?_
      refine J.mono (fun k => w_mmin rfl (Nat.le_of_ble_eq_true rfl) k) ?_
      refine J.mono (fun k => w_mmax rfl (Nat.le_of_ble_eq_true rfl) k) ?_
      exact J.mono (fun k => w_forget (wk_k (wk_k (wk_k (wk_d (wk_k (wk_k (wk_k (wk_k (wk_d wk_0))))))))) k) (J_mo_sheet_j120_50 hd )
    · refine J.mono (fun k => s_icmp_lt_f rfl hc15 k) ?_
      exact J.mono (fun k => w_forget (wk_k (wk_k (wk_k (wk_d (wk_k (wk_k (wk_k (wk_k (wk_d wk_0))))))))) k) (J_mo_sheet_j105_50 hd )
set_option maxRecDepth 20000 in
set_option maxHeartbeats 4000000 in
theorem Jb_mo_sheet_b50 {Δ : DT} {Γ : FT} {d : Nat} (hd : 1 ≤ d + 1) {x1 : Int} {x2 : Int} {x4 : Int}  {x5 : Int} {x6 : Int} {x7 : Int} {M : MEM} : J (mo_sheet_b50 x1 x2 x4 x5 x6 x7 M) (Sum.elim (HD_mo_sheet_b50 Δ Γ d x1 x2 x4) (X_mo_sheet_b50 Δ Γ d x1 x2 x4)) (WAt Δ Γ false m_mo_sheet (d + 1) 50 [vR (278), vI (x1), vI (x2), vN, vI (x4), vI (x5), vI (x6), vI (x7), vN] [] (NG, S0, M) 0 0) := by
  unfold mo_sheet_b50
  refine J.mono (fun k => w_iload rfl rfl (w_aload_n rfl rfl (w_getR (r := 280) rfl (Nat.le_of_ble_eq_true rfl) S_278 rfl (w_iconst rfl (inR_c rfl) (w_iald rfl A_280.1 A_280.2 (by decide) (by decide) k))))) ?_
  refine J_ite (fun hc9 => ?_) (fun hc9 => ?_)
  · refine J.mono (fun k => s_icmp_ge_t rfl hc9 k) ?_
    exact J_some (fun k => w_forget (wk_d (wk_k (wk_d (wk_d (wk_d (wk_k (wk_d (wk_d (wk_d wk_0))))))))) k)
  · refine J.mono (fun k => s_icmp_ge_f rfl hc9 (w_iload_n rfl rfl k)) ?_
    refine J_ite (fun hc10 => ?_) (fun hc10 => ?_)
    · refine J.mono (fun k => s_if_ne_f rfl hc10 (w_iload rfl rfl (w_i2b rfl (w_goto rfl k)))) ?_
      exact J.mono (fun k => w_forget (wk_k (wk_k (wk_k (wk_d (wk_k (wk_k (wk_k (wk_k (wk_d wk_0))))))))) k) (J_mo_sheet_j84_50 hd )
    · refine J.mono (fun k => s_if_ne_t rfl hc10 (w_iload_n rfl rfl (w_iconst rfl (inR_c rfl) k))) ?_
      refine J_ite (fun hc16 => ?_) (fun hc16 => ?_)
      · refine J.mono (fun k => s_icmp_ne_f rfl hc16 (w_iload rfl rfl (w_i2s rfl (w_goto rfl k)))) ?_
        exact J.mono (fun k => w_forget (wk_k (wk_k (wk_k (wk_d (wk_k (wk_k (wk_k (wk_k (wk_d wk_0))))))))) k) (J_mo_sheet_j84_50 hd )
      · refine J.mono (fun k => s_icmp_ne_t rfl hc16 (w_iload rfl rfl k)) ?_
        exact J.mono (fun k => w_forget (wk_k (wk_k (wk_k (wk_d (wk_k (wk_k (wk_k (wk_k (wk_d wk_0))))))))) k) (J_mo_sheet_j84_50 hd )
set_option maxRecDepth 20000 in
set_option maxHeartbeats 4000000 in
theorem Jl_mo_sheet_b50 {Δ : DT} {Γ : FT} {d : Nat} (hd : 1 ≤ d + 1) {x1 : Int} {x2 : Int} {x4 : Int}   : ∀ (n : Nat) (s : Int × Int × Int × MEM), J (iter (fun s => mo_sheet_b50 x1 x2 x4 s.1 s.2.1 s.2.2.1 s.2.2.2) n s) (X_mo_sheet_b50 Δ Γ d x1 x2 x4) (HD_mo_sheet_b50 Δ Γ d x1 x2 x4 s) := J_iter (fun s => Jb_mo_sheet_b50 hd )
set_option maxRecDepth 20000 in
set_option maxHeartbeats 4000000 in
theorem J_mo_sheet_j41 {Δ : DT} {Γ : FT} {d : Nat} (hd : 1 ≤ d + 1) {x1 : Int} {x2 : Int} {x3 : Int} {x4 : Int}  {M : MEM} : J (mo_sheet_j41 x1 x2 x3 x4 M) (K_IM Δ Γ m_mo_sheet) (WAt Δ Γ false m_mo_sheet (d + 1) 41 [vR (278), vI (x1), vI (x2), vI (x3), vI (x4), vN, vN, vN, vN] [] (NG, S0, M) 0 0) := by
  unfold mo_sheet_j41
  refine J.mono (fun k => w_iconst rfl (inR_c rfl) (s_istore5 rfl (Nat.le_of_ble_eq_true rfl) (w_iload_n rfl rfl (s_istore6 rfl (Nat.le_of_ble_eq_true rfl) (w_iconst rfl (inR_c rfl) (s_istore7 rfl (Nat.le_of_ble_eq_true rfl) k)))))) ?_
  refine J.mono (fun k => w_forget (wk_k (wk_k (wk_k (wk_d (wk_k (wk_k (wk_k (wk_k (wk_d wk_0))))))))) k) ?_
  refine J_loop (Jl_mo_sheet_b50 hd  _ _) (fun w17 => ?_)
  refine J.mono (fun k => w_iload_n rfl rfl (w_iconst rfl (inR_c rfl) k)) ?_
  refine J_ite (fun hc18 => ?_) (fun hc18 => ?_)
  · refine J.mono (fun k => s_icmp_ne_f rfl hc18 (w_bipush rfl (bip_c rfl) (w_goto rfl k))) ?_
    exact J_some (fun k => w_ireturn rfl rfl k)
  · refine J.mono (fun k => s_icmp_ne_t rfl hc18 (w_iload rfl rfl k)) ?_
    exact J_some (fun k => w_ireturn rfl rfl k)
set_option maxRecDepth 20000 in
set_option maxHeartbeats 4000000 in
theorem J_mo_sheet {Δ : DT} {Γ : FT} {d : Nat} (hd : 1 ≤ d + 1) {x1 : Int} {x2 : Int} {x3 : Int} {x4 : Int}  {M : MEM} : J (mo_sheet x1 x2 x3 x4 M) (K_IM Δ Γ m_mo_sheet) (WAt Δ Γ false m_mo_sheet (d + 1) 0 [vR (278), vI (x1), vI (x2), vI (x3), vI (x4), vN, vN, vN, vN] [] (NG, S0, M) 0 0) := by
  unfold mo_sheet
  refine J.mono (fun k => w_aload_n rfl rfl (w_iconst rfl (inR_c rfl) k)) ?_
  refine J_b ?_
  refine J.mono (fun k => w_putI rfl (Nat.le_of_ble_eq_true rfl) S_278 rfl rfl (w_iload_n rfl rfl (w_iconst rfl (inR_c rfl) (w_iconst rfl (inR_c rfl) k)))) ?_
  refine J_hyp (fun k => c_si3 rfl rfl (fun ho hM => cal_mo_in (by omega)   ho hM) v_mo_in (Nat.le_of_ble_eq_true rfl) k) (fun hr3 hb4 => ?_)
  refine J_ite (fun hc5 => ?_) (fun hc5 => ?_)
  · refine J.mono (fun k => s_if_eq_t rfl hc5 (w_iconst rfl (inR_c rfl) k)) ?_
    exact J_some (fun k => w_ireturn rfl rfl k)
  · refine J.mono (fun k => s_if_eq_f rfl hc5 (w_iload_n rfl rfl (w_bipush rfl (bip_c rfl) k))) ?_
    refine J_ite (fun hc6 => ?_) (fun hc6 => ?_)
    · refine J.mono (fun k => s_icmp_gt_t rfl hc6 (w_iconst rfl (inR_c rfl) k)) ?_
      exact J_some (fun k => w_ireturn rfl rfl k)
    · refine J.mono (fun k => s_icmp_gt_f rfl hc6 (w_aload_n rfl rfl (w_getI rfl (Nat.le_of_ble_eq_true rfl) S_278 rfl k))) ?_
      refine J_ite (fun hc7 => ?_) (fun hc7 => ?_)
      · refine J.mono (fun k => s_if_ne_f rfl hc7 (w_iconst rfl (inR_c rfl) k)) ?_
        exact J_some (fun k => w_ireturn rfl rfl k)
      · refine J.mono (fun k => s_if_ne_t rfl hc7 (w_iload_n rfl rfl (w_iconst rfl (inR_c rfl) k))) ?_
        refine J_ite (fun hc8 => ?_) (fun hc8 => ?_)
        · refine J.mono (fun k => s_icmp_ge_t rfl hc8 k) ?_
          exact J.mono (fun k => w_forget (wk_k (wk_k (wk_k (wk_k (wk_k (wk_d (wk_d (wk_d (wk_d wk_0))))))))) k) (J_mo_sheet_j41 hd )
        · refine J.mono (fun k => s_icmp_ge_f rfl hc8 (w_iload_n rfl rfl k)) ?_
          refine J_ite (fun hc19 => ?_) (fun hc19 => ?_)
          · refine J.mono (fun k => s_if_ge_t rfl hc19 k) ?_
            exact J.mono (fun k => w_forget (wk_k (wk_k (wk_k (wk_k (wk_k (wk_d (wk_d (wk_d (wk_d wk_0))))))))) k) (J_mo_sheet_j41 hd )
          · refine J.mono (fun k => s_if_ge_f rfl hc19 (w_bipush rfl (bip_c rfl) k)) ?_
            exact J_some (fun k => w_ireturn rfl rfl k)
set_option maxRecDepth 20000 in
set_option maxHeartbeats 4000000 in
theorem cal_mo_sheet {Δ : DT} {d : Nat} (hd : 1 ≤ d) {x1 : Int} {x2 : Int} {x3 : Int} {x4 : Int}  {M : MEM} {p : Int × MEM} (h : mo_sheet x1 x2 x3 x4 M = some p) (ho : okVs [vR 278, vI x1, vI x2, vI x3, vI x4]) (hM : okM M) : Cal Δ false m_mo_sheet d [vR 278, vI x1, vI x2, vI x3, vI x4] (NG, S0, M) (some p.1) (NG, S0, p.2) 0 0 := by
  obtain ⟨d, rfl⟩ : ∃ e, d = e + 1 := ⟨d - 1, by omega⟩
  exact cal_of g_mo_sheet p_mo_sheet (fun v hv => by simp only [List.mem_cons, List.not_mem_nil, or_false] at hv; rcases hv with rfl | rfl | rfl | rfl | rfl <;> first | exact Or.inl ⟨_, rfl⟩ | exact Or.inr ⟨_, rfl⟩) ho hM (Nat.le_of_ble_eq_true rfl) (fun Γ _ k => J_mo_sheet hd  _ h k)
set_option maxRecDepth 20000 in
set_option maxHeartbeats 4000000 in
theorem J_mo_layCarrot {Δ : DT} {Γ : FT} {d : Nat} {x1 : Int} {x2 : Int} {x3 : Int} {x4 : Int} {x5 : Int}  {M : MEM} : J (mo_layCarrot x1 x2 x3 x4 x5 M) (K_M Δ Γ m_mo_layCarrot) (WAt Δ Γ false m_mo_layCarrot d 0 [vR (278), vI (x1), vI (x2), vI (x3), vI (x4), vI (x5)] [] (NG, S0, M) 0 0) := by
  unfold mo_layCarrot
  refine J.mono (fun k => w_aload_n rfl rfl (w_getR (r := 282) rfl (Nat.le_of_ble_eq_true rfl) S_278 rfl (w_iconst rfl (inR_c rfl) (w_iload_n rfl rfl (w_imul rfl (w_iload_n rfl rfl k)))))) ?_
  refine J_chk (fun hi2 => ?_)
  refine J_b ?_
  refine J.mono (fun k => w_iast rfl A_282.1 A_282.2 hi2.1 hi2.2 rfl (w_aload_n rfl rfl (w_getR (r := 282) rfl (Nat.le_of_ble_eq_true rfl) S_278 rfl (w_iconst rfl (inR_c rfl) (w_iload_n rfl rfl (w_imul rfl (w_iconst rfl (inR_c rfl) (w_iadd rfl (w_iload_n rfl rfl k))))))))) ?_
  refine J_chk (fun hi4 => ?_)
  refine J_b ?_
  refine J.mono (fun k => w_iast rfl A_282.1 A_282.2 hi4.1 hi4.2 rfl (w_aload_n rfl rfl (w_getR (r := 282) rfl (Nat.le_of_ble_eq_true rfl) S_278 rfl (w_iconst rfl (inR_c rfl) (w_iload_n rfl rfl (w_imul rfl (w_iconst rfl (inR_c rfl) (w_iadd rfl (w_iload rfl rfl k))))))))) ?_
  refine J_chk (fun hi6 => ?_)
  refine J_b ?_
  refine J.mono (fun k => w_iast rfl A_282.1 A_282.2 hi6.1 hi6.2 rfl (w_aload_n rfl rfl (w_getR (r := 282) rfl (Nat.le_of_ble_eq_true rfl) S_278 rfl (w_iconst rfl (inR_c rfl) (w_iload_n rfl rfl (w_imul rfl (w_iconst rfl (inR_c rfl) (w_iadd rfl (w_iload rfl rfl k))))))))) ?_
  refine J_chk (fun hi8 => ?_)
  refine J_b ?_
  refine J.mono (fun k => w_iast rfl A_282.1 A_282.2 hi8.1 hi8.2 rfl k) ?_
  exact J_some (fun k => w_return rfl rfl k)
set_option maxRecDepth 20000 in
set_option maxHeartbeats 4000000 in
theorem cal_mo_layCarrot {Δ : DT} {d : Nat} (hd : 0 ≤ d) {x1 : Int} {x2 : Int} {x3 : Int} {x4 : Int} {x5 : Int}  {M : MEM} {M1 : MEM} (h : mo_layCarrot x1 x2 x3 x4 x5 M = some M1) (ho : okVs [vR 278, vI x1, vI x2, vI x3, vI x4, vI x5]) (hM : okM M) : Cal Δ false m_mo_layCarrot d [vR 278, vI x1, vI x2, vI x3, vI x4, vI x5] (NG, S0, M) none (NG, S0, M1) 0 0 := by
  exact cal_of g_mo_layCarrot p_mo_layCarrot (fun v hv => by simp only [List.mem_cons, List.not_mem_nil, or_false] at hv; rcases hv with rfl | rfl | rfl | rfl | rfl | rfl <;> first | exact Or.inl ⟨_, rfl⟩ | exact Or.inr ⟨_, rfl⟩) ho hM (Nat.le_of_ble_eq_true rfl) (fun Γ _ k => J_mo_layCarrot  _ h k)
set_option maxRecDepth 20000 in
set_option maxHeartbeats 4000000 in
theorem J_mo_carrot_j49 {Δ : DT} {Γ : FT} {d : Nat} (hd : 2 ≤ d + 1) {x1 : Int} {x2 : Int} {x3 : Int} {x4 : Int}  {M : MEM} : J (mo_carrot_j49 x1 x2 x3 x4 M) (K_IM Δ Γ m_mo_carrot) (WAt Δ Γ false m_mo_carrot (d + 1) 49 [vR (278), vI (x1), vI (x2), vI (x3), vI (x4)] [] (NG, S0, M) 0 0) := by
  unfold mo_carrot_j49
  refine J.mono (fun k => w_aload_n rfl rfl (w_getI rfl (Nat.le_of_ble_eq_true rfl) S_278 rfl (w_bipush rfl (bip_c rfl) k))) ?_
  refine J_ite (fun hc15 => ?_) (fun hc15 => ?_)
  · refine J.mono (fun k => s_icmp_ne_f rfl hc15 (w_bipush rfl (bip_c rfl) k)) ?_
    exact J_some (fun k => w_ireturn rfl rfl k)
  · refine J.mono (fun k => s_icmp_ne_t rfl hc15 (w_aload_n rfl rfl (w_aload_n rfl rfl (w_getI rfl (Nat.le_of_ble_eq_true rfl) S_278 rfl (w_iload_n rfl rfl (w_iload_n rfl rfl (w_iload_n rfl rfl (w_iload rfl rfl k)))))))) ?_
    refine J_c (fun M17 e16 => ?_)
    refine J.mono (fun k => c_vv5 rfl (fun ho hM => cal_mo_layCarrot (by omega)  e16 ho hM) v_mo_layCarrot (Nat.le_of_ble_eq_true rfl) S_278 rfl (Nat.le_of_ble_eq_true rfl) (w_aload_n rfl rfl (w_dup rfl (fun _ h => by cases h) (w_getI rfl (Nat.le_of_ble_eq_true rfl) S_278 rfl (w_iconst rfl (inR_c rfl) (w_iadd rfl k)))))) ?_
    refine J_b ?_
    refine J.mono (fun k => w_putI rfl (Nat.le_of_ble_eq_true rfl) S_278 rfl rfl (w_aload_n rfl rfl (w_getI rfl (Nat.le_of_ble_eq_true rfl) S_278 rfl (w_iconst rfl (inR_c rfl) (w_isub rfl k))))) ?_
    exact J_some (fun k => w_ireturn rfl rfl k)
set_option maxRecDepth 20000 in
set_option maxHeartbeats 4000000 in
theorem J_mo_carrot {Δ : DT} {Γ : FT} {d : Nat} (hd : 2 ≤ d + 1) {x1 : Int} {x2 : Int} {x3 : Int} {x4 : Int}  {M : MEM} : J (mo_carrot x1 x2 x3 x4 M) (K_IM Δ Γ m_mo_carrot) (WAt Δ Γ false m_mo_carrot (d + 1) 0 [vR (278), vI (x1), vI (x2), vI (x3), vI (x4)] [] (NG, S0, M) 0 0) := by
  unfold mo_carrot
  refine J.mono (fun k => w_aload_n rfl rfl (w_iconst rfl (inR_c rfl) k)) ?_
  refine J_b ?_
  refine J.mono (fun k => w_putI rfl (Nat.le_of_ble_eq_true rfl) S_278 rfl rfl (w_aload_n rfl rfl (w_iload_n rfl rfl k))) ?_
  refine J_hyp (fun k => c_vi1 rfl (fun ho hM => cal_mo_isDonkey (by omega)   ho hM) v_mo_isDonkey (Nat.le_of_ble_eq_true rfl) S_278 rfl (Nat.le_of_ble_eq_true rfl) k) (fun hr3 hb4 => ?_)
  refine J_ite (fun hc5 => ?_) (fun hc5 => ?_)
  · refine J.mono (fun k => s_if_eq_t rfl hc5 (w_iconst rfl (inR_c rfl) k)) ?_
    exact J_some (fun k => w_ireturn rfl rfl k)
  · refine J.mono (fun k => s_if_eq_f rfl hc5 (w_iload_n rfl rfl (w_iconst rfl (inR_c rfl) (w_sipush rfl (sip_c rfl) k)))) ?_
    refine J_hyp (fun k => c_si3 rfl rfl (fun ho hM => cal_mo_in (by omega)   ho hM) v_mo_in (Nat.le_of_ble_eq_true rfl) k) (fun hr7 hb8 => ?_)
    refine J_ite (fun hc9 => ?_) (fun hc9 => ?_)
    · refine J.mono (fun k => s_if_eq_t rfl hc9 (w_iconst rfl (inR_c rfl) k)) ?_
      exact J_some (fun k => w_ireturn rfl rfl k)
    · refine J.mono (fun k => s_if_eq_f rfl hc9 (w_iload_n rfl rfl (w_iload_n rfl rfl (w_sipush rfl (sip_c rfl) k)))) ?_
      refine J_hyp (fun k => c_si3 rfl rfl (fun ho hM => cal_mo_in (by omega)   ho hM) v_mo_in (Nat.le_of_ble_eq_true rfl) k) (fun hr11 hb12 => ?_)
      refine J_ite (fun hc13 => ?_) (fun hc13 => ?_)
      · refine J.mono (fun k => s_if_eq_t rfl hc13 (w_iconst rfl (inR_c rfl) k)) ?_
        exact J_some (fun k => w_ireturn rfl rfl k)
      · refine J.mono (fun k => s_if_eq_f rfl hc13 (w_iload rfl rfl (w_iconst rfl (inR_c rfl) k))) ?_
        refine J_ite (fun hc14 => ?_) (fun hc14 => ?_)
        · refine J.mono (fun k => s_icmp_eq_t rfl hc14 k) ?_
          exact J.mono (fun k => w_forget (wk_k (wk_k (wk_k (wk_k (wk_k wk_0))))) k) (J_mo_carrot_j49 hd )
        · refine J.mono (fun k => s_icmp_eq_f rfl hc14 (w_iload rfl rfl (w_iconst rfl (inR_c rfl) k))) ?_
          refine J_ite (fun hc19 => ?_) (fun hc19 => ?_)
          · refine J.mono (fun k => s_icmp_eq_t rfl hc19 k) ?_
            exact J.mono (fun k => w_forget (wk_k (wk_k (wk_k (wk_k (wk_k wk_0))))) k) (J_mo_carrot_j49 hd )
          · refine J.mono (fun k => s_icmp_eq_f rfl hc19 (w_iconst rfl (inR_c rfl) k)) ?_
            exact J_some (fun k => w_ireturn rfl rfl k)
set_option maxRecDepth 20000 in
set_option maxHeartbeats 4000000 in
theorem cal_mo_carrot {Δ : DT} {d : Nat} (hd : 2 ≤ d) {x1 : Int} {x2 : Int} {x3 : Int} {x4 : Int}  {M : MEM} {p : Int × MEM} (h : mo_carrot x1 x2 x3 x4 M = some p) (ho : okVs [vR 278, vI x1, vI x2, vI x3, vI x4]) (hM : okM M) : Cal Δ false m_mo_carrot d [vR 278, vI x1, vI x2, vI x3, vI x4] (NG, S0, M) (some p.1) (NG, S0, p.2) 0 0 := by
  obtain ⟨d, rfl⟩ : ∃ e, d = e + 1 := ⟨d - 1, by omega⟩
  exact cal_of g_mo_carrot p_mo_carrot (fun v hv => by simp only [List.mem_cons, List.not_mem_nil, or_false] at hv; rcases hv with rfl | rfl | rfl | rfl | rfl <;> first | exact Or.inl ⟨_, rfl⟩ | exact Or.inr ⟨_, rfl⟩) ho hM (Nat.le_of_ble_eq_true rfl) (fun Γ _ k => J_mo_carrot hd  _ h k)
set_option maxRecDepth 20000 in
set_option maxHeartbeats 4000000 in
theorem J_mo_eat {Δ : DT} {Γ : FT} {d : Nat}   {M : MEM} : J (mo_eat M) (K_IM Δ Γ m_mo_eat) (WAt Δ Γ false m_mo_eat d 0 [vR (278)] [] (NG, S0, M) 0 0) := by
  unfold mo_eat
  refine J.mono (fun k => w_aload_n rfl rfl (w_iconst rfl (inR_c rfl) k)) ?_
  refine J_b ?_
  refine J.mono (fun k => w_putI rfl (Nat.le_of_ble_eq_true rfl) S_278 rfl rfl (w_aload_n rfl rfl (w_getI rfl (Nat.le_of_ble_eq_true rfl) S_278 rfl k))) ?_
  refine J_ite (fun hc2 => ?_) (fun hc2 => ?_)
  · refine J.mono (fun k => s_if_ne_f rfl hc2 (w_iconst rfl (inR_c rfl) k)) ?_
    exact J_some (fun k => w_ireturn rfl rfl k)
  · refine J.mono (fun k => s_if_ne_t rfl hc2 (w_aload_n rfl rfl (w_dup rfl (fun _ h => by cases h) (w_getI rfl (Nat.le_of_ble_eq_true rfl) S_278 rfl (w_iconst rfl (inR_c rfl) (w_isub rfl k)))))) ?_
    refine J_b ?_
    refine J.mono (fun k => w_putI rfl (Nat.le_of_ble_eq_true rfl) S_278 rfl rfl (w_aload_n rfl rfl (w_getI rfl (Nat.le_of_ble_eq_true rfl) S_278 rfl k))) ?_
    exact J_some (fun k => w_ireturn rfl rfl k)
set_option maxRecDepth 20000 in
set_option maxHeartbeats 4000000 in
theorem cal_mo_eat {Δ : DT} {d : Nat} (hd : 0 ≤ d)   {M : MEM} {p : Int × MEM} (h : mo_eat M = some p) (ho : okVs [vR 278]) (hM : okM M) : Cal Δ false m_mo_eat d [vR 278] (NG, S0, M) (some p.1) (NG, S0, p.2) 0 0 := by
  exact cal_of g_mo_eat p_mo_eat (fun v hv => by simp only [List.mem_cons, List.not_mem_nil, or_false] at hv; rcases hv with rfl <;> first | exact Or.inl ⟨_, rfl⟩ | exact Or.inr ⟨_, rfl⟩) ho hM (Nat.le_of_ble_eq_true rfl) (fun Γ _ k => J_mo_eat  _ h k)
abbrev HD_mo_goSteps_b9 (Δ : DT) (Γ : FT) (d : Nat) (a1 : Nat) (x2 : Int) (x3 : Int) (x4 : Int) (s : Int × MEM) : Prop := WAt Δ Γ false m_mo_goSteps (d + 1) 9 [vR (278), vR (a1), vI (x2), vI (x3), vI (x4), vI (s.1), vN] [] (NG, S0, s.2) 0 0
abbrev X_mo_goSteps_b9 (Δ : DT) (Γ : FT) (d : Nat) (a1 : Nat) (x2 : Int) (x3 : Int) (x4 : Int) : (MEM) ⊕ (Int × MEM) → Prop := Sum.elim (K_M Δ Γ m_mo_goSteps) (fun s => WAt Δ Γ false m_mo_goSteps (d + 1) 184 [vN, vN, vN, vN, vN, vN, vN] [] (NG, S0, s.2) 0 0)
set_option maxRecDepth 20000 in
set_option maxHeartbeats 4000000 in
theorem J_mo_goSteps_j102_9 {Δ : DT} {Γ : FT} {d : Nat} (hd : 1 ≤ d + 1) {a1 : Nat} {x2 : Int} {x3 : Int} {x4 : Int} {x5 : Int} (h_a1 : isArr 0 (lenA a1) a1) {M : MEM} : J (mo_goSteps_j102_9 a1 x2 x3 x4 x5 M) (Sum.elim (HD_mo_goSteps_b9 Δ Γ d a1 x2 x3 x4) (X_mo_goSteps_b9 Δ Γ d a1 x2 x3 x4)) (WAt Δ Γ false m_mo_goSteps (d + 1) 102 [vR (278), vR (a1), vI (x2), vI (x3), vI (x4), vI (x5), vN] [] (NG, S0, M) 0 0) := by
  unfold mo_goSteps_j102_9
  refine J.mono (fun k => w_iload rfl rfl (w_iconst rfl (inR_c rfl) (w_iadd rfl (w_aload_n rfl rfl (w_iload rfl rfl (w_iconst rfl (inR_c rfl) (w_iadd rfl k))))))) ?_
  refine J_chk (fun hi22 => ?_)
  refine J.mono (fun k => w_iald rfl h_a1.1 h_a1.2 hi22.1 hi22.2 (w_iadd rfl (s_istore6 rfl (Nat.le_of_ble_eq_true rfl) (w_aload_n rfl rfl (w_iload rfl rfl k))))) ?_
  refine J_chk (fun hi23 => ?_)
  refine J.mono (fun k => w_iald rfl h_a1.1 h_a1.2 hi23.1 hi23.2 k) ?_
  refine J_ite (fun hc24 => ?_) (fun hc24 => ?_)
  · refine J.mono (fun k => s_if_ne_f rfl hc24 (w_goto rfl (s_iinc5 rfl (Nat.le_of_ble_eq_true rfl) (w_goto rfl k)))) ?_
    exact J_some (fun k => w_forget (wk_k (wk_k (wk_k (wk_k (wk_k (wk_k (wk_d wk_0))))))) k)
  · refine J.mono (fun k => s_if_ne_t rfl hc24 (w_aload_n rfl rfl (w_iload rfl rfl (w_dup2 rfl (fun _ h => by cases h) (fun _ h => by cases h) k)))) ?_
    refine J_chk (fun hi25 => ?_)
    refine J.mono (fun k => w_iald rfl h_a1.1 h_a1.2 hi25.1 hi25.2 (w_iconst rfl (inR_c rfl) (w_isub rfl k))) ?_
    refine J_chk (fun hi27 => ?_)
    refine J_b ?_
    refine J.mono (fun k => w_iast rfl h_a1.1 h_a1.2 hi27.1 hi27.2 rfl (w_aload_n rfl rfl (w_iload rfl rfl (w_iconst rfl (inR_c rfl) (w_aload_n rfl rfl (w_iload rfl rfl k)))))) ?_
    refine J_chk (fun hi28 => ?_)
    refine J.mono (fun k => w_iald rfl h_a1.1 h_a1.2 hi28.1 hi28.2 (w_iconst rfl (inR_c rfl) (w_isub rfl k))) ?_
    refine J.mono (fun k => w_mmax rfl (Nat.le_of_ble_eq_true rfl) k) ?_
    refine J_chk (fun hi30 => ?_)
    refine J_b ?_
    refine J.mono (fun k => w_iast rfl h_a1.1 h_a1.2 hi30.1 hi30.2 rfl (w_aload_n rfl rfl (w_dup rfl (fun _ h => by cases h) (w_getI rfl (Nat.le_of_ble_eq_true rfl) S_278 rfl (w_iconst rfl (inR_c rfl) (w_iload_n rfl rfl (w_ishl rfl (w_ior rfl k)))))))) ?_
    refine J_b ?_
    refine J.mono (fun k => w_putI rfl (Nat.le_of_ble_eq_true rfl) S_278 rfl rfl (w_iload_n rfl rfl (w_aload_n rfl rfl (w_getI rfl (Nat.le_of_ble_eq_true rfl) S_278 rfl k)))) ?_
    refine J_ite (fun hc32 => ?_) (fun hc32 => ?_)
    · refine J.mono (fun k => s_icmp_ne_f rfl hc32 (w_aload_n rfl rfl (w_aload_n rfl rfl (w_iload rfl rfl (w_iconst rfl (inR_c rfl) (w_iadd rfl k)))))) ?_
      refine J_chk (fun hi33 => ?_)
      refine J.mono (fun k => w_iald rfl h_a1.1 h_a1.2 hi33.1 hi33.2 k) ?_
      refine J_b ?_
      refine J.mono (fun k => w_putI rfl (Nat.le_of_ble_eq_true rfl) S_278 rfl rfl k) ?_
      exact J_some (fun k => w_return rfl rfl k)
    · refine J.mono (fun k => s_icmp_ne_t rfl hc32 k) ?_
      exact J_some (fun k => w_return rfl rfl k)
set_option maxRecDepth 20000 in
set_option maxHeartbeats 4000000 in
theorem Jb_mo_goSteps_b9 {Δ : DT} {Γ : FT} {d : Nat} (hd : 1 ≤ d + 1) {a1 : Nat} {x2 : Int} {x3 : Int} {x4 : Int} (h_a1 : isArr 0 (lenA a1) a1) {x5 : Int} {M : MEM} : J (mo_goSteps_b9 a1 x2 x3 x4 x5 M) (Sum.elim (HD_mo_goSteps_b9 Δ Γ d a1 x2 x3 x4) (X_mo_goSteps_b9 Δ Γ d a1 x2 x3 x4)) (WAt Δ Γ false m_mo_goSteps (d + 1) 9 [vR (278), vR (a1), vI (x2), vI (x3), vI (x4), vI (x5), vN] [] (NG, S0, M) 0 0) := by
  unfold mo_goSteps_b9
  refine J.mono (fun k => w_iload rfl rfl (w_iload_n rfl rfl k)) ?_
  refine J_ite (fun hc1 => ?_) (fun hc1 => ?_)
  · refine J.mono (fun k => s_icmp_ge_t rfl hc1 k) ?_
    exact J_some (fun k => w_forget (wk_d (wk_d (wk_d (wk_d (wk_d (wk_d (wk_d wk_0))))))) k)
  · refine J.mono (fun k => s_icmp_ge_f rfl hc1 (w_aload_n rfl rfl (w_iload rfl rfl (w_iconst rfl (inR_c rfl) (w_iadd rfl (w_aload_n rfl rfl (w_iload rfl rfl (w_iconst rfl (inR_c rfl) (w_iadd rfl k))))))))) ?_
    refine J_chk (fun hi2 => ?_)
    refine J.mono (fun k => w_iald rfl h_a1.1 h_a1.2 hi2.1 hi2.2 (w_iconst rfl (inR_c rfl) (w_iadd rfl (w_aload_n rfl rfl (w_getR (r := 280) rfl (Nat.le_of_ble_eq_true rfl) S_278 rfl (w_iload_n rfl rfl k)))))) ?_
    refine J_chk (fun hi3 => ?_)
    refine J.mono (fun k => w_iald rfl A_280.1 A_280.2 hi3.1 hi3.2 k) ?_
    refine J_chn (fun hz4 => ?_)
    refine J.mono (fun k => w_irem rfl hz4 k) ?_
    refine J_chk (fun hi6 => ?_)
    refine J_b ?_
    refine J.mono (fun k => w_iast rfl h_a1.1 h_a1.2 hi6.1 hi6.2 rfl (w_aload_n rfl rfl (w_iload rfl rfl (w_iconst rfl (inR_c rfl) (w_iadd rfl k))))) ?_
    refine J_chk (fun hi7 => ?_)
    refine J.mono (fun k => w_iald rfl h_a1.1 h_a1.2 hi7.1 hi7.2 k) ?_
    refine J_ite (fun hc8 => ?_) (fun hc8 => ?_)
    · refine J.mono (fun k => s_if_ne_f rfl hc8 (w_aload_n rfl rfl (w_iload rfl rfl (w_bipush rfl (bip_c rfl) (w_iadd rfl (w_aload_n rfl rfl (w_iload rfl rfl (w_iconst rfl (inR_c rfl) (w_iadd rfl k))))))))) ?_
      refine J_chk (fun hi9 => ?_)
      refine J.mono (fun k => w_iald rfl h_a1.1 h_a1.2 hi9.1 hi9.2 (w_bipush rfl (bip_c rfl) (w_irem rfl (by decide) (w_iadd rfl (w_aload_n rfl rfl (w_sipush rfl (sip_c rfl) k)))))) ?_
      refine J_chk (fun hi10 => ?_)
      refine J.mono (fun k => w_iald rfl h_a1.1 h_a1.2 hi10.1 hi10.2 k) ?_
      refine J_chk (fun hi12 => ?_)
      refine J_b ?_
      refine J.mono (fun k => w_iast rfl h_a1.1 h_a1.2 hi12.1 hi12.2 rfl (w_aload_n rfl rfl (w_iload rfl rfl (w_iconst rfl (inR_c rfl) (w_iadd rfl (w_dup2 rfl (fun _ h => by cases h) (fun _ h => by cases h) k)))))) ?_
      refine J_chk (fun hi13 => ?_)
      refine J.mono (fun k => w_iald rfl h_a1.1 h_a1.2 hi13.1 hi13.2 (w_iconst rfl (inR_c rfl) (w_iadd rfl k))) ?_
      refine J_chk (fun hi15 => ?_)
      refine J_b ?_
      refine J.mono (fun k => w_iast rfl h_a1.1 h_a1.2 hi15.1 hi15.2 rfl (w_aload_n rfl rfl (w_iload rfl rfl (w_bipush rfl (bip_c rfl) (w_aload_n rfl rfl (w_iload rfl rfl k)))))) ?_
      refine J_chk (fun hi16 => ?_)
      refine J.mono (fun k => w_iald rfl h_a1.1 h_a1.2 hi16.1 hi16.2 (w_iconst rfl (inR_c rfl) (w_iadd rfl k))) ?_
      refine J.mono (fun k => w_mmin rfl (Nat.le_of_ble_eq_true rfl) k) ?_
      refine J_chk (fun hi18 => ?_)
      refine J_b ?_
      refine J.mono (fun k => w_iast rfl h_a1.1 h_a1.2 hi18.1 hi18.2 rfl (w_aload_n rfl rfl (w_getR (r := 287) rfl (Nat.le_of_ble_eq_true rfl) S_278 rfl (w_iload_n rfl rfl (w_dup2 rfl (fun _ h => by cases h) (fun _ h => by cases h) k))))) ?_
      refine J_chk (fun hi19 => ?_)
      refine J.mono (fun k => w_iald rfl A_287.1 A_287.2 hi19.1 hi19.2 (w_iconst rfl (inR_c rfl) (w_iadd rfl k))) ?_
      refine J_chk (fun hi21 => ?_)
      refine J_b ?_
      refine J.mono (fun k => w_iast rfl A_287.1 A_287.2 hi21.1 hi21.2 rfl k) ?_
      exact J.mono (fun k => w_forget (wk_k (wk_k (wk_k (wk_k (wk_k (wk_k (wk_d wk_0))))))) k) (J_mo_goSteps_j102_9 hd h_a1)
    · refine J.mono (fun k => s_if_ne_t rfl hc8 k) ?_
      exact J.mono (fun k => w_forget (wk_k (wk_k (wk_k (wk_k (wk_k (wk_k (wk_d wk_0))))))) k) (J_mo_goSteps_j102_9 hd h_a1)
set_option maxRecDepth 20000 in
set_option maxHeartbeats 4000000 in
theorem Jl_mo_goSteps_b9 {Δ : DT} {Γ : FT} {d : Nat} (hd : 1 ≤ d + 1) {a1 : Nat} {x2 : Int} {x3 : Int} {x4 : Int} (h_a1 : isArr 0 (lenA a1) a1)  : ∀ (n : Nat) (s : Int × MEM), J (iter (fun s => mo_goSteps_b9 a1 x2 x3 x4 s.1 s.2) n s) (X_mo_goSteps_b9 Δ Γ d a1 x2 x3 x4) (HD_mo_goSteps_b9 Δ Γ d a1 x2 x3 x4 s) := J_iter (fun s => Jb_mo_goSteps_b9 hd h_a1)
set_option maxRecDepth 20000 in
set_option maxHeartbeats 4000000 in
theorem J_mo_goSteps {Δ : DT} {Γ : FT} {d : Nat} (hd : 1 ≤ d + 1) {a1 : Nat} {x2 : Int} {x3 : Int} (h_a1 : isArr 0 (lenA a1) a1) {M : MEM} : J (mo_goSteps a1 x2 x3 M) (K_M Δ Γ m_mo_goSteps) (WAt Δ Γ false m_mo_goSteps (d + 1) 0 [vR (278), vR (a1), vI (x2), vI (x3), vN, vN, vN] [] (NG, S0, M) 0 0) := by
  unfold mo_goSteps
  refine J.mono (fun k => w_bipush rfl (bip_c rfl) (w_iload_n rfl rfl (w_imul rfl (s_istore4 rfl (Nat.le_of_ble_eq_true rfl) (w_iconst rfl (inR_c rfl) (s_istore5 rfl (Nat.le_of_ble_eq_true rfl) k)))))) ?_
  refine J.mono (fun k => w_forget (wk_k (wk_k (wk_k (wk_k (wk_k (wk_k (wk_d wk_0))))))) k) ?_
  refine J_loop (Jl_mo_goSteps_b9 hd h_a1 _ _) (fun w35 => ?_)
  refine J_elim (fun r => J_some (fun k => k)) (fun w35 => ?_)
  exact J_some (fun k => w_return rfl rfl k)
set_option maxRecDepth 20000 in
set_option maxHeartbeats 4000000 in
theorem cal_mo_goSteps {Δ : DT} {d : Nat} (hd : 1 ≤ d) {a1 : Nat} {x2 : Int} {x3 : Int} (h_a1 : isArr 0 (lenA a1) a1) {M : MEM} {M1 : MEM} (h : mo_goSteps a1 x2 x3 M = some M1) (ho : okVs [vR 278, vR a1, vI x2, vI x3]) (hM : okM M) : Cal Δ false m_mo_goSteps d [vR 278, vR a1, vI x2, vI x3] (NG, S0, M) none (NG, S0, M1) 0 0 := by
  obtain ⟨d, rfl⟩ : ∃ e, d = e + 1 := ⟨d - 1, by omega⟩
  exact cal_of g_mo_goSteps p_mo_goSteps (fun v hv => by simp only [List.mem_cons, List.not_mem_nil, or_false] at hv; rcases hv with rfl | rfl | rfl | rfl <;> first | exact Or.inl ⟨_, rfl⟩ | exact Or.inr ⟨_, rfl⟩) ho hM (Nat.le_of_ble_eq_true rfl) (fun Γ _ k => J_mo_goSteps hd h_a1 _ h k)

