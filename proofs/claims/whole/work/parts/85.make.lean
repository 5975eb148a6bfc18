-- ===== the constructors, walked (written by wip/whole/gen/ctor.py) =====
theorem nf_be : ∀ j, j < 6 → defaultValue (tyX1 j) = vp_V (fvs 0 (fun _ => 0) 0 [1, 1, 0, 0, 0, 0]) j := by decide +kernel
theorem ni_be : (wis 4183 (.instantiable "DonkeysHour$Beast" 6) && wis 4101 (.initialized "DonkeysHour$Beast")) = true := by decide +kernel
theorem nv_be : (wis 4186 (.code m_be_init.1 m_be_init.2.1 m_be_init.2.2.1 none) && wis 4185 (.instanceMethod m_be_init.1) && wis 4101 (.initialized m_be_init.1.cls) && decide (m_be_init.1.cls ≠ "java/lang/invoke/MethodHandle") && decide (m_be_init.1.cls ≠ "java/lang/invoke/VarHandle") && decide ((parseMethodDescriptor m_be_init.1.desc).map (fun d => d.parameters.length) = some 0) && decide (m_be_init.2.2.1 ≤ 21)) = true := by decide +kernel
def I_be : List Nat := [10, 13, 16, 54, 57, 60, 70, 73, 76, 86, 89, 92, 102, 105, 108, 118, 121, 124, 134, 137, 140, 150, 153, 156, 166, 169, 172, 182, 185, 188, 198, 201, 204, 214, 217, 220, 230, 240, 253, 256, 259, 269, 272, 275]
theorem nf_ca : ∀ j, j < 5 → defaultValue (tyX2 j) = vp_V (fvs 0 (fun _ => 0) 0 [1, 1, 1, 1, 0]) j := by decide +kernel
theorem ni_ca : (wis 4161 (.instantiable "DonkeysHour$Carrots" 5) && wis 4100 (.initialized "DonkeysHour$Carrots")) = true := by decide +kernel
theorem nv_ca : (wis 4164 (.code m_ca_init.1 m_ca_init.2.1 m_ca_init.2.2.1 none) && wis 4163 (.instanceMethod m_ca_init.1) && wis 4100 (.initialized m_ca_init.1.cls) && decide (m_ca_init.1.cls ≠ "java/lang/invoke/MethodHandle") && decide (m_ca_init.1.cls ≠ "java/lang/invoke/VarHandle") && decide ((parseMethodDescriptor m_ca_init.1.desc).map (fun d => d.parameters.length) = some 0) && decide (m_ca_init.2.2.1 ≤ 21)) = true := by decide +kernel
def I_ca : List Nat := [5, 49, 65, 81, 97, 113, 129, 145, 161, 177, 193, 209, 225, 235, 248, 264]
theorem nf_tx : ∀ j, j < 4 → defaultValue (tyX10 j) = vp_V (fvs 0 (fun _ => 0) 0 [1, 0, 0, 0]) j := by decide +kernel
theorem ni_tx : (wis 4131 (.instantiable "DonkeysHour$Text" 4) && wis 4098 (.initialized "DonkeysHour$Text")) = true := by decide +kernel
theorem nv_tx : (wis 4134 (.code m_tx_init.1 m_tx_init.2.1 m_tx_init.2.2.1 none) && wis 4133 (.instanceMethod m_tx_init.1) && wis 4098 (.initialized m_tx_init.1.cls) && decide (m_tx_init.1.cls ≠ "java/lang/invoke/MethodHandle") && decide (m_tx_init.1.cls ≠ "java/lang/invoke/VarHandle") && decide ((parseMethodDescriptor m_tx_init.1.desc).map (fun d => d.parameters.length) = some 0) && decide (m_tx_init.2.2.1 ≤ 21)) = true := by decide +kernel
def I_tx : List Nat := [1]
theorem nf_fl : ∀ j, j < 2 → defaultValue (tyX4 j) = vp_V (fvs 0 (fun _ => 0) 0 [1, 0]) j := by decide +kernel
theorem ni_fl : (wis 4241 (.instantiable "DonkeysHour$Flies" 2) && wis 4102 (.initialized "DonkeysHour$Flies")) = true := by decide +kernel
theorem nv_fl : (wis 4244 (.code m_fl_init.1 m_fl_init.2.1 m_fl_init.2.2.1 none) && wis 4243 (.instanceMethod m_fl_init.1) && wis 4102 (.initialized m_fl_init.1.cls) && decide (m_fl_init.1.cls ≠ "java/lang/invoke/MethodHandle") && decide (m_fl_init.1.cls ≠ "java/lang/invoke/VarHandle") && decide ((parseMethodDescriptor m_fl_init.1.desc).map (fun d => d.parameters.length) = some 0) && decide (m_fl_init.2.2.1 ≤ 21)) = true := by decide +kernel
def I_fl : List Nat := [19]
theorem nf_ru : ∀ j, j < 6 → defaultValue (tyX7 j) = vp_V (fvs 0 (fun _ => 0) 0 [1, 1, 1, 0, 0, 0]) j := by decide +kernel
theorem ni_ru : (wis 4254 (.instantiable "DonkeysHour$Rule" 6) && wis 4103 (.initialized "DonkeysHour$Rule")) = true := by decide +kernel
theorem nv_ru : (wis 4257 (.code m_ru_init.1 m_ru_init.2.1 m_ru_init.2.2.1 none) && wis 4256 (.instanceMethod m_ru_init.1) && wis 4103 (.initialized m_ru_init.1.cls) && decide (m_ru_init.1.cls ≠ "java/lang/invoke/MethodHandle") && decide (m_ru_init.1.cls ≠ "java/lang/invoke/VarHandle") && decide ((parseMethodDescriptor m_ru_init.1.desc).map (fun d => d.parameters.length) = some 0) && decide (m_ru_init.2.2.1 ≤ 21)) = true := by decide +kernel
def I_ru : List Nat := [21, 25]
theorem nf_ac : ∀ j, j < 5 → defaultValue (tyX0 j) = vp_V (fvs 0 (fun _ => 0) 0 [1, 1, 1, 1, 0]) j := by decide +kernel
theorem ni_ac : (wis 4279 (.instantiable "DonkeysHour$Acts" 5) && wis 4104 (.initialized "DonkeysHour$Acts")) = true := by decide +kernel
theorem nv_ac : (wis 4282 (.code m_ac_init.1 m_ac_init.2.1 m_ac_init.2.2.1 none) && wis 4281 (.instanceMethod m_ac_init.1) && wis 4104 (.initialized m_ac_init.1.cls) && decide (m_ac_init.1.cls ≠ "java/lang/invoke/MethodHandle") && decide (m_ac_init.1.cls ≠ "java/lang/invoke/VarHandle") && decide ((parseMethodDescriptor m_ac_init.1.desc).map (fun d => d.parameters.length) = some 0) && decide (m_ac_init.2.2.1 ≤ 21)) = true := by decide +kernel
def I_ac : List Nat := [29]
theorem nf_co : ∀ j, j < 7 → defaultValue (tyX3 j) = vp_V (fvs 0 (fun _ => 0) 0 [1, 1, 1, 1, 1, 1, 0]) j := by decide +kernel
theorem ni_co : (wis 4306 (.instantiable "DonkeysHour$Contracts" 7) && wis 4105 (.initialized "DonkeysHour$Contracts")) = true := by decide +kernel
theorem nv_co : (wis 4309 (.code m_co_init.1 m_co_init.2.1 m_co_init.2.2.1 none) && wis 4308 (.instanceMethod m_co_init.1) && wis 4105 (.initialized m_co_init.1.cls) && decide (m_co_init.1.cls ≠ "java/lang/invoke/MethodHandle") && decide (m_co_init.1.cls ≠ "java/lang/invoke/VarHandle") && decide ((parseMethodDescriptor m_co_init.1.desc).map (fun d => d.parameters.length) = some 0) && decide (m_co_init.2.2.1 ≤ 21)) = true := by decide +kernel
def I_co : List Nat := [34]
theorem nf_rm : ∀ j, j < 4 → defaultValue (tyX8 j) = vp_V (fvs 0 (fun _ => 0) 0 [1, 1, 1, 0]) j := by decide +kernel
theorem ni_rm : (wis 8194 (.instantiable "DonkeysHour$Rumours" 4) && wis 4106 (.initialized "DonkeysHour$Rumours")) = true := by decide +kernel
theorem nv_rm : (wis 8197 (.code m_rm_init.1 m_rm_init.2.1 m_rm_init.2.2.1 none) && wis 8196 (.instanceMethod m_rm_init.1) && wis 4106 (.initialized m_rm_init.1.cls) && decide (m_rm_init.1.cls ≠ "java/lang/invoke/MethodHandle") && decide (m_rm_init.1.cls ≠ "java/lang/invoke/VarHandle") && decide ((parseMethodDescriptor m_rm_init.1.desc).map (fun d => d.parameters.length) = some 0) && decide (m_rm_init.2.2.1 ≤ 21)) = true := by decide +kernel
def I_rm : List Nat := [41]
theorem nf_mo : ∀ j, j < 55 → defaultValue (tyX12 j) = vp_V (fvs 0 (fun _ => 0) 0 [1, 0, 1, 1, 0, 0, 1, 0, 0, 1, 0, 1, 0, 0, 2, 0, 0, 0, 0, 1, 1, 0, 2, 0, 0, 1, 0, 0, 0, 0, 1, 0, 1, 1, 1, 0, 1, 1, 0, 1, 1, 0, 1, 1, 1, 1, 1, 1, 1, 0, 1, 0, 1, 1, 1]) j := by decide +kernel
theorem ni_mo : (wis 24588 (.instantiable "DonkeysHourModel" 55) && wis 4109 (.initialized "DonkeysHourModel")) = true := by decide +kernel
theorem nv_mo : (wis 24591 (.code m_mo_init.1 m_mo_init.2.1 m_mo_init.2.2.1 none) && wis 24590 (.instanceMethod m_mo_init.1) && wis 4109 (.initialized m_mo_init.1.cls) && decide (m_mo_init.1.cls ≠ "java/lang/invoke/MethodHandle") && decide (m_mo_init.1.cls ≠ "java/lang/invoke/VarHandle") && decide ((parseMethodDescriptor m_mo_init.1.desc).map (fun d => d.parameters.length) = some 0) && decide (m_mo_init.2.2.1 ≤ 21)) = true := by decide +kernel
def I_mo : List Nat := [278]
theorem nf_sc : ∀ j, j < 6 → defaultValue (tyX9 j) = vp_V (fvs 0 (fun _ => 0) 0 [1, 1, 0, 0, 0, 0]) j := by decide +kernel
theorem ni_sc : (wis 4153 (.instantiable "DonkeysHour$Scene" 6) && wis 4099 (.initialized "DonkeysHour$Scene")) = true := by decide +kernel
theorem nv_sc : (wis 4156 (.code m_sc_init.1 m_sc_init.2.1 m_sc_init.2.2.1 none) && wis 4155 (.instanceMethod m_sc_init.1) && wis 4099 (.initialized m_sc_init.1.cls) && decide (m_sc_init.1.cls ≠ "java/lang/invoke/MethodHandle") && decide (m_sc_init.1.cls ≠ "java/lang/invoke/VarHandle") && decide ((parseMethodDescriptor m_sc_init.1.desc).map (fun d => d.parameters.length) = some 0) && decide (m_sc_init.2.2.1 ≤ 21)) = true := by decide +kernel
def I_sc : List Nat := [3, 47, 63, 79, 95, 111, 127, 143, 159, 175, 191, 207, 246, 262]
theorem nf_fu : ∀ j, j < 11 → defaultValue (tyX5 j) = vp_V (fvs 0 (fun _ => 0) 0 [1, 1, 1, 1, 1, 1, 0, 0, 0, 0, 0]) j := by decide +kernel
theorem ni_fu : (wis 8234 (.instantiable "DonkeysHour$Future" 11) && wis 4108 (.initialized "DonkeysHour$Future")) = true := by decide +kernel
theorem nv_fu : (wis 8237 (.code m_fu_init.1 m_fu_init.2.1 m_fu_init.2.2.1 none) && wis 8236 (.instanceMethod m_fu_init.1) && wis 4108 (.initialized m_fu_init.1.cls) && decide (m_fu_init.1.cls ≠ "java/lang/invoke/MethodHandle") && decide (m_fu_init.1.cls ≠ "java/lang/invoke/VarHandle") && decide ((parseMethodDescriptor m_fu_init.1.desc).map (fun d => d.parameters.length) = some 3) && decide (m_fu_init.2.2.1 ≤ 21)) = true := by decide +kernel
def I_fu : List Nat := [224, 234]
theorem nf_hi : ∀ j, j < 3 → defaultValue (tyX6 j) = vp_V (fvs 0 (fun _ => 0) 0 [1, 0, 0]) j := by decide +kernel
theorem ni_hi : (wis 8214 (.instantiable "DonkeysHour$History" 3) && wis 4107 (.initialized "DonkeysHour$History")) = true := by decide +kernel
theorem nv_hi : (wis 8217 (.code m_hi_init.1 m_hi_init.2.1 m_hi_init.2.2.1 none) && wis 8216 (.instanceMethod m_hi_init.1) && wis 4107 (.initialized m_hi_init.1.cls) && decide (m_hi_init.1.cls ≠ "java/lang/invoke/MethodHandle") && decide (m_hi_init.1.cls ≠ "java/lang/invoke/VarHandle") && decide ((parseMethodDescriptor m_hi_init.1.desc).map (fun d => d.parameters.length) = some 0) && decide (m_hi_init.2.2.1 ≤ 21)) = true := by decide +kernel
def I_hi : List Nat := [45]
theorem nf_dh : ∀ j, j < 15 → defaultValue (tyX11 j) = vp_V (fvs 0 (fun _ => 0) 0 [1, 1, 1, 1, 1, 1, 1, 1, 1, 1, 1, 1, 1, 1, 0]) j := by decide +kernel
theorem ni_dh : (wis 4123 (.instantiable "DonkeysHour" 15) && wis 4097 (.initialized "DonkeysHour")) = true := by decide +kernel
theorem nv_dh : (wis 4126 (.code m_dh_init.1 m_dh_init.2.1 m_dh_init.2.2.1 none) && wis 4125 (.instanceMethod m_dh_init.1) && wis 4097 (.initialized m_dh_init.1.cls) && decide (m_dh_init.1.cls ≠ "java/lang/invoke/MethodHandle") && decide (m_dh_init.1.cls ≠ "java/lang/invoke/VarHandle") && decide ((parseMethodDescriptor m_dh_init.1.desc).map (fun d => d.parameters.length) = some 0) && decide (m_dh_init.2.2.1 ≤ 21)) = true := by decide +kernel
def I_dh : List Nat := [0]
theorem oi_w : (wis 4128 (.instanceMethod Lib.objectInit) && wis 4129 (.code Lib.objectInit ⟨#[0xb1]⟩ 1 none)) = true := by decide +kernel
theorem ovS_c {S : Nat → SHP} {a b : Nat} {x y : SHP} (h : a ≠ b) : ovS (ovS S a x) b y = ovS (ovS S b y) a x := by
  funext i
  unfold ovS
  by_cases h1 : i = b
  · rw [if_pos h1, if_neg (by omega), if_pos h1]
  · rw [if_neg h1]
    by_cases h2 : i = a
    · rw [if_pos h2, if_pos h2]
    · rw [if_neg h2, if_neg h2, if_neg h1]
theorem ac_int : wis 4151 (.arrayClass (newarray.typeOf .int)) = true := by decide +kernel
theorem ac_byte : wis 12415 (.arrayClass (newarray.typeOf .byte)) = true := by decide +kernel
theorem ac_boolean : wis 24759 (.arrayClass (newarray.typeOf .boolean)) = true := by decide +kernel
theorem sh_be : ∀ a, a ∈ I_be → S0 (a) = (0, 1, [a + 1 + 3, a + 2 + 3, 0, 0, 0, 0]) ∧ S0 (a + 1) = (1, 0, [12]) ∧ S0 (a + 2) = (1, 0, [40]) := by decide +kernel
set_option maxRecDepth 100000 in
set_option maxHeartbeats 4000000 in
theorem cal_be_init {Δ : DT} {d a : Nat} {S : Nat → SHP} {M : MEM} (ha : a ∈ I_be) (hS : ∀ i, a ≤ i → S i = S0 i) (hZ : ∀ c, a ≤ c → M c = fun _ => 0) (hM : okM M) : Cal Δ true m_be_init (d + 1) [vR a] (a + 1, ovS S (a) (0, 1, [1, 1, 0, 0, 0, 0]), M) none (a + 3, S, M) 2 52 := by
  obtain ⟨h0, h1, h2⟩ := sh_be a ha
  refine cal_of g_be_init p_be_init (fun v hv => by simp only [List.mem_cons, List.not_mem_nil, or_false] at hv; rcases hv with rfl <;> exact Or.inr ⟨_, rfl⟩) (fun v hv => by simp only [List.mem_cons, List.not_mem_nil, or_false] at hv; rcases hv with rfl <;> exact trivial) hM (Nat.le_of_ble_eq_true rfl) (fun Γ hR hk => ?_)
  have hc : Γ.2.2.1.cells = 2 := by rw [hR]; rfl
  have hs : Γ.2.2.1.slots = 52 := by rw [hR]; rfl
  refine w_aload_n rfl rfl ?_
  refine w_oinit rfl oi_w (Nat.le_of_ble_eq_true rfl) ?_
  refine w_aload_n rfl rfl ?_
  refine w_bipush rfl (by omega) ?_
  refine w_newa (t := 0) (N := 12) rfl (by decide) ac_int (by omega) (by rw [ovS_n (by omega), hS _ (by omega)]; exact h1) (hZ _ (by omega)) (by rw [hc]; omega) (by rw [hs]; omega) ?_
  refine w_putR (a := a) (r := a + 1) (ty := (.array .int)) rfl (by omega) rfl (congrFun (hZ a (Nat.le_refl _)) 0) rfl (Or.inr ⟨rfl, rfl⟩) (by decide +kernel) (fun _ => rfl) (fun _ => rfl) ?_
  show WAt _ _ _ _ _ _ _ _ (_, ovS _ (a) (0, 1, [a + 1 + 3, 1, 0, 0, 0, 0]), _) _ _
  refine w_aload_n rfl rfl ?_
  refine w_bipush rfl (by omega) ?_
  refine w_newa (t := 0) (N := 40) rfl (by decide) ac_int (by omega) (by rw [ovS_n (by omega), hS _ (by omega)]; exact h2) (hZ _ (by omega)) (by rw [hc]; omega) (by rw [hs]; omega) ?_
  refine w_putR (a := a) (r := a + 2) (ty := (.array .int)) rfl (by omega) rfl (congrFun (hZ a (Nat.le_refl _)) 1) rfl (Or.inr ⟨rfl, rfl⟩) (by decide +kernel) (fun _ => rfl) (fun _ => rfl) ?_
  show WAt _ _ _ _ _ _ _ _ (_, ovS _ (a) (0, 1, [a + 1 + 3, a + 2 + 3, 0, 0, 0, 0]), _) _ _
  rw [ovS_id (a := a) (by rw [hS _ (by omega)]; exact h0)]
  exact w_return rfl rfl hk
theorem sh_ca : ∀ a, a ∈ I_ca → S0 (a) = (0, 2, [a + 1 + 3, a + 2 + 3, a + 3 + 3, a + 4 + 3, 0]) ∧ S0 (a + 1) = (1, 0, [10]) ∧ S0 (a + 2) = (1, 0, [10]) ∧ S0 (a + 3) = (1, 0, [10]) ∧ S0 (a + 4) = (1, 0, [10]) := by decide +kernel
set_option maxRecDepth 100000 in
set_option maxHeartbeats 4000000 in
theorem cal_ca_init {Δ : DT} {d a : Nat} {S : Nat → SHP} {M : MEM} (ha : a ∈ I_ca) (hS : ∀ i, a ≤ i → S i = S0 i) (hZ : ∀ c, a ≤ c → M c = fun _ => 0) (hM : okM M) : Cal Δ true m_ca_init (d + 1) [vR a] (a + 1, ovS S (a) (0, 2, [1, 1, 1, 1, 0]), M) none (a + 5, S, M) 4 40 := by
  obtain ⟨h0, h1, h2, h3, h4⟩ := sh_ca a ha
  refine cal_of g_ca_init p_ca_init (fun v hv => by simp only [List.mem_cons, List.not_mem_nil, or_false] at hv; rcases hv with rfl <;> exact Or.inr ⟨_, rfl⟩) (fun v hv => by simp only [List.mem_cons, List.not_mem_nil, or_false] at hv; rcases hv with rfl <;> exact trivial) hM (Nat.le_of_ble_eq_true rfl) (fun Γ hR hk => ?_)
  have hc : Γ.2.2.1.cells = 4 := by rw [hR]; rfl
  have hs : Γ.2.2.1.slots = 40 := by rw [hR]; rfl
  refine w_aload_n rfl rfl ?_
  refine w_oinit rfl oi_w (Nat.le_of_ble_eq_true rfl) ?_
  refine w_aload_n rfl rfl ?_
  refine w_bipush rfl (by omega) ?_
  refine w_newa (t := 0) (N := 10) rfl (by decide) ac_int (by omega) (by rw [ovS_n (by omega), hS _ (by omega)]; exact h1) (hZ _ (by omega)) (by rw [hc]; omega) (by rw [hs]; omega) ?_
  refine w_putR (a := a) (r := a + 1) (ty := (.array .int)) rfl (by omega) rfl (congrFun (hZ a (Nat.le_refl _)) 0) rfl (Or.inr ⟨rfl, rfl⟩) (by decide +kernel) (fun _ => rfl) (fun _ => rfl) ?_
  show WAt _ _ _ _ _ _ _ _ (_, ovS _ (a) (0, 2, [a + 1 + 3, 1, 1, 1, 0]), _) _ _
  refine w_aload_n rfl rfl ?_
  refine w_bipush rfl (by omega) ?_
  refine w_newa (t := 0) (N := 10) rfl (by decide) ac_int (by omega) (by rw [ovS_n (by omega), hS _ (by omega)]; exact h2) (hZ _ (by omega)) (by rw [hc]; omega) (by rw [hs]; omega) ?_
  refine w_putR (a := a) (r := a + 2) (ty := (.array .int)) rfl (by omega) rfl (congrFun (hZ a (Nat.le_refl _)) 1) rfl (Or.inr ⟨rfl, rfl⟩) (by decide +kernel) (fun _ => rfl) (fun _ => rfl) ?_
  show WAt _ _ _ _ _ _ _ _ (_, ovS _ (a) (0, 2, [a + 1 + 3, a + 2 + 3, 1, 1, 0]), _) _ _
  refine w_aload_n rfl rfl ?_
  refine w_bipush rfl (by omega) ?_
  refine w_newa (t := 0) (N := 10) rfl (by decide) ac_int (by omega) (by rw [ovS_n (by omega), hS _ (by omega)]; exact h3) (hZ _ (by omega)) (by rw [hc]; omega) (by rw [hs]; omega) ?_
  refine w_putR (a := a) (r := a + 3) (ty := (.array .int)) rfl (by omega) rfl (congrFun (hZ a (Nat.le_refl _)) 2) rfl (Or.inr ⟨rfl, rfl⟩) (by decide +kernel) (fun _ => rfl) (fun _ => rfl) ?_
  show WAt _ _ _ _ _ _ _ _ (_, ovS _ (a) (0, 2, [a + 1 + 3, a + 2 + 3, a + 3 + 3, 1, 0]), _) _ _
  refine w_aload_n rfl rfl ?_
  refine w_bipush rfl (by omega) ?_
  refine w_newa (t := 0) (N := 10) rfl (by decide) ac_int (by omega) (by rw [ovS_n (by omega), hS _ (by omega)]; exact h4) (hZ _ (by omega)) (by rw [hc]; omega) (by rw [hs]; omega) ?_
  refine w_putR (a := a) (r := a + 4) (ty := (.array .int)) rfl (by omega) rfl (congrFun (hZ a (Nat.le_refl _)) 3) rfl (Or.inr ⟨rfl, rfl⟩) (by decide +kernel) (fun _ => rfl) (fun _ => rfl) ?_
  show WAt _ _ _ _ _ _ _ _ (_, ovS _ (a) (0, 2, [a + 1 + 3, a + 2 + 3, a + 3 + 3, a + 4 + 3, 0]), _) _ _
  rw [ovS_id (a := a) (by rw [hS _ (by omega)]; exact h0)]
  exact w_return rfl rfl hk
theorem sh_tx : ∀ a, a ∈ I_tx → S0 (a) = (0, 10, [a + 1 + 3, 0, 0, 0]) ∧ S0 (a + 1) = (1, 0, [80]) := by decide +kernel
set_option maxRecDepth 100000 in
set_option maxHeartbeats 4000000 in
theorem cal_tx_init {Δ : DT} {d a : Nat} {S : Nat → SHP} {M : MEM} (ha : a ∈ I_tx) (hS : ∀ i, a ≤ i → S i = S0 i) (hZ : ∀ c, a ≤ c → M c = fun _ => 0) (hM : okM M) : Cal Δ true m_tx_init (d + 1) [vR a] (a + 1, ovS S (a) (0, 10, [1, 0, 0, 0]), M) none (a + 2, S, M) 1 80 := by
  obtain ⟨h0, h1⟩ := sh_tx a ha
  refine cal_of g_tx_init p_tx_init (fun v hv => by simp only [List.mem_cons, List.not_mem_nil, or_false] at hv; rcases hv with rfl <;> exact Or.inr ⟨_, rfl⟩) (fun v hv => by simp only [List.mem_cons, List.not_mem_nil, or_false] at hv; rcases hv with rfl <;> exact trivial) hM (Nat.le_of_ble_eq_true rfl) (fun Γ hR hk => ?_)
  have hc : Γ.2.2.1.cells = 1 := by rw [hR]; rfl
  have hs : Γ.2.2.1.slots = 80 := by rw [hR]; rfl
  refine w_aload_n rfl rfl ?_
  refine w_oinit rfl oi_w (Nat.le_of_ble_eq_true rfl) ?_
  refine w_aload_n rfl rfl ?_
  refine w_bipush rfl (by omega) ?_
  refine w_newa (t := 0) (N := 80) rfl (by decide) ac_int (by omega) (by rw [ovS_n (by omega), hS _ (by omega)]; exact h1) (hZ _ (by omega)) (by rw [hc]; omega) (by rw [hs]; omega) ?_
  refine w_putR (a := a) (r := a + 1) (ty := (.array .int)) rfl (by omega) rfl (congrFun (hZ a (Nat.le_refl _)) 0) rfl (Or.inr ⟨rfl, rfl⟩) (by decide +kernel) (fun _ => rfl) (fun _ => rfl) ?_
  show WAt _ _ _ _ _ _ _ _ (_, ovS _ (a) (0, 10, [a + 1 + 3, 0, 0, 0]), _) _ _
  rw [ovS_id (a := a) (by rw [hS _ (by omega)]; exact h0)]
  exact w_return rfl rfl hk
theorem sh_fl : ∀ a, a ∈ I_fl → S0 (a) = (0, 4, [a + 1 + 3, 0]) ∧ S0 (a + 1) = (1, 0, [40]) := by decide +kernel
set_option maxRecDepth 100000 in
set_option maxHeartbeats 4000000 in
theorem cal_fl_init {Δ : DT} {d a : Nat} {S : Nat → SHP} {M : MEM} (ha : a ∈ I_fl) (hS : ∀ i, a ≤ i → S i = S0 i) (hZ : ∀ c, a ≤ c → M c = fun _ => 0) (hM : okM M) : Cal Δ true m_fl_init (d + 1) [vR a] (a + 1, ovS S (a) (0, 4, [1, 0]), M) none (a + 2, S, M) 1 40 := by
  obtain ⟨h0, h1⟩ := sh_fl a ha
  refine cal_of g_fl_init p_fl_init (fun v hv => by simp only [List.mem_cons, List.not_mem_nil, or_false] at hv; rcases hv with rfl <;> exact Or.inr ⟨_, rfl⟩) (fun v hv => by simp only [List.mem_cons, List.not_mem_nil, or_false] at hv; rcases hv with rfl <;> exact trivial) hM (Nat.le_of_ble_eq_true rfl) (fun Γ hR hk => ?_)
  have hc : Γ.2.2.1.cells = 1 := by rw [hR]; rfl
  have hs : Γ.2.2.1.slots = 40 := by rw [hR]; rfl
  refine w_aload_n rfl rfl ?_
  refine w_oinit rfl oi_w (Nat.le_of_ble_eq_true rfl) ?_
  refine w_aload_n rfl rfl ?_
  refine w_bipush rfl (by omega) ?_
  refine w_newa (t := 0) (N := 40) rfl (by decide) ac_int (by omega) (by rw [ovS_n (by omega), hS _ (by omega)]; exact h1) (hZ _ (by omega)) (by rw [hc]; omega) (by rw [hs]; omega) ?_
  refine w_putR (a := a) (r := a + 1) (ty := (.array .int)) rfl (by omega) rfl (congrFun (hZ a (Nat.le_refl _)) 0) rfl (Or.inr ⟨rfl, rfl⟩) (by decide +kernel) (fun _ => rfl) (fun _ => rfl) ?_
  show WAt _ _ _ _ _ _ _ _ (_, ovS _ (a) (0, 4, [a + 1 + 3, 0]), _) _ _
  rw [ovS_id (a := a) (by rw [hS _ (by omega)]; exact h0)]
  exact w_return rfl rfl hk
theorem sh_ru : ∀ a, a ∈ I_ru → S0 (a) = (0, 7, [a + 1 + 3, a + 2 + 3, a + 3 + 3, 0, 0, 0]) ∧ S0 (a + 1) = (1, 0, [40]) ∧ S0 (a + 2) = (1, 0, [40]) ∧ S0 (a + 3) = (1, 0, [8]) := by decide +kernel
set_option maxRecDepth 100000 in
set_option maxHeartbeats 4000000 in
theorem cal_ru_init {Δ : DT} {d a : Nat} {S : Nat → SHP} {M : MEM} (ha : a ∈ I_ru) (hS : ∀ i, a ≤ i → S i = S0 i) (hZ : ∀ c, a ≤ c → M c = fun _ => 0) (hM : okM M) : Cal Δ true m_ru_init (d + 1) [vR a] (a + 1, ovS S (a) (0, 7, [1, 1, 1, 0, 0, 0]), M) none (a + 4, S, M) 3 88 := by
  obtain ⟨h0, h1, h2, h3⟩ := sh_ru a ha
  refine cal_of g_ru_init p_ru_init (fun v hv => by simp only [List.mem_cons, List.not_mem_nil, or_false] at hv; rcases hv with rfl <;> exact Or.inr ⟨_, rfl⟩) (fun v hv => by simp only [List.mem_cons, List.not_mem_nil, or_false] at hv; rcases hv with rfl <;> exact trivial) hM (Nat.le_of_ble_eq_true rfl) (fun Γ hR hk => ?_)
  have hc : Γ.2.2.1.cells = 3 := by rw [hR]; rfl
  have hs : Γ.2.2.1.slots = 88 := by rw [hR]; rfl
  refine w_aload_n rfl rfl ?_
  refine w_oinit rfl oi_w (Nat.le_of_ble_eq_true rfl) ?_
  refine w_aload_n rfl rfl ?_
  refine w_bipush rfl (by omega) ?_
  refine w_newa (t := 0) (N := 40) rfl (by decide) ac_int (by omega) (by rw [ovS_n (by omega), hS _ (by omega)]; exact h1) (hZ _ (by omega)) (by rw [hc]; omega) (by rw [hs]; omega) ?_
  refine w_putR (a := a) (r := a + 1) (ty := (.array .int)) rfl (by omega) rfl (congrFun (hZ a (Nat.le_refl _)) 0) rfl (Or.inr ⟨rfl, rfl⟩) (by decide +kernel) (fun _ => rfl) (fun _ => rfl) ?_
  show WAt _ _ _ _ _ _ _ _ (_, ovS _ (a) (0, 7, [a + 1 + 3, 1, 1, 0, 0, 0]), _) _ _
  refine w_aload_n rfl rfl ?_
  refine w_bipush rfl (by omega) ?_
  refine w_newa (t := 0) (N := 40) rfl (by decide) ac_int (by omega) (by rw [ovS_n (by omega), hS _ (by omega)]; exact h2) (hZ _ (by omega)) (by rw [hc]; omega) (by rw [hs]; omega) ?_
  refine w_putR (a := a) (r := a + 2) (ty := (.array .int)) rfl (by omega) rfl (congrFun (hZ a (Nat.le_refl _)) 1) rfl (Or.inr ⟨rfl, rfl⟩) (by decide +kernel) (fun _ => rfl) (fun _ => rfl) ?_
  show WAt _ _ _ _ _ _ _ _ (_, ovS _ (a) (0, 7, [a + 1 + 3, a + 2 + 3, 1, 0, 0, 0]), _) _ _
  refine w_aload_n rfl rfl ?_
  refine w_bipush rfl (by omega) ?_
  refine w_newa (t := 0) (N := 8) rfl (by decide) ac_int (by omega) (by rw [ovS_n (by omega), hS _ (by omega)]; exact h3) (hZ _ (by omega)) (by rw [hc]; omega) (by rw [hs]; omega) ?_
  refine w_putR (a := a) (r := a + 3) (ty := (.array .int)) rfl (by omega) rfl (congrFun (hZ a (Nat.le_refl _)) 2) rfl (Or.inr ⟨rfl, rfl⟩) (by decide +kernel) (fun _ => rfl) (fun _ => rfl) ?_
  show WAt _ _ _ _ _ _ _ _ (_, ovS _ (a) (0, 7, [a + 1 + 3, a + 2 + 3, a + 3 + 3, 0, 0, 0]), _) _ _
  rw [ovS_id (a := a) (by rw [hS _ (by omega)]; exact h0)]
  exact w_return rfl rfl hk
theorem sh_ac : ∀ a, a ∈ I_ac → S0 (a) = (0, 0, [a + 1 + 3, a + 2 + 3, a + 3 + 3, a + 4 + 3, 0]) ∧ S0 (a + 1) = (1, 0, [20]) ∧ S0 (a + 2) = (1, 0, [20]) ∧ S0 (a + 3) = (1, 0, [20]) ∧ S0 (a + 4) = (1, 0, [20]) := by decide +kernel
set_option maxRecDepth 100000 in
set_option maxHeartbeats 4000000 in
theorem cal_ac_init {Δ : DT} {d a : Nat} {S : Nat → SHP} {M : MEM} (ha : a ∈ I_ac) (hS : ∀ i, a ≤ i → S i = S0 i) (hZ : ∀ c, a ≤ c → M c = fun _ => 0) (hM : okM M) : Cal Δ true m_ac_init (d + 1) [vR a] (a + 1, ovS S (a) (0, 0, [1, 1, 1, 1, 0]), M) none (a + 5, S, M) 4 80 := by
  obtain ⟨h0, h1, h2, h3, h4⟩ := sh_ac a ha
  refine cal_of g_ac_init p_ac_init (fun v hv => by simp only [List.mem_cons, List.not_mem_nil, or_false] at hv; rcases hv with rfl <;> exact Or.inr ⟨_, rfl⟩) (fun v hv => by simp only [List.mem_cons, List.not_mem_nil, or_false] at hv; rcases hv with rfl <;> exact trivial) hM (Nat.le_of_ble_eq_true rfl) (fun Γ hR hk => ?_)
  have hc : Γ.2.2.1.cells = 4 := by rw [hR]; rfl
  have hs : Γ.2.2.1.slots = 80 := by rw [hR]; rfl
  refine w_aload_n rfl rfl ?_
  refine w_oinit rfl oi_w (Nat.le_of_ble_eq_true rfl) ?_
  refine w_aload_n rfl rfl ?_
  refine w_bipush rfl (by omega) ?_
  refine w_newa (t := 0) (N := 20) rfl (by decide) ac_int (by omega) (by rw [ovS_n (by omega), hS _ (by omega)]; exact h1) (hZ _ (by omega)) (by rw [hc]; omega) (by rw [hs]; omega) ?_
  refine w_putR (a := a) (r := a + 1) (ty := (.array .int)) rfl (by omega) rfl (congrFun (hZ a (Nat.le_refl _)) 0) rfl (Or.inr ⟨rfl, rfl⟩) (by decide +kernel) (fun _ => rfl) (fun _ => rfl) ?_
  show WAt _ _ _ _ _ _ _ _ (_, ovS _ (a) (0, 0, [a + 1 + 3, 1, 1, 1, 0]), _) _ _
  refine w_aload_n rfl rfl ?_
  refine w_bipush rfl (by omega) ?_
  refine w_newa (t := 0) (N := 20) rfl (by decide) ac_int (by omega) (by rw [ovS_n (by omega), hS _ (by omega)]; exact h2) (hZ _ (by omega)) (by rw [hc]; omega) (by rw [hs]; omega) ?_
  refine w_putR (a := a) (r := a + 2) (ty := (.array .int)) rfl (by omega) rfl (congrFun (hZ a (Nat.le_refl _)) 1) rfl (Or.inr ⟨rfl, rfl⟩) (by decide +kernel) (fun _ => rfl) (fun _ => rfl) ?_
  show WAt _ _ _ _ _ _ _ _ (_, ovS _ (a) (0, 0, [a + 1 + 3, a + 2 + 3, 1, 1, 0]), _) _ _
  refine w_aload_n rfl rfl ?_
  refine w_bipush rfl (by omega) ?_
  refine w_newa (t := 0) (N := 20) rfl (by decide) ac_int (by omega) (by rw [ovS_n (by omega), hS _ (by omega)]; exact h3) (hZ _ (by omega)) (by rw [hc]; omega) (by rw [hs]; omega) ?_
  refine w_putR (a := a) (r := a + 3) (ty := (.array .int)) rfl (by omega) rfl (congrFun (hZ a (Nat.le_refl _)) 2) rfl (Or.inr ⟨rfl, rfl⟩) (by decide +kernel) (fun _ => rfl) (fun _ => rfl) ?_
  show WAt _ _ _ _ _ _ _ _ (_, ovS _ (a) (0, 0, [a + 1 + 3, a + 2 + 3, a + 3 + 3, 1, 0]), _) _ _
  refine w_aload_n rfl rfl ?_
  refine w_bipush rfl (by omega) ?_
  refine w_newa (t := 0) (N := 20) rfl (by decide) ac_int (by omega) (by rw [ovS_n (by omega), hS _ (by omega)]; exact h4) (hZ _ (by omega)) (by rw [hc]; omega) (by rw [hs]; omega) ?_
  refine w_putR (a := a) (r := a + 4) (ty := (.array .int)) rfl (by omega) rfl (congrFun (hZ a (Nat.le_refl _)) 3) rfl (Or.inr ⟨rfl, rfl⟩) (by decide +kernel) (fun _ => rfl) (fun _ => rfl) ?_
  show WAt _ _ _ _ _ _ _ _ (_, ovS _ (a) (0, 0, [a + 1 + 3, a + 2 + 3, a + 3 + 3, a + 4 + 3, 0]), _) _ _
  rw [ovS_id (a := a) (by rw [hS _ (by omega)]; exact h0)]
  exact w_return rfl rfl hk
theorem sh_co : ∀ a, a ∈ I_co → S0 (a) = (0, 3, [a + 1 + 3, a + 2 + 3, a + 3 + 3, a + 4 + 3, a + 5 + 3, a + 6 + 3, 0]) ∧ S0 (a + 1) = (1, 0, [10]) ∧ S0 (a + 2) = (1, 0, [10]) ∧ S0 (a + 3) = (1, 0, [10]) ∧ S0 (a + 4) = (1, 0, [10]) ∧ S0 (a + 5) = (1, 0, [10]) ∧ S0 (a + 6) = (1, 0, [10]) := by decide +kernel
set_option maxRecDepth 100000 in
set_option maxHeartbeats 4000000 in
theorem cal_co_init {Δ : DT} {d a : Nat} {S : Nat → SHP} {M : MEM} (ha : a ∈ I_co) (hS : ∀ i, a ≤ i → S i = S0 i) (hZ : ∀ c, a ≤ c → M c = fun _ => 0) (hM : okM M) : Cal Δ true m_co_init (d + 1) [vR a] (a + 1, ovS S (a) (0, 3, [1, 1, 1, 1, 1, 1, 0]), M) none (a + 7, S, M) 6 60 := by
  obtain ⟨h0, h1, h2, h3, h4, h5, h6⟩ := sh_co a ha
  refine cal_of g_co_init p_co_init (fun v hv => by simp only [List.mem_cons, List.not_mem_nil, or_false] at hv; rcases hv with rfl <;> exact Or.inr ⟨_, rfl⟩) (fun v hv => by simp only [List.mem_cons, List.not_mem_nil, or_false] at hv; rcases hv with rfl <;> exact trivial) hM (Nat.le_of_ble_eq_true rfl) (fun Γ hR hk => ?_)
  have hc : Γ.2.2.1.cells = 6 := by rw [hR]; rfl
  have hs : Γ.2.2.1.slots = 60 := by rw [hR]; rfl
  refine w_aload_n rfl rfl ?_
  refine w_oinit rfl oi_w (Nat.le_of_ble_eq_true rfl) ?_
  refine w_aload_n rfl rfl ?_
  refine w_bipush rfl (by omega) ?_
  refine w_newa (t := 0) (N := 10) rfl (by decide) ac_int (by omega) (by rw [ovS_n (by omega), hS _ (by omega)]; exact h1) (hZ _ (by omega)) (by rw [hc]; omega) (by rw [hs]; omega) ?_
  refine w_putR (a := a) (r := a + 1) (ty := (.array .int)) rfl (by omega) rfl (congrFun (hZ a (Nat.le_refl _)) 0) rfl (Or.inr ⟨rfl, rfl⟩) (by decide +kernel) (fun _ => rfl) (fun _ => rfl) ?_
  show WAt _ _ _ _ _ _ _ _ (_, ovS _ (a) (0, 3, [a + 1 + 3, 1, 1, 1, 1, 1, 0]), _) _ _
  refine w_aload_n rfl rfl ?_
  refine w_bipush rfl (by omega) ?_
  refine w_newa (t := 0) (N := 10) rfl (by decide) ac_int (by omega) (by rw [ovS_n (by omega), hS _ (by omega)]; exact h2) (hZ _ (by omega)) (by rw [hc]; omega) (by rw [hs]; omega) ?_
  refine w_putR (a := a) (r := a + 2) (ty := (.array .int)) rfl (by omega) rfl (congrFun (hZ a (Nat.le_refl _)) 1) rfl (Or.inr ⟨rfl, rfl⟩) (by decide +kernel) (fun _ => rfl) (fun _ => rfl) ?_
  show WAt _ _ _ _ _ _ _ _ (_, ovS _ (a) (0, 3, [a + 1 + 3, a + 2 + 3, 1, 1, 1, 1, 0]), _) _ _
  refine w_aload_n rfl rfl ?_
  refine w_bipush rfl (by omega) ?_
  refine w_newa (t := 0) (N := 10) rfl (by decide) ac_int (by omega) (by rw [ovS_n (by omega), hS _ (by omega)]; exact h3) (hZ _ (by omega)) (by rw [hc]; omega) (by rw [hs]; omega) ?_
  refine w_putR (a := a) (r := a + 3) (ty := (.array .int)) rfl (by omega) rfl (congrFun (hZ a (Nat.le_refl _)) 2) rfl (Or.inr ⟨rfl, rfl⟩) (by decide +kernel) (fun _ => rfl) (fun _ => rfl) ?_
  show WAt _ _ _ _ _ _ _ _ (_, ovS _ (a) (0, 3, [a + 1 + 3, a + 2 + 3, a + 3 + 3, 1, 1, 1, 0]), _) _ _
  refine w_aload_n rfl rfl ?_
  refine w_bipush rfl (by omega) ?_
  refine w_newa (t := 0) (N := 10) rfl (by decide) ac_int (by omega) (by rw [ovS_n (by omega), hS _ (by omega)]; exact h4) (hZ _ (by omega)) (by rw [hc]; omega) (by rw [hs]; omega) ?_
  refine w_putR (a := a) (r := a + 4) (ty := (.array .int)) rfl (by omega) rfl (congrFun (hZ a (Nat.le_refl _)) 3) rfl (Or.inr ⟨rfl, rfl⟩) (by decide +kernel) (fun _ => rfl) (fun _ => rfl) ?_
  show WAt _ _ _ _ _ _ _ _ (_, ovS _ (a) (0, 3, [a + 1 + 3, a + 2 + 3, a + 3 + 3, a + 4 + 3, 1, 1, 0]), _) _ _
  refine w_aload_n rfl rfl ?_
  refine w_bipush rfl (by omega) ?_
  refine w_newa (t := 0) (N := 10) rfl (by decide) ac_int (by omega) (by rw [ovS_n (by omega), hS _ (by omega)]; exact h5) (hZ _ (by omega)) (by rw [hc]; omega) (by rw [hs]; omega) ?_
  refine w_putR (a := a) (r := a + 5) (ty := (.array .int)) rfl (by omega) rfl (congrFun (hZ a (Nat.le_refl _)) 4) rfl (Or.inr ⟨rfl, rfl⟩) (by decide +kernel) (fun _ => rfl) (fun _ => rfl) ?_
  show WAt _ _ _ _ _ _ _ _ (_, ovS _ (a) (0, 3, [a + 1 + 3, a + 2 + 3, a + 3 + 3, a + 4 + 3, a + 5 + 3, 1, 0]), _) _ _
  refine w_aload_n rfl rfl ?_
  refine w_bipush rfl (by omega) ?_
  refine w_newa (t := 0) (N := 10) rfl (by decide) ac_int (by omega) (by rw [ovS_n (by omega), hS _ (by omega)]; exact h6) (hZ _ (by omega)) (by rw [hc]; omega) (by rw [hs]; omega) ?_
  refine w_putR (a := a) (r := a + 6) (ty := (.array .int)) rfl (by omega) rfl (congrFun (hZ a (Nat.le_refl _)) 5) rfl (Or.inr ⟨rfl, rfl⟩) (by decide +kernel) (fun _ => rfl) (fun _ => rfl) ?_
  show WAt _ _ _ _ _ _ _ _ (_, ovS _ (a) (0, 3, [a + 1 + 3, a + 2 + 3, a + 3 + 3, a + 4 + 3, a + 5 + 3, a + 6 + 3, 0]), _) _ _
  rw [ovS_id (a := a) (by rw [hS _ (by omega)]; exact h0)]
  exact w_return rfl rfl hk
theorem sh_rm : ∀ a, a ∈ I_rm → S0 (a) = (0, 8, [a + 1 + 3, a + 2 + 3, a + 3 + 3, 0]) ∧ S0 (a + 1) = (1, 0, [8]) ∧ S0 (a + 2) = (1, 0, [8]) ∧ S0 (a + 3) = (1, 0, [8]) := by decide +kernel
set_option maxRecDepth 100000 in
set_option maxHeartbeats 4000000 in
theorem cal_rm_init {Δ : DT} {d a : Nat} {S : Nat → SHP} {M : MEM} (ha : a ∈ I_rm) (hS : ∀ i, a ≤ i → S i = S0 i) (hZ : ∀ c, a ≤ c → M c = fun _ => 0) (hM : okM M) : Cal Δ true m_rm_init (d + 1) [vR a] (a + 1, ovS S (a) (0, 8, [1, 1, 1, 0]), M) none (a + 4, S, M) 3 24 := by
  obtain ⟨h0, h1, h2, h3⟩ := sh_rm a ha
  refine cal_of g_rm_init p_rm_init (fun v hv => by simp only [List.mem_cons, List.not_mem_nil, or_false] at hv; rcases hv with rfl <;> exact Or.inr ⟨_, rfl⟩) (fun v hv => by simp only [List.mem_cons, List.not_mem_nil, or_false] at hv; rcases hv with rfl <;> exact trivial) hM (Nat.le_of_ble_eq_true rfl) (fun Γ hR hk => ?_)
  have hc : Γ.2.2.1.cells = 3 := by rw [hR]; rfl
  have hs : Γ.2.2.1.slots = 24 := by rw [hR]; rfl
  refine w_aload_n rfl rfl ?_
  refine w_oinit rfl oi_w (Nat.le_of_ble_eq_true rfl) ?_
  refine w_aload_n rfl rfl ?_
  refine w_bipush rfl (by omega) ?_
  refine w_newa (t := 0) (N := 8) rfl (by decide) ac_int (by omega) (by rw [ovS_n (by omega), hS _ (by omega)]; exact h1) (hZ _ (by omega)) (by rw [hc]; omega) (by rw [hs]; omega) ?_
  refine w_putR (a := a) (r := a + 1) (ty := (.array .int)) rfl (by omega) rfl (congrFun (hZ a (Nat.le_refl _)) 0) rfl (Or.inr ⟨rfl, rfl⟩) (by decide +kernel) (fun _ => rfl) (fun _ => rfl) ?_
  show WAt _ _ _ _ _ _ _ _ (_, ovS _ (a) (0, 8, [a + 1 + 3, 1, 1, 0]), _) _ _
  refine w_aload_n rfl rfl ?_
  refine w_bipush rfl (by omega) ?_
  refine w_newa (t := 0) (N := 8) rfl (by decide) ac_int (by omega) (by rw [ovS_n (by omega), hS _ (by omega)]; exact h2) (hZ _ (by omega)) (by rw [hc]; omega) (by rw [hs]; omega) ?_
  refine w_putR (a := a) (r := a + 2) (ty := (.array .int)) rfl (by omega) rfl (congrFun (hZ a (Nat.le_refl _)) 1) rfl (Or.inr ⟨rfl, rfl⟩) (by decide +kernel) (fun _ => rfl) (fun _ => rfl) ?_
  show WAt _ _ _ _ _ _ _ _ (_, ovS _ (a) (0, 8, [a + 1 + 3, a + 2 + 3, 1, 0]), _) _ _
  refine w_aload_n rfl rfl ?_
  refine w_bipush rfl (by omega) ?_
  refine w_newa (t := 0) (N := 8) rfl (by decide) ac_int (by omega) (by rw [ovS_n (by omega), hS _ (by omega)]; exact h3) (hZ _ (by omega)) (by rw [hc]; omega) (by rw [hs]; omega) ?_
  refine w_putR (a := a) (r := a + 3) (ty := (.array .int)) rfl (by omega) rfl (congrFun (hZ a (Nat.le_refl _)) 2) rfl (Or.inr ⟨rfl, rfl⟩) (by decide +kernel) (fun _ => rfl) (fun _ => rfl) ?_
  show WAt _ _ _ _ _ _ _ _ (_, ovS _ (a) (0, 8, [a + 1 + 3, a + 2 + 3, a + 3 + 3, 0]), _) _ _
  rw [ovS_id (a := a) (by rw [hS _ (by omega)]; exact h0)]
  exact w_return rfl rfl hk
set_option maxRecDepth 100000 in
theorem sh_mo : S0 (278) = (0, 12, [279 + 3, 0, 280 + 3, 281 + 3, 0, 0, 282 + 3, 0, 0, 283 + 3, 0, 284 + 3, 0, 0, 2, 0, 0, 0, 0, 285 + 3, 286 + 3, 0, 2, 0, 0, 287 + 3, 0, 0, 0, 0, 288 + 3, 0, 289 + 3, 290 + 3, 291 + 3, 0, 292 + 3, 293 + 3, 0, 294 + 3, 295 + 3, 0, 296 + 3, 297 + 3, 298 + 3, 299 + 3, 300 + 3, 301 + 3, 302 + 3, 0, 303 + 3, 0, 304 + 3, 305 + 3, 306 + 3]) ∧ S0 (279) = (1, 0, [166]) ∧ S0 (280) = (1, 0, [3]) ∧ S0 (281) = (1, 0, [40]) ∧ S0 (282) = (1, 0, [48]) ∧ S0 (283) = (1, 1, [80]) ∧ S0 (284) = (1, 0, [16]) ∧ S0 (285) = (1, 0, [42]) ∧ S0 (286) = (1, 1, [40]) ∧ S0 (287) = (1, 0, [3]) ∧ S0 (288) = (1, 0, [2080]) ∧ S0 (289) = (1, 0, [208]) ∧ S0 (290) = (1, 0, [3]) ∧ S0 (291) = (1, 0, [320]) ∧ S0 (292) = (1, 0, [166]) ∧ S0 (293) = (1, 0, [2400]) ∧ S0 (294) = (1, 0, [12]) ∧ S0 (295) = (1, 0, [50]) ∧ S0 (296) = (1, 0, [10]) ∧ S0 (297) = (1, 0, [10]) ∧ S0 (298) = (1, 0, [10]) ∧ S0 (299) = (1, 0, [10]) ∧ S0 (300) = (1, 2, [601]) ∧ S0 (301) = (1, 0, [2]) ∧ S0 (302) = (1, 0, [24]) ∧ S0 (303) = (1, 0, [12]) ∧ S0 (304) = (1, 0, [414]) ∧ S0 (305) = (1, 2, [2]) ∧ S0 (306) = (1, 0, [2]) := ⟨rfl, rfl, rfl, rfl, rfl, rfl, rfl, rfl, rfl, rfl, rfl, rfl, rfl, rfl, rfl, rfl, rfl, rfl, rfl, rfl, rfl, rfl, rfl, rfl, rfl, rfl, rfl, rfl, rfl⟩
set_option maxRecDepth 100000 in
set_option maxHeartbeats 4000000 in
theorem cal_mo_init {Δ : DT} {d : Nat} {S : Nat → SHP} {M : MEM} (hS : ∀ i, 278 ≤ i → S i = S0 i) (hZ : ∀ c, 278 ≤ c → M c = fun _ => 0) (hM : okM M) : Cal Δ true m_mo_init (d + 1) [vR 278] (279, ovS S (278) (0, 12, [1, 0, 1, 1, 0, 0, 1, 0, 0, 1, 0, 1, 0, 0, 2, 0, 0, 0, 0, 1, 1, 0, 2, 0, 0, 1, 0, 0, 0, 0, 1, 0, 1, 1, 1, 0, 1, 1, 0, 1, 1, 0, 1, 1, 1, 1, 1, 1, 1, 0, 1, 0, 1, 1, 1]), M) none (307, S, (up2 (up2 M (278) 5 (-1)) (278) 29 (-1))) 28 6774 := by
  obtain ⟨h0, h1, h2, h3, h4, h5, h6, h7, h8, h9, h10, h11, h12, h13, h14, h15, h16, h17, h18, h19, h20, h21, h22, h23, h24, h25, h26, h27, h28⟩ := sh_mo
  refine cal_of g_mo_init p_mo_init (fun v hv => by simp only [List.mem_cons, List.not_mem_nil, or_false] at hv; rcases hv with rfl <;> exact Or.inr ⟨_, rfl⟩) (fun v hv => by simp only [List.mem_cons, List.not_mem_nil, or_false] at hv; rcases hv with rfl <;> exact trivial) hM (Nat.le_of_ble_eq_true rfl) (fun Γ hR hk => ?_)
  have hc : Γ.2.2.1.cells = 28 := by rw [hR]; rfl
  have hs : Γ.2.2.1.slots = 6774 := by rw [hR]; rfl
  refine w_aload_n rfl rfl ?_
  refine w_oinit rfl oi_w (Nat.le_of_ble_eq_true rfl) ?_
  refine w_aload_n rfl rfl ?_
  refine w_sipush rfl (by omega) ?_
  refine w_newa (t := 0) (N := 166) rfl (by decide) ac_int (by omega) (by rw [ovS_n (by omega), hS _ (by omega)]; exact h1) (hZ _ (by omega)) (by rw [hc]; omega) (by rw [hs]; omega) ?_
  refine w_putR (a := 278) (r := 279) (ty := (.array .int)) rfl (by omega) rfl (congrFun (hZ 278 (Nat.le_refl _)) 0) rfl (Or.inr ⟨rfl, rfl⟩) (by decide +kernel) (fun _ => rfl) (fun _ => rfl) ?_
  show WAt _ _ _ _ _ _ _ _ (_, ovS _ (278) (0, 12, [279 + 3, 0, 1, 1, 0, 0, 1, 0, 0, 1, 0, 1, 0, 0, 2, 0, 0, 0, 0, 1, 1, 0, 2, 0, 0, 1, 0, 0, 0, 0, 1, 0, 1, 1, 1, 0, 1, 1, 0, 1, 1, 0, 1, 1, 1, 1, 1, 1, 1, 0, 1, 0, 1, 1, 1]), _) _ _
  refine w_aload_n rfl rfl ?_
  refine w_iconst rfl (by unfold InR; omega) ?_
  refine w_newa (t := 0) (N := 3) rfl (by decide) ac_int (by omega) (by rw [ovS_n (by omega), hS _ (by omega)]; exact h2) (hZ _ (by omega)) (by rw [hc]; omega) (by rw [hs]; omega) ?_
  refine w_putR (a := 278) (r := 280) (ty := (.array .int)) rfl (by omega) rfl (congrFun (hZ 278 (Nat.le_refl _)) 2) rfl (Or.inr ⟨rfl, rfl⟩) (by decide +kernel) (fun _ => rfl) (fun _ => rfl) ?_
  show WAt _ _ _ _ _ _ _ _ (_, ovS _ (278) (0, 12, [279 + 3, 0, 280 + 3, 1, 0, 0, 1, 0, 0, 1, 0, 1, 0, 0, 2, 0, 0, 0, 0, 1, 1, 0, 2, 0, 0, 1, 0, 0, 0, 0, 1, 0, 1, 1, 1, 0, 1, 1, 0, 1, 1, 0, 1, 1, 1, 1, 1, 1, 1, 0, 1, 0, 1, 1, 1]), _) _ _
  refine w_aload_n rfl rfl ?_
  refine w_bipush rfl (by omega) ?_
  refine w_newa (t := 0) (N := 40) rfl (by decide) ac_int (by omega) (by rw [ovS_n (by omega), hS _ (by omega)]; exact h3) (hZ _ (by omega)) (by rw [hc]; omega) (by rw [hs]; omega) ?_
  refine w_putR (a := 278) (r := 281) (ty := (.array .int)) rfl (by omega) rfl (congrFun (hZ 278 (Nat.le_refl _)) 3) rfl (Or.inr ⟨rfl, rfl⟩) (by decide +kernel) (fun _ => rfl) (fun _ => rfl) ?_
  show WAt _ _ _ _ _ _ _ _ (_, ovS _ (278) (0, 12, [279 + 3, 0, 280 + 3, 281 + 3, 0, 0, 1, 0, 0, 1, 0, 1, 0, 0, 2, 0, 0, 0, 0, 1, 1, 0, 2, 0, 0, 1, 0, 0, 0, 0, 1, 0, 1, 1, 1, 0, 1, 1, 0, 1, 1, 0, 1, 1, 1, 1, 1, 1, 1, 0, 1, 0, 1, 1, 1]), _) _ _
  refine w_aload_n rfl rfl ?_
  refine w_iconst rfl (by unfold InR; omega) ?_
  refine w_putI (a := 278) rfl (by omega) ovS_y rfl rfl ?_
  refine w_aload_n rfl rfl ?_
  refine w_bipush rfl (by omega) ?_
  refine w_newa (t := 0) (N := 48) rfl (by decide) ac_int (by omega) (by rw [ovS_n (by omega), hS _ (by omega)]; exact h4) (by rw [up2_ne (by omega)]; exact hZ _ (by omega)) (by rw [hc]; omega) (by rw [hs]; omega) ?_
  refine w_putR (a := 278) (r := 282) (ty := (.array .int)) rfl (by omega) rfl (by rw [rd_k (by decide)]; exact congrFun (hZ 278 (Nat.le_refl _)) 6) rfl (Or.inr ⟨rfl, rfl⟩) (by decide +kernel) (fun _ => rfl) (fun _ => rfl) ?_
  show WAt _ _ _ _ _ _ _ _ (_, ovS _ (278) (0, 12, [279 + 3, 0, 280 + 3, 281 + 3, 0, 0, 282 + 3, 0, 0, 1, 0, 1, 0, 0, 2, 0, 0, 0, 0, 1, 1, 0, 2, 0, 0, 1, 0, 0, 0, 0, 1, 0, 1, 1, 1, 0, 1, 1, 0, 1, 1, 0, 1, 1, 1, 1, 1, 1, 1, 0, 1, 0, 1, 1, 1]), _) _ _
  refine w_aload_n rfl rfl ?_
  refine w_bipush rfl (by omega) ?_
  refine w_newa (t := 1) (N := 80) rfl (by decide) ac_byte (by omega) (by rw [ovS_n (by omega), hS _ (by omega)]; exact h5) (by rw [up2_ne (by omega)]; exact hZ _ (by omega)) (by rw [hc]; omega) (by rw [hs]; omega) ?_
  refine w_putR (a := 278) (r := 283) (ty := (.array .byte)) rfl (by omega) rfl (by rw [rd_k (by decide)]; exact congrFun (hZ 278 (Nat.le_refl _)) 9) rfl (Or.inr ⟨rfl, rfl⟩) (by decide +kernel) (fun _ => rfl) (fun _ => rfl) ?_
  show WAt _ _ _ _ _ _ _ _ (_, ovS _ (278) (0, 12, [279 + 3, 0, 280 + 3, 281 + 3, 0, 0, 282 + 3, 0, 0, 283 + 3, 0, 1, 0, 0, 2, 0, 0, 0, 0, 1, 1, 0, 2, 0, 0, 1, 0, 0, 0, 0, 1, 0, 1, 1, 1, 0, 1, 1, 0, 1, 1, 0, 1, 1, 1, 1, 1, 1, 1, 0, 1, 0, 1, 1, 1]), _) _ _
  refine w_aload_n rfl rfl ?_
  refine w_bipush rfl (by omega) ?_
  refine w_newa (t := 0) (N := 16) rfl (by decide) ac_int (by omega) (by rw [ovS_n (by omega), hS _ (by omega)]; exact h6) (by rw [up2_ne (by omega)]; exact hZ _ (by omega)) (by rw [hc]; omega) (by rw [hs]; omega) ?_
  refine w_putR (a := 278) (r := 284) (ty := (.array .int)) rfl (by omega) rfl (by rw [rd_k (by decide)]; exact congrFun (hZ 278 (Nat.le_refl _)) 11) rfl (Or.inr ⟨rfl, rfl⟩) (by decide +kernel) (fun _ => rfl) (fun _ => rfl) ?_
  show WAt _ _ _ _ _ _ _ _ (_, ovS _ (278) (0, 12, [279 + 3, 0, 280 + 3, 281 + 3, 0, 0, 282 + 3, 0, 0, 283 + 3, 0, 284 + 3, 0, 0, 2, 0, 0, 0, 0, 1, 1, 0, 2, 0, 0, 1, 0, 0, 0, 0, 1, 0, 1, 1, 1, 0, 1, 1, 0, 1, 1, 0, 1, 1, 1, 1, 1, 1, 1, 0, 1, 0, 1, 1, 1]), _) _ _
  refine w_aload_n rfl rfl ?_
  refine w_bipush rfl (by omega) ?_
  refine w_newa (t := 0) (N := 42) rfl (by decide) ac_int (by omega) (by rw [ovS_n (by omega), hS _ (by omega)]; exact h7) (by rw [up2_ne (by omega)]; exact hZ _ (by omega)) (by rw [hc]; omega) (by rw [hs]; omega) ?_
  refine w_putR (a := 278) (r := 285) (ty := (.array .int)) rfl (by omega) rfl (by rw [rd_k (by decide)]; exact congrFun (hZ 278 (Nat.le_refl _)) 19) rfl (Or.inr ⟨rfl, rfl⟩) (by decide +kernel) (fun _ => rfl) (fun _ => rfl) ?_
  show WAt _ _ _ _ _ _ _ _ (_, ovS _ (278) (0, 12, [279 + 3, 0, 280 + 3, 281 + 3, 0, 0, 282 + 3, 0, 0, 283 + 3, 0, 284 + 3, 0, 0, 2, 0, 0, 0, 0, 285 + 3, 1, 0, 2, 0, 0, 1, 0, 0, 0, 0, 1, 0, 1, 1, 1, 0, 1, 1, 0, 1, 1, 0, 1, 1, 1, 1, 1, 1, 1, 0, 1, 0, 1, 1, 1]), _) _ _
  refine w_aload_n rfl rfl ?_
  refine w_bipush rfl (by omega) ?_
  refine w_newa (t := 1) (N := 40) rfl (by decide) ac_byte (by omega) (by rw [ovS_n (by omega), hS _ (by omega)]; exact h8) (by rw [up2_ne (by omega)]; exact hZ _ (by omega)) (by rw [hc]; omega) (by rw [hs]; omega) ?_
  refine w_putR (a := 278) (r := 286) (ty := (.array .byte)) rfl (by omega) rfl (by rw [rd_k (by decide)]; exact congrFun (hZ 278 (Nat.le_refl _)) 20) rfl (Or.inr ⟨rfl, rfl⟩) (by decide +kernel) (fun _ => rfl) (fun _ => rfl) ?_
  show WAt _ _ _ _ _ _ _ _ (_, ovS _ (278) (0, 12, [279 + 3, 0, 280 + 3, 281 + 3, 0, 0, 282 + 3, 0, 0, 283 + 3, 0, 284 + 3, 0, 0, 2, 0, 0, 0, 0, 285 + 3, 286 + 3, 0, 2, 0, 0, 1, 0, 0, 0, 0, 1, 0, 1, 1, 1, 0, 1, 1, 0, 1, 1, 0, 1, 1, 1, 1, 1, 1, 1, 0, 1, 0, 1, 1, 1]), _) _ _
  refine w_aload_n rfl rfl ?_
  refine w_iconst rfl (by unfold InR; omega) ?_
  refine w_newa (t := 0) (N := 3) rfl (by decide) ac_int (by omega) (by rw [ovS_n (by omega), hS _ (by omega)]; exact h9) (by rw [up2_ne (by omega)]; exact hZ _ (by omega)) (by rw [hc]; omega) (by rw [hs]; omega) ?_
  refine w_putR (a := 278) (r := 287) (ty := (.array .int)) rfl (by omega) rfl (by rw [rd_k (by decide)]; exact congrFun (hZ 278 (Nat.le_refl _)) 25) rfl (Or.inr ⟨rfl, rfl⟩) (by decide +kernel) (fun _ => rfl) (fun _ => rfl) ?_
  show WAt _ _ _ _ _ _ _ _ (_, ovS _ (278) (0, 12, [279 + 3, 0, 280 + 3, 281 + 3, 0, 0, 282 + 3, 0, 0, 283 + 3, 0, 284 + 3, 0, 0, 2, 0, 0, 0, 0, 285 + 3, 286 + 3, 0, 2, 0, 0, 287 + 3, 0, 0, 0, 0, 1, 0, 1, 1, 1, 0, 1, 1, 0, 1, 1, 0, 1, 1, 1, 1, 1, 1, 1, 0, 1, 0, 1, 1, 1]), _) _ _
  refine w_aload_n rfl rfl ?_
  refine w_iconst rfl (by unfold InR; omega) ?_
  refine w_putI (a := 278) rfl (by omega) ovS_y rfl rfl ?_
  refine w_aload_n rfl rfl ?_
  refine w_sipush rfl (by omega) ?_
  refine w_newa (t := 0) (N := 2080) rfl (by decide) ac_int (by omega) (by rw [ovS_n (by omega), hS _ (by omega)]; exact h10) (by rw [up2_ne (by omega), up2_ne (by omega)]; exact hZ _ (by omega)) (by rw [hc]; omega) (by rw [hs]; omega) ?_
  refine w_putR (a := 278) (r := 288) (ty := (.array .int)) rfl (by omega) rfl (by rw [rd_k (by decide), rd_k (by decide)]; exact congrFun (hZ 278 (Nat.le_refl _)) 30) rfl (Or.inr ⟨rfl, rfl⟩) (by decide +kernel) (fun _ => rfl) (fun _ => rfl) ?_
  show WAt _ _ _ _ _ _ _ _ (_, ovS _ (278) (0, 12, [279 + 3, 0, 280 + 3, 281 + 3, 0, 0, 282 + 3, 0, 0, 283 + 3, 0, 284 + 3, 0, 0, 2, 0, 0, 0, 0, 285 + 3, 286 + 3, 0, 2, 0, 0, 287 + 3, 0, 0, 0, 0, 288 + 3, 0, 1, 1, 1, 0, 1, 1, 0, 1, 1, 0, 1, 1, 1, 1, 1, 1, 1, 0, 1, 0, 1, 1, 1]), _) _ _
  refine w_aload_n rfl rfl ?_
  refine w_sipush rfl (by omega) ?_
  refine w_newa (t := 0) (N := 208) rfl (by decide) ac_int (by omega) (by rw [ovS_n (by omega), hS _ (by omega)]; exact h11) (by rw [up2_ne (by omega), up2_ne (by omega)]; exact hZ _ (by omega)) (by rw [hc]; omega) (by rw [hs]; omega) ?_
  refine w_putR (a := 278) (r := 289) (ty := (.array .int)) rfl (by omega) rfl (by rw [rd_k (by decide), rd_k (by decide)]; exact congrFun (hZ 278 (Nat.le_refl _)) 32) rfl (Or.inr ⟨rfl, rfl⟩) (by decide +kernel) (fun _ => rfl) (fun _ => rfl) ?_
  show WAt _ _ _ _ _ _ _ _ (_, ovS _ (278) (0, 12, [279 + 3, 0, 280 + 3, 281 + 3, 0, 0, 282 + 3, 0, 0, 283 + 3, 0, 284 + 3, 0, 0, 2, 0, 0, 0, 0, 285 + 3, 286 + 3, 0, 2, 0, 0, 287 + 3, 0, 0, 0, 0, 288 + 3, 0, 289 + 3, 1, 1, 0, 1, 1, 0, 1, 1, 0, 1, 1, 1, 1, 1, 1, 1, 0, 1, 0, 1, 1, 1]), _) _ _
  refine w_aload_n rfl rfl ?_
  refine w_iconst rfl (by unfold InR; omega) ?_
  refine w_newa (t := 0) (N := 3) rfl (by decide) ac_int (by omega) (by rw [ovS_n (by omega), hS _ (by omega)]; exact h12) (by rw [up2_ne (by omega), up2_ne (by omega)]; exact hZ _ (by omega)) (by rw [hc]; omega) (by rw [hs]; omega) ?_
  refine w_putR (a := 278) (r := 290) (ty := (.array .int)) rfl (by omega) rfl (by rw [rd_k (by decide), rd_k (by decide)]; exact congrFun (hZ 278 (Nat.le_refl _)) 33) rfl (Or.inr ⟨rfl, rfl⟩) (by decide +kernel) (fun _ => rfl) (fun _ => rfl) ?_
  show WAt _ _ _ _ _ _ _ _ (_, ovS _ (278) (0, 12, [279 + 3, 0, 280 + 3, 281 + 3, 0, 0, 282 + 3, 0, 0, 283 + 3, 0, 284 + 3, 0, 0, 2, 0, 0, 0, 0, 285 + 3, 286 + 3, 0, 2, 0, 0, 287 + 3, 0, 0, 0, 0, 288 + 3, 0, 289 + 3, 290 + 3, 1, 0, 1, 1, 0, 1, 1, 0, 1, 1, 1, 1, 1, 1, 1, 0, 1, 0, 1, 1, 1]), _) _ _
  refine w_aload_n rfl rfl ?_
  refine w_sipush rfl (by omega) ?_
  refine w_newa (t := 0) (N := 320) rfl (by decide) ac_int (by omega) (by rw [ovS_n (by omega), hS _ (by omega)]; exact h13) (by rw [up2_ne (by omega), up2_ne (by omega)]; exact hZ _ (by omega)) (by rw [hc]; omega) (by rw [hs]; omega) ?_
  refine w_putR (a := 278) (r := 291) (ty := (.array .int)) rfl (by omega) rfl (by rw [rd_k (by decide), rd_k (by decide)]; exact congrFun (hZ 278 (Nat.le_refl _)) 34) rfl (Or.inr ⟨rfl, rfl⟩) (by decide +kernel) (fun _ => rfl) (fun _ => rfl) ?_
  show WAt _ _ _ _ _ _ _ _ (_, ovS _ (278) (0, 12, [279 + 3, 0, 280 + 3, 281 + 3, 0, 0, 282 + 3, 0, 0, 283 + 3, 0, 284 + 3, 0, 0, 2, 0, 0, 0, 0, 285 + 3, 286 + 3, 0, 2, 0, 0, 287 + 3, 0, 0, 0, 0, 288 + 3, 0, 289 + 3, 290 + 3, 291 + 3, 0, 1, 1, 0, 1, 1, 0, 1, 1, 1, 1, 1, 1, 1, 0, 1, 0, 1, 1, 1]), _) _ _
  refine w_aload_n rfl rfl ?_
  refine w_sipush rfl (by omega) ?_
  refine w_newa (t := 0) (N := 166) rfl (by decide) ac_int (by omega) (by rw [ovS_n (by omega), hS _ (by omega)]; exact h14) (by rw [up2_ne (by omega), up2_ne (by omega)]; exact hZ _ (by omega)) (by rw [hc]; omega) (by rw [hs]; omega) ?_
  refine w_putR (a := 278) (r := 292) (ty := (.array .int)) rfl (by omega) rfl (by rw [rd_k (by decide), rd_k (by decide)]; exact congrFun (hZ 278 (Nat.le_refl _)) 36) rfl (Or.inr ⟨rfl, rfl⟩) (by decide +kernel) (fun _ => rfl) (fun _ => rfl) ?_
  show WAt _ _ _ _ _ _ _ _ (_, ovS _ (278) (0, 12, [279 + 3, 0, 280 + 3, 281 + 3, 0, 0, 282 + 3, 0, 0, 283 + 3, 0, 284 + 3, 0, 0, 2, 0, 0, 0, 0, 285 + 3, 286 + 3, 0, 2, 0, 0, 287 + 3, 0, 0, 0, 0, 288 + 3, 0, 289 + 3, 290 + 3, 291 + 3, 0, 292 + 3, 1, 0, 1, 1, 0, 1, 1, 1, 1, 1, 1, 1, 0, 1, 0, 1, 1, 1]), _) _ _
  refine w_aload_n rfl rfl ?_
  refine w_sipush rfl (by omega) ?_
  refine w_newa (t := 0) (N := 2400) rfl (by decide) ac_int (by omega) (by rw [ovS_n (by omega), hS _ (by omega)]; exact h15) (by rw [up2_ne (by omega), up2_ne (by omega)]; exact hZ _ (by omega)) (by rw [hc]; omega) (by rw [hs]; omega) ?_
  refine w_putR (a := 278) (r := 293) (ty := (.array .int)) rfl (by omega) rfl (by rw [rd_k (by decide), rd_k (by decide)]; exact congrFun (hZ 278 (Nat.le_refl _)) 37) rfl (Or.inr ⟨rfl, rfl⟩) (by decide +kernel) (fun _ => rfl) (fun _ => rfl) ?_
  show WAt _ _ _ _ _ _ _ _ (_, ovS _ (278) (0, 12, [279 + 3, 0, 280 + 3, 281 + 3, 0, 0, 282 + 3, 0, 0, 283 + 3, 0, 284 + 3, 0, 0, 2, 0, 0, 0, 0, 285 + 3, 286 + 3, 0, 2, 0, 0, 287 + 3, 0, 0, 0, 0, 288 + 3, 0, 289 + 3, 290 + 3, 291 + 3, 0, 292 + 3, 293 + 3, 0, 1, 1, 0, 1, 1, 1, 1, 1, 1, 1, 0, 1, 0, 1, 1, 1]), _) _ _
  refine w_aload_n rfl rfl ?_
  refine w_bipush rfl (by omega) ?_
  refine w_newa (t := 0) (N := 12) rfl (by decide) ac_int (by omega) (by rw [ovS_n (by omega), hS _ (by omega)]; exact h16) (by rw [up2_ne (by omega), up2_ne (by omega)]; exact hZ _ (by omega)) (by rw [hc]; omega) (by rw [hs]; omega) ?_
  refine w_putR (a := 278) (r := 294) (ty := (.array .int)) rfl (by omega) rfl (by rw [rd_k (by decide), rd_k (by decide)]; exact congrFun (hZ 278 (Nat.le_refl _)) 39) rfl (Or.inr ⟨rfl, rfl⟩) (by decide +kernel) (fun _ => rfl) (fun _ => rfl) ?_
  show WAt _ _ _ _ _ _ _ _ (_, ovS _ (278) (0, 12, [279 + 3, 0, 280 + 3, 281 + 3, 0, 0, 282 + 3, 0, 0, 283 + 3, 0, 284 + 3, 0, 0, 2, 0, 0, 0, 0, 285 + 3, 286 + 3, 0, 2, 0, 0, 287 + 3, 0, 0, 0, 0, 288 + 3, 0, 289 + 3, 290 + 3, 291 + 3, 0, 292 + 3, 293 + 3, 0, 294 + 3, 1, 0, 1, 1, 1, 1, 1, 1, 1, 0, 1, 0, 1, 1, 1]), _) _ _
  refine w_aload_n rfl rfl ?_
  refine w_bipush rfl (by omega) ?_
  refine w_newa (t := 0) (N := 50) rfl (by decide) ac_int (by omega) (by rw [ovS_n (by omega), hS _ (by omega)]; exact h17) (by rw [up2_ne (by omega), up2_ne (by omega)]; exact hZ _ (by omega)) (by rw [hc]; omega) (by rw [hs]; omega) ?_
  refine w_putR (a := 278) (r := 295) (ty := (.array .int)) rfl (by omega) rfl (by rw [rd_k (by decide), rd_k (by decide)]; exact congrFun (hZ 278 (Nat.le_refl _)) 40) rfl (Or.inr ⟨rfl, rfl⟩) (by decide +kernel) (fun _ => rfl) (fun _ => rfl) ?_
  show WAt _ _ _ _ _ _ _ _ (_, ovS _ (278) (0, 12, [279 + 3, 0, 280 + 3, 281 + 3, 0, 0, 282 + 3, 0, 0, 283 + 3, 0, 284 + 3, 0, 0, 2, 0, 0, 0, 0, 285 + 3, 286 + 3, 0, 2, 0, 0, 287 + 3, 0, 0, 0, 0, 288 + 3, 0, 289 + 3, 290 + 3, 291 + 3, 0, 292 + 3, 293 + 3, 0, 294 + 3, 295 + 3, 0, 1, 1, 1, 1, 1, 1, 1, 0, 1, 0, 1, 1, 1]), _) _ _
  refine w_aload_n rfl rfl ?_
  refine w_bipush rfl (by omega) ?_
  refine w_newa (t := 0) (N := 10) rfl (by decide) ac_int (by omega) (by rw [ovS_n (by omega), hS _ (by omega)]; exact h18) (by rw [up2_ne (by omega), up2_ne (by omega)]; exact hZ _ (by omega)) (by rw [hc]; omega) (by rw [hs]; omega) ?_
  refine w_putR (a := 278) (r := 296) (ty := (.array .int)) rfl (by omega) rfl (by rw [rd_k (by decide), rd_k (by decide)]; exact congrFun (hZ 278 (Nat.le_refl _)) 42) rfl (Or.inr ⟨rfl, rfl⟩) (by decide +kernel) (fun _ => rfl) (fun _ => rfl) ?_
  show WAt _ _ _ _ _ _ _ _ (_, ovS _ (278) (0, 12, [279 + 3, 0, 280 + 3, 281 + 3, 0, 0, 282 + 3, 0, 0, 283 + 3, 0, 284 + 3, 0, 0, 2, 0, 0, 0, 0, 285 + 3, 286 + 3, 0, 2, 0, 0, 287 + 3, 0, 0, 0, 0, 288 + 3, 0, 289 + 3, 290 + 3, 291 + 3, 0, 292 + 3, 293 + 3, 0, 294 + 3, 295 + 3, 0, 296 + 3, 1, 1, 1, 1, 1, 1, 0, 1, 0, 1, 1, 1]), _) _ _
  refine w_aload_n rfl rfl ?_
  refine w_bipush rfl (by omega) ?_
  refine w_newa (t := 0) (N := 10) rfl (by decide) ac_int (by omega) (by rw [ovS_n (by omega), hS _ (by omega)]; exact h19) (by rw [up2_ne (by omega), up2_ne (by omega)]; exact hZ _ (by omega)) (by rw [hc]; omega) (by rw [hs]; omega) ?_
  refine w_putR (a := 278) (r := 297) (ty := (.array .int)) rfl (by omega) rfl (by rw [rd_k (by decide), rd_k (by decide)]; exact congrFun (hZ 278 (Nat.le_refl _)) 43) rfl (Or.inr ⟨rfl, rfl⟩) (by decide +kernel) (fun _ => rfl) (fun _ => rfl) ?_
  show WAt _ _ _ _ _ _ _ _ (_, ovS _ (278) (0, 12, [279 + 3, 0, 280 + 3, 281 + 3, 0, 0, 282 + 3, 0, 0, 283 + 3, 0, 284 + 3, 0, 0, 2, 0, 0, 0, 0, 285 + 3, 286 + 3, 0, 2, 0, 0, 287 + 3, 0, 0, 0, 0, 288 + 3, 0, 289 + 3, 290 + 3, 291 + 3, 0, 292 + 3, 293 + 3, 0, 294 + 3, 295 + 3, 0, 296 + 3, 297 + 3, 1, 1, 1, 1, 1, 0, 1, 0, 1, 1, 1]), _) _ _
  refine w_aload_n rfl rfl ?_
  refine w_bipush rfl (by omega) ?_
  refine w_newa (t := 0) (N := 10) rfl (by decide) ac_int (by omega) (by rw [ovS_n (by omega), hS _ (by omega)]; exact h20) (by rw [up2_ne (by omega), up2_ne (by omega)]; exact hZ _ (by omega)) (by rw [hc]; omega) (by rw [hs]; omega) ?_
  refine w_putR (a := 278) (r := 298) (ty := (.array .int)) rfl (by omega) rfl (by rw [rd_k (by decide), rd_k (by decide)]; exact congrFun (hZ 278 (Nat.le_refl _)) 44) rfl (Or.inr ⟨rfl, rfl⟩) (by decide +kernel) (fun _ => rfl) (fun _ => rfl) ?_
  show WAt _ _ _ _ _ _ _ _ (_, ovS _ (278) (0, 12, [279 + 3, 0, 280 + 3, 281 + 3, 0, 0, 282 + 3, 0, 0, 283 + 3, 0, 284 + 3, 0, 0, 2, 0, 0, 0, 0, 285 + 3, 286 + 3, 0, 2, 0, 0, 287 + 3, 0, 0, 0, 0, 288 + 3, 0, 289 + 3, 290 + 3, 291 + 3, 0, 292 + 3, 293 + 3, 0, 294 + 3, 295 + 3, 0, 296 + 3, 297 + 3, 298 + 3, 1, 1, 1, 1, 0, 1, 0, 1, 1, 1]), _) _ _
  refine w_aload_n rfl rfl ?_
  refine w_bipush rfl (by omega) ?_
  refine w_newa (t := 0) (N := 10) rfl (by decide) ac_int (by omega) (by rw [ovS_n (by omega), hS _ (by omega)]; exact h21) (by rw [up2_ne (by omega), up2_ne (by omega)]; exact hZ _ (by omega)) (by rw [hc]; omega) (by rw [hs]; omega) ?_
  refine w_putR (a := 278) (r := 299) (ty := (.array .int)) rfl (by omega) rfl (by rw [rd_k (by decide), rd_k (by decide)]; exact congrFun (hZ 278 (Nat.le_refl _)) 45) rfl (Or.inr ⟨rfl, rfl⟩) (by decide +kernel) (fun _ => rfl) (fun _ => rfl) ?_
  show WAt _ _ _ _ _ _ _ _ (_, ovS _ (278) (0, 12, [279 + 3, 0, 280 + 3, 281 + 3, 0, 0, 282 + 3, 0, 0, 283 + 3, 0, 284 + 3, 0, 0, 2, 0, 0, 0, 0, 285 + 3, 286 + 3, 0, 2, 0, 0, 287 + 3, 0, 0, 0, 0, 288 + 3, 0, 289 + 3, 290 + 3, 291 + 3, 0, 292 + 3, 293 + 3, 0, 294 + 3, 295 + 3, 0, 296 + 3, 297 + 3, 298 + 3, 299 + 3, 1, 1, 1, 0, 1, 0, 1, 1, 1]), _) _ _
  refine w_aload_n rfl rfl ?_
  refine w_sipush rfl (by omega) ?_
  refine w_newa (t := 2) (N := 601) rfl (by decide) ac_boolean (by omega) (by rw [ovS_n (by omega), hS _ (by omega)]; exact h22) (by rw [up2_ne (by omega), up2_ne (by omega)]; exact hZ _ (by omega)) (by rw [hc]; omega) (by rw [hs]; omega) ?_
  refine w_putR (a := 278) (r := 300) (ty := (.array .boolean)) rfl (by omega) rfl (by rw [rd_k (by decide), rd_k (by decide)]; exact congrFun (hZ 278 (Nat.le_refl _)) 46) rfl (Or.inr ⟨rfl, rfl⟩) (by decide +kernel) (fun _ => rfl) (fun _ => rfl) ?_
  show WAt _ _ _ _ _ _ _ _ (_, ovS _ (278) (0, 12, [279 + 3, 0, 280 + 3, 281 + 3, 0, 0, 282 + 3, 0, 0, 283 + 3, 0, 284 + 3, 0, 0, 2, 0, 0, 0, 0, 285 + 3, 286 + 3, 0, 2, 0, 0, 287 + 3, 0, 0, 0, 0, 288 + 3, 0, 289 + 3, 290 + 3, 291 + 3, 0, 292 + 3, 293 + 3, 0, 294 + 3, 295 + 3, 0, 296 + 3, 297 + 3, 298 + 3, 299 + 3, 300 + 3, 1, 1, 0, 1, 0, 1, 1, 1]), _) _ _
  refine w_aload_n rfl rfl ?_
  refine w_iconst rfl (by unfold InR; omega) ?_
  refine w_newa (t := 0) (N := 2) rfl (by decide) ac_int (by omega) (by rw [ovS_n (by omega), hS _ (by omega)]; exact h23) (by rw [up2_ne (by omega), up2_ne (by omega)]; exact hZ _ (by omega)) (by rw [hc]; omega) (by rw [hs]; omega) ?_
  refine w_putR (a := 278) (r := 301) (ty := (.array .int)) rfl (by omega) rfl (by rw [rd_k (by decide), rd_k (by decide)]; exact congrFun (hZ 278 (Nat.le_refl _)) 47) rfl (Or.inr ⟨rfl, rfl⟩) (by decide +kernel) (fun _ => rfl) (fun _ => rfl) ?_
  show WAt _ _ _ _ _ _ _ _ (_, ovS _ (278) (0, 12, [279 + 3, 0, 280 + 3, 281 + 3, 0, 0, 282 + 3, 0, 0, 283 + 3, 0, 284 + 3, 0, 0, 2, 0, 0, 0, 0, 285 + 3, 286 + 3, 0, 2, 0, 0, 287 + 3, 0, 0, 0, 0, 288 + 3, 0, 289 + 3, 290 + 3, 291 + 3, 0, 292 + 3, 293 + 3, 0, 294 + 3, 295 + 3, 0, 296 + 3, 297 + 3, 298 + 3, 299 + 3, 300 + 3, 301 + 3, 1, 0, 1, 0, 1, 1, 1]), _) _ _
  refine w_aload_n rfl rfl ?_
  refine w_bipush rfl (by omega) ?_
  refine w_newa (t := 0) (N := 24) rfl (by decide) ac_int (by omega) (by rw [ovS_n (by omega), hS _ (by omega)]; exact h24) (by rw [up2_ne (by omega), up2_ne (by omega)]; exact hZ _ (by omega)) (by rw [hc]; omega) (by rw [hs]; omega) ?_
  refine w_putR (a := 278) (r := 302) (ty := (.array .int)) rfl (by omega) rfl (by rw [rd_k (by decide), rd_k (by decide)]; exact congrFun (hZ 278 (Nat.le_refl _)) 48) rfl (Or.inr ⟨rfl, rfl⟩) (by decide +kernel) (fun _ => rfl) (fun _ => rfl) ?_
  show WAt _ _ _ _ _ _ _ _ (_, ovS _ (278) (0, 12, [279 + 3, 0, 280 + 3, 281 + 3, 0, 0, 282 + 3, 0, 0, 283 + 3, 0, 284 + 3, 0, 0, 2, 0, 0, 0, 0, 285 + 3, 286 + 3, 0, 2, 0, 0, 287 + 3, 0, 0, 0, 0, 288 + 3, 0, 289 + 3, 290 + 3, 291 + 3, 0, 292 + 3, 293 + 3, 0, 294 + 3, 295 + 3, 0, 296 + 3, 297 + 3, 298 + 3, 299 + 3, 300 + 3, 301 + 3, 302 + 3, 0, 1, 0, 1, 1, 1]), _) _ _
  refine w_aload_n rfl rfl ?_
  refine w_bipush rfl (by omega) ?_
  refine w_newa (t := 0) (N := 12) rfl (by decide) ac_int (by omega) (by rw [ovS_n (by omega), hS _ (by omega)]; exact h25) (by rw [up2_ne (by omega), up2_ne (by omega)]; exact hZ _ (by omega)) (by rw [hc]; omega) (by rw [hs]; omega) ?_
  refine w_putR (a := 278) (r := 303) (ty := (.array .int)) rfl (by omega) rfl (by rw [rd_k (by decide), rd_k (by decide)]; exact congrFun (hZ 278 (Nat.le_refl _)) 50) rfl (Or.inr ⟨rfl, rfl⟩) (by decide +kernel) (fun _ => rfl) (fun _ => rfl) ?_
  show WAt _ _ _ _ _ _ _ _ (_, ovS _ (278) (0, 12, [279 + 3, 0, 280 + 3, 281 + 3, 0, 0, 282 + 3, 0, 0, 283 + 3, 0, 284 + 3, 0, 0, 2, 0, 0, 0, 0, 285 + 3, 286 + 3, 0, 2, 0, 0, 287 + 3, 0, 0, 0, 0, 288 + 3, 0, 289 + 3, 290 + 3, 291 + 3, 0, 292 + 3, 293 + 3, 0, 294 + 3, 295 + 3, 0, 296 + 3, 297 + 3, 298 + 3, 299 + 3, 300 + 3, 301 + 3, 302 + 3, 0, 303 + 3, 0, 1, 1, 1]), _) _ _
  refine w_aload_n rfl rfl ?_
  refine w_sipush rfl (by omega) ?_
  refine w_newa (t := 0) (N := 414) rfl (by decide) ac_int (by omega) (by rw [ovS_n (by omega), hS _ (by omega)]; exact h26) (by rw [up2_ne (by omega), up2_ne (by omega)]; exact hZ _ (by omega)) (by rw [hc]; omega) (by rw [hs]; omega) ?_
  refine w_putR (a := 278) (r := 304) (ty := (.array .int)) rfl (by omega) rfl (by rw [rd_k (by decide), rd_k (by decide)]; exact congrFun (hZ 278 (Nat.le_refl _)) 52) rfl (Or.inr ⟨rfl, rfl⟩) (by decide +kernel) (fun _ => rfl) (fun _ => rfl) ?_
  show WAt _ _ _ _ _ _ _ _ (_, ovS _ (278) (0, 12, [279 + 3, 0, 280 + 3, 281 + 3, 0, 0, 282 + 3, 0, 0, 283 + 3, 0, 284 + 3, 0, 0, 2, 0, 0, 0, 0, 285 + 3, 286 + 3, 0, 2, 0, 0, 287 + 3, 0, 0, 0, 0, 288 + 3, 0, 289 + 3, 290 + 3, 291 + 3, 0, 292 + 3, 293 + 3, 0, 294 + 3, 295 + 3, 0, 296 + 3, 297 + 3, 298 + 3, 299 + 3, 300 + 3, 301 + 3, 302 + 3, 0, 303 + 3, 0, 304 + 3, 1, 1]), _) _ _
  refine w_aload_n rfl rfl ?_
  refine w_iconst rfl (by unfold InR; omega) ?_
  refine w_newa (t := 2) (N := 2) rfl (by decide) ac_boolean (by omega) (by rw [ovS_n (by omega), hS _ (by omega)]; exact h27) (by rw [up2_ne (by omega), up2_ne (by omega)]; exact hZ _ (by omega)) (by rw [hc]; omega) (by rw [hs]; omega) ?_
  refine w_putR (a := 278) (r := 305) (ty := (.array .boolean)) rfl (by omega) rfl (by rw [rd_k (by decide), rd_k (by decide)]; exact congrFun (hZ 278 (Nat.le_refl _)) 53) rfl (Or.inr ⟨rfl, rfl⟩) (by decide +kernel) (fun _ => rfl) (fun _ => rfl) ?_
  show WAt _ _ _ _ _ _ _ _ (_, ovS _ (278) (0, 12, [279 + 3, 0, 280 + 3, 281 + 3, 0, 0, 282 + 3, 0, 0, 283 + 3, 0, 284 + 3, 0, 0, 2, 0, 0, 0, 0, 285 + 3, 286 + 3, 0, 2, 0, 0, 287 + 3, 0, 0, 0, 0, 288 + 3, 0, 289 + 3, 290 + 3, 291 + 3, 0, 292 + 3, 293 + 3, 0, 294 + 3, 295 + 3, 0, 296 + 3, 297 + 3, 298 + 3, 299 + 3, 300 + 3, 301 + 3, 302 + 3, 0, 303 + 3, 0, 304 + 3, 305 + 3, 1]), _) _ _
  refine w_aload_n rfl rfl ?_
  refine w_iconst rfl (by unfold InR; omega) ?_
  refine w_newa (t := 0) (N := 2) rfl (by decide) ac_int (by omega) (by rw [ovS_n (by omega), hS _ (by omega)]; exact h28) (by rw [up2_ne (by omega), up2_ne (by omega)]; exact hZ _ (by omega)) (by rw [hc]; omega) (by rw [hs]; omega) ?_
  refine w_putR (a := 278) (r := 306) (ty := (.array .int)) rfl (by omega) rfl (by rw [rd_k (by decide), rd_k (by decide)]; exact congrFun (hZ 278 (Nat.le_refl _)) 54) rfl (Or.inr ⟨rfl, rfl⟩) (by decide +kernel) (fun _ => rfl) (fun _ => rfl) ?_
  show WAt _ _ _ _ _ _ _ _ (_, ovS _ (278) (0, 12, [279 + 3, 0, 280 + 3, 281 + 3, 0, 0, 282 + 3, 0, 0, 283 + 3, 0, 284 + 3, 0, 0, 2, 0, 0, 0, 0, 285 + 3, 286 + 3, 0, 2, 0, 0, 287 + 3, 0, 0, 0, 0, 288 + 3, 0, 289 + 3, 290 + 3, 291 + 3, 0, 292 + 3, 293 + 3, 0, 294 + 3, 295 + 3, 0, 296 + 3, 297 + 3, 298 + 3, 299 + 3, 300 + 3, 301 + 3, 302 + 3, 0, 303 + 3, 0, 304 + 3, 305 + 3, 306 + 3]), _) _ _
  rw [ovS_id (a := 278) (by rw [hS _ (by omega)]; exact h0)]
  exact w_return rfl rfl hk
theorem sh_sc : ∀ a, a ∈ I_sc → S0 (a) = (0, 9, [a + 1 + 3, a + 2 + 3, 0, 0, 0, 0]) ∧ S0 (a + 1) = (3, 4, [a + 7 + 1, a + 10 + 1, a + 13 + 1]) ∧ S0 (a + 7) = (0, 1, [a + 8 + 3, a + 9 + 3, 0, 0, 0, 0]) ∧ S0 (a + 10) = (0, 1, [a + 11 + 3, a + 12 + 3, 0, 0, 0, 0]) ∧ S0 (a + 13) = (0, 1, [a + 14 + 3, a + 15 + 3, 0, 0, 0, 0]) ∧ (a + 2) ∈ I_ca ∧ (a + 7) ∈ I_be ∧ (a + 10) ∈ I_be ∧ (a + 13) ∈ I_be := by decide +kernel
set_option maxRecDepth 100000 in
set_option maxHeartbeats 4000000 in
theorem cal_sc_init {Δ : DT} {d a : Nat} {S : Nat → SHP} {M : MEM} (ha : a ∈ I_sc) (hS : ∀ i, a ≤ i → S i = S0 i) (hZ : ∀ c, a ≤ c → M c = fun _ => 0) (hM : okM M) : Cal Δ true m_sc_init (d + 2) [vR a] (a + 1, ovS S (a) (0, 9, [1, 1, 0, 0, 0, 0]), M) none (a + 16, S, M) 15 222 := by
  obtain ⟨h0, h1, h7, h10, h13, i2, i7, i10, i13⟩ := sh_sc a ha
  refine cal_of g_sc_init p_sc_init (fun v hv => by simp only [List.mem_cons, List.not_mem_nil, or_false] at hv; rcases hv with rfl <;> exact Or.inr ⟨_, rfl⟩) (fun v hv => by simp only [List.mem_cons, List.not_mem_nil, or_false] at hv; rcases hv with rfl <;> exact trivial) hM (Nat.le_of_ble_eq_true rfl) (fun Γ hR hk => ?_)
  have hc : Γ.2.2.1.cells = 15 := by rw [hR]; rfl
  have hs : Γ.2.2.1.slots = 222 := by rw [hR]; rfl
  refine w_aload_n rfl rfl ?_
  refine w_oinit rfl oi_w (Nat.le_of_ble_eq_true rfl) ?_
  refine w_aload_n rfl rfl ?_
  refine w_iconst rfl (by unfold InR; omega) ?_
  refine w_anew (t := 4) (N := 3) rfl (by decide) (by omega) (by rw [hc]; omega) (by rw [hs]; omega) ?_
  rw [show List.replicate 3 0 = [0, 0, 0] from rfl]
  rw [ovS_c (S := S) (a := a) (b := a + 1) (by omega)]
  refine w_putR (a := a) (r := a + 1) (ty := (.array (.object "DonkeysHour$Beast"))) rfl (by omega) rfl (congrFun (hZ a (Nat.le_refl _)) 0) rfl (Or.inr ⟨rfl, rfl⟩) (by decide +kernel) (fun _ => rfl) (fun _ => rfl) ?_
  show WAt _ _ _ _ _ _ _ _ (_, ovS _ (a) (0, 9, [a + 1 + 3, 1, 0, 0, 0, 0]), _) _ _
  refine w_aload_n rfl rfl ?_
  refine w_new (ci := 2) (ks := [1, 1, 1, 1, 0]) rfl rfl tyX2 tyX2_ok ni_ca nf_ca (by decide) (hZ _ (by omega)) (by rw [hc]; omega) (by rw [hs]; omega) ?_
  refine w_dup rfl (fun _ h => by cases h) ?_
  refine call_new (as := []) (mc := 4) (ms := 40) (by decide) rfl (cal_ca_init (a := a + 2) i2 (fun i hi => by rw [ovS_n (by omega), ovS_n (by omega), hS _ (by omega)]) (fun i hi => hZ _ (by omega)) hM) nv_ca rfl rfl (Nat.le_of_ble_eq_true rfl) (by rw [hc, hs]; exact ⟨by omega, by omega⟩) ?_
  refine w_putR (a := a) (r := a + 2) (ty := (.object "DonkeysHour$Carrots")) rfl (by omega) rfl (congrFun (hZ a (Nat.le_refl _)) 1) rfl (Or.inr ⟨rfl, rfl⟩) (by decide +kernel) (fun _ => rfl) (fun _ => rfl) ?_
  show WAt _ _ _ _ _ _ _ _ (_, ovS _ (a) (0, 9, [a + 1 + 3, a + 2 + 3, 0, 0, 0, 0]), _) _ _
  refine w_iconst rfl (by unfold InR; omega) ?_
  refine w_istore_n (L' := [vR (a), vI (0)]) rfl (Nat.le_of_ble_eq_true rfl) rfl ?_
  refine w_iload_n rfl rfl ?_
  refine w_aload_n rfl rfl ?_
  refine w_getR (a := a) (r := a + 1) rfl (by omega) ovS_y rfl ?_
  refine w_alenq (a := a + 1) (t := 4) rfl (by omega) (by decide) (by rw [ovS_n (by omega)]; exact ovS_y) (by show 3 < 2147483648; decide) ?_
  show WAt _ _ _ _ _ _ _ (vI (3) :: _) _ _ _
  refine w_icmp_ge rfl (fun h => absurd h (by decide)) (fun _ => ?_)
  refine w_aload_n rfl rfl ?_
  refine w_getR (a := a) (r := a + 1) rfl (by omega) ovS_y rfl ?_
  refine w_iload_n rfl rfl ?_
  refine w_new (ci := 1) (ks := [1, 1, 0, 0, 0, 0]) rfl rfl tyX1 tyX1_ok ni_be nf_be (by decide) (hZ _ (by omega)) (by rw [hc]; omega) (by rw [hs]; omega) ?_
  refine w_dup rfl (fun _ h => by cases h) ?_
  refine call_new (as := []) (mc := 2) (ms := 52) (by decide) rfl (cal_be_init (a := a + 7) i7 (fun i hi => by rw [ovS_n (by omega), ovS_n (by omega), hS _ (by omega)]) (fun i hi => hZ _ (by omega)) hM) nv_be rfl rfl (Nat.le_of_ble_eq_true rfl) (by rw [hc, hs]; exact ⟨by omega, by omega⟩) ?_
  rw [ovS_c (S := S) (a := a + 1) (b := a) (by omega)]
  refine w_aast (t := 0) (i := 0) (ci := 1) (a := a + 1) (r := a + 7) rfl (by omega) (by omega) rfl rfl (by rw [ovS_n (by omega), hS _ (by omega)]; exact h7) (by omega) (by show 0 < 3; decide) (by show 3 < 2147483648; decide) ?_
  show WAt _ _ _ _ _ _ _ _ (_, ovS _ (a + 1) (3, 4, [a + 7 + 1, 0, 0]), _) _ _
  refine w_iinc (L' := [vR (a), vI (1)]) rfl rfl (Nat.le_of_ble_eq_true rfl) (by rw [wr_i (by decide) (by decide)]; rfl) ?_
  refine w_goto rfl ?_
  refine w_iload_n rfl rfl ?_
  refine w_aload_n rfl rfl ?_
  refine w_getR (a := a) (r := a + 1) rfl (by omega) (by rw [ovS_n (by omega)]; exact ovS_y) rfl ?_
  refine w_alenq (a := a + 1) (t := 4) rfl (by omega) (by decide) ovS_y (by show 3 < 2147483648; decide) ?_
  show WAt _ _ _ _ _ _ _ (vI (3) :: _) _ _ _
  refine w_icmp_ge rfl (fun h => absurd h (by decide)) (fun _ => ?_)
  refine w_aload_n rfl rfl ?_
  refine w_getR (a := a) (r := a + 1) rfl (by omega) (by rw [ovS_n (by omega)]; exact ovS_y) rfl ?_
  refine w_iload_n rfl rfl ?_
  refine w_new (ci := 1) (ks := [1, 1, 0, 0, 0, 0]) rfl rfl tyX1 tyX1_ok ni_be nf_be (by decide) (hZ _ (by omega)) (by rw [hc]; omega) (by rw [hs]; omega) ?_
  refine w_dup rfl (fun _ h => by cases h) ?_
  refine call_new (as := []) (mc := 2) (ms := 52) (by decide) rfl (cal_be_init (a := a + 10) i10 (fun i hi => by rw [ovS_n (by omega), ovS_n (by omega), hS _ (by omega)]) (fun i hi => hZ _ (by omega)) hM) nv_be rfl rfl (Nat.le_of_ble_eq_true rfl) (by rw [hc, hs]; exact ⟨by omega, by omega⟩) ?_
  refine w_aast (t := 0) (i := 1) (ci := 1) (a := a + 1) (r := a + 10) rfl (by omega) (by omega) rfl rfl (by rw [ovS_n (by omega), hS _ (by omega)]; exact h10) (by omega) (by show 1 < 3; decide) (by show 3 < 2147483648; decide) ?_
  show WAt _ _ _ _ _ _ _ _ (_, ovS _ (a + 1) (3, 4, [a + 7 + 1, a + 10 + 1, 0]), _) _ _
  refine w_iinc (L' := [vR (a), vI (2)]) rfl rfl (Nat.le_of_ble_eq_true rfl) (by rw [wr_i (by decide) (by decide)]; rfl) ?_
  refine w_goto rfl ?_
  refine w_iload_n rfl rfl ?_
  refine w_aload_n rfl rfl ?_
  refine w_getR (a := a) (r := a + 1) rfl (by omega) (by rw [ovS_n (by omega)]; exact ovS_y) rfl ?_
  refine w_alenq (a := a + 1) (t := 4) rfl (by omega) (by decide) ovS_y (by show 3 < 2147483648; decide) ?_
  show WAt _ _ _ _ _ _ _ (vI (3) :: _) _ _ _
  refine w_icmp_ge rfl (fun h => absurd h (by decide)) (fun _ => ?_)
  refine w_aload_n rfl rfl ?_
  refine w_getR (a := a) (r := a + 1) rfl (by omega) (by rw [ovS_n (by omega)]; exact ovS_y) rfl ?_
  refine w_iload_n rfl rfl ?_
  refine w_new (ci := 1) (ks := [1, 1, 0, 0, 0, 0]) rfl rfl tyX1 tyX1_ok ni_be nf_be (by decide) (hZ _ (by omega)) (by rw [hc]; omega) (by rw [hs]; omega) ?_
  refine w_dup rfl (fun _ h => by cases h) ?_
  refine call_new (as := []) (mc := 2) (ms := 52) (by decide) rfl (cal_be_init (a := a + 13) i13 (fun i hi => by rw [ovS_n (by omega), ovS_n (by omega), hS _ (by omega)]) (fun i hi => hZ _ (by omega)) hM) nv_be rfl rfl (Nat.le_of_ble_eq_true rfl) (by rw [hc, hs]; exact ⟨by omega, by omega⟩) ?_
  refine w_aast (t := 0) (i := 2) (ci := 1) (a := a + 1) (r := a + 13) rfl (by omega) (by omega) rfl rfl (by rw [ovS_n (by omega), hS _ (by omega)]; exact h13) (by omega) (by show 2 < 3; decide) (by show 3 < 2147483648; decide) ?_
  show WAt _ _ _ _ _ _ _ _ (_, ovS _ (a + 1) (3, 4, [a + 7 + 1, a + 10 + 1, a + 13 + 1]), _) _ _
  refine w_iinc (L' := [vR (a), vI (3)]) rfl rfl (Nat.le_of_ble_eq_true rfl) (by rw [wr_i (by decide) (by decide)]; rfl) ?_
  refine w_goto rfl ?_
  refine w_iload_n rfl rfl ?_
  refine w_aload_n rfl rfl ?_
  refine w_getR (a := a) (r := a + 1) rfl (by omega) (by rw [ovS_n (by omega)]; exact ovS_y) rfl ?_
  refine w_alenq (a := a + 1) (t := 4) rfl (by omega) (by decide) ovS_y (by show 3 < 2147483648; decide) ?_
  show WAt _ _ _ _ _ _ _ (vI (3) :: _) _ _ _
  refine w_icmp_ge rfl (fun _ => ?_) (fun h => absurd (by decide) h)
  rw [ovS_id (S := ovS S (a) _) (a := a + 1) (by rw [ovS_n (by omega), hS _ (by omega)]; exact h1), ovS_id (a := a) (by rw [hS _ (by omega)]; exact h0)]
  exact w_return rfl rfl hk
theorem sh_fu : ∀ a, a ∈ I_fu → S0 (a) = (0, 5, [21 + 3, 19 + 3, 5 + 3, a + 1 + 3, a + 6 + 3, a + 9 + 3, 0, 0, 0, 0, 0]) ∧ S0 (a + 9) = (1, 0, [600]) ∧ (a + 1) ∈ I_ca ∧ (a + 6) ∈ I_be := by decide +kernel
set_option maxRecDepth 100000 in
set_option maxHeartbeats 4000000 in
theorem cal_fu_init {Δ : DT} {d a : Nat} {S : Nat → SHP} {M : MEM} (ha : a ∈ I_fu) (hS : ∀ i, a ≤ i → S i = S0 i) (hZ : ∀ c, a ≤ c → M c = fun _ => 0) (hM : okM M) : Cal Δ true m_fu_init (d + 2) [vR a, vR 21, vR 19, vR 5] (a + 1, ovS S (a) (0, 5, [1, 1, 1, 1, 1, 1, 0, 0, 0, 0, 0]), M) none (a + 10, S, (up2 M (a) 6 (-1))) 9 703 := by
  obtain ⟨h0, h9, i1, i6⟩ := sh_fu a ha
  refine cal_of g_fu_init p_fu_init (fun v hv => by simp only [List.mem_cons, List.not_mem_nil, or_false] at hv; rcases hv with rfl | rfl | rfl | rfl <;> exact Or.inr ⟨_, rfl⟩) (fun v hv => by simp only [List.mem_cons, List.not_mem_nil, or_false] at hv; rcases hv with rfl | rfl | rfl | rfl <;> exact trivial) hM (Nat.le_of_ble_eq_true rfl) (fun Γ hR hk => ?_)
  have hc : Γ.2.2.1.cells = 9 := by rw [hR]; rfl
  have hs : Γ.2.2.1.slots = 703 := by rw [hR]; rfl
  refine w_aload_n rfl rfl ?_
  refine w_oinit rfl oi_w (Nat.le_of_ble_eq_true rfl) ?_
  refine w_aload_n rfl rfl ?_
  refine w_new (ci := 2) (ks := [1, 1, 1, 1, 0]) rfl rfl tyX2 tyX2_ok ni_ca nf_ca (by decide) (hZ _ (by omega)) (by rw [hc]; omega) (by rw [hs]; omega) ?_
  refine w_dup rfl (fun _ h => by cases h) ?_
  refine call_new (as := []) (mc := 4) (ms := 40) (by decide) rfl (cal_ca_init (a := a + 1) i1 (fun i hi => by rw [ovS_n (by omega), hS _ (by omega)]) (fun i hi => hZ _ (by omega)) hM) nv_ca rfl rfl (Nat.le_of_ble_eq_true rfl) (by rw [hc, hs]; exact ⟨by omega, by omega⟩) ?_
  refine w_putR (a := a) (r := a + 1) (ty := (.object "DonkeysHour$Carrots")) rfl (by omega) rfl (congrFun (hZ a (Nat.le_refl _)) 3) rfl (Or.inr ⟨rfl, rfl⟩) (by decide +kernel) (fun _ => rfl) (fun _ => rfl) ?_
  show WAt _ _ _ _ _ _ _ _ (_, ovS _ (a) (0, 5, [1, 1, 1, a + 1 + 3, 1, 1, 0, 0, 0, 0, 0]), _) _ _
  refine w_aload_n rfl rfl ?_
  refine w_new (ci := 1) (ks := [1, 1, 0, 0, 0, 0]) rfl rfl tyX1 tyX1_ok ni_be nf_be (by decide) (hZ _ (by omega)) (by rw [hc]; omega) (by rw [hs]; omega) ?_
  refine w_dup rfl (fun _ h => by cases h) ?_
  refine call_new (as := []) (mc := 2) (ms := 52) (by decide) rfl (cal_be_init (a := a + 6) i6 (fun i hi => by rw [ovS_n (by omega), hS _ (by omega)]) (fun i hi => hZ _ (by omega)) hM) nv_be rfl rfl (Nat.le_of_ble_eq_true rfl) (by rw [hc, hs]; exact ⟨by omega, by omega⟩) ?_
  refine w_putR (a := a) (r := a + 6) (ty := (.object "DonkeysHour$Beast")) rfl (by omega) rfl (congrFun (hZ a (Nat.le_refl _)) 4) rfl (Or.inr ⟨rfl, rfl⟩) (by decide +kernel) (fun _ => rfl) (fun _ => rfl) ?_
  show WAt _ _ _ _ _ _ _ _ (_, ovS _ (a) (0, 5, [1, 1, 1, a + 1 + 3, a + 6 + 3, 1, 0, 0, 0, 0, 0]), _) _ _
  refine w_aload_n rfl rfl ?_
  refine w_sipush rfl (by omega) ?_
  refine w_newa (t := 0) (N := 600) rfl (by decide) ac_int (by omega) (by rw [ovS_n (by omega), hS _ (by omega)]; exact h9) (hZ _ (by omega)) (by rw [hc]; omega) (by rw [hs]; omega) ?_
  refine w_putR (a := a) (r := a + 9) (ty := (.array .int)) rfl (by omega) rfl (congrFun (hZ a (Nat.le_refl _)) 5) rfl (Or.inr ⟨rfl, rfl⟩) (by decide +kernel) (fun _ => rfl) (fun _ => rfl) ?_
  show WAt _ _ _ _ _ _ _ _ (_, ovS _ (a) (0, 5, [1, 1, 1, a + 1 + 3, a + 6 + 3, a + 9 + 3, 0, 0, 0, 0, 0]), _) _ _
  refine w_aload_n rfl rfl ?_
  refine w_iconst rfl (by unfold InR; omega) ?_
  refine w_putI (a := a) rfl (by omega) ovS_y rfl rfl ?_
  refine w_aload_n rfl rfl ?_
  refine w_aload_n rfl rfl ?_
  refine w_putR (a := a) (r := 21) (ty := (.object "DonkeysHour$Rule")) rfl (by omega) rfl (by rw [rd_k (by decide)]; exact congrFun (hZ a (Nat.le_refl _)) 0) rfl (Or.inr ⟨rfl, rfl⟩) (by decide +kernel) (fun _ => rfl) (fun _ => rfl) ?_
  show WAt _ _ _ _ _ _ _ _ (_, ovS _ (a) (0, 5, [21 + 3, 1, 1, a + 1 + 3, a + 6 + 3, a + 9 + 3, 0, 0, 0, 0, 0]), _) _ _
  refine w_aload_n rfl rfl ?_
  refine w_aload_n rfl rfl ?_
  refine w_putR (a := a) (r := 19) (ty := (.object "DonkeysHour$Flies")) rfl (by omega) rfl (by rw [rd_k (by decide)]; exact congrFun (hZ a (Nat.le_refl _)) 1) rfl (Or.inr ⟨rfl, rfl⟩) (by decide +kernel) (fun _ => rfl) (fun _ => rfl) ?_
  show WAt _ _ _ _ _ _ _ _ (_, ovS _ (a) (0, 5, [21 + 3, 19 + 3, 1, a + 1 + 3, a + 6 + 3, a + 9 + 3, 0, 0, 0, 0, 0]), _) _ _
  refine w_aload_n rfl rfl ?_
  refine w_aload_n rfl rfl ?_
  refine w_putR (a := a) (r := 5) (ty := (.object "DonkeysHour$Carrots")) rfl (by omega) rfl (by rw [rd_k (by decide)]; exact congrFun (hZ a (Nat.le_refl _)) 2) rfl (Or.inr ⟨rfl, rfl⟩) (by decide +kernel) (fun _ => rfl) (fun _ => rfl) ?_
  show WAt _ _ _ _ _ _ _ _ (_, ovS _ (a) (0, 5, [21 + 3, 19 + 3, 5 + 3, a + 1 + 3, a + 6 + 3, a + 9 + 3, 0, 0, 0, 0, 0]), _) _ _
  rw [ovS_id (a := a) (by rw [hS _ (by omega)]; exact h0)]
  exact w_return rfl rfl hk
set_option maxRecDepth 100000 in
theorem sh_hi : S0 (45) = (0, 6, [46 + 3, 0, 0]) ∧ S0 (46) = (3, 5, [47 + 1, 63 + 1, 79 + 1, 95 + 1, 111 + 1, 127 + 1, 143 + 1, 159 + 1, 175 + 1, 191 + 1, 207 + 1]) ∧ S0 (47) = (0, 9, [48 + 3, 49 + 3, 0, 0, 0, 0]) ∧ S0 (63) = (0, 9, [64 + 3, 65 + 3, 0, 0, 0, 0]) ∧ S0 (79) = (0, 9, [80 + 3, 81 + 3, 0, 0, 0, 0]) ∧ S0 (95) = (0, 9, [96 + 3, 97 + 3, 0, 0, 0, 0]) ∧ S0 (111) = (0, 9, [112 + 3, 113 + 3, 0, 0, 0, 0]) ∧ S0 (127) = (0, 9, [128 + 3, 129 + 3, 0, 0, 0, 0]) ∧ S0 (143) = (0, 9, [144 + 3, 145 + 3, 0, 0, 0, 0]) ∧ S0 (159) = (0, 9, [160 + 3, 161 + 3, 0, 0, 0, 0]) ∧ S0 (175) = (0, 9, [176 + 3, 177 + 3, 0, 0, 0, 0]) ∧ S0 (191) = (0, 9, [192 + 3, 193 + 3, 0, 0, 0, 0]) ∧ S0 (207) = (0, 9, [208 + 3, 209 + 3, 0, 0, 0, 0]) ∧ (47) ∈ I_sc ∧ (63) ∈ I_sc ∧ (79) ∈ I_sc ∧ (95) ∈ I_sc ∧ (111) ∈ I_sc ∧ (127) ∈ I_sc ∧ (143) ∈ I_sc ∧ (159) ∈ I_sc ∧ (175) ∈ I_sc ∧ (191) ∈ I_sc ∧ (207) ∈ I_sc := ⟨rfl, rfl, rfl, rfl, rfl, rfl, rfl, rfl, rfl, rfl, rfl, rfl, rfl, by decide +kernel, by decide +kernel, by decide +kernel, by decide +kernel, by decide +kernel, by decide +kernel, by decide +kernel, by decide +kernel, by decide +kernel, by decide +kernel, by decide +kernel⟩
set_option maxRecDepth 100000 in
set_option maxHeartbeats 4000000 in
theorem cal_hi_init {Δ : DT} {d : Nat} {S : Nat → SHP} {M : MEM} (hS : ∀ i, 45 ≤ i → S i = S0 i) (hZ : ∀ c, 45 ≤ c → M c = fun _ => 0) (hM : okM M) : Cal Δ true m_hi_init (d + 3) [vR 45] (46, ovS S (45) (0, 6, [1, 0, 0]), M) none (223, S, M) 177 2519 := by
  obtain ⟨h0, h1, h2, h18, h34, h50, h66, h82, h98, h114, h130, h146, h162, i2, i18, i34, i50, i66, i82, i98, i114, i130, i146, i162⟩ := sh_hi
  refine cal_of g_hi_init p_hi_init (fun v hv => by simp only [List.mem_cons, List.not_mem_nil, or_false] at hv; rcases hv with rfl <;> exact Or.inr ⟨_, rfl⟩) (fun v hv => by simp only [List.mem_cons, List.not_mem_nil, or_false] at hv; rcases hv with rfl <;> exact trivial) hM (Nat.le_of_ble_eq_true rfl) (fun Γ hR hk => ?_)
  have hc : Γ.2.2.1.cells = 177 := by rw [hR]; rfl
  have hs : Γ.2.2.1.slots = 2519 := by rw [hR]; rfl
  refine w_aload_n rfl rfl ?_
  refine w_oinit rfl oi_w (Nat.le_of_ble_eq_true rfl) ?_
  refine w_aload_n rfl rfl ?_
  refine w_bipush rfl (by omega) ?_
  refine w_anew (t := 5) (N := 11) rfl (by decide) (by omega) (by rw [hc]; omega) (by rw [hs]; omega) ?_
  rw [show List.replicate 11 0 = [0, 0, 0, 0, 0, 0, 0, 0, 0, 0, 0] from rfl]
  rw [ovS_c (S := S) (a := 45) (b := 46) (by omega)]
  refine w_putR (a := 45) (r := 46) (ty := (.array (.object "DonkeysHour$Scene"))) rfl (by omega) rfl (congrFun (hZ 45 (Nat.le_refl _)) 0) rfl (Or.inr ⟨rfl, rfl⟩) (by decide +kernel) (fun _ => rfl) (fun _ => rfl) ?_
  show WAt _ _ _ _ _ _ _ _ (_, ovS _ (45) (0, 6, [46 + 3, 0, 0]), _) _ _
  refine w_iconst rfl (by unfold InR; omega) ?_
  refine w_istore_n (L' := [vR (45), vI (0)]) rfl (Nat.le_of_ble_eq_true rfl) rfl ?_
  refine w_iload_n rfl rfl ?_
  refine w_aload_n rfl rfl ?_
  refine w_getR (a := 45) (r := 46) rfl (by omega) ovS_y rfl ?_
  refine w_alenq (a := 46) (t := 5) rfl (by omega) (by decide) (by rw [ovS_n (by omega)]; exact ovS_y) (by show 11 < 2147483648; decide) ?_
  show WAt _ _ _ _ _ _ _ (vI (11) :: _) _ _ _
  refine w_icmp_ge rfl (fun h => absurd h (by decide)) (fun _ => ?_)
  refine w_aload_n rfl rfl ?_
  refine w_getR (a := 45) (r := 46) rfl (by omega) ovS_y rfl ?_
  refine w_iload_n rfl rfl ?_
  refine w_new (ci := 9) (ks := [1, 1, 0, 0, 0, 0]) rfl rfl tyX9 tyX9_ok ni_sc nf_sc (by decide) (hZ _ (by omega)) (by rw [hc]; omega) (by rw [hs]; omega) ?_
  refine w_dup rfl (fun _ h => by cases h) ?_
  refine call_new (as := []) (mc := 15) (ms := 222) (by decide) rfl (cal_sc_init (a := 47) i2 (fun i hi => by rw [ovS_n (by omega), ovS_n (by omega), hS _ (by omega)]) (fun i hi => hZ _ (by omega)) hM) nv_sc rfl rfl (Nat.le_of_ble_eq_true rfl) (by rw [hc, hs]; exact ⟨by omega, by omega⟩) ?_
  rw [ovS_c (S := S) (a := 46) (b := 45) (by omega)]
  refine w_aast (t := 1) (i := 0) (ci := 9) (a := 46) (r := 47) rfl (by omega) (by omega) rfl rfl (by rw [ovS_n (by omega), hS _ (by omega)]; exact h2) (by omega) (by show 0 < 11; decide) (by show 11 < 2147483648; decide) ?_
  show WAt _ _ _ _ _ _ _ _ (_, ovS _ (46) (3, 5, [47 + 1, 0, 0, 0, 0, 0, 0, 0, 0, 0, 0]), _) _ _
  refine w_iinc (L' := [vR (45), vI (1)]) rfl rfl (Nat.le_of_ble_eq_true rfl) (by rw [wr_i (by decide) (by decide)]; rfl) ?_
  refine w_goto rfl ?_
  refine w_iload_n rfl rfl ?_
  refine w_aload_n rfl rfl ?_
  refine w_getR (a := 45) (r := 46) rfl (by omega) (by rw [ovS_n (by omega)]; exact ovS_y) rfl ?_
  refine w_alenq (a := 46) (t := 5) rfl (by omega) (by decide) ovS_y (by show 11 < 2147483648; decide) ?_
  show WAt _ _ _ _ _ _ _ (vI (11) :: _) _ _ _
  refine w_icmp_ge rfl (fun h => absurd h (by decide)) (fun _ => ?_)
  refine w_aload_n rfl rfl ?_
  refine w_getR (a := 45) (r := 46) rfl (by omega) (by rw [ovS_n (by omega)]; exact ovS_y) rfl ?_
  refine w_iload_n rfl rfl ?_
  refine w_new (ci := 9) (ks := [1, 1, 0, 0, 0, 0]) rfl rfl tyX9 tyX9_ok ni_sc nf_sc (by decide) (hZ _ (by omega)) (by rw [hc]; omega) (by rw [hs]; omega) ?_
  refine w_dup rfl (fun _ h => by cases h) ?_
  refine call_new (as := []) (mc := 15) (ms := 222) (by decide) rfl (cal_sc_init (a := 63) i18 (fun i hi => by rw [ovS_n (by omega), ovS_n (by omega), hS _ (by omega)]) (fun i hi => hZ _ (by omega)) hM) nv_sc rfl rfl (Nat.le_of_ble_eq_true rfl) (by rw [hc, hs]; exact ⟨by omega, by omega⟩) ?_
  refine w_aast (t := 1) (i := 1) (ci := 9) (a := 46) (r := 63) rfl (by omega) (by omega) rfl rfl (by rw [ovS_n (by omega), hS _ (by omega)]; exact h18) (by omega) (by show 1 < 11; decide) (by show 11 < 2147483648; decide) ?_
  show WAt _ _ _ _ _ _ _ _ (_, ovS _ (46) (3, 5, [47 + 1, 63 + 1, 0, 0, 0, 0, 0, 0, 0, 0, 0]), _) _ _
  refine w_iinc (L' := [vR (45), vI (2)]) rfl rfl (Nat.le_of_ble_eq_true rfl) (by rw [wr_i (by decide) (by decide)]; rfl) ?_
  refine w_goto rfl ?_
  refine w_iload_n rfl rfl ?_
  refine w_aload_n rfl rfl ?_
  refine w_getR (a := 45) (r := 46) rfl (by omega) (by rw [ovS_n (by omega)]; exact ovS_y) rfl ?_
  refine w_alenq (a := 46) (t := 5) rfl (by omega) (by decide) ovS_y (by show 11 < 2147483648; decide) ?_
  show WAt _ _ _ _ _ _ _ (vI (11) :: _) _ _ _
  refine w_icmp_ge rfl (fun h => absurd h (by decide)) (fun _ => ?_)
  refine w_aload_n rfl rfl ?_
  refine w_getR (a := 45) (r := 46) rfl (by omega) (by rw [ovS_n (by omega)]; exact ovS_y) rfl ?_
  refine w_iload_n rfl rfl ?_
  refine w_new (ci := 9) (ks := [1, 1, 0, 0, 0, 0]) rfl rfl tyX9 tyX9_ok ni_sc nf_sc (by decide) (hZ _ (by omega)) (by rw [hc]; omega) (by rw [hs]; omega) ?_
  refine w_dup rfl (fun _ h => by cases h) ?_
  refine call_new (as := []) (mc := 15) (ms := 222) (by decide) rfl (cal_sc_init (a := 79) i34 (fun i hi => by rw [ovS_n (by omega), ovS_n (by omega), hS _ (by omega)]) (fun i hi => hZ _ (by omega)) hM) nv_sc rfl rfl (Nat.le_of_ble_eq_true rfl) (by rw [hc, hs]; exact ⟨by omega, by omega⟩) ?_
  refine w_aast (t := 1) (i := 2) (ci := 9) (a := 46) (r := 79) rfl (by omega) (by omega) rfl rfl (by rw [ovS_n (by omega), hS _ (by omega)]; exact h34) (by omega) (by show 2 < 11; decide) (by show 11 < 2147483648; decide) ?_
  show WAt _ _ _ _ _ _ _ _ (_, ovS _ (46) (3, 5, [47 + 1, 63 + 1, 79 + 1, 0, 0, 0, 0, 0, 0, 0, 0]), _) _ _
  refine w_iinc (L' := [vR (45), vI (3)]) rfl rfl (Nat.le_of_ble_eq_true rfl) (by rw [wr_i (by decide) (by decide)]; rfl) ?_
  refine w_goto rfl ?_
  refine w_iload_n rfl rfl ?_
  refine w_aload_n rfl rfl ?_
  refine w_getR (a := 45) (r := 46) rfl (by omega) (by rw [ovS_n (by omega)]; exact ovS_y) rfl ?_
  refine w_alenq (a := 46) (t := 5) rfl (by omega) (by decide) ovS_y (by show 11 < 2147483648; decide) ?_
  show WAt _ _ _ _ _ _ _ (vI (11) :: _) _ _ _
  refine w_icmp_ge rfl (fun h => absurd h (by decide)) (fun _ => ?_)
  refine w_aload_n rfl rfl ?_
  refine w_getR (a := 45) (r := 46) rfl (by omega) (by rw [ovS_n (by omega)]; exact ovS_y) rfl ?_
  refine w_iload_n rfl rfl ?_
  refine w_new (ci := 9) (ks := [1, 1, 0, 0, 0, 0]) rfl rfl tyX9 tyX9_ok ni_sc nf_sc (by decide) (hZ _ (by omega)) (by rw [hc]; omega) (by rw [hs]; omega) ?_
  refine w_dup rfl (fun _ h => by cases h) ?_
  refine call_new (as := []) (mc := 15) (ms := 222) (by decide) rfl (cal_sc_init (a := 95) i50 (fun i hi => by rw [ovS_n (by omega), ovS_n (by omega), hS _ (by omega)]) (fun i hi => hZ _ (by omega)) hM) nv_sc rfl rfl (Nat.le_of_ble_eq_true rfl) (by rw [hc, hs]; exact ⟨by omega, by omega⟩) ?_
  refine w_aast (t := 1) (i := 3) (ci := 9) (a := 46) (r := 95) rfl (by omega) (by omega) rfl rfl (by rw [ovS_n (by omega), hS _ (by omega)]; exact h50) (by omega) (by show 3 < 11; decide) (by show 11 < 2147483648; decide) ?_
  show WAt _ _ _ _ _ _ _ _ (_, ovS _ (46) (3, 5, [47 + 1, 63 + 1, 79 + 1, 95 + 1, 0, 0, 0, 0, 0, 0, 0]), _) _ _
  refine w_iinc (L' := [vR (45), vI (4)]) rfl rfl (Nat.le_of_ble_eq_true rfl) (by rw [wr_i (by decide) (by decide)]; rfl) ?_
  refine w_goto rfl ?_
  refine w_iload_n rfl rfl ?_
  refine w_aload_n rfl rfl ?_
  refine w_getR (a := 45) (r := 46) rfl (by omega) (by rw [ovS_n (by omega)]; exact ovS_y) rfl ?_
  refine w_alenq (a := 46) (t := 5) rfl (by omega) (by decide) ovS_y (by show 11 < 2147483648; decide) ?_
  show WAt _ _ _ _ _ _ _ (vI (11) :: _) _ _ _
  refine w_icmp_ge rfl (fun h => absurd h (by decide)) (fun _ => ?_)
  refine w_aload_n rfl rfl ?_
  refine w_getR (a := 45) (r := 46) rfl (by omega) (by rw [ovS_n (by omega)]; exact ovS_y) rfl ?_
  refine w_iload_n rfl rfl ?_
  refine w_new (ci := 9) (ks := [1, 1, 0, 0, 0, 0]) rfl rfl tyX9 tyX9_ok ni_sc nf_sc (by decide) (hZ _ (by omega)) (by rw [hc]; omega) (by rw [hs]; omega) ?_
  refine w_dup rfl (fun _ h => by cases h) ?_
  refine call_new (as := []) (mc := 15) (ms := 222) (by decide) rfl (cal_sc_init (a := 111) i66 (fun i hi => by rw [ovS_n (by omega), ovS_n (by omega), hS _ (by omega)]) (fun i hi => hZ _ (by omega)) hM) nv_sc rfl rfl (Nat.le_of_ble_eq_true rfl) (by rw [hc, hs]; exact ⟨by omega, by omega⟩) ?_
  refine w_aast (t := 1) (i := 4) (ci := 9) (a := 46) (r := 111) rfl (by omega) (by omega) rfl rfl (by rw [ovS_n (by omega), hS _ (by omega)]; exact h66) (by omega) (by show 4 < 11; decide) (by show 11 < 2147483648; decide) ?_
  show WAt _ _ _ _ _ _ _ _ (_, ovS _ (46) (3, 5, [47 + 1, 63 + 1, 79 + 1, 95 + 1, 111 + 1, 0, 0, 0, 0, 0, 0]), _) _ _
  refine w_iinc (L' := [vR (45), vI (5)]) rfl rfl (Nat.le_of_ble_eq_true rfl) (by rw [wr_i (by decide) (by decide)]; rfl) ?_
  refine w_goto rfl ?_
  refine w_iload_n rfl rfl ?_
  refine w_aload_n rfl rfl ?_
  refine w_getR (a := 45) (r := 46) rfl (by omega) (by rw [ovS_n (by omega)]; exact ovS_y) rfl ?_
  refine w_alenq (a := 46) (t := 5) rfl (by omega) (by decide) ovS_y (by show 11 < 2147483648; decide) ?_
  show WAt _ _ _ _ _ _ _ (vI (11) :: _) _ _ _
  refine w_icmp_ge rfl (fun h => absurd h (by decide)) (fun _ => ?_)
  refine w_aload_n rfl rfl ?_
  refine w_getR (a := 45) (r := 46) rfl (by omega) (by rw [ovS_n (by omega)]; exact ovS_y) rfl ?_
  refine w_iload_n rfl rfl ?_
  refine w_new (ci := 9) (ks := [1, 1, 0, 0, 0, 0]) rfl rfl tyX9 tyX9_ok ni_sc nf_sc (by decide) (hZ _ (by omega)) (by rw [hc]; omega) (by rw [hs]; omega) ?_
  refine w_dup rfl (fun _ h => by cases h) ?_
  refine call_new (as := []) (mc := 15) (ms := 222) (by decide) rfl (cal_sc_init (a := 127) i82 (fun i hi => by rw [ovS_n (by omega), ovS_n (by omega), hS _ (by omega)]) (fun i hi => hZ _ (by omega)) hM) nv_sc rfl rfl (Nat.le_of_ble_eq_true rfl) (by rw [hc, hs]; exact ⟨by omega, by omega⟩) ?_
  refine w_aast (t := 1) (i := 5) (ci := 9) (a := 46) (r := 127) rfl (by omega) (by omega) rfl rfl (by rw [ovS_n (by omega), hS _ (by omega)]; exact h82) (by omega) (by show 5 < 11; decide) (by show 11 < 2147483648; decide) ?_
  show WAt _ _ _ _ _ _ _ _ (_, ovS _ (46) (3, 5, [47 + 1, 63 + 1, 79 + 1, 95 + 1, 111 + 1, 127 + 1, 0, 0, 0, 0, 0]), _) _ _
  refine w_iinc (L' := [vR (45), vI (6)]) rfl rfl (Nat.le_of_ble_eq_true rfl) (by rw [wr_i (by decide) (by decide)]; rfl) ?_
  refine w_goto rfl ?_
  refine w_iload_n rfl rfl ?_
  refine w_aload_n rfl rfl ?_
  refine w_getR (a := 45) (r := 46) rfl (by omega) (by rw [ovS_n (by omega)]; exact ovS_y) rfl ?_
  refine w_alenq (a := 46) (t := 5) rfl (by omega) (by decide) ovS_y (by show 11 < 2147483648; decide) ?_
  show WAt _ _ _ _ _ _ _ (vI (11) :: _) _ _ _
  refine w_icmp_ge rfl (fun h => absurd h (by decide)) (fun _ => ?_)
  refine w_aload_n rfl rfl ?_
  refine w_getR (a := 45) (r := 46) rfl (by omega) (by rw [ovS_n (by omega)]; exact ovS_y) rfl ?_
  refine w_iload_n rfl rfl ?_
  refine w_new (ci := 9) (ks := [1, 1, 0, 0, 0, 0]) rfl rfl tyX9 tyX9_ok ni_sc nf_sc (by decide) (hZ _ (by omega)) (by rw [hc]; omega) (by rw [hs]; omega) ?_
  refine w_dup rfl (fun _ h => by cases h) ?_
  refine call_new (as := []) (mc := 15) (ms := 222) (by decide) rfl (cal_sc_init (a := 143) i98 (fun i hi => by rw [ovS_n (by omega), ovS_n (by omega), hS _ (by omega)]) (fun i hi => hZ _ (by omega)) hM) nv_sc rfl rfl (Nat.le_of_ble_eq_true rfl) (by rw [hc, hs]; exact ⟨by omega, by omega⟩) ?_
  refine w_aast (t := 1) (i := 6) (ci := 9) (a := 46) (r := 143) rfl (by omega) (by omega) rfl rfl (by rw [ovS_n (by omega), hS _ (by omega)]; exact h98) (by omega) (by show 6 < 11; decide) (by show 11 < 2147483648; decide) ?_
  show WAt _ _ _ _ _ _ _ _ (_, ovS _ (46) (3, 5, [47 + 1, 63 + 1, 79 + 1, 95 + 1, 111 + 1, 127 + 1, 143 + 1, 0, 0, 0, 0]), _) _ _
  refine w_iinc (L' := [vR (45), vI (7)]) rfl rfl (Nat.le_of_ble_eq_true rfl) (by rw [wr_i (by decide) (by decide)]; rfl) ?_
  refine w_goto rfl ?_
  refine w_iload_n rfl rfl ?_
  refine w_aload_n rfl rfl ?_
  refine w_getR (a := 45) (r := 46) rfl (by omega) (by rw [ovS_n (by omega)]; exact ovS_y) rfl ?_
  refine w_alenq (a := 46) (t := 5) rfl (by omega) (by decide) ovS_y (by show 11 < 2147483648; decide) ?_
  show WAt _ _ _ _ _ _ _ (vI (11) :: _) _ _ _
  refine w_icmp_ge rfl (fun h => absurd h (by decide)) (fun _ => ?_)
  refine w_aload_n rfl rfl ?_
  refine w_getR (a := 45) (r := 46) rfl (by omega) (by rw [ovS_n (by omega)]; exact ovS_y) rfl ?_
  refine w_iload_n rfl rfl ?_
  refine w_new (ci := 9) (ks := [1, 1, 0, 0, 0, 0]) rfl rfl tyX9 tyX9_ok ni_sc nf_sc (by decide) (hZ _ (by omega)) (by rw [hc]; omega) (by rw [hs]; omega) ?_
  refine w_dup rfl (fun _ h => by cases h) ?_
  refine call_new (as := []) (mc := 15) (ms := 222) (by decide) rfl (cal_sc_init (a := 159) i114 (fun i hi => by rw [ovS_n (by omega), ovS_n (by omega), hS _ (by omega)]) (fun i hi => hZ _ (by omega)) hM) nv_sc rfl rfl (Nat.le_of_ble_eq_true rfl) (by rw [hc, hs]; exact ⟨by omega, by omega⟩) ?_
  refine w_aast (t := 1) (i := 7) (ci := 9) (a := 46) (r := 159) rfl (by omega) (by omega) rfl rfl (by rw [ovS_n (by omega), hS _ (by omega)]; exact h114) (by omega) (by show 7 < 11; decide) (by show 11 < 2147483648; decide) ?_
  show WAt _ _ _ _ _ _ _ _ (_, ovS _ (46) (3, 5, [47 + 1, 63 + 1, 79 + 1, 95 + 1, 111 + 1, 127 + 1, 143 + 1, 159 + 1, 0, 0, 0]), _) _ _
  refine w_iinc (L' := [vR (45), vI (8)]) rfl rfl (Nat.le_of_ble_eq_true rfl) (by rw [wr_i (by decide) (by decide)]; rfl) ?_
  refine w_goto rfl ?_
  refine w_iload_n rfl rfl ?_
  refine w_aload_n rfl rfl ?_
  refine w_getR (a := 45) (r := 46) rfl (by omega) (by rw [ovS_n (by omega)]; exact ovS_y) rfl ?_
  refine w_alenq (a := 46) (t := 5) rfl (by omega) (by decide) ovS_y (by show 11 < 2147483648; decide) ?_
  show WAt _ _ _ _ _ _ _ (vI (11) :: _) _ _ _
  refine w_icmp_ge rfl (fun h => absurd h (by decide)) (fun _ => ?_)
  refine w_aload_n rfl rfl ?_
  refine w_getR (a := 45) (r := 46) rfl (by omega) (by rw [ovS_n (by omega)]; exact ovS_y) rfl ?_
  refine w_iload_n rfl rfl ?_
  refine w_new (ci := 9) (ks := [1, 1, 0, 0, 0, 0]) rfl rfl tyX9 tyX9_ok ni_sc nf_sc (by decide) (hZ _ (by omega)) (by rw [hc]; omega) (by rw [hs]; omega) ?_
  refine w_dup rfl (fun _ h => by cases h) ?_
  refine call_new (as := []) (mc := 15) (ms := 222) (by decide) rfl (cal_sc_init (a := 175) i130 (fun i hi => by rw [ovS_n (by omega), ovS_n (by omega), hS _ (by omega)]) (fun i hi => hZ _ (by omega)) hM) nv_sc rfl rfl (Nat.le_of_ble_eq_true rfl) (by rw [hc, hs]; exact ⟨by omega, by omega⟩) ?_
  refine w_aast (t := 1) (i := 8) (ci := 9) (a := 46) (r := 175) rfl (by omega) (by omega) rfl rfl (by rw [ovS_n (by omega), hS _ (by omega)]; exact h130) (by omega) (by show 8 < 11; decide) (by show 11 < 2147483648; decide) ?_
  show WAt _ _ _ _ _ _ _ _ (_, ovS _ (46) (3, 5, [47 + 1, 63 + 1, 79 + 1, 95 + 1, 111 + 1, 127 + 1, 143 + 1, 159 + 1, 175 + 1, 0, 0]), _) _ _
  refine w_iinc (L' := [vR (45), vI (9)]) rfl rfl (Nat.le_of_ble_eq_true rfl) (by rw [wr_i (by decide) (by decide)]; rfl) ?_
  refine w_goto rfl ?_
  refine w_iload_n rfl rfl ?_
  refine w_aload_n rfl rfl ?_
  refine w_getR (a := 45) (r := 46) rfl (by omega) (by rw [ovS_n (by omega)]; exact ovS_y) rfl ?_
  refine w_alenq (a := 46) (t := 5) rfl (by omega) (by decide) ovS_y (by show 11 < 2147483648; decide) ?_
  show WAt _ _ _ _ _ _ _ (vI (11) :: _) _ _ _
  refine w_icmp_ge rfl (fun h => absurd h (by decide)) (fun _ => ?_)
  refine w_aload_n rfl rfl ?_
  refine w_getR (a := 45) (r := 46) rfl (by omega) (by rw [ovS_n (by omega)]; exact ovS_y) rfl ?_
  refine w_iload_n rfl rfl ?_
  refine w_new (ci := 9) (ks := [1, 1, 0, 0, 0, 0]) rfl rfl tyX9 tyX9_ok ni_sc nf_sc (by decide) (hZ _ (by omega)) (by rw [hc]; omega) (by rw [hs]; omega) ?_
  refine w_dup rfl (fun _ h => by cases h) ?_
  refine call_new (as := []) (mc := 15) (ms := 222) (by decide) rfl (cal_sc_init (a := 191) i146 (fun i hi => by rw [ovS_n (by omega), ovS_n (by omega), hS _ (by omega)]) (fun i hi => hZ _ (by omega)) hM) nv_sc rfl rfl (Nat.le_of_ble_eq_true rfl) (by rw [hc, hs]; exact ⟨by omega, by omega⟩) ?_
  refine w_aast (t := 1) (i := 9) (ci := 9) (a := 46) (r := 191) rfl (by omega) (by omega) rfl rfl (by rw [ovS_n (by omega), hS _ (by omega)]; exact h146) (by omega) (by show 9 < 11; decide) (by show 11 < 2147483648; decide) ?_
  show WAt _ _ _ _ _ _ _ _ (_, ovS _ (46) (3, 5, [47 + 1, 63 + 1, 79 + 1, 95 + 1, 111 + 1, 127 + 1, 143 + 1, 159 + 1, 175 + 1, 191 + 1, 0]), _) _ _
  refine w_iinc (L' := [vR (45), vI (10)]) rfl rfl (Nat.le_of_ble_eq_true rfl) (by rw [wr_i (by decide) (by decide)]; rfl) ?_
  refine w_goto rfl ?_
  refine w_iload_n rfl rfl ?_
  refine w_aload_n rfl rfl ?_
  refine w_getR (a := 45) (r := 46) rfl (by omega) (by rw [ovS_n (by omega)]; exact ovS_y) rfl ?_
  refine w_alenq (a := 46) (t := 5) rfl (by omega) (by decide) ovS_y (by show 11 < 2147483648; decide) ?_
  show WAt _ _ _ _ _ _ _ (vI (11) :: _) _ _ _
  refine w_icmp_ge rfl (fun h => absurd h (by decide)) (fun _ => ?_)
  refine w_aload_n rfl rfl ?_
  refine w_getR (a := 45) (r := 46) rfl (by omega) (by rw [ovS_n (by omega)]; exact ovS_y) rfl ?_
  refine w_iload_n rfl rfl ?_
  refine w_new (ci := 9) (ks := [1, 1, 0, 0, 0, 0]) rfl rfl tyX9 tyX9_ok ni_sc nf_sc (by decide) (hZ _ (by omega)) (by rw [hc]; omega) (by rw [hs]; omega) ?_
  refine w_dup rfl (fun _ h => by cases h) ?_
  refine call_new (as := []) (mc := 15) (ms := 222) (by decide) rfl (cal_sc_init (a := 207) i162 (fun i hi => by rw [ovS_n (by omega), ovS_n (by omega), hS _ (by omega)]) (fun i hi => hZ _ (by omega)) hM) nv_sc rfl rfl (Nat.le_of_ble_eq_true rfl) (by rw [hc, hs]; exact ⟨by omega, by omega⟩) ?_
  refine w_aast (t := 1) (i := 10) (ci := 9) (a := 46) (r := 207) rfl (by omega) (by omega) rfl rfl (by rw [ovS_n (by omega), hS _ (by omega)]; exact h162) (by omega) (by show 10 < 11; decide) (by show 11 < 2147483648; decide) ?_
  show WAt _ _ _ _ _ _ _ _ (_, ovS _ (46) (3, 5, [47 + 1, 63 + 1, 79 + 1, 95 + 1, 111 + 1, 127 + 1, 143 + 1, 159 + 1, 175 + 1, 191 + 1, 207 + 1]), _) _ _
  refine w_iinc (L' := [vR (45), vI (11)]) rfl rfl (Nat.le_of_ble_eq_true rfl) (by rw [wr_i (by decide) (by decide)]; rfl) ?_
  refine w_goto rfl ?_
  refine w_iload_n rfl rfl ?_
  refine w_aload_n rfl rfl ?_
  refine w_getR (a := 45) (r := 46) rfl (by omega) (by rw [ovS_n (by omega)]; exact ovS_y) rfl ?_
  refine w_alenq (a := 46) (t := 5) rfl (by omega) (by decide) ovS_y (by show 11 < 2147483648; decide) ?_
  show WAt _ _ _ _ _ _ _ (vI (11) :: _) _ _ _
  refine w_icmp_ge rfl (fun _ => ?_) (fun h => absurd (by decide) h)
  rw [ovS_id (S := ovS S (45) _) (a := 46) (by rw [ovS_n (by omega), hS _ (by omega)]; exact h1), ovS_id (a := 45) (by rw [hS _ (by omega)]; exact h0)]
  exact w_return rfl rfl hk
set_option maxRecDepth 100000 in
theorem sh_dh : S0 (0) = (0, 11, [1 + 3, 3 + 3, 19 + 3, 21 + 3, 25 + 3, 29 + 3, 34 + 3, 41 + 3, 45 + 3, 223 + 3, 224 + 3, 234 + 3, 244 + 3, 245 + 3, 0]) ∧ S0 (3) = (0, 9, [4 + 3, 5 + 3, 0, 0, 0, 0]) ∧ S0 (223) = (3, 5, [246 + 1, 262 + 1]) ∧ S0 (244) = (1, 0, [12]) ∧ S0 (245) = (1, 0, [4]) ∧ S0 (246) = (0, 9, [247 + 3, 248 + 3, 0, 0, 0, 0]) ∧ S0 (262) = (0, 9, [263 + 3, 264 + 3, 0, 0, 0, 0]) ∧ (1) ∈ I_tx ∧ (3) ∈ I_sc ∧ (19) ∈ I_fl ∧ (21) ∈ I_ru ∧ (25) ∈ I_ru ∧ (29) ∈ I_ac ∧ (34) ∈ I_co ∧ (41) ∈ I_rm ∧ (224) ∈ I_fu ∧ (234) ∈ I_fu ∧ (246) ∈ I_sc ∧ (262) ∈ I_sc := ⟨rfl, rfl, rfl, rfl, rfl, rfl, rfl, by decide +kernel, by decide +kernel, by decide +kernel, by decide +kernel, by decide +kernel, by decide +kernel, by decide +kernel, by decide +kernel, by decide +kernel, by decide +kernel, by decide +kernel, by decide +kernel⟩
set_option maxRecDepth 100000 in
set_option maxHeartbeats 4000000 in
theorem cal_dh_init {Δ : DT} {d : Nat} {S : Nat → SHP} {M : MEM} (hS : ∀ i, 0 ≤ i → S i = S0 i) (hZ : ∀ c, 0 ≤ c → M c = fun _ => 0) (hM : okM M) : Cal Δ true m_dh_init (d + 4) [vR 0] (1, ovS S (0) (0, 11, [1, 1, 1, 1, 1, 1, 1, 1, 1, 1, 1, 1, 1, 1, 0]), M) none (278, S, (up2 (up2 M (224) 6 (-1)) (234) 6 (-1))) 277 5146 := by
  obtain ⟨h0, h3, h223, h244, h245, h246, h262, i1, i3, i19, i21, i25, i29, i34, i41, i224, i234, i246, i262⟩ := sh_dh
  refine cal_of g_dh_init p_dh_init (fun v hv => by simp only [List.mem_cons, List.not_mem_nil, or_false] at hv; rcases hv with rfl <;> exact Or.inr ⟨_, rfl⟩) (fun v hv => by simp only [List.mem_cons, List.not_mem_nil, or_false] at hv; rcases hv with rfl <;> exact trivial) hM (Nat.le_of_ble_eq_true rfl) (fun Γ hR hk => ?_)
  have hc : Γ.2.2.1.cells = 277 := by rw [hR]; rfl
  have hs : Γ.2.2.1.slots = 5146 := by rw [hR]; rfl
  refine w_aload_n rfl rfl ?_
  refine w_oinit rfl oi_w (Nat.le_of_ble_eq_true rfl) ?_
  refine w_aload_n rfl rfl ?_
  refine w_new (ci := 10) (ks := [1, 0, 0, 0]) rfl rfl tyX10 tyX10_ok ni_tx nf_tx (by decide) (hZ _ (by omega)) (by rw [hc]; omega) (by rw [hs]; omega) ?_
  refine w_dup rfl (fun _ h => by cases h) ?_
  refine call_new (as := []) (mc := 1) (ms := 80) (by decide) rfl (cal_tx_init (a := 1) i1 (fun i hi => by rw [ovS_n (by omega), hS _ (by omega)]) (fun i hi => hZ _ (by omega)) hM) nv_tx rfl rfl (Nat.le_of_ble_eq_true rfl) (by rw [hc, hs]; exact ⟨by omega, by omega⟩) ?_
  refine w_putR (a := 0) (r := 1) (ty := (.object "DonkeysHour$Text")) rfl (by omega) rfl (congrFun (hZ 0 (Nat.le_refl _)) 0) rfl (Or.inr ⟨rfl, rfl⟩) (by decide +kernel) (fun _ => rfl) (fun _ => rfl) ?_
  show WAt _ _ _ _ _ _ _ _ (_, ovS _ (0) (0, 11, [1 + 3, 1, 1, 1, 1, 1, 1, 1, 1, 1, 1, 1, 1, 1, 0]), _) _ _
  refine w_aload_n rfl rfl ?_
  refine w_new (ci := 9) (ks := [1, 1, 0, 0, 0, 0]) rfl rfl tyX9 tyX9_ok ni_sc nf_sc (by decide) (hZ _ (by omega)) (by rw [hc]; omega) (by rw [hs]; omega) ?_
  refine w_dup rfl (fun _ h => by cases h) ?_
  refine call_new (as := []) (mc := 15) (ms := 222) (by decide) rfl (cal_sc_init (a := 3) i3 (fun i hi => by rw [ovS_n (by omega), hS _ (by omega)]) (fun i hi => hZ _ (by omega)) hM) nv_sc rfl rfl (Nat.le_of_ble_eq_true rfl) (by rw [hc, hs]; exact ⟨by omega, by omega⟩) ?_
  refine w_putR (a := 0) (r := 3) (ty := (.object "DonkeysHour$Scene")) rfl (by omega) rfl (congrFun (hZ 0 (Nat.le_refl _)) 1) rfl (Or.inr ⟨rfl, rfl⟩) (by decide +kernel) (fun _ => rfl) (fun _ => rfl) ?_
  show WAt _ _ _ _ _ _ _ _ (_, ovS _ (0) (0, 11, [1 + 3, 3 + 3, 1, 1, 1, 1, 1, 1, 1, 1, 1, 1, 1, 1, 0]), _) _ _
  refine w_aload_n rfl rfl ?_
  refine w_new (ci := 4) (ks := [1, 0]) rfl rfl tyX4 tyX4_ok ni_fl nf_fl (by decide) (hZ _ (by omega)) (by rw [hc]; omega) (by rw [hs]; omega) ?_
  refine w_dup rfl (fun _ h => by cases h) ?_
  refine call_new (as := []) (mc := 1) (ms := 40) (by decide) rfl (cal_fl_init (a := 19) i19 (fun i hi => by rw [ovS_n (by omega), hS _ (by omega)]) (fun i hi => hZ _ (by omega)) hM) nv_fl rfl rfl (Nat.le_of_ble_eq_true rfl) (by rw [hc, hs]; exact ⟨by omega, by omega⟩) ?_
  refine w_putR (a := 0) (r := 19) (ty := (.object "DonkeysHour$Flies")) rfl (by omega) rfl (congrFun (hZ 0 (Nat.le_refl _)) 2) rfl (Or.inr ⟨rfl, rfl⟩) (by decide +kernel) (fun _ => rfl) (fun _ => rfl) ?_
  show WAt _ _ _ _ _ _ _ _ (_, ovS _ (0) (0, 11, [1 + 3, 3 + 3, 19 + 3, 1, 1, 1, 1, 1, 1, 1, 1, 1, 1, 1, 0]), _) _ _
  refine w_aload_n rfl rfl ?_
  refine w_new (ci := 7) (ks := [1, 1, 1, 0, 0, 0]) rfl rfl tyX7 tyX7_ok ni_ru nf_ru (by decide) (hZ _ (by omega)) (by rw [hc]; omega) (by rw [hs]; omega) ?_
  refine w_dup rfl (fun _ h => by cases h) ?_
  refine call_new (as := []) (mc := 3) (ms := 88) (by decide) rfl (cal_ru_init (a := 21) i21 (fun i hi => by rw [ovS_n (by omega), hS _ (by omega)]) (fun i hi => hZ _ (by omega)) hM) nv_ru rfl rfl (Nat.le_of_ble_eq_true rfl) (by rw [hc, hs]; exact ⟨by omega, by omega⟩) ?_
  refine w_putR (a := 0) (r := 21) (ty := (.object "DonkeysHour$Rule")) rfl (by omega) rfl (congrFun (hZ 0 (Nat.le_refl _)) 3) rfl (Or.inr ⟨rfl, rfl⟩) (by decide +kernel) (fun _ => rfl) (fun _ => rfl) ?_
  show WAt _ _ _ _ _ _ _ _ (_, ovS _ (0) (0, 11, [1 + 3, 3 + 3, 19 + 3, 21 + 3, 1, 1, 1, 1, 1, 1, 1, 1, 1, 1, 0]), _) _ _
  refine w_aload_n rfl rfl ?_
  refine w_new (ci := 7) (ks := [1, 1, 1, 0, 0, 0]) rfl rfl tyX7 tyX7_ok ni_ru nf_ru (by decide) (hZ _ (by omega)) (by rw [hc]; omega) (by rw [hs]; omega) ?_
  refine w_dup rfl (fun _ h => by cases h) ?_
  refine call_new (as := []) (mc := 3) (ms := 88) (by decide) rfl (cal_ru_init (a := 25) i25 (fun i hi => by rw [ovS_n (by omega), hS _ (by omega)]) (fun i hi => hZ _ (by omega)) hM) nv_ru rfl rfl (Nat.le_of_ble_eq_true rfl) (by rw [hc, hs]; exact ⟨by omega, by omega⟩) ?_
  refine w_putR (a := 0) (r := 25) (ty := (.object "DonkeysHour$Rule")) rfl (by omega) rfl (congrFun (hZ 0 (Nat.le_refl _)) 4) rfl (Or.inr ⟨rfl, rfl⟩) (by decide +kernel) (fun _ => rfl) (fun _ => rfl) ?_
  show WAt _ _ _ _ _ _ _ _ (_, ovS _ (0) (0, 11, [1 + 3, 3 + 3, 19 + 3, 21 + 3, 25 + 3, 1, 1, 1, 1, 1, 1, 1, 1, 1, 0]), _) _ _
  refine w_aload_n rfl rfl ?_
  refine w_new (ci := 0) (ks := [1, 1, 1, 1, 0]) rfl rfl tyX0 tyX0_ok ni_ac nf_ac (by decide) (hZ _ (by omega)) (by rw [hc]; omega) (by rw [hs]; omega) ?_
  refine w_dup rfl (fun _ h => by cases h) ?_
  refine call_new (as := []) (mc := 4) (ms := 80) (by decide) rfl (cal_ac_init (a := 29) i29 (fun i hi => by rw [ovS_n (by omega), hS _ (by omega)]) (fun i hi => hZ _ (by omega)) hM) nv_ac rfl rfl (Nat.le_of_ble_eq_true rfl) (by rw [hc, hs]; exact ⟨by omega, by omega⟩) ?_
  refine w_putR (a := 0) (r := 29) (ty := (.object "DonkeysHour$Acts")) rfl (by omega) rfl (congrFun (hZ 0 (Nat.le_refl _)) 5) rfl (Or.inr ⟨rfl, rfl⟩) (by decide +kernel) (fun _ => rfl) (fun _ => rfl) ?_
  show WAt _ _ _ _ _ _ _ _ (_, ovS _ (0) (0, 11, [1 + 3, 3 + 3, 19 + 3, 21 + 3, 25 + 3, 29 + 3, 1, 1, 1, 1, 1, 1, 1, 1, 0]), _) _ _
  refine w_aload_n rfl rfl ?_
  refine w_new (ci := 3) (ks := [1, 1, 1, 1, 1, 1, 0]) rfl rfl tyX3 tyX3_ok ni_co nf_co (by decide) (hZ _ (by omega)) (by rw [hc]; omega) (by rw [hs]; omega) ?_
  refine w_dup rfl (fun _ h => by cases h) ?_
  refine call_new (as := []) (mc := 6) (ms := 60) (by decide) rfl (cal_co_init (a := 34) i34 (fun i hi => by rw [ovS_n (by omega), hS _ (by omega)]) (fun i hi => hZ _ (by omega)) hM) nv_co rfl rfl (Nat.le_of_ble_eq_true rfl) (by rw [hc, hs]; exact ⟨by omega, by omega⟩) ?_
  refine w_putR (a := 0) (r := 34) (ty := (.object "DonkeysHour$Contracts")) rfl (by omega) rfl (congrFun (hZ 0 (Nat.le_refl _)) 6) rfl (Or.inr ⟨rfl, rfl⟩) (by decide +kernel) (fun _ => rfl) (fun _ => rfl) ?_
  show WAt _ _ _ _ _ _ _ _ (_, ovS _ (0) (0, 11, [1 + 3, 3 + 3, 19 + 3, 21 + 3, 25 + 3, 29 + 3, 34 + 3, 1, 1, 1, 1, 1, 1, 1, 0]), _) _ _
  refine w_aload_n rfl rfl ?_
  refine w_new (ci := 8) (ks := [1, 1, 1, 0]) rfl rfl tyX8 tyX8_ok ni_rm nf_rm (by decide) (hZ _ (by omega)) (by rw [hc]; omega) (by rw [hs]; omega) ?_
  refine w_dup rfl (fun _ h => by cases h) ?_
  refine call_new (as := []) (mc := 3) (ms := 24) (by decide) rfl (cal_rm_init (a := 41) i41 (fun i hi => by rw [ovS_n (by omega), hS _ (by omega)]) (fun i hi => hZ _ (by omega)) hM) nv_rm rfl rfl (Nat.le_of_ble_eq_true rfl) (by rw [hc, hs]; exact ⟨by omega, by omega⟩) ?_
  refine w_putR (a := 0) (r := 41) (ty := (.object "DonkeysHour$Rumours")) rfl (by omega) rfl (congrFun (hZ 0 (Nat.le_refl _)) 7) rfl (Or.inr ⟨rfl, rfl⟩) (by decide +kernel) (fun _ => rfl) (fun _ => rfl) ?_
  show WAt _ _ _ _ _ _ _ _ (_, ovS _ (0) (0, 11, [1 + 3, 3 + 3, 19 + 3, 21 + 3, 25 + 3, 29 + 3, 34 + 3, 41 + 3, 1, 1, 1, 1, 1, 1, 0]), _) _ _
  refine w_aload_n rfl rfl ?_
  refine w_new (ci := 6) (ks := [1, 0, 0]) rfl rfl tyX6 tyX6_ok ni_hi nf_hi (by decide) (hZ _ (by omega)) (by rw [hc]; omega) (by rw [hs]; omega) ?_
  refine w_dup rfl (fun _ h => by cases h) ?_
  refine call_new (as := []) (mc := 177) (ms := 2519) (by decide) rfl (cal_hi_init (fun i hi => by rw [ovS_n (by omega), hS _ (by omega)]) (fun i hi => hZ _ (by omega)) hM) nv_hi rfl rfl (Nat.le_of_ble_eq_true rfl) (by rw [hc, hs]; exact ⟨by omega, by omega⟩) ?_
  refine w_putR (a := 0) (r := 45) (ty := (.object "DonkeysHour$History")) rfl (by omega) rfl (congrFun (hZ 0 (Nat.le_refl _)) 8) rfl (Or.inr ⟨rfl, rfl⟩) (by decide +kernel) (fun _ => rfl) (fun _ => rfl) ?_
  show WAt _ _ _ _ _ _ _ _ (_, ovS _ (0) (0, 11, [1 + 3, 3 + 3, 19 + 3, 21 + 3, 25 + 3, 29 + 3, 34 + 3, 41 + 3, 45 + 3, 1, 1, 1, 1, 1, 0]), _) _ _
  refine w_aload_n rfl rfl ?_
  refine w_iconst rfl (by unfold InR; omega) ?_
  refine w_anew (t := 5) (N := 2) rfl (by decide) (by omega) (by rw [hc]; omega) (by rw [hs]; omega) ?_
  rw [show List.replicate 2 0 = [0, 0] from rfl]
  rw [ovS_c (S := S) (a := 0) (b := 223) (by omega)]
  refine w_putR (a := 0) (r := 223) (ty := (.array (.object "DonkeysHour$Scene"))) rfl (by omega) rfl (congrFun (hZ 0 (Nat.le_refl _)) 9) rfl (Or.inr ⟨rfl, rfl⟩) (by decide +kernel) (fun _ => rfl) (fun _ => rfl) ?_
  show WAt _ _ _ _ _ _ _ _ (_, ovS _ (0) (0, 11, [1 + 3, 3 + 3, 19 + 3, 21 + 3, 25 + 3, 29 + 3, 34 + 3, 41 + 3, 45 + 3, 223 + 3, 1, 1, 1, 1, 0]), _) _ _
  refine w_aload_n rfl rfl ?_
  refine w_new (ci := 5) (ks := [1, 1, 1, 1, 1, 1, 0, 0, 0, 0, 0]) rfl rfl tyX5 tyX5_ok ni_fu nf_fu (by decide) (hZ _ (by omega)) (by rw [hc]; omega) (by rw [hs]; omega) ?_
  refine w_dup rfl (fun _ h => by cases h) ?_
  refine w_aload_n rfl rfl ?_
  refine w_getR (a := 0) (r := 21) rfl (by omega) (by rw [ovS_n (by omega)]; exact ovS_y) rfl ?_
  refine w_aload_n rfl rfl ?_
  refine w_getR (a := 0) (r := 19) rfl (by omega) (by rw [ovS_n (by omega)]; exact ovS_y) rfl ?_
  refine w_aload_n rfl rfl ?_
  refine w_getR (a := 0) (r := 3) rfl (by omega) (by rw [ovS_n (by omega)]; exact ovS_y) rfl ?_
  refine w_getR (a := 3) (r := 5) rfl (by omega) (by rw [ovS_n (by omega), ovS_n (by omega), ovS_n (by omega), hS _ (by omega)]; exact h3) rfl ?_
  refine call_new (as := [vR (21), vR (19), vR (5)]) (mc := 9) (ms := 703) (by decide) rfl (cal_fu_init (a := 224) i224 (fun i hi => by rw [ovS_n (by omega), ovS_n (by omega), hS _ (by omega)]) (fun i hi => hZ _ (by omega)) hM) nv_fu rfl rfl (Nat.le_of_ble_eq_true rfl) (by rw [hc, hs]; exact ⟨by omega, by omega⟩) ?_
  refine w_putR (a := 0) (r := 224) (ty := (.object "DonkeysHour$Future")) rfl (by omega) rfl (by rw [rd_a (by omega)]; exact congrFun (hZ 0 (Nat.le_refl _)) 10) rfl (Or.inr ⟨rfl, rfl⟩) (by decide +kernel) (fun _ => rfl) (fun _ => rfl) ?_
  show WAt _ _ _ _ _ _ _ _ (_, ovS _ (0) (0, 11, [1 + 3, 3 + 3, 19 + 3, 21 + 3, 25 + 3, 29 + 3, 34 + 3, 41 + 3, 45 + 3, 223 + 3, 224 + 3, 1, 1, 1, 0]), _) _ _
  refine w_aload_n rfl rfl ?_
  refine w_new (ci := 5) (ks := [1, 1, 1, 1, 1, 1, 0, 0, 0, 0, 0]) rfl rfl tyX5 tyX5_ok ni_fu nf_fu (by decide) (by rw [up2_ne (by omega)]; exact hZ _ (by omega)) (by rw [hc]; omega) (by rw [hs]; omega) ?_
  refine w_dup rfl (fun _ h => by cases h) ?_
  refine w_aload_n rfl rfl ?_
  refine w_getR (a := 0) (r := 21) rfl (by omega) (by rw [ovS_n (by omega)]; exact ovS_y) rfl ?_
  refine w_aload_n rfl rfl ?_
  refine w_getR (a := 0) (r := 19) rfl (by omega) (by rw [ovS_n (by omega)]; exact ovS_y) rfl ?_
  refine w_aload_n rfl rfl ?_
  refine w_getR (a := 0) (r := 3) rfl (by omega) (by rw [ovS_n (by omega)]; exact ovS_y) rfl ?_
  refine w_getR (a := 3) (r := 5) rfl (by omega) (by rw [ovS_n (by omega), ovS_n (by omega), ovS_n (by omega), hS _ (by omega)]; exact h3) rfl ?_
  refine call_new (as := [vR (21), vR (19), vR (5)]) (mc := 9) (ms := 703) (by decide) rfl (cal_fu_init (a := 234) i234 (fun i hi => by rw [ovS_n (by omega), ovS_n (by omega), hS _ (by omega)]) (fun i hi => by rw [up2_ne (by omega)]; exact hZ _ (by omega)) (okM.up hM (by unfold InR; omega))) nv_fu rfl rfl (Nat.le_of_ble_eq_true rfl) (by rw [hc, hs]; exact ⟨by omega, by omega⟩) ?_
  refine w_putR (a := 0) (r := 234) (ty := (.object "DonkeysHour$Future")) rfl (by omega) rfl (by rw [rd_a (by omega), rd_a (by omega)]; exact congrFun (hZ 0 (Nat.le_refl _)) 11) rfl (Or.inr ⟨rfl, rfl⟩) (by decide +kernel) (fun _ => rfl) (fun _ => rfl) ?_
  show WAt _ _ _ _ _ _ _ _ (_, ovS _ (0) (0, 11, [1 + 3, 3 + 3, 19 + 3, 21 + 3, 25 + 3, 29 + 3, 34 + 3, 41 + 3, 45 + 3, 223 + 3, 224 + 3, 234 + 3, 1, 1, 0]), _) _ _
  refine w_aload_n rfl rfl ?_
  refine w_bipush rfl (by omega) ?_
  refine w_newa (t := 0) (N := 12) rfl (by decide) ac_int (by omega) (by rw [ovS_n (by omega), ovS_n (by omega), hS _ (by omega)]; exact h244) (by rw [up2_ne (by omega), up2_ne (by omega)]; exact hZ _ (by omega)) (by rw [hc]; omega) (by rw [hs]; omega) ?_
  refine w_putR (a := 0) (r := 244) (ty := (.array .int)) rfl (by omega) rfl (by rw [rd_a (by omega), rd_a (by omega)]; exact congrFun (hZ 0 (Nat.le_refl _)) 12) rfl (Or.inr ⟨rfl, rfl⟩) (by decide +kernel) (fun _ => rfl) (fun _ => rfl) ?_
  show WAt _ _ _ _ _ _ _ _ (_, ovS _ (0) (0, 11, [1 + 3, 3 + 3, 19 + 3, 21 + 3, 25 + 3, 29 + 3, 34 + 3, 41 + 3, 45 + 3, 223 + 3, 224 + 3, 234 + 3, 244 + 3, 1, 0]), _) _ _
  refine w_aload_n rfl rfl ?_
  refine w_iconst rfl (by unfold InR; omega) ?_
  refine w_newa (t := 0) (N := 4) rfl (by decide) ac_int (by omega) (by rw [ovS_n (by omega), ovS_n (by omega), hS _ (by omega)]; exact h245) (by rw [up2_ne (by omega), up2_ne (by omega)]; exact hZ _ (by omega)) (by rw [hc]; omega) (by rw [hs]; omega) ?_
  refine w_putR (a := 0) (r := 245) (ty := (.array .int)) rfl (by omega) rfl (by rw [rd_a (by omega), rd_a (by omega)]; exact congrFun (hZ 0 (Nat.le_refl _)) 13) rfl (Or.inr ⟨rfl, rfl⟩) (by decide +kernel) (fun _ => rfl) (fun _ => rfl) ?_
  show WAt _ _ _ _ _ _ _ _ (_, ovS _ (0) (0, 11, [1 + 3, 3 + 3, 19 + 3, 21 + 3, 25 + 3, 29 + 3, 34 + 3, 41 + 3, 45 + 3, 223 + 3, 224 + 3, 234 + 3, 244 + 3, 245 + 3, 0]), _) _ _
  refine w_iconst rfl (by unfold InR; omega) ?_
  refine w_istore_n (L' := [vR (0), vI (0)]) rfl (Nat.le_of_ble_eq_true rfl) rfl ?_
  refine w_iload_n rfl rfl ?_
  refine w_aload_n rfl rfl ?_
  refine w_getR (a := 0) (r := 223) rfl (by omega) ovS_y rfl ?_
  refine w_alenq (a := 223) (t := 5) rfl (by omega) (by decide) (by rw [ovS_n (by omega)]; exact ovS_y) (by show 2 < 2147483648; decide) ?_
  show WAt _ _ _ _ _ _ _ (vI (2) :: _) _ _ _
  refine w_icmp_ge rfl (fun h => absurd h (by decide)) (fun _ => ?_)
  refine w_aload_n rfl rfl ?_
  refine w_getR (a := 0) (r := 223) rfl (by omega) ovS_y rfl ?_
  refine w_iload_n rfl rfl ?_
  refine w_new (ci := 9) (ks := [1, 1, 0, 0, 0, 0]) rfl rfl tyX9 tyX9_ok ni_sc nf_sc (by decide) (by rw [up2_ne (by omega), up2_ne (by omega)]; exact hZ _ (by omega)) (by rw [hc]; omega) (by rw [hs]; omega) ?_
  refine w_dup rfl (fun _ h => by cases h) ?_
  refine call_new (as := []) (mc := 15) (ms := 222) (by decide) rfl (cal_sc_init (a := 246) i246 (fun i hi => by rw [ovS_n (by omega), ovS_n (by omega), hS _ (by omega)]) (fun i hi => by rw [up2_ne (by omega), up2_ne (by omega)]; exact hZ _ (by omega)) (okM.up (okM.up hM (by unfold InR; omega)) (by unfold InR; omega))) nv_sc rfl rfl (Nat.le_of_ble_eq_true rfl) (by rw [hc, hs]; exact ⟨by omega, by omega⟩) ?_
  rw [ovS_c (S := S) (a := 223) (b := 0) (by omega)]
  refine w_aast (t := 1) (i := 0) (ci := 9) (a := 223) (r := 246) rfl (by omega) (by omega) rfl rfl (by rw [ovS_n (by omega), hS _ (by omega)]; exact h246) (by omega) (by show 0 < 2; decide) (by show 2 < 2147483648; decide) ?_
  show WAt _ _ _ _ _ _ _ _ (_, ovS _ (223) (3, 5, [246 + 1, 0]), _) _ _
  refine w_iinc (L' := [vR (0), vI (1)]) rfl rfl (Nat.le_of_ble_eq_true rfl) (by rw [wr_i (by decide) (by decide)]; rfl) ?_
  refine w_goto rfl ?_
  refine w_iload_n rfl rfl ?_
  refine w_aload_n rfl rfl ?_
  refine w_getR (a := 0) (r := 223) rfl (by omega) (by rw [ovS_n (by omega)]; exact ovS_y) rfl ?_
  refine w_alenq (a := 223) (t := 5) rfl (by omega) (by decide) ovS_y (by show 2 < 2147483648; decide) ?_
  show WAt _ _ _ _ _ _ _ (vI (2) :: _) _ _ _
  refine w_icmp_ge rfl (fun h => absurd h (by decide)) (fun _ => ?_)
  refine w_aload_n rfl rfl ?_
  refine w_getR (a := 0) (r := 223) rfl (by omega) (by rw [ovS_n (by omega)]; exact ovS_y) rfl ?_
  refine w_iload_n rfl rfl ?_
  refine w_new (ci := 9) (ks := [1, 1, 0, 0, 0, 0]) rfl rfl tyX9 tyX9_ok ni_sc nf_sc (by decide) (by rw [up2_ne (by omega), up2_ne (by omega)]; exact hZ _ (by omega)) (by rw [hc]; omega) (by rw [hs]; omega) ?_
  refine w_dup rfl (fun _ h => by cases h) ?_
  refine call_new (as := []) (mc := 15) (ms := 222) (by decide) rfl (cal_sc_init (a := 262) i262 (fun i hi => by rw [ovS_n (by omega), ovS_n (by omega), hS _ (by omega)]) (fun i hi => by rw [up2_ne (by omega), up2_ne (by omega)]; exact hZ _ (by omega)) (okM.up (okM.up hM (by unfold InR; omega)) (by unfold InR; omega))) nv_sc rfl rfl (Nat.le_of_ble_eq_true rfl) (by rw [hc, hs]; exact ⟨by omega, by omega⟩) ?_
  refine w_aast (t := 1) (i := 1) (ci := 9) (a := 223) (r := 262) rfl (by omega) (by omega) rfl rfl (by rw [ovS_n (by omega), hS _ (by omega)]; exact h262) (by omega) (by show 1 < 2; decide) (by show 2 < 2147483648; decide) ?_
  show WAt _ _ _ _ _ _ _ _ (_, ovS _ (223) (3, 5, [246 + 1, 262 + 1]), _) _ _
  refine w_iinc (L' := [vR (0), vI (2)]) rfl rfl (Nat.le_of_ble_eq_true rfl) (by rw [wr_i (by decide) (by decide)]; rfl) ?_
  refine w_goto rfl ?_
  refine w_iload_n rfl rfl ?_
  refine w_aload_n rfl rfl ?_
  refine w_getR (a := 0) (r := 223) rfl (by omega) (by rw [ovS_n (by omega)]; exact ovS_y) rfl ?_
  refine w_alenq (a := 223) (t := 5) rfl (by omega) (by decide) ovS_y (by show 2 < 2147483648; decide) ?_
  show WAt _ _ _ _ _ _ _ (vI (2) :: _) _ _ _
  refine w_icmp_ge rfl (fun _ => ?_) (fun h => absurd (by decide) h)
  rw [ovS_id (S := ovS S (0) _) (a := 223) (by rw [ovS_n (by omega), hS _ (by omega)]; exact h223), ovS_id (a := 0) (by rw [hS _ (by omega)]; exact h0)]
  exact w_return rfl rfl hk
