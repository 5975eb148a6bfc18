-- ===== the law's cases (written by wip/whole/gen/law.py) =====
def lT_sign : List ENT := [(264, .aload_n 1, 265, 0, 0, 0, nn), (265, .aload_n 0, 266, 0, 0, 0, nn), (266, .iload 4, 268, 0, 0, 0, nn), (268, .iconst (1), 269, 0, 0, 0, nn), (269, .iadd, 270, 0, 0, 0, nn), (270, .iaload, 271, 0, 0, 0, nn), (271, .invokevirtual 27, 274, 0, 0, 8328, y_dh_sign), (274, .aload_n 2, 275, 0, 0, 0, nn), (275, .aload_n 0, 276, 0, 0, 0, nn), (276, .iload 4, 278, 0, 0, 0, nn), (278, .iconst (1), 279, 0, 0, 0, nn), (279, .iadd, 280, 0, 0, 0, nn), (280, .iaload, 281, 0, 0, 0, nn), (281, .invokevirtual 30, 284, 0, 0, 24764, y_mo_sign), (284, .if_icmp .eq (1913), 287, 2197, 0, 0, nn), (287, .iconst (0), 288, 0, 0, 0, nn), (288, .ireturn, 289, 0, 0, 0, nn)]
set_option maxRecDepth 100000 in
theorem lg_sign : lT_sign.all (chkE (lawT lT_sign)) = true := by decide +kernel
set_option maxRecDepth 20000 in
theorem law_sign {Δ : DT} {Γ : FT} {n : Nat} {xs : Nat → Int32} (SC : SCR Δ Γ n xs) : LCASE Δ Γ n xs 264 := by
  intro i B M c s h0 h6 hR hB hc hs k
  obtain ⟨p, hp, q, hq, he, hR2⟩ := c_sign hR (xs (i + 1).toNat).toInt
  refine w_wid (c + 1) (s + 6) (by omega) (by omega) ?_
  refine w_re (T' := lT_sign) lg_sign ?_
  refine w_aload_n rfl rfl ?_
  refine w_scr SC rfl rfl rfl rfl rfl rfl ⟨h0, by decide, by omega⟩ ?_
  refine l_call (as := [vI (xs (i + 1).toNat).toInt]) (st := []) (d := 1000) rfl (fun ho hM => cal_dh_sign (by decide) hp ho hM) v_dh_sign (Nat.le_of_ble_eq_true rfl) S_0 rfl (Nat.le_of_ble_eq_true rfl) ⟨hc, hs⟩ ?_
  refine w_aload_n rfl rfl ?_
  refine w_scr SC rfl rfl rfl rfl rfl rfl ⟨h0, by decide, by omega⟩ ?_
  refine l_call (as := [vI (xs (i + 1).toNat).toInt]) (st := [vI p.1]) (d := 1000) rfl (fun ho hM => cal_mo_sign (by decide) hq ho hM) v_mo_sign (Nat.le_of_ble_eq_true rfl) S_278 rfl (Nat.le_of_ble_eq_true rfl) ⟨hc, hs⟩ ?_
  refine s_icmp_eq_t rfl he.symm ?_
  exact w_re rfl (k q.2 (hR2.wide (by omega)))
def lT_end : List ENT := [(289, .aload_n 1, 290, 0, 0, 0, nn), (290, .aload_n 0, 291, 0, 0, 0, nn), (291, .iload 4, 293, 0, 0, 0, nn), (293, .iconst (1), 294, 0, 0, 0, nn), (294, .iadd, 295, 0, 0, 0, nn), (295, .iaload, 296, 0, 0, 0, nn), (296, .invokevirtual 31, 299, 0, 0, 8336, y_dh_end), (299, .aload_n 2, 300, 0, 0, 0, nn), (300, .aload_n 0, 301, 0, 0, 0, nn), (301, .iload 4, 303, 0, 0, 0, nn), (303, .iconst (1), 304, 0, 0, 0, nn), (304, .iadd, 305, 0, 0, 0, nn), (305, .iaload, 306, 0, 0, 0, nn), (306, .invokevirtual 35, 309, 0, 0, 24768, y_mo_end), (309, .if_icmp .eq (1888), 312, 2197, 0, 0, nn), (312, .iconst (0), 313, 0, 0, 0, nn), (313, .ireturn, 314, 0, 0, 0, nn)]
set_option maxRecDepth 100000 in
theorem lg_end : lT_end.all (chkE (lawT lT_end)) = true := by decide +kernel
set_option maxRecDepth 20000 in
theorem law_end {Δ : DT} {Γ : FT} {n : Nat} {xs : Nat → Int32} (SC : SCR Δ Γ n xs) : LCASE Δ Γ n xs 289 := by
  intro i B M c s h0 h6 hR hB hc hs k
  obtain ⟨p, hp, q, hq, he, hR2⟩ := c_end hR (xs (i + 1).toNat).toInt
  refine w_wid (c + 1) (s + 6) (by omega) (by omega) ?_
  refine w_re (T' := lT_end) lg_end ?_
  refine w_aload_n rfl rfl ?_
  refine w_scr SC rfl rfl rfl rfl rfl rfl ⟨h0, by decide, by omega⟩ ?_
  refine l_call (as := [vI (xs (i + 1).toNat).toInt]) (st := []) (d := 1000) rfl (fun ho hM => cal_dh_end (by decide) hp ho hM) v_dh_end (Nat.le_of_ble_eq_true rfl) S_0 rfl (Nat.le_of_ble_eq_true rfl) ⟨hc, hs⟩ ?_
  refine w_aload_n rfl rfl ?_
  refine w_scr SC rfl rfl rfl rfl rfl rfl ⟨h0, by decide, by omega⟩ ?_
  refine l_call (as := [vI (xs (i + 1).toNat).toInt]) (st := [vI p.1]) (d := 1000) rfl (fun ho hM => cal_mo_end (by decide) hq ho hM) v_mo_end (Nat.le_of_ble_eq_true rfl) S_278 rfl (Nat.le_of_ble_eq_true rfl) ⟨hc, hs⟩ ?_
  refine s_icmp_eq_t rfl he.symm ?_
  exact w_re rfl (k q.2 (hR2.wide (by omega)))
def lT_stable : List ENT := [(314, .aload_n 1, 315, 0, 0, 0, nn), (315, .invokevirtual 36, 318, 0, 0, 8344, y_dh_stable), (318, .aload_n 2, 319, 0, 0, 0, nn), (319, .invokevirtual 40, 322, 0, 0, 24775, y_mo_stable), (322, .if_icmp .eq (1875), 325, 2197, 0, 0, nn), (325, .iconst (0), 326, 0, 0, 0, nn), (326, .ireturn, 327, 0, 0, 0, nn)]
set_option maxRecDepth 100000 in
theorem lg_stable : lT_stable.all (chkE (lawT lT_stable)) = true := by decide +kernel
set_option maxRecDepth 20000 in
theorem law_stable {Δ : DT} {Γ : FT} {n : Nat} {xs : Nat → Int32} (SC : SCR Δ Γ n xs) : LCASE Δ Γ n xs 314 := by
  intro i B M c s h0 h6 hR hB hc hs k
  obtain ⟨p, hp, q, hq, he, hR2⟩ := c_stable hR
  refine w_wid (c + 1) (s + 6) (by omega) (by omega) ?_
  refine w_re (T' := lT_stable) lg_stable ?_
  refine w_aload_n rfl rfl ?_
  refine l_call (as := []) (st := []) (d := 1000) rfl (fun ho hM => cal_dh_stable (by decide) hp ho hM) v_dh_stable (Nat.le_of_ble_eq_true rfl) S_0 rfl (Nat.le_of_ble_eq_true rfl) ⟨hc, hs⟩ ?_
  refine w_aload_n rfl rfl ?_
  refine l_call (as := []) (st := [vI p.1]) (d := 1000) rfl (fun ho hM => cal_mo_stable (by decide) hq ho hM) v_mo_stable (Nat.le_of_ble_eq_true rfl) S_278 rfl (Nat.le_of_ble_eq_true rfl) ⟨hc, hs⟩ ?_
  refine s_icmp_eq_t rfl he.symm ?_
  exact w_re rfl (k q.2 (hR2.wide (by omega)))
def lT_flies : List ENT := [(327, .aload_n 1, 328, 0, 0, 0, nn), (328, .invokevirtual 41, 331, 0, 0, 8399, y_dh_flies), (331, .aload_n 2, 332, 0, 0, 0, nn), (332, .invokevirtual 44, 335, 0, 0, 24811, y_mo_flies), (335, .if_icmp .eq (1862), 338, 2197, 0, 0, nn), (338, .iconst (0), 339, 0, 0, 0, nn), (339, .ireturn, 340, 0, 0, 0, nn)]
set_option maxRecDepth 100000 in
theorem lg_flies : lT_flies.all (chkE (lawT lT_flies)) = true := by decide +kernel
set_option maxRecDepth 20000 in
theorem law_flies {Δ : DT} {Γ : FT} {n : Nat} {xs : Nat → Int32} (SC : SCR Δ Γ n xs) : LCASE Δ Γ n xs 327 := by
  intro i B M c s h0 h6 hR hB hc hs k
  obtain ⟨p, hp, q, hq, he, hR2⟩ := c_flies hR
  refine w_wid (c + 1) (s + 6) (by omega) (by omega) ?_
  refine w_re (T' := lT_flies) lg_flies ?_
  refine w_aload_n rfl rfl ?_
  refine l_call (as := []) (st := []) (d := 1000) rfl (fun ho hM => cal_dh_flies (by decide) hp ho hM) v_dh_flies (Nat.le_of_ble_eq_true rfl) S_0 rfl (Nat.le_of_ble_eq_true rfl) ⟨hc, hs⟩ ?_
  refine w_aload_n rfl rfl ?_
  refine l_call (as := []) (st := [vI p.1]) (d := 1000) rfl (fun ho hM => cal_mo_flies (by decide) hq ho hM) v_mo_flies (Nat.le_of_ble_eq_true rfl) S_278 rfl (Nat.le_of_ble_eq_true rfl) ⟨hc, hs⟩ ?_
  refine s_icmp_eq_t rfl he.symm ?_
  exact w_re rfl (k q.2 (hR2.wide (by omega)))
def lT_rule : List ENT := [(340, .aload_n 1, 341, 0, 0, 0, nn), (341, .invokevirtual 45, 344, 0, 0, 8411, y_dh_rule), (344, .aload_n 2, 345, 0, 0, 0, nn), (345, .invokevirtual 48, 348, 0, 0, 24815, y_mo_rule), (348, .if_icmp .eq (1849), 351, 2197, 0, 0, nn), (351, .iconst (0), 352, 0, 0, 0, nn), (352, .ireturn, 353, 0, 0, 0, nn)]
set_option maxRecDepth 100000 in
theorem lg_rule : lT_rule.all (chkE (lawT lT_rule)) = true := by decide +kernel
set_option maxRecDepth 20000 in
theorem law_rule {Δ : DT} {Γ : FT} {n : Nat} {xs : Nat → Int32} (SC : SCR Δ Γ n xs) : LCASE Δ Γ n xs 340 := by
  intro i B M c s h0 h6 hR hB hc hs k
  obtain ⟨p, hp, q, hq, he, hR2⟩ := c_rule hR
  refine w_wid (c + 1) (s + 6) (by omega) (by omega) ?_
  refine w_re (T' := lT_rule) lg_rule ?_
  refine w_aload_n rfl rfl ?_
  refine l_call (as := []) (st := []) (d := 1000) rfl (fun ho hM => cal_dh_rule (by decide) hp ho hM) v_dh_rule (Nat.le_of_ble_eq_true rfl) S_0 rfl (Nat.le_of_ble_eq_true rfl) ⟨hc, hs⟩ ?_
  refine w_aload_n rfl rfl ?_
  refine l_call (as := []) (st := [vI p.1]) (d := 1000) rfl (fun ho hM => cal_mo_rule (by decide) hq ho hM) v_mo_rule (Nat.le_of_ble_eq_true rfl) S_278 rfl (Nat.le_of_ble_eq_true rfl) ⟨hc, hs⟩ ?_
  refine s_icmp_eq_t rfl he.symm ?_
  exact w_re rfl (k q.2 (hR2.wide (by omega)))
def lT_donkey : List ENT := [(353, .aload_n 1, 354, 0, 0, 0, nn), (354, .aload_n 0, 355, 0, 0, 0, nn), (355, .iload 4, 357, 0, 0, 0, nn), (357, .iconst (1), 358, 0, 0, 0, nn), (358, .iadd, 359, 0, 0, 0, nn), (359, .iaload, 360, 0, 0, 0, nn), (360, .aload_n 0, 361, 0, 0, 0, nn), (361, .iload 4, 363, 0, 0, 0, nn), (363, .iconst (2), 364, 0, 0, 0, nn), (364, .iadd, 365, 0, 0, 0, nn), (365, .iaload, 366, 0, 0, 0, nn), (366, .aload_n 3, 367, 0, 0, 0, nn), (367, .invokestatic 49, 370, 0, 0, 20642, ⟨"DonkeysHourLaw", "donkey", "(LDonkeysHour;II[J)I"⟩), (370, .istore 5, 372, 0, 0, 0, nn), (372, .aload_n 2, 373, 0, 0, 0, nn), (373, .aload_n 0, 374, 0, 0, 0, nn), (374, .iload 4, 376, 0, 0, 0, nn), (376, .iconst (1), 377, 0, 0, 0, nn), (377, .iadd, 378, 0, 0, 0, nn), (378, .iaload, 379, 0, 0, 0, nn), (379, .aload_n 0, 380, 0, 0, 0, nn), (380, .iload 4, 382, 0, 0, 0, nn), (382, .iconst (2), 383, 0, 0, 0, nn), (383, .iadd, 384, 0, 0, 0, nn), (384, .iaload, 385, 0, 0, 0, nn), (385, .invokevirtual 54, 388, 0, 0, 28703, y_mo_donkey), (388, .istore 6, 390, 0, 0, 0, nn), (390, .aload_n 2, 391, 0, 0, 0, nn), (391, .invokevirtual 55, 394, 0, 0, 24760, y_mo_thrown), (394, .iload 5, 396, 0, 0, 0, nn), (396, .if_icmp .eq (5), 399, 401, 0, 0, nn), (399, .iconst (0), 400, 0, 0, 0, nn), (400, .ireturn, 401, 0, 0, 0, nn), (401, .iload 5, 403, 0, 0, 0, nn), (403, .ifCond .ne (15), 406, 418, 0, 0, nn), (406, .aload_n 3, 407, 0, 0, 0, nn), (407, .iconst (0), 408, 0, 0, 0, nn), (408, .laload, 409, 0, 0, 0, nn), (409, .iload 6, 411, 0, 0, 0, nn), (411, .i2l, 412, 0, 0, 0, nn), (412, .lcmp, 413, 0, 0, 0, nn), (413, .ifCond .eq (5), 416, 418, 0, 0, nn), (416, .iconst (0), 417, 0, 0, 0, nn), (417, .ireturn, 418, 0, 0, 0, nn), (418, .goto (1779), 421, 2197, 0, 0, nn)]
set_option maxRecDepth 100000 in
theorem lg_donkey : lT_donkey.all (chkE (lawT lT_donkey)) = true := by decide +kernel
set_option maxRecDepth 20000 in
theorem law_donkey {Δ : DT} {Γ : FT} {n : Nat} {xs : Nat → Int32} (SC : SCR Δ Γ n xs) (hl0 : Δ.1.stackTraces = false) (hX : XW Δ.2.1 Γ.2.2.2.1 Γ.2.2.2.1.heap) : LCASE Δ Γ n xs 353 := by
  intro i B M c s h0 h6 hR hB hc hs k
  obtain ⟨o, ho, hpost⟩ := t_donkey hR (by omega) (xs (i + 1).toNat).toInt (xs (i + 2).toNat).toInt
  have key : ∃ q, mo_donkey (xs (i + 1).toNat).toInt (xs (i + 2).toNat).toInt (oM o) = some q ∧ q.2 278 13 = oR o ∧ (oR o = 0 → q.2 307 0 = q.1) ∧ Rel B q.2 := by
    cases o with
    | inl M1 =>
      obtain ⟨q, hq, h13, hR2⟩ := hpost
      exact ⟨q, hq, h13, fun h => absurd (show (1 : Int) = 0 from h) (by decide), hR2⟩
    | inr p =>
      obtain ⟨q, hq, h13, he, h7, hR2⟩ := hpost (up2 p.2 307 0 p.1) (fun a ha => up2_ne ha)
      exact ⟨q, hq, h13, fun _ => by rw [h7, rd_same, he], hR2⟩
  obtain ⟨q, hq, h13, h7, hR2⟩ := key
  have hthr : mo_thrown q.2 = oR o := h13
  refine w_re (T' := lT_donkey) lg_donkey ?_
  refine w_aload_n rfl rfl ?_
  refine w_scr SC rfl rfl rfl rfl rfl rfl ⟨h0, by decide, by omega⟩ ?_
  refine w_scr SC rfl rfl rfl rfl rfl rfl ⟨h0, by decide, by omega⟩ ?_
  refine w_aload_n rfl rfl ?_
  refine l_callw (as := [vR 0, vI (xs (i + 1).toNat).toInt, vI (xs (i + 2).toNat).toInt, vR 307]) (st := []) (d := 1000) (hh := [(0, 10, 13, 13)]) rfl rfl (fun ho2 hM => calW_donkey (by decide) hl0 ho ho2 hM) v_la_donkey (Nat.le_of_ble_eq_true rfl) ⟨hc, hs⟩ hX ?_
  refine w_istore (L' := [vN, vR 0, vR 278, vR 307, vI i, vI (oR o), vN]) rfl (Nat.le_of_ble_eq_true rfl) rfl ?_
  refine w_aload_n rfl rfl ?_
  refine w_scr SC rfl rfl rfl rfl rfl rfl ⟨h0, by decide, by omega⟩ ?_
  refine w_scr SC rfl rfl rfl rfl rfl rfl ⟨h0, by decide, by omega⟩ ?_
  refine l_call (as := [vI (xs (i + 1).toNat).toInt, vI (xs (i + 2).toNat).toInt]) (st := []) (d := 1000) rfl (fun ho2 hM => cal_mo_donkey (by decide) hq ho2 hM) v_mo_donkey (Nat.le_of_ble_eq_true rfl) S_278 rfl (Nat.le_of_ble_eq_true rfl) ⟨hc, hs⟩ ?_
  refine w_istore (L' := [vN, vR 0, vR 278, vR 307, vI i, vI (oR o), vI q.1]) rfl (Nat.le_of_ble_eq_true rfl) rfl ?_
  refine w_aload_n rfl rfl ?_
  refine l_call (as := []) (st := []) (d := 1000) rfl (fun ho2 hM => cal_mo_thrown (by decide) ho2 hM) v_mo_thrown (Nat.le_of_ble_eq_true rfl) S_278 rfl (Nat.le_of_ble_eq_true rfl) ⟨hc, hs⟩ ?_
  refine w_iload rfl rfl ?_
  refine s_icmp_eq_t rfl hthr ?_
  refine w_iload rfl rfl ?_
  have fin : WAt Δ Γ false (lawT lT_donkey) 1001 2197 [vN, vR 0, vR 278, vR 307, vI i, vI (oR o), vI q.1] [] (NG, S0, q.2) (c + 1) (s + 6) :=
    w_forget (wk_k (wk_k (wk_k (wk_k (wk_k (wk_d (wk_d wk_0))))))) (w_re rfl (k q.2 (hR2.wide (by omega))))
  by_cases hz : oR o = 0
  · refine s_if_ne_f rfl hz ?_
    refine w_aload_n rfl rfl ?_
    refine w_iconst rfl (inR_c rfl) ?_
    refine w_lald rfl (Nat.le_of_ble_eq_true rfl) S_307 (by omega) (by decide) ?_
    refine w_iload rfl rfl ?_
    refine w_i2l rfl ?_
    refine w_lcmp_same rfl (h7 hz) ?_
    refine s_if_eq_t rfl rfl ?_
    exact w_goto rfl fin
  · refine s_if_ne_t rfl hz ?_
    exact w_goto rfl fin
def lT_thistles : List ENT := [(421, .aload_n 1, 422, 0, 0, 0, nn), (422, .aload_n 0, 423, 0, 0, 0, nn), (423, .iload 4, 425, 0, 0, 0, nn), (425, .iconst (1), 426, 0, 0, 0, nn), (426, .iadd, 427, 0, 0, 0, nn), (427, .iaload, 428, 0, 0, 0, nn), (428, .aload_n 0, 429, 0, 0, 0, nn), (429, .iload 4, 431, 0, 0, 0, nn), (431, .iconst (2), 432, 0, 0, 0, nn), (432, .iadd, 433, 0, 0, 0, nn), (433, .iaload, 434, 0, 0, 0, nn), (434, .invokevirtual 58, 437, 0, 0, 12416, y_dh_thistles), (437, .aload_n 2, 438, 0, 0, 0, nn), (438, .aload_n 0, 439, 0, 0, 0, nn), (439, .iload 4, 441, 0, 0, 0, nn), (441, .iconst (1), 442, 0, 0, 0, nn), (442, .iadd, 443, 0, 0, 0, nn), (443, .iaload, 444, 0, 0, 0, nn), (444, .aload_n 0, 445, 0, 0, 0, nn), (445, .iload 4, 447, 0, 0, 0, nn), (447, .iconst (2), 448, 0, 0, 0, nn), (448, .iadd, 449, 0, 0, 0, nn), (449, .iaload, 450, 0, 0, 0, nn), (450, .invokevirtual 61, 453, 0, 0, 28724, y_mo_thistles), (453, .if_icmp .eq (1744), 456, 2197, 0, 0, nn), (456, .iconst (0), 457, 0, 0, 0, nn), (457, .ireturn, 458, 0, 0, 0, nn)]
set_option maxRecDepth 100000 in
theorem lg_thistles : lT_thistles.all (chkE (lawT lT_thistles)) = true := by decide +kernel
set_option maxRecDepth 20000 in
theorem law_thistles {Δ : DT} {Γ : FT} {n : Nat} {xs : Nat → Int32} (SC : SCR Δ Γ n xs) : LCASE Δ Γ n xs 421 := by
  intro i B M c s h0 h6 hR hB hc hs k
  obtain ⟨p, hp, q, hq, he, hR2⟩ := c_thistles hR (by omega) (xs (i + 1).toNat).toInt (xs (i + 2).toNat).toInt
  obtain ⟨r, hr, rfl⟩ := bind_some hp
  refine w_wid (c + 1) (s + 6) (by omega) (by omega) ?_
  refine w_re (T' := lT_thistles) lg_thistles ?_
  refine w_aload_n rfl rfl ?_
  refine w_scr SC rfl rfl rfl rfl rfl rfl ⟨h0, by decide, by omega⟩ ?_
  refine w_scr SC rfl rfl rfl rfl rfl rfl ⟨h0, by decide, by omega⟩ ?_
  refine l_call (as := [vI (xs (i + 1).toNat).toInt, vI (xs (i + 2).toNat).toInt]) (st := []) (d := 1000) rfl (fun ho hM => cal_dh_thistles (by decide) hr ho hM) v_dh_thistles (Nat.le_of_ble_eq_true rfl) S_0 rfl (Nat.le_of_ble_eq_true rfl) ⟨hc, hs⟩ ?_
  refine w_aload_n rfl rfl ?_
  refine w_scr SC rfl rfl rfl rfl rfl rfl ⟨h0, by decide, by omega⟩ ?_
  refine w_scr SC rfl rfl rfl rfl rfl rfl ⟨h0, by decide, by omega⟩ ?_
  refine l_call (as := [vI (xs (i + 1).toNat).toInt, vI (xs (i + 2).toNat).toInt]) (st := [vI r]) (d := 1000) rfl (fun ho hM => cal_mo_thistles (by decide) hq ho hM) v_mo_thistles (Nat.le_of_ble_eq_true rfl) S_278 rfl (Nat.le_of_ble_eq_true rfl) ⟨hc, hs⟩ ?_
  refine s_icmp_eq_t rfl he.symm ?_
  exact w_re rfl (k q.2 (hR2.wide (by omega)))
def lT_sow : List ENT := [(458, .aload_n 1, 459, 0, 0, 0, nn), (459, .aload_n 0, 460, 0, 0, 0, nn), (460, .iload 4, 462, 0, 0, 0, nn), (462, .iconst (1), 463, 0, 0, 0, nn), (463, .iadd, 464, 0, 0, 0, nn), (464, .iaload, 465, 0, 0, 0, nn), (465, .aload_n 0, 466, 0, 0, 0, nn), (466, .iload 4, 468, 0, 0, 0, nn), (468, .iconst (2), 469, 0, 0, 0, nn), (469, .iadd, 470, 0, 0, 0, nn), (470, .iaload, 471, 0, 0, 0, nn), (471, .aload_n 0, 472, 0, 0, 0, nn), (472, .iload 4, 474, 0, 0, 0, nn), (474, .iconst (3), 475, 0, 0, 0, nn), (475, .iadd, 476, 0, 0, 0, nn), (476, .iaload, 477, 0, 0, 0, nn), (477, .invokevirtual 62, 480, 0, 0, 12432, y_dh_sow), (480, .aload_n 2, 481, 0, 0, 0, nn), (481, .aload_n 0, 482, 0, 0, 0, nn), (482, .iload 4, 484, 0, 0, 0, nn), (484, .iconst (1), 485, 0, 0, 0, nn), (485, .iadd, 486, 0, 0, 0, nn), (486, .iaload, 487, 0, 0, 0, nn), (487, .aload_n 0, 488, 0, 0, 0, nn), (488, .iload 4, 490, 0, 0, 0, nn), (490, .iconst (2), 491, 0, 0, 0, nn), (491, .iadd, 492, 0, 0, 0, nn), (492, .iaload, 493, 0, 0, 0, nn), (493, .aload_n 0, 494, 0, 0, 0, nn), (494, .iload 4, 496, 0, 0, 0, nn), (496, .iconst (3), 497, 0, 0, 0, nn), (497, .iadd, 498, 0, 0, 0, nn), (498, .iaload, 499, 0, 0, 0, nn), (499, .invokevirtual 65, 502, 0, 0, 28732, y_mo_sow), (502, .if_icmp .eq (1695), 505, 2197, 0, 0, nn), (505, .iconst (0), 506, 0, 0, 0, nn), (506, .ireturn, 507, 0, 0, 0, nn)]
set_option maxRecDepth 100000 in
theorem lg_sow : lT_sow.all (chkE (lawT lT_sow)) = true := by decide +kernel
set_option maxRecDepth 20000 in
theorem law_sow {Δ : DT} {Γ : FT} {n : Nat} {xs : Nat → Int32} (SC : SCR Δ Γ n xs) : LCASE Δ Γ n xs 458 := by
  intro i B M c s h0 h6 hR hB hc hs k
  obtain ⟨p, hp, q, hq, he, hR2⟩ := c_sow hR (by omega) (xs (i + 1).toNat).toInt (xs (i + 2).toNat).toInt (xs (i + 3).toNat).toInt
  refine w_wid (c + 1) (s + 6) (by omega) (by omega) ?_
  refine w_re (T' := lT_sow) lg_sow ?_
  refine w_aload_n rfl rfl ?_
  refine w_scr SC rfl rfl rfl rfl rfl rfl ⟨h0, by decide, by omega⟩ ?_
  refine w_scr SC rfl rfl rfl rfl rfl rfl ⟨h0, by decide, by omega⟩ ?_
  refine w_scr SC rfl rfl rfl rfl rfl rfl ⟨h0, by decide, by omega⟩ ?_
  refine l_call (as := [vI (xs (i + 1).toNat).toInt, vI (xs (i + 2).toNat).toInt, vI (xs (i + 3).toNat).toInt]) (st := []) (d := 1000) rfl (fun ho hM => cal_dh_sow (by decide) hp ho hM) v_dh_sow (Nat.le_of_ble_eq_true rfl) S_0 rfl (Nat.le_of_ble_eq_true rfl) ⟨hc, hs⟩ ?_
  refine w_aload_n rfl rfl ?_
  refine w_scr SC rfl rfl rfl rfl rfl rfl ⟨h0, by decide, by omega⟩ ?_
  refine w_scr SC rfl rfl rfl rfl rfl rfl ⟨h0, by decide, by omega⟩ ?_
  refine w_scr SC rfl rfl rfl rfl rfl rfl ⟨h0, by decide, by omega⟩ ?_
  refine l_call (as := [vI (xs (i + 1).toNat).toInt, vI (xs (i + 2).toNat).toInt, vI (xs (i + 3).toNat).toInt]) (st := [vI p.1]) (d := 1000) rfl (fun ho hM => cal_mo_sow (by decide) hq ho hM) v_mo_sow (Nat.le_of_ble_eq_true rfl) S_278 rfl (Nat.le_of_ble_eq_true rfl) ⟨hc, hs⟩ ?_
  refine s_icmp_eq_t rfl he.symm ?_
  exact w_re rfl (k q.2 (hR2.wide (by omega)))
def lT_set : List ENT := [(507, .aload_n 1, 508, 0, 0, 0, nn), (508, .aload_n 0, 509, 0, 0, 0, nn), (509, .iload 4, 511, 0, 0, 0, nn), (511, .iconst (1), 512, 0, 0, 0, nn), (512, .iadd, 513, 0, 0, 0, nn), (513, .iaload, 514, 0, 0, 0, nn), (514, .aload_n 0, 515, 0, 0, 0, nn), (515, .iload 4, 517, 0, 0, 0, nn), (517, .iconst (2), 518, 0, 0, 0, nn), (518, .iadd, 519, 0, 0, 0, nn), (519, .iaload, 520, 0, 0, 0, nn), (520, .aload_n 0, 521, 0, 0, 0, nn), (521, .iload 4, 523, 0, 0, 0, nn), (523, .iconst (3), 524, 0, 0, 0, nn), (524, .iadd, 525, 0, 0, 0, nn), (525, .iaload, 526, 0, 0, 0, nn), (526, .invokevirtual 66, 529, 0, 0, 12440, y_dh_set), (529, .aload_n 2, 530, 0, 0, 0, nn), (530, .aload_n 0, 531, 0, 0, 0, nn), (531, .iload 4, 533, 0, 0, 0, nn), (533, .iconst (1), 534, 0, 0, 0, nn), (534, .iadd, 535, 0, 0, 0, nn), (535, .iaload, 536, 0, 0, 0, nn), (536, .aload_n 0, 537, 0, 0, 0, nn), (537, .iload 4, 539, 0, 0, 0, nn), (539, .iconst (2), 540, 0, 0, 0, nn), (540, .iadd, 541, 0, 0, 0, nn), (541, .iaload, 542, 0, 0, 0, nn), (542, .aload_n 0, 543, 0, 0, 0, nn), (543, .iload 4, 545, 0, 0, 0, nn), (545, .iconst (3), 546, 0, 0, 0, nn), (546, .iadd, 547, 0, 0, 0, nn), (547, .iaload, 548, 0, 0, 0, nn), (548, .invokevirtual 69, 551, 0, 0, 28736, y_mo_set), (551, .if_icmp .eq (1646), 554, 2197, 0, 0, nn), (554, .iconst (0), 555, 0, 0, 0, nn), (555, .ireturn, 556, 0, 0, 0, nn)]
set_option maxRecDepth 100000 in
theorem lg_set : lT_set.all (chkE (lawT lT_set)) = true := by decide +kernel
set_option maxRecDepth 20000 in
theorem law_set {Δ : DT} {Γ : FT} {n : Nat} {xs : Nat → Int32} (SC : SCR Δ Γ n xs) : LCASE Δ Γ n xs 507 := by
  intro i B M c s h0 h6 hR hB hc hs k
  obtain ⟨p, hp, q, hq, he, hR2⟩ := c_set hR (by omega) (xs (i + 1).toNat).toInt (xs (i + 2).toNat).toInt (xs (i + 3).toNat).toInt
  refine w_wid (c + 1) (s + 6) (by omega) (by omega) ?_
  refine w_re (T' := lT_set) lg_set ?_
  refine w_aload_n rfl rfl ?_
  refine w_scr SC rfl rfl rfl rfl rfl rfl ⟨h0, by decide, by omega⟩ ?_
  refine w_scr SC rfl rfl rfl rfl rfl rfl ⟨h0, by decide, by omega⟩ ?_
  refine w_scr SC rfl rfl rfl rfl rfl rfl ⟨h0, by decide, by omega⟩ ?_
  refine l_call (as := [vI (xs (i + 1).toNat).toInt, vI (xs (i + 2).toNat).toInt, vI (xs (i + 3).toNat).toInt]) (st := []) (d := 1000) rfl (fun ho hM => cal_dh_set (by decide) hp ho hM) v_dh_set (Nat.le_of_ble_eq_true rfl) S_0 rfl (Nat.le_of_ble_eq_true rfl) ⟨hc, hs⟩ ?_
  refine w_aload_n rfl rfl ?_
  refine w_scr SC rfl rfl rfl rfl rfl rfl ⟨h0, by decide, by omega⟩ ?_
  refine w_scr SC rfl rfl rfl rfl rfl rfl ⟨h0, by decide, by omega⟩ ?_
  refine w_scr SC rfl rfl rfl rfl rfl rfl ⟨h0, by decide, by omega⟩ ?_
  refine l_call (as := [vI (xs (i + 1).toNat).toInt, vI (xs (i + 2).toNat).toInt, vI (xs (i + 3).toNat).toInt]) (st := [vI p.1]) (d := 1000) rfl (fun ho hM => cal_mo_set (by decide) hq ho hM) v_mo_set (Nat.le_of_ble_eq_true rfl) S_278 rfl (Nat.le_of_ble_eq_true rfl) ⟨hc, hs⟩ ?_
  refine s_icmp_eq_t rfl he.symm ?_
  exact w_re rfl (k q.2 (hR2.wide (by omega)))
def lT_sheet : List ENT := [(556, .aload_n 1, 557, 0, 0, 0, nn), (557, .aload_n 0, 558, 0, 0, 0, nn), (558, .iload 4, 560, 0, 0, 0, nn), (560, .iconst (1), 561, 0, 0, 0, nn), (561, .iadd, 562, 0, 0, 0, nn), (562, .iaload, 563, 0, 0, 0, nn), (563, .aload_n 0, 564, 0, 0, 0, nn), (564, .iload 4, 566, 0, 0, 0, nn), (566, .iconst (2), 567, 0, 0, 0, nn), (567, .iadd, 568, 0, 0, 0, nn), (568, .iaload, 569, 0, 0, 0, nn), (569, .aload_n 0, 570, 0, 0, 0, nn), (570, .iload 4, 572, 0, 0, 0, nn), (572, .iconst (3), 573, 0, 0, 0, nn), (573, .iadd, 574, 0, 0, 0, nn), (574, .iaload, 575, 0, 0, 0, nn), (575, .aload_n 0, 576, 0, 0, 0, nn), (576, .iload 4, 578, 0, 0, 0, nn), (578, .iconst (4), 579, 0, 0, 0, nn), (579, .iadd, 580, 0, 0, 0, nn), (580, .iaload, 581, 0, 0, 0, nn), (581, .invokevirtual 70, 584, 0, 0, 12448, y_dh_sheet), (584, .aload_n 2, 585, 0, 0, 0, nn), (585, .aload_n 0, 586, 0, 0, 0, nn), (586, .iload 4, 588, 0, 0, 0, nn), (588, .iconst (1), 589, 0, 0, 0, nn), (589, .iadd, 590, 0, 0, 0, nn), (590, .iaload, 591, 0, 0, 0, nn), (591, .aload_n 0, 592, 0, 0, 0, nn), (592, .iload 4, 594, 0, 0, 0, nn), (594, .iconst (2), 595, 0, 0, 0, nn), (595, .iadd, 596, 0, 0, 0, nn), (596, .iaload, 597, 0, 0, 0, nn), (597, .aload_n 0, 598, 0, 0, 0, nn), (598, .iload 4, 600, 0, 0, 0, nn), (600, .iconst (3), 601, 0, 0, 0, nn), (601, .iadd, 602, 0, 0, 0, nn), (602, .iaload, 603, 0, 0, 0, nn), (603, .aload_n 0, 604, 0, 0, 0, nn), (604, .iload 4, 606, 0, 0, 0, nn), (606, .iconst (4), 607, 0, 0, 0, nn), (607, .iadd, 608, 0, 0, 0, nn), (608, .iaload, 609, 0, 0, 0, nn), (609, .invokevirtual 74, 612, 0, 0, 28740, y_mo_sheet), (612, .if_icmp .eq (1585), 615, 2197, 0, 0, nn), (615, .iconst (0), 616, 0, 0, 0, nn), (616, .ireturn, 617, 0, 0, 0, nn)]
set_option maxRecDepth 100000 in
theorem lg_sheet : lT_sheet.all (chkE (lawT lT_sheet)) = true := by decide +kernel
set_option maxRecDepth 20000 in
theorem law_sheet {Δ : DT} {Γ : FT} {n : Nat} {xs : Nat → Int32} (SC : SCR Δ Γ n xs) : LCASE Δ Γ n xs 556 := by
  intro i B M c s h0 h6 hR hB hc hs k
  obtain ⟨p, hp, q, hq, he, hR2⟩ := c_sheet hR (by omega) (xs (i + 1).toNat).toInt (xs (i + 2).toNat).toInt (xs (i + 3).toNat).toInt (xs (i + 4).toNat).toInt
  refine w_wid (c + 1) (s + 6) (by omega) (by omega) ?_
  refine w_re (T' := lT_sheet) lg_sheet ?_
  refine w_aload_n rfl rfl ?_
  refine w_scr SC rfl rfl rfl rfl rfl rfl ⟨h0, by decide, by omega⟩ ?_
  refine w_scr SC rfl rfl rfl rfl rfl rfl ⟨h0, by decide, by omega⟩ ?_
  refine w_scr SC rfl rfl rfl rfl rfl rfl ⟨h0, by decide, by omega⟩ ?_
  refine w_scr SC rfl rfl rfl rfl rfl rfl ⟨h0, by decide, by omega⟩ ?_
  refine l_call (as := [vI (xs (i + 1).toNat).toInt, vI (xs (i + 2).toNat).toInt, vI (xs (i + 3).toNat).toInt, vI (xs (i + 4).toNat).toInt]) (st := []) (d := 1000) rfl (fun ho hM => cal_dh_sheet (by decide) hp ho hM) v_dh_sheet (Nat.le_of_ble_eq_true rfl) S_0 rfl (Nat.le_of_ble_eq_true rfl) ⟨hc, hs⟩ ?_
  refine w_aload_n rfl rfl ?_
  refine w_scr SC rfl rfl rfl rfl rfl rfl ⟨h0, by decide, by omega⟩ ?_
  refine w_scr SC rfl rfl rfl rfl rfl rfl ⟨h0, by decide, by omega⟩ ?_
  refine w_scr SC rfl rfl rfl rfl rfl rfl ⟨h0, by decide, by omega⟩ ?_
  refine w_scr SC rfl rfl rfl rfl rfl rfl ⟨h0, by decide, by omega⟩ ?_
  refine l_call (as := [vI (xs (i + 1).toNat).toInt, vI (xs (i + 2).toNat).toInt, vI (xs (i + 3).toNat).toInt, vI (xs (i + 4).toNat).toInt]) (st := [vI p.1]) (d := 1000) rfl (fun ho hM => cal_mo_sheet (by decide) hq ho hM) v_mo_sheet (Nat.le_of_ble_eq_true rfl) S_278 rfl (Nat.le_of_ble_eq_true rfl) ⟨hc, hs⟩ ?_
  refine s_icmp_eq_t rfl he.symm ?_
  exact w_re rfl (k q.2 (hR2.wide (by omega)))
def lT_carrot : List ENT := [(617, .aload_n 1, 618, 0, 0, 0, nn), (618, .aload_n 0, 619, 0, 0, 0, nn), (619, .iload 4, 621, 0, 0, 0, nn), (621, .iconst (1), 622, 0, 0, 0, nn), (622, .iadd, 623, 0, 0, 0, nn), (623, .iaload, 624, 0, 0, 0, nn), (624, .aload_n 0, 625, 0, 0, 0, nn), (625, .iload 4, 627, 0, 0, 0, nn), (627, .iconst (2), 628, 0, 0, 0, nn), (628, .iadd, 629, 0, 0, 0, nn), (629, .iaload, 630, 0, 0, 0, nn), (630, .aload_n 0, 631, 0, 0, 0, nn), (631, .iload 4, 633, 0, 0, 0, nn), (633, .iconst (3), 634, 0, 0, 0, nn), (634, .iadd, 635, 0, 0, 0, nn), (635, .iaload, 636, 0, 0, 0, nn), (636, .aload_n 0, 637, 0, 0, 0, nn), (637, .iload 4, 639, 0, 0, 0, nn), (639, .iconst (4), 640, 0, 0, 0, nn), (640, .iadd, 641, 0, 0, 0, nn), (641, .iaload, 642, 0, 0, 0, nn), (642, .invokevirtual 75, 645, 0, 0, 12462, y_dh_carrot), (645, .aload_n 2, 646, 0, 0, 0, nn), (646, .aload_n 0, 647, 0, 0, 0, nn), (647, .iload 4, 649, 0, 0, 0, nn), (649, .iconst (1), 650, 0, 0, 0, nn), (650, .iadd, 651, 0, 0, 0, nn), (651, .iaload, 652, 0, 0, 0, nn), (652, .aload_n 0, 653, 0, 0, 0, nn), (653, .iload 4, 655, 0, 0, 0, nn), (655, .iconst (2), 656, 0, 0, 0, nn), (656, .iadd, 657, 0, 0, 0, nn), (657, .iaload, 658, 0, 0, 0, nn), (658, .aload_n 0, 659, 0, 0, 0, nn), (659, .iload 4, 661, 0, 0, 0, nn), (661, .iconst (3), 662, 0, 0, 0, nn), (662, .iadd, 663, 0, 0, 0, nn), (663, .iaload, 664, 0, 0, 0, nn), (664, .aload_n 0, 665, 0, 0, 0, nn), (665, .iload 4, 667, 0, 0, 0, nn), (667, .iconst (4), 668, 0, 0, 0, nn), (668, .iadd, 669, 0, 0, 0, nn), (669, .iaload, 670, 0, 0, 0, nn), (670, .invokevirtual 78, 673, 0, 0, 28744, y_mo_carrot), (673, .if_icmp .eq (1524), 676, 2197, 0, 0, nn), (676, .iconst (0), 677, 0, 0, 0, nn), (677, .ireturn, 678, 0, 0, 0, nn)]
set_option maxRecDepth 100000 in
theorem lg_carrot : lT_carrot.all (chkE (lawT lT_carrot)) = true := by decide +kernel
set_option maxRecDepth 20000 in
theorem law_carrot {Δ : DT} {Γ : FT} {n : Nat} {xs : Nat → Int32} (SC : SCR Δ Γ n xs) : LCASE Δ Γ n xs 617 := by
  intro i B M c s h0 h6 hR hB hc hs k
  obtain ⟨p, hp, q, hq, he, hR2⟩ := c_carrot hR (xs (i + 1).toNat).toInt (xs (i + 2).toNat).toInt (xs (i + 3).toNat).toInt (xs (i + 4).toNat).toInt
  refine w_wid (c + 1) (s + 6) (by omega) (by omega) ?_
  refine w_re (T' := lT_carrot) lg_carrot ?_
  refine w_aload_n rfl rfl ?_
  refine w_scr SC rfl rfl rfl rfl rfl rfl ⟨h0, by decide, by omega⟩ ?_
  refine w_scr SC rfl rfl rfl rfl rfl rfl ⟨h0, by decide, by omega⟩ ?_
  refine w_scr SC rfl rfl rfl rfl rfl rfl ⟨h0, by decide, by omega⟩ ?_
  refine w_scr SC rfl rfl rfl rfl rfl rfl ⟨h0, by decide, by omega⟩ ?_
  refine l_call (as := [vI (xs (i + 1).toNat).toInt, vI (xs (i + 2).toNat).toInt, vI (xs (i + 3).toNat).toInt, vI (xs (i + 4).toNat).toInt]) (st := []) (d := 1000) rfl (fun ho hM => cal_dh_carrot (by decide) hp ho hM) v_dh_carrot (Nat.le_of_ble_eq_true rfl) S_0 rfl (Nat.le_of_ble_eq_true rfl) ⟨hc, hs⟩ ?_
  refine w_aload_n rfl rfl ?_
  refine w_scr SC rfl rfl rfl rfl rfl rfl ⟨h0, by decide, by omega⟩ ?_
  refine w_scr SC rfl rfl rfl rfl rfl rfl ⟨h0, by decide, by omega⟩ ?_
  refine w_scr SC rfl rfl rfl rfl rfl rfl ⟨h0, by decide, by omega⟩ ?_
  refine w_scr SC rfl rfl rfl rfl rfl rfl ⟨h0, by decide, by omega⟩ ?_
  refine l_call (as := [vI (xs (i + 1).toNat).toInt, vI (xs (i + 2).toNat).toInt, vI (xs (i + 3).toNat).toInt, vI (xs (i + 4).toNat).toInt]) (st := [vI p.1]) (d := 1000) rfl (fun ho hM => cal_mo_carrot (by decide) hq ho hM) v_mo_carrot (Nat.le_of_ble_eq_true rfl) S_278 rfl (Nat.le_of_ble_eq_true rfl) ⟨hc, hs⟩ ?_
  refine s_icmp_eq_t rfl he.symm ?_
  exact w_re rfl (k q.2 (hR2.wide (by omega)))
def lT_eat : List ENT := [(678, .aload_n 1, 679, 0, 0, 0, nn), (679, .invokevirtual 79, 682, 0, 0, 12473, y_dh_eat), (682, .aload_n 2, 683, 0, 0, 0, nn), (683, .invokevirtual 82, 686, 0, 0, 28752, y_mo_eat), (686, .if_icmp .eq (1511), 689, 2197, 0, 0, nn), (689, .iconst (0), 690, 0, 0, 0, nn), (690, .ireturn, 691, 0, 0, 0, nn)]
set_option maxRecDepth 100000 in
theorem lg_eat : lT_eat.all (chkE (lawT lT_eat)) = true := by decide +kernel
set_option maxRecDepth 20000 in
theorem law_eat {Δ : DT} {Γ : FT} {n : Nat} {xs : Nat → Int32} (SC : SCR Δ Γ n xs) : LCASE Δ Γ n xs 678 := by
  intro i B M c s h0 h6 hR hB hc hs k
  obtain ⟨p, hp, q, hq, he, hR2⟩ := c_eat hR
  refine w_wid (c + 1) (s + 6) (by omega) (by omega) ?_
  refine w_re (T' := lT_eat) lg_eat ?_
  refine w_aload_n rfl rfl ?_
  refine l_call (as := []) (st := []) (d := 1000) rfl (fun ho hM => cal_dh_eat (by decide) hp ho hM) v_dh_eat (Nat.le_of_ble_eq_true rfl) S_0 rfl (Nat.le_of_ble_eq_true rfl) ⟨hc, hs⟩ ?_
  refine w_aload_n rfl rfl ?_
  refine l_call (as := []) (st := [vI p.1]) (d := 1000) rfl (fun ho hM => cal_mo_eat (by decide) hq ho hM) v_mo_eat (Nat.le_of_ble_eq_true rfl) S_278 rfl (Nat.le_of_ble_eq_true rfl) ⟨hc, hs⟩ ?_
  refine s_icmp_eq_t rfl he.symm ?_
  exact w_re rfl (k q.2 (hR2.wide (by omega)))
def lT_minute : List ENT := [(691, .aload_n 1, 692, 0, 0, 0, nn), (692, .invokevirtual 83, 695, 0, 0, 12481, y_dh_minute), (695, .aload_n 2, 696, 0, 0, 0, nn), (696, .invokevirtual 86, 699, 0, 0, 28756, y_mo_minute), (699, .if_icmp .eq (1498), 702, 2197, 0, 0, nn), (702, .iconst (0), 703, 0, 0, 0, nn), (703, .ireturn, 704, 0, 0, 0, nn)]
set_option maxRecDepth 100000 in
theorem lg_minute : lT_minute.all (chkE (lawT lT_minute)) = true := by decide +kernel
set_option maxRecDepth 20000 in
theorem law_minute {Δ : DT} {Γ : FT} {n : Nat} {xs : Nat → Int32} (SC : SCR Δ Γ n xs) : LCASE Δ Γ n xs 691 := by
  intro i B M c s h0 h6 hR hB hc hs k
  obtain ⟨p, hp, q, hq, he, hR2⟩ := c_minute hR (by omega)
  refine w_wid (c + 1) (s + 6) (by omega) (by omega) ?_
  refine w_re (T' := lT_minute) lg_minute ?_
  refine w_aload_n rfl rfl ?_
  refine l_call (as := []) (st := []) (d := 1000) rfl (fun ho hM => cal_dh_minute (by decide) hp ho hM) v_dh_minute (Nat.le_of_ble_eq_true rfl) S_0 rfl (Nat.le_of_ble_eq_true rfl) ⟨hc, hs⟩ ?_
  refine w_aload_n rfl rfl ?_
  refine l_call (as := []) (st := [vI p.1]) (d := 1000) rfl (fun ho hM => cal_mo_minute (by decide) hq ho hM) v_mo_minute (Nat.le_of_ble_eq_true rfl) S_278 rfl (Nat.le_of_ble_eq_true rfl) ⟨hc, hs⟩ ?_
  refine s_icmp_eq_t rfl he.symm ?_
  exact w_re rfl (k q.2 (hR2.wide (by omega)))
def lT_minutes : List ENT := [(704, .aload_n 1, 705, 0, 0, 0, nn), (705, .aload_n 0, 706, 0, 0, 0, nn), (706, .iload 4, 708, 0, 0, 0, nn), (708, .iconst (1), 709, 0, 0, 0, nn), (709, .iadd, 710, 0, 0, 0, nn), (710, .iaload, 711, 0, 0, 0, nn), (711, .invokevirtual 87, 714, 0, 0, 16424, y_dh_minutes), (714, .aload_n 2, 715, 0, 0, 0, nn), (715, .aload_n 0, 716, 0, 0, 0, nn), (716, .iload 4, 718, 0, 0, 0, nn), (718, .iconst (1), 719, 0, 0, 0, nn), (719, .iadd, 720, 0, 0, 0, nn), (720, .iaload, 721, 0, 0, 0, nn), (721, .invokevirtual 90, 724, 0, 0, 28784, y_mo_minutes), (724, .if_icmp .eq (1473), 727, 2197, 0, 0, nn), (727, .iconst (0), 728, 0, 0, 0, nn), (728, .ireturn, 729, 0, 0, 0, nn)]
set_option maxRecDepth 100000 in
theorem lg_minutes : lT_minutes.all (chkE (lawT lT_minutes)) = true := by decide +kernel
set_option maxRecDepth 20000 in
theorem law_minutes {Δ : DT} {Γ : FT} {n : Nat} {xs : Nat → Int32} (SC : SCR Δ Γ n xs) : LCASE Δ Γ n xs 704 := by
  intro i B M c s h0 h6 hR hB hc hs k
  obtain ⟨p, hp, q, hq, he, hR2⟩ := c_minutes hR (by omega) (xs (i + 1).toNat).toInt
  refine w_wid (c + 1) (s + 6) (by omega) (by omega) ?_
  refine w_re (T' := lT_minutes) lg_minutes ?_
  refine w_aload_n rfl rfl ?_
  refine w_scr SC rfl rfl rfl rfl rfl rfl ⟨h0, by decide, by omega⟩ ?_
  refine l_call (as := [vI (xs (i + 1).toNat).toInt]) (st := []) (d := 1000) rfl (fun ho hM => cal_dh_minutes (by decide) hp ho hM) v_dh_minutes (Nat.le_of_ble_eq_true rfl) S_0 rfl (Nat.le_of_ble_eq_true rfl) ⟨hc, hs⟩ ?_
  refine w_aload_n rfl rfl ?_
  refine w_scr SC rfl rfl rfl rfl rfl rfl ⟨h0, by decide, by omega⟩ ?_
  refine l_call (as := [vI (xs (i + 1).toNat).toInt]) (st := [vI p.1]) (d := 1000) rfl (fun ho hM => cal_mo_minutes (by decide) hq ho hM) v_mo_minutes (Nat.le_of_ble_eq_true rfl) S_278 rfl (Nat.le_of_ble_eq_true rfl) ⟨hc, hs⟩ ?_
  refine s_icmp_eq_t rfl he.symm ?_
  exact w_re rfl (k q.2 (hR2.wide (by omega)))
def lT_day : List ENT := [(729, .aload_n 1, 730, 0, 0, 0, nn), (730, .invokevirtual 91, 733, 0, 0, 16437, y_dh_day), (733, .aload_n 2, 734, 0, 0, 0, nn), (734, .invokevirtual 94, 737, 0, 0, 28794, y_mo_day), (737, .if_icmp .eq (1460), 740, 2197, 0, 0, nn), (740, .iconst (0), 741, 0, 0, 0, nn), (741, .ireturn, 742, 0, 0, 0, nn)]
set_option maxRecDepth 100000 in
theorem lg_day : lT_day.all (chkE (lawT lT_day)) = true := by decide +kernel
set_option maxRecDepth 20000 in
theorem law_day {Δ : DT} {Γ : FT} {n : Nat} {xs : Nat → Int32} (SC : SCR Δ Γ n xs) : LCASE Δ Γ n xs 729 := by
  intro i B M c s h0 h6 hR hB hc hs k
  obtain ⟨p, hp, q, hq, he, hR2⟩ := c_day hR (by omega)
  refine w_wid (c + 1) (s + 6) (by omega) (by omega) ?_
  refine w_re (T' := lT_day) lg_day ?_
  refine w_aload_n rfl rfl ?_
  refine l_call (as := []) (st := []) (d := 1000) rfl (fun ho hM => cal_dh_day (by decide) hp ho hM) v_dh_day (Nat.le_of_ble_eq_true rfl) S_0 rfl (Nat.le_of_ble_eq_true rfl) ⟨hc, hs⟩ ?_
  refine w_aload_n rfl rfl ?_
  refine l_call (as := []) (st := [vI p.1]) (d := 1000) rfl (fun ho hM => cal_mo_day (by decide) hq ho hM) v_mo_day (Nat.le_of_ble_eq_true rfl) S_278 rfl (Nat.le_of_ble_eq_true rfl) ⟨hc, hs⟩ ?_
  refine s_icmp_eq_t rfl he.symm ?_
  exact w_re rfl (k q.2 (hR2.wide (by omega)))
def lT_undo : List ENT := [(742, .aload_n 1, 743, 0, 0, 0, nn), (743, .invokevirtual 95, 746, 0, 0, 16463, y_dh_undo), (746, .aload_n 2, 747, 0, 0, 0, nn), (747, .invokevirtual 98, 750, 0, 0, 28809, y_mo_undo), (750, .if_icmp .eq (1447), 753, 2197, 0, 0, nn), (753, .iconst (0), 754, 0, 0, 0, nn), (754, .ireturn, 755, 0, 0, 0, nn)]
set_option maxRecDepth 100000 in
theorem lg_undo : lT_undo.all (chkE (lawT lT_undo)) = true := by decide +kernel
set_option maxRecDepth 20000 in
theorem law_undo {Δ : DT} {Γ : FT} {n : Nat} {xs : Nat → Int32} (SC : SCR Δ Γ n xs) : LCASE Δ Γ n xs 742 := by
  intro i B M c s h0 h6 hR hB hc hs k
  obtain ⟨p, hp, q, hq, he, hR2⟩ := c_undo hR
  refine w_wid (c + 1) (s + 6) (by omega) (by omega) ?_
  refine w_re (T' := lT_undo) lg_undo ?_
  refine w_aload_n rfl rfl ?_
  refine l_call (as := []) (st := []) (d := 1000) rfl (fun ho hM => cal_dh_undo (by decide) hp ho hM) v_dh_undo (Nat.le_of_ble_eq_true rfl) S_0 rfl (Nat.le_of_ble_eq_true rfl) ⟨hc, hs⟩ ?_
  refine w_aload_n rfl rfl ?_
  refine l_call (as := []) (st := [vI p.1]) (d := 1000) rfl (fun ho hM => cal_mo_undo (by decide) hq ho hM) v_mo_undo (Nat.le_of_ble_eq_true rfl) S_278 rfl (Nat.le_of_ble_eq_true rfl) ⟨hc, hs⟩ ?_
  refine s_icmp_eq_t rfl he.symm ?_
  exact w_re rfl (k q.2 (hR2.wide (by omega)))
def lT_struck : List ENT := [(755, .aload_n 1, 756, 0, 0, 0, nn), (756, .aload_n 0, 757, 0, 0, 0, nn), (757, .iload 4, 759, 0, 0, 0, nn), (759, .iconst (1), 760, 0, 0, 0, nn), (760, .iadd, 761, 0, 0, 0, nn), (761, .iaload, 762, 0, 0, 0, nn), (762, .aload_n 0, 763, 0, 0, 0, nn), (763, .iload 4, 765, 0, 0, 0, nn), (765, .iconst (2), 766, 0, 0, 0, nn), (766, .iadd, 767, 0, 0, 0, nn), (767, .iaload, 768, 0, 0, 0, nn), (768, .invokevirtual 99, 771, 0, 0, 16471, y_dh_struck), (771, .aload_n 2, 772, 0, 0, 0, nn), (772, .aload_n 0, 773, 0, 0, 0, nn), (773, .iload 4, 775, 0, 0, 0, nn), (775, .iconst (1), 776, 0, 0, 0, nn), (776, .iadd, 777, 0, 0, 0, nn), (777, .iaload, 778, 0, 0, 0, nn), (778, .aload_n 0, 779, 0, 0, 0, nn), (779, .iload 4, 781, 0, 0, 0, nn), (781, .iconst (2), 782, 0, 0, 0, nn), (782, .iadd, 783, 0, 0, 0, nn), (783, .iaload, 784, 0, 0, 0, nn), (784, .invokevirtual 102, 787, 0, 0, 28817, y_mo_struck), (787, .if_icmp .eq (1410), 790, 2197, 0, 0, nn), (790, .iconst (0), 791, 0, 0, 0, nn), (791, .ireturn, 792, 0, 0, 0, nn)]
set_option maxRecDepth 100000 in
theorem lg_struck : lT_struck.all (chkE (lawT lT_struck)) = true := by decide +kernel
set_option maxRecDepth 20000 in
theorem law_struck {Δ : DT} {Γ : FT} {n : Nat} {xs : Nat → Int32} (SC : SCR Δ Γ n xs) : LCASE Δ Γ n xs 755 := by
  intro i B M c s h0 h6 hR hB hc hs k
  obtain ⟨p, hp, q, hq, he, hR2⟩ := c_struck hR (by omega) (xs (i + 1).toNat).toInt (xs (i + 2).toNat).toInt
  obtain ⟨r, hr, rfl⟩ := bind_some hp
  refine w_wid (c + 1) (s + 6) (by omega) (by omega) ?_
  refine w_re (T' := lT_struck) lg_struck ?_
  refine w_aload_n rfl rfl ?_
  refine w_scr SC rfl rfl rfl rfl rfl rfl ⟨h0, by decide, by omega⟩ ?_
  refine w_scr SC rfl rfl rfl rfl rfl rfl ⟨h0, by decide, by omega⟩ ?_
  refine l_call (as := [vI (xs (i + 1).toNat).toInt, vI (xs (i + 2).toNat).toInt]) (st := []) (d := 1000) rfl (fun ho hM => cal_dh_struck (by decide) hr ho hM) v_dh_struck (Nat.le_of_ble_eq_true rfl) S_0 rfl (Nat.le_of_ble_eq_true rfl) ⟨hc, hs⟩ ?_
  refine w_aload_n rfl rfl ?_
  refine w_scr SC rfl rfl rfl rfl rfl rfl ⟨h0, by decide, by omega⟩ ?_
  refine w_scr SC rfl rfl rfl rfl rfl rfl ⟨h0, by decide, by omega⟩ ?_
  refine l_call (as := [vI (xs (i + 1).toNat).toInt, vI (xs (i + 2).toNat).toInt]) (st := [vI r]) (d := 1000) rfl (fun ho hM => cal_mo_struck (by decide) hq ho hM) v_mo_struck (Nat.le_of_ble_eq_true rfl) S_278 rfl (Nat.le_of_ble_eq_true rfl) ⟨hc, hs⟩ ?_
  refine s_icmp_eq_t rfl he.symm ?_
  exact w_re rfl (k q.2 (hR2.wide (by omega)))
def lT_took : List ENT := [(792, .aload_n 1, 793, 0, 0, 0, nn), (793, .aload_n 0, 794, 0, 0, 0, nn), (794, .iload 4, 796, 0, 0, 0, nn), (796, .iconst (1), 797, 0, 0, 0, nn), (797, .iadd, 798, 0, 0, 0, nn), (798, .iaload, 799, 0, 0, 0, nn), (799, .aload_n 0, 800, 0, 0, 0, nn), (800, .iload 4, 802, 0, 0, 0, nn), (802, .iconst (2), 803, 0, 0, 0, nn), (803, .iadd, 804, 0, 0, 0, nn), (804, .iaload, 805, 0, 0, 0, nn), (805, .invokevirtual 103, 808, 0, 0, 16479, y_dh_took), (808, .aload_n 2, 809, 0, 0, 0, nn), (809, .aload_n 0, 810, 0, 0, 0, nn), (810, .iload 4, 812, 0, 0, 0, nn), (812, .iconst (1), 813, 0, 0, 0, nn), (813, .iadd, 814, 0, 0, 0, nn), (814, .iaload, 815, 0, 0, 0, nn), (815, .aload_n 0, 816, 0, 0, 0, nn), (816, .iload 4, 818, 0, 0, 0, nn), (818, .iconst (2), 819, 0, 0, 0, nn), (819, .iadd, 820, 0, 0, 0, nn), (820, .iaload, 821, 0, 0, 0, nn), (821, .invokevirtual 106, 824, 0, 0, 28829, y_mo_took), (824, .if_icmp .eq (1373), 827, 2197, 0, 0, nn), (827, .iconst (0), 828, 0, 0, 0, nn), (828, .ireturn, 829, 0, 0, 0, nn)]
set_option maxRecDepth 100000 in
theorem lg_took : lT_took.all (chkE (lawT lT_took)) = true := by decide +kernel
set_option maxRecDepth 20000 in
theorem law_took {Δ : DT} {Γ : FT} {n : Nat} {xs : Nat → Int32} (SC : SCR Δ Γ n xs) : LCASE Δ Γ n xs 792 := by
  intro i B M c s h0 h6 hR hB hc hs k
  obtain ⟨p, hp, q, hq, he, hR2⟩ := c_took hR (by omega) (xs (i + 1).toNat).toInt (xs (i + 2).toNat).toInt
  obtain ⟨r, hr, rfl⟩ := bind_some hp
  refine w_wid (c + 1) (s + 6) (by omega) (by omega) ?_
  refine w_re (T' := lT_took) lg_took ?_
  refine w_aload_n rfl rfl ?_
  refine w_scr SC rfl rfl rfl rfl rfl rfl ⟨h0, by decide, by omega⟩ ?_
  refine w_scr SC rfl rfl rfl rfl rfl rfl ⟨h0, by decide, by omega⟩ ?_
  refine l_call (as := [vI (xs (i + 1).toNat).toInt, vI (xs (i + 2).toNat).toInt]) (st := []) (d := 1000) rfl (fun ho hM => cal_dh_took (by decide) hr ho hM) v_dh_took (Nat.le_of_ble_eq_true rfl) S_0 rfl (Nat.le_of_ble_eq_true rfl) ⟨hc, hs⟩ ?_
  refine w_aload_n rfl rfl ?_
  refine w_scr SC rfl rfl rfl rfl rfl rfl ⟨h0, by decide, by omega⟩ ?_
  refine w_scr SC rfl rfl rfl rfl rfl rfl ⟨h0, by decide, by omega⟩ ?_
  refine l_call (as := [vI (xs (i + 1).toNat).toInt, vI (xs (i + 2).toNat).toInt]) (st := [vI r]) (d := 1000) rfl (fun ho hM => cal_mo_took (by decide) hq ho hM) v_mo_took (Nat.le_of_ble_eq_true rfl) S_278 rfl (Nat.le_of_ble_eq_true rfl) ⟨hc, hs⟩ ?_
  refine s_icmp_eq_t rfl he.symm ?_
  exact w_re rfl (k q.2 (hR2.wide (by omega)))
def lT_longest : List ENT := [(829, .aload_n 1, 830, 0, 0, 0, nn), (830, .aload_n 0, 831, 0, 0, 0, nn), (831, .iload 4, 833, 0, 0, 0, nn), (833, .iconst (1), 834, 0, 0, 0, nn), (834, .iadd, 835, 0, 0, 0, nn), (835, .iaload, 836, 0, 0, 0, nn), (836, .invokevirtual 107, 839, 0, 0, 16483, y_dh_longest), (839, .aload_n 2, 840, 0, 0, 0, nn), (840, .aload_n 0, 841, 0, 0, 0, nn), (841, .iload 4, 843, 0, 0, 0, nn), (843, .iconst (1), 844, 0, 0, 0, nn), (844, .iadd, 845, 0, 0, 0, nn), (845, .iaload, 846, 0, 0, 0, nn), (846, .invokevirtual 110, 849, 0, 0, 28833, y_mo_longest), (849, .if_icmp .eq (1348), 852, 2197, 0, 0, nn), (852, .iconst (0), 853, 0, 0, 0, nn), (853, .ireturn, 854, 0, 0, 0, nn)]
set_option maxRecDepth 100000 in
theorem lg_longest : lT_longest.all (chkE (lawT lT_longest)) = true := by decide +kernel
set_option maxRecDepth 20000 in
theorem law_longest {Δ : DT} {Γ : FT} {n : Nat} {xs : Nat → Int32} (SC : SCR Δ Γ n xs) : LCASE Δ Γ n xs 829 := by
  intro i B M c s h0 h6 hR hB hc hs k
  obtain ⟨p, hp, q, hq, he, hR2⟩ := c_longest hR (by omega) (xs (i + 1).toNat).toInt
  refine w_wid (c + 1) (s + 6) (by omega) (by omega) ?_
  refine w_re (T' := lT_longest) lg_longest ?_
  refine w_aload_n rfl rfl ?_
  refine w_scr SC rfl rfl rfl rfl rfl rfl ⟨h0, by decide, by omega⟩ ?_
  refine l_call (as := [vI (xs (i + 1).toNat).toInt]) (st := []) (d := 1000) rfl (fun ho hM => cal_dh_longest (by decide) hp ho hM) v_dh_longest (Nat.le_of_ble_eq_true rfl) S_0 rfl (Nat.le_of_ble_eq_true rfl) ⟨hc, hs⟩ ?_
  refine w_aload_n rfl rfl ?_
  refine w_scr SC rfl rfl rfl rfl rfl rfl ⟨h0, by decide, by omega⟩ ?_
  refine l_call (as := [vI (xs (i + 1).toNat).toInt]) (st := [vI p.1]) (d := 1000) rfl (fun ho hM => cal_mo_longest (by decide) hq ho hM) v_mo_longest (Nat.le_of_ble_eq_true rfl) S_278 rfl (Nat.le_of_ble_eq_true rfl) ⟨hc, hs⟩ ?_
  refine s_icmp_eq_t rfl he.symm ?_
  exact w_re rfl (k q.2 (hR2.wide (by omega)))
def lT_ahead : List ENT := [(854, .aload_n 1, 855, 0, 0, 0, nn), (855, .aload_n 0, 856, 0, 0, 0, nn), (856, .iload 4, 858, 0, 0, 0, nn), (858, .iconst (1), 859, 0, 0, 0, nn), (859, .iadd, 860, 0, 0, 0, nn), (860, .iaload, 861, 0, 0, 0, nn), (861, .aload_n 0, 862, 0, 0, 0, nn), (862, .iload 4, 864, 0, 0, 0, nn), (864, .iconst (2), 865, 0, 0, 0, nn), (865, .iadd, 866, 0, 0, 0, nn), (866, .iaload, 867, 0, 0, 0, nn), (867, .invokevirtual 111, 870, 0, 0, 16487, y_dh_ahead), (870, .aload_n 2, 871, 0, 0, 0, nn), (871, .aload_n 0, 872, 0, 0, 0, nn), (872, .iload 4, 874, 0, 0, 0, nn), (874, .iconst (1), 875, 0, 0, 0, nn), (875, .iadd, 876, 0, 0, 0, nn), (876, .iaload, 877, 0, 0, 0, nn), (877, .aload_n 0, 878, 0, 0, 0, nn), (878, .iload 4, 880, 0, 0, 0, nn), (880, .iconst (2), 881, 0, 0, 0, nn), (881, .iadd, 882, 0, 0, 0, nn), (882, .iaload, 883, 0, 0, 0, nn), (883, .invokevirtual 114, 886, 0, 0, 28837, y_mo_ahead), (886, .if_icmp .eq (1311), 889, 2197, 0, 0, nn), (889, .iconst (0), 890, 0, 0, 0, nn), (890, .ireturn, 891, 0, 0, 0, nn)]
set_option maxRecDepth 100000 in
theorem lg_ahead : lT_ahead.all (chkE (lawT lT_ahead)) = true := by decide +kernel
set_option maxRecDepth 20000 in
theorem law_ahead {Δ : DT} {Γ : FT} {n : Nat} {xs : Nat → Int32} (SC : SCR Δ Γ n xs) : LCASE Δ Γ n xs 854 := by
  intro i B M c s h0 h6 hR hB hc hs k
  obtain ⟨p, hp, q, hq, he, hR2⟩ := c_ahead hR (by omega) (xs (i + 1).toNat).toInt (xs (i + 2).toNat).toInt
  refine w_wid (c + 1) (s + 6) (by omega) (by omega) ?_
  refine w_re (T' := lT_ahead) lg_ahead ?_
  refine w_aload_n rfl rfl ?_
  refine w_scr SC rfl rfl rfl rfl rfl rfl ⟨h0, by decide, by omega⟩ ?_
  refine w_scr SC rfl rfl rfl rfl rfl rfl ⟨h0, by decide, by omega⟩ ?_
  refine l_call (as := [vI (xs (i + 1).toNat).toInt, vI (xs (i + 2).toNat).toInt]) (st := []) (d := 1000) rfl (fun ho hM => cal_dh_ahead (by decide) hp ho hM) v_dh_ahead (Nat.le_of_ble_eq_true rfl) S_0 rfl (Nat.le_of_ble_eq_true rfl) ⟨hc, hs⟩ ?_
  refine w_aload_n rfl rfl ?_
  refine w_scr SC rfl rfl rfl rfl rfl rfl ⟨h0, by decide, by omega⟩ ?_
  refine w_scr SC rfl rfl rfl rfl rfl rfl ⟨h0, by decide, by omega⟩ ?_
  refine l_call (as := [vI (xs (i + 1).toNat).toInt, vI (xs (i + 2).toNat).toInt]) (st := [vI p.1]) (d := 1000) rfl (fun ho hM => cal_mo_ahead (by decide) hq ho hM) v_mo_ahead (Nat.le_of_ble_eq_true rfl) S_278 rfl (Nat.le_of_ble_eq_true rfl) ⟨hc, hs⟩ ?_
  refine s_icmp_eq_t rfl he.symm ?_
  exact w_re rfl (k q.2 (hR2.wide (by omega)))
def lT_when : List ENT := [(891, .aload_n 1, 892, 0, 0, 0, nn), (892, .aload_n 0, 893, 0, 0, 0, nn), (893, .iload 4, 895, 0, 0, 0, nn), (895, .iconst (1), 896, 0, 0, 0, nn), (896, .iadd, 897, 0, 0, 0, nn), (897, .iaload, 898, 0, 0, 0, nn), (898, .aload_n 0, 899, 0, 0, 0, nn), (899, .iload 4, 901, 0, 0, 0, nn), (901, .iconst (2), 902, 0, 0, 0, nn), (902, .iadd, 903, 0, 0, 0, nn), (903, .iaload, 904, 0, 0, 0, nn), (904, .invokevirtual 115, 907, 0, 0, 16513, y_dh_when), (907, .aload_n 2, 908, 0, 0, 0, nn), (908, .aload_n 0, 909, 0, 0, 0, nn), (909, .iload 4, 911, 0, 0, 0, nn), (911, .iconst (1), 912, 0, 0, 0, nn), (912, .iadd, 913, 0, 0, 0, nn), (913, .iaload, 914, 0, 0, 0, nn), (914, .aload_n 0, 915, 0, 0, 0, nn), (915, .iload 4, 917, 0, 0, 0, nn), (917, .iconst (2), 918, 0, 0, 0, nn), (918, .iadd, 919, 0, 0, 0, nn), (919, .iaload, 920, 0, 0, 0, nn), (920, .invokevirtual 118, 923, 0, 0, 28845, y_mo_when), (923, .if_icmp .eq (1274), 926, 2197, 0, 0, nn), (926, .iconst (0), 927, 0, 0, 0, nn), (927, .ireturn, 928, 0, 0, 0, nn)]
set_option maxRecDepth 100000 in
theorem lg_when : lT_when.all (chkE (lawT lT_when)) = true := by decide +kernel
set_option maxRecDepth 20000 in
theorem law_when {Δ : DT} {Γ : FT} {n : Nat} {xs : Nat → Int32} (SC : SCR Δ Γ n xs) : LCASE Δ Γ n xs 891 := by
  intro i B M c s h0 h6 hR hB hc hs k
  obtain ⟨p, hp, q, hq, he, hR2⟩ := c_when hR (by omega) (xs (i + 1).toNat).toInt (xs (i + 2).toNat).toInt
  refine w_wid (c + 1) (s + 6) (by omega) (by omega) ?_
  refine w_re (T' := lT_when) lg_when ?_
  refine w_aload_n rfl rfl ?_
  refine w_scr SC rfl rfl rfl rfl rfl rfl ⟨h0, by decide, by omega⟩ ?_
  refine w_scr SC rfl rfl rfl rfl rfl rfl ⟨h0, by decide, by omega⟩ ?_
  refine l_call (as := [vI (xs (i + 1).toNat).toInt, vI (xs (i + 2).toNat).toInt]) (st := []) (d := 1000) rfl (fun ho hM => cal_dh_when (by decide) hp ho hM) v_dh_when (Nat.le_of_ble_eq_true rfl) S_0 rfl (Nat.le_of_ble_eq_true rfl) ⟨hc, hs⟩ ?_
  refine w_aload_n rfl rfl ?_
  refine w_scr SC rfl rfl rfl rfl rfl rfl ⟨h0, by decide, by omega⟩ ?_
  refine w_scr SC rfl rfl rfl rfl rfl rfl ⟨h0, by decide, by omega⟩ ?_
  refine l_call (as := [vI (xs (i + 1).toNat).toInt, vI (xs (i + 2).toNat).toInt]) (st := [vI p.1]) (d := 1000) rfl (fun ho hM => cal_mo_when (by decide) hq ho hM) v_mo_when (Nat.le_of_ble_eq_true rfl) S_278 rfl (Nat.le_of_ble_eq_true rfl) ⟨hc, hs⟩ ?_
  refine s_icmp_eq_t rfl he.symm ?_
  exact w_re rfl (k q.2 (hR2.wide (by omega)))
def lT_strikes : List ENT := [(928, .aload_n 1, 929, 0, 0, 0, nn), (929, .aload_n 0, 930, 0, 0, 0, nn), (930, .iload 4, 932, 0, 0, 0, nn), (932, .iconst (1), 933, 0, 0, 0, nn), (933, .iadd, 934, 0, 0, 0, nn), (934, .iaload, 935, 0, 0, 0, nn), (935, .aload_n 0, 936, 0, 0, 0, nn), (936, .iload 4, 938, 0, 0, 0, nn), (938, .iconst (2), 939, 0, 0, 0, nn), (939, .iadd, 940, 0, 0, 0, nn), (940, .iaload, 941, 0, 0, 0, nn), (941, .invokevirtual 119, 944, 0, 0, 16529, y_dh_strikes), (944, .aload_n 2, 945, 0, 0, 0, nn), (945, .aload_n 0, 946, 0, 0, 0, nn), (946, .iload 4, 948, 0, 0, 0, nn), (948, .iconst (1), 949, 0, 0, 0, nn), (949, .iadd, 950, 0, 0, 0, nn), (950, .iaload, 951, 0, 0, 0, nn), (951, .aload_n 0, 952, 0, 0, 0, nn), (952, .iload 4, 954, 0, 0, 0, nn), (954, .iconst (2), 955, 0, 0, 0, nn), (955, .iadd, 956, 0, 0, 0, nn), (956, .iaload, 957, 0, 0, 0, nn), (957, .invokevirtual 122, 960, 0, 0, 28857, y_mo_strikes), (960, .if_icmp .eq (1237), 963, 2197, 0, 0, nn), (963, .iconst (0), 964, 0, 0, 0, nn), (964, .ireturn, 965, 0, 0, 0, nn)]
set_option maxRecDepth 100000 in
theorem lg_strikes : lT_strikes.all (chkE (lawT lT_strikes)) = true := by decide +kernel
set_option maxRecDepth 20000 in
theorem law_strikes {Δ : DT} {Γ : FT} {n : Nat} {xs : Nat → Int32} (SC : SCR Δ Γ n xs) : LCASE Δ Γ n xs 928 := by
  intro i B M c s h0 h6 hR hB hc hs k
  obtain ⟨p, hp, q, hq, he, hR2⟩ := c_strikes hR (by omega) (xs (i + 1).toNat).toInt (xs (i + 2).toNat).toInt
  refine w_wid (c + 1) (s + 6) (by omega) (by omega) ?_
  refine w_re (T' := lT_strikes) lg_strikes ?_
  refine w_aload_n rfl rfl ?_
  refine w_scr SC rfl rfl rfl rfl rfl rfl ⟨h0, by decide, by omega⟩ ?_
  refine w_scr SC rfl rfl rfl rfl rfl rfl ⟨h0, by decide, by omega⟩ ?_
  refine l_call (as := [vI (xs (i + 1).toNat).toInt, vI (xs (i + 2).toNat).toInt]) (st := []) (d := 1000) rfl (fun ho hM => cal_dh_strikes (by decide) hp ho hM) v_dh_strikes (Nat.le_of_ble_eq_true rfl) S_0 rfl (Nat.le_of_ble_eq_true rfl) ⟨hc, hs⟩ ?_
  refine w_aload_n rfl rfl ?_
  refine w_scr SC rfl rfl rfl rfl rfl rfl ⟨h0, by decide, by omega⟩ ?_
  refine w_scr SC rfl rfl rfl rfl rfl rfl ⟨h0, by decide, by omega⟩ ?_
  refine l_call (as := [vI (xs (i + 1).toNat).toInt, vI (xs (i + 2).toNat).toInt]) (st := [vI p.1]) (d := 1000) rfl (fun ho hM => cal_mo_strikes (by decide) hq ho hM) v_mo_strikes (Nat.le_of_ble_eq_true rfl) S_278 rfl (Nat.le_of_ble_eq_true rfl) ⟨hc, hs⟩ ?_
  refine s_icmp_eq_t rfl he.symm ?_
  exact w_re rfl (k q.2 (hR2.wide (by omega)))
def lT_stops : List ENT := [(965, .aload_n 1, 966, 0, 0, 0, nn), (966, .aload_n 0, 967, 0, 0, 0, nn), (967, .iload 4, 969, 0, 0, 0, nn), (969, .iconst (1), 970, 0, 0, 0, nn), (970, .iadd, 971, 0, 0, 0, nn), (971, .iaload, 972, 0, 0, 0, nn), (972, .invokevirtual 123, 975, 0, 0, 16534, y_dh_stops), (975, .aload_n 2, 976, 0, 0, 0, nn), (976, .aload_n 0, 977, 0, 0, 0, nn), (977, .iload 4, 979, 0, 0, 0, nn), (979, .iconst (1), 980, 0, 0, 0, nn), (980, .iadd, 981, 0, 0, 0, nn), (981, .iaload, 982, 0, 0, 0, nn), (982, .invokevirtual 126, 985, 0, 0, 28861, y_mo_stops), (985, .if_icmp .eq (1212), 988, 2197, 0, 0, nn), (988, .iconst (0), 989, 0, 0, 0, nn), (989, .ireturn, 990, 0, 0, 0, nn)]
set_option maxRecDepth 100000 in
theorem lg_stops : lT_stops.all (chkE (lawT lT_stops)) = true := by decide +kernel
set_option maxRecDepth 20000 in
theorem law_stops {Δ : DT} {Γ : FT} {n : Nat} {xs : Nat → Int32} (SC : SCR Δ Γ n xs) : LCASE Δ Γ n xs 965 := by
  intro i B M c s h0 h6 hR hB hc hs k
  obtain ⟨p, hp, q, hq, he, hR2⟩ := c_stops hR (by omega) (xs (i + 1).toNat).toInt
  refine w_wid (c + 1) (s + 6) (by omega) (by omega) ?_
  refine w_re (T' := lT_stops) lg_stops ?_
  refine w_aload_n rfl rfl ?_
  refine w_scr SC rfl rfl rfl rfl rfl rfl ⟨h0, by decide, by omega⟩ ?_
  refine l_call (as := [vI (xs (i + 1).toNat).toInt]) (st := []) (d := 1000) rfl (fun ho hM => cal_dh_stops (by decide) hp ho hM) v_dh_stops (Nat.le_of_ble_eq_true rfl) S_0 rfl (Nat.le_of_ble_eq_true rfl) ⟨hc, hs⟩ ?_
  refine w_aload_n rfl rfl ?_
  refine w_scr SC rfl rfl rfl rfl rfl rfl ⟨h0, by decide, by omega⟩ ?_
  refine l_call (as := [vI (xs (i + 1).toNat).toInt]) (st := [vI p.1]) (d := 1000) rfl (fun ho hM => cal_mo_stops (by decide) hq ho hM) v_mo_stops (Nat.le_of_ble_eq_true rfl) S_278 rfl (Nat.le_of_ble_eq_true rfl) ⟨hc, hs⟩ ?_
  refine s_icmp_eq_t rfl he.symm ?_
  exact w_re rfl (k q.2 (hR2.wide (by omega)))
def lT_eats : List ENT := [(990, .aload_n 1, 991, 0, 0, 0, nn), (991, .aload_n 0, 992, 0, 0, 0, nn), (992, .iload 4, 994, 0, 0, 0, nn), (994, .iconst (1), 995, 0, 0, 0, nn), (995, .iadd, 996, 0, 0, 0, nn), (996, .iaload, 997, 0, 0, 0, nn), (997, .aload_n 0, 998, 0, 0, 0, nn), (998, .iload 4, 1000, 0, 0, 0, nn), (1000, .iconst (2), 1001, 0, 0, 0, nn), (1001, .iadd, 1002, 0, 0, 0, nn), (1002, .iaload, 1003, 0, 0, 0, nn), (1003, .invokevirtual 127, 1006, 0, 0, 16539, y_dh_eats), (1006, .aload_n 2, 1007, 0, 0, 0, nn), (1007, .aload_n 0, 1008, 0, 0, 0, nn), (1008, .iload 4, 1010, 0, 0, 0, nn), (1010, .iconst (1), 1011, 0, 0, 0, nn), (1011, .iadd, 1012, 0, 0, 0, nn), (1012, .iaload, 1013, 0, 0, 0, nn), (1013, .aload_n 0, 1014, 0, 0, 0, nn), (1014, .iload 4, 1016, 0, 0, 0, nn), (1016, .iconst (2), 1017, 0, 0, 0, nn), (1017, .iadd, 1018, 0, 0, 0, nn), (1018, .iaload, 1019, 0, 0, 0, nn), (1019, .invokevirtual 130, 1022, 0, 0, 28868, y_mo_eats), (1022, .if_icmp .eq (1175), 1025, 2197, 0, 0, nn), (1025, .iconst (0), 1026, 0, 0, 0, nn), (1026, .ireturn, 1027, 0, 0, 0, nn)]
set_option maxRecDepth 100000 in
theorem lg_eats : lT_eats.all (chkE (lawT lT_eats)) = true := by decide +kernel
set_option maxRecDepth 20000 in
theorem law_eats {Δ : DT} {Γ : FT} {n : Nat} {xs : Nat → Int32} (SC : SCR Δ Γ n xs) : LCASE Δ Γ n xs 990 := by
  intro i B M c s h0 h6 hR hB hc hs k
  obtain ⟨p, hp, q, hq, he, hR2⟩ := c_eats hR (by omega) (xs (i + 1).toNat).toInt (xs (i + 2).toNat).toInt
  refine w_wid (c + 1) (s + 6) (by omega) (by omega) ?_
  refine w_re (T' := lT_eats) lg_eats ?_
  refine w_aload_n rfl rfl ?_
  refine w_scr SC rfl rfl rfl rfl rfl rfl ⟨h0, by decide, by omega⟩ ?_
  refine w_scr SC rfl rfl rfl rfl rfl rfl ⟨h0, by decide, by omega⟩ ?_
  refine l_call (as := [vI (xs (i + 1).toNat).toInt, vI (xs (i + 2).toNat).toInt]) (st := []) (d := 1000) rfl (fun ho hM => cal_dh_eats (by decide) hp ho hM) v_dh_eats (Nat.le_of_ble_eq_true rfl) S_0 rfl (Nat.le_of_ble_eq_true rfl) ⟨hc, hs⟩ ?_
  refine w_aload_n rfl rfl ?_
  refine w_scr SC rfl rfl rfl rfl rfl rfl ⟨h0, by decide, by omega⟩ ?_
  refine w_scr SC rfl rfl rfl rfl rfl rfl ⟨h0, by decide, by omega⟩ ?_
  refine l_call (as := [vI (xs (i + 1).toNat).toInt, vI (xs (i + 2).toNat).toInt]) (st := [vI p.1]) (d := 1000) rfl (fun ho hM => cal_mo_eats (by decide) hq ho hM) v_mo_eats (Nat.le_of_ble_eq_true rfl) S_278 rfl (Nat.le_of_ble_eq_true rfl) ⟨hc, hs⟩ ?_
  refine s_icmp_eq_t rfl he.symm ?_
  exact w_re rfl (k q.2 (hR2.wide (by omega)))
def lT_owe : List ENT := [(1027, .aload_n 1, 1028, 0, 0, 0, nn), (1028, .aload_n 0, 1029, 0, 0, 0, nn), (1029, .iload 4, 1031, 0, 0, 0, nn), (1031, .iconst (1), 1032, 0, 0, 0, nn), (1032, .iadd, 1033, 0, 0, 0, nn), (1033, .iaload, 1034, 0, 0, 0, nn), (1034, .aload_n 0, 1035, 0, 0, 0, nn), (1035, .iload 4, 1037, 0, 0, 0, nn), (1037, .iconst (2), 1038, 0, 0, 0, nn), (1038, .iadd, 1039, 0, 0, 0, nn), (1039, .iaload, 1040, 0, 0, 0, nn), (1040, .aload_n 0, 1041, 0, 0, 0, nn), (1041, .iload 4, 1043, 0, 0, 0, nn), (1043, .iconst (3), 1044, 0, 0, 0, nn), (1044, .iadd, 1045, 0, 0, 0, nn), (1045, .iaload, 1046, 0, 0, 0, nn), (1046, .aload_n 0, 1047, 0, 0, 0, nn), (1047, .iload 4, 1049, 0, 0, 0, nn), (1049, .iconst (4), 1050, 0, 0, 0, nn), (1050, .iadd, 1051, 0, 0, 0, nn), (1051, .iaload, 1052, 0, 0, 0, nn), (1052, .aload_n 0, 1053, 0, 0, 0, nn), (1053, .iload 4, 1055, 0, 0, 0, nn), (1055, .iconst (5), 1056, 0, 0, 0, nn), (1056, .iadd, 1057, 0, 0, 0, nn), (1057, .iaload, 1058, 0, 0, 0, nn), (1058, .invokevirtual 131, 1061, 0, 0, 16543, y_dh_owe), (1061, .aload_n 2, 1062, 0, 0, 0, nn), (1062, .aload_n 0, 1063, 0, 0, 0, nn), (1063, .iload 4, 1065, 0, 0, 0, nn), (1065, .iconst (1), 1066, 0, 0, 0, nn), (1066, .iadd, 1067, 0, 0, 0, nn), (1067, .iaload, 1068, 0, 0, 0, nn), (1068, .aload_n 0, 1069, 0, 0, 0, nn), (1069, .iload 4, 1071, 0, 0, 0, nn), (1071, .iconst (2), 1072, 0, 0, 0, nn), (1072, .iadd, 1073, 0, 0, 0, nn), (1073, .iaload, 1074, 0, 0, 0, nn), (1074, .aload_n 0, 1075, 0, 0, 0, nn), (1075, .iload 4, 1077, 0, 0, 0, nn), (1077, .iconst (3), 1078, 0, 0, 0, nn), (1078, .iadd, 1079, 0, 0, 0, nn), (1079, .iaload, 1080, 0, 0, 0, nn), (1080, .aload_n 0, 1081, 0, 0, 0, nn), (1081, .iload 4, 1083, 0, 0, 0, nn), (1083, .iconst (4), 1084, 0, 0, 0, nn), (1084, .iadd, 1085, 0, 0, 0, nn), (1085, .iaload, 1086, 0, 0, 0, nn), (1086, .aload_n 0, 1087, 0, 0, 0, nn), (1087, .iload 4, 1089, 0, 0, 0, nn), (1089, .iconst (5), 1090, 0, 0, 0, nn), (1090, .iadd, 1091, 0, 0, 0, nn), (1091, .iaload, 1092, 0, 0, 0, nn), (1092, .invokevirtual 135, 1095, 0, 0, 28872, y_mo_owe), (1095, .if_icmp .eq (1102), 1098, 2197, 0, 0, nn), (1098, .iconst (0), 1099, 0, 0, 0, nn), (1099, .ireturn, 1100, 0, 0, 0, nn)]
set_option maxRecDepth 100000 in
theorem lg_owe : lT_owe.all (chkE (lawT lT_owe)) = true := by decide +kernel
set_option maxRecDepth 20000 in
theorem law_owe {Δ : DT} {Γ : FT} {n : Nat} {xs : Nat → Int32} (SC : SCR Δ Γ n xs) : LCASE Δ Γ n xs 1027 := by
  intro i B M c s h0 h6 hR hB hc hs k
  obtain ⟨p, hp, q, hq, he, hR2⟩ := c_owe hR (xs (i + 1).toNat).toInt (xs (i + 2).toNat).toInt (xs (i + 3).toNat).toInt (xs (i + 4).toNat).toInt (xs (i + 5).toNat).toInt
  refine w_wid (c + 1) (s + 6) (by omega) (by omega) ?_
  refine w_re (T' := lT_owe) lg_owe ?_
  refine w_aload_n rfl rfl ?_
  refine w_scr SC rfl rfl rfl rfl rfl rfl ⟨h0, by decide, by omega⟩ ?_
  refine w_scr SC rfl rfl rfl rfl rfl rfl ⟨h0, by decide, by omega⟩ ?_
  refine w_scr SC rfl rfl rfl rfl rfl rfl ⟨h0, by decide, by omega⟩ ?_
  refine w_scr SC rfl rfl rfl rfl rfl rfl ⟨h0, by decide, by omega⟩ ?_
  refine w_scr SC rfl rfl rfl rfl rfl rfl ⟨h0, by decide, by omega⟩ ?_
  refine l_call (as := [vI (xs (i + 1).toNat).toInt, vI (xs (i + 2).toNat).toInt, vI (xs (i + 3).toNat).toInt, vI (xs (i + 4).toNat).toInt, vI (xs (i + 5).toNat).toInt]) (st := []) (d := 1000) rfl (fun ho hM => cal_dh_owe (by decide) hp ho hM) v_dh_owe (Nat.le_of_ble_eq_true rfl) S_0 rfl (Nat.le_of_ble_eq_true rfl) ⟨hc, hs⟩ ?_
  refine w_aload_n rfl rfl ?_
  refine w_scr SC rfl rfl rfl rfl rfl rfl ⟨h0, by decide, by omega⟩ ?_
  refine w_scr SC rfl rfl rfl rfl rfl rfl ⟨h0, by decide, by omega⟩ ?_
  refine w_scr SC rfl rfl rfl rfl rfl rfl ⟨h0, by decide, by omega⟩ ?_
  refine w_scr SC rfl rfl rfl rfl rfl rfl ⟨h0, by decide, by omega⟩ ?_
  refine w_scr SC rfl rfl rfl rfl rfl rfl ⟨h0, by decide, by omega⟩ ?_
  refine l_call (as := [vI (xs (i + 1).toNat).toInt, vI (xs (i + 2).toNat).toInt, vI (xs (i + 3).toNat).toInt, vI (xs (i + 4).toNat).toInt, vI (xs (i + 5).toNat).toInt]) (st := [vI p.1]) (d := 1000) rfl (fun ho hM => cal_mo_owe (by decide) hq ho hM) v_mo_owe (Nat.le_of_ble_eq_true rfl) S_278 rfl (Nat.le_of_ble_eq_true rfl) ⟨hc, hs⟩ ?_
  refine s_icmp_eq_t rfl he.symm ?_
  exact w_re rfl (k q.2 (hR2.wide (by omega)))
def lT_tear : List ENT := [(1100, .aload_n 1, 1101, 0, 0, 0, nn), (1101, .invokevirtual 136, 1104, 0, 0, 16554, y_dh_tear), (1104, .aload_n 2, 1105, 0, 0, 0, nn), (1105, .invokevirtual 139, 1108, 0, 0, 28876, y_mo_tear), (1108, .if_icmp .eq (1089), 1111, 2197, 0, 0, nn), (1111, .iconst (0), 1112, 0, 0, 0, nn), (1112, .ireturn, 1113, 0, 0, 0, nn)]
set_option maxRecDepth 100000 in
theorem lg_tear : lT_tear.all (chkE (lawT lT_tear)) = true := by decide +kernel
set_option maxRecDepth 20000 in
theorem law_tear {Δ : DT} {Γ : FT} {n : Nat} {xs : Nat → Int32} (SC : SCR Δ Γ n xs) : LCASE Δ Γ n xs 1100 := by
  intro i B M c s h0 h6 hR hB hc hs k
  obtain ⟨p, hp, q, hq, he, hR2⟩ := c_tear hR
  refine w_wid (c + 1) (s + 6) (by omega) (by omega) ?_
  refine w_re (T' := lT_tear) lg_tear ?_
  refine w_aload_n rfl rfl ?_
  refine l_call (as := []) (st := []) (d := 1000) rfl (fun ho hM => cal_dh_tear (by decide) hp ho hM) v_dh_tear (Nat.le_of_ble_eq_true rfl) S_0 rfl (Nat.le_of_ble_eq_true rfl) ⟨hc, hs⟩ ?_
  refine w_aload_n rfl rfl ?_
  refine l_call (as := []) (st := [vI p.1]) (d := 1000) rfl (fun ho hM => cal_mo_tear (by decide) hq ho hM) v_mo_tear (Nat.le_of_ble_eq_true rfl) S_278 rfl (Nat.le_of_ble_eq_true rfl) ⟨hc, hs⟩ ?_
  refine s_icmp_eq_t rfl he.symm ?_
  exact w_re rfl (k q.2 (hR2.wide (by omega)))
def lT_due : List ENT := [(1113, .aload_n 1, 1114, 0, 0, 0, nn), (1114, .aload_n 0, 1115, 0, 0, 0, nn), (1115, .iload 4, 1117, 0, 0, 0, nn), (1117, .iconst (1), 1118, 0, 0, 0, nn), (1118, .iadd, 1119, 0, 0, 0, nn), (1119, .iaload, 1120, 0, 0, 0, nn), (1120, .aload_n 0, 1121, 0, 0, 0, nn), (1121, .iload 4, 1123, 0, 0, 0, nn), (1123, .iconst (2), 1124, 0, 0, 0, nn), (1124, .iadd, 1125, 0, 0, 0, nn), (1125, .iaload, 1126, 0, 0, 0, nn), (1126, .aload_n 0, 1127, 0, 0, 0, nn), (1127, .iload 4, 1129, 0, 0, 0, nn), (1129, .iconst (3), 1130, 0, 0, 0, nn), (1130, .iadd, 1131, 0, 0, 0, nn), (1131, .iaload, 1132, 0, 0, 0, nn), (1132, .invokevirtual 140, 1135, 0, 0, 16558, y_dh_due), (1135, .aload_n 2, 1136, 0, 0, 0, nn), (1136, .aload_n 0, 1137, 0, 0, 0, nn), (1137, .iload 4, 1139, 0, 0, 0, nn), (1139, .iconst (1), 1140, 0, 0, 0, nn), (1140, .iadd, 1141, 0, 0, 0, nn), (1141, .iaload, 1142, 0, 0, 0, nn), (1142, .aload_n 0, 1143, 0, 0, 0, nn), (1143, .iload 4, 1145, 0, 0, 0, nn), (1145, .iconst (2), 1146, 0, 0, 0, nn), (1146, .iadd, 1147, 0, 0, 0, nn), (1147, .iaload, 1148, 0, 0, 0, nn), (1148, .aload_n 0, 1149, 0, 0, 0, nn), (1149, .iload 4, 1151, 0, 0, 0, nn), (1151, .iconst (3), 1152, 0, 0, 0, nn), (1152, .iadd, 1153, 0, 0, 0, nn), (1153, .iaload, 1154, 0, 0, 0, nn), (1154, .invokevirtual 143, 1157, 0, 0, 28880, y_mo_due), (1157, .if_icmp .eq (1040), 1160, 2197, 0, 0, nn), (1160, .iconst (0), 1161, 0, 0, 0, nn), (1161, .ireturn, 1162, 0, 0, 0, nn)]
set_option maxRecDepth 100000 in
theorem lg_due : lT_due.all (chkE (lawT lT_due)) = true := by decide +kernel
set_option maxRecDepth 20000 in
theorem law_due {Δ : DT} {Γ : FT} {n : Nat} {xs : Nat → Int32} (SC : SCR Δ Γ n xs) : LCASE Δ Γ n xs 1113 := by
  intro i B M c s h0 h6 hR hB hc hs k
  obtain ⟨p, hp, q, hq, he, hR2⟩ := c_due hR (by omega) (xs (i + 1).toNat).toInt (xs (i + 2).toNat).toInt (xs (i + 3).toNat).toInt
  refine w_wid (c + 1) (s + 6) (by omega) (by omega) ?_
  refine w_re (T' := lT_due) lg_due ?_
  refine w_aload_n rfl rfl ?_
  refine w_scr SC rfl rfl rfl rfl rfl rfl ⟨h0, by decide, by omega⟩ ?_
  refine w_scr SC rfl rfl rfl rfl rfl rfl ⟨h0, by decide, by omega⟩ ?_
  refine w_scr SC rfl rfl rfl rfl rfl rfl ⟨h0, by decide, by omega⟩ ?_
  refine l_call (as := [vI (xs (i + 1).toNat).toInt, vI (xs (i + 2).toNat).toInt, vI (xs (i + 3).toNat).toInt]) (st := []) (d := 1000) rfl (fun ho hM => cal_dh_due (by decide) hp ho hM) v_dh_due (Nat.le_of_ble_eq_true rfl) S_0 rfl (Nat.le_of_ble_eq_true rfl) ⟨hc, hs⟩ ?_
  refine w_aload_n rfl rfl ?_
  refine w_scr SC rfl rfl rfl rfl rfl rfl ⟨h0, by decide, by omega⟩ ?_
  refine w_scr SC rfl rfl rfl rfl rfl rfl ⟨h0, by decide, by omega⟩ ?_
  refine w_scr SC rfl rfl rfl rfl rfl rfl ⟨h0, by decide, by omega⟩ ?_
  refine l_call (as := [vI (xs (i + 1).toNat).toInt, vI (xs (i + 2).toNat).toInt, vI (xs (i + 3).toNat).toInt]) (st := [vI p.1]) (d := 1000) rfl (fun ho hM => cal_mo_due (by decide) hq ho hM) v_mo_due (Nat.le_of_ble_eq_true rfl) S_278 rfl (Nat.le_of_ble_eq_true rfl) ⟨hc, hs⟩ ?_
  refine s_icmp_eq_t rfl he.symm ?_
  exact w_re rfl (k q.2 (hR2.wide (by omega)))
def lT_owes : List ENT := [(1162, .aload_n 1, 1163, 0, 0, 0, nn), (1163, .aload_n 0, 1164, 0, 0, 0, nn), (1164, .iload 4, 1166, 0, 0, 0, nn), (1166, .iconst (1), 1167, 0, 0, 0, nn), (1167, .iadd, 1168, 0, 0, 0, nn), (1168, .iaload, 1169, 0, 0, 0, nn), (1169, .aload_n 0, 1170, 0, 0, 0, nn), (1170, .iload 4, 1172, 0, 0, 0, nn), (1172, .iconst (2), 1173, 0, 0, 0, nn), (1173, .iadd, 1174, 0, 0, 0, nn), (1174, .iaload, 1175, 0, 0, 0, nn), (1175, .aload_n 0, 1176, 0, 0, 0, nn), (1176, .iload 4, 1178, 0, 0, 0, nn), (1178, .iconst (3), 1179, 0, 0, 0, nn), (1179, .iadd, 1180, 0, 0, 0, nn), (1180, .iaload, 1181, 0, 0, 0, nn), (1181, .invokevirtual 144, 1184, 0, 0, 16592, y_dh_owes), (1184, .aload_n 2, 1185, 0, 0, 0, nn), (1185, .aload_n 0, 1186, 0, 0, 0, nn), (1186, .iload 4, 1188, 0, 0, 0, nn), (1188, .iconst (1), 1189, 0, 0, 0, nn), (1189, .iadd, 1190, 0, 0, 0, nn), (1190, .iaload, 1191, 0, 0, 0, nn), (1191, .aload_n 0, 1192, 0, 0, 0, nn), (1192, .iload 4, 1194, 0, 0, 0, nn), (1194, .iconst (2), 1195, 0, 0, 0, nn), (1195, .iadd, 1196, 0, 0, 0, nn), (1196, .iaload, 1197, 0, 0, 0, nn), (1197, .aload_n 0, 1198, 0, 0, 0, nn), (1198, .iload 4, 1200, 0, 0, 0, nn), (1200, .iconst (3), 1201, 0, 0, 0, nn), (1201, .iadd, 1202, 0, 0, 0, nn), (1202, .iaload, 1203, 0, 0, 0, nn), (1203, .invokevirtual 147, 1206, 0, 0, 28895, y_mo_owes), (1206, .if_icmp .eq (991), 1209, 2197, 0, 0, nn), (1209, .iconst (0), 1210, 0, 0, 0, nn), (1210, .ireturn, 1211, 0, 0, 0, nn)]
set_option maxRecDepth 100000 in
theorem lg_owes : lT_owes.all (chkE (lawT lT_owes)) = true := by decide +kernel
set_option maxRecDepth 20000 in
theorem law_owes {Δ : DT} {Γ : FT} {n : Nat} {xs : Nat → Int32} (SC : SCR Δ Γ n xs) : LCASE Δ Γ n xs 1162 := by
  intro i B M c s h0 h6 hR hB hc hs k
  obtain ⟨p, hp, q, hq, he, hR2⟩ := c_owes hR (by omega) (xs (i + 1).toNat).toInt (xs (i + 2).toNat).toInt (xs (i + 3).toNat).toInt
  refine w_wid (c + 1) (s + 6) (by omega) (by omega) ?_
  refine w_re (T' := lT_owes) lg_owes ?_
  refine w_aload_n rfl rfl ?_
  refine w_scr SC rfl rfl rfl rfl rfl rfl ⟨h0, by decide, by omega⟩ ?_
  refine w_scr SC rfl rfl rfl rfl rfl rfl ⟨h0, by decide, by omega⟩ ?_
  refine w_scr SC rfl rfl rfl rfl rfl rfl ⟨h0, by decide, by omega⟩ ?_
  refine l_call (as := [vI (xs (i + 1).toNat).toInt, vI (xs (i + 2).toNat).toInt, vI (xs (i + 3).toNat).toInt]) (st := []) (d := 1000) rfl (fun ho hM => cal_dh_owes (by decide) hp ho hM) v_dh_owes (Nat.le_of_ble_eq_true rfl) S_0 rfl (Nat.le_of_ble_eq_true rfl) ⟨hc, hs⟩ ?_
  refine w_aload_n rfl rfl ?_
  refine w_scr SC rfl rfl rfl rfl rfl rfl ⟨h0, by decide, by omega⟩ ?_
  refine w_scr SC rfl rfl rfl rfl rfl rfl ⟨h0, by decide, by omega⟩ ?_
  refine w_scr SC rfl rfl rfl rfl rfl rfl ⟨h0, by decide, by omega⟩ ?_
  refine l_call (as := [vI (xs (i + 1).toNat).toInt, vI (xs (i + 2).toNat).toInt, vI (xs (i + 3).toNat).toInt]) (st := [vI p.1]) (d := 1000) rfl (fun ho hM => cal_mo_owes (by decide) hq ho hM) v_mo_owes (Nat.le_of_ble_eq_true rfl) S_278 rfl (Nat.le_of_ble_eq_true rfl) ⟨hc, hs⟩ ?_
  refine s_icmp_eq_t rfl he.symm ?_
  exact w_re rfl (k q.2 (hR2.wide (by omega)))
def lT_reading : List ENT := [(1211, .aload_n 1, 1212, 0, 0, 0, nn), (1212, .aload_n 0, 1213, 0, 0, 0, nn), (1213, .iload 4, 1215, 0, 0, 0, nn), (1215, .iconst (1), 1216, 0, 0, 0, nn), (1216, .iadd, 1217, 0, 0, 0, nn), (1217, .iaload, 1218, 0, 0, 0, nn), (1218, .aload_n 0, 1219, 0, 0, 0, nn), (1219, .iload 4, 1221, 0, 0, 0, nn), (1221, .iconst (2), 1222, 0, 0, 0, nn), (1222, .iadd, 1223, 0, 0, 0, nn), (1223, .iaload, 1224, 0, 0, 0, nn), (1224, .invokevirtual 148, 1227, 0, 0, 16613, y_dh_reading), (1227, .aload_n 2, 1228, 0, 0, 0, nn), (1228, .aload_n 0, 1229, 0, 0, 0, nn), (1229, .iload 4, 1231, 0, 0, 0, nn), (1231, .iconst (1), 1232, 0, 0, 0, nn), (1232, .iadd, 1233, 0, 0, 0, nn), (1233, .iaload, 1234, 0, 0, 0, nn), (1234, .aload_n 0, 1235, 0, 0, 0, nn), (1235, .iload 4, 1237, 0, 0, 0, nn), (1237, .iconst (2), 1238, 0, 0, 0, nn), (1238, .iadd, 1239, 0, 0, 0, nn), (1239, .iaload, 1240, 0, 0, 0, nn), (1240, .invokevirtual 151, 1243, 0, 0, 28903, y_mo_reading), (1243, .if_icmp .eq (954), 1246, 2197, 0, 0, nn), (1246, .iconst (0), 1247, 0, 0, 0, nn), (1247, .ireturn, 1248, 0, 0, 0, nn)]
set_option maxRecDepth 100000 in
theorem lg_reading : lT_reading.all (chkE (lawT lT_reading)) = true := by decide +kernel
set_option maxRecDepth 20000 in
theorem law_reading {Δ : DT} {Γ : FT} {n : Nat} {xs : Nat → Int32} (SC : SCR Δ Γ n xs) : LCASE Δ Γ n xs 1211 := by
  intro i B M c s h0 h6 hR hB hc hs k
  obtain ⟨p, hp, q, hq, he, hR2⟩ := c_reading hR (by omega) (xs (i + 1).toNat).toInt (xs (i + 2).toNat).toInt
  refine w_wid (c + 1) (s + 6) (by omega) (by omega) ?_
  refine w_re (T' := lT_reading) lg_reading ?_
  refine w_aload_n rfl rfl ?_
  refine w_scr SC rfl rfl rfl rfl rfl rfl ⟨h0, by decide, by omega⟩ ?_
  refine w_scr SC rfl rfl rfl rfl rfl rfl ⟨h0, by decide, by omega⟩ ?_
  refine l_call (as := [vI (xs (i + 1).toNat).toInt, vI (xs (i + 2).toNat).toInt]) (st := []) (d := 1000) rfl (fun ho hM => cal_dh_reading (by decide) hp ho hM) v_dh_reading (Nat.le_of_ble_eq_true rfl) S_0 rfl (Nat.le_of_ble_eq_true rfl) ⟨hc, hs⟩ ?_
  refine w_aload_n rfl rfl ?_
  refine w_scr SC rfl rfl rfl rfl rfl rfl ⟨h0, by decide, by omega⟩ ?_
  refine w_scr SC rfl rfl rfl rfl rfl rfl ⟨h0, by decide, by omega⟩ ?_
  refine l_call (as := [vI (xs (i + 1).toNat).toInt, vI (xs (i + 2).toNat).toInt]) (st := [vI p.1]) (d := 1000) rfl (fun ho hM => cal_mo_reading (by decide) hq ho hM) v_mo_reading (Nat.le_of_ble_eq_true rfl) S_278 rfl (Nat.le_of_ble_eq_true rfl) ⟨hc, hs⟩ ?_
  refine s_icmp_eq_t rfl he.symm ?_
  exact w_re rfl (k q.2 (hR2.wide (by omega)))
def lT_mildest : List ENT := [(1248, .aload_n 1, 1249, 0, 0, 0, nn), (1249, .aload_n 0, 1250, 0, 0, 0, nn), (1250, .iload 4, 1252, 0, 0, 0, nn), (1252, .iconst (1), 1253, 0, 0, 0, nn), (1253, .iadd, 1254, 0, 0, 0, nn), (1254, .iaload, 1255, 0, 0, 0, nn), (1255, .invokevirtual 152, 1258, 0, 0, 16623, y_dh_mildest), (1258, .aload_n 2, 1259, 0, 0, 0, nn), (1259, .aload_n 0, 1260, 0, 0, 0, nn), (1260, .iload 4, 1262, 0, 0, 0, nn), (1262, .iconst (1), 1263, 0, 0, 0, nn), (1263, .iadd, 1264, 0, 0, 0, nn), (1264, .iaload, 1265, 0, 0, 0, nn), (1265, .invokevirtual 155, 1268, 0, 0, 28911, y_mo_mildest), (1268, .if_icmp .eq (929), 1271, 2197, 0, 0, nn), (1271, .iconst (0), 1272, 0, 0, 0, nn), (1272, .ireturn, 1273, 0, 0, 0, nn)]
set_option maxRecDepth 100000 in
theorem lg_mildest : lT_mildest.all (chkE (lawT lT_mildest)) = true := by decide +kernel
set_option maxRecDepth 20000 in
theorem law_mildest {Δ : DT} {Γ : FT} {n : Nat} {xs : Nat → Int32} (SC : SCR Δ Γ n xs) : LCASE Δ Γ n xs 1248 := by
  intro i B M c s h0 h6 hR hB hc hs k
  obtain ⟨p, hp, q, hq, he, hR2⟩ := c_mildest hR (by omega) (xs (i + 1).toNat).toInt
  refine w_wid (c + 1) (s + 6) (by omega) (by omega) ?_
  refine w_re (T' := lT_mildest) lg_mildest ?_
  refine w_aload_n rfl rfl ?_
  refine w_scr SC rfl rfl rfl rfl rfl rfl ⟨h0, by decide, by omega⟩ ?_
  refine l_call (as := [vI (xs (i + 1).toNat).toInt]) (st := []) (d := 1000) rfl (fun ho hM => cal_dh_mildest (by decide) hp ho hM) v_dh_mildest (Nat.le_of_ble_eq_true rfl) S_0 rfl (Nat.le_of_ble_eq_true rfl) ⟨hc, hs⟩ ?_
  refine w_aload_n rfl rfl ?_
  refine w_scr SC rfl rfl rfl rfl rfl rfl ⟨h0, by decide, by omega⟩ ?_
  refine l_call (as := [vI (xs (i + 1).toNat).toInt]) (st := [vI p.1]) (d := 1000) rfl (fun ho hM => cal_mo_mildest (by decide) hq ho hM) v_mo_mildest (Nat.le_of_ble_eq_true rfl) S_278 rfl (Nat.le_of_ble_eq_true rfl) ⟨hc, hs⟩ ?_
  refine s_icmp_eq_t rfl he.symm ?_
  exact w_re rfl (k q.2 (hR2.wide (by omega)))
def lT_leave : List ENT := [(1273, .aload_n 1, 1274, 0, 0, 0, nn), (1274, .aload_n 0, 1275, 0, 0, 0, nn), (1275, .iload 4, 1277, 0, 0, 0, nn), (1277, .iconst (1), 1278, 0, 0, 0, nn), (1278, .iadd, 1279, 0, 0, 0, nn), (1279, .iaload, 1280, 0, 0, 0, nn), (1280, .aload_n 0, 1281, 0, 0, 0, nn), (1281, .iload 4, 1283, 0, 0, 0, nn), (1283, .iconst (2), 1284, 0, 0, 0, nn), (1284, .iadd, 1285, 0, 0, 0, nn), (1285, .iaload, 1286, 0, 0, 0, nn), (1286, .aload_n 0, 1287, 0, 0, 0, nn), (1287, .iload 4, 1289, 0, 0, 0, nn), (1289, .iconst (3), 1290, 0, 0, 0, nn), (1290, .iadd, 1291, 0, 0, 0, nn), (1291, .iaload, 1292, 0, 0, 0, nn), (1292, .invokevirtual 156, 1295, 0, 0, 20489, y_dh_leave), (1295, .aload_n 2, 1296, 0, 0, 0, nn), (1296, .aload_n 0, 1297, 0, 0, 0, nn), (1297, .iload 4, 1299, 0, 0, 0, nn), (1299, .iconst (1), 1300, 0, 0, 0, nn), (1300, .iadd, 1301, 0, 0, 0, nn), (1301, .iaload, 1302, 0, 0, 0, nn), (1302, .aload_n 0, 1303, 0, 0, 0, nn), (1303, .iload 4, 1305, 0, 0, 0, nn), (1305, .iconst (2), 1306, 0, 0, 0, nn), (1306, .iadd, 1307, 0, 0, 0, nn), (1307, .iaload, 1308, 0, 0, 0, nn), (1308, .aload_n 0, 1309, 0, 0, 0, nn), (1309, .iload 4, 1311, 0, 0, 0, nn), (1311, .iconst (3), 1312, 0, 0, 0, nn), (1312, .iadd, 1313, 0, 0, 0, nn), (1313, .iaload, 1314, 0, 0, 0, nn), (1314, .invokevirtual 159, 1317, 0, 0, 32773, y_mo_leave), (1317, .if_icmp .eq (880), 1320, 2197, 0, 0, nn), (1320, .iconst (0), 1321, 0, 0, 0, nn), (1321, .ireturn, 1322, 0, 0, 0, nn)]
set_option maxRecDepth 100000 in
theorem lg_leave : lT_leave.all (chkE (lawT lT_leave)) = true := by decide +kernel
set_option maxRecDepth 20000 in
theorem law_leave {Δ : DT} {Γ : FT} {n : Nat} {xs : Nat → Int32} (SC : SCR Δ Γ n xs) : LCASE Δ Γ n xs 1273 := by
  intro i B M c s h0 h6 hR hB hc hs k
  obtain ⟨p, hp, q, hq, he, hR2⟩ := c_leave hR (by omega) (xs (i + 1).toNat).toInt (xs (i + 2).toNat).toInt (xs (i + 3).toNat).toInt
  refine w_wid (c + 1) (s + 6) (by omega) (by omega) ?_
  refine w_re (T' := lT_leave) lg_leave ?_
  refine w_aload_n rfl rfl ?_
  refine w_scr SC rfl rfl rfl rfl rfl rfl ⟨h0, by decide, by omega⟩ ?_
  refine w_scr SC rfl rfl rfl rfl rfl rfl ⟨h0, by decide, by omega⟩ ?_
  refine w_scr SC rfl rfl rfl rfl rfl rfl ⟨h0, by decide, by omega⟩ ?_
  refine l_call (as := [vI (xs (i + 1).toNat).toInt, vI (xs (i + 2).toNat).toInt, vI (xs (i + 3).toNat).toInt]) (st := []) (d := 1000) rfl (fun ho hM => cal_dh_leave (by decide) hp ho hM) v_dh_leave (Nat.le_of_ble_eq_true rfl) S_0 rfl (Nat.le_of_ble_eq_true rfl) ⟨hc, hs⟩ ?_
  refine w_aload_n rfl rfl ?_
  refine w_scr SC rfl rfl rfl rfl rfl rfl ⟨h0, by decide, by omega⟩ ?_
  refine w_scr SC rfl rfl rfl rfl rfl rfl ⟨h0, by decide, by omega⟩ ?_
  refine w_scr SC rfl rfl rfl rfl rfl rfl ⟨h0, by decide, by omega⟩ ?_
  refine l_call (as := [vI (xs (i + 1).toNat).toInt, vI (xs (i + 2).toNat).toInt, vI (xs (i + 3).toNat).toInt]) (st := [vI p.1]) (d := 1000) rfl (fun ho hM => cal_mo_leave (by decide) hq ho hM) v_mo_leave (Nat.le_of_ble_eq_true rfl) S_278 rfl (Nat.le_of_ble_eq_true rfl) ⟨hc, hs⟩ ?_
  refine s_icmp_eq_t rfl he.symm ?_
  exact w_re rfl (k q.2 (hR2.wide (by omega)))
def lT_sure : List ENT := [(1322, .aload_n 1, 1323, 0, 0, 0, nn), (1323, .aload_n 0, 1324, 0, 0, 0, nn), (1324, .iload 4, 1326, 0, 0, 0, nn), (1326, .iconst (1), 1327, 0, 0, 0, nn), (1327, .iadd, 1328, 0, 0, 0, nn), (1328, .iaload, 1329, 0, 0, 0, nn), (1329, .aload_n 0, 1330, 0, 0, 0, nn), (1330, .iload 4, 1332, 0, 0, 0, nn), (1332, .iconst (2), 1333, 0, 0, 0, nn), (1333, .iadd, 1334, 0, 0, 0, nn), (1334, .iaload, 1335, 0, 0, 0, nn), (1335, .aload_n 0, 1336, 0, 0, 0, nn), (1336, .iload 4, 1338, 0, 0, 0, nn), (1338, .iconst (3), 1339, 0, 0, 0, nn), (1339, .iadd, 1340, 0, 0, 0, nn), (1340, .iaload, 1341, 0, 0, 0, nn), (1341, .aload_n 0, 1342, 0, 0, 0, nn), (1342, .iload 4, 1344, 0, 0, 0, nn), (1344, .iconst (4), 1345, 0, 0, 0, nn), (1345, .iadd, 1346, 0, 0, 0, nn), (1346, .iaload, 1347, 0, 0, 0, nn), (1347, .invokevirtual 160, 1350, 0, 0, 20504, y_dh_sure), (1350, .aload_n 2, 1351, 0, 0, 0, nn), (1351, .aload_n 0, 1352, 0, 0, 0, nn), (1352, .iload 4, 1354, 0, 0, 0, nn), (1354, .iconst (1), 1355, 0, 0, 0, nn), (1355, .iadd, 1356, 0, 0, 0, nn), (1356, .iaload, 1357, 0, 0, 0, nn), (1357, .aload_n 0, 1358, 0, 0, 0, nn), (1358, .iload 4, 1360, 0, 0, 0, nn), (1360, .iconst (2), 1361, 0, 0, 0, nn), (1361, .iadd, 1362, 0, 0, 0, nn), (1362, .iaload, 1363, 0, 0, 0, nn), (1363, .aload_n 0, 1364, 0, 0, 0, nn), (1364, .iload 4, 1366, 0, 0, 0, nn), (1366, .iconst (3), 1367, 0, 0, 0, nn), (1367, .iadd, 1368, 0, 0, 0, nn), (1368, .iaload, 1369, 0, 0, 0, nn), (1369, .aload_n 0, 1370, 0, 0, 0, nn), (1370, .iload 4, 1372, 0, 0, 0, nn), (1372, .iconst (4), 1373, 0, 0, 0, nn), (1373, .iadd, 1374, 0, 0, 0, nn), (1374, .iaload, 1375, 0, 0, 0, nn), (1375, .invokevirtual 163, 1378, 0, 0, 32785, y_mo_sure), (1378, .if_icmp .eq (819), 1381, 2197, 0, 0, nn), (1381, .iconst (0), 1382, 0, 0, 0, nn), (1382, .ireturn, 1383, 0, 0, 0, nn)]
set_option maxRecDepth 100000 in
theorem lg_sure : lT_sure.all (chkE (lawT lT_sure)) = true := by decide +kernel
set_option maxRecDepth 20000 in
theorem law_sure {Δ : DT} {Γ : FT} {n : Nat} {xs : Nat → Int32} (SC : SCR Δ Γ n xs) : LCASE Δ Γ n xs 1322 := by
  intro i B M c s h0 h6 hR hB hc hs k
  obtain ⟨p, hp, q, hq, he, hR2⟩ := c_sure hR (by omega) (xs (i + 1).toNat).toInt (xs (i + 2).toNat).toInt (xs (i + 3).toNat).toInt (xs (i + 4).toNat).toInt
  refine w_wid (c + 1) (s + 6) (by omega) (by omega) ?_
  refine w_re (T' := lT_sure) lg_sure ?_
  refine w_aload_n rfl rfl ?_
  refine w_scr SC rfl rfl rfl rfl rfl rfl ⟨h0, by decide, by omega⟩ ?_
  refine w_scr SC rfl rfl rfl rfl rfl rfl ⟨h0, by decide, by omega⟩ ?_
  refine w_scr SC rfl rfl rfl rfl rfl rfl ⟨h0, by decide, by omega⟩ ?_
  refine w_scr SC rfl rfl rfl rfl rfl rfl ⟨h0, by decide, by omega⟩ ?_
  refine l_call (as := [vI (xs (i + 1).toNat).toInt, vI (xs (i + 2).toNat).toInt, vI (xs (i + 3).toNat).toInt, vI (xs (i + 4).toNat).toInt]) (st := []) (d := 1000) rfl (fun ho hM => cal_dh_sure (by decide) hp ho hM) v_dh_sure (Nat.le_of_ble_eq_true rfl) S_0 rfl (Nat.le_of_ble_eq_true rfl) ⟨hc, hs⟩ ?_
  refine w_aload_n rfl rfl ?_
  refine w_scr SC rfl rfl rfl rfl rfl rfl ⟨h0, by decide, by omega⟩ ?_
  refine w_scr SC rfl rfl rfl rfl rfl rfl ⟨h0, by decide, by omega⟩ ?_
  refine w_scr SC rfl rfl rfl rfl rfl rfl ⟨h0, by decide, by omega⟩ ?_
  refine w_scr SC rfl rfl rfl rfl rfl rfl ⟨h0, by decide, by omega⟩ ?_
  refine l_call (as := [vI (xs (i + 1).toNat).toInt, vI (xs (i + 2).toNat).toInt, vI (xs (i + 3).toNat).toInt, vI (xs (i + 4).toNat).toInt]) (st := [vI p.1]) (d := 1000) rfl (fun ho hM => cal_mo_sure (by decide) hq ho hM) v_mo_sure (Nat.le_of_ble_eq_true rfl) S_278 rfl (Nat.le_of_ble_eq_true rfl) ⟨hc, hs⟩ ?_
  refine s_icmp_eq_t rfl he.symm ?_
  exact w_re rfl (k q.2 (hR2.wide (by omega)))
def lT_missed : List ENT := [(1383, .aload_n 1, 1384, 0, 0, 0, nn), (1384, .aload_n 0, 1385, 0, 0, 0, nn), (1385, .iload 4, 1387, 0, 0, 0, nn), (1387, .iconst (1), 1388, 0, 0, 0, nn), (1388, .iadd, 1389, 0, 0, 0, nn), (1389, .iaload, 1390, 0, 0, 0, nn), (1390, .aload_n 0, 1391, 0, 0, 0, nn), (1391, .iload 4, 1393, 0, 0, 0, nn), (1393, .iconst (2), 1394, 0, 0, 0, nn), (1394, .iadd, 1395, 0, 0, 0, nn), (1395, .iaload, 1396, 0, 0, 0, nn), (1396, .aload_n 0, 1397, 0, 0, 0, nn), (1397, .iload 4, 1399, 0, 0, 0, nn), (1399, .iconst (3), 1400, 0, 0, 0, nn), (1400, .iadd, 1401, 0, 0, 0, nn), (1401, .iaload, 1402, 0, 0, 0, nn), (1402, .aload_n 0, 1403, 0, 0, 0, nn), (1403, .iload 4, 1405, 0, 0, 0, nn), (1405, .iconst (4), 1406, 0, 0, 0, nn), (1406, .iadd, 1407, 0, 0, 0, nn), (1407, .iaload, 1408, 0, 0, 0, nn), (1408, .invokevirtual 164, 1411, 0, 0, 20512, y_dh_missed), (1411, .aload_n 2, 1412, 0, 0, 0, nn), (1412, .aload_n 0, 1413, 0, 0, 0, nn), (1413, .iload 4, 1415, 0, 0, 0, nn), (1415, .iconst (1), 1416, 0, 0, 0, nn), (1416, .iadd, 1417, 0, 0, 0, nn), (1417, .iaload, 1418, 0, 0, 0, nn), (1418, .aload_n 0, 1419, 0, 0, 0, nn), (1419, .iload 4, 1421, 0, 0, 0, nn), (1421, .iconst (2), 1422, 0, 0, 0, nn), (1422, .iadd, 1423, 0, 0, 0, nn), (1423, .iaload, 1424, 0, 0, 0, nn), (1424, .aload_n 0, 1425, 0, 0, 0, nn), (1425, .iload 4, 1427, 0, 0, 0, nn), (1427, .iconst (3), 1428, 0, 0, 0, nn), (1428, .iadd, 1429, 0, 0, 0, nn), (1429, .iaload, 1430, 0, 0, 0, nn), (1430, .aload_n 0, 1431, 0, 0, 0, nn), (1431, .iload 4, 1433, 0, 0, 0, nn), (1433, .iconst (4), 1434, 0, 0, 0, nn), (1434, .iadd, 1435, 0, 0, 0, nn), (1435, .iaload, 1436, 0, 0, 0, nn), (1436, .invokevirtual 167, 1439, 0, 0, 32789, y_mo_missed), (1439, .if_icmp .eq (758), 1442, 2197, 0, 0, nn), (1442, .iconst (0), 1443, 0, 0, 0, nn), (1443, .ireturn, 1444, 0, 0, 0, nn)]
set_option maxRecDepth 100000 in
theorem lg_missed : lT_missed.all (chkE (lawT lT_missed)) = true := by decide +kernel
set_option maxRecDepth 20000 in
theorem law_missed {Δ : DT} {Γ : FT} {n : Nat} {xs : Nat → Int32} (SC : SCR Δ Γ n xs) : LCASE Δ Γ n xs 1383 := by
  intro i B M c s h0 h6 hR hB hc hs k
  obtain ⟨p, hp, q, hq, he, hR2⟩ := c_missed hR (by omega) (xs (i + 1).toNat).toInt (xs (i + 2).toNat).toInt (xs (i + 3).toNat).toInt (xs (i + 4).toNat).toInt
  refine w_wid (c + 1) (s + 6) (by omega) (by omega) ?_
  refine w_re (T' := lT_missed) lg_missed ?_
  refine w_aload_n rfl rfl ?_
  refine w_scr SC rfl rfl rfl rfl rfl rfl ⟨h0, by decide, by omega⟩ ?_
  refine w_scr SC rfl rfl rfl rfl rfl rfl ⟨h0, by decide, by omega⟩ ?_
  refine w_scr SC rfl rfl rfl rfl rfl rfl ⟨h0, by decide, by omega⟩ ?_
  refine w_scr SC rfl rfl rfl rfl rfl rfl ⟨h0, by decide, by omega⟩ ?_
  refine l_call (as := [vI (xs (i + 1).toNat).toInt, vI (xs (i + 2).toNat).toInt, vI (xs (i + 3).toNat).toInt, vI (xs (i + 4).toNat).toInt]) (st := []) (d := 1000) rfl (fun ho hM => cal_dh_missed (by decide) hp ho hM) v_dh_missed (Nat.le_of_ble_eq_true rfl) S_0 rfl (Nat.le_of_ble_eq_true rfl) ⟨hc, hs⟩ ?_
  refine w_aload_n rfl rfl ?_
  refine w_scr SC rfl rfl rfl rfl rfl rfl ⟨h0, by decide, by omega⟩ ?_
  refine w_scr SC rfl rfl rfl rfl rfl rfl ⟨h0, by decide, by omega⟩ ?_
  refine w_scr SC rfl rfl rfl rfl rfl rfl ⟨h0, by decide, by omega⟩ ?_
  refine w_scr SC rfl rfl rfl rfl rfl rfl ⟨h0, by decide, by omega⟩ ?_
  refine l_call (as := [vI (xs (i + 1).toNat).toInt, vI (xs (i + 2).toNat).toInt, vI (xs (i + 3).toNat).toInt, vI (xs (i + 4).toNat).toInt]) (st := [vI p.1]) (d := 1000) rfl (fun ho hM => cal_mo_missed (by decide) hq ho hM) v_mo_missed (Nat.le_of_ble_eq_true rfl) S_278 rfl (Nat.le_of_ble_eq_true rfl) ⟨hc, hs⟩ ?_
  refine s_icmp_eq_t rfl he.symm ?_
  exact w_re rfl (k q.2 (hR2.wide (by omega)))
def lT_bribe : List ENT := [(1444, .aload_n 1, 1445, 0, 0, 0, nn), (1445, .aload_n 0, 1446, 0, 0, 0, nn), (1446, .iload 4, 1448, 0, 0, 0, nn), (1448, .iconst (1), 1449, 0, 0, 0, nn), (1449, .iadd, 1450, 0, 0, 0, nn), (1450, .iaload, 1451, 0, 0, 0, nn), (1451, .aload_n 0, 1452, 0, 0, 0, nn), (1452, .iload 4, 1454, 0, 0, 0, nn), (1454, .iconst (2), 1455, 0, 0, 0, nn), (1455, .iadd, 1456, 0, 0, 0, nn), (1456, .iaload, 1457, 0, 0, 0, nn), (1457, .aload_n 0, 1458, 0, 0, 0, nn), (1458, .iload 4, 1460, 0, 0, 0, nn), (1460, .iconst (3), 1461, 0, 0, 0, nn), (1461, .iadd, 1462, 0, 0, 0, nn), (1462, .iaload, 1463, 0, 0, 0, nn), (1463, .invokevirtual 168, 1466, 0, 0, 20516, y_dh_bribe), (1466, .aload_n 2, 1467, 0, 0, 0, nn), (1467, .aload_n 0, 1468, 0, 0, 0, nn), (1468, .iload 4, 1470, 0, 0, 0, nn), (1470, .iconst (1), 1471, 0, 0, 0, nn), (1471, .iadd, 1472, 0, 0, 0, nn), (1472, .iaload, 1473, 0, 0, 0, nn), (1473, .aload_n 0, 1474, 0, 0, 0, nn), (1474, .iload 4, 1476, 0, 0, 0, nn), (1476, .iconst (2), 1477, 0, 0, 0, nn), (1477, .iadd, 1478, 0, 0, 0, nn), (1478, .iaload, 1479, 0, 0, 0, nn), (1479, .aload_n 0, 1480, 0, 0, 0, nn), (1480, .iload 4, 1482, 0, 0, 0, nn), (1482, .iconst (3), 1483, 0, 0, 0, nn), (1483, .iadd, 1484, 0, 0, 0, nn), (1484, .iaload, 1485, 0, 0, 0, nn), (1485, .invokevirtual 171, 1488, 0, 0, 32793, y_mo_bribe), (1488, .if_icmp .eq (709), 1491, 2197, 0, 0, nn), (1491, .iconst (0), 1492, 0, 0, 0, nn), (1492, .ireturn, 1493, 0, 0, 0, nn)]
set_option maxRecDepth 100000 in
theorem lg_bribe : lT_bribe.all (chkE (lawT lT_bribe)) = true := by decide +kernel
set_option maxRecDepth 20000 in
theorem law_bribe {Δ : DT} {Γ : FT} {n : Nat} {xs : Nat → Int32} (SC : SCR Δ Γ n xs) : LCASE Δ Γ n xs 1444 := by
  intro i B M c s h0 h6 hR hB hc hs k
  obtain ⟨p, hp, q, hq, he, hR2⟩ := c_bribe hR (by omega) (xs (i + 1).toNat).toInt (xs (i + 2).toNat).toInt (xs (i + 3).toNat).toInt
  refine w_wid (c + 1) (s + 6) (by omega) (by omega) ?_
  refine w_re (T' := lT_bribe) lg_bribe ?_
  refine w_aload_n rfl rfl ?_
  refine w_scr SC rfl rfl rfl rfl rfl rfl ⟨h0, by decide, by omega⟩ ?_
  refine w_scr SC rfl rfl rfl rfl rfl rfl ⟨h0, by decide, by omega⟩ ?_
  refine w_scr SC rfl rfl rfl rfl rfl rfl ⟨h0, by decide, by omega⟩ ?_
  refine l_call (as := [vI (xs (i + 1).toNat).toInt, vI (xs (i + 2).toNat).toInt, vI (xs (i + 3).toNat).toInt]) (st := []) (d := 1000) rfl (fun ho hM => cal_dh_bribe (by decide) hp ho hM) v_dh_bribe (Nat.le_of_ble_eq_true rfl) S_0 rfl (Nat.le_of_ble_eq_true rfl) ⟨hc, hs⟩ ?_
  refine w_aload_n rfl rfl ?_
  refine w_scr SC rfl rfl rfl rfl rfl rfl ⟨h0, by decide, by omega⟩ ?_
  refine w_scr SC rfl rfl rfl rfl rfl rfl ⟨h0, by decide, by omega⟩ ?_
  refine w_scr SC rfl rfl rfl rfl rfl rfl ⟨h0, by decide, by omega⟩ ?_
  refine l_call (as := [vI (xs (i + 1).toNat).toInt, vI (xs (i + 2).toNat).toInt, vI (xs (i + 3).toNat).toInt]) (st := [vI p.1]) (d := 1000) rfl (fun ho hM => cal_mo_bribe (by decide) hq ho hM) v_mo_bribe (Nat.le_of_ble_eq_true rfl) S_278 rfl (Nat.le_of_ble_eq_true rfl) ⟨hc, hs⟩ ?_
  refine s_icmp_eq_t rfl he.symm ?_
  exact w_re rfl (k q.2 (hR2.wide (by omega)))
def lT_rests : List ENT := [(1493, .aload_n 1, 1494, 0, 0, 0, nn), (1494, .aload_n 0, 1495, 0, 0, 0, nn), (1495, .iload 4, 1497, 0, 0, 0, nn), (1497, .iconst (1), 1498, 0, 0, 0, nn), (1498, .iadd, 1499, 0, 0, 0, nn), (1499, .iaload, 1500, 0, 0, 0, nn), (1500, .aload_n 0, 1501, 0, 0, 0, nn), (1501, .iload 4, 1503, 0, 0, 0, nn), (1503, .iconst (2), 1504, 0, 0, 0, nn), (1504, .iadd, 1505, 0, 0, 0, nn), (1505, .iaload, 1506, 0, 0, 0, nn), (1506, .aload_n 0, 1507, 0, 0, 0, nn), (1507, .iload 4, 1509, 0, 0, 0, nn), (1509, .iconst (3), 1510, 0, 0, 0, nn), (1510, .iadd, 1511, 0, 0, 0, nn), (1511, .iaload, 1512, 0, 0, 0, nn), (1512, .invokevirtual 172, 1515, 0, 0, 20539, y_dh_rests), (1515, .aload_n 2, 1516, 0, 0, 0, nn), (1516, .aload_n 0, 1517, 0, 0, 0, nn), (1517, .iload 4, 1519, 0, 0, 0, nn), (1519, .iconst (1), 1520, 0, 0, 0, nn), (1520, .iadd, 1521, 0, 0, 0, nn), (1521, .iaload, 1522, 0, 0, 0, nn), (1522, .aload_n 0, 1523, 0, 0, 0, nn), (1523, .iload 4, 1525, 0, 0, 0, nn), (1525, .iconst (2), 1526, 0, 0, 0, nn), (1526, .iadd, 1527, 0, 0, 0, nn), (1527, .iaload, 1528, 0, 0, 0, nn), (1528, .aload_n 0, 1529, 0, 0, 0, nn), (1529, .iload 4, 1531, 0, 0, 0, nn), (1531, .iconst (3), 1532, 0, 0, 0, nn), (1532, .iadd, 1533, 0, 0, 0, nn), (1533, .iaload, 1534, 0, 0, 0, nn), (1534, .invokevirtual 175, 1537, 0, 0, 32805, y_mo_rests), (1537, .if_icmp .eq (660), 1540, 2197, 0, 0, nn), (1540, .iconst (0), 1541, 0, 0, 0, nn), (1541, .ireturn, 1542, 0, 0, 0, nn)]
set_option maxRecDepth 100000 in
theorem lg_rests : lT_rests.all (chkE (lawT lT_rests)) = true := by decide +kernel
set_option maxRecDepth 20000 in
theorem law_rests {Δ : DT} {Γ : FT} {n : Nat} {xs : Nat → Int32} (SC : SCR Δ Γ n xs) : LCASE Δ Γ n xs 1493 := by
  intro i B M c s h0 h6 hR hB hc hs k
  obtain ⟨p, hp, q, hq, he, hR2⟩ := c_rests hR (by omega) (xs (i + 1).toNat).toInt (xs (i + 2).toNat).toInt (xs (i + 3).toNat).toInt
  refine w_wid (c + 1) (s + 6) (by omega) (by omega) ?_
  refine w_re (T' := lT_rests) lg_rests ?_
  refine w_aload_n rfl rfl ?_
  refine w_scr SC rfl rfl rfl rfl rfl rfl ⟨h0, by decide, by omega⟩ ?_
  refine w_scr SC rfl rfl rfl rfl rfl rfl ⟨h0, by decide, by omega⟩ ?_
  refine w_scr SC rfl rfl rfl rfl rfl rfl ⟨h0, by decide, by omega⟩ ?_
  refine l_call (as := [vI (xs (i + 1).toNat).toInt, vI (xs (i + 2).toNat).toInt, vI (xs (i + 3).toNat).toInt]) (st := []) (d := 1000) rfl (fun ho hM => cal_dh_rests (by decide) hp ho hM) v_dh_rests (Nat.le_of_ble_eq_true rfl) S_0 rfl (Nat.le_of_ble_eq_true rfl) ⟨hc, hs⟩ ?_
  refine w_aload_n rfl rfl ?_
  refine w_scr SC rfl rfl rfl rfl rfl rfl ⟨h0, by decide, by omega⟩ ?_
  refine w_scr SC rfl rfl rfl rfl rfl rfl ⟨h0, by decide, by omega⟩ ?_
  refine w_scr SC rfl rfl rfl rfl rfl rfl ⟨h0, by decide, by omega⟩ ?_
  refine l_call (as := [vI (xs (i + 1).toNat).toInt, vI (xs (i + 2).toNat).toInt, vI (xs (i + 3).toNat).toInt]) (st := [vI p.1]) (d := 1000) rfl (fun ho hM => cal_mo_rests (by decide) hq ho hM) v_mo_rests (Nat.le_of_ble_eq_true rfl) S_278 rfl (Nat.le_of_ble_eq_true rfl) ⟨hc, hs⟩ ?_
  refine s_icmp_eq_t rfl he.symm ?_
  exact w_re rfl (k q.2 (hR2.wide (by omega)))
def lT_bid : List ENT := [(1542, .aload_n 1, 1543, 0, 0, 0, nn), (1543, .aload_n 0, 1544, 0, 0, 0, nn), (1544, .iload 4, 1546, 0, 0, 0, nn), (1546, .iconst (1), 1547, 0, 0, 0, nn), (1547, .iadd, 1548, 0, 0, 0, nn), (1548, .iaload, 1549, 0, 0, 0, nn), (1549, .aload_n 0, 1550, 0, 0, 0, nn), (1550, .iload 4, 1552, 0, 0, 0, nn), (1552, .iconst (2), 1553, 0, 0, 0, nn), (1553, .iadd, 1554, 0, 0, 0, nn), (1554, .iaload, 1555, 0, 0, 0, nn), (1555, .aload_n 0, 1556, 0, 0, 0, nn), (1556, .iload 4, 1558, 0, 0, 0, nn), (1558, .iconst (3), 1559, 0, 0, 0, nn), (1559, .iadd, 1560, 0, 0, 0, nn), (1560, .iaload, 1561, 0, 0, 0, nn), (1561, .invokevirtual 176, 1564, 0, 0, 20551, y_dh_bid), (1564, .aload_n 2, 1565, 0, 0, 0, nn), (1565, .aload_n 0, 1566, 0, 0, 0, nn), (1566, .iload 4, 1568, 0, 0, 0, nn), (1568, .iconst (1), 1569, 0, 0, 0, nn), (1569, .iadd, 1570, 0, 0, 0, nn), (1570, .iaload, 1571, 0, 0, 0, nn), (1571, .aload_n 0, 1572, 0, 0, 0, nn), (1572, .iload 4, 1574, 0, 0, 0, nn), (1574, .iconst (2), 1575, 0, 0, 0, nn), (1575, .iadd, 1576, 0, 0, 0, nn), (1576, .iaload, 1577, 0, 0, 0, nn), (1577, .aload_n 0, 1578, 0, 0, 0, nn), (1578, .iload 4, 1580, 0, 0, 0, nn), (1580, .iconst (3), 1581, 0, 0, 0, nn), (1581, .iadd, 1582, 0, 0, 0, nn), (1582, .iaload, 1583, 0, 0, 0, nn), (1583, .invokevirtual 179, 1586, 0, 0, 32813, y_mo_bid), (1586, .if_icmp .eq (611), 1589, 2197, 0, 0, nn), (1589, .iconst (0), 1590, 0, 0, 0, nn), (1590, .ireturn, 1591, 0, 0, 0, nn)]
set_option maxRecDepth 100000 in
theorem lg_bid : lT_bid.all (chkE (lawT lT_bid)) = true := by decide +kernel
set_option maxRecDepth 20000 in
theorem law_bid {Δ : DT} {Γ : FT} {n : Nat} {xs : Nat → Int32} (SC : SCR Δ Γ n xs) : LCASE Δ Γ n xs 1542 := by
  intro i B M c s h0 h6 hR hB hc hs k
  obtain ⟨p, hp, q, hq, he, hR2⟩ := c_bid hR (by omega) (xs (i + 1).toNat).toInt (xs (i + 2).toNat).toInt (xs (i + 3).toNat).toInt
  refine w_wid (c + 1) (s + 6) (by omega) (by omega) ?_
  refine w_re (T' := lT_bid) lg_bid ?_
  refine w_aload_n rfl rfl ?_
  refine w_scr SC rfl rfl rfl rfl rfl rfl ⟨h0, by decide, by omega⟩ ?_
  refine w_scr SC rfl rfl rfl rfl rfl rfl ⟨h0, by decide, by omega⟩ ?_
  refine w_scr SC rfl rfl rfl rfl rfl rfl ⟨h0, by decide, by omega⟩ ?_
  refine l_call (as := [vI (xs (i + 1).toNat).toInt, vI (xs (i + 2).toNat).toInt, vI (xs (i + 3).toNat).toInt]) (st := []) (d := 1000) rfl (fun ho hM => cal_dh_bid (by decide) hp ho hM) v_dh_bid (Nat.le_of_ble_eq_true rfl) S_0 rfl (Nat.le_of_ble_eq_true rfl) ⟨hc, hs⟩ ?_
  refine w_aload_n rfl rfl ?_
  refine w_scr SC rfl rfl rfl rfl rfl rfl ⟨h0, by decide, by omega⟩ ?_
  refine w_scr SC rfl rfl rfl rfl rfl rfl ⟨h0, by decide, by omega⟩ ?_
  refine w_scr SC rfl rfl rfl rfl rfl rfl ⟨h0, by decide, by omega⟩ ?_
  refine l_call (as := [vI (xs (i + 1).toNat).toInt, vI (xs (i + 2).toNat).toInt, vI (xs (i + 3).toNat).toInt]) (st := [vI p.1]) (d := 1000) rfl (fun ho hM => cal_mo_bid (by decide) hq ho hM) v_mo_bid (Nat.le_of_ble_eq_true rfl) S_278 rfl (Nat.le_of_ble_eq_true rfl) ⟨hc, hs⟩ ?_
  refine s_icmp_eq_t rfl he.symm ?_
  exact w_re rfl (k q.2 (hR2.wide (by omega)))
def lT_heard : List ENT := [(1591, .aload_n 1, 1592, 0, 0, 0, nn), (1592, .aload_n 0, 1593, 0, 0, 0, nn), (1593, .iload 4, 1595, 0, 0, 0, nn), (1595, .iconst (1), 1596, 0, 0, 0, nn), (1596, .iadd, 1597, 0, 0, 0, nn), (1597, .iaload, 1598, 0, 0, 0, nn), (1598, .aload_n 0, 1599, 0, 0, 0, nn), (1599, .iload 4, 1601, 0, 0, 0, nn), (1601, .iconst (2), 1602, 0, 0, 0, nn), (1602, .iadd, 1603, 0, 0, 0, nn), (1603, .iaload, 1604, 0, 0, 0, nn), (1604, .aload_n 0, 1605, 0, 0, 0, nn), (1605, .iload 4, 1607, 0, 0, 0, nn), (1607, .iconst (3), 1608, 0, 0, 0, nn), (1608, .iadd, 1609, 0, 0, 0, nn), (1609, .iaload, 1610, 0, 0, 0, nn), (1610, .invokevirtual 180, 1613, 0, 0, 20555, y_dh_heard), (1613, .aload_n 2, 1614, 0, 0, 0, nn), (1614, .aload_n 0, 1615, 0, 0, 0, nn), (1615, .iload 4, 1617, 0, 0, 0, nn), (1617, .iconst (1), 1618, 0, 0, 0, nn), (1618, .iadd, 1619, 0, 0, 0, nn), (1619, .iaload, 1620, 0, 0, 0, nn), (1620, .aload_n 0, 1621, 0, 0, 0, nn), (1621, .iload 4, 1623, 0, 0, 0, nn), (1623, .iconst (2), 1624, 0, 0, 0, nn), (1624, .iadd, 1625, 0, 0, 0, nn), (1625, .iaload, 1626, 0, 0, 0, nn), (1626, .aload_n 0, 1627, 0, 0, 0, nn), (1627, .iload 4, 1629, 0, 0, 0, nn), (1629, .iconst (3), 1630, 0, 0, 0, nn), (1630, .iadd, 1631, 0, 0, 0, nn), (1631, .iaload, 1632, 0, 0, 0, nn), (1632, .invokevirtual 183, 1635, 0, 0, 32817, y_mo_heard), (1635, .if_icmp .eq (562), 1638, 2197, 0, 0, nn), (1638, .iconst (0), 1639, 0, 0, 0, nn), (1639, .ireturn, 1640, 0, 0, 0, nn)]
set_option maxRecDepth 100000 in
theorem lg_heard : lT_heard.all (chkE (lawT lT_heard)) = true := by decide +kernel
set_option maxRecDepth 20000 in
theorem law_heard {Δ : DT} {Γ : FT} {n : Nat} {xs : Nat → Int32} (SC : SCR Δ Γ n xs) : LCASE Δ Γ n xs 1591 := by
  intro i B M c s h0 h6 hR hB hc hs k
  obtain ⟨p, hp, q, hq, he, hR2⟩ := c_heard hR (xs (i + 1).toNat).toInt (xs (i + 2).toNat).toInt (xs (i + 3).toNat).toInt
  refine w_wid (c + 1) (s + 6) (by omega) (by omega) ?_
  refine w_re (T' := lT_heard) lg_heard ?_
  refine w_aload_n rfl rfl ?_
  refine w_scr SC rfl rfl rfl rfl rfl rfl ⟨h0, by decide, by omega⟩ ?_
  refine w_scr SC rfl rfl rfl rfl rfl rfl ⟨h0, by decide, by omega⟩ ?_
  refine w_scr SC rfl rfl rfl rfl rfl rfl ⟨h0, by decide, by omega⟩ ?_
  refine l_call (as := [vI (xs (i + 1).toNat).toInt, vI (xs (i + 2).toNat).toInt, vI (xs (i + 3).toNat).toInt]) (st := []) (d := 1000) rfl (fun ho hM => cal_dh_heard (by decide) hp ho hM) v_dh_heard (Nat.le_of_ble_eq_true rfl) S_0 rfl (Nat.le_of_ble_eq_true rfl) ⟨hc, hs⟩ ?_
  refine w_aload_n rfl rfl ?_
  refine w_scr SC rfl rfl rfl rfl rfl rfl ⟨h0, by decide, by omega⟩ ?_
  refine w_scr SC rfl rfl rfl rfl rfl rfl ⟨h0, by decide, by omega⟩ ?_
  refine w_scr SC rfl rfl rfl rfl rfl rfl ⟨h0, by decide, by omega⟩ ?_
  refine l_call (as := [vI (xs (i + 1).toNat).toInt, vI (xs (i + 2).toNat).toInt, vI (xs (i + 3).toNat).toInt]) (st := [vI p.1]) (d := 1000) rfl (fun ho hM => cal_mo_heard (by decide) hq ho hM) v_mo_heard (Nat.le_of_ble_eq_true rfl) S_278 rfl (Nat.le_of_ble_eq_true rfl) ⟨hc, hs⟩ ?_
  refine s_icmp_eq_t rfl he.symm ?_
  exact w_re rfl (k q.2 (hR2.wide (by omega)))
def lT_forget : List ENT := [(1640, .aload_n 1, 1641, 0, 0, 0, nn), (1641, .invokevirtual 184, 1644, 0, 0, 20563, y_dh_forget), (1644, .aload_n 2, 1645, 0, 0, 0, nn), (1645, .invokevirtual 187, 1648, 0, 0, 32821, y_mo_forget), (1648, .if_icmp .eq (549), 1651, 2197, 0, 0, nn), (1651, .iconst (0), 1652, 0, 0, 0, nn), (1652, .ireturn, 1653, 0, 0, 0, nn)]
set_option maxRecDepth 100000 in
theorem lg_forget : lT_forget.all (chkE (lawT lT_forget)) = true := by decide +kernel
set_option maxRecDepth 20000 in
theorem law_forget {Δ : DT} {Γ : FT} {n : Nat} {xs : Nat → Int32} (SC : SCR Δ Γ n xs) : LCASE Δ Γ n xs 1640 := by
  intro i B M c s h0 h6 hR hB hc hs k
  obtain ⟨p, hp, q, hq, he, hR2⟩ := c_forget hR
  refine w_wid (c + 1) (s + 6) (by omega) (by omega) ?_
  refine w_re (T' := lT_forget) lg_forget ?_
  refine w_aload_n rfl rfl ?_
  refine l_call (as := []) (st := []) (d := 1000) rfl (fun ho hM => cal_dh_forget (by decide) hp ho hM) v_dh_forget (Nat.le_of_ble_eq_true rfl) S_0 rfl (Nat.le_of_ble_eq_true rfl) ⟨hc, hs⟩ ?_
  refine w_aload_n rfl rfl ?_
  refine l_call (as := []) (st := [vI p.1]) (d := 1000) rfl (fun ho hM => cal_mo_forget (by decide) hq ho hM) v_mo_forget (Nat.le_of_ble_eq_true rfl) S_278 rfl (Nat.le_of_ble_eq_true rfl) ⟨hc, hs⟩ ?_
  refine s_icmp_eq_t rfl he.symm ?_
  exact w_re rfl (k q.2 (hR2.wide (by omega)))
def lT_hungers : List ENT := [(1653, .aload_n 1, 1654, 0, 0, 0, nn), (1654, .aload_n 0, 1655, 0, 0, 0, nn), (1655, .iload 4, 1657, 0, 0, 0, nn), (1657, .iconst (1), 1658, 0, 0, 0, nn), (1658, .iadd, 1659, 0, 0, 0, nn), (1659, .iaload, 1660, 0, 0, 0, nn), (1660, .invokevirtual 188, 1663, 0, 0, 20567, y_dh_hungers), (1663, .aload_n 2, 1664, 0, 0, 0, nn), (1664, .aload_n 0, 1665, 0, 0, 0, nn), (1665, .iload 4, 1667, 0, 0, 0, nn), (1667, .iconst (1), 1668, 0, 0, 0, nn), (1668, .iadd, 1669, 0, 0, 0, nn), (1669, .iaload, 1670, 0, 0, 0, nn), (1670, .invokevirtual 191, 1673, 0, 0, 32825, y_mo_hungers), (1673, .if_icmp .eq (524), 1676, 2197, 0, 0, nn), (1676, .iconst (0), 1677, 0, 0, 0, nn), (1677, .ireturn, 1678, 0, 0, 0, nn)]
set_option maxRecDepth 100000 in
theorem lg_hungers : lT_hungers.all (chkE (lawT lT_hungers)) = true := by decide +kernel
set_option maxRecDepth 20000 in
theorem law_hungers {Δ : DT} {Γ : FT} {n : Nat} {xs : Nat → Int32} (SC : SCR Δ Γ n xs) : LCASE Δ Γ n xs 1653 := by
  intro i B M c s h0 h6 hR hB hc hs k
  obtain ⟨p, hp, q, hq, he, hR2⟩ := c_hungers hR (by omega) (xs (i + 1).toNat).toInt
  refine w_wid (c + 1) (s + 6) (by omega) (by omega) ?_
  refine w_re (T' := lT_hungers) lg_hungers ?_
  refine w_aload_n rfl rfl ?_
  refine w_scr SC rfl rfl rfl rfl rfl rfl ⟨h0, by decide, by omega⟩ ?_
  refine l_call (as := [vI (xs (i + 1).toNat).toInt]) (st := []) (d := 1000) rfl (fun ho hM => cal_dh_hungers (by decide) hp ho hM) v_dh_hungers (Nat.le_of_ble_eq_true rfl) S_0 rfl (Nat.le_of_ble_eq_true rfl) ⟨hc, hs⟩ ?_
  refine w_aload_n rfl rfl ?_
  refine w_scr SC rfl rfl rfl rfl rfl rfl ⟨h0, by decide, by omega⟩ ?_
  refine l_call (as := [vI (xs (i + 1).toNat).toInt]) (st := [vI p.1]) (d := 1000) rfl (fun ho hM => cal_mo_hungers (by decide) hq ho hM) v_mo_hungers (Nat.le_of_ble_eq_true rfl) S_278 rfl (Nat.le_of_ble_eq_true rfl) ⟨hc, hs⟩ ?_
  refine s_icmp_eq_t rfl he.symm ?_
  exact w_re rfl (k q.2 (hR2.wide (by omega)))
def lT_ways : List ENT := [(1678, .aload_n 1, 1679, 0, 0, 0, nn), (1679, .aload_n 0, 1680, 0, 0, 0, nn), (1680, .iload 4, 1682, 0, 0, 0, nn), (1682, .iconst (1), 1683, 0, 0, 0, nn), (1683, .iadd, 1684, 0, 0, 0, nn), (1684, .iaload, 1685, 0, 0, 0, nn), (1685, .invokevirtual 192, 1688, 0, 0, 20584, y_dh_ways), (1688, .aload_n 2, 1689, 0, 0, 0, nn), (1689, .aload_n 0, 1690, 0, 0, 0, nn), (1690, .iload 4, 1692, 0, 0, 0, nn), (1692, .iconst (1), 1693, 0, 0, 0, nn), (1693, .iadd, 1694, 0, 0, 0, nn), (1694, .iaload, 1695, 0, 0, 0, nn), (1695, .invokevirtual 195, 1698, 0, 0, 32837, y_mo_ways), (1698, .if_icmp .eq (499), 1701, 2197, 0, 0, nn), (1701, .iconst (0), 1702, 0, 0, 0, nn), (1702, .ireturn, 1703, 0, 0, 0, nn)]
set_option maxRecDepth 100000 in
theorem lg_ways : lT_ways.all (chkE (lawT lT_ways)) = true := by decide +kernel
set_option maxRecDepth 20000 in
theorem law_ways {Δ : DT} {Γ : FT} {n : Nat} {xs : Nat → Int32} (SC : SCR Δ Γ n xs) : LCASE Δ Γ n xs 1678 := by
  intro i B M c s h0 h6 hR hB hc hs k
  obtain ⟨p, hp, q, hq, he, hR2⟩ := c_ways hR (by omega) (xs (i + 1).toNat).toInt
  refine w_wid (c + 1) (s + 6) (by omega) (by omega) ?_
  refine w_re (T' := lT_ways) lg_ways ?_
  refine w_aload_n rfl rfl ?_
  refine w_scr SC rfl rfl rfl rfl rfl rfl ⟨h0, by decide, by omega⟩ ?_
  refine l_call (as := [vI (xs (i + 1).toNat).toInt]) (st := []) (d := 1000) rfl (fun ho hM => cal_dh_ways (by decide) hp ho hM) v_dh_ways (Nat.le_of_ble_eq_true rfl) S_0 rfl (Nat.le_of_ble_eq_true rfl) ⟨hc, hs⟩ ?_
  refine w_aload_n rfl rfl ?_
  refine w_scr SC rfl rfl rfl rfl rfl rfl ⟨h0, by decide, by omega⟩ ?_
  refine l_call (as := [vI (xs (i + 1).toNat).toInt]) (st := [vI p.1]) (d := 1000) rfl (fun ho hM => cal_mo_ways (by decide) hq ho hM) v_mo_ways (Nat.le_of_ble_eq_true rfl) S_278 rfl (Nat.le_of_ble_eq_true rfl) ⟨hc, hs⟩ ?_
  refine s_icmp_eq_t rfl he.symm ?_
  exact w_re rfl (k q.2 (hR2.wide (by omega)))
def lT_swarms : List ENT := [(1703, .aload_n 1, 1704, 0, 0, 0, nn), (1704, .invokevirtual 196, 1707, 0, 0, 20588, y_dh_swarms), (1707, .aload_n 2, 1708, 0, 0, 0, nn), (1708, .invokevirtual 199, 1711, 0, 0, 32841, y_mo_swarms), (1711, .if_icmp .eq (486), 1714, 2197, 0, 0, nn), (1714, .iconst (0), 1715, 0, 0, 0, nn), (1715, .ireturn, 1716, 0, 0, 0, nn)]
set_option maxRecDepth 100000 in
theorem lg_swarms : lT_swarms.all (chkE (lawT lT_swarms)) = true := by decide +kernel
set_option maxRecDepth 20000 in
theorem law_swarms {Δ : DT} {Γ : FT} {n : Nat} {xs : Nat → Int32} (SC : SCR Δ Γ n xs) : LCASE Δ Γ n xs 1703 := by
  intro i B M c s h0 h6 hR hB hc hs k
  obtain ⟨p, hp, q, hq, he, hR2⟩ := c_swarms hR (by omega)
  refine w_wid (c + 1) (s + 6) (by omega) (by omega) ?_
  refine w_re (T' := lT_swarms) lg_swarms ?_
  refine w_aload_n rfl rfl ?_
  refine l_call (as := []) (st := []) (d := 1000) rfl (fun ho hM => cal_dh_swarms (by decide) hp ho hM) v_dh_swarms (Nat.le_of_ble_eq_true rfl) S_0 rfl (Nat.le_of_ble_eq_true rfl) ⟨hc, hs⟩ ?_
  refine w_aload_n rfl rfl ?_
  refine l_call (as := []) (st := [vI p.1]) (d := 1000) rfl (fun ho hM => cal_mo_swarms (by decide) hq ho hM) v_mo_swarms (Nat.le_of_ble_eq_true rfl) S_278 rfl (Nat.le_of_ble_eq_true rfl) ⟨hc, hs⟩ ?_
  refine s_icmp_eq_t rfl he.symm ?_
  exact w_re rfl (k q.2 (hR2.wide (by omega)))
def lT_span : List ENT := [(1716, .aload_n 1, 1717, 0, 0, 0, nn), (1717, .aload_n 0, 1718, 0, 0, 0, nn), (1718, .iload 4, 1720, 0, 0, 0, nn), (1720, .iconst (1), 1721, 0, 0, 0, nn), (1721, .iadd, 1722, 0, 0, 0, nn), (1722, .iaload, 1723, 0, 0, 0, nn), (1723, .aload_n 0, 1724, 0, 0, 0, nn), (1724, .iload 4, 1726, 0, 0, 0, nn), (1726, .iconst (2), 1727, 0, 0, 0, nn), (1727, .iadd, 1728, 0, 0, 0, nn), (1728, .iaload, 1729, 0, 0, 0, nn), (1729, .invokevirtual 200, 1732, 0, 0, 20592, y_dh_span), (1732, .aload_n 2, 1733, 0, 0, 0, nn), (1733, .aload_n 0, 1734, 0, 0, 0, nn), (1734, .iload 4, 1736, 0, 0, 0, nn), (1736, .iconst (1), 1737, 0, 0, 0, nn), (1737, .iadd, 1738, 0, 0, 0, nn), (1738, .iaload, 1739, 0, 0, 0, nn), (1739, .aload_n 0, 1740, 0, 0, 0, nn), (1740, .iload 4, 1742, 0, 0, 0, nn), (1742, .iconst (2), 1743, 0, 0, 0, nn), (1743, .iadd, 1744, 0, 0, 0, nn), (1744, .iaload, 1745, 0, 0, 0, nn), (1745, .invokevirtual 203, 1748, 0, 0, 32845, y_mo_span), (1748, .if_icmp .eq (449), 1751, 2197, 0, 0, nn), (1751, .iconst (0), 1752, 0, 0, 0, nn), (1752, .ireturn, 1753, 0, 0, 0, nn)]
set_option maxRecDepth 100000 in
theorem lg_span : lT_span.all (chkE (lawT lT_span)) = true := by decide +kernel
set_option maxRecDepth 20000 in
theorem law_span {Δ : DT} {Γ : FT} {n : Nat} {xs : Nat → Int32} (SC : SCR Δ Γ n xs) : LCASE Δ Γ n xs 1716 := by
  intro i B M c s h0 h6 hR hB hc hs k
  obtain ⟨p, hp, q, hq, he, hR2⟩ := c_span hR (by omega) (xs (i + 1).toNat).toInt (xs (i + 2).toNat).toInt
  refine w_wid (c + 1) (s + 6) (by omega) (by omega) ?_
  refine w_re (T' := lT_span) lg_span ?_
  refine w_aload_n rfl rfl ?_
  refine w_scr SC rfl rfl rfl rfl rfl rfl ⟨h0, by decide, by omega⟩ ?_
  refine w_scr SC rfl rfl rfl rfl rfl rfl ⟨h0, by decide, by omega⟩ ?_
  refine l_call (as := [vI (xs (i + 1).toNat).toInt, vI (xs (i + 2).toNat).toInt]) (st := []) (d := 1000) rfl (fun ho hM => cal_dh_span (by decide) hp ho hM) v_dh_span (Nat.le_of_ble_eq_true rfl) S_0 rfl (Nat.le_of_ble_eq_true rfl) ⟨hc, hs⟩ ?_
  refine w_aload_n rfl rfl ?_
  refine w_scr SC rfl rfl rfl rfl rfl rfl ⟨h0, by decide, by omega⟩ ?_
  refine w_scr SC rfl rfl rfl rfl rfl rfl ⟨h0, by decide, by omega⟩ ?_
  refine l_call (as := [vI (xs (i + 1).toNat).toInt, vI (xs (i + 2).toNat).toInt]) (st := [vI p.1]) (d := 1000) rfl (fun ho hM => cal_mo_span (by decide) hq ho hM) v_mo_span (Nat.le_of_ble_eq_true rfl) S_278 rfl (Nat.le_of_ble_eq_true rfl) ⟨hc, hs⟩ ?_
  refine s_icmp_eq_t rfl he.symm ?_
  exact w_re rfl (k q.2 (hR2.wide (by omega)))
def lT_apart : List ENT := [(1753, .aload_n 1, 1754, 0, 0, 0, nn), (1754, .aload_n 0, 1755, 0, 0, 0, nn), (1755, .iload 4, 1757, 0, 0, 0, nn), (1757, .iconst (1), 1758, 0, 0, 0, nn), (1758, .iadd, 1759, 0, 0, 0, nn), (1759, .iaload, 1760, 0, 0, 0, nn), (1760, .aload_n 0, 1761, 0, 0, 0, nn), (1761, .iload 4, 1763, 0, 0, 0, nn), (1763, .iconst (2), 1764, 0, 0, 0, nn), (1764, .iadd, 1765, 0, 0, 0, nn), (1765, .iaload, 1766, 0, 0, 0, nn), (1766, .aload_n 0, 1767, 0, 0, 0, nn), (1767, .iload 4, 1769, 0, 0, 0, nn), (1769, .iconst (3), 1770, 0, 0, 0, nn), (1770, .iadd, 1771, 0, 0, 0, nn), (1771, .iaload, 1772, 0, 0, 0, nn), (1772, .aload_n 3, 1773, 0, 0, 0, nn), (1773, .invokestatic 204, 1776, 0, 0, 20715, ⟨"DonkeysHourLaw", "apart", "(LDonkeysHour;III[J)I"⟩), (1776, .istore 5, 1778, 0, 0, 0, nn), (1778, .aload_n 2, 1779, 0, 0, 0, nn), (1779, .aload_n 0, 1780, 0, 0, 0, nn), (1780, .iload 4, 1782, 0, 0, 0, nn), (1782, .iconst (1), 1783, 0, 0, 0, nn), (1783, .iadd, 1784, 0, 0, 0, nn), (1784, .iaload, 1785, 0, 0, 0, nn), (1785, .aload_n 0, 1786, 0, 0, 0, nn), (1786, .iload 4, 1788, 0, 0, 0, nn), (1788, .iconst (2), 1789, 0, 0, 0, nn), (1789, .iadd, 1790, 0, 0, 0, nn), (1790, .iaload, 1791, 0, 0, 0, nn), (1791, .aload_n 0, 1792, 0, 0, 0, nn), (1792, .iload 4, 1794, 0, 0, 0, nn), (1794, .iconst (3), 1795, 0, 0, 0, nn), (1795, .iadd, 1796, 0, 0, 0, nn), (1796, .iaload, 1797, 0, 0, 0, nn), (1797, .invokevirtual 207, 1800, 0, 0, 32849, y_mo_apart), (1800, .istore 6, 1802, 0, 0, 0, nn), (1802, .aload_n 2, 1803, 0, 0, 0, nn), (1803, .invokevirtual 55, 1806, 0, 0, 24760, y_mo_thrown), (1806, .iload 5, 1808, 0, 0, 0, nn), (1808, .if_icmp .eq (5), 1811, 1813, 0, 0, nn), (1811, .iconst (0), 1812, 0, 0, 0, nn), (1812, .ireturn, 1813, 0, 0, 0, nn), (1813, .iload 5, 1815, 0, 0, 0, nn), (1815, .ifCond .ne (15), 1818, 1830, 0, 0, nn), (1818, .aload_n 3, 1819, 0, 0, 0, nn), (1819, .iconst (0), 1820, 0, 0, 0, nn), (1820, .laload, 1821, 0, 0, 0, nn), (1821, .iload 6, 1823, 0, 0, 0, nn), (1823, .i2l, 1824, 0, 0, 0, nn), (1824, .lcmp, 1825, 0, 0, 0, nn), (1825, .ifCond .eq (5), 1828, 1830, 0, 0, nn), (1828, .iconst (0), 1829, 0, 0, 0, nn), (1829, .ireturn, 1830, 0, 0, 0, nn), (1830, .goto (367), 1833, 2197, 0, 0, nn)]
set_option maxRecDepth 100000 in
theorem lg_apart : lT_apart.all (chkE (lawT lT_apart)) = true := by decide +kernel
set_option maxRecDepth 20000 in
theorem law_apart {Δ : DT} {Γ : FT} {n : Nat} {xs : Nat → Int32} (SC : SCR Δ Γ n xs) (hl0 : Δ.1.stackTraces = false) (hX : XW Δ.2.1 Γ.2.2.2.1 Γ.2.2.2.1.heap) : LCASE Δ Γ n xs 1753 := by
  intro i B M c s h0 h6 hR hB hc hs k
  obtain ⟨o, ho, hpost⟩ := t_apart hR (by omega) (xs (i + 1).toNat).toInt (xs (i + 2).toNat).toInt (xs (i + 3).toNat).toInt
  have key : ∃ q, mo_apart (xs (i + 1).toNat).toInt (xs (i + 2).toNat).toInt (xs (i + 3).toNat).toInt (oM o) = some q ∧ q.2 278 13 = oR o ∧ (oR o = 0 → q.2 307 0 = q.1) ∧ Rel B q.2 := by
    cases o with
    | inl M1 =>
      obtain ⟨q, hq, h13, hR2⟩ := hpost
      exact ⟨q, hq, h13, fun h => absurd (show (1 : Int) = 0 from h) (by decide), hR2⟩
    | inr p =>
      obtain ⟨q, hq, h13, he, h7, hR2⟩ := hpost (up2 p.2 307 0 p.1) (fun a ha => up2_ne ha)
      exact ⟨q, hq, h13, fun _ => by rw [h7, rd_same, he], hR2⟩
  obtain ⟨q, hq, h13, h7, hR2⟩ := key
  have hthr : mo_thrown q.2 = oR o := h13
  refine w_re (T' := lT_apart) lg_apart ?_
  refine w_aload_n rfl rfl ?_
  refine w_scr SC rfl rfl rfl rfl rfl rfl ⟨h0, by decide, by omega⟩ ?_
  refine w_scr SC rfl rfl rfl rfl rfl rfl ⟨h0, by decide, by omega⟩ ?_
  refine w_scr SC rfl rfl rfl rfl rfl rfl ⟨h0, by decide, by omega⟩ ?_
  refine w_aload_n rfl rfl ?_
  refine l_callw (as := [vR 0, vI (xs (i + 1).toNat).toInt, vI (xs (i + 2).toNat).toInt, vI (xs (i + 3).toNat).toInt, vR 307]) (st := []) (d := 1000) (hh := [(0, 12, 15, 13)]) rfl rfl (fun ho2 hM => calW_apart (by decide) hl0 ho ho2 hM) v_la_apart (Nat.le_of_ble_eq_true rfl) ⟨hc, hs⟩ hX ?_
  refine w_istore (L' := [vN, vR 0, vR 278, vR 307, vI i, vI (oR o), vN]) rfl (Nat.le_of_ble_eq_true rfl) rfl ?_
  refine w_aload_n rfl rfl ?_
  refine w_scr SC rfl rfl rfl rfl rfl rfl ⟨h0, by decide, by omega⟩ ?_
  refine w_scr SC rfl rfl rfl rfl rfl rfl ⟨h0, by decide, by omega⟩ ?_
  refine w_scr SC rfl rfl rfl rfl rfl rfl ⟨h0, by decide, by omega⟩ ?_
  refine l_call (as := [vI (xs (i + 1).toNat).toInt, vI (xs (i + 2).toNat).toInt, vI (xs (i + 3).toNat).toInt]) (st := []) (d := 1000) rfl (fun ho2 hM => cal_mo_apart (by decide) hq ho2 hM) v_mo_apart (Nat.le_of_ble_eq_true rfl) S_278 rfl (Nat.le_of_ble_eq_true rfl) ⟨hc, hs⟩ ?_
  refine w_istore (L' := [vN, vR 0, vR 278, vR 307, vI i, vI (oR o), vI q.1]) rfl (Nat.le_of_ble_eq_true rfl) rfl ?_
  refine w_aload_n rfl rfl ?_
  refine l_call (as := []) (st := []) (d := 1000) rfl (fun ho2 hM => cal_mo_thrown (by decide) ho2 hM) v_mo_thrown (Nat.le_of_ble_eq_true rfl) S_278 rfl (Nat.le_of_ble_eq_true rfl) ⟨hc, hs⟩ ?_
  refine w_iload rfl rfl ?_
  refine s_icmp_eq_t rfl hthr ?_
  refine w_iload rfl rfl ?_
  have fin : WAt Δ Γ false (lawT lT_apart) 1001 2197 [vN, vR 0, vR 278, vR 307, vI i, vI (oR o), vI q.1] [] (NG, S0, q.2) (c + 1) (s + 6) :=
    w_forget (wk_k (wk_k (wk_k (wk_k (wk_k (wk_d (wk_d wk_0))))))) (w_re rfl (k q.2 (hR2.wide (by omega))))
  by_cases hz : oR o = 0
  · refine s_if_ne_f rfl hz ?_
    refine w_aload_n rfl rfl ?_
    refine w_iconst rfl (inR_c rfl) ?_
    refine w_lald rfl (Nat.le_of_ble_eq_true rfl) S_307 (by omega) (by decide) ?_
    refine w_iload rfl rfl ?_
    refine w_i2l rfl ?_
    refine w_lcmp_same rfl (h7 hz) ?_
    refine s_if_eq_t rfl rfl ?_
    exact w_goto rfl fin
  · refine s_if_ne_t rfl hz ?_
    exact w_goto rfl fin
def lT_together : List ENT := [(1833, .aload_n 1, 1834, 0, 0, 0, nn), (1834, .aload_n 0, 1835, 0, 0, 0, nn), (1835, .iload 4, 1837, 0, 0, 0, nn), (1837, .iconst (1), 1838, 0, 0, 0, nn), (1838, .iadd, 1839, 0, 0, 0, nn), (1839, .iaload, 1840, 0, 0, 0, nn), (1840, .aload_n 0, 1841, 0, 0, 0, nn), (1841, .iload 4, 1843, 0, 0, 0, nn), (1843, .iconst (2), 1844, 0, 0, 0, nn), (1844, .iadd, 1845, 0, 0, 0, nn), (1845, .iaload, 1846, 0, 0, 0, nn), (1846, .invokevirtual 208, 1849, 0, 0, 20596, y_dh_together), (1849, .aload_n 2, 1850, 0, 0, 0, nn), (1850, .aload_n 0, 1851, 0, 0, 0, nn), (1851, .iload 4, 1853, 0, 0, 0, nn), (1853, .iconst (1), 1854, 0, 0, 0, nn), (1854, .iadd, 1855, 0, 0, 0, nn), (1855, .iaload, 1856, 0, 0, 0, nn), (1856, .aload_n 0, 1857, 0, 0, 0, nn), (1857, .iload 4, 1859, 0, 0, 0, nn), (1859, .iconst (2), 1860, 0, 0, 0, nn), (1860, .iadd, 1861, 0, 0, 0, nn), (1861, .iaload, 1862, 0, 0, 0, nn), (1862, .invokevirtual 211, 1865, 0, 0, 32857, y_mo_together), (1865, .if_icmp .eq (332), 1868, 2197, 0, 0, nn), (1868, .iconst (0), 1869, 0, 0, 0, nn), (1869, .ireturn, 1870, 0, 0, 0, nn)]
set_option maxRecDepth 100000 in
theorem lg_together : lT_together.all (chkE (lawT lT_together)) = true := by decide +kernel
set_option maxRecDepth 20000 in
theorem law_together {Δ : DT} {Γ : FT} {n : Nat} {xs : Nat → Int32} (SC : SCR Δ Γ n xs) : LCASE Δ Γ n xs 1833 := by
  intro i B M c s h0 h6 hR hB hc hs k
  obtain ⟨p, hp, q, hq, he, hR2⟩ := c_together hR (by omega) (xs (i + 1).toNat).toInt (xs (i + 2).toNat).toInt
  refine w_wid (c + 1) (s + 6) (by omega) (by omega) ?_
  refine w_re (T' := lT_together) lg_together ?_
  refine w_aload_n rfl rfl ?_
  refine w_scr SC rfl rfl rfl rfl rfl rfl ⟨h0, by decide, by omega⟩ ?_
  refine w_scr SC rfl rfl rfl rfl rfl rfl ⟨h0, by decide, by omega⟩ ?_
  refine l_call (as := [vI (xs (i + 1).toNat).toInt, vI (xs (i + 2).toNat).toInt]) (st := []) (d := 1000) rfl (fun ho hM => cal_dh_together (by decide) hp ho hM) v_dh_together (Nat.le_of_ble_eq_true rfl) S_0 rfl (Nat.le_of_ble_eq_true rfl) ⟨hc, hs⟩ ?_
  refine w_aload_n rfl rfl ?_
  refine w_scr SC rfl rfl rfl rfl rfl rfl ⟨h0, by decide, by omega⟩ ?_
  refine w_scr SC rfl rfl rfl rfl rfl rfl ⟨h0, by decide, by omega⟩ ?_
  refine l_call (as := [vI (xs (i + 1).toNat).toInt, vI (xs (i + 2).toNat).toInt]) (st := [vI p.1]) (d := 1000) rfl (fun ho hM => cal_mo_together (by decide) hq ho hM) v_mo_together (Nat.le_of_ble_eq_true rfl) S_278 rfl (Nat.le_of_ble_eq_true rfl) ⟨hc, hs⟩ ?_
  refine s_icmp_eq_t rfl he.symm ?_
  exact w_re rfl (k q.2 (hR2.wide (by omega)))
def lT_join : List ENT := [(1870, .aload_n 1, 1871, 0, 0, 0, nn), (1871, .aload_n 0, 1872, 0, 0, 0, nn), (1872, .iload 4, 1874, 0, 0, 0, nn), (1874, .iconst (1), 1875, 0, 0, 0, nn), (1875, .iadd, 1876, 0, 0, 0, nn), (1876, .iaload, 1877, 0, 0, 0, nn), (1877, .aload_n 0, 1878, 0, 0, 0, nn), (1878, .iload 4, 1880, 0, 0, 0, nn), (1880, .iconst (2), 1881, 0, 0, 0, nn), (1881, .iadd, 1882, 0, 0, 0, nn), (1882, .iaload, 1883, 0, 0, 0, nn), (1883, .aload_n 0, 1884, 0, 0, 0, nn), (1884, .iload 4, 1886, 0, 0, 0, nn), (1886, .iconst (3), 1887, 0, 0, 0, nn), (1887, .iadd, 1888, 0, 0, 0, nn), (1888, .iaload, 1889, 0, 0, 0, nn), (1889, .invokevirtual 212, 1892, 0, 0, 20608, y_dh_join), (1892, .aload_n 2, 1893, 0, 0, 0, nn), (1893, .aload_n 0, 1894, 0, 0, 0, nn), (1894, .iload 4, 1896, 0, 0, 0, nn), (1896, .iconst (1), 1897, 0, 0, 0, nn), (1897, .iadd, 1898, 0, 0, 0, nn), (1898, .iaload, 1899, 0, 0, 0, nn), (1899, .aload_n 0, 1900, 0, 0, 0, nn), (1900, .iload 4, 1902, 0, 0, 0, nn), (1902, .iconst (2), 1903, 0, 0, 0, nn), (1903, .iadd, 1904, 0, 0, 0, nn), (1904, .iaload, 1905, 0, 0, 0, nn), (1905, .aload_n 0, 1906, 0, 0, 0, nn), (1906, .iload 4, 1908, 0, 0, 0, nn), (1908, .iconst (3), 1909, 0, 0, 0, nn), (1909, .iadd, 1910, 0, 0, 0, nn), (1910, .iaload, 1911, 0, 0, 0, nn), (1911, .invokevirtual 215, 1914, 0, 0, 32861, y_mo_join), (1914, .if_icmp .eq (283), 1917, 2197, 0, 0, nn), (1917, .iconst (0), 1918, 0, 0, 0, nn), (1918, .ireturn, 1919, 0, 0, 0, nn)]
set_option maxRecDepth 100000 in
theorem lg_join : lT_join.all (chkE (lawT lT_join)) = true := by decide +kernel
set_option maxRecDepth 20000 in
theorem law_join {Δ : DT} {Γ : FT} {n : Nat} {xs : Nat → Int32} (SC : SCR Δ Γ n xs) : LCASE Δ Γ n xs 1870 := by
  intro i B M c s h0 h6 hR hB hc hs k
  obtain ⟨p, hp, q, hq, he, hR2⟩ := c_join hR (by omega) (xs (i + 1).toNat).toInt (xs (i + 2).toNat).toInt (xs (i + 3).toNat).toInt
  refine w_wid (c + 1) (s + 6) (by omega) (by omega) ?_
  refine w_re (T' := lT_join) lg_join ?_
  refine w_aload_n rfl rfl ?_
  refine w_scr SC rfl rfl rfl rfl rfl rfl ⟨h0, by decide, by omega⟩ ?_
  refine w_scr SC rfl rfl rfl rfl rfl rfl ⟨h0, by decide, by omega⟩ ?_
  refine w_scr SC rfl rfl rfl rfl rfl rfl ⟨h0, by decide, by omega⟩ ?_
  refine l_call (as := [vI (xs (i + 1).toNat).toInt, vI (xs (i + 2).toNat).toInt, vI (xs (i + 3).toNat).toInt]) (st := []) (d := 1000) rfl (fun ho hM => cal_dh_join (by decide) hp ho hM) v_dh_join (Nat.le_of_ble_eq_true rfl) S_0 rfl (Nat.le_of_ble_eq_true rfl) ⟨hc, hs⟩ ?_
  refine w_aload_n rfl rfl ?_
  refine w_scr SC rfl rfl rfl rfl rfl rfl ⟨h0, by decide, by omega⟩ ?_
  refine w_scr SC rfl rfl rfl rfl rfl rfl ⟨h0, by decide, by omega⟩ ?_
  refine w_scr SC rfl rfl rfl rfl rfl rfl ⟨h0, by decide, by omega⟩ ?_
  refine l_call (as := [vI (xs (i + 1).toNat).toInt, vI (xs (i + 2).toNat).toInt, vI (xs (i + 3).toNat).toInt]) (st := [vI p.1]) (d := 1000) rfl (fun ho hM => cal_mo_join (by decide) hq ho hM) v_mo_join (Nat.le_of_ble_eq_true rfl) S_278 rfl (Nat.le_of_ble_eq_true rfl) ⟨hc, hs⟩ ?_
  refine s_icmp_eq_t rfl he.symm ?_
  exact w_re rfl (k q.2 (hR2.wide (by omega)))
def lT_shows : List ENT := [(1919, .aload_n 1, 1920, 0, 0, 0, nn), (1920, .aload_n 0, 1921, 0, 0, 0, nn), (1921, .iload 4, 1923, 0, 0, 0, nn), (1923, .iconst (1), 1924, 0, 0, 0, nn), (1924, .iadd, 1925, 0, 0, 0, nn), (1925, .iaload, 1926, 0, 0, 0, nn), (1926, .aload_n 0, 1927, 0, 0, 0, nn), (1927, .iload 4, 1929, 0, 0, 0, nn), (1929, .iconst (2), 1930, 0, 0, 0, nn), (1930, .iadd, 1931, 0, 0, 0, nn), (1931, .iaload, 1932, 0, 0, 0, nn), (1932, .aload_n 0, 1933, 0, 0, 0, nn), (1933, .iload 4, 1935, 0, 0, 0, nn), (1935, .iconst (3), 1936, 0, 0, 0, nn), (1936, .iadd, 1937, 0, 0, 0, nn), (1937, .iaload, 1938, 0, 0, 0, nn), (1938, .invokevirtual 216, 1941, 0, 0, 20612, y_dh_shows), (1941, .aload_n 2, 1942, 0, 0, 0, nn), (1942, .aload_n 0, 1943, 0, 0, 0, nn), (1943, .iload 4, 1945, 0, 0, 0, nn), (1945, .iconst (1), 1946, 0, 0, 0, nn), (1946, .iadd, 1947, 0, 0, 0, nn), (1947, .iaload, 1948, 0, 0, 0, nn), (1948, .aload_n 0, 1949, 0, 0, 0, nn), (1949, .iload 4, 1951, 0, 0, 0, nn), (1951, .iconst (2), 1952, 0, 0, 0, nn), (1952, .iadd, 1953, 0, 0, 0, nn), (1953, .iaload, 1954, 0, 0, 0, nn), (1954, .aload_n 0, 1955, 0, 0, 0, nn), (1955, .iload 4, 1957, 0, 0, 0, nn), (1957, .iconst (3), 1958, 0, 0, 0, nn), (1958, .iadd, 1959, 0, 0, 0, nn), (1959, .iaload, 1960, 0, 0, 0, nn), (1960, .invokevirtual 219, 1963, 0, 0, 32865, y_mo_shows), (1963, .if_icmp .eq (234), 1966, 2197, 0, 0, nn), (1966, .iconst (0), 1967, 0, 0, 0, nn), (1967, .ireturn, 1968, 0, 0, 0, nn)]
set_option maxRecDepth 100000 in
theorem lg_shows : lT_shows.all (chkE (lawT lT_shows)) = true := by decide +kernel
set_option maxRecDepth 20000 in
theorem law_shows {Δ : DT} {Γ : FT} {n : Nat} {xs : Nat → Int32} (SC : SCR Δ Γ n xs) : LCASE Δ Γ n xs 1919 := by
  intro i B M c s h0 h6 hR hB hc hs k
  obtain ⟨p, hp, q, hq, he, hR2⟩ := c_shows hR (by omega) (xs (i + 1).toNat).toInt (xs (i + 2).toNat).toInt (xs (i + 3).toNat).toInt
  refine w_wid (c + 1) (s + 6) (by omega) (by omega) ?_
  refine w_re (T' := lT_shows) lg_shows ?_
  refine w_aload_n rfl rfl ?_
  refine w_scr SC rfl rfl rfl rfl rfl rfl ⟨h0, by decide, by omega⟩ ?_
  refine w_scr SC rfl rfl rfl rfl rfl rfl ⟨h0, by decide, by omega⟩ ?_
  refine w_scr SC rfl rfl rfl rfl rfl rfl ⟨h0, by decide, by omega⟩ ?_
  refine l_call (as := [vI (xs (i + 1).toNat).toInt, vI (xs (i + 2).toNat).toInt, vI (xs (i + 3).toNat).toInt]) (st := []) (d := 1000) rfl (fun ho hM => cal_dh_shows (by decide) hp ho hM) v_dh_shows (Nat.le_of_ble_eq_true rfl) S_0 rfl (Nat.le_of_ble_eq_true rfl) ⟨hc, hs⟩ ?_
  refine w_aload_n rfl rfl ?_
  refine w_scr SC rfl rfl rfl rfl rfl rfl ⟨h0, by decide, by omega⟩ ?_
  refine w_scr SC rfl rfl rfl rfl rfl rfl ⟨h0, by decide, by omega⟩ ?_
  refine w_scr SC rfl rfl rfl rfl rfl rfl ⟨h0, by decide, by omega⟩ ?_
  refine l_call (as := [vI (xs (i + 1).toNat).toInt, vI (xs (i + 2).toNat).toInt, vI (xs (i + 3).toNat).toInt]) (st := [vI p.1]) (d := 1000) rfl (fun ho hM => cal_mo_shows (by decide) hq ho hM) v_mo_shows (Nat.le_of_ble_eq_true rfl) S_278 rfl (Nat.le_of_ble_eq_true rfl) ⟨hc, hs⟩ ?_
  refine s_icmp_eq_t rfl he.symm ?_
  exact w_re rfl (k q.2 (hR2.wide (by omega)))
def lT_egg : List ENT := [(1968, .aload_n 1, 1969, 0, 0, 0, nn), (1969, .aload_n 0, 1970, 0, 0, 0, nn), (1970, .iload 4, 1972, 0, 0, 0, nn), (1972, .iconst (1), 1973, 0, 0, 0, nn), (1973, .iadd, 1974, 0, 0, 0, nn), (1974, .iaload, 1975, 0, 0, 0, nn), (1975, .aload_n 0, 1976, 0, 0, 0, nn), (1976, .iload 4, 1978, 0, 0, 0, nn), (1978, .iconst (2), 1979, 0, 0, 0, nn), (1979, .iadd, 1980, 0, 0, 0, nn), (1980, .iaload, 1981, 0, 0, 0, nn), (1981, .aload_n 0, 1982, 0, 0, 0, nn), (1982, .iload 4, 1984, 0, 0, 0, nn), (1984, .iconst (3), 1985, 0, 0, 0, nn), (1985, .iadd, 1986, 0, 0, 0, nn), (1986, .iaload, 1987, 0, 0, 0, nn), (1987, .invokevirtual 220, 1990, 0, 0, 20616, y_dh_egg), (1990, .aload_n 2, 1991, 0, 0, 0, nn), (1991, .aload_n 0, 1992, 0, 0, 0, nn), (1992, .iload 4, 1994, 0, 0, 0, nn), (1994, .iconst (1), 1995, 0, 0, 0, nn), (1995, .iadd, 1996, 0, 0, 0, nn), (1996, .iaload, 1997, 0, 0, 0, nn), (1997, .aload_n 0, 1998, 0, 0, 0, nn), (1998, .iload 4, 2000, 0, 0, 0, nn), (2000, .iconst (2), 2001, 0, 0, 0, nn), (2001, .iadd, 2002, 0, 0, 0, nn), (2002, .iaload, 2003, 0, 0, 0, nn), (2003, .aload_n 0, 2004, 0, 0, 0, nn), (2004, .iload 4, 2006, 0, 0, 0, nn), (2006, .iconst (3), 2007, 0, 0, 0, nn), (2007, .iadd, 2008, 0, 0, 0, nn), (2008, .iaload, 2009, 0, 0, 0, nn), (2009, .invokevirtual 223, 2012, 0, 0, 32869, y_mo_egg), (2012, .if_icmp .eq (185), 2015, 2197, 0, 0, nn), (2015, .iconst (0), 2016, 0, 0, 0, nn), (2016, .ireturn, 2017, 0, 0, 0, nn)]
set_option maxRecDepth 100000 in
theorem lg_egg : lT_egg.all (chkE (lawT lT_egg)) = true := by decide +kernel
set_option maxRecDepth 20000 in
theorem law_egg {Δ : DT} {Γ : FT} {n : Nat} {xs : Nat → Int32} (SC : SCR Δ Γ n xs) : LCASE Δ Γ n xs 1968 := by
  intro i B M c s h0 h6 hR hB hc hs k
  obtain ⟨p, hp, q, hq, he, hR2⟩ := c_egg hR (by omega) (xs (i + 1).toNat).toInt (xs (i + 2).toNat).toInt (xs (i + 3).toNat).toInt
  refine w_wid (c + 1) (s + 6) (by omega) (by omega) ?_
  refine w_re (T' := lT_egg) lg_egg ?_
  refine w_aload_n rfl rfl ?_
  refine w_scr SC rfl rfl rfl rfl rfl rfl ⟨h0, by decide, by omega⟩ ?_
  refine w_scr SC rfl rfl rfl rfl rfl rfl ⟨h0, by decide, by omega⟩ ?_
  refine w_scr SC rfl rfl rfl rfl rfl rfl ⟨h0, by decide, by omega⟩ ?_
  refine l_call (as := [vI (xs (i + 1).toNat).toInt, vI (xs (i + 2).toNat).toInt, vI (xs (i + 3).toNat).toInt]) (st := []) (d := 1000) rfl (fun ho hM => cal_dh_egg (by decide) hp ho hM) v_dh_egg (Nat.le_of_ble_eq_true rfl) S_0 rfl (Nat.le_of_ble_eq_true rfl) ⟨hc, hs⟩ ?_
  refine w_aload_n rfl rfl ?_
  refine w_scr SC rfl rfl rfl rfl rfl rfl ⟨h0, by decide, by omega⟩ ?_
  refine w_scr SC rfl rfl rfl rfl rfl rfl ⟨h0, by decide, by omega⟩ ?_
  refine w_scr SC rfl rfl rfl rfl rfl rfl ⟨h0, by decide, by omega⟩ ?_
  refine l_call (as := [vI (xs (i + 1).toNat).toInt, vI (xs (i + 2).toNat).toInt, vI (xs (i + 3).toNat).toInt]) (st := [vI p.1]) (d := 1000) rfl (fun ho hM => cal_mo_egg (by decide) hq ho hM) v_mo_egg (Nat.le_of_ble_eq_true rfl) S_278 rfl (Nat.le_of_ble_eq_true rfl) ⟨hc, hs⟩ ?_
  refine s_icmp_eq_t rfl he.symm ?_
  exact w_re rfl (k q.2 (hR2.wide (by omega)))
def lT_plant : List ENT := [(2017, .aload_n 1, 2018, 0, 0, 0, nn), (2018, .aload_n 0, 2019, 0, 0, 0, nn), (2019, .iload 4, 2021, 0, 0, 0, nn), (2021, .iconst (1), 2022, 0, 0, 0, nn), (2022, .iadd, 2023, 0, 0, 0, nn), (2023, .iaload, 2024, 0, 0, 0, nn), (2024, .aload_n 0, 2025, 0, 0, 0, nn), (2025, .iload 4, 2027, 0, 0, 0, nn), (2027, .iconst (2), 2028, 0, 0, 0, nn), (2028, .iadd, 2029, 0, 0, 0, nn), (2029, .iaload, 2030, 0, 0, 0, nn), (2030, .aload_n 0, 2031, 0, 0, 0, nn), (2031, .iload 4, 2033, 0, 0, 0, nn), (2033, .iconst (3), 2034, 0, 0, 0, nn), (2034, .iadd, 2035, 0, 0, 0, nn), (2035, .iaload, 2036, 0, 0, 0, nn), (2036, .invokevirtual 224, 2039, 0, 0, 20624, y_dh_plant), (2039, .aload_n 2, 2040, 0, 0, 0, nn), (2040, .aload_n 0, 2041, 0, 0, 0, nn), (2041, .iload 4, 2043, 0, 0, 0, nn), (2043, .iconst (1), 2044, 0, 0, 0, nn), (2044, .iadd, 2045, 0, 0, 0, nn), (2045, .iaload, 2046, 0, 0, 0, nn), (2046, .aload_n 0, 2047, 0, 0, 0, nn), (2047, .iload 4, 2049, 0, 0, 0, nn), (2049, .iconst (2), 2050, 0, 0, 0, nn), (2050, .iadd, 2051, 0, 0, 0, nn), (2051, .iaload, 2052, 0, 0, 0, nn), (2052, .aload_n 0, 2053, 0, 0, 0, nn), (2053, .iload 4, 2055, 0, 0, 0, nn), (2055, .iconst (3), 2056, 0, 0, 0, nn), (2056, .iadd, 2057, 0, 0, 0, nn), (2057, .iaload, 2058, 0, 0, 0, nn), (2058, .invokevirtual 227, 2061, 0, 0, 32878, y_mo_plant), (2061, .if_icmp .eq (136), 2064, 2197, 0, 0, nn), (2064, .iconst (0), 2065, 0, 0, 0, nn), (2065, .ireturn, 2066, 0, 0, 0, nn)]
set_option maxRecDepth 100000 in
theorem lg_plant : lT_plant.all (chkE (lawT lT_plant)) = true := by decide +kernel
set_option maxRecDepth 20000 in
theorem law_plant {Δ : DT} {Γ : FT} {n : Nat} {xs : Nat → Int32} (SC : SCR Δ Γ n xs) : LCASE Δ Γ n xs 2017 := by
  intro i B M c s h0 h6 hR hB hc hs k
  obtain ⟨p, hp, q, hq, he, hR2⟩ := c_plant hR (by omega) (xs (i + 1).toNat).toInt (xs (i + 2).toNat).toInt (xs (i + 3).toNat).toInt
  refine w_wid (c + 1) (s + 6) (by omega) (by omega) ?_
  refine w_re (T' := lT_plant) lg_plant ?_
  refine w_aload_n rfl rfl ?_
  refine w_scr SC rfl rfl rfl rfl rfl rfl ⟨h0, by decide, by omega⟩ ?_
  refine w_scr SC rfl rfl rfl rfl rfl rfl ⟨h0, by decide, by omega⟩ ?_
  refine w_scr SC rfl rfl rfl rfl rfl rfl ⟨h0, by decide, by omega⟩ ?_
  refine l_call (as := [vI (xs (i + 1).toNat).toInt, vI (xs (i + 2).toNat).toInt, vI (xs (i + 3).toNat).toInt]) (st := []) (d := 1000) rfl (fun ho hM => cal_dh_plant (by decide) hp ho hM) v_dh_plant (Nat.le_of_ble_eq_true rfl) S_0 rfl (Nat.le_of_ble_eq_true rfl) ⟨hc, hs⟩ ?_
  refine w_aload_n rfl rfl ?_
  refine w_scr SC rfl rfl rfl rfl rfl rfl ⟨h0, by decide, by omega⟩ ?_
  refine w_scr SC rfl rfl rfl rfl rfl rfl ⟨h0, by decide, by omega⟩ ?_
  refine w_scr SC rfl rfl rfl rfl rfl rfl ⟨h0, by decide, by omega⟩ ?_
  refine l_call (as := [vI (xs (i + 1).toNat).toInt, vI (xs (i + 2).toNat).toInt, vI (xs (i + 3).toNat).toInt]) (st := [vI p.1]) (d := 1000) rfl (fun ho hM => cal_mo_plant (by decide) hq ho hM) v_mo_plant (Nat.le_of_ble_eq_true rfl) S_278 rfl (Nat.le_of_ble_eq_true rfl) ⟨hc, hs⟩ ?_
  refine s_icmp_eq_t rfl he.symm ?_
  exact w_re rfl (k q.2 (hR2.wide (by omega)))
def lT_keep : List ENT := [(2066, .aload_n 1, 2067, 0, 0, 0, nn), (2067, .aload_n 0, 2068, 0, 0, 0, nn), (2068, .iload 4, 2070, 0, 0, 0, nn), (2070, .iconst (1), 2071, 0, 0, 0, nn), (2071, .iadd, 2072, 0, 0, 0, nn), (2072, .iaload, 2073, 0, 0, 0, nn), (2073, .invokevirtual 228, 2076, 0, 0, 20628, y_dh_keep), (2076, .aload_n 2, 2077, 0, 0, 0, nn), (2077, .aload_n 0, 2078, 0, 0, 0, nn), (2078, .iload 4, 2080, 0, 0, 0, nn), (2080, .iconst (1), 2081, 0, 0, 0, nn), (2081, .iadd, 2082, 0, 0, 0, nn), (2082, .iaload, 2083, 0, 0, 0, nn), (2083, .invokevirtual 231, 2086, 0, 0, 32882, y_mo_keep), (2086, .if_icmp .eq (111), 2089, 2197, 0, 0, nn), (2089, .iconst (0), 2090, 0, 0, 0, nn), (2090, .ireturn, 2091, 0, 0, 0, nn)]
set_option maxRecDepth 100000 in
theorem lg_keep : lT_keep.all (chkE (lawT lT_keep)) = true := by decide +kernel
set_option maxRecDepth 20000 in
theorem law_keep {Δ : DT} {Γ : FT} {n : Nat} {xs : Nat → Int32} (SC : SCR Δ Γ n xs) : LCASE Δ Γ n xs 2066 := by
  intro i B M c s h0 h6 hR hB hc hs k
  obtain ⟨p, hp, q, hq, he, hR2⟩ := c_keep hR (xs (i + 1).toNat).toInt
  refine w_wid (c + 1) (s + 6) (by omega) (by omega) ?_
  refine w_re (T' := lT_keep) lg_keep ?_
  refine w_aload_n rfl rfl ?_
  refine w_scr SC rfl rfl rfl rfl rfl rfl ⟨h0, by decide, by omega⟩ ?_
  refine l_call (as := [vI (xs (i + 1).toNat).toInt]) (st := []) (d := 1000) rfl (fun ho hM => cal_dh_keep (by decide) hp ho hM) v_dh_keep (Nat.le_of_ble_eq_true rfl) S_0 rfl (Nat.le_of_ble_eq_true rfl) ⟨hc, hs⟩ ?_
  refine w_aload_n rfl rfl ?_
  refine w_scr SC rfl rfl rfl rfl rfl rfl ⟨h0, by decide, by omega⟩ ?_
  refine l_call (as := [vI (xs (i + 1).toNat).toInt]) (st := [vI p.1]) (d := 1000) rfl (fun ho hM => cal_mo_keep (by decide) hq ho hM) v_mo_keep (Nat.le_of_ble_eq_true rfl) S_278 rfl (Nat.le_of_ble_eq_true rfl) ⟨hc, hs⟩ ?_
  refine s_icmp_eq_t rfl he.symm ?_
  exact w_re rfl (k q.2 (hR2.wide (by omega)))
def lT_again : List ENT := [(2091, .aload_n 1, 2092, 0, 0, 0, nn), (2092, .aload_n 0, 2093, 0, 0, 0, nn), (2093, .iload 4, 2095, 0, 0, 0, nn), (2095, .iconst (1), 2096, 0, 0, 0, nn), (2096, .iadd, 2097, 0, 0, 0, nn), (2097, .iaload, 2098, 0, 0, 0, nn), (2098, .invokevirtual 232, 2101, 0, 0, 20634, y_dh_again), (2101, .aload_n 2, 2102, 0, 0, 0, nn), (2102, .aload_n 0, 2103, 0, 0, 0, nn), (2103, .iload 4, 2105, 0, 0, 0, nn), (2105, .iconst (1), 2106, 0, 0, 0, nn), (2106, .iadd, 2107, 0, 0, 0, nn), (2107, .iaload, 2108, 0, 0, 0, nn), (2108, .invokevirtual 235, 2111, 0, 0, 32886, y_mo_again), (2111, .if_icmp .eq (86), 2114, 2197, 0, 0, nn), (2114, .iconst (0), 2115, 0, 0, 0, nn), (2115, .ireturn, 2116, 0, 0, 0, nn)]
set_option maxRecDepth 100000 in
theorem lg_again : lT_again.all (chkE (lawT lT_again)) = true := by decide +kernel
set_option maxRecDepth 20000 in
theorem law_again {Δ : DT} {Γ : FT} {n : Nat} {xs : Nat → Int32} (SC : SCR Δ Γ n xs) : LCASE Δ Γ n xs 2091 := by
  intro i B M c s h0 h6 hR hB hc hs k
  obtain ⟨p, hp, q, hq, he, hR2⟩ := c_again hR (xs (i + 1).toNat).toInt
  refine w_wid (c + 1) (s + 6) (by omega) (by omega) ?_
  refine w_re (T' := lT_again) lg_again ?_
  refine w_aload_n rfl rfl ?_
  refine w_scr SC rfl rfl rfl rfl rfl rfl ⟨h0, by decide, by omega⟩ ?_
  refine l_call (as := [vI (xs (i + 1).toNat).toInt]) (st := []) (d := 1000) rfl (fun ho hM => cal_dh_again (by decide) hp ho hM) v_dh_again (Nat.le_of_ble_eq_true rfl) S_0 rfl (Nat.le_of_ble_eq_true rfl) ⟨hc, hs⟩ ?_
  refine w_aload_n rfl rfl ?_
  refine w_scr SC rfl rfl rfl rfl rfl rfl ⟨h0, by decide, by omega⟩ ?_
  refine l_call (as := [vI (xs (i + 1).toNat).toInt]) (st := [vI p.1]) (d := 1000) rfl (fun ho hM => cal_mo_again (by decide) hq ho hM) v_mo_again (Nat.le_of_ble_eq_true rfl) S_278 rfl (Nat.le_of_ble_eq_true rfl) ⟨hc, hs⟩ ?_
  refine s_icmp_eq_t rfl he.symm ?_
  exact w_re rfl (k q.2 (hR2.wide (by omega)))
def lT_count : List ENT := [(2116, .aload_n 1, 2117, 0, 0, 0, nn), (2117, .aload_n 0, 2118, 0, 0, 0, nn), (2118, .iload 4, 2120, 0, 0, 0, nn), (2120, .iconst (1), 2121, 0, 0, 0, nn), (2121, .iadd, 2122, 0, 0, 0, nn), (2122, .iaload, 2123, 0, 0, 0, nn), (2123, .invokevirtual 236, 2126, 0, 0, 20638, y_dh_count), (2126, .aload_n 2, 2127, 0, 0, 0, nn), (2127, .aload_n 0, 2128, 0, 0, 0, nn), (2128, .iload 4, 2130, 0, 0, 0, nn), (2130, .iconst (1), 2131, 0, 0, 0, nn), (2131, .iadd, 2132, 0, 0, 0, nn), (2132, .iaload, 2133, 0, 0, 0, nn), (2133, .invokevirtual 239, 2136, 0, 0, 32890, y_mo_count), (2136, .if_icmp .eq (61), 2139, 2197, 0, 0, nn), (2139, .iconst (0), 2140, 0, 0, 0, nn), (2140, .ireturn, 2141, 0, 0, 0, nn)]
set_option maxRecDepth 100000 in
theorem lg_count : lT_count.all (chkE (lawT lT_count)) = true := by decide +kernel
set_option maxRecDepth 20000 in
theorem law_count {Δ : DT} {Γ : FT} {n : Nat} {xs : Nat → Int32} (SC : SCR Δ Γ n xs) : LCASE Δ Γ n xs 2116 := by
  intro i B M c s h0 h6 hR hB hc hs k
  obtain ⟨p, hp, q, hq, he, hR2⟩ := c_count hR (by omega) (xs (i + 1).toNat).toInt
  obtain ⟨r, hr, rfl⟩ := bind_some hp
  refine w_wid (c + 1) (s + 6) (by omega) (by omega) ?_
  refine w_re (T' := lT_count) lg_count ?_
  refine w_aload_n rfl rfl ?_
  refine w_scr SC rfl rfl rfl rfl rfl rfl ⟨h0, by decide, by omega⟩ ?_
  refine l_call (as := [vI (xs (i + 1).toNat).toInt]) (st := []) (d := 1000) rfl (fun ho hM => cal_dh_count (by decide) hr ho hM) v_dh_count (Nat.le_of_ble_eq_true rfl) S_0 rfl (Nat.le_of_ble_eq_true rfl) ⟨hc, hs⟩ ?_
  refine w_aload_n rfl rfl ?_
  refine w_scr SC rfl rfl rfl rfl rfl rfl ⟨h0, by decide, by omega⟩ ?_
  refine l_call (as := [vI (xs (i + 1).toNat).toInt]) (st := [vI r]) (d := 1000) rfl (fun ho hM => cal_mo_count (by decide) hq ho hM) v_mo_count (Nat.le_of_ble_eq_true rfl) S_278 rfl (Nat.le_of_ble_eq_true rfl) ⟨hc, hs⟩ ?_
  refine s_icmp_eq_t rfl he.symm ?_
  exact w_re rfl (k q.2 (hR2.wide (by omega)))
def lT_row : List ENT := [(2141, .aload_n 1, 2142, 0, 0, 0, nn), (2142, .aload_n 0, 2143, 0, 0, 0, nn), (2143, .iload 4, 2145, 0, 0, 0, nn), (2145, .iconst (1), 2146, 0, 0, 0, nn), (2146, .iadd, 2147, 0, 0, 0, nn), (2147, .iaload, 2148, 0, 0, 0, nn), (2148, .aload_n 3, 2149, 0, 0, 0, nn), (2149, .invokestatic 240, 2152, 0, 0, 24579, ⟨"DonkeysHourLaw", "row", "(LDonkeysHour;I[J)I"⟩), (2152, .istore 5, 2154, 0, 0, 0, nn), (2154, .aload_n 2, 2155, 0, 0, 0, nn), (2155, .aload_n 0, 2156, 0, 0, 0, nn), (2156, .iload 4, 2158, 0, 0, 0, nn), (2158, .iconst (1), 2159, 0, 0, 0, nn), (2159, .iadd, 2160, 0, 0, 0, nn), (2160, .iaload, 2161, 0, 0, 0, nn), (2161, .invokevirtual 243, 2164, 0, 0, 32894, y_mo_row), (2164, .istore 6, 2166, 0, 0, 0, nn), (2166, .aload_n 2, 2167, 0, 0, 0, nn), (2167, .invokevirtual 55, 2170, 0, 0, 24760, y_mo_thrown), (2170, .iload 5, 2172, 0, 0, 0, nn), (2172, .if_icmp .eq (5), 2175, 2177, 0, 0, nn), (2175, .iconst (0), 2176, 0, 0, 0, nn), (2176, .ireturn, 2177, 0, 0, 0, nn), (2177, .iload 5, 2179, 0, 0, 0, nn), (2179, .ifCond .ne (15), 2182, 2194, 0, 0, nn), (2182, .aload_n 3, 2183, 0, 0, 0, nn), (2183, .iconst (0), 2184, 0, 0, 0, nn), (2184, .laload, 2185, 0, 0, 0, nn), (2185, .iload 6, 2187, 0, 0, 0, nn), (2187, .i2l, 2188, 0, 0, 0, nn), (2188, .lcmp, 2189, 0, 0, 0, nn), (2189, .ifCond .eq (5), 2192, 2194, 0, 0, nn), (2192, .iconst (0), 2193, 0, 0, 0, nn), (2193, .ireturn, 2194, 0, 0, 0, nn), (2194, .goto (3), 2197, 2197, 0, 0, nn)]
set_option maxRecDepth 100000 in
theorem lg_row : lT_row.all (chkE (lawT lT_row)) = true := by decide +kernel
set_option maxRecDepth 20000 in
theorem law_row {Δ : DT} {Γ : FT} {n : Nat} {xs : Nat → Int32} (SC : SCR Δ Γ n xs) (hl0 : Δ.1.stackTraces = false) (hX : XW Δ.2.1 Γ.2.2.2.1 Γ.2.2.2.1.heap) : LCASE Δ Γ n xs 2141 := by
  intro i B M c s h0 h6 hR hB hc hs k
  obtain ⟨o, ho, hpost⟩ := t_row hR (xs (i + 1).toNat).toInt
  have key : ∃ q, mo_row (xs (i + 1).toNat).toInt (oM o) = some q ∧ q.2 278 13 = oR o ∧ (oR o = 0 → q.2 307 0 = q.1) ∧ Rel B q.2 := by
    cases o with
    | inl M1 =>
      obtain ⟨q, hq, h13, hR2⟩ := hpost
      exact ⟨q, hq, h13, fun h => absurd (show (1 : Int) = 0 from h) (by decide), hR2⟩
    | inr p =>
      obtain ⟨q, hq, h13, he, h7, hR2⟩ := hpost (up2 p.2 307 0 p.1) (fun a ha => up2_ne ha)
      exact ⟨q, hq, h13, fun _ => by rw [h7, rd_same, he], hR2⟩
  obtain ⟨q, hq, h13, h7, hR2⟩ := key
  have hthr : mo_thrown q.2 = oR o := h13
  refine w_re (T' := lT_row) lg_row ?_
  refine w_aload_n rfl rfl ?_
  refine w_scr SC rfl rfl rfl rfl rfl rfl ⟨h0, by decide, by omega⟩ ?_
  refine w_aload_n rfl rfl ?_
  refine l_callw (as := [vR 0, vI (xs (i + 1).toNat).toInt, vR 307]) (st := []) (d := 1000) (hh := [(0, 9, 12, 13)]) rfl rfl (fun ho2 hM => calW_row (by decide) hl0 ho ho2 hM) v_la_row (Nat.le_of_ble_eq_true rfl) ⟨hc, hs⟩ hX ?_
  refine w_istore (L' := [vN, vR 0, vR 278, vR 307, vI i, vI (oR o), vN]) rfl (Nat.le_of_ble_eq_true rfl) rfl ?_
  refine w_aload_n rfl rfl ?_
  refine w_scr SC rfl rfl rfl rfl rfl rfl ⟨h0, by decide, by omega⟩ ?_
  refine l_call (as := [vI (xs (i + 1).toNat).toInt]) (st := []) (d := 1000) rfl (fun ho2 hM => cal_mo_row (by decide) hq ho2 hM) v_mo_row (Nat.le_of_ble_eq_true rfl) S_278 rfl (Nat.le_of_ble_eq_true rfl) ⟨hc, hs⟩ ?_
  refine w_istore (L' := [vN, vR 0, vR 278, vR 307, vI i, vI (oR o), vI q.1]) rfl (Nat.le_of_ble_eq_true rfl) rfl ?_
  refine w_aload_n rfl rfl ?_
  refine l_call (as := []) (st := []) (d := 1000) rfl (fun ho2 hM => cal_mo_thrown (by decide) ho2 hM) v_mo_thrown (Nat.le_of_ble_eq_true rfl) S_278 rfl (Nat.le_of_ble_eq_true rfl) ⟨hc, hs⟩ ?_
  refine w_iload rfl rfl ?_
  refine s_icmp_eq_t rfl hthr ?_
  refine w_iload rfl rfl ?_
  have fin : WAt Δ Γ false (lawT lT_row) 1001 2197 [vN, vR 0, vR 278, vR 307, vI i, vI (oR o), vI q.1] [] (NG, S0, q.2) (c + 1) (s + 6) :=
    w_forget (wk_k (wk_k (wk_k (wk_k (wk_k (wk_d (wk_d wk_0))))))) (w_re rfl (k q.2 (hR2.wide (by omega))))
  by_cases hz : oR o = 0
  · refine s_if_ne_f rfl hz ?_
    refine w_aload_n rfl rfl ?_
    refine w_iconst rfl (inR_c rfl) ?_
    refine w_lald rfl (Nat.le_of_ble_eq_true rfl) S_307 (by omega) (by decide) ?_
    refine w_iload rfl rfl ?_
    refine w_i2l rfl ?_
    refine w_lcmp_same rfl (h7 hz) ?_
    refine s_if_eq_t rfl rfl ?_
    exact w_goto rfl fin
  · refine s_if_ne_t rfl hz ?_
    exact w_goto rfl fin
