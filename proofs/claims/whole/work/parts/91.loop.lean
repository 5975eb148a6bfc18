-- ===== the law's loop (written by wip/whole/gen/law.py) =====
def lT_0 : List ENT := [(0, .new 8, 3, 0, 0, 4122, ⟨"DonkeysHour", "", ""⟩), (3, .dup, 4, 0, 0, 0, nn), (4, .invokespecial 23, 7, 0, 0, 4124, y_dh_init), (7, .astore_n 1, 8, 0, 0, 0, nn), (8, .new 24, 11, 0, 0, 24587, ⟨"DonkeysHourModel", "", ""⟩), (11, .dup, 12, 0, 0, 0, nn), (12, .invokespecial 26, 15, 0, 0, 24589, y_mo_init), (15, .astore_n 2, 16, 0, 0, 0, nn), (16, .iconst (1), 17, 0, 0, 0, nn), (17, .newarray .long, 19, 0, 0, 0, nn), (19, .astore_n 3, 20, 0, 0, 0, nn), (20, .iconst (0), 21, 0, 0, 0, nn), (21, .istore 4, 23, 0, 0, 0, nn), (23, .iload 4, 25, 0, 0, 0, nn), (25, .aload_n 0, 26, 0, 0, 0, nn), (26, .arraylength, 27, 0, 0, 0, nn), (27, .bipush (6), 29, 0, 0, 0, nn), (29, .isub, 30, 0, 0, 0, nn), (30, .if_icmp .gt (2173), 33, 2203, 0, 0, nn), (33, .aload_n 0, 34, 0, 0, 0, nn), (34, .iload 4, 36, 0, 0, 0, nn), (36, .iaload, 37, 0, 0, 0, nn), (37, .bipush (63), 39, 0, 0, 0, nn), (39, .iand, 40, 0, 0, 0, nn), (40, .tableswitch (2157) (0) (51) #[(224), (249), (274), (287), (300), (313), (381), (418), (467), (516), (577), (638), (651), (664), (689), (702), (715), (752), (789), (814), (851), (888), (925), (950), (987), (1060), (1073), (1122), (1171), (1208), (1233), (1282), (1343), (1404), (1453), (1502), (1551), (1600), (1613), (1638), (1663), (1676), (1713), (1793), (1830), (1879), (1928), (1977), (2026), (2051), (2076), (2101)], 264, 224, 0, 0, nn), (2197, .iinc 4 (6), 2200, 0, 0, 0, nn), (2200, .goto (-2177), 2203, 23, 0, 0, nn), (2203, .iconst (1), 2204, 0, 0, 0, nn), (2204, .ireturn, 2205, 0, 0, 0, nn)]
set_option maxRecDepth 100000 in
theorem lg_0 : lT_0.all (chkE (lawT lT_0)) = true := by decide +kernel
set_option maxRecDepth 20000 in
theorem law_disp {Δ : DT} {Γ : FT} {n : Nat} {xs : Nat → Int32} (SC : SCR Δ Γ n xs) (hl0 : Δ.1.stackTraces = false) (hX : XW Δ.2.1 Γ.2.2.2.1 Γ.2.2.2.1.heap) {i B : Int} {M : MEM} {c s : Nat} (h0 : 0 ≤ i) (h6 : i + 6 ≤ n) (hR : Rel B M) (hB : B ≤ 90000000) (hc : c + 1 ≤ Γ.2.2.1.cells) (hs : s + 6 ≤ Γ.2.2.1.slots)
    (k : ∀ M', Rel (B + 12000) M' → WAt Δ Γ false (lawT []) 1001 2197 (lawL i) [] (NG, S0, M') (c + 1) (s + 6)) (v : Nat) (hv : v ≤ 51) : WAt Δ Γ false (lawT lT_0) 1001 40 (lawL i) [vI (v : Int)] (NG, S0, M) c s := by
  match v, hv with
  | 0, _ =>
    refine w_tabIn (off := 224) (tgt := 264) rfl (by decide) (by decide) rfl (by decide) ?_
    exact w_re rfl (law_sign SC i B M c s h0 h6 hR hB hc hs k)
  | 1, _ =>
    refine w_tabIn (off := 249) (tgt := 289) rfl (by decide) (by decide) rfl (by decide) ?_
    exact w_re rfl (law_end SC i B M c s h0 h6 hR hB hc hs k)
  | 2, _ =>
    refine w_tabIn (off := 274) (tgt := 314) rfl (by decide) (by decide) rfl (by decide) ?_
    exact w_re rfl (law_stable SC i B M c s h0 h6 hR hB hc hs k)
  | 3, _ =>
    refine w_tabIn (off := 287) (tgt := 327) rfl (by decide) (by decide) rfl (by decide) ?_
    exact w_re rfl (law_flies SC i B M c s h0 h6 hR hB hc hs k)
  | 4, _ =>
    refine w_tabIn (off := 300) (tgt := 340) rfl (by decide) (by decide) rfl (by decide) ?_
    exact w_re rfl (law_rule SC i B M c s h0 h6 hR hB hc hs k)
  | 5, _ =>
    refine w_tabIn (off := 313) (tgt := 353) rfl (by decide) (by decide) rfl (by decide) ?_
    exact w_re rfl (law_donkey SC hl0 hX i B M c s h0 h6 hR hB hc hs k)
  | 6, _ =>
    refine w_tabIn (off := 381) (tgt := 421) rfl (by decide) (by decide) rfl (by decide) ?_
    exact w_re rfl (law_thistles SC i B M c s h0 h6 hR hB hc hs k)
  | 7, _ =>
    refine w_tabIn (off := 418) (tgt := 458) rfl (by decide) (by decide) rfl (by decide) ?_
    exact w_re rfl (law_sow SC i B M c s h0 h6 hR hB hc hs k)
  | 8, _ =>
    refine w_tabIn (off := 467) (tgt := 507) rfl (by decide) (by decide) rfl (by decide) ?_
    exact w_re rfl (law_set SC i B M c s h0 h6 hR hB hc hs k)
  | 9, _ =>
    refine w_tabIn (off := 516) (tgt := 556) rfl (by decide) (by decide) rfl (by decide) ?_
    exact w_re rfl (law_sheet SC i B M c s h0 h6 hR hB hc hs k)
  | 10, _ =>
    refine w_tabIn (off := 577) (tgt := 617) rfl (by decide) (by decide) rfl (by decide) ?_
    exact w_re rfl (law_carrot SC i B M c s h0 h6 hR hB hc hs k)
  | 11, _ =>
    refine w_tabIn (off := 638) (tgt := 678) rfl (by decide) (by decide) rfl (by decide) ?_
    exact w_re rfl (law_eat SC i B M c s h0 h6 hR hB hc hs k)
  | 12, _ =>
    refine w_tabIn (off := 651) (tgt := 691) rfl (by decide) (by decide) rfl (by decide) ?_
    exact w_re rfl (law_minute SC i B M c s h0 h6 hR hB hc hs k)
  | 13, _ =>
    refine w_tabIn (off := 664) (tgt := 704) rfl (by decide) (by decide) rfl (by decide) ?_
    exact w_re rfl (law_minutes SC i B M c s h0 h6 hR hB hc hs k)
  | 14, _ =>
    refine w_tabIn (off := 689) (tgt := 729) rfl (by decide) (by decide) rfl (by decide) ?_
    exact w_re rfl (law_day SC i B M c s h0 h6 hR hB hc hs k)
  | 15, _ =>
    refine w_tabIn (off := 702) (tgt := 742) rfl (by decide) (by decide) rfl (by decide) ?_
    exact w_re rfl (law_undo SC i B M c s h0 h6 hR hB hc hs k)
  | 16, _ =>
    refine w_tabIn (off := 715) (tgt := 755) rfl (by decide) (by decide) rfl (by decide) ?_
    exact w_re rfl (law_struck SC i B M c s h0 h6 hR hB hc hs k)
  | 17, _ =>
    refine w_tabIn (off := 752) (tgt := 792) rfl (by decide) (by decide) rfl (by decide) ?_
    exact w_re rfl (law_took SC i B M c s h0 h6 hR hB hc hs k)
  | 18, _ =>
    refine w_tabIn (off := 789) (tgt := 829) rfl (by decide) (by decide) rfl (by decide) ?_
    exact w_re rfl (law_longest SC i B M c s h0 h6 hR hB hc hs k)
  | 19, _ =>
    refine w_tabIn (off := 814) (tgt := 854) rfl (by decide) (by decide) rfl (by decide) ?_
    exact w_re rfl (law_ahead SC i B M c s h0 h6 hR hB hc hs k)
  | 20, _ =>
    refine w_tabIn (off := 851) (tgt := 891) rfl (by decide) (by decide) rfl (by decide) ?_
    exact w_re rfl (law_when SC i B M c s h0 h6 hR hB hc hs k)
  | 21, _ =>
    refine w_tabIn (off := 888) (tgt := 928) rfl (by decide) (by decide) rfl (by decide) ?_
    exact w_re rfl (law_strikes SC i B M c s h0 h6 hR hB hc hs k)
  | 22, _ =>
    refine w_tabIn (off := 925) (tgt := 965) rfl (by decide) (by decide) rfl (by decide) ?_
    exact w_re rfl (law_stops SC i B M c s h0 h6 hR hB hc hs k)
  | 23, _ =>
    refine w_tabIn (off := 950) (tgt := 990) rfl (by decide) (by decide) rfl (by decide) ?_
    exact w_re rfl (law_eats SC i B M c s h0 h6 hR hB hc hs k)
  | 24, _ =>
    refine w_tabIn (off := 987) (tgt := 1027) rfl (by decide) (by decide) rfl (by decide) ?_
    exact w_re rfl (law_owe SC i B M c s h0 h6 hR hB hc hs k)
  | 25, _ =>
    refine w_tabIn (off := 1060) (tgt := 1100) rfl (by decide) (by decide) rfl (by decide) ?_
    exact w_re rfl (law_tear SC i B M c s h0 h6 hR hB hc hs k)
  | 26, _ =>
    refine w_tabIn (off := 1073) (tgt := 1113) rfl (by decide) (by decide) rfl (by decide) ?_
    exact w_re rfl (law_due SC i B M c s h0 h6 hR hB hc hs k)
  | 27, _ =>
    refine w_tabIn (off := 1122) (tgt := 1162) rfl (by decide) (by decide) rfl (by decide) ?_
    exact w_re rfl (law_owes SC i B M c s h0 h6 hR hB hc hs k)
  | 28, _ =>
    refine w_tabIn (off := 1171) (tgt := 1211) rfl (by decide) (by decide) rfl (by decide) ?_
    exact w_re rfl (law_reading SC i B M c s h0 h6 hR hB hc hs k)
  | 29, _ =>
    refine w_tabIn (off := 1208) (tgt := 1248) rfl (by decide) (by decide) rfl (by decide) ?_
    exact w_re rfl (law_mildest SC i B M c s h0 h6 hR hB hc hs k)
  | 30, _ =>
    refine w_tabIn (off := 1233) (tgt := 1273) rfl (by decide) (by decide) rfl (by decide) ?_
    exact w_re rfl (law_leave SC i B M c s h0 h6 hR hB hc hs k)
  | 31, _ =>
    refine w_tabIn (off := 1282) (tgt := 1322) rfl (by decide) (by decide) rfl (by decide) ?_
    exact w_re rfl (law_sure SC i B M c s h0 h6 hR hB hc hs k)
  | 32, _ =>
    refine w_tabIn (off := 1343) (tgt := 1383) rfl (by decide) (by decide) rfl (by decide) ?_
    exact w_re rfl (law_missed SC i B M c s h0 h6 hR hB hc hs k)
  | 33, _ =>
    refine w_tabIn (off := 1404) (tgt := 1444) rfl (by decide) (by decide) rfl (by decide) ?_
    exact w_re rfl (law_bribe SC i B M c s h0 h6 hR hB hc hs k)
  | 34, _ =>
    refine w_tabIn (off := 1453) (tgt := 1493) rfl (by decide) (by decide) rfl (by decide) ?_
    exact w_re rfl (law_rests SC i B M c s h0 h6 hR hB hc hs k)
  | 35, _ =>
    refine w_tabIn (off := 1502) (tgt := 1542) rfl (by decide) (by decide) rfl (by decide) ?_
    exact w_re rfl (law_bid SC i B M c s h0 h6 hR hB hc hs k)
  | 36, _ =>
    refine w_tabIn (off := 1551) (tgt := 1591) rfl (by decide) (by decide) rfl (by decide) ?_
    exact w_re rfl (law_heard SC i B M c s h0 h6 hR hB hc hs k)
  | 37, _ =>
    refine w_tabIn (off := 1600) (tgt := 1640) rfl (by decide) (by decide) rfl (by decide) ?_
    exact w_re rfl (law_forget SC i B M c s h0 h6 hR hB hc hs k)
  | 38, _ =>
    refine w_tabIn (off := 1613) (tgt := 1653) rfl (by decide) (by decide) rfl (by decide) ?_
    exact w_re rfl (law_hungers SC i B M c s h0 h6 hR hB hc hs k)
  | 39, _ =>
    refine w_tabIn (off := 1638) (tgt := 1678) rfl (by decide) (by decide) rfl (by decide) ?_
    exact w_re rfl (law_ways SC i B M c s h0 h6 hR hB hc hs k)
  | 40, _ =>
    refine w_tabIn (off := 1663) (tgt := 1703) rfl (by decide) (by decide) rfl (by decide) ?_
    exact w_re rfl (law_swarms SC i B M c s h0 h6 hR hB hc hs k)
  | 41, _ =>
    refine w_tabIn (off := 1676) (tgt := 1716) rfl (by decide) (by decide) rfl (by decide) ?_
    exact w_re rfl (law_span SC i B M c s h0 h6 hR hB hc hs k)
  | 42, _ =>
    refine w_tabIn (off := 1713) (tgt := 1753) rfl (by decide) (by decide) rfl (by decide) ?_
    exact w_re rfl (law_apart SC hl0 hX i B M c s h0 h6 hR hB hc hs k)
  | 43, _ =>
    refine w_tabIn (off := 1793) (tgt := 1833) rfl (by decide) (by decide) rfl (by decide) ?_
    exact w_re rfl (law_together SC i B M c s h0 h6 hR hB hc hs k)
  | 44, _ =>
    refine w_tabIn (off := 1830) (tgt := 1870) rfl (by decide) (by decide) rfl (by decide) ?_
    exact w_re rfl (law_join SC i B M c s h0 h6 hR hB hc hs k)
  | 45, _ =>
    refine w_tabIn (off := 1879) (tgt := 1919) rfl (by decide) (by decide) rfl (by decide) ?_
    exact w_re rfl (law_shows SC i B M c s h0 h6 hR hB hc hs k)
  | 46, _ =>
    refine w_tabIn (off := 1928) (tgt := 1968) rfl (by decide) (by decide) rfl (by decide) ?_
    exact w_re rfl (law_egg SC i B M c s h0 h6 hR hB hc hs k)
  | 47, _ =>
    refine w_tabIn (off := 1977) (tgt := 2017) rfl (by decide) (by decide) rfl (by decide) ?_
    exact w_re rfl (law_plant SC i B M c s h0 h6 hR hB hc hs k)
  | 48, _ =>
    refine w_tabIn (off := 2026) (tgt := 2066) rfl (by decide) (by decide) rfl (by decide) ?_
    exact w_re rfl (law_keep SC i B M c s h0 h6 hR hB hc hs k)
  | 49, _ =>
    refine w_tabIn (off := 2051) (tgt := 2091) rfl (by decide) (by decide) rfl (by decide) ?_
    exact w_re rfl (law_again SC i B M c s h0 h6 hR hB hc hs k)
  | 50, _ =>
    refine w_tabIn (off := 2076) (tgt := 2116) rfl (by decide) (by decide) rfl (by decide) ?_
    exact w_re rfl (law_count SC i B M c s h0 h6 hR hB hc hs k)
  | 51, _ =>
    refine w_tabIn (off := 2101) (tgt := 2141) rfl (by decide) (by decide) rfl (by decide) ?_
    exact w_re rfl (law_row SC hl0 hX i B M c s h0 h6 hR hB hc hs k)
  | j + 52, h => exact absurd h (by omega)
theorem law_step {Δ : DT} {Γ : FT} {n : Nat} {xs : Nat → Int32} (SC : SCR Δ Γ n xs) (hl0 : Δ.1.stackTraces = false) (hX : XW Δ.2.1 Γ.2.2.2.1 Γ.2.2.2.1.heap) {i B : Int} {M : MEM} {c s : Nat} (h0 : 0 ≤ i) (h6 : i + 6 ≤ n) (hR : Rel B M) (hB : B ≤ 90000000) (hc : c + 1 ≤ Γ.2.2.1.cells) (hs : s + 6 ≤ Γ.2.2.1.slots)
    (k : ∀ M', Rel (B + 12000) M' → WAt Δ Γ false (lawT []) 1001 2197 (lawL i) [] (NG, S0, M') (c + 1) (s + 6)) (v : Int) : WAt Δ Γ false (lawT lT_0) 1001 40 (lawL i) [vI v] (NG, S0, M) c s := by
  by_cases hv : v < 0 ∨ 51 < v
  · refine w_tabOut (tgt := 2197) rfl hv (by decide) ?_
    exact w_wid (c + 1) (s + 6) (by omega) (by omega) (w_re rfl (k M (hR.wide (by omega))))
  · obtain ⟨u, rfl⟩ : ∃ u : Nat, v = (u : Int) := ⟨v.toNat, by omega⟩
    exact law_disp SC hl0 hX h0 h6 hR hB hc hs k u (by omega)
set_option maxRecDepth 20000 in
theorem law_loop {Δ : DT} {Γ : FT} {n : Nat} {xs : Nat → Int32} (SC : SCR Δ Γ n xs) (hl0 : Δ.1.stackTraces = false) (hX : XW Δ.2.1 Γ.2.2.2.1 Γ.2.2.2.1.heap)
    (kend : ∀ (i : Int) (M : MEM) (c s : Nat), c ≤ Γ.2.2.1.cells → s ≤ Γ.2.2.1.slots → WAt Δ Γ false (lawT lT_0) 1001 2203 (lawL i) [] (NG, S0, M) c s) :
    ∀ (f : Nat) (i B : Int) (M : MEM) (c s : Nat), 0 ≤ i → (n : Int) < i + 6 * f + 6 → i ≤ 3078 → Rel B M → B + 12000 * f ≤ 90000000 → c + f ≤ Γ.2.2.1.cells → s + 6 * f ≤ Γ.2.2.1.slots → WAt Δ Γ false (lawT lT_0) 1001 23 (lawL i) [] (NG, S0, M) c s := by
  intro f
  have hn := SC.le
  induction f with
  | zero =>
    intro i B M c s h0 hf hi hR hB hc hs
    refine w_iload rfl rfl ?_
    refine w_slen SC rfl rfl ?_
    refine w_bipush rfl (bip_c rfl) ?_
    refine w_isub rfl ?_
    rw [wr_i (by omega) (by omega)]
    exact w_icmp_gt rfl (fun _ => kend i M c s (by omega) (by omega)) (fun h => absurd (by omega) h)
  | succ f ih =>
    intro i B M c s h0 hf hi hR hB hc hs
    refine w_iload rfl rfl ?_
    refine w_slen SC rfl rfl ?_
    refine w_bipush rfl (bip_c rfl) ?_
    refine w_isub rfl ?_
    rw [wr_i (by omega) (by omega)]
    refine w_icmp_gt rfl (fun _ => kend i M c s (by omega) (by omega)) (fun h => ?_)
    refine w_scr0 SC rfl rfl rfl rfl (by omega) ?_
    refine w_bipush rfl (bip_c rfl) ?_
    refine w_iand rfl ?_
    refine law_step SC hl0 hX (B := B) h0 (by omega) hR (by omega) (by omega) (by omega) (fun M' hR' => ?_) _
    refine w_re lg_0 ?_
    refine w_iinc (L' := lawL (wr (i + 6))) rfl rfl (Nat.le_of_ble_eq_true rfl) rfl ?_
    rw [wr_i (by omega) (by omega)]
    refine w_goto rfl ?_
    exact ih (i + 6) (B + 12000) M' (c + 1) (s + 6) (by omega) (by omega) (by omega) hR' (by omega) (by omega) (by omega)
