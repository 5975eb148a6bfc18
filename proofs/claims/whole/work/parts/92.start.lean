-- ===== what holds at the law's entry (written by wip/whole/gen/start.py) =====
theorem wat_in {z : Nat} {w : Cond} (h : decide (wat z = some w) = true) : w ∈ lw_tbl := wch_in _ w (List.mem_of_getElem? (of_decide_eq_true h))
def watAll : List Cond → List Nat → Bool
  | [], _ => true
  | w :: ws, z :: zs => decide (wat z = some w) && watAll ws zs
  | _ :: _, [] => false
theorem watAll_in : ∀ {ws : List Cond} {zs : List Nat}, watAll ws zs = true → ∀ w ∈ ws, w ∈ lw_tbl := by
  intro ws
  induction ws with
  | nil => intro zs _ w hw; cases hw
  | cons w ws ih =>
    intro zs h x hx
    cases zs with
    | nil => cases h
    | cons z zs =>
      have h : (decide (wat z = some w) && watAll ws zs) = true := h
      rw [Bool.and_eq_true] at h
      rcases List.mem_cons.mp hx with rfl | hx
      · exact wat_in h.1
      · exact ih h.2 x hx
set_option maxRecDepth 100000 in
theorem nest_at : watAll (nestL.map fun q => Cond.methodLinkNest q.1 q.2.1 q.2.2 "DonkeysHour") [4132, 4162, 4184, 4242, 4255, 4280, 4307, 8195, 8240, 8242, 16608] = true := by decide +kernel
set_option maxRecDepth 100000 in
theorem bad_at : watAll nsBad [20652, 20654, 20656, 20658] = true := by decide +kernel
set_option maxRecDepth 100000 in
theorem over_at : watAll [.arrayOver (.object "DonkeysHour$Beast"), .arrayOver (.object "DonkeysHour$Scene")] [4159, 8220] = true := by decide +kernel
set_option maxRecDepth 100000 in
theorem arr_at : watAll [.arrayClass .int, .arrayClass .byte, .arrayClass .boolean, .arrayClass .long] [4151, 12415, 24759, 32898] = true := by decide +kernel
set_option maxRecDepth 100000 in
theorem lays_at : watAll [.laysStatic "java/lang/String" "COMPACT_STRINGS" "Z", .initialized "java/lang/String", .laysStatic Bundle.tN "UNASSIGNED_STACK" Bundle.steD, .laysStatic Bundle.tN "SUPPRESSED_SENTINEL" Bundle.listD, .initialized Bundle.tN] [12313, 4111, 20677, 20679, 4117] = true := by decide +kernel
set_option maxRecDepth 100000 in
theorem text_at : watAll [.stringRef "DonkeysHour$Rule" 73 "hptfcmki", .stringRef "DonkeysHour" 142 "no such donkey, or nothing of it", .stringRef "DonkeysHour" 372 "no two such donkeys, or not so many minutes", .stringRef "DonkeysHour" 400 "no such number in the row"] [12299, 20689, 24578, 24586] = true := by decide +kernel
theorem and_l {a b : Bool} (h : (a && b) = true) : a = true := by
  rw [Bool.and_eq_true] at h
  exact h.1
theorem start_cls {s : State} {args : Array Value} (hts : ∀ w ∈ tblG, w.before args s = true) : ∃ D : va_G, ∀ (k : Nat) (q : vw_C), vwCl[k]? = some q → u_Kn s q.1 q.2.1 q.2.2 (D.1 k) (D.2 k) := by
  obtain ⟨c0, i0, h0⟩ := u_known (C := RX0) (T := TX0) (N := 5) (n := 5) hts (cl_in (ci := 0) rfl) (hts _ (wis_in (and_l ni_ac)))
  obtain ⟨c1, i1, h1⟩ := u_known (C := RX1) (T := TX1) (N := 6) (n := 6) hts (cl_in (ci := 1) rfl) (hts _ (wis_in (and_l ni_be)))
  obtain ⟨c2, i2, h2⟩ := u_known (C := RX2) (T := TX2) (N := 5) (n := 5) hts (cl_in (ci := 2) rfl) (hts _ (wis_in (and_l ni_ca)))
  obtain ⟨c3, i3, h3⟩ := u_known (C := RX3) (T := TX3) (N := 7) (n := 7) hts (cl_in (ci := 3) rfl) (hts _ (wis_in (and_l ni_co)))
  obtain ⟨c4, i4, h4⟩ := u_known (C := RX4) (T := TX4) (N := 2) (n := 2) hts (cl_in (ci := 4) rfl) (hts _ (wis_in (and_l ni_fl)))
  obtain ⟨c5, i5, h5⟩ := u_known (C := RX5) (T := TX5) (N := 11) (n := 11) hts (cl_in (ci := 5) rfl) (hts _ (wis_in (and_l ni_fu)))
  obtain ⟨c6, i6, h6⟩ := u_known (C := RX6) (T := TX6) (N := 3) (n := 3) hts (cl_in (ci := 6) rfl) (hts _ (wis_in (and_l ni_hi)))
  obtain ⟨c7, i7, h7⟩ := u_known (C := RX7) (T := TX7) (N := 6) (n := 6) hts (cl_in (ci := 7) rfl) (hts _ (wis_in (and_l ni_ru)))
  obtain ⟨c8, i8, h8⟩ := u_known (C := RX8) (T := TX8) (N := 4) (n := 4) hts (cl_in (ci := 8) rfl) (hts _ (wis_in (and_l ni_rm)))
  obtain ⟨c9, i9, h9⟩ := u_known (C := RX9) (T := TX9) (N := 6) (n := 6) hts (cl_in (ci := 9) rfl) (hts _ (wis_in (and_l ni_sc)))
  obtain ⟨c10, i10, h10⟩ := u_known (C := RX10) (T := TX10) (N := 4) (n := 4) hts (cl_in (ci := 10) rfl) (hts _ (wis_in (and_l ni_tx)))
  obtain ⟨c11, i11, h11⟩ := u_known (C := RX11) (T := TX11) (N := 15) (n := 15) hts (cl_in (ci := 11) rfl) (hts _ (wis_in (and_l ni_dh)))
  obtain ⟨c12, i12, h12⟩ := u_known (C := RX12) (T := TX12) (N := 55) (n := 55) hts (cl_in (ci := 12) rfl) (hts _ (wis_in (and_l ni_mo)))
  refine ⟨(fun k => match k with | 0 => c0 | 1 => c1 | 2 => c2 | 3 => c3 | 4 => c4 | 5 => c5 | 6 => c6 | 7 => c7 | 8 => c8 | 9 => c9 | 10 => c10 | 11 => c11 | _ => c12, fun k => match k with | 0 => i0 | 1 => i1 | 2 => i2 | 3 => i3 | 4 => i4 | 5 => i5 | 6 => i6 | 7 => i7 | 8 => i8 | 9 => i9 | 10 => i10 | 11 => i11 | _ => i12), ?_⟩
  intro k q hq
  match k, hq with
    | 0, hq =>
      have e := Option.some.inj hq
      subst e
      exact h0
    | 1, hq =>
      have e := Option.some.inj hq
      subst e
      exact h1
    | 2, hq =>
      have e := Option.some.inj hq
      subst e
      exact h2
    | 3, hq =>
      have e := Option.some.inj hq
      subst e
      exact h3
    | 4, hq =>
      have e := Option.some.inj hq
      subst e
      exact h4
    | 5, hq =>
      have e := Option.some.inj hq
      subst e
      exact h5
    | 6, hq =>
      have e := Option.some.inj hq
      subst e
      exact h6
    | 7, hq =>
      have e := Option.some.inj hq
      subst e
      exact h7
    | 8, hq =>
      have e := Option.some.inj hq
      subst e
      exact h8
    | 9, hq =>
      have e := Option.some.inj hq
      subst e
      exact h9
    | 10, hq =>
      have e := Option.some.inj hq
      subst e
      exact h10
    | 11, hq =>
      have e := Option.some.inj hq
      subst e
      exact h11
    | 12, hq =>
      have e := Option.some.inj hq
      subst e
      exact h12
    | j + 13, hq => exact absurd hq (by simp [vwCl])
theorem arr_of {s : State} {args : Array Value} {ty : FieldType} (h : (Cond.arrayClass ty).before args s = true) : ∃ c : ClassId, ArrOfT s c ty ∧ s.vm.findClass ("[" ++ ty.toString) = some c := by
  obtain ⟨c, k, comp, h1, h2, h3⟩ := Cond.arrayClass_spec (args := args) (first := s) (o := none) (s := s) (idx := []) h
  exact ⟨c, fun n z => ⟨fun k h => (by cases h), k, h2, comp, h3⟩, h1⟩
theorem arr_over {s : State} {args : Array Value} {C : String} (h : (Cond.arrayOver (.object C)).before args s = true) : ∃ c : ClassId, ArrOfT s c (.object C) ∧ va_RA s c (.object C) := by
  obtain ⟨comp, c, k, h1, -, h3, h4, h5⟩ := Cond.arrayOver_spec (args := args) (first := s) (o := none) (s := s) (idx := []) h
  exact ⟨c, fun n z => ⟨fun k h => (by cases h), k, h3, comp, h4⟩, ⟨k, comp, h3, h4, h1, h5⟩⟩
theorem start_kinds {s : State} {args : Array Value} (hts : ∀ w ∈ lw_tbl, w.before args s = true) : ∃ (D : va_G) (cA : Nat → ClassId), va_K D vwCl (tys cA) s := by
  obtain ⟨D, hD⟩ := start_cls (fun w hw => hts w (tblG_sub w hw))
  obtain ⟨a0, r0, t0⟩ := arr_of (hts _ (watAll_in arr_at (.arrayClass .int) (by simp)))
  obtain ⟨a1, r1, t1⟩ := arr_of (hts _ (watAll_in arr_at (.arrayClass .byte) (by simp)))
  obtain ⟨a2, r2, t2⟩ := arr_of (hts _ (watAll_in arr_at (.arrayClass .boolean) (by simp)))
  obtain ⟨a3, r3, t3⟩ := arr_of (hts _ (watAll_in arr_at (.arrayClass .long) (by simp)))
  obtain ⟨a4, r4, t4⟩ := arr_over (hts _ (watAll_in over_at (.arrayOver (.object "DonkeysHour$Beast")) (by simp)))
  obtain ⟨a5, r5, t5⟩ := arr_over (hts _ (watAll_in over_at (.arrayOver (.object "DonkeysHour$Scene")) (by simp)))
  refine ⟨D, fun k => match k with | 0 => a0 | 1 => a1 | 2 => a2 | 3 => a3 | 4 => a4 | _ => a5, hD, ?_⟩
  intro k q hq
  match k, hq with
  | 0, hq => have e := Option.some.inj hq; subst e; exact ⟨r0, t0⟩
  | 1, hq => have e := Option.some.inj hq; subst e; exact ⟨r1, t1⟩
  | 2, hq => have e := Option.some.inj hq; subst e; exact ⟨r2, t2⟩
  | 3, hq => have e := Option.some.inj hq; subst e; exact ⟨r3, t3⟩
  | 4, hq => have e := Option.some.inj hq; subst e; exact ⟨r4, t4⟩
  | 5, hq => have e := Option.some.inj hq; subst e; exact ⟨r5, t5⟩
  | j + 6, hq => exact absurd hq (by simp [tys])
theorem start_NW {s : State} {args : Array Value} (hts : ∀ w ∈ lw_tbl, w.before args s = true) : NW s :=
  ⟨fun q hq => va_Nw.of rfl (hts _ (watAll_in nest_at _ (List.mem_map_of_mem hq))), va_AO.of (hts _ (watAll_in over_at _ (by simp))), va_AO.of (hts _ (watAll_in over_at _ (by simp)))⟩
theorem start_TW {s : State} {args : Array Value} (hts : ∀ w ∈ lw_tbl, w.before args s = true) (hg : (Jvm.Cond.and given_1 narrow_1).before args s = true) : TW s.heap.size s s.heap := by
  have hs := flat_of_before _ hg
  have hA : ∀ a : Nat, a < s.heap.size → ¬ s.heap.size ≤ a := fun a h1 h2 => absurd h1 (Nat.not_lt.mpr h2)
  obtain ⟨adK, adV, hE, hev⟩ := vk_Sof (args := args) (s := s) (N := 1) (tm := fun _ => Term.string "DonkeysHour$Rule" 73) (len := [8]) (byt := [[104, 112, 116, 102, 99, 109, 107, 105]]) (A := fun q => s.heap.size ≤ q)
    (fun i hi => by obtain rfl : i = 0 := by omega
                    decide)
    (fun i hi => hs _ (by decide +kernel))
    (fun i hi => hs _ (by decide +kernel))
    (fun i hi => hs _ (by decide +kernel))
    (fun i hi => by obtain rfl : i = 0 := by omega
                    exact hs _ (by decide +kernel))
    (fun i hi j hj => by
      obtain rfl : i = 0 := by omega
      have hj : j < 8 := hj
      match j, hj with
      | 0, _ => exact hs _ (by decide +kernel)
      | 1, _ => exact hs _ (by decide +kernel)
      | 2, _ => exact hs _ (by decide +kernel)
      | 3, _ => exact hs _ (by decide +kernel)
      | 4, _ => exact hs _ (by decide +kernel)
      | 5, _ => exact hs _ (by decide +kernel)
      | 6, _ => exact hs _ (by decide +kernel)
      | 7, _ => exact hs _ (by decide +kernel)
      | j + 8, h => exact absurd h (by omega))
    (fun i j hi hj hn => absurd (show i = j by omega) hn) hA
  refine ⟨adK 0, adV 0, vk_R.of (hts _ (watAll_in text_at (.stringRef "DonkeysHour$Rule" 73 "hptfcmki") (by simp))) (hev 0 (by omega)), ⟨fun i hi => ?_, fun i j hi hj _ => by omega⟩, ?_⟩
  · obtain rfl : i = 0 := by omega
    exact hE.1 0 (by omega)
  · exact va_Zof (hts _ (watAll_in lays_at (.laysStatic "java/lang/String" "COMPACT_STRINGS" "Z") (by simp))) (hts _ (watAll_in lays_at (.initialized "java/lang/String") (by simp))) (va_eqt (hs _ (by decide +kernel))) hA
theorem start_XW {s : State} {args : Array Value} (hts : ∀ w ∈ lw_tbl, w.before args s = true) (hg : (Jvm.Cond.and given_1 narrow_1).before args s = true) : XW s.heap.size s s.heap := by
  have hs := flat_of_before _ hg
  have hA : ∀ a : Nat, a < s.heap.size → ¬ s.heap.size ≤ a := fun a h1 h2 => absurd h1 (Nat.not_lt.mpr h2)
  have tx : ∀ (k : Nat) (t : String), (Cond.stringRef "DonkeysHour" k t).before args s = true → (Cond.exactly (.string "DonkeysHour" k) "java/lang/String").before args s = true → ∃ a, vk_R "DonkeysHour" k t a s := by
    intro k t h1 h2
    obtain ⟨a, c, cA, kA, q1, -⟩ := Cond.exactly_spec (args := args) (first := s) (o := none) (s := s) (idx := []) (t := .string "DonkeysHour" k) (cls := "java/lang/String") h2
    exact ⟨a, vk_R.of h1 q1⟩
  refine ⟨vx_Zqof (hts _ (watAll_in lays_at (.laysStatic Bundle.tN "UNASSIGNED_STACK" Bundle.steD) (by simp))) (hts _ (watAll_in lays_at (.initialized Bundle.tN) (by simp))) (hs _ (by decide +kernel)) hA, vx_Zqof (hts _ (watAll_in lays_at (.laysStatic Bundle.tN "SUPPRESSED_SENTINEL" Bundle.listD) (by simp))) (hts _ (watAll_in lays_at (.initialized Bundle.tN) (by simp))) (hs _ (by decide +kernel)) hA, fun x hx => ?_, fun w hw => va_Nw.of (nsBad_tab w hw) (hts w (watAll_in bad_at w hw))⟩
  simp only [nsT, List.mem_cons, List.not_mem_nil, or_false] at hx
  rcases hx with rfl | rfl | rfl
  · exact tx _ _ (hts _ (watAll_in text_at _ (by simp))) (hs _ (by decide +kernel))
  · exact tx _ _ (hts _ (watAll_in text_at _ (by simp))) (hs _ (by decide +kernel))
  · exact tx _ _ (hts _ (watAll_in text_at _ (by simp))) (hs _ (by decide +kernel))
theorem M0_eq : up2 (up2 (up2 (up2 (fun _ _ => 0) 224 6 (-1)) 234 6 (-1)) 278 5 (-1)) 278 29 (-1) = M0 := by
  funext c k
  simp only [up2_at]
  unfold M0
  (repeat' split) <;> first | rfl | omega
theorem w_newl {Δ : DT} {Γ : FT} {md : MD} {d pc pc0 npc k1 k2 k3 : Nat} {mn : MethodName} {L st : List PV} {n : Nat} {S : Nat → SHP} {M : MEM} {cells slots : Nat} {N : Nat} (hi : lk md pc = some (pc0, Instr.newarray .long, npc, k1, k2, k3, mn)) (hz : (Cond.arrayClass .long).before Γ.2.2.2.2.2.1 Γ.2.2.2.1 = true) (hN : N ≤ 100000) (hS0 : S n = (2, 3, [N])) (hM0 : M n = fun _ => 0) (hcells : cells + 1 ≤ Γ.2.2.1.cells) (hslots : slots + N ≤ Γ.2.2.1.slots)
    (k : WAt Δ Γ true md d npc L (vR n :: st) (n + 1, S, M) (cells + 1) (slots + N)) : WAt Δ Γ true md d pc L (vI (N : Int) :: st) (n, S, M) cells slots := by
  intro F hL hst hM ls H locs hl hP hS hz'
  obtain ⟨-, hd, rfl, hq⟩ := lk_ok hi F.good
  have hsz : H.size = Δ.2.1 + n := hz' rfl
  have hNi : InR (N : Int) := hst.hd
  have hN1 : ¬ Int32.ofInt (N : Int) < 0 := fun q => by
    have := (iI_lt hNi (by unfold InR; omega)).mp (show Int32.ofInt (N : Int) < Int32.ofInt 0 from q)
    omega
  have hN2 : (Int32.ofInt (N : Int)).toNatClampNeg = N := by rw [iI_clamp hNi]; omega
  have hb : N * componentBytes (newarray.typeOf .long) ≤ 536870912 := by
    show N * 8 ≤ _
    omega
  refine va_newaK F.exec F.bytes (atype := .long) hz (g := F0 Γ.2.2.2.2.1 pc ls (.int (Int32.ofInt (N : Int)) :: st.map (rep Δ.2.1))) rfl hd rfl hN1 hN2 hb hcells hslots hsz fun H1 cA e1 z1 o1 hAr hNm => ?_
  have hcA : cA = Δ.2.2.2 3 := Option.some.inj (hNm.symm.trans (F.kinds.2 3 (Δ.2.2.2 3, .long) rfl).2)
  have hkk : ∀ (k : Nat) (x : Nat × va_E), (wL Δ.2.1 Δ.2.2.2 (n, S, M))[k]? = some x → H1[x.1]? = H[x.1]? := fun k x hx => o1 x.1 (by have := (hP k x hx).lt; omega)
  have hP1 : va_P Δ.2.2.1 vwCl (wL Δ.2.1 Δ.2.2.2 (n, S, M) ++ [(Δ.2.1 + n, sE Δ.2.1 Δ.2.2.2 (S n) (M n))]) H1 := (hP.kept hkk).app (fun k x hx => by
    have hz : k < 1 := (List.getElem?_eq_some_iff.mp hx).1
    rw [show k = 0 by omega] at hx
    cases hx
    rw [hS0, hM0]
    show H1[Δ.2.1 + n]? = some (vp_cell (Δ.2.2.2 3) (N, .inr (.inl (fun _ => Int64.ofInt 0))))
    rw [e1, hcA]
    rfl)
  rw [wL_push (S' := S) (M' := M) (fun _ _ => rfl) (fun _ _ => rfl)] at hP1
  exact k F hL (hst.tl.cons (show okV (vR n) from trivial)) hM ls H1 locs hl hP1 ⟨Nat.le_trans hS.1 (by omega), fun x h1 h2 => (o1 x (by have := hS.1; omega)).trans (hS.2.1 x h1 h2), hS.2.2⟩ (fun _ => by show H1.size = Δ.2.1 + (n + 1); omega)
