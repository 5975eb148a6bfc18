-- ===== methods that throw (written by wip/whole/gen/throw.py) =====
def nsNames : List String := ["java/lang/RuntimeException", "java/lang/Exception"]
abbrev nsL (ic : Nat) : List Cond := xx_at "DonkeysHour" ic "java/util/NoSuchElementException" 13 prog_30_method_4_code nsNames
def nsBad : List Cond := [.castable "java/util/NoSuchElementException" "java/util/NoSuchElementException", .declares (Bundle.initS "java/lang/RuntimeException"), .declares (Bundle.initS "java/lang/Exception"), .declares (Bundle.initS "java/lang/Throwable")]
def nsPl : List Nat := [4117, 20672, 20681, 20683, 20686, 20688, 20673, 20674, 4128, 4129, 20675, 20680, 20684, 20704, 20662, 20705, 20664, 20706, 20666, 20676, 20678, 20668, 20700, 20701, 20703, 20668, 20691, 20692, 20693, 20694, 20694, 20695, 20696, 20697, 20697, 20698, 20699, 20700, 20690, 20651, 20659, 20660, 20661, 20663, 20665, 20667, 20671, 20670, 20669]
def wisAll : List Cond → List Nat → Bool
  | [], _ => true
  | w :: ws, z :: zs => wis z w && wisAll ws zs
  | _ :: _, [] => false
theorem wisAll_in : ∀ {ws : List Cond} {zs : List Nat}, wisAll ws zs = true → ∀ w ∈ ws, w ∈ tblG := by
  intro ws
  induction ws with
  | nil => intro zs _ w hw; cases hw
  | cons w ws ih =>
    intro zs h x hx
    cases zs with
    | nil => cases h
    | cons z zs =>
      have h : (wis z w && wisAll ws zs) = true := h
      rw [Bool.and_eq_true] at h
      rcases List.mem_cons.mp hx with rfl | hx
      · exact wis_in h.1
      · exact ih h.2 x hx
set_option maxRecDepth 100000 in
theorem ns_good : wisAll ((nsL 144).filter goodWord) nsPl = true := by decide +kernel
set_option maxRecDepth 100000 in
theorem ns_bad : ((nsL 144).filter (fun w => !goodWord w)).all (fun w => decide (w ∈ nsBad)) = true := by decide +kernel
set_option maxRecDepth 100000 in
theorem ns_ot : (Cond.classLink "DonkeysHour" 140 "java/util/NoSuchElementException" :: Cond.initialized "java/util/NoSuchElementException" :: nsL 144).all vx_ot = true := by decide +kernel
set_option maxRecDepth 100000 in
theorem ns_two : (wis 20650 (.classLink "DonkeysHour" 140 "java/util/NoSuchElementException") && wis 4120 (.initialized "java/util/NoSuchElementException")) = true := by decide +kernel
set_option maxRecDepth 100000 in
theorem ns_fit : Bundle.fit "java/util/NoSuchElementException" = true ∧ nsNames.all Bundle.fit = true := by decide +kernel
theorem ns_d0 : decode prog_30_method_4_code 0 = .ok (.aload_n 0, 1) := by decide +kernel
theorem ns_d1 : decode prog_30_method_4_code 1 = .ok (.aload_n 1, 1) := by decide +kernel
theorem ns_d2 : decode prog_30_method_4_code 2 = .ok (.invokespecial 13, 3) := by decide +kernel
theorem ns_d5 : decode prog_30_method_4_code 5 = .ok (.return_, 1) := by decide +kernel
/-- the places of THE three texts in the pool, the texts -/
def nsT : List (Nat × String) := [(142, "no such donkey, or nothing of it"), (372, "no two such donkeys, or not so many minutes"), (400, "no such number in the row")]
/-- what a throw stands on, beside the tables -/
def XW (B : Nat) (U : State) (H : Heap) : Prop :=
  vx_Zq Bundle.tN "UNASSIGNED_STACK" Bundle.steD (fun q => B ≤ q) U H ∧ vx_Zq Bundle.tN "SUPPRESSED_SENTINEL" Bundle.listD (fun q => B ≤ q) U H ∧ (∀ x ∈ nsT, ∃ a, vk_R "DonkeysHour" x.1 x.2 a U) ∧ ∀ w ∈ nsBad, va_Nw w U
theorem nsBad_warm {s U : State} (hW : s.WarmedH U.vm) (h : ∀ w ∈ nsBad, va_Nw w s) : ∀ w ∈ nsBad, va_Nw w U := by
  intro w hw
  have h1 := h w hw
  simp only [nsBad, List.mem_cons, List.not_mem_nil, or_false] at hw
  rcases hw with rfl | rfl | rfl | rfl
  · exact va_Nw.warmC hW h1
  · exact va_Nw.warmD hW h1
  · exact va_Nw.warmD hW h1
  · exact va_Nw.warmD hW h1
theorem nsBad_tab : ∀ w ∈ nsBad, w.onTables = true := by
  intro w hw
  simp only [nsBad, List.mem_cons, List.not_mem_nil, or_false] at hw
  rcases hw with rfl | rfl | rfl | rfl <;> rfl
theorem XW.go {B : Nat} {s U : State} {H H1 : Heap} {locs : List Loc} (hW : s.WarmedH U.vm) (hS : va_S (fun q => B ≤ q) H H1 locs) (h : XW B s H) : XW B U H1 :=
  ⟨(vx_Zq.moved hW.alike h.1).kept hS.2.1, (vx_Zq.moved hW.alike h.2.1).kept hS.2.1, fun x hx => (h.2.2.1 x hx).imp (fun _ q => vk_R.warm hW q), nsBad_warm hW h.2.2.2⟩
theorem XW.same {B : Nat} {s U : State} {H : Heap} (hW : U.vm = s.vm) (hA : s.vm.Alike U.vm) (h : XW B s H) : XW B U H :=
  ⟨vx_Zq.moved hA h.1, vx_Zq.moved hA h.2.1, fun x hx => (h.2.2.1 x hx).imp (fun _ q => vk_R.same hW q), fun w hw => va_Nw.same (nsBad_tab w hw) hW.symm (h.2.2.2 w hw)⟩
theorem ns_hat {args : Array Value} {s : State} {B : Nat} (hts : ∀ w ∈ tblG, w.before args s = true) (hX : XW B s s.heap) : ∀ w ∈ nsL 144, w.before args s = true :=
  vx_hat (L := nsL 144) (B := nsBad) (fun w hw => hts w (wisAll_in ns_good w hw)) (fun w hw => of_decide_eq_true (List.all_eq_true.mp ns_bad w hw)) (fun w hw => va_Nw.use (nsBad_tab w hw) (hX.2.2.2 w hw))
def RepX (Δ : DT) (w : WD) (U : State) : Prop := RepS Δ false w U ∧ XW Δ.2.1 U U.heap
theorem RepX.blind {Δ : DT} {w : WD} {as : List Value} : FrameBlind (va_Pc as (RepX Δ w)) := by
  intro a U g mk h
  obtain ⟨h0, ⟨hP, hK, hB, hz, hN, hT⟩, hX⟩ := h
  exact ⟨h0, ⟨hP, va_K.moved (u := U) (U := U.calling g mk a) (Vm.Alike.refl U.vm) hK, hB, hz, hN.same rfl, TW.same (U := U.calling g mk a) rfl (Vm.Alike.refl U.vm) hT⟩, XW.same (s := U) (U := U.calling g mk a) (H := U.heap) rfl (Vm.Alike.refl U.vm) hX⟩
/-- an answer, with its memory; or thrown, the memory as it was then -/
abbrev OT := MEM ⊕ (Int × MEM)
def QT (Δ : DT) (o : OT) : Array Value → State → Outcome → State → Prop := va_Qi (fun v (_ : Unit) => ∃ p, o = .inr p ∧ v = Int32.ofInt p.1 ∧ InR p.1) (fun _ t => ∃ p, o = .inr p ∧ RepS Δ false (NG, S0, p.2) t ∧ okM p.2) (own Δ)
def XT (Δ : DT) (o : OT) : String → State → State → Prop := vx_X (fun _ : Unit => True) (fun E _ t => ∃ M1, o = .inl M1 ∧ E = "java/util/NoSuchElementException" ∧ va_P Δ.2.2.1 vwCl (wL Δ.2.1 Δ.2.2.2 (NG, S0, M1)) t.heap ∧ okM M1) (own Δ)
def CalT (Δ : DT) (md : MD) (d : Nat) (as : List PV) (M : MEM) (o : OT) : Prop :=
  vx_Met Δ.1 md.1 (wsOf md) (rmOf d 1 6) (va_Pc (as.map (rep Δ.2.1)) (RepX Δ (NG, S0, M))) (QT Δ o) (XT Δ o) 1 6 (own Δ)
/-- a throw's end -/
def ThrowEnd (Δ : DT) (Γ : FT) (o : OT) : Prop := Γ.2.2.2.2.2.2.2.2.2 = vx_MQ Γ.2.2.2.2.2.2.1 (QT Δ o) (XT Δ o) Γ.2.2.2.2.2.1 Γ.2.2.2.1 1 6 (own Δ)

theorem w_throwS {Δ : DT} {Γ : FT} {md : MD} {d pc is : Nat} {tx : String} {L : List PV} {M1 : MEM} {o : OT} (hcls : md.1.cls = "DonkeysHour") (hd : 6 ≤ d) (hl0 : Δ.1.stackTraces = false) (hX : XW Δ.2.1 Γ.2.2.2.1 Γ.2.2.2.1.heap) (hin : (is, tx) ∈ nsT)
    (d0 : decode md.2.1 pc = .ok (.new 140, 3)) (d3 : decode md.2.1 (pc + 3) = .ok (.dup, 1)) (d4 : decode md.2.1 (pc + 4) = .ok (.ldc is, 2)) (d6 : decode md.2.1 (pc + 6) = .ok (.invokespecial 144, 3)) (d9 : decode md.2.1 (pc + 9) = .ok (.athrow, 1))
    (hout : ∀ x ∈ Γ.2.2.2.2.2.2.2.2.1.exceptionTable.toList, False) (hroom : 1 ≤ Γ.2.2.1.cells ∧ 6 ≤ Γ.2.2.1.slots) (hQ : ThrowEnd Δ Γ o) (ho : o = .inl M1) : WAt Δ Γ false md d pc L [] (NG, S0, M1) 0 0 := by
  intro F hL hst hM ls H locs hl hP hS hz
  unfold ThrowEnd at hQ
  rw [hQ]
  obtain ⟨a, ha⟩ := hX.2.2.1 _ hin
  have h2 := ns_two
  rw [Bool.and_eq_true] at h2
  have fr := F.fr
  have lo := F.lo
  have hmaxL : ls.size = Γ.2.2.2.2.2.2.2.2.1.maxLocals := hl.1.trans F.maxL.symm
  refine xx_make (own := "DonkeysHour") (cls := "java/util/NoSuchElementException") (text := tx) (names := nsNames) (ik := 140) (is := is) (ic := 144) (sa := a) (A := own Δ) F.exec F.bytes hl0 ns_d0 ns_d1 ns_d2 ns_d5 (by rw [← hcls]; exact F.own) ns_fit.1 (fun n hn => List.all_eq_true.mp ns_fit.2 n hn)
    (F.ts _ (wis_in h2.1)) (F.ts _ (wis_in h2.2)) ha (ns_hat F.ts hX) (fun w hw => List.all_eq_true.mp ns_ot w hw) hX.1 hX.2.1 hS hmaxL d0 d3 d4 d6 (by show 2 + 3 < _; omega) (by show 0 + (13 * (2 + 1) + 43) ≤ _; omega) (by omega) (by omega) (fun q ce H1 hq hvm hcl hsz hk hS1 => ?_)
  refine vx_athrow F.exec F.bytes d9 (vx_out (fun x hx => (hout x hx).elim) F.locks hq hvm hcl (fun t ht hW => ?_) hS1.2.2 (Nat.le_refl _) (Nat.le_refl _))
  exact ⟨(), trivial, ⟨M1, ho, rfl, by rw [ht]; exact hP.kept (fun k x hx => hk x.1 ((hP k x hx).lt)), hM⟩, hS1.F ht⟩

theorem w_throwW {Δ : DT} {Γ : FT} {md : MD} {d pc is : Nat} {tx : String} {L : List PV} {M1 : MEM} {o : OT} (hcls : md.1.cls = "DonkeysHour") (hd : 6 ≤ d) (hl0 : Δ.1.stackTraces = false) (hX : XW Δ.2.1 Γ.2.2.2.1 Γ.2.2.2.1.heap) (hin : (is, tx) ∈ nsT)
    (d0 : decode md.2.1 pc = .ok (.new 140, 3)) (d3 : decode md.2.1 (pc + 3) = .ok (.dup, 1)) (d4 : decode md.2.1 (pc + 4) = .ok (.ldc_w is, 3)) (d6 : decode md.2.1 (pc + 7) = .ok (.invokespecial 144, 3)) (d9 : decode md.2.1 (pc + 10) = .ok (.athrow, 1))
    (hout : ∀ x ∈ Γ.2.2.2.2.2.2.2.2.1.exceptionTable.toList, False) (hroom : 1 ≤ Γ.2.2.1.cells ∧ 6 ≤ Γ.2.2.1.slots) (hQ : ThrowEnd Δ Γ o) (ho : o = .inl M1) : WAt Δ Γ false md d pc L [] (NG, S0, M1) 0 0 := by
  intro F hL hst hM ls H locs hl hP hS hz
  unfold ThrowEnd at hQ
  rw [hQ]
  obtain ⟨a, ha⟩ := hX.2.2.1 _ hin
  have h2 := ns_two
  rw [Bool.and_eq_true] at h2
  have fr := F.fr
  have lo := F.lo
  have hmaxL : ls.size = Γ.2.2.2.2.2.2.2.2.1.maxLocals := hl.1.trans F.maxL.symm
  refine xx_makeW (own := "DonkeysHour") (cls := "java/util/NoSuchElementException") (text := tx) (names := nsNames) (ik := 140) (is := is) (ic := 144) (sa := a) (A := own Δ) F.exec F.bytes hl0 ns_d0 ns_d1 ns_d2 ns_d5 (by rw [← hcls]; exact F.own) ns_fit.1 (fun n hn => List.all_eq_true.mp ns_fit.2 n hn)
    (F.ts _ (wis_in h2.1)) (F.ts _ (wis_in h2.2)) ha (ns_hat F.ts hX) (fun w hw => List.all_eq_true.mp ns_ot w hw) hX.1 hX.2.1 hS hmaxL d0 d3 d4 d6 (by show 2 + 3 < _; omega) (by show 0 + (13 * (2 + 1) + 43) ≤ _; omega) (by omega) (by omega) (fun q ce H1 hq hvm hcl hsz hk hS1 => ?_)
  refine vx_athrow F.exec F.bytes d9 (vx_out (fun x hx => (hout x hx).elim) F.locks hq hvm hcl (fun t ht hW => ?_) hS1.2.2 (Nat.le_refl _) (Nat.le_refl _))
  exact ⟨(), trivial, ⟨M1, ho, rfl, by rw [ht]; exact hP.kept (fun k x hx => hk x.1 ((hP k x hx).lt)), hM⟩, hS1.F ht⟩

theorem calT_of {Δ : DT} {md : MD} {d pc nL : Nat} (hg : md.2.2.2.2.all (chkE md) = true) (hpl : plainName md.1.cls = true) {as : List PV} {M : MEM} {o : OT} {f : Option OT} (has : ∀ v ∈ as, (∃ n, v = vI n) ∨ ∃ a, v = vR a) (hok : okVs as) (hM : okM M) (hn : as.length ≤ md.2.2.1)
    (hJ : ∀ Γ : FT, J f (K_T Δ Γ md d pc nL) (WAt Δ Γ false md d 0 (as ++ List.replicate (md.2.2.1 - as.length) vN) [] (NG, S0, M) 0 0)) (hf : f = some o) (hret : md.2.2.2.1 = some .int)
    (hT : ∀ (Γ : FT) (M1 : MEM), o = .inl M1 → XW Δ.2.1 Γ.2.2.2.1 Γ.2.2.2.1.heap → (∀ x ∈ Γ.2.2.2.2.2.2.2.2.1.exceptionTable.toList, False) → (1 ≤ Γ.2.2.1.cells ∧ 6 ≤ Γ.2.2.1.slots) → ThrowEnd Δ Γ o → WAt Δ Γ false md d pc (List.replicate nL vN) [] (NG, S0, M1) 0 0) : CalT Δ md d as M o := by
  refine vx_ofW (cc := md.2.1) (maxL := md.2.2.1) (ret := md.2.2.2.1) hpl rfl ?_
  intro p e s m args below meth c s₁ B hml htab hv
  obtain ⟨rfl, ⟨hP, hK, hB, hz, hN, hTW⟩, hX⟩ := hv
  have hts := atoms_spec (ws := wsOf md) B.pre
  rw [lg_entry_eq]
  have hL : okVs (as ++ List.replicate (md.2.2.1 - as.length) vN) := by
    intro x hx
    rcases List.mem_append.mp hx with h1 | h1
    · exact hok x h1
    · rw [List.eq_of_mem_replicate h1]
      exact trivial
  have fk : ∀ Q : State → Prop, FOk Δ (p, e, rmOf d 1 6, s, m, (as.map (rep Δ.2.1)).toArray, below, meth, c, Q) md d := fun Q => ⟨B.exec, B.bytes, hml, B.returns, B.notSynchronized, (name_of_methodNamed B.named B.method).1, findClass_of_methodNamed B.named, fun w hw => hts w (List.mem_cons_of_mem _ hw), hK, hB, Nat.le_refl _, Nat.le_refl _, hg, hN, hTW⟩
  cases o with
  | inl M1 =>
    exact hJ (p, e, rmOf d 1 6, s, m, (as.map (rep Δ.2.1)).toArray, below, meth, c, vx_MQ below (QT Δ (.inl M1)) (XT Δ (.inl M1)) (as.map (rep Δ.2.1)).toArray s 1 6 (own Δ)) _ hf (hT _ M1 rfl hX htab ⟨Nat.le_refl _, Nat.le_refl _⟩ rfl) (fk _) hL (fun x hx => by cases hx) hM _ s.heap [] (entry_lvx has hn rfl) hP va_S.rf hz
  | inr q =>
    have k := hJ (p, e, rmOf d 1 6, s, m, (as.map (rep Δ.2.1)).toArray, below, meth, c, MQ below (QcOf Δ false md.2.2.2.1 (some q.1) (NG, S0, q.2)) (as.map (rep Δ.2.1)).toArray s 0 0 (own Δ)) _ hf rfl (fk _) hL (fun x hx => by cases hx) hM _ s.heap [] (entry_lvx has hn rfl) hP va_S.rf hz
    intro T hT X
    obtain ⟨t, st, o, b1, b2, ⟨⟨r, u, ho, ⟨hr, hi, -⟩, hB2, hm2⟩, hF⟩, Lc, b4, b5⟩ := k T hT X
    exact ⟨t, st, o, b1, b2, Or.inl ⟨⟨⟨r, (), ho, ⟨q, rfl, hr, hi⟩, ⟨q, rfl, hB2, hm2⟩⟩, hF⟩, Lc, ⟨b4.1, b4.2.1, State.sameButNew.mono b4.2.2 (Nat.zero_le _) (Nat.zero_le _)⟩, b5⟩⟩
theorem dh_plain : plainName "DonkeysHour" = true := by decide +kernel

set_option maxRecDepth 20000 in
theorem calT_donkey {Δ : DT} {d : Nat} (hd : 10 ≤ d) (hl0 : Δ.1.stackTraces = false) {x1 x2 : Int} {M : MEM} {o : OT} (h : dh_donkey x1 x2 M = some o) (ho : okVs [vR 0, vI x1, vI x2]) (hM : okM M) : CalT Δ m_dh_donkey d [vR 0, vI x1, vI x2] M o := by
  obtain ⟨d, rfl⟩ : ∃ e, d = e + 1 := ⟨d - 1, by omega⟩
  refine calT_of (pc := 18) (nL := 4) g_dh_donkey dh_plain (fun v hv => by simp only [List.mem_cons, List.not_mem_nil, or_false] at hv; rcases hv with rfl | rfl | rfl <;> first | exact Or.inl ⟨_, rfl⟩ | exact Or.inr ⟨_, rfl⟩) ho hM (Nat.le_of_ble_eq_true rfl) (fun Γ => J_dh_donkey (by omega)) h rfl (fun Γ M1 hi hX ht hr hQ => ?_)
  exact w_throwS (is := 142) (tx := "no such donkey, or nothing of it") rfl (by omega) hl0 hX (by simp [nsT]) (by decide +kernel) (by decide +kernel) (by decide +kernel) (by decide +kernel) (by decide +kernel) ht hr hQ hi

set_option maxRecDepth 20000 in
theorem calT_apart {Δ : DT} {d : Nat} (hd : 10 ≤ d) (hl0 : Δ.1.stackTraces = false) {x1 x2 x3 : Int} {M : MEM} {o : OT} (h : dh_apart x1 x2 x3 M = some o) (ho : okVs [vR 0, vI x1, vI x2, vI x3]) (hM : okM M) : CalT Δ m_dh_apart d [vR 0, vI x1, vI x2, vI x3] M o := by
  obtain ⟨d, rfl⟩ : ∃ e, d = e + 1 := ⟨d - 1, by omega⟩
  refine calT_of (pc := 20) (nL := 4) g_dh_apart dh_plain (fun v hv => by simp only [List.mem_cons, List.not_mem_nil, or_false] at hv; rcases hv with rfl | rfl | rfl | rfl <;> first | exact Or.inl ⟨_, rfl⟩ | exact Or.inr ⟨_, rfl⟩) ho hM (Nat.le_of_ble_eq_true rfl) (fun Γ => J_dh_apart (by omega)) h rfl (fun Γ M1 hi hX ht hr hQ => ?_)
  exact w_throwW (is := 372) (tx := "no two such donkeys, or not so many minutes") rfl (by omega) hl0 hX (by simp [nsT]) (by decide +kernel) (by decide +kernel) (by decide +kernel) (by decide +kernel) (by decide +kernel) ht hr hQ hi

set_option maxRecDepth 20000 in
theorem calT_row {Δ : DT} {d : Nat} (hd : 10 ≤ d) (hl0 : Δ.1.stackTraces = false) {x1 : Int} {M : MEM} {o : OT} (h : dh_row x1 M = some o) (ho : okVs [vR 0, vI x1]) (hM : okM M) : CalT Δ m_dh_row d [vR 0, vI x1] M o := by
  obtain ⟨d, rfl⟩ : ∃ e, d = e + 1 := ⟨d - 1, by omega⟩
  refine calT_of (pc := 21) (nL := 2) g_dh_row dh_plain (fun v hv => by simp only [List.mem_cons, List.not_mem_nil, or_false] at hv; rcases hv with rfl | rfl <;> first | exact Or.inl ⟨_, rfl⟩ | exact Or.inr ⟨_, rfl⟩) ho hM (Nat.le_of_ble_eq_true rfl) (fun Γ => J_dh_row) h rfl (fun Γ M1 hi hX ht hr hQ => ?_)
  exact w_throwW (is := 400) (tx := "no such number in the row") rfl (by omega) hl0 hX (by simp [nsT]) (by decide +kernel) (by decide +kernel) (by decide +kernel) (by decide +kernel) (by decide +kernel) ht hr hQ hi
