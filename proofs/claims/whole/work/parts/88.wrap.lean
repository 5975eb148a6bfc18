-- ===== longs; a call that may throw, caught; the law's three private methods (written by wip/whole/gen/wrap.py) =====
theorem i2l_id {x : Int} (h : InR x) : (Int32.ofInt x).toInt64 = Int64.ofInt x := by
  have h1 := h.1
  have h2 := h.2
  apply Int64.toInt_inj.mp
  rw [Int32.toInt_toInt64, iI_toInt h, Int64.toInt_ofInt_of_le (by omega) (by omega)]
theorem w_i2l {Δ : DT} {Γ : FT} {fl : Bool} {md : MD} {d pc pc0 npc k1 k2 k3 : Nat} {mn : MethodName} {L st : List PV} {w : WD} {cells slots : Nat} {x : Int} (hi : lk md pc = some (pc0, Instr.i2l, npc, k1, k2, k3, mn)) (k : WAt Δ Γ fl md d npc L (vL x :: st) w cells slots) : WAt Δ Γ fl md d pc L (vI x :: st) w cells slots := by
  intro F hL hst hM ls H locs hl hP hS hz
  obtain ⟨-, hd, rfl, hq⟩ := lk_ok hi F.good
  exact lv_i2l F.exec F.bytes hd (i2l_id hst.hd) (k F hL (hst.tl.cons (show okV (vL x) from hst.hd)) hM ls H locs hl hP hS hz)
theorem updL_up1 (v : Nat → Int) (k : Nat) (x : Int) : vp_updL (fun j => Int64.ofInt (v j)) k (Int64.ofInt x) = fun j => Int64.ofInt (up1 v k x j) := by
  funext j
  unfold vp_updL up1
  split <;> rfl
theorem w_last {Δ : DT} {Γ : FT} {fl : Bool} {md : MD} {d pc pc0 npc k1 k2 k3 : Nat} {mn : MethodName} {L st : List PV} {n : Nat} {S : Nat → SHP} {M : MEM} {cells slots : Nat} {a len : Nat} {i x : Int} (hi : lk md pc = some (pc0, Instr.lastore, npc, k1, k2, k3, mn)) (ha : a < n) (hs : S a = (2, 3, [len])) (h0 : 0 ≤ i) (h1 : i < len) (hfl : fl = false) (k : WAt Δ Γ fl md d npc L st (n, S, up2 M a i.toNat x) cells slots) : WAt Δ Γ fl md d pc L (vL x :: vI i :: vR a :: st) (n, S, M) cells slots := by
  intro F hL hst hM ls H locs hl hP hS hz
  obtain ⟨-, hd, rfl, hq⟩ := lk_ok hi F.good
  have hi' : InR i := hst.tl.hd
  refine va_last (cA := Δ.2.2.2 3) (n := len) (f := fun j => Int64.ofInt (M a j)) F.exec F.bytes F.kinds hP wL_D hS a 3 (by rw [wL_get ha, hs]; rfl) rfl (iI_vp hi' h0 h1) hd (fun H1 locs1 hP1 _ hS1 => ?_)
  have e : (wL Δ.2.1 Δ.2.2.2 (n, S, M)).set a (Δ.2.1 + a, .inl (Δ.2.2.2 3, len, .inr (.inl (vp_updL (fun j => Int64.ofInt (M a j)) (Int32.ofInt i).toNatClampNeg (Int64.ofInt x))))) = wL Δ.2.1 Δ.2.2.2 (n, S, up2 M a i.toNat x) := by
    rw [← wL_set (S := S) (S' := S) (M := M) (M' := up2 M a i.toNat x) (i := a) (fun _ _ => rfl) (fun j hj => up2_off hj), hs, up2_row, iI_clamp hi', updL_up1]
    rfl
  rw [e] at hP1
  exact k F hL hst.tl.tl.tl (hM.up (show InR x from hst.hd)) ls H1 locs1 hl hP1 hS1 (fun h => by rw [hfl] at h; cases h)
theorem w_lald {Δ : DT} {Γ : FT} {fl : Bool} {md : MD} {d pc pc0 npc k1 k2 k3 : Nat} {mn : MethodName} {L st : List PV} {n : Nat} {S : Nat → SHP} {M : MEM} {cells slots : Nat} {a len : Nat} {i : Int} (hi : lk md pc = some (pc0, Instr.laload, npc, k1, k2, k3, mn)) (ha : a < n) (hs : S a = (2, 3, [len])) (h0 : 0 ≤ i) (h1 : i < len) (k : WAt Δ Γ fl md d npc L (vL (M a i.toNat) :: st) (n, S, M) cells slots) : WAt Δ Γ fl md d pc L (vI i :: vR a :: st) (n, S, M) cells slots := by
  intro F hL hst hM ls H locs hl hP hS hz
  obtain ⟨-, hd, rfl, hq⟩ := lk_ok hi F.good
  have hi' : InR i := hst.hd
  refine va_lald (cA := Δ.2.2.2 3) (n := len) (f := fun j => Int64.ofInt (M a j)) F.exec F.bytes F.kinds hP a 3 (by rw [wL_get ha, hs]; rfl) rfl (iI_vp hi' h0 h1) hd ?_
  rw [iI_clamp hi']
  exact k F hL (hst.tl.tl.cons (show okV (vL (M a i.toNat)) from hM a i.toNat)) hM ls H locs hl hP hS hz
theorem lg_cmp_same (x : Int64) : lg_cmp x x = 0 := by
  unfold lg_cmp
  simp
theorem w_lcmp_same {Δ : DT} {Γ : FT} {fl : Bool} {md : MD} {d pc pc0 npc k1 k2 k3 : Nat} {mn : MethodName} {L st : List PV} {w : WD} {cells slots : Nat} {x y : Int} (hi : lk md pc = some (pc0, Instr.lcmp, npc, k1, k2, k3, mn)) (h : x = y) (k : WAt Δ Γ fl md d npc L (vI 0 :: st) w cells slots) : WAt Δ Γ fl md d pc L (vL y :: vL x :: st) w cells slots := by
  subst h
  intro F hL hst hM ls H locs hl hP hS hz
  obtain ⟨-, hd, rfl, hq⟩ := lk_ok hi F.good
  refine W.lcmp F.exec F.bytes hd ?_
  rw [lg_cmp_same]
  exact k F hL (hst.tl.tl.cons (show okV (vI 0) by show InR 0; unfold InR; omega)) hM ls H locs hl hP hS hz

/-- a call that may throw; what is thrown is caught, and kept in a local that nobody reads -/
theorem call_t {Δ : DT} {Γ : FT} {md mdc : MD} {d pc pc0 npc k1 k2 k3 : Nat} {L st as : List PV} {M : MEM} {o : OT} {cells slots idx a z1 z2 z3 z4 ci hp zl hpc0 hnpc b1 b2 b3 : Nat} {j : Nat} {x : ExceptionTableEntry} {mn : MethodName} {ks : List Nat} {T : u_T} {N : Nat}
    (hi : lk md pc = some (pc0, Instr.invokevirtual idx, npc, k1, k2, k3, mdc.1)) (hcal : CalT Δ mdc d (vR a :: as) M o) (hv : calleeV mdc z1 z2 z3 z4 as.length = true)
    (ha : a < NG) (hs : S0 a = (0, ci, ks)) (hci : vwCl[ci]? = some (mdc.1.cls, T, N)) (hst4 : st.length ≤ 4) (hcr : cells + 1 ≤ Γ.2.2.1.cells ∧ slots + 6 ≤ Γ.2.2.1.slots) (hX : XW Δ.2.1 Γ.2.2.2.1 Γ.2.2.2.1.heap)
    (k : ∀ p, o = .inr p → InR p.1 → WAt Δ Γ false md (d + 1) npc L (vI p.1 :: st) (NG, S0, p.2) (cells + 1) (slots + 6))
    (htab : Γ.2.2.2.2.2.2.2.2.1.exceptionTable.toList = [x]) (hcov : covers x pc = true) (hct : x.catchType = 13) (hhp : x.handlerPc = hp) (hwl : wis zl (.classLink md.1.cls 13 "java/util/NoSuchElementException") = true)
    (hia : lk md hp = some (hpc0, Instr.astore j, hnpc, b1, b2, b3, mn)) (hjn : j < md.2.2.1) (hLj : L.set j vN = L)
    (kx : ∀ M1, o = .inl M1 → WAt Δ Γ false md (d + 1) hnpc L [] (NG, S0, M1) (cells + 1) (slots + 6)) : WAt Δ Γ false md (d + 1) pc L (as.reverse ++ vR a :: st) (NG, S0, M) cells slots := by
  intro F hL hst hM ls H locs hl hP hS hz
  obtain ⟨-, hd, rfl, hq⟩ := lk_ok hi F.good
  obtain ⟨-, hda, rfl, hqa⟩ := lk_ok hia F.good
  simp only [calleeV, Bool.and_eq_true, decide_eq_true_eq] at hv
  obtain ⟨⟨⟨⟨⟨⟨⟨v1, v2⟩, v3⟩, v4⟩, v5⟩, v6⟩, v7⟩, v8⟩ := hv
  have fr := F.fr
  have lo := F.lo
  have hml : Γ.2.2.2.2.2.2.2.2.1.maxLocals = md.2.2.1 := F.maxL
  have hcode := wis_in v1
  have hlink : Cond.methodLink md.1.cls idx mdc.1 ∈ tblG := wis_in hq
  have hgood : GoodIn tblG (wsV md.1.cls idx mdc.1.cls mdc.1 (wsOf mdc)) := fun w hw => by
    have hw : w ∈ ([.methodLink md.1.cls idx mdc.1, .instanceMethod mdc.1, .selects mdc.1.cls mdc.1 mdc.1, .initialized mdc.1.cls] : List Cond) ++ wsOf mdc := hw
    rcases List.mem_append.mp hw with h | h
    · simp only [List.mem_cons, List.not_mem_nil, or_false] at h
      rcases h with rfl | rfl | rfl | rfl
      · exact tblG_good _ hlink
      · exact tblG_good _ (wis_in v2)
      · exact tblG_good _ (wis_in v3)
      · exact tblG_good _ (wis_in v4)
    · exact wsOf_good hcode w h
  have hcell : (wL Δ.2.1 Δ.2.2.2 (NG, S0, M))[a]? = some (Δ.2.1 + a, .inr (ci, fvs Δ.2.1 (M a) 0 ks)) := by rw [wL_get ha, hs]; rfl
  rw [map_rep_call]
  refine vx_calli (vx_runV (As := as.map (rep Δ.2.1)) (rest := st.map (rep Δ.2.1)) ⟨F.exec, F.bytes, hml, F.own, F.ts⟩ hcal (cwV as.length F.ts hgood rfl rfl rfl ⟨rfl, v5, v6, v7⟩ ⟨by show d + 1 ≤ _; exact fr, by show 8 + (mdc.2.2.1 + 11) + 40 * d ≤ _; omega⟩) ⟨RepX.blind, va_recv F.kinds hP hci hcell, fun U hU hW => ⟨by simp [rep], ⟨by rw [hU]; exact hP, va_K.moved hW.alike F.kinds, by rw [hU]; have := F.base; have := hS.1; omega, fun h => (by cases h), F.nest.warm hW, by rw [hU]; exact F.text.go hW hS⟩, by rw [hU]; exact hX.go hW hS⟩⟩ rfl (by simp) hl.1 rfl (lv_room (cats hst4)) hd hcr) hS (fun q _ h => h) (fun q h => h) (fun q _ h => h)
    (fun E ce q9 u t H1 locs1 ht hvm hpu hB hz1 hk1 hS1 hce hcv hcl => ?_) (fun rv u t H1 locs1 ht hvm hw hB hz1 hk1 hS1 => ?_)
  · obtain ⟨M1, ho, rfl, hP1, hM1⟩ := hB
    rw [ht] at hP1
    have hcast : (Cond.castable "java/util/NoSuchElementException" "java/util/NoSuchElementException").before Γ.2.2.2.2.2.1 Γ.2.2.2.1 = true := va_Nw.use rfl (hX.2.2.2 _ List.mem_cons_self)
    refine vx_catch (own := md.1.cls) (name := "java/util/NoSuchElementException") F.own [] x [] htab (fun z hz => nomatch hz) hcov (by rw [hct]; decide) (by rw [hct]; exact F.ts _ (wis_in hwl)) hcast hce hcv hcl ?_
    rw [hhp]
    refine lv_astore F.exec F.bytes hda hl hjn rfl (fun ls' hl' => ?_)
    exact kx M1 ho F hL (fun v hv => by cases hv) hM1 ls' H1 locs1 (by rw [← hLj]; exact lvx.set (ext_keep hqa) (fun h => by rcases h with ⟨n, h⟩ | ⟨n, h⟩ <;> cases h) hl') hP1 hS1 (fun h => by cases h)
  · obtain ⟨p, ho, ⟨hP1, hK1, hB1, hz2, -⟩, hok⟩ := hB
    obtain ⟨p', ho', rfl, hr⟩ := hw
    have e : p = p' := Sum.inr.inj (ho.symm.trans ho')
    subst e
    rw [ht] at hP1
    exact k p ho hr F hL (okVs.cons hr (fun x hx => hst x (List.mem_append_right _ (List.mem_cons_of_mem _ hx)))) hok ls H1 locs1 hl hP1 hS1 (fun h => by cases h)

/-- a call that may throw; what is thrown is caught, and kept in a local that nobody reads -/
theorem call_tn {Δ : DT} {Γ : FT} {md mdc : MD} {d pc pc0 npc k1 k2 k3 : Nat} {L st as : List PV} {M : MEM} {o : OT} {cells slots idx a z1 z2 z3 z4 ci hp zl hpc0 hnpc b1 b2 b3 : Nat} {j : Fin 4} {x : ExceptionTableEntry} {mn : MethodName} {ks : List Nat} {T : u_T} {N : Nat}
    (hi : lk md pc = some (pc0, Instr.invokevirtual idx, npc, k1, k2, k3, mdc.1)) (hcal : CalT Δ mdc d (vR a :: as) M o) (hv : calleeV mdc z1 z2 z3 z4 as.length = true)
    (ha : a < NG) (hs : S0 a = (0, ci, ks)) (hci : vwCl[ci]? = some (mdc.1.cls, T, N)) (hst4 : st.length ≤ 4) (hcr : cells + 1 ≤ Γ.2.2.1.cells ∧ slots + 6 ≤ Γ.2.2.1.slots) (hX : XW Δ.2.1 Γ.2.2.2.1 Γ.2.2.2.1.heap)
    (k : ∀ p, o = .inr p → InR p.1 → WAt Δ Γ false md (d + 1) npc L (vI p.1 :: st) (NG, S0, p.2) (cells + 1) (slots + 6))
    (htab : Γ.2.2.2.2.2.2.2.2.1.exceptionTable.toList = [x]) (hcov : covers x pc = true) (hct : x.catchType = 13) (hhp : x.handlerPc = hp) (hwl : wis zl (.classLink md.1.cls 13 "java/util/NoSuchElementException") = true)
    (hia : lk md hp = some (hpc0, Instr.astore_n j, hnpc, b1, b2, b3, mn)) (hjn : (j : Nat) < md.2.2.1) (hLj : L.set (j : Nat) vN = L)
    (kx : ∀ M1, o = .inl M1 → WAt Δ Γ false md (d + 1) hnpc L [] (NG, S0, M1) (cells + 1) (slots + 6)) : WAt Δ Γ false md (d + 1) pc L (as.reverse ++ vR a :: st) (NG, S0, M) cells slots := by
  intro F hL hst hM ls H locs hl hP hS hz
  obtain ⟨-, hd, rfl, hq⟩ := lk_ok hi F.good
  obtain ⟨-, hda, rfl, hqa⟩ := lk_ok hia F.good
  simp only [calleeV, Bool.and_eq_true, decide_eq_true_eq] at hv
  obtain ⟨⟨⟨⟨⟨⟨⟨v1, v2⟩, v3⟩, v4⟩, v5⟩, v6⟩, v7⟩, v8⟩ := hv
  have fr := F.fr
  have lo := F.lo
  have hml : Γ.2.2.2.2.2.2.2.2.1.maxLocals = md.2.2.1 := F.maxL
  have hcode := wis_in v1
  have hlink : Cond.methodLink md.1.cls idx mdc.1 ∈ tblG := wis_in hq
  have hgood : GoodIn tblG (wsV md.1.cls idx mdc.1.cls mdc.1 (wsOf mdc)) := fun w hw => by
    have hw : w ∈ ([.methodLink md.1.cls idx mdc.1, .instanceMethod mdc.1, .selects mdc.1.cls mdc.1 mdc.1, .initialized mdc.1.cls] : List Cond) ++ wsOf mdc := hw
    rcases List.mem_append.mp hw with h | h
    · simp only [List.mem_cons, List.not_mem_nil, or_false] at h
      rcases h with rfl | rfl | rfl | rfl
      · exact tblG_good _ hlink
      · exact tblG_good _ (wis_in v2)
      · exact tblG_good _ (wis_in v3)
      · exact tblG_good _ (wis_in v4)
    · exact wsOf_good hcode w h
  have hcell : (wL Δ.2.1 Δ.2.2.2 (NG, S0, M))[a]? = some (Δ.2.1 + a, .inr (ci, fvs Δ.2.1 (M a) 0 ks)) := by rw [wL_get ha, hs]; rfl
  rw [map_rep_call]
  refine vx_calli (vx_runV (As := as.map (rep Δ.2.1)) (rest := st.map (rep Δ.2.1)) ⟨F.exec, F.bytes, hml, F.own, F.ts⟩ hcal (cwV as.length F.ts hgood rfl rfl rfl ⟨rfl, v5, v6, v7⟩ ⟨by show d + 1 ≤ _; exact fr, by show 8 + (mdc.2.2.1 + 11) + 40 * d ≤ _; omega⟩) ⟨RepX.blind, va_recv F.kinds hP hci hcell, fun U hU hW => ⟨by simp [rep], ⟨by rw [hU]; exact hP, va_K.moved hW.alike F.kinds, by rw [hU]; have := F.base; have := hS.1; omega, fun h => (by cases h), F.nest.warm hW, by rw [hU]; exact F.text.go hW hS⟩, by rw [hU]; exact hX.go hW hS⟩⟩ rfl (by simp) hl.1 rfl (lv_room (cats hst4)) hd hcr) hS (fun q _ h => h) (fun q h => h) (fun q _ h => h)
    (fun E ce q9 u t H1 locs1 ht hvm hpu hB hz1 hk1 hS1 hce hcv hcl => ?_) (fun rv u t H1 locs1 ht hvm hw hB hz1 hk1 hS1 => ?_)
  · obtain ⟨M1, ho, rfl, hP1, hM1⟩ := hB
    rw [ht] at hP1
    have hcast : (Cond.castable "java/util/NoSuchElementException" "java/util/NoSuchElementException").before Γ.2.2.2.2.2.1 Γ.2.2.2.1 = true := va_Nw.use rfl (hX.2.2.2 _ List.mem_cons_self)
    refine vx_catch (own := md.1.cls) (name := "java/util/NoSuchElementException") F.own [] x [] htab (fun z hz => nomatch hz) hcov (by rw [hct]; decide) (by rw [hct]; exact F.ts _ (wis_in hwl)) hcast hce hcv hcl ?_
    rw [hhp]
    refine lv_astore_n F.exec F.bytes hda rfl hl hjn rfl (fun ls' hl' => ?_)
    exact kx M1 ho F hL (fun v hv => by cases hv) hM1 ls' H1 locs1 (by rw [← hLj]; exact lvx.set (ext_keep hqa) (fun h => by rcases h with ⟨n, h⟩ | ⟨n, h⟩ <;> cases h) hl') hP1 hS1 (fun h => by cases h)
  · obtain ⟨p, ho, ⟨hP1, hK1, hB1, hz2, -⟩, hok⟩ := hB
    obtain ⟨p', ho', rfl, hr⟩ := hw
    have e : p = p' := Sum.inr.inj (ho.symm.trans ho')
    subst e
    rw [ht] at hP1
    exact k p ho hr F hL (okVs.cons hr (fun x hx => hst x (List.mem_append_right _ (List.mem_cons_of_mem _ hx)))) hok ls H1 locs1 hl hP1 hS1 (fun h => by cases h)

/-- methods with a table of handlers, that return -/
def wsW (md : MD) (hh : List (Nat × Nat × Nat × Nat)) : List Cond := .codeWith md.1 md.2.1 md.2.2.1 md.2.2.2.1 hh :: tblG
def CalW (Δ : DT) (md : MD) (hh : List (Nat × Nat × Nat × Nat)) (d : Nat) (as : List PV) (M : MEM) (r : Int) (M' : MEM) : Prop :=
  Met Δ.1 md.1 (wsW md hh) (rmOf d 1 6) (va_Pc (as.map (rep Δ.2.1)) (RepX Δ (NG, S0, M))) (QcOf Δ false md.2.2.2.1 (some r) (NG, S0, M')) 1 6 (own Δ)
theorem calW_of {Δ : DT} {md : MD} {hh : List (Nat × Nat × Nat × Nat)} {d : Nat} (hg : md.2.2.2.2.all (chkE md) = true) (hpl : plainName md.1.cls = true) {as : List PV} {M M' : MEM} {r : Int} (has : ∀ v ∈ as, (∃ n, v = vI n) ∨ ∃ a, v = vR a) (hok : okVs as) (hM : okM M) (hn : as.length ≤ md.2.2.1)
    (h : ∀ Γ : FT, (1 ≤ Γ.2.2.1.cells ∧ 6 ≤ Γ.2.2.1.slots) → XW Δ.2.1 Γ.2.2.2.1 Γ.2.2.2.1.heap → Γ.2.2.2.2.2.2.2.2.1.exceptionTable.toList = tableOf hh → RetOk Δ Γ false md (some r) (NG, S0, M') 1 6 → WAt Δ Γ false md d 0 (as ++ List.replicate (md.2.2.1 - as.length) vN) [] (NG, S0, M) 0 0) : CalW Δ md hh d as M r M' := by
  refine va_MetW (cc := md.2.1) (maxL := md.2.2.1) (ret := md.2.2.2.1) (hh := hh) hpl rfl ?_
  intro p e s m args below meth c s₁ B hml hv
  obtain ⟨rfl, ⟨hP, hK, hB, hz, hN, hTW⟩, hX⟩ := hv
  have hts := atoms_spec (ws := wsW md hh) B.pre
  rw [lg_entry_eq]
  have hL : okVs (as ++ List.replicate (md.2.2.1 - as.length) vN) := by
    intro x hx
    rcases List.mem_append.mp hx with h1 | h1
    · exact hok x h1
    · rw [List.eq_of_mem_replicate h1]
      exact trivial
  exact h (p, e, rmOf d 1 6, s, m, (as.map (rep Δ.2.1)).toArray, below, meth, c, MQ below (QcOf Δ false md.2.2.2.1 (some r) (NG, S0, M')) (as.map (rep Δ.2.1)).toArray s 1 6 (own Δ)) ⟨Nat.le_refl _, Nat.le_refl _⟩ hX (vx_table (x := md.1) B (hts _ List.mem_cons_self)) rfl
    ⟨B.exec, B.bytes, hml, B.returns, B.notSynchronized, (name_of_methodNamed B.named B.method).1, findClass_of_methodNamed B.named, fun w hw => hts w (List.mem_cons_of_mem _ hw), hK, hB, Nat.le_refl _, Nat.le_refl _, hg, hN, hTW⟩ hL (fun x hx => by cases hx) hM _ s.heap [] (entry_lvx has hn rfl) hP va_S.rf hz
def calleeW (md : MD) (hh : List (Nat × Nat × Nat × Nat)) (z1 z2 z4 n : Nat) : Bool := wis z1 (.codeWith md.1 md.2.1 md.2.2.1 md.2.2.2.1 hh) && wis z2 (.static md.1) && wis z4 (.initialized md.1.cls) &&
  decide (md.1.cls ≠ "java/lang/invoke/MethodHandle") && decide (md.1.cls ≠ "java/lang/invoke/VarHandle") && decide ((parseMethodDescriptor md.1.desc).map (fun d => d.parameters.length) = some n) && decide (md.2.2.1 ≤ 21)
theorem wsW_good {md : MD} {hh : List (Nat × Nat × Nat × Nat)} (h : Cond.codeWith md.1 md.2.1 md.2.2.1 md.2.2.2.1 hh ∈ tblG) : GoodIn tblG (wsW md hh) := fun w hw => by
  rcases List.mem_cons.mp hw with rfl | hw
  · exact tblG_good _ h
  · exact tblG_good w hw
theorem call_w {Δ : DT} {Γ : FT} {md mdc : MD} {d pc pc0 npc k1 k2 k3 : Nat} {hh : List (Nat × Nat × Nat × Nat)} {L st as : List PV} {M M' : MEM} {r : Int} {cells slots idx z1 z2 z4 : Nat} (hk2 : k2 = 0) (hi : lk md pc = some (pc0, Instr.invokestatic idx, npc, k1, k2, k3, mdc.1)) (hcal : CalW Δ mdc hh d as M r M') (hv : calleeW mdc hh z1 z2 z4 as.length = true)
    (hst4 : st.length ≤ 4) (hcr : cells + 1 ≤ Γ.2.2.1.cells ∧ slots + 6 ≤ Γ.2.2.1.slots) (hX : XW Δ.2.1 Γ.2.2.2.1 Γ.2.2.2.1.heap)
    (k : InR r → WAt Δ Γ false md (d + 1) npc L (vI r :: st) (NG, S0, M') (cells + 1) (slots + 6)) : WAt Δ Γ false md (d + 1) pc L (as.reverse ++ st) (NG, S0, M) cells slots := by
  intro F hL hst hM ls H locs hl hP hS hz
  obtain ⟨-, hd, rfl, hq⟩ := lk_ok hi F.good
  simp only [calleeW, Bool.and_eq_true, decide_eq_true_eq] at hv
  obtain ⟨⟨⟨⟨⟨⟨v1, v2⟩, v4⟩, v5⟩, v6⟩, v7⟩, v8⟩ := hv
  have fr := F.fr
  have lo := F.lo
  have hml : Γ.2.2.2.2.2.2.2.2.1.maxLocals = md.2.2.1 := F.maxL
  have hcode := wis_in v1
  have hlink : Cond.methodLink md.1.cls idx mdc.1 ∈ tblG := by
    subst hk2
    exact wis_in hq
  have hgood : GoodIn tblG (va_wsS md.1.cls idx mdc.1 (wsW mdc hh)) := fun w hw => by
    have hw : w ∈ ([.methodLink md.1.cls idx mdc.1, .static mdc.1, .initialized mdc.1.cls] : List Cond) ++ wsW mdc hh := hw
    rcases List.mem_append.mp hw with h | h
    · simp only [List.mem_cons, List.not_mem_nil, or_false] at h
      rcases h with rfl | rfl | rfl
      · exact tblG_good _ hlink
      · exact tblG_good _ (wis_in v2)
      · exact tblG_good _ (wis_in v4)
    · exact wsW_good hcode w h
  have emap : (as.reverse ++ st).map (rep Δ.2.1) = (as.map (rep Δ.2.1)).reverse ++ st.map (rep Δ.2.1) := by simp
  rw [emap]
  refine va_calli (vx_runSW (As := as.map (rep Δ.2.1)) (rest := st.map (rep Δ.2.1)) ⟨F.exec, F.bytes, hml, F.own, F.ts⟩ hcal (vx_cwSW as.length F.ts hgood rfl rfl rfl ⟨v5, v6, v7⟩ ⟨by show d + 1 ≤ _; exact fr, by show 8 + (mdc.2.2.1 + 11) + 40 * d ≤ _; omega⟩) ⟨RepX.blind, fun U hU hW => ⟨rfl, ⟨by rw [hU]; exact hP, va_K.moved hW.alike F.kinds, by rw [hU]; have := F.base; have := hS.1; omega, fun h => (by cases h), F.nest.warm hW, by rw [hU]; exact F.text.go hW hS⟩, by rw [hU]; exact hX.go hW hS⟩⟩ rfl (by simp) hl.1 rfl (lv_room (cats hst4)) hd hcr) hS (fun q _ h => h) (fun q h => h) (fun rv u t H1 locs1 ht hvm hw hB hz1 hk1 hS1 => ?_)
  obtain ⟨⟨hP1, hK1, hB1, hz2, -⟩, hok⟩ := hB
  rw [ht] at hP1
  obtain ⟨rfl, hr, hbit⟩ := hw
  exact k hr F hL (okVs.cons hr (fun x hx => hst x (List.mem_append_right _ hx))) hok ls H1 locs1 hl hP1 hS1 (fun h => by cases h)

theorem la_plain : plainName "DonkeysHourLaw" = true := by decide +kernel
/-- what the private method answers; what lies in its cell -/
def oR : OT → Int := Sum.elim (fun _ => 1) (fun _ => 0)
def oM : OT → MEM := Sum.elim (fun M => M) (fun p => up2 p.2 307 0 p.1)
theorem S_307 : S0 307 = (2, 3, [1]) := rfl
def m_la_donkey : MD := (⟨"DonkeysHourLaw", "donkey", "(LDonkeysHour;II[J)I"⟩, method_3_code, 5, (some .int), [(0, .aload_n 3, 1, 0, 0, 0, nn), (1, .iconst (0), 2, 0, 0, 0, nn), (2, .aload_n 0, 3, 0, 0, 0, nn), (3, .iload_n 1, 4, 0, 0, 0, nn), (4, .iload_n 2, 5, 0, 0, 0, nn), (5, .invokevirtual 7, 8, 0, 0, 20646, y_dh_donkey), (8, .i2l, 9, 0, 0, 0, nn), (9, .lastore, 10, 0, 0, 0, nn), (10, .goto (7), 13, 17, 0, 0, nn), (13, .astore 4, 15, 0, 0, 0, nn), (15, .iconst (1), 16, 0, 0, 0, nn), (16, .ireturn, 17, 0, 0, 0, nn), (17, .iconst (0), 18, 0, 0, 0, nn), (18, .ireturn, 19, 0, 0, 0, nn)])
set_option maxRecDepth 100000 in
theorem g_la_donkey : m_la_donkey.2.2.2.2.all (chkE m_la_donkey) = true := by decide +kernel
theorem v_la_donkey : calleeW m_la_donkey [(0, 10, 13, 13)] 20644 20643 4096 4 = true := by decide +kernel
set_option maxRecDepth 20000 in
theorem calW_donkey {Δ : DT} {d : Nat} (hd : 11 ≤ d) (hl0 : Δ.1.stackTraces = false) {x1 x2 : Int} {M : MEM} {o : OT} (h : dh_donkey x1 x2 M = some o) (ho : okVs [vR 0, vI x1, vI x2, vR 307]) (hM : okM M) : CalW Δ m_la_donkey [(0, 10, 13, 13)] d [vR 0, vI x1, vI x2, vR 307] M (oR o) (oM o) := by
  obtain ⟨d, rfl⟩ : ∃ e, d = e + 1 := ⟨d - 1, by omega⟩
  refine calW_of g_la_donkey la_plain (fun v hv => by simp only [List.mem_cons, List.not_mem_nil, or_false] at hv; rcases hv with rfl | rfl | rfl | rfl <;> first | exact Or.inl ⟨_, rfl⟩ | exact Or.inr ⟨_, rfl⟩) ho hM (Nat.le_of_ble_eq_true rfl) (fun Γ hr hX ht hk => ?_)
  refine w_aload_n rfl rfl ?_
  refine w_iconst rfl (inR_c rfl) ?_
  refine w_aload_n rfl rfl ?_
  refine w_iload_n rfl rfl ?_
  refine w_iload_n rfl rfl ?_
  refine call_t (as := [vI x1, vI x2]) (st := [vI 0, vR 307]) (o := o) (hp := 13) (zl := 20645) rfl (calT_donkey (by omega) hl0 h (fun v hv => ho v (by simp only [List.mem_cons, List.not_mem_nil, or_false] at hv ⊢; rcases hv with rfl | rfl | rfl <;> simp)) hM) v_dh_donkey (Nat.le_of_ble_eq_true rfl) S_0 rfl (Nat.le_of_ble_eq_true rfl) (by omega) hX (fun p hp hi => ?_) ht rfl rfl rfl (by decide +kernel) rfl (Nat.le_of_ble_eq_true rfl) rfl (fun M1 h1 => ?_)
  · subst hp
    exact w_i2l rfl (w_last rfl (Nat.le_of_ble_eq_true rfl) S_307 (by omega) (by decide) rfl (w_goto rfl (w_iconst rfl (inR_c rfl) (w_ireturn rfl rfl hk))))
  · subst h1
    exact w_iconst rfl (inR_c rfl) (w_ireturn rfl rfl hk)

def m_la_apart : MD := (⟨"DonkeysHourLaw", "apart", "(LDonkeysHour;III[J)I"⟩, method_4_code, 6, (some .int), [(0, .aload 4, 2, 0, 0, 0, nn), (2, .iconst (0), 3, 0, 0, 0, nn), (3, .aload_n 0, 4, 0, 0, 0, nn), (4, .iload_n 1, 5, 0, 0, 0, nn), (5, .iload_n 2, 6, 0, 0, 0, nn), (6, .iload_n 3, 7, 0, 0, 0, nn), (7, .invokevirtual 15, 10, 0, 0, 20718, y_dh_apart), (10, .i2l, 11, 0, 0, 0, nn), (11, .lastore, 12, 0, 0, 0, nn), (12, .goto (7), 15, 19, 0, 0, nn), (15, .astore 5, 17, 0, 0, 0, nn), (17, .iconst (1), 18, 0, 0, 0, nn), (18, .ireturn, 19, 0, 0, 0, nn), (19, .iconst (0), 20, 0, 0, 0, nn), (20, .ireturn, 21, 0, 0, 0, nn)])
set_option maxRecDepth 100000 in
theorem g_la_apart : m_la_apart.2.2.2.2.all (chkE m_la_apart) = true := by decide +kernel
theorem v_la_apart : calleeW m_la_apart [(0, 12, 15, 13)] 20717 20716 4096 5 = true := by decide +kernel
set_option maxRecDepth 20000 in
theorem calW_apart {Δ : DT} {d : Nat} (hd : 11 ≤ d) (hl0 : Δ.1.stackTraces = false) {x1 x2 x3 : Int} {M : MEM} {o : OT} (h : dh_apart x1 x2 x3 M = some o) (ho : okVs [vR 0, vI x1, vI x2, vI x3, vR 307]) (hM : okM M) : CalW Δ m_la_apart [(0, 12, 15, 13)] d [vR 0, vI x1, vI x2, vI x3, vR 307] M (oR o) (oM o) := by
  obtain ⟨d, rfl⟩ : ∃ e, d = e + 1 := ⟨d - 1, by omega⟩
  refine calW_of g_la_apart la_plain (fun v hv => by simp only [List.mem_cons, List.not_mem_nil, or_false] at hv; rcases hv with rfl | rfl | rfl | rfl | rfl <;> first | exact Or.inl ⟨_, rfl⟩ | exact Or.inr ⟨_, rfl⟩) ho hM (Nat.le_of_ble_eq_true rfl) (fun Γ hr hX ht hk => ?_)
  refine w_aload rfl rfl ?_
  refine w_iconst rfl (inR_c rfl) ?_
  refine w_aload_n rfl rfl ?_
  refine w_iload_n rfl rfl ?_
  refine w_iload_n rfl rfl ?_
  refine w_iload_n rfl rfl ?_
  refine call_t (as := [vI x1, vI x2, vI x3]) (st := [vI 0, vR 307]) (o := o) (hp := 15) (zl := 20645) rfl (calT_apart (by omega) hl0 h (fun v hv => ho v (by simp only [List.mem_cons, List.not_mem_nil, or_false] at hv ⊢; rcases hv with rfl | rfl | rfl | rfl <;> simp)) hM) v_dh_apart (Nat.le_of_ble_eq_true rfl) S_0 rfl (Nat.le_of_ble_eq_true rfl) (by omega) hX (fun p hp hi => ?_) ht rfl rfl rfl (by decide +kernel) rfl (Nat.le_of_ble_eq_true rfl) rfl (fun M1 h1 => ?_)
  · subst hp
    exact w_i2l rfl (w_last rfl (Nat.le_of_ble_eq_true rfl) S_307 (by omega) (by decide) rfl (w_goto rfl (w_iconst rfl (inR_c rfl) (w_ireturn rfl rfl hk))))
  · subst h1
    exact w_iconst rfl (inR_c rfl) (w_ireturn rfl rfl hk)

def m_la_row : MD := (⟨"DonkeysHourLaw", "row", "(LDonkeysHour;I[J)I"⟩, method_5_code, 4, (some .int), [(0, .aload_n 2, 1, 0, 0, 0, nn), (1, .iconst (0), 2, 0, 0, 0, nn), (2, .aload_n 0, 3, 0, 0, 0, nn), (3, .iload_n 1, 4, 0, 0, 0, nn), (4, .invokevirtual 19, 7, 0, 0, 24582, y_dh_row), (7, .i2l, 8, 0, 0, 0, nn), (8, .lastore, 9, 0, 0, 0, nn), (9, .goto (6), 12, 15, 0, 0, nn), (12, .astore_n 3, 13, 0, 0, 0, nn), (13, .iconst (1), 14, 0, 0, 0, nn), (14, .ireturn, 15, 0, 0, 0, nn), (15, .iconst (0), 16, 0, 0, 0, nn), (16, .ireturn, 17, 0, 0, 0, nn)])
set_option maxRecDepth 100000 in
theorem g_la_row : m_la_row.2.2.2.2.all (chkE m_la_row) = true := by decide +kernel
theorem v_la_row : calleeW m_la_row [(0, 9, 12, 13)] 24581 24580 4096 3 = true := by decide +kernel
set_option maxRecDepth 20000 in
theorem calW_row {Δ : DT} {d : Nat} (hd : 11 ≤ d) (hl0 : Δ.1.stackTraces = false) {x1 : Int} {M : MEM} {o : OT} (h : dh_row x1 M = some o) (ho : okVs [vR 0, vI x1, vR 307]) (hM : okM M) : CalW Δ m_la_row [(0, 9, 12, 13)] d [vR 0, vI x1, vR 307] M (oR o) (oM o) := by
  obtain ⟨d, rfl⟩ : ∃ e, d = e + 1 := ⟨d - 1, by omega⟩
  refine calW_of g_la_row la_plain (fun v hv => by simp only [List.mem_cons, List.not_mem_nil, or_false] at hv; rcases hv with rfl | rfl | rfl <;> first | exact Or.inl ⟨_, rfl⟩ | exact Or.inr ⟨_, rfl⟩) ho hM (Nat.le_of_ble_eq_true rfl) (fun Γ hr hX ht hk => ?_)
  refine w_aload_n rfl rfl ?_
  refine w_iconst rfl (inR_c rfl) ?_
  refine w_aload_n rfl rfl ?_
  refine w_iload_n rfl rfl ?_
  refine call_tn (as := [vI x1]) (st := [vI 0, vR 307]) (o := o) (hp := 12) (zl := 20645) rfl (calT_row (by omega) hl0 h (fun v hv => ho v (by simp only [List.mem_cons, List.not_mem_nil, or_false] at hv ⊢; rcases hv with rfl | rfl <;> simp)) hM) v_dh_row (Nat.le_of_ble_eq_true rfl) S_0 rfl (Nat.le_of_ble_eq_true rfl) (by omega) hX (fun p hp hi => ?_) ht rfl rfl rfl (by decide +kernel) rfl (Nat.le_of_ble_eq_true rfl) rfl (fun M1 h1 => ?_)
  · subst hp
    exact w_i2l rfl (w_last rfl (Nat.le_of_ble_eq_true rfl) S_307 (by omega) (by decide) rfl (w_goto rfl (w_iconst rfl (inR_c rfl) (w_ireturn rfl rfl hk))))
  · subst h1
    exact w_iconst rfl (inR_c rfl) (w_ireturn rfl rfl hk)
