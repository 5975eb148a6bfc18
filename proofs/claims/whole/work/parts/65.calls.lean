-- ===== contracts, calls, returns =====
def RepS (Δ : DT) (fl : Bool) (w : WD) (U : State) : Prop := va_P Δ.2.2.1 vwCl (wL Δ.2.1 Δ.2.2.2 w) U.heap ∧ va_K Δ.2.2.1 vwCl (tys Δ.2.2.2) U ∧ Δ.2.1 ≤ U.heap.size ∧ (fl = true → U.heap.size = Δ.2.1 + w.1) ∧ NW U ∧ TW Δ.2.1 U U.heap
theorem RepS.blind {Δ : DT} {fl : Bool} {w : WD} {as : List Value} : FrameBlind (va_Pc as (RepS Δ fl w)) := by
  intro a U g mk h
  obtain ⟨h0, hP, hK, hB, hz, hN, hT⟩ := h
  exact ⟨h0, hP, va_K.moved (u := U) (U := U.calling g mk a) (Vm.Alike.refl U.vm) hK, hB, hz, hN.same rfl, TW.same (U := U.calling g mk a) rfl (Vm.Alike.refl U.vm) hT⟩
/-- how a method ends: an int (a boolean), or nothing; the world behind it -/
def bitIf (rt : Option FieldType) (x : Int) : Prop := rt = some .boolean → x = 0 ∨ x = 1
def QcOf (Δ : DT) (fl : Bool) (rt : Option FieldType) (r : Option Int) (w : WD) : Array Value → State → Outcome → State → Prop := match r with
  | some x => va_Qi (fun v (_ : Unit) => v = Int32.ofInt x ∧ InR x ∧ bitIf rt x) (fun _ t => RepS Δ fl w t ∧ okM w.2.2) (own Δ)
  | none => va_Qv (fun _ : Unit => True) (fun _ t => RepS Δ fl w t ∧ okM w.2.2) (own Δ)
def rmOf (d mc ms : Nat) : Room := { frames := d, cells := mc, slots := ms, locals := 40 * d }
def wsOf (md : MD) : List Cond := .code md.1 md.2.1 md.2.2.1 md.2.2.2.1 :: tblG
def Cal (Δ : DT) (fl : Bool) (md : MD) (d : Nat) (as : List PV) (w : WD) (r : Option Int) (w' : WD) (mc ms : Nat) : Prop :=
  Met Δ.1 md.1 (wsOf md) (rmOf d mc ms) (va_Pc (as.map (rep Δ.2.1)) (RepS Δ fl w)) (QcOf Δ fl md.2.2.2.1 r w') mc ms (own Δ)
def RetOk (Δ : DT) (Γ : FT) (fl : Bool) (md : MD) (r : Option Int) (w : WD) (cells slots : Nat) : Prop :=
  Γ.2.2.2.2.2.2.2.2.2 = MQ Γ.2.2.2.2.2.2.1 (QcOf Δ fl md.2.2.2.1 r w) Γ.2.2.2.2.2.1 Γ.2.2.2.1 cells slots (own Δ)
/-- what a caller needs of a method's words: its places in the tables -/
def calleeV (md : MD) (z1 z2 z3 z4 n : Nat) : Bool := wis z1 (.code md.1 md.2.1 md.2.2.1 md.2.2.2.1) && wis z2 (.instanceMethod md.1) && wis z3 (.selects md.1.cls md.1 md.1) && wis z4 (.initialized md.1.cls) &&
  decide (md.1.cls ≠ "java/lang/invoke/MethodHandle") && decide (md.1.cls ≠ "java/lang/invoke/VarHandle") && decide ((parseMethodDescriptor md.1.desc).map (fun d => d.parameters.length) = some n) && decide (md.2.2.1 ≤ 21)
def calleeS (md : MD) (z1 z2 z4 n : Nat) : Bool := wis z1 (.code md.1 md.2.1 md.2.2.1 md.2.2.2.1) && wis z2 (.static md.1) && wis z4 (.initialized md.1.cls) &&
  decide (md.1.cls ≠ "java/lang/invoke/MethodHandle") && decide (md.1.cls ≠ "java/lang/invoke/VarHandle") && decide ((parseMethodDescriptor md.1.desc).map (fun d => d.parameters.length) = some n) && decide (md.2.2.1 ≤ 21)
theorem wsOf_good {md : MD} (h : Cond.code md.1 md.2.1 md.2.2.1 md.2.2.2.1 ∈ tblG) : GoodIn tblG (wsOf md) := fun w hw => by
  rcases List.mem_cons.mp hw with rfl | hw
  · exact tblG_good _ h
  · exact tblG_good w hw
theorem cats {B : Nat} : ∀ {st : List PV}, st.length ≤ 4 → ((st.map (rep B)).map fun v => v.category).sum ≤ 8 := by
  have h : ∀ st : List PV, ((st.map (rep B)).map fun v => v.category).sum ≤ 2 * st.length := by
    intro st
    induction st with
    | nil => simp
    | cons v st ih =>
      have hc : (rep B v).category ≤ 2 := by rcases lv_cat (rep B v) with h | h <;> omega
      simp only [List.map_cons, List.sum_cons, List.length_cons]
      omega
  intro st hl
  have := h st
  omega
theorem map_rep_call {B : Nat} {as st : List PV} {a : Nat} : (as.reverse ++ vR a :: st).map (rep B) = (as.map (rep B)).reverse ++ .ref (B + a) :: st.map (rep B) := by
  simp [rep]
/-- a contract out of the walk of the body, of a method in whose place nothing else is run -/
theorem met_ofW {l : Launch} {y : MethodName} {ws ws' : List Cond} {rm : Room} {Pc : Array Value → State → Prop} {Qc : Array Value → State → Outcome → State → Prop} {mc ms : Nat} {free : Addr → Prop} {cc : ByteArray} {maxL : Nat} {ret : Option FieldType}
    (hy : plainFor y = true) (hw : ws = Cond.code y cc maxL ret :: ws')
    (body : ∀ p e s m args below meth c s₁, BodyLoose p l y (headSpec ws rm) cc maxL ret e s m args below meth c s₁ → c.maxLocals = maxL → Pc args s →
      W p l e (headSpec ws rm).room s m args below meth c s.heap [] 0 0 (MQ below Qc args s mc ms free) (entryFrame m args maxL)) : Met l y ws rm Pc Qc mc ms free := by
  refine MetFree.of_bodySF (code := cc) (maxLocals := maxL) (ret := ret) hy ?_ ?_
  · intro args s m h hn
    obtain ⟨meth, c, h1, h2, h3, h4, h5, h6, -, -⟩ := Cond.code_spec hn (atoms_spec (ws := ws) h _ (by rw [hw]; exact List.mem_cons_self))
    exact ⟨meth, c, h1, h2, h3, h4, h5, h6⟩
  · intro p e s m args below meth c s₁ B hml hP _
    have hh0 : s₁.heap = s.heap := by rw [B.state]; rfl
    obtain ⟨t, a1, o, b1, b2, b3⟩ := body p e s m args below meth c s₁ B hml hP s₁ hh0 (Stand.of_body B)
    exact ⟨t, o, a1, b1, b2, ⟨b3.1, b3.2⟩⟩
section CALLS
variable {Δ : DT} {Γ : FT} {fl : Bool} {md mdc : MD} {d pc pc0 npc k1 k2 k3 : Nat} {L st as : List PV} {n : Nat} {S : Nat → SHP} {M : MEM} {w' : WD} {cells slots : Nat}
/-- behind a call of a method that answers an int -/
theorem call_i {idx a mc ms z1 z2 z3 z4 ci : Nat} {r : Int} {ks : List Nat} {T : u_T} {N : Nat} (hi : lk md pc = some (pc0, Instr.invokevirtual idx, npc, k1, k2, k3, mdc.1)) (hcal : Cal Δ fl mdc d (vR a :: as) (n, S, M) (some r) w' mc ms) (hv : calleeV mdc z1 z2 z3 z4 as.length = true)
    (ha : a < n) (hs : S a = (0, ci, ks)) (hci : vwCl[ci]? = some (mdc.1.cls, T, N)) (hst4 : st.length ≤ 4) (hcr : cells + mc ≤ Γ.2.2.1.cells ∧ slots + ms ≤ Γ.2.2.1.slots)
    (k : InR r → bitIf mdc.2.2.2.1 r → WAt Δ Γ fl md (d + 1) npc L (vI r :: st) w' (cells + mc) (slots + ms)) : WAt Δ Γ fl md (d + 1) pc L (as.reverse ++ vR a :: st) (n, S, M) cells slots := by
  intro F hL hst hM ls H locs hl hP hS hz
  obtain ⟨-, hd, rfl, hq⟩ := lk_ok hi F.good
  simp only [calleeV, Bool.and_eq_true, decide_eq_true_eq] at hv
  obtain ⟨⟨⟨⟨⟨⟨⟨v1, v2⟩, v3⟩, v4⟩, v5⟩, v6⟩, v7⟩, v8⟩ := hv
  have fr := F.fr
  have lo := F.lo
  have hml : Γ.2.2.2.2.2.2.2.2.1.maxLocals = md.2.2.1 := F.maxL
  have hcode := wis_in v1
  have hlink : Cond.methodLink md.1.cls idx mdc.1 ∈ tblG := wis_in hq
  have hgood : GoodIn tblG (wsV md.1.cls idx mdc.1.cls mdc.1 (wsOf mdc)) := fun w hw => by
    have hw : w ∈ ([.methodLink md.1.cls idx mdc.1, .instanceMethod mdc.1, .selects mdc.1.cls mdc.1 mdc.1, .initialized mdc.1.cls] : List Cond) ++ wsOf mdc := hw
    rcases List.mem_append.mp hw with h | h
    · simp only [List.mem_cons, List.not_mem_nil, or_false] at h
      rcases h with rfl | rfl | rfl | rfl
      · exact tblG_good _ hlink
      · exact tblG_good _ (wis_in v2)
      · exact tblG_good _ (wis_in v3)
      · exact tblG_good _ (wis_in v4)
    · exact wsOf_good hcode w h
  have hcell : (wL Δ.2.1 Δ.2.2.2 (n, S, M))[a]? = some (Δ.2.1 + a, .inr (ci, fvs Δ.2.1 (M a) 0 ks)) := by rw [wL_get ha, hs]; rfl
  rw [map_rep_call]
  refine va_calli (va_runV (As := as.map (rep Δ.2.1)) (rest := st.map (rep Δ.2.1)) ⟨F.exec, F.bytes, hml, F.own, F.ts⟩ hcal (cwV as.length F.ts hgood rfl rfl rfl ⟨rfl, v5, v6, v7⟩ ⟨by show d + 1 ≤ _; exact fr, by show 8 + (mdc.2.2.1 + 11) + 40 * d ≤ _; omega⟩) ⟨RepS.blind, va_recv F.kinds hP hci hcell, fun U hU hW => ⟨by simp [rep], by rw [hU]; exact hP, va_K.moved hW.alike F.kinds, by rw [hU]; have := F.base; have := hS.1; omega, fun h => by rw [hU]; exact hz h, F.nest.warm hW, by rw [hU]; exact F.text.go hW hS⟩⟩ rfl (by simp) hl.1 rfl (lv_room (cats hst4)) hd hcr) hS (fun q _ h => h) (fun q h => h) (fun rv u t H1 locs1 ht hvm hw hB hz1 hk1 hS1 => ?_)
  obtain ⟨⟨hP1, hK1, hB1, hz2, -⟩, hok⟩ := hB
  rw [ht] at hP1 hz2
  obtain ⟨rfl, hr, hbit⟩ := hw
  exact k hr hbit F hL (okVs.cons hr (fun x hx => hst x (List.mem_append_right _ (List.mem_cons_of_mem _ hx)))) hok ls H1 locs1 hl hP1 hS1 hz2
/-- behind a call of a method that answers nothing -/
theorem call_v {idx a mc ms z1 z2 z3 z4 ci : Nat} {ks : List Nat} {T : u_T} {N : Nat} (hi : lk md pc = some (pc0, Instr.invokevirtual idx, npc, k1, k2, k3, mdc.1)) (hcal : Cal Δ fl mdc d (vR a :: as) (n, S, M) none w' mc ms) (hv : calleeV mdc z1 z2 z3 z4 as.length = true)
    (ha : a < n) (hs : S a = (0, ci, ks)) (hci : vwCl[ci]? = some (mdc.1.cls, T, N)) (hst4 : st.length ≤ 4) (hcr : cells + mc ≤ Γ.2.2.1.cells ∧ slots + ms ≤ Γ.2.2.1.slots)
    (k : WAt Δ Γ fl md (d + 1) npc L st w' (cells + mc) (slots + ms)) : WAt Δ Γ fl md (d + 1) pc L (as.reverse ++ vR a :: st) (n, S, M) cells slots := by
  intro F hL hst hM ls H locs hl hP hS hz
  obtain ⟨-, hd, rfl, hq⟩ := lk_ok hi F.good
  simp only [calleeV, Bool.and_eq_true, decide_eq_true_eq] at hv
  obtain ⟨⟨⟨⟨⟨⟨⟨v1, v2⟩, v3⟩, v4⟩, v5⟩, v6⟩, v7⟩, v8⟩ := hv
  have fr := F.fr
  have lo := F.lo
  have hml : Γ.2.2.2.2.2.2.2.2.1.maxLocals = md.2.2.1 := F.maxL
  have hcode := wis_in v1
  have hlink : Cond.methodLink md.1.cls idx mdc.1 ∈ tblG := wis_in hq
  have hgood : GoodIn tblG (wsV md.1.cls idx mdc.1.cls mdc.1 (wsOf mdc)) := fun w hw => by
    have hw : w ∈ ([.methodLink md.1.cls idx mdc.1, .instanceMethod mdc.1, .selects mdc.1.cls mdc.1 mdc.1, .initialized mdc.1.cls] : List Cond) ++ wsOf mdc := hw
    rcases List.mem_append.mp hw with h | h
    · simp only [List.mem_cons, List.not_mem_nil, or_false] at h
      rcases h with rfl | rfl | rfl | rfl
      · exact tblG_good _ hlink
      · exact tblG_good _ (wis_in v2)
      · exact tblG_good _ (wis_in v3)
      · exact tblG_good _ (wis_in v4)
    · exact wsOf_good hcode w h
  have hcell : (wL Δ.2.1 Δ.2.2.2 (n, S, M))[a]? = some (Δ.2.1 + a, .inr (ci, fvs Δ.2.1 (M a) 0 ks)) := by rw [wL_get ha, hs]; rfl
  rw [map_rep_call]
  refine va_callv (va_runV (As := as.map (rep Δ.2.1)) (rest := st.map (rep Δ.2.1)) ⟨F.exec, F.bytes, hml, F.own, F.ts⟩ hcal (cwV as.length F.ts hgood rfl rfl rfl ⟨rfl, v5, v6, v7⟩ ⟨by show d + 1 ≤ _; exact fr, by show 8 + (mdc.2.2.1 + 11) + 40 * d ≤ _; omega⟩) ⟨RepS.blind, va_recv F.kinds hP hci hcell, fun U hU hW => ⟨by simp [rep], by rw [hU]; exact hP, va_K.moved hW.alike F.kinds, by rw [hU]; have := F.base; have := hS.1; omega, fun h => by rw [hU]; exact hz h, F.nest.warm hW, by rw [hU]; exact F.text.go hW hS⟩⟩ rfl (by simp) hl.1 rfl (lv_room (cats hst4)) hd hcr) hS (fun q _ h => h) (fun q h => h) (fun u t H1 locs1 ht hvm hw hB hz1 hk1 hS1 => ?_)
  obtain ⟨⟨hP1, hK1, hB1, hz2, -⟩, hok⟩ := hB
  rw [ht] at hP1 hz2
  exact k F hL ((fun x hx => hst x (List.mem_append_right _ (List.mem_cons_of_mem _ hx))) : okVs st) hok ls H1 locs1 hl hP1 hS1 hz2
/-- behind a call of a static method that answers an int -/
theorem calls_i {idx mc ms z1 z2 z4 : Nat} {r : Int} (hk2 : k2 = 0) (hi : lk md pc = some (pc0, Instr.invokestatic idx, npc, k1, k2, k3, mdc.1)) (hcal : Cal Δ fl mdc d as (n, S, M) (some r) w' mc ms) (hv : calleeS mdc z1 z2 z4 as.length = true)
    (hst4 : st.length ≤ 4) (hcr : cells + mc ≤ Γ.2.2.1.cells ∧ slots + ms ≤ Γ.2.2.1.slots)
    (k : InR r → bitIf mdc.2.2.2.1 r → WAt Δ Γ fl md (d + 1) npc L (vI r :: st) w' (cells + mc) (slots + ms)) : WAt Δ Γ fl md (d + 1) pc L (as.reverse ++ st) (n, S, M) cells slots := by
  intro F hL hst hM ls H locs hl hP hS hz
  obtain ⟨-, hd, rfl, hq⟩ := lk_ok hi F.good
  simp only [calleeS, Bool.and_eq_true, decide_eq_true_eq] at hv
  obtain ⟨⟨⟨⟨⟨⟨v1, v2⟩, v4⟩, v5⟩, v6⟩, v7⟩, v8⟩ := hv
  have fr := F.fr
  have lo := F.lo
  have hml : Γ.2.2.2.2.2.2.2.2.1.maxLocals = md.2.2.1 := F.maxL
  have hcode := wis_in v1
  have hlink : Cond.methodLink md.1.cls idx mdc.1 ∈ tblG := by
    subst hk2
    exact wis_in hq
  have hgood : GoodIn tblG (va_wsS md.1.cls idx mdc.1 (wsOf mdc)) := fun w hw => by
    have hw : w ∈ ([.methodLink md.1.cls idx mdc.1, .static mdc.1, .initialized mdc.1.cls] : List Cond) ++ wsOf mdc := hw
    rcases List.mem_append.mp hw with h | h
    · simp only [List.mem_cons, List.not_mem_nil, or_false] at h
      rcases h with rfl | rfl | rfl
      · exact tblG_good _ hlink
      · exact tblG_good _ (wis_in v2)
      · exact tblG_good _ (wis_in v4)
    · exact wsOf_good hcode w h
  have emap : (as.reverse ++ st).map (rep Δ.2.1) = (as.map (rep Δ.2.1)).reverse ++ st.map (rep Δ.2.1) := by simp
  rw [emap]
  refine va_calli (va_runS (As := as.map (rep Δ.2.1)) (rest := st.map (rep Δ.2.1)) ⟨F.exec, F.bytes, hml, F.own, F.ts⟩ hcal (va_cwS as.length F.ts hgood rfl rfl rfl ⟨v5, v6, v7⟩ ⟨by show d + 1 ≤ _; exact fr, by show 8 + (mdc.2.2.1 + 11) + 40 * d ≤ _; omega⟩) ⟨RepS.blind, fun U hU hW => ⟨rfl, by rw [hU]; exact hP, va_K.moved hW.alike F.kinds, by rw [hU]; have := F.base; have := hS.1; omega, fun h => by rw [hU]; exact hz h, F.nest.warm hW, by rw [hU]; exact F.text.go hW hS⟩⟩ rfl (by simp) hl.1 rfl (lv_room (cats hst4)) hd hcr) hS (fun q _ h => h) (fun q h => h) (fun rv u t H1 locs1 ht hvm hw hB hz1 hk1 hS1 => ?_)
  obtain ⟨⟨hP1, hK1, hB1, hz2, -⟩, hok⟩ := hB
  rw [ht] at hP1 hz2
  obtain ⟨rfl, hr, hbit⟩ := hw
  exact k hr hbit F hL (okVs.cons hr (fun x hx => hst x (List.mem_append_right _ hx))) hok ls H1 locs1 hl hP1 hS1 hz2
/-- behind a call of a nest mate's private static method that answers an int -/
theorem callsN_i {idx mc ms z1 z2 z4 : Nat} {r : Int} (hk2 : k2 = 1) (hi : lk md pc = some (pc0, Instr.invokestatic idx, npc, k1, k2, k3, mdc.1)) (hcal : Cal Δ fl mdc d as (n, S, M) (some r) w' mc ms) (hv : calleeS mdc z1 z2 z4 as.length = true)
    (hst4 : st.length ≤ 4) (hcr : cells + mc ≤ Γ.2.2.1.cells ∧ slots + ms ≤ Γ.2.2.1.slots)
    (k : InR r → bitIf mdc.2.2.2.1 r → WAt Δ Γ fl md (d + 1) npc L (vI r :: st) w' (cells + mc) (slots + ms)) : WAt Δ Γ fl md (d + 1) pc L (as.reverse ++ st) (n, S, M) cells slots := by
  intro F hL hst hM ls H locs hl hP hS hz
  obtain ⟨-, hd, rfl, hq⟩ := lk_ok hi F.good
  simp only [calleeS, Bool.and_eq_true, decide_eq_true_eq] at hv
  obtain ⟨⟨⟨⟨⟨⟨v1, v2⟩, v4⟩, v5⟩, v6⟩, v7⟩, v8⟩ := hv
  have fr := F.fr
  have lo := F.lo
  have hml : Γ.2.2.2.2.2.2.2.2.1.maxLocals = md.2.2.1 := F.maxL
  have hcode := wis_in v1
  have hnest : (md.1.cls, idx, mdc.1) ∈ nestL := by
    subst hk2
    exact of_decide_eq_true hq
  have hNw := F.nest.1 _ hnest
  have emap : (as.reverse ++ st).map (rep Δ.2.1) = (as.map (rep Δ.2.1)).reverse ++ st.map (rep Δ.2.1) := by simp
  rw [emap]
  refine va_calli (va_runSN (host := "DonkeysHour") (As := as.map (rep Δ.2.1)) (rest := st.map (rep Δ.2.1)) ⟨F.exec, F.bytes, hml, F.own, F.ts⟩ hcal ⟨va_cnB as.length F.ts (wsOf_good hcode) rfl rfl rfl hNw (F.ts _ (wis_in v4)) ⟨v5, v6, v7⟩ ⟨by show d + 1 ≤ _; exact fr, by show 8 + (mdc.2.2.1 + 11) + 40 * d ≤ _; omega⟩, F.ts _ (wis_in v2), trivial⟩ ⟨RepS.blind, fun U hU hW => ⟨rfl, by rw [hU]; exact hP, va_K.moved hW.alike F.kinds, by rw [hU]; have := F.base; have := hS.1; omega, fun h => by rw [hU]; exact hz h, F.nest.warm hW, by rw [hU]; exact F.text.go hW hS⟩⟩ rfl (by simp) hl.1 rfl (lv_room (cats hst4)) hd hcr) hS (fun q _ h => h) (fun q h => h) (fun rv u t H1 locs1 ht hvm hw hB hz1 hk1 hS1 => ?_)
  obtain ⟨⟨hP1, hK1, hB1, hz2, -⟩, hok⟩ := hB
  rw [ht] at hP1 hz2
  obtain ⟨rfl, hr, hbit⟩ := hw
  exact k hr hbit F hL (okVs.cons hr (fun x hx => hst x (List.mem_append_right _ hx))) hok ls H1 locs1 hl hP1 hS1 hz2
/-- behind a call of a static method that answers nothing -/
theorem calls_v {idx mc ms z1 z2 z4 : Nat} (hk2 : k2 = 0) (hi : lk md pc = some (pc0, Instr.invokestatic idx, npc, k1, k2, k3, mdc.1)) (hcal : Cal Δ fl mdc d as (n, S, M) none w' mc ms) (hv : calleeS mdc z1 z2 z4 as.length = true)
    (hst4 : st.length ≤ 4) (hcr : cells + mc ≤ Γ.2.2.1.cells ∧ slots + ms ≤ Γ.2.2.1.slots)
    (k : WAt Δ Γ fl md (d + 1) npc L st w' (cells + mc) (slots + ms)) : WAt Δ Γ fl md (d + 1) pc L (as.reverse ++ st) (n, S, M) cells slots := by
  intro F hL hst hM ls H locs hl hP hS hz
  obtain ⟨-, hd, rfl, hq⟩ := lk_ok hi F.good
  simp only [calleeS, Bool.and_eq_true, decide_eq_true_eq] at hv
  obtain ⟨⟨⟨⟨⟨⟨v1, v2⟩, v4⟩, v5⟩, v6⟩, v7⟩, v8⟩ := hv
  have fr := F.fr
  have lo := F.lo
  have hml : Γ.2.2.2.2.2.2.2.2.1.maxLocals = md.2.2.1 := F.maxL
  have hcode := wis_in v1
  have hlink : Cond.methodLink md.1.cls idx mdc.1 ∈ tblG := by
    subst hk2
    exact wis_in hq
  have hgood : GoodIn tblG (va_wsS md.1.cls idx mdc.1 (wsOf mdc)) := fun w hw => by
    have hw : w ∈ ([.methodLink md.1.cls idx mdc.1, .static mdc.1, .initialized mdc.1.cls] : List Cond) ++ wsOf mdc := hw
    rcases List.mem_append.mp hw with h | h
    · simp only [List.mem_cons, List.not_mem_nil, or_false] at h
      rcases h with rfl | rfl | rfl
      · exact tblG_good _ hlink
      · exact tblG_good _ (wis_in v2)
      · exact tblG_good _ (wis_in v4)
    · exact wsOf_good hcode w h
  have emap : (as.reverse ++ st).map (rep Δ.2.1) = (as.map (rep Δ.2.1)).reverse ++ st.map (rep Δ.2.1) := by simp
  rw [emap]
  refine va_callv (va_runS (As := as.map (rep Δ.2.1)) (rest := st.map (rep Δ.2.1)) ⟨F.exec, F.bytes, hml, F.own, F.ts⟩ hcal (va_cwS as.length F.ts hgood rfl rfl rfl ⟨v5, v6, v7⟩ ⟨by show d + 1 ≤ _; exact fr, by show 8 + (mdc.2.2.1 + 11) + 40 * d ≤ _; omega⟩) ⟨RepS.blind, fun U hU hW => ⟨rfl, by rw [hU]; exact hP, va_K.moved hW.alike F.kinds, by rw [hU]; have := F.base; have := hS.1; omega, fun h => by rw [hU]; exact hz h, F.nest.warm hW, by rw [hU]; exact F.text.go hW hS⟩⟩ rfl (by simp) hl.1 rfl (lv_room (cats hst4)) hd hcr) hS (fun q _ h => h) (fun q h => h) (fun u t H1 locs1 ht hvm hw hB hz1 hk1 hS1 => ?_)
  obtain ⟨⟨hP1, hK1, hB1, hz2, -⟩, hok⟩ := hB
  rw [ht] at hP1 hz2
  exact k F hL (fun x hx => hst x (List.mem_append_right _ hx)) hok ls H1 locs1 hl hP1 hS1 hz2
-- ===== returns =====
theorem w_ireturn {x : Int} {mn : MethodName} (hi : lk md pc = some (pc0, Instr.ireturn, npc, k1, k2, k3, mn)) (hret : md.2.2.2.1 = some .int) (k : RetOk Δ Γ fl md (some x) (n, S, M) cells slots) : WAt Δ Γ fl md d pc L [vI x] (n, S, M) cells slots := by
  intro F hL hst hM ls H locs hl hP hS hz
  obtain ⟨-, hd, rfl, hq⟩ := lk_ok hi F.good
  unfold RetOk at k
  rw [k]
  exact W.zret (ty := .int) F.exec F.bytes (F.ret.trans hret) rfl (fun t ht hW => ⟨⟨Int32.ofInt x, (), rfl, ⟨rfl, hst.hd, fun h => by rw [hret] at h; cases h⟩, ⟨by rw [ht]; exact hP, va_K.moved hW.alike F.kinds, by rw [ht]; have := F.base; have := hS.1; omega, fun h => by rw [ht]; exact hz h, F.nest.warm hW, by rw [ht]; exact F.text.go hW hS⟩, hM⟩, hS.F ht⟩) hS.2.2 hd F.locks
theorem w_zreturn {x : Int} {mn : MethodName} (hi : lk md pc = some (pc0, Instr.ireturn, npc, k1, k2, k3, mn)) (hret : md.2.2.2.1 = some .boolean) (hx : x = 0 ∨ x = 1) (k : RetOk Δ Γ fl md (some x) (n, S, M) cells slots) : WAt Δ Γ fl md d pc L [vI x] (n, S, M) cells slots := by
  intro F hL hst hM ls H locs hl hP hS hz
  obtain ⟨-, hd, rfl, hq⟩ := lk_ok hi F.good
  unfold RetOk at k
  rw [k]
  exact W.zret (ty := .boolean) F.exec F.bytes (F.ret.trans hret) (by rcases hx with rfl | rfl <;> rfl) (fun t ht hW => ⟨⟨Int32.ofInt x, (), rfl, ⟨rfl, hst.hd, fun _ => hx⟩, ⟨by rw [ht]; exact hP, va_K.moved hW.alike F.kinds, by rw [ht]; have := F.base; have := hS.1; omega, fun h => by rw [ht]; exact hz h, F.nest.warm hW, by rw [ht]; exact F.text.go hW hS⟩, hM⟩, hS.F ht⟩) hS.2.2 hd F.locks
theorem w_return {mn : MethodName} (hi : lk md pc = some (pc0, Instr.return_, npc, k1, k2, k3, mn)) (hret : md.2.2.2.1 = none) (k : RetOk Δ Γ fl md none (n, S, M) cells slots) : WAt Δ Γ fl md d pc L [] (n, S, M) cells slots := by
  intro F hL hst hM ls H locs hl hP hS hz
  obtain ⟨-, hd, rfl, hq⟩ := lk_ok hi F.good
  unfold RetOk at k
  rw [k]
  exact W.vret F.exec F.bytes (F.ret.trans hret) (fun t ht hW => ⟨⟨(), rfl, trivial, ⟨by rw [ht]; exact hP, va_K.moved hW.alike F.kinds, by rw [ht]; have := F.base; have := hS.1; omega, fun h => by rw [ht]; exact hz h, F.nest.warm hW, by rw [ht]; exact F.text.go hW hS⟩, hM⟩, hS.F ht⟩) hS.2.2 hd F.locks
-- ===== a contract out of a body =====
theorem lg_sl_rep {B : Nat} : ∀ {as : List PV}, (∀ v ∈ as, (∃ n, v = vI n) ∨ ∃ a, v = vR a) → lg_sl (as.map (rep B)) = (as.map (rep B)).map Slot.val := by
  intro as
  induction as with
  | nil => intro _; rfl
  | cons v as ih =>
    intro h
    have hv := h v List.mem_cons_self
    have ih := ih (fun x hx => h x (List.mem_cons_of_mem _ hx))
    have e : lg_sl (List.map (rep B) (v :: as)) = Slot.val (rep B v) :: lg_sl (List.map (rep B) as) := by
      rcases hv with ⟨n, rfl⟩ | ⟨a, rfl⟩ <;> simp [lg_sl, rep, Value.category]
    rw [e, ih]
    rfl
theorem entry_lvr {B : Nat} {as : List PV} {nL : Nat} (h : ∀ v ∈ as, (∃ n, v = vI n) ∨ ∃ a, v = vR a) (hn : as.length ≤ nL) : lvr B (lg_sl (as.map (rep B)) ++ List.replicate (nL - (lg_sl (as.map (rep B))).length) Slot.unset).toArray nL (as ++ List.replicate (nL - as.length) vN) := by
  have hl : (lg_sl (as.map (rep B))).length ≤ nL := by rw [lg_sl_rep h]; simpa using hn
  have h0 := lv_entry (as.map (rep B)) hl
  refine ⟨h0.1, h0.2.1, fun q hq => ?_⟩
  obtain ⟨j, v, h1, h2, rfl⟩ := (lvlA_mem B _ 0 _).mp hq
  have hj : as[j]? = some v := by
    by_cases hlt : j < as.length
    · rwa [List.getElem?_append_left hlt] at h1
    · rw [List.getElem?_append_right (by omega)] at h1
      have e := List.eq_of_mem_replicate (List.mem_of_getElem? h1)
      subst e
      rcases h2 with ⟨n, h⟩ | ⟨a, h⟩ <;> cases h
  have hlt : j < as.length := (List.getElem?_eq_some_iff.mp hj).1
  rw [Nat.zero_add, List.getElem?_toArray, lg_sl_rep h, List.getElem?_append_left (by simpa using hlt)]
  simp [hj]
theorem entry_lvx {Γ : FT} {B : Nat} {as : List PV} {md : MD} (h : ∀ v ∈ as, (∃ n, v = vI n) ∨ ∃ a, v = vR a) (hn : as.length ≤ md.2.2.1) (hΓ : Γ.2.2.2.2.2.1 = (as.map (rep B)).toArray) : lvx (ext Γ md) B (lg_sl (as.map (rep B)) ++ List.replicate (md.2.2.1 - (lg_sl (as.map (rep B))).length) Slot.unset).toArray md.2.2.1 (as ++ List.replicate (md.2.2.1 - as.length) vN) := by
  have h0 := entry_lvr (B := B) h hn
  refine ⟨h0.1, h0.2.1, fun q hq => (List.mem_append.mp hq).elim (fun hq => h0.2.2 q ?_) (h0.2.2 q)⟩
  obtain ⟨-, a, rfl, ha⟩ := ext_0 hq
  rw [hΓ] at ha
  match as, h, ha with
  | [], _, ha => cases ha
  | v :: vs, h, ha =>
    have hv : rep B v = .ref a := by simpa using ha
    exact (lvlA_mem B _ 0 _).mpr ⟨0, v, rfl, h v List.mem_cons_self, by rw [hv]⟩
theorem cal_of (hg : md.2.2.2.2.all (chkE md) = true) (hpl : plainFor md.1 = true) {as : List PV} {w w' : WD} {r : Option Int} {mc ms : Nat} (has : ∀ v ∈ as, (∃ n, v = vI n) ∨ ∃ a, v = vR a) (hok : okVs as) (hM : okM w.2.2) (hn : as.length ≤ md.2.2.1)
    (h : ∀ Γ : FT, Γ.2.2.1 = rmOf d mc ms → RetOk Δ Γ fl md r w' mc ms → WAt Δ Γ fl md d 0 (as ++ List.replicate (md.2.2.1 - as.length) vN) [] w 0 0) : Cal Δ fl md d as w r w' mc ms := by
  refine met_ofW (cc := md.2.1) (maxL := md.2.2.1) (ret := md.2.2.2.1) hpl rfl ?_
  intro p e s m args below meth c s₁ B hml hv
  obtain ⟨rfl, hP, hK, hB, hz, hN, hT⟩ := hv
  have hts := atoms_spec (ws := wsOf md) B.pre
  rw [lg_entry_eq]
  refine h (p, e, rmOf d mc ms, s, m, (as.map (rep Δ.2.1)).toArray, below, meth, c, MQ below (QcOf Δ fl md.2.2.2.1 r w') (as.map (rep Δ.2.1)).toArray s mc ms (own Δ)) rfl rfl ⟨B.exec, B.bytes, hml, B.returns, B.notSynchronized, (name_of_methodNamed B.named B.method).1, findClass_of_methodNamed B.named, fun w hw => hts w (List.mem_cons_of_mem _ hw), hK, hB, Nat.le_refl _, Nat.le_refl _, hg, hN, hT⟩ ?_ (fun x hx => by cases hx) hM _ s.heap [] (entry_lvx has hn rfl) hP va_S.rf hz
  intro x hx
  rcases List.mem_append.mp hx with h1 | h1
  · exact hok x h1
  · rw [List.eq_of_mem_replicate h1]
    exact trivial
end CALLS
