-- ===== "hptfcmki".indexOf, over the machine =====
def LBY : List Int32 := [104, 112, 116, 102, 99, 109, 107, 105]
/-- the letters' string at a, its bytes at v -/
def SF (Δ : DT) (a v : Nat) (U : State) (H : Heap) : Prop := vk_S 1 [8] [LBY] (fun _ => a) (fun _ => v) (own Δ) U H ∧ va_Z "java/lang/String" "COMPACT_STRINGS" "Z" (.int 1) (own Δ) U H
theorem SF.go {Δ : DT} {a v : Nat} {s U : State} {H H1 : Heap} {locs : List Loc} (hW : s.WarmedH U.vm) (hS : va_S (own Δ) H H1 locs) (h : SF Δ a v s H) : SF Δ a v U H1 := ⟨(vk_S.moved hW.alike h.1).kept hS.2.1, (va_Z.moved hW.alike h.2).kept hS.2.1⟩
theorem SF.same {Δ : DT} {a v : Nat} {s U : State} {H : Heap} (hA : s.vm.Alike U.vm) (h : SF Δ a v s H) : SF Δ a v U H := ⟨vk_S.moved hA h.1, va_Z.moved hA h.2⟩
theorem TW.SF {Δ : DT} {U : State} {H : Heap} (h : TW Δ.2.1 U H) : ∃ a v, vk_R "DonkeysHour$Rule" 73 "hptfcmki" a U ∧ SF Δ a v U H := h
def PF (Δ : DT) (fl : Bool) (w : WD) (a v : Nat) (U : State) : Prop := RepS Δ fl w U ∧ SF Δ a v U U.heap
theorem PF.blind {Δ : DT} {fl : Bool} {w : WD} {a v : Nat} {as : List Value} : FrameBlind (va_Pc as (PF Δ fl w a v)) := by
  intro a U g mk h
  obtain ⟨h0, h1, h2⟩ := h
  have hb := RepS.blind (Δ := Δ) (fl := fl) (w := w) (as := as) a U g mk ⟨h0, h1⟩
  exact ⟨hb.1, hb.2, SF.same (U := U.calling g mk a) (Vm.Alike.refl U.vm) h2⟩
def CalF (Δ : DT) (fl : Bool) (md : MD) (d : Nat) (as : List Value) (w : WD) (a v : Nat) (r : Int) : Prop :=
  Met Δ.1 md.1 (wsOf md) (rmOf d 0 0) (va_Pc as (PF Δ fl w a v)) (QcOf Δ fl md.2.2.2.1 (some r) w) 0 0 (own Δ)
def WF (Δ : DT) (Γ : FT) (fl : Bool) (md : MD) (pc : Nat) (L : List (Nat × Value)) (st : List Value) (w : WD) : Prop :=
  ∀ (ls : Array Slot) (H : Heap) (locs : List Loc), lv_has ls md.2.2.1 L → va_P Δ.2.2.1 vwCl (wL Δ.2.1 Δ.2.2.2 w) H → va_S (own Δ) Γ.2.2.2.1.heap H locs → (fl = true → H.size = Δ.2.1 + w.1) →
    W Γ.1 Δ.1 Γ.2.1 Γ.2.2.1 Γ.2.2.2.1 Γ.2.2.2.2.1 Γ.2.2.2.2.2.1 Γ.2.2.2.2.2.2.1 Γ.2.2.2.2.2.2.2.1 Γ.2.2.2.2.2.2.2.2.1 H locs 0 0 Γ.2.2.2.2.2.2.2.2.2 (F0 Γ.2.2.2.2.1 pc ls st)
section FROWS
variable {Δ : DT} {Γ : FT} {fl : Bool} {md : MD} {d pc : Nat} {L : List (Nat × Value)} {st : List Value} {w : WD}
theorem f_aload_n (F : FOk Δ Γ md d) {j : Fin 4} {x : Nat} (q : Nat) (hdg : decode md.2.1 pc = .ok (.aload_n j, 1)) (hx : L[q]? = some ((j : Nat), .ref x)) (k : WF Δ Γ fl md (pc + 1) L (.ref x :: st) w) : WF Δ Γ fl md pc L st w :=
  fun ls H locs hl hP hS hz => lv_aload_n F.exec F.bytes hdg rfl (lv_at hl q hx) (k ls H locs hl hP hS hz)
theorem f_iload_n (F : FOk Δ Γ md d) {j : Fin 4} {x : Int32} (q : Nat) (hdg : decode md.2.1 pc = .ok (.iload_n j, 1)) (hx : L[q]? = some ((j : Nat), .int x)) (k : WF Δ Γ fl md (pc + 1) L (.int x :: st) w) : WF Δ Γ fl md pc L st w :=
  fun ls H locs hl hP hS hz => lv_iload_n F.exec F.bytes hdg rfl (lv_at hl q hx) (k ls H locs hl hP hS hz)
theorem f_iload (F : FOk Δ Γ md d) {i : Nat} {x : Int32} (q : Nat) (hdg : decode md.2.1 pc = .ok (.iload i, 2)) (hx : L[q]? = some (i, .int x)) (k : WF Δ Γ fl md (pc + 2) L (.int x :: st) w) : WF Δ Γ fl md pc L st w :=
  fun ls H locs hl hP hS hz => lv_iload F.exec F.bytes hdg (lv_at hl q hx) (k ls H locs hl hP hS hz)
theorem f_iconst (F : FOk Δ Γ md d) {n : Int} {v : Int32} (hdg : decode md.2.1 pc = .ok (.iconst n, 1)) (hv : Int32.ofInt n = v) (k : WF Δ Γ fl md (pc + 1) L (.int v :: st) w) : WF Δ Γ fl md pc L st w :=
  fun ls H locs hl hP hS hz => lv_iconst F.exec F.bytes hdg hv (k ls H locs hl hP hS hz)
theorem f_sipush (F : FOk Δ Γ md d) {n : Int} {v : Int32} (hdg : decode md.2.1 pc = .ok (.sipush n, 3)) (hv : (Int16.ofInt n).toInt32 = v) (k : WF Δ Γ fl md (pc + 3) L (.int v :: st) w) : WF Δ Γ fl md pc L st w :=
  fun ls H locs hl hP hS hz => lv_sipush F.exec F.bytes hdg hv (k ls H locs hl hP hS hz)
theorem f_goto (F : FOk Δ Γ md d) {off : Int} {tgt : Nat} (hdg : decode md.2.1 pc = .ok (.goto off, 3)) (ht : (pc : Int) + off = (tgt : Int)) (k : WF Δ Γ fl md tgt L st w) : WF Δ Γ fl md pc L st w :=
  fun ls H locs hl hP hS hz => lv_goto F.exec F.bytes hdg ht (k ls H locs hl hP hS hz)
theorem f_if_eq (F : FOk Δ Γ md d) {x : Int32} {off : Int} {tgt : Nat} (hdg : decode md.2.1 pc = .ok (.ifCond .eq off, 3)) (ht : (pc : Int) + off = (tgt : Int)) (kt : x = 0 → WF Δ Γ fl md tgt L st w) (kf : ¬ x = 0 → WF Δ Γ fl md (pc + 3) L st w) : WF Δ Γ fl md pc L (.int x :: st) w :=
  fun ls H locs hl hP hS hz => lv_if_eq F.exec F.bytes hdg ht (fun h => kt h ls H locs hl hP hS hz) (fun h => kf h ls H locs hl hP hS hz)
theorem f_if_ne (F : FOk Δ Γ md d) {x : Int32} {off : Int} {tgt : Nat} (hdg : decode md.2.1 pc = .ok (.ifCond .ne off, 3)) (ht : (pc : Int) + off = (tgt : Int)) (kt : ¬ x = 0 → WF Δ Γ fl md tgt L st w) (kf : x = 0 → WF Δ Γ fl md (pc + 3) L st w) : WF Δ Γ fl md pc L (.int x :: st) w :=
  fun ls H locs hl hP hS hz => lv_if_ne F.exec F.bytes hdg ht (fun h => kt h ls H locs hl hP hS hz) (fun h => kf h ls H locs hl hP hS hz)
theorem f_if_lt (F : FOk Δ Γ md d) {x : Int32} {off : Int} {tgt : Nat} (hdg : decode md.2.1 pc = .ok (.ifCond .lt off, 3)) (ht : (pc : Int) + off = (tgt : Int)) (kt : x < 0 → WF Δ Γ fl md tgt L st w) (kf : ¬ x < 0 → WF Δ Γ fl md (pc + 3) L st w) : WF Δ Γ fl md pc L (.int x :: st) w :=
  fun ls H locs hl hP hS hz => lv_if_lt F.exec F.bytes hdg ht (fun h => kt h ls H locs hl hP hS hz) (fun h => kf h ls H locs hl hP hS hz)
theorem f_icmp_gt (F : FOk Δ Γ md d) {x y : Int32} {off : Int} {tgt : Nat} (hdg : decode md.2.1 pc = .ok (.if_icmp .gt off, 3)) (ht : (pc : Int) + off = (tgt : Int)) (kt : y < x → WF Δ Γ fl md tgt L st w) (kf : ¬ y < x → WF Δ Γ fl md (pc + 3) L st w) : WF Δ Γ fl md pc L (.int y :: .int x :: st) w :=
  fun ls H locs hl hP hS hz => lv_icmp_gt F.exec F.bytes hdg ht (fun h => kt h ls H locs hl hP hS hz) (fun h => kf h ls H locs hl hP hS hz)
theorem f_icmp_lt (F : FOk Δ Γ md d) {x y : Int32} {off : Int} {tgt : Nat} (hdg : decode md.2.1 pc = .ok (.if_icmp .lt off, 3)) (ht : (pc : Int) + off = (tgt : Int)) (kt : x < y → WF Δ Γ fl md tgt L st w) (kf : ¬ x < y → WF Δ Γ fl md (pc + 3) L st w) : WF Δ Γ fl md pc L (.int y :: .int x :: st) w :=
  fun ls H locs hl hP hS hz => lv_icmp_lt F.exec F.bytes hdg ht (fun h => kt h ls H locs hl hP hS hz) (fun h => kf h ls H locs hl hP hS hz)
theorem f_icmp_ge (F : FOk Δ Γ md d) {x y : Int32} {off : Int} {tgt : Nat} (hdg : decode md.2.1 pc = .ok (.if_icmp .ge off, 3)) (ht : (pc : Int) + off = (tgt : Int)) (kt : y ≤ x → WF Δ Γ fl md tgt L st w) (kf : ¬ y ≤ x → WF Δ Γ fl md (pc + 3) L st w) : WF Δ Γ fl md pc L (.int y :: .int x :: st) w :=
  fun ls H locs hl hP hS hz => lv_icmp_ge F.exec F.bytes hdg ht (fun h => kt h ls H locs hl hP hS hz) (fun h => kf h ls H locs hl hP hS hz)
theorem f_icmp_ne (F : FOk Δ Γ md d) {x y : Int32} {off : Int} {tgt : Nat} (hdg : decode md.2.1 pc = .ok (.if_icmp .ne off, 3)) (ht : (pc : Int) + off = (tgt : Int)) (kt : ¬ x = y → WF Δ Γ fl md tgt L st w) (kf : x = y → WF Δ Γ fl md (pc + 3) L st w) : WF Δ Γ fl md pc L (.int y :: .int x :: st) w :=
  fun ls H locs hl hP hS hz => lv_icmp_ne F.exec F.bytes hdg ht (fun h => kt h ls H locs hl hP hS hz) (fun h => kf h ls H locs hl hP hS hz)
theorem f_istore_n (F : FOk Δ Γ md d) {j : Fin 4} {x : Int32} {L' : List (Nat × Value)} (hdg : decode md.2.1 pc = .ok (.istore_n j, 1)) (hn : (j : Nat) < md.2.2.1) (hL : ((j : Nat), Value.int x) :: L.filter (fun q => !(q.1 == (j : Nat)) && !(q.1 + 1 == (j : Nat) && q.2.category == 2)) = L') (k : WF Δ Γ fl md (pc + 1) L' st w) : WF Δ Γ fl md pc L (.int x :: st) w :=
  fun ls H locs hl hP hS hz => lv_istore_n F.exec F.bytes hdg rfl hl hn hL (fun ls' hl' => k ls' H locs hl' hP hS hz)
theorem f_istore (F : FOk Δ Γ md d) {i : Nat} {x : Int32} {L' : List (Nat × Value)} (hdg : decode md.2.1 pc = .ok (.istore i, 2)) (hn : i < md.2.2.1) (hL : (i, Value.int x) :: L.filter (fun q => !(q.1 == i) && !(q.1 + 1 == i && q.2.category == 2)) = L') (k : WF Δ Γ fl md (pc + 2) L' st w) : WF Δ Γ fl md pc L (.int x :: st) w :=
  fun ls H locs hl hP hS hz => lv_istore F.exec F.bytes hdg hl hn hL (fun ls' hl' => k ls' H locs hl' hP hS hz)
theorem f_iinc (F : FOk Δ Γ md d) {i q : Nat} {n : Int} {x v : Int32} {L' : List (Nat × Value)} (hdg : decode md.2.1 pc = .ok (.iinc i n, 3)) (hx : L[q]? = some (i, .int x)) (hv : x + Int32.ofInt n = v) (hn : i < md.2.2.1) (hL : (i, Value.int v) :: L.filter (fun q => !(q.1 == i) && !(q.1 + 1 == i && q.2.category == 2)) = L') (k : WF Δ Γ fl md (pc + 3) L' st w) : WF Δ Γ fl md pc L st w :=
  fun ls H locs hl hP hS hz => lv_iinc F.exec F.bytes hdg hl hx hv hn hL (fun ls' hl' => k ls' H locs hl' hP hS hz)
theorem f_i2b (F : FOk Δ Γ md d) {x v : Int32} (hdg : decode md.2.1 pc = .ok (.i2b, 1)) (hv : x.toInt8.toInt32 = v) (k : WF Δ Γ fl md (pc + 1) L (.int v :: st) w) : WF Δ Γ fl md pc L (.int x :: st) w :=
  fun ls H locs hl hP hS hz => lv_i2b F.exec F.bytes hdg hv (k ls H locs hl hP hS hz)
theorem f_ishr (F : FOk Δ Γ md d) {x y : Int32} (hdg : decode md.2.1 pc = .ok (.ishr, 1)) (k : WF Δ Γ fl md (pc + 1) L (.int (x >>> (y &&& 31)) :: st) w) : WF Δ Γ fl md pc L (.int y :: .int x :: st) w :=
  fun ls H locs hl hP hS hz => lv_ishr F.exec F.bytes hdg (k ls H locs hl hP hS hz)
theorem f_cs (F : FOk Δ Γ md d) {a v idx : Nat} (hE : SF Δ a v Γ.2.2.2.1 Γ.2.2.2.1.heap) (hlink : Cond.fieldLink md.1.cls idx "java/lang/String" "COMPACT_STRINGS" "Z" ∈ tblG) (hdg : decode md.2.1 pc = .ok (.getstatic idx, 3)) (k : WF Δ Γ fl md (pc + 3) L (.int 1 :: st) w) : WF Δ Γ fl md pc L st w :=
  fun ls H locs hl hP hS hz => va_gets F.exec F.bytes hE.2 hS F.own (F.ts _ hlink) (fun _ h => h) hdg (k ls H locs hl hP hS hz)
theorem f_coder (F : FOk Δ Γ md d) {a v idx : Nat} (hE : SF Δ a v Γ.2.2.2.1 Γ.2.2.2.1.heap) (hlink : Cond.fieldLink md.1.cls idx "java/lang/String" "coder" "B" ∈ tblG) (hdg : decode md.2.1 pc = .ok (.getfield idx, 3)) (k : WF Δ Γ fl md (pc + 3) L (.int 0 :: st) w) : WF Δ Γ fl md pc L (.ref a :: st) w :=
  fun ls H locs hl hP hS hz => vk_getf F.exec F.bytes (hE.1.1 0 (by decide)).2.1 hS F.own (F.ts _ hlink) (fun _ h => h) hdg (k ls H locs hl hP hS hz)
theorem f_value (F : FOk Δ Γ md d) {a v idx : Nat} (hE : SF Δ a v Γ.2.2.2.1 Γ.2.2.2.1.heap) (hlink : Cond.fieldLink md.1.cls idx "java/lang/String" "value" "[B" ∈ tblG) (hdg : decode md.2.1 pc = .ok (.getfield idx, 3)) (k : WF Δ Γ fl md (pc + 3) L (.ref v :: st) w) : WF Δ Γ fl md pc L (.ref a :: st) w :=
  fun ls H locs hl hP hS hz => vk_getf F.exec F.bytes (hE.1.1 0 (by decide)).2.2.1 hS F.own (F.ts _ hlink) (fun _ h => h) hdg (k ls H locs hl hP hS hz)
theorem f_alen (F : FOk Δ Γ md d) {a v : Nat} (hE : SF Δ a v Γ.2.2.2.1 Γ.2.2.2.1.heap) (hdg : decode md.2.1 pc = .ok (.arraylength, 1)) (k : WF Δ Γ fl md (pc + 1) L (.int 8 :: st) w) : WF Δ Γ fl md pc L (.ref v :: st) w :=
  fun ls H locs hl hP hS hz => va_tlen F.exec F.bytes (hE.1.1 0 (by decide)).2.2.2 hS rfl hdg (k ls H locs hl hP hS hz)
theorem f_bald (F : FOk Δ Γ md d) {a v : Nat} (hE : SF Δ a v Γ.2.2.2.1 Γ.2.2.2.1.heap) {i : Int32} {x : Int32} (hin : vp_in i 8) (hv : LBY.getD i.toNatClampNeg 0 = x) (hdg : decode md.2.1 pc = .ok (.baload, 1)) (k : WF Δ Γ fl md (pc + 1) L (.int x :: st) w) : WF Δ Γ fl md pc L (.int i :: .ref v :: st) w :=
  fun ls H locs hl hP hS hz => va_tb F.exec F.bytes (hE.1.1 0 (by decide)).2.2.2 hS hin (v := .int x) (by rw [← hv]; rfl) hdg (k ls H locs hl hP hS hz)
theorem f_ret (F : FOk Δ Γ md d) {r : Int} {ty : FieldType} (hM : okM w.2.2) (hr : InR r) (hret : md.2.2.2.1 = some ty) (hn : narrow ty (.int (Int32.ofInt r)) = .int (Int32.ofInt r)) (hb : bitIf md.2.2.2.1 r) (hk : RetOk Δ Γ fl md (some r) w 0 0) (hdg : decode md.2.1 pc = .ok (.ireturn, 1)) : WF Δ Γ fl md pc L [.int (Int32.ofInt r)] w := by
  intro ls H locs hl hP hS hz
  unfold RetOk at hk
  rw [hk]
  exact W.zret (ty := ty) F.exec F.bytes (F.ret.trans hret) hn (fun t ht hW => ⟨⟨Int32.ofInt r, (), rfl, ⟨rfl, hr, hb⟩, ⟨by rw [ht]; exact hP, va_K.moved hW.alike F.kinds, by rw [ht]; have := F.base; have := hS.1; omega, fun h => by rw [ht]; exact hz h, F.nest.warm hW, by rw [ht]; exact F.text.go hW hS⟩, hM⟩, hS.F ht⟩) hS.2.2 hdg F.locks
theorem r_callv {mdc : MD} {idx a v z1 z2 z3 z4 : Nat} {r : Int} {as : List Value} {ls : Array Slot} {H : Heap} {locs : List Loc} (F : FOk Δ Γ md (d + 1)) (hsz : ls.size = md.2.2.1) (hP : va_P Δ.2.2.1 vwCl (wL Δ.2.1 Δ.2.2.2 w) H) (hS : va_S (own Δ) Γ.2.2.2.1.heap H locs) (hz : fl = true → H.size = Δ.2.1 + w.1) (hdg : decode md.2.1 pc = .ok (.invokevirtual idx, 3)) (hlink : Cond.methodLink md.1.cls idx mdc.1 ∈ tblG) (hcal : CalF Δ fl mdc d (.ref a :: as) w a v r) (hv : calleeV mdc z1 z2 z3 z4 as.length = true) (hcls : mdc.1.cls = "java/lang/String") (hE : SF Δ a v Γ.2.2.2.1 Γ.2.2.2.1.heap) (hst : (st.map fun v => v.category).sum ≤ 8)
    (k : ∀ (H1 : Heap) (locs1 : List Loc), va_P Δ.2.2.1 vwCl (wL Δ.2.1 Δ.2.2.2 w) H1 → va_S (own Δ) Γ.2.2.2.1.heap H1 locs1 → (fl = true → H1.size = Δ.2.1 + w.1) → InR r → W Γ.1 Δ.1 Γ.2.1 Γ.2.2.1 Γ.2.2.2.1 Γ.2.2.2.2.1 Γ.2.2.2.2.2.1 Γ.2.2.2.2.2.2.1 Γ.2.2.2.2.2.2.2.1 Γ.2.2.2.2.2.2.2.2.1 H1 locs1 0 0 Γ.2.2.2.2.2.2.2.2.2 (F0 Γ.2.2.2.2.1 (pc + 3) ls (.int (Int32.ofInt r) :: st))) :
    W Γ.1 Δ.1 Γ.2.1 Γ.2.2.1 Γ.2.2.2.1 Γ.2.2.2.2.1 Γ.2.2.2.2.2.1 Γ.2.2.2.2.2.2.1 Γ.2.2.2.2.2.2.2.1 Γ.2.2.2.2.2.2.2.2.1 H locs 0 0 Γ.2.2.2.2.2.2.2.2.2 (F0 Γ.2.2.2.2.1 pc ls (as.reverse ++ .ref a :: st)) := by
  simp only [calleeV, Bool.and_eq_true, decide_eq_true_eq] at hv
  obtain ⟨⟨⟨⟨⟨⟨⟨v1, v2⟩, v3⟩, v4⟩, v5⟩, v6⟩, v7⟩, v8⟩ := hv
  have fr := F.fr
  have lo := F.lo
  have hml : Γ.2.2.2.2.2.2.2.2.1.maxLocals = md.2.2.1 := F.maxL
  have hcode := wis_in v1
  have hgood : GoodIn tblG (wsV md.1.cls idx mdc.1.cls mdc.1 (wsOf mdc)) := fun w hw => by
    have hw : w ∈ ([.methodLink md.1.cls idx mdc.1, .instanceMethod mdc.1, .selects mdc.1.cls mdc.1 mdc.1, .initialized mdc.1.cls] : List Cond) ++ wsOf mdc := hw
    rcases List.mem_append.mp hw with h | h
    · simp only [List.mem_cons, List.not_mem_nil, or_false] at h
      rcases h with rfl | rfl | rfl | rfl
      · exact tblG_good _ hlink
      · exact tblG_good _ (wis_in v2)
      · exact tblG_good _ (wis_in v3)
      · exact tblG_good _ (wis_in v4)
    · exact wsOf_good hcode w h
  have hrecv : ∃ cell : Cell, H[a]? = some cell ∧ cell.vm.isStatics = false ∧ Γ.2.2.2.1.vm.findClass mdc.1.cls = some cell.cls := by
    rw [hcls]
    exact vk_recv hE.1 (i := 0) (by decide) hS
  refine va_calli (va_runV (As := as) (rest := st) ⟨F.exec, F.bytes, hml, F.own, F.ts⟩ hcal (cwV as.length F.ts hgood rfl rfl rfl ⟨rfl, v5, v6, v7⟩ ⟨by show d + 1 ≤ _; exact fr, by show 8 + (mdc.2.2.1 + 11) + 40 * d ≤ _; omega⟩) ⟨PF.blind, hrecv, fun U hU hW => ⟨by simp, ⟨by rw [hU]; exact hP, va_K.moved hW.alike F.kinds, by rw [hU]; have := F.base; have := hS.1; omega, fun h => by rw [hU]; exact hz h, F.nest.warm hW, by rw [hU]; exact F.text.go hW hS⟩, by rw [hU]; exact hE.go hW hS⟩⟩ rfl rfl hsz rfl (lv_room hst) hdg ⟨Nat.zero_le _, Nat.zero_le _⟩) hS (fun q _ h => h) (fun q h => h) (fun rv u t H1 locs1 ht hvm hw hB hz1 hk1 hS1 => ?_)
  obtain ⟨⟨hP1, hK1, hB1, hz2, -⟩, hok⟩ := hB
  rw [ht] at hP1 hz2
  obtain ⟨rfl, hr, hbit⟩ := hw
  exact k H1 locs1 hP1 hS1 hz2 hr
theorem f_callv {mdc : MD} {idx a v z1 z2 z3 z4 : Nat} {r : Int} {as : List Value} (F : FOk Δ Γ md (d + 1)) (hdg : decode md.2.1 pc = .ok (.invokevirtual idx, 3)) (hlink : Cond.methodLink md.1.cls idx mdc.1 ∈ tblG) (hcal : CalF Δ fl mdc d (.ref a :: as) w a v r) (hv : calleeV mdc z1 z2 z3 z4 as.length = true) (hcls : mdc.1.cls = "java/lang/String") (hE : SF Δ a v Γ.2.2.2.1 Γ.2.2.2.1.heap) (hst : (st.map fun v => v.category).sum ≤ 8)
    (k : WF Δ Γ fl md (pc + 3) L (.int (Int32.ofInt r) :: st) w) : WF Δ Γ fl md pc L (as.reverse ++ .ref a :: st) w :=
  fun ls H locs hl hP hS hz => r_callv F hl.1 hP hS hz hdg hlink hcal hv hcls hE hst (fun H1 locs1 hP1 hS1 hz1 _ => k ls H1 locs1 hl hP1 hS1 hz1)
theorem f_calls {mdc : MD} {idx a v z1 z2 z4 : Nat} {r : Int} {as : List Value} (F : FOk Δ Γ md (d + 1)) (hdg : decode md.2.1 pc = .ok (.invokestatic idx, 3)) (hlink : Cond.methodLink md.1.cls idx mdc.1 ∈ tblG) (hcal : CalF Δ fl mdc d as w a v r) (hv : calleeS mdc z1 z2 z4 as.length = true) (hE : SF Δ a v Γ.2.2.2.1 Γ.2.2.2.1.heap) (hst : (st.map fun v => v.category).sum ≤ 8)
    (k : WF Δ Γ fl md (pc + 3) L (.int (Int32.ofInt r) :: st) w) : WF Δ Γ fl md pc L (as.reverse ++ st) w := by
  intro ls H locs hl hP hS hz
  simp only [calleeS, Bool.and_eq_true, decide_eq_true_eq] at hv
  obtain ⟨⟨⟨⟨⟨⟨v1, v2⟩, v4⟩, v5⟩, v6⟩, v7⟩, v8⟩ := hv
  have fr := F.fr
  have lo := F.lo
  have hml : Γ.2.2.2.2.2.2.2.2.1.maxLocals = md.2.2.1 := F.maxL
  have hcode := wis_in v1
  have hgood : GoodIn tblG (va_wsS md.1.cls idx mdc.1 (wsOf mdc)) := fun w hw => by
    have hw : w ∈ ([.methodLink md.1.cls idx mdc.1, .static mdc.1, .initialized mdc.1.cls] : List Cond) ++ wsOf mdc := hw
    rcases List.mem_append.mp hw with h | h
    · simp only [List.mem_cons, List.not_mem_nil, or_false] at h
      rcases h with rfl | rfl | rfl
      · exact tblG_good _ hlink
      · exact tblG_good _ (wis_in v2)
      · exact tblG_good _ (wis_in v4)
    · exact wsOf_good hcode w h
  refine va_calli (va_runS (As := as) (rest := st) ⟨F.exec, F.bytes, hml, F.own, F.ts⟩ hcal (va_cwS as.length F.ts hgood rfl rfl rfl ⟨v5, v6, v7⟩ ⟨by show d + 1 ≤ _; exact fr, by show 8 + (mdc.2.2.1 + 11) + 40 * d ≤ _; omega⟩) ⟨PF.blind, fun U hU hW => ⟨rfl, ⟨by rw [hU]; exact hP, va_K.moved hW.alike F.kinds, by rw [hU]; have := F.base; have := hS.1; omega, fun h => by rw [hU]; exact hz h, F.nest.warm hW, by rw [hU]; exact F.text.go hW hS⟩, by rw [hU]; exact hE.go hW hS⟩⟩ rfl rfl hl.1 rfl (lv_room hst) hdg ⟨Nat.zero_le _, Nat.zero_le _⟩) hS (fun q _ h => h) (fun q h => h) (fun rv u t H1 locs1 ht hvm hw hB hz1 hk1 hS1 => ?_)
  obtain ⟨⟨hP1, hK1, hB1, hz2, -⟩, hok⟩ := hB
  rw [ht] at hP1 hz2
  obtain ⟨rfl, hr, hbit⟩ := hw
  exact k ls H1 locs1 hl hP1 hS1 hz2
theorem calF_of {as : List Value} {a v : Nat} {r : Int} (hg : md.2.2.2.2 = []) (hpl : plainFor md.1 = true) (hM : okM w.2.2) (hn : (lg_sl as).length ≤ md.2.2.1)
    (h : ∀ Γ : FT, RetOk Δ Γ fl md (some r) w 0 0 → FOk Δ Γ md d → SF Δ a v Γ.2.2.2.1 Γ.2.2.2.1.heap → WF Δ Γ fl md 0 (lv_args 0 as) [] w) : CalF Δ fl md d as w a v r := by
  refine met_ofW (cc := md.2.1) (maxL := md.2.2.1) (ret := md.2.2.2.1) hpl rfl ?_
  intro p e s m args below meth c s₁ B hml hv
  obtain ⟨rfl, ⟨hP, hK, hB, hz, hN, hT⟩, hE⟩ := hv
  have hts := atoms_spec (ws := wsOf md) B.pre
  rw [lg_entry_eq]
  exact h (p, e, rmOf d 0 0, s, m, as.toArray, below, meth, c, MQ below (QcOf Δ fl md.2.2.2.1 (some r) w) as.toArray s 0 0 (own Δ)) rfl ⟨B.exec, B.bytes, hml, B.returns, B.notSynchronized, (name_of_methodNamed B.named B.method).1, findClass_of_methodNamed B.named, fun w hw => hts w (List.mem_cons_of_mem _ hw), hK, hB, Nat.le_refl _, Nat.le_refl _, by rw [hg]; rfl, hN, hT⟩ hE _ s.heap [] (lv_entry as hn) hP va_S.rf hz
theorem f_mmax {idx : Nat} {x y z : Int32} (F : FOk Δ Γ md (d + 1)) (hdg : decode md.2.1 pc = .ok (.invokestatic idx, 3)) (hlink : Cond.methodLink md.1.cls idx Lib.Math.max.name ∈ tblG) (hst : (st.map fun v => v.category).sum ≤ 8) (hz' : (if x < y then y else x) = z) (k : WF Δ Γ fl md (pc + 3) L (.int z :: st) w) : WF Δ Γ fl md pc L (.int y :: .int x :: st) w := by
  intro ls H locs hl hP hS hz
  have fr := F.fr
  have lo := F.lo
  subst hz'
  exact va_mmax F.exec F.bytes (F.maxL.trans hl.1.symm) F.own (F.ts _ hlink) (F.ts _ (wis_in wd_max.2.1)) (F.ts _ (wis_in wd_max.2.2)) (F.ts _ (wis_in wd_max.1)) (by omega) (by omega) (Nat.zero_le _) (Nat.zero_le _) hdg (k ls H locs hl hP hS hz)
theorem f_mmin {idx : Nat} {x y z : Int32} (F : FOk Δ Γ md (d + 1)) (hdg : decode md.2.1 pc = .ok (.invokestatic idx, 3)) (hlink : Cond.methodLink md.1.cls idx Lib.Math.min.name ∈ tblG) (hst : (st.map fun v => v.category).sum ≤ 8) (hz' : (if y < x then y else x) = z) (k : WF Δ Γ fl md (pc + 3) L (.int z :: st) w) : WF Δ Γ fl md pc L (.int y :: .int x :: st) w := by
  intro ls H locs hl hP hS hz
  have fr := F.fr
  have lo := F.lo
  subst hz'
  exact va_mmin F.exec F.bytes (F.maxL.trans hl.1.symm) F.own (F.ts _ hlink) (F.ts _ (wis_in wd_min.2.1)) (F.ts _ (wis_in wd_min.2.2)) (F.ts _ (wis_in wd_min.1)) (by omega) (by omega) (Nat.zero_le _) (Nat.zero_le _) hdg (k ls H locs hl hP hS hz)
end FROWS
-- the methods
def m_s_ix : MD := (⟨"java/lang/String", "indexOf", "(I)I"⟩, prog_23_method_79_code, 2, some .int, [])
def m_s_ix2 : MD := (⟨"java/lang/String", "indexOf", "(II)I"⟩, prog_23_method_80_code, 3, some .int, [])
def m_s_lat : MD := (⟨"java/lang/String", "isLatin1", "()Z"⟩, prog_23_method_154_code, 1, some .boolean, [])
def m_s_len : MD := (⟨"java/lang/String", "length", "()I"⟩, prog_23_method_54_code, 1, some .int, [])
def m_s_cod : MD := (⟨"java/lang/String", "coder", "()B"⟩, prog_23_method_152_code, 1, some .byte, [])
def m_s_l1 : MD := (⟨"java/lang/StringLatin1", "indexOf", "([BIII)I"⟩, prog_24_method_22_code, 4, some .int, [])
def m_s_can : MD := (⟨"java/lang/StringLatin1", "canEncode", "(I)Z"⟩, prog_24_method_4_code, 1, some .boolean, [])
def m_s_ch : MD := (⟨"java/lang/StringLatin1", "indexOfChar", "([BIII)I"⟩, prog_24_method_23_code, 6, some .int, [])
theorem pl_s : plainFor m_s_ix.1 = true ∧ plainFor m_s_ix2.1 = true ∧ plainFor m_s_lat.1 = true ∧ plainFor m_s_len.1 = true ∧ plainFor m_s_cod.1 = true ∧ plainFor m_s_l1.1 = true ∧ plainFor m_s_can.1 = true ∧ plainFor m_s_ch.1 = true := by decide +kernel
theorem v_s_ix : calleeV m_s_ix 12303 12301 12302 4111 1 = true := by decide +kernel
theorem v_s_ix2 : calleeV m_s_ix2 12307 12305 12306 4111 2 = true := by decide +kernel
theorem v_s_lat : calleeV m_s_lat 12311 12309 12310 4111 0 = true := by decide +kernel
theorem v_s_len : calleeV m_s_len 12317 12315 12316 4111 0 = true := by decide +kernel
theorem v_s_cod : calleeV m_s_cod 12321 12319 12320 4111 0 = true := by decide +kernel
theorem v_s_l1 : calleeS m_s_l1 12324 12323 4112 4 = true := by decide +kernel
theorem v_s_can : calleeS m_s_can 12327 12326 4112 1 = true := by decide +kernel
theorem v_s_ch : calleeS m_s_ch 12334 12333 4112 4 = true := by decide +kernel
def LB (i : Nat) : Int := match i with | 0 => 104 | 1 => 112 | 2 => 116 | 3 => 102 | 4 => 99 | 5 => 109 | 6 => 107 | _ => 105
theorem ix_none {c : Int} (h : ∀ i, i < 8 → LB i ≠ c) : ixOf c = -1 := by
  have h0 : (104 : Int) ≠ c := h 0 (by decide)
  have h1 : (112 : Int) ≠ c := h 1 (by decide)
  have h2 : (116 : Int) ≠ c := h 2 (by decide)
  have h3 : (102 : Int) ≠ c := h 3 (by decide)
  have h4 : (99 : Int) ≠ c := h 4 (by decide)
  have h5 : (109 : Int) ≠ c := h 5 (by decide)
  have h6 : (107 : Int) ≠ c := h 6 (by decide)
  have h7 : (105 : Int) ≠ c := h 7 (by decide)
  unfold ixOf
  rw [if_neg (by omega), if_neg (by omega), if_neg (by omega), if_neg (by omega), if_neg (by omega), if_neg (by omega), if_neg (by omega), if_neg (by omega)]
theorem lt8 {i : Nat} (h : i < 8) : i = 0 ∨ i = 1 ∨ i = 2 ∨ i = 3 ∨ i = 4 ∨ i = 5 ∨ i = 6 ∨ i = 7 := by omega
theorem ix_at {i : Nat} (h : i < 8) : ixOf (LB i) = (i : Int) := by
  rcases lt8 h with rfl | rfl | rfl | rfl | rfl | rfl | rfl | rfl <;> decide
theorem LB_bd {i : Nat} (h : i < 8) : 0 ≤ LB i ∧ LB i < 128 := by
  rcases lt8 h with rfl | rfl | rfl | rfl | rfl | rfl | rfl | rfl <;> decide
theorem LBY_at {i : Nat} (h : i < 8) : LBY.getD (Int32.ofInt (i : Int)).toNatClampNeg 0 = Int32.ofInt (LB i) := by
  rcases lt8 h with rfl | rfl | rfl | rfl | rfl | rfl | rfl | rfl <;> decide +kernel
theorem vp_8 {i : Nat} (h : i < 8) : vp_in (Int32.ofInt (i : Int)) 8 := iI_vp (by unfold InR; omega) (by omega) (by omega)
theorem ix_in (c : Int) : InR (ixOf c) := by
  unfold ixOf InR
  repeat' split
  all_goals omega
theorem b_eq {c b : Int} (h0 : 0 ≤ c) (h1 : c ≤ 255) (hb : 0 ≤ b ∧ b < 128) : (Int32.ofInt b = (Int32.ofInt c).toInt8.toInt32) ↔ b = c := by
  rw [← Int32.toInt_inj, iI_toInt (by unfold InR; omega), Int8.toInt_toInt32, Int32.toInt_toInt8, iI_toInt (by unfold InR; omega), Int.bmod_def]
  constructor
  · intro h
    split at h <;> omega
  · intro h
    rw [if_pos (by omega)]
    omega
theorem i2c_eq (x : Int) : ((Int32.ofInt x).toUInt32 % 65536).toInt32 = Int32.ofInt (zx16 x) := by
  apply Int32.toBitVec_inj.mp
  show BitVec.ofInt 32 x % 65536#32 = BitVec.ofInt 32 (zx16 x)
  apply BitVec.eq_of_toNat_eq
  rw [BitVec.toNat_umod, BitVec.toNat_ofInt, BitVec.toNat_ofInt]
  unfold zx16
  show (x % 4294967296).toNat % 65536 = (x % 65536 % 4294967296).toNat
  omega
section STRING
variable {Δ : DT} {fl : Bool} {d : Nat} {w : WD} {a v : Nat}
theorem c_s_cod (hM : okM w.2.2) : CalF Δ fl m_s_cod d [.ref a] w a v 0 := calF_of rfl pl_s.2.2.2.2.1 hM (Nat.le_of_ble_eq_true rfl) (fun Γ hk F hE =>
  f_cs F hE (wis_in (z := 12312) (by decide +kernel)) (show decode m_s_cod.2.1 0 = .ok (.getstatic 38, 3) by decide +kernel) (f_if_eq F (off := 10) (tgt := 13) (show decode m_s_cod.2.1 3 = .ok (.ifCond .eq 10, 3) by decide +kernel) rfl (fun h => absurd h (by decide)) (fun _ =>
  f_aload_n F 0 (show decode m_s_cod.2.1 6 = .ok (.aload_n 0, 1) by decide +kernel) rfl (f_coder F hE (wis_in (z := 32916) (by decide +kernel)) (show decode m_s_cod.2.1 7 = .ok (.getfield 15, 3) by decide +kernel) (f_goto F (off := 4) (tgt := 14) (show decode m_s_cod.2.1 10 = .ok (.goto 4, 3) by decide +kernel) rfl
  (f_ret F (r := 0) (ty := .byte) hM (by unfold InR; omega) rfl rfl (fun h => by cases h) hk (show decode m_s_cod.2.1 14 = .ok (.ireturn, 1) by decide +kernel)))))))
theorem c_s_lat (hM : okM w.2.2) : CalF Δ fl m_s_lat d [.ref a] w a v 1 := calF_of rfl pl_s.2.2.1 hM (Nat.le_of_ble_eq_true rfl) (fun Γ hk F hE =>
  f_cs F hE (wis_in (z := 12312) (by decide +kernel)) (show decode m_s_lat.2.1 0 = .ok (.getstatic 38, 3) by decide +kernel) (f_if_eq F (off := 14) (tgt := 17) (show decode m_s_lat.2.1 3 = .ok (.ifCond .eq 14, 3) by decide +kernel) rfl (fun h => absurd h (by decide)) (fun _ =>
  f_aload_n F 0 (show decode m_s_lat.2.1 6 = .ok (.aload_n 0, 1) by decide +kernel) rfl (f_coder F hE (wis_in (z := 32916) (by decide +kernel)) (show decode m_s_lat.2.1 7 = .ok (.getfield 15, 3) by decide +kernel) (f_if_ne F (off := 7) (tgt := 17) (show decode m_s_lat.2.1 10 = .ok (.ifCond .ne 7, 3) by decide +kernel) rfl (fun h => absurd rfl h) (fun _ =>
  f_iconst F (show decode m_s_lat.2.1 13 = .ok (.iconst 1, 1) by decide +kernel) rfl (f_goto F (off := 4) (tgt := 18) (show decode m_s_lat.2.1 14 = .ok (.goto 4, 3) by decide +kernel) rfl
  (f_ret F (r := 1) (ty := .boolean) hM (by unfold InR; omega) rfl rfl (fun _ => Or.inr rfl) hk (show decode m_s_lat.2.1 18 = .ok (.ireturn, 1) by decide +kernel)))))))))
theorem c_s_len (hM : okM w.2.2) : CalF Δ fl m_s_len (d + 1) [.ref a] w a v 8 := calF_of rfl pl_s.2.2.2.1 hM (Nat.le_of_ble_eq_true rfl) (fun Γ hk F hE =>
  f_aload_n F 0 (show decode m_s_len.2.1 0 = .ok (.aload_n 0, 1) by decide +kernel) rfl (f_value F hE (wis_in (z := 32917) (by decide +kernel)) (show decode m_s_len.2.1 1 = .ok (.getfield 9, 3) by decide +kernel) (f_alen F hE (show decode m_s_len.2.1 4 = .ok (.arraylength, 1) by decide +kernel) (f_aload_n F 0 (show decode m_s_len.2.1 5 = .ok (.aload_n 0, 1) by decide +kernel) rfl
  (f_callv (as := []) F (show decode m_s_len.2.1 6 = .ok (.invokevirtual 335, 3) by decide +kernel) (wis_in (z := 12318) (by decide +kernel)) (c_s_cod hM) v_s_cod rfl hE (Nat.le_of_ble_eq_true rfl) (f_ishr F (show decode m_s_len.2.1 9 = .ok (.ishr, 1) by decide +kernel)
  (by
    have e : ((8 : Int32) >>> (Int32.ofInt 0 &&& 31)) = Int32.ofInt 8 := by decide +kernel
    rw [e]
    exact f_ret F (r := 8) (ty := .int) hM (by unfold InR; omega) rfl rfl (fun h => by cases h) hk (show decode m_s_len.2.1 10 = .ok (.ireturn, 1) by decide +kernel))))))))
theorem c_s_can {c : Int} (h0 : 0 ≤ c) (h1 : c ≤ 65535) (hM : okM w.2.2) : CalF Δ fl m_s_can d [.int (Int32.ofInt c)] w a v (if c ≤ 255 then 1 else 0) := calF_of rfl pl_s.2.2.2.2.2.2.1 hM (Nat.le_of_ble_eq_true rfl) (fun Γ hk F hE => by
  have hc : InR c := by unfold InR; omega
  refine f_iload_n F 0 (show decode m_s_can.2.1 0 = .ok (.iload_n 0, 1) by decide +kernel) rfl (f_if_lt F (off := 14) (tgt := 15) (show decode m_s_can.2.1 1 = .ok (.ifCond .lt 14, 3) by decide +kernel) rfl (fun h => absurd ((iI_lt hc (by unfold InR; omega)).mp (show Int32.ofInt c < Int32.ofInt 0 from h)) (by omega)) (fun _ =>
    f_iload_n F 0 (show decode m_s_can.2.1 4 = .ok (.iload_n 0, 1) by decide +kernel) rfl (f_sipush F (v := Int32.ofInt 255) (show decode m_s_can.2.1 5 = .ok (.sipush 255, 3) by decide +kernel) (by decide +kernel) (f_icmp_gt F (off := 7) (tgt := 15) (show decode m_s_can.2.1 8 = .ok (.if_icmp .gt 7, 3) by decide +kernel) rfl (fun h => ?_) (fun h => ?_)))))
  · have hgt : ¬ c ≤ 255 := by have := (iI_lt (by unfold InR; omega) hc).mp h; omega
    rw [if_neg hgt] at hk
    exact f_iconst F (show decode m_s_can.2.1 15 = .ok (.iconst 0, 1) by decide +kernel) rfl (f_ret F (r := 0) (ty := .boolean) hM (by unfold InR; omega) rfl rfl (fun _ => Or.inl rfl) hk (show decode m_s_can.2.1 16 = .ok (.ireturn, 1) by decide +kernel))
  · have hle : c ≤ 255 := by
      rcases Int.lt_or_le 255 c with q | q
      · exact absurd ((iI_lt (by unfold InR; omega) hc).mpr q) h
      · exact q
    rw [if_pos hle] at hk
    exact f_iconst F (show decode m_s_can.2.1 11 = .ok (.iconst 1, 1) by decide +kernel) rfl (f_goto F (off := 4) (tgt := 16) (show decode m_s_can.2.1 12 = .ok (.goto 4, 3) by decide +kernel) rfl (f_ret F (r := 1) (ty := .boolean) hM (by unfold InR; omega) rfl rfl (fun _ => Or.inr rfl) hk (show decode m_s_can.2.1 16 = .ok (.ireturn, 1) by decide +kernel))))
theorem c_s_ch {c : Int} (h0 : 0 ≤ c) (h1 : c ≤ 255) (hM : okM w.2.2) : CalF Δ fl m_s_ch d [.ref v, .int (Int32.ofInt c), .int 0, .int 8] w a v (ixOf c) := calF_of rfl pl_s.2.2.2.2.2.2.2 hM (Nat.le_of_ble_eq_true rfl) (fun Γ hk F hE => by
  have loop : ∀ (k i : Nat), i + k = 8 → (∀ j, j < i → LB j ≠ c) → WF Δ Γ fl m_s_ch 7 [(5, .int (Int32.ofInt (i : Int))), (4, .int (Int32.ofInt c).toInt8.toInt32), (0, .ref v), (1, .int (Int32.ofInt c)), (2, .int 0), (3, .int 8)] [] w := by
    intro k
    induction k with
    | zero =>
      intro i hi hn
      have e8 : i = 8 := by omega
      subst e8
      rw [ix_none (c := c) hn] at hk
      exact f_iload F 0 (show decode m_s_ch.2.1 7 = .ok (.iload 5, 2) by decide +kernel) rfl (f_iload_n F 5 (show decode m_s_ch.2.1 9 = .ok (.iload_n 3, 1) by decide +kernel) rfl (f_icmp_ge F (off := 21) (tgt := 31) (show decode m_s_ch.2.1 10 = .ok (.if_icmp .ge 21, 3) by decide +kernel) rfl (fun _ => f_iconst F (show decode m_s_ch.2.1 31 = .ok (.iconst (-1), 1) by decide +kernel) rfl (f_ret F (r := -1) (ty := .int) hM (by unfold InR; omega) rfl rfl (fun h => by cases h) hk (show decode m_s_ch.2.1 32 = .ok (.ireturn, 1) by decide +kernel))) (fun h => absurd (by decide +kernel) h)))
    | succ k ih =>
      intro i hi hn
      have hi8 : i < 8 := by omega
      have hir : InR (i : Int) := by unfold InR; omega
      refine f_iload F 0 (show decode m_s_ch.2.1 7 = .ok (.iload 5, 2) by decide +kernel) rfl (f_iload_n F 5 (show decode m_s_ch.2.1 9 = .ok (.iload_n 3, 1) by decide +kernel) rfl (f_icmp_ge F (off := 21) (tgt := 31) (show decode m_s_ch.2.1 10 = .ok (.if_icmp .ge 21, 3) by decide +kernel) rfl (fun h => absurd ((iI_le (by unfold InR; omega) hir).mp (show Int32.ofInt 8 ≤ Int32.ofInt (i : Int) from h)) (by omega)) (fun _ =>
        f_aload_n F 2 (show decode m_s_ch.2.1 13 = .ok (.aload_n 0, 1) by decide +kernel) rfl (f_iload F 0 (show decode m_s_ch.2.1 14 = .ok (.iload 5, 2) by decide +kernel) rfl (f_bald F hE (vp_8 hi8) (LBY_at hi8) (show decode m_s_ch.2.1 16 = .ok (.baload, 1) by decide +kernel) (f_iload F 1 (show decode m_s_ch.2.1 17 = .ok (.iload 4, 2) by decide +kernel) rfl (f_icmp_ne F (off := 6) (tgt := 25) (show decode m_s_ch.2.1 19 = .ok (.if_icmp .ne 6, 3) by decide +kernel) rfl (fun h => ?_) (fun h => ?_))))))))
      · refine f_iinc F (q := 0) (show decode m_s_ch.2.1 25 = .ok (.iinc 5 1, 3) by decide +kernel) rfl (iI_add _ _) (Nat.le_of_ble_eq_true rfl) rfl (f_goto F (off := -21) (tgt := 7) (show decode m_s_ch.2.1 28 = .ok (.goto (-21), 3) by decide +kernel) rfl ?_)
        rw [wr_id (by unfold InR; omega), show (i : Int) + 1 = ((i + 1 : Nat) : Int) by omega]
        refine ih (i + 1) (by omega) (fun j hj => ?_)
        by_cases e : j = i
        · subst e
          exact fun q => h ((b_eq h0 h1 (LB_bd hi8)).mpr q)
        · exact hn j (by omega)
      · have e := (b_eq h0 h1 (LB_bd hi8)).mp h
        rw [← e, ix_at hi8] at hk
        exact f_iload F 0 (show decode m_s_ch.2.1 22 = .ok (.iload 5, 2) by decide +kernel) rfl (f_ret F (r := (i : Int)) (ty := .int) hM hir rfl rfl (fun h => by cases h) hk (show decode m_s_ch.2.1 24 = .ok (.ireturn, 1) by decide +kernel))
  exact f_iload_n F 1 (show decode m_s_ch.2.1 0 = .ok (.iload_n 1, 1) by decide +kernel) rfl (f_i2b F (show decode m_s_ch.2.1 1 = .ok (.i2b, 1) by decide +kernel) rfl (f_istore F (show decode m_s_ch.2.1 2 = .ok (.istore 4, 2) by decide +kernel) (Nat.le_of_ble_eq_true rfl) rfl (f_iload_n F 3 (show decode m_s_ch.2.1 4 = .ok (.iload_n 2, 1) by decide +kernel) rfl (f_istore F (show decode m_s_ch.2.1 5 = .ok (.istore 5, 2) by decide +kernel) (Nat.le_of_ble_eq_true rfl) rfl (loop 8 0 rfl (fun j hj => absurd hj (Nat.not_lt_zero j))))))))
theorem c_s_l1 {c : Int} (h0 : 0 ≤ c) (h1 : c ≤ 65535) (hM : okM w.2.2) : CalF Δ fl m_s_l1 (d + 1) [.ref v, .int (Int32.ofInt c), .int 0, .int 8] w a v (ixOf c) := calF_of rfl pl_s.2.2.2.2.2.1 hM (Nat.le_of_ble_eq_true rfl) (fun Γ hk F hE => by
  refine f_iload_n F 1 (show decode m_s_l1.2.1 0 = .ok (.iload_n 1, 1) by decide +kernel) rfl (f_calls (as := [.int (Int32.ofInt c)]) (st := []) F (show decode m_s_l1.2.1 1 = .ok (.invokestatic 88, 3) by decide +kernel) (wis_in (z := 12325) (by decide +kernel)) (c_s_can h0 h1 hM) v_s_can hE (Nat.le_of_ble_eq_true rfl) (f_if_ne F (off := 5) (tgt := 9) (show decode m_s_l1.2.1 4 = .ok (.ifCond .ne 5, 3) by decide +kernel) rfl (fun h => ?_) (fun h => ?_)))
  · have hc : c ≤ 255 := by
      rcases Int.lt_or_le 255 c with q | q
      · exact absurd (by rw [if_neg (by omega)]; rfl) h
      · exact q
    exact f_iload_n F 2 (show decode m_s_l1.2.1 9 = .ok (.iload_n 2, 1) by decide +kernel) rfl (f_iconst F (show decode m_s_l1.2.1 10 = .ok (.iconst 0, 1) by decide +kernel) rfl (f_mmax F (z := 0) (show decode m_s_l1.2.1 11 = .ok (.invokestatic 92, 3) by decide +kernel) (wis_in (z := 12328) (by decide +kernel)) (Nat.le_of_ble_eq_true rfl) (by decide +kernel) (f_istore_n F (show decode m_s_l1.2.1 14 = .ok (.istore_n 2, 1) by decide +kernel) (Nat.le_of_ble_eq_true rfl) rfl (f_iload_n F 3 (show decode m_s_l1.2.1 15 = .ok (.iload_n 3, 1) by decide +kernel) rfl (f_aload_n F 1 (show decode m_s_l1.2.1 16 = .ok (.aload_n 0, 1) by decide +kernel) rfl (f_alen F hE (show decode m_s_l1.2.1 17 = .ok (.arraylength, 1) by decide +kernel) (f_mmin F (z := 8) (show decode m_s_l1.2.1 18 = .ok (.invokestatic 38, 3) by decide +kernel) (wis_in (z := 12331) (by decide +kernel)) (Nat.le_of_ble_eq_true rfl) (by decide +kernel) (f_istore_n F (show decode m_s_l1.2.1 21 = .ok (.istore_n 3, 1) by decide +kernel) (Nat.le_of_ble_eq_true rfl) rfl
      (f_iload_n F 1 (show decode m_s_l1.2.1 22 = .ok (.iload_n 2, 1) by decide +kernel) rfl (f_iload_n F 0 (show decode m_s_l1.2.1 23 = .ok (.iload_n 3, 1) by decide +kernel) rfl (f_icmp_lt F (off := 5) (tgt := 29) (show decode m_s_l1.2.1 24 = .ok (.if_icmp .lt 5, 3) by decide +kernel) rfl (fun _ => f_aload_n F 2 (show decode m_s_l1.2.1 29 = .ok (.aload_n 0, 1) by decide +kernel) rfl (f_iload_n F 3 (show decode m_s_l1.2.1 30 = .ok (.iload_n 1, 1) by decide +kernel) rfl (f_iload_n F 1 (show decode m_s_l1.2.1 31 = .ok (.iload_n 2, 1) by decide +kernel) rfl (f_iload_n F 0 (show decode m_s_l1.2.1 32 = .ok (.iload_n 3, 1) by decide +kernel) rfl
      (f_calls (as := [.ref v, .int (Int32.ofInt c), .int 0, .int 8]) (st := []) F (show decode m_s_l1.2.1 33 = .ok (.invokestatic 95, 3) by decide +kernel) (wis_in (z := 12332) (by decide +kernel)) (c_s_ch h0 hc hM) v_s_ch hE (Nat.le_of_ble_eq_true rfl) (f_ret F (ty := .int) hM (ix_in c) rfl rfl (fun h => by cases h) hk (show decode m_s_l1.2.1 36 = .ok (.ireturn, 1) by decide +kernel))))))) (fun h => absurd (by decide +kernel) h))))))))))))
  · have hc : ¬ c ≤ 255 := fun q => by
      rw [if_pos q] at h
      exact absurd h (by decide)
    rw [show ixOf c = -1 from ix_none (fun i hi e => hc (by have := (LB_bd hi).2; omega))] at hk
    exact f_iconst F (show decode m_s_l1.2.1 7 = .ok (.iconst (-1), 1) by decide +kernel) rfl (f_ret F (r := -1) (ty := .int) hM (by unfold InR; omega) rfl rfl (fun h => by cases h) hk (show decode m_s_l1.2.1 8 = .ok (.ireturn, 1) by decide +kernel)))
theorem c_s_ix2 {c : Int} (h0 : 0 ≤ c) (h1 : c ≤ 65535) (hM : okM w.2.2) : CalF Δ fl m_s_ix2 (d + 2) [.ref a, .int (Int32.ofInt c), .int 0] w a v (ixOf c) := calF_of rfl pl_s.2.1 hM (Nat.le_of_ble_eq_true rfl) (fun Γ hk F hE =>
  f_aload_n F 0 (show decode m_s_ix2.2.1 0 = .ok (.aload_n 0, 1) by decide +kernel) rfl (f_callv (as := []) (st := []) F (show decode m_s_ix2.2.1 1 = .ok (.invokevirtual 492, 3) by decide +kernel) (wis_in (z := 12308) (by decide +kernel)) (c_s_lat hM) v_s_lat rfl hE (Nat.le_of_ble_eq_true rfl) (f_if_eq F (off := 19) (tgt := 23) (show decode m_s_ix2.2.1 4 = .ok (.ifCond .eq 19, 3) by decide +kernel) rfl (fun h => absurd h (by decide)) (fun _ =>
  f_aload_n F 0 (show decode m_s_ix2.2.1 7 = .ok (.aload_n 0, 1) by decide +kernel) rfl (f_value F hE (wis_in (z := 32917) (by decide +kernel)) (show decode m_s_ix2.2.1 8 = .ok (.getfield 9, 3) by decide +kernel) (f_iload_n F 1 (show decode m_s_ix2.2.1 11 = .ok (.iload_n 1, 1) by decide +kernel) rfl (f_iload_n F 2 (show decode m_s_ix2.2.1 12 = .ok (.iload_n 2, 1) by decide +kernel) rfl (f_aload_n F 0 (show decode m_s_ix2.2.1 13 = .ok (.aload_n 0, 1) by decide +kernel) rfl
  (f_callv (as := []) F (show decode m_s_ix2.2.1 14 = .ok (.invokevirtual 505, 3) by decide +kernel) (wis_in (z := 12314) (by decide +kernel)) (c_s_len hM) v_s_len rfl hE (Nat.le_of_ble_eq_true rfl)
  (f_calls (as := [.ref v, .int (Int32.ofInt c), .int 0, .int 8]) (st := []) F (show decode m_s_ix2.2.1 17 = .ok (.invokestatic 637, 3) by decide +kernel) (wis_in (z := 12322) (by decide +kernel)) (c_s_l1 h0 h1 hM) v_s_l1 hE (Nat.le_of_ble_eq_true rfl) (f_goto F (off := 16) (tgt := 36) (show decode m_s_ix2.2.1 20 = .ok (.goto 16, 3) by decide +kernel) rfl
  (f_ret F (ty := .int) hM (ix_in c) rfl rfl (fun h => by cases h) hk (show decode m_s_ix2.2.1 36 = .ok (.ireturn, 1) by decide +kernel)))))))))))))
theorem c_s_ix {c : Int} (h0 : 0 ≤ c) (h1 : c ≤ 65535) (hM : okM w.2.2) : CalF Δ fl m_s_ix (d + 3) [.ref a, .int (Int32.ofInt c)] w a v (ixOf c) := calF_of rfl pl_s.1 hM (Nat.le_of_ble_eq_true rfl) (fun Γ hk F hE =>
  f_aload_n F 0 (show decode m_s_ix.2.1 0 = .ok (.aload_n 0, 1) by decide +kernel) rfl (f_iload_n F 1 (show decode m_s_ix.2.1 1 = .ok (.iload_n 1, 1) by decide +kernel) rfl (f_iconst F (show decode m_s_ix.2.1 2 = .ok (.iconst 0, 1) by decide +kernel) rfl
  (f_callv (as := [.int (Int32.ofInt c), .int 0]) (st := []) F (show decode m_s_ix.2.1 3 = .ok (.invokevirtual 633, 3) by decide +kernel) (wis_in (z := 12304) (by decide +kernel)) (c_s_ix2 h0 h1 hM) v_s_ix2 rfl hE (Nat.le_of_ble_eq_true rfl)
  (f_ret F (ty := .int) hM (ix_in c) rfl rfl (fun h => by cases h) hk (show decode m_s_ix.2.1 6 = .ok (.ireturn, 1) by decide +kernel))))))
/-- "hptfcmki".indexOf((char) x) -/
theorem w_ixof {Γ : FT} {L st : List PV} {x : Int} (hd4 : 4 ≤ d) (hx : L[3]? = some (vI x)) (h4 : st.length ≤ 4) (k : WAt Δ Γ false m_ru_readThing (d + 1) 42 L (vI (ixOf (zx16 x)) :: st) w 0 0) : WAt Δ Γ false m_ru_readThing (d + 1) 35 L st w 0 0 := by
  intro F hL hst hM ls H locs hl hP hS hz
  obtain ⟨a, v, hR, hE⟩ := F.text.SF
  obtain ⟨d, rfl⟩ : ∃ d', d = d' + 3 := ⟨d - 3, by omega⟩
  refine va_ldcS F.exec F.bytes F.own hR (show decode m_ru_readThing.2.1 35 = .ok (.ldc 73, 2) by decide +kernel) ?_
  refine lv_iload_n F.exec F.bytes (show decode m_ru_readThing.2.1 37 = .ok (.iload_n 3, 1) by decide +kernel) rfl (hl.get hx (Or.inl ⟨x, rfl⟩)) ?_
  refine lv_i2c F.exec F.bytes (show decode m_ru_readThing.2.1 38 = .ok (.i2c, 1) by decide +kernel) (i2c_eq x) ?_
  have hz0 : 0 ≤ zx16 x ∧ zx16 x ≤ 65535 := by unfold zx16; omega
  exact r_callv (as := [.int (Int32.ofInt (zx16 x))]) (st := st.map (rep Δ.2.1)) F hl.1 hP hS hz (show decode m_ru_readThing.2.1 39 = .ok (.invokevirtual 75, 3) by decide +kernel) (wis_in (z := 12300) (by decide +kernel)) (c_s_ix hz0.1 hz0.2 hM) v_s_ix rfl hE (cats h4) (fun H1 locs1 hP1 hS1 hz1 _ => k F hL (hst.cons (ix_in _)) hM ls H1 locs1 hl hP1 hS1 hz1)
end STRING
