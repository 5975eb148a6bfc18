theorem w_iconst {Δ : DT} {Γ : FT} {fl : Bool} {md : MD} {d pc pc0 npc k1 k2 k3 : Nat} {mn : MethodName} {L st : List PV} {w : WD} {cells slots : Nat} {n : Int} (hi : lk md pc = some (pc0, Instr.iconst n, npc, k1, k2, k3, mn)) (hn : InR n) (k : WAt Δ Γ fl md d npc L (vI n :: st) w cells slots) : WAt Δ Γ fl md d pc L (st) w cells slots := by
  intro F hL hst hM ls H locs hl hP hS hz
  obtain ⟨-, hd, rfl, hq⟩ := lk_ok hi F.good
  exact lv_iconst F.exec F.bytes hd rfl (k F hL (hst.cons hn) hM ls H locs hl hP hS hz)
theorem bip_id {n : Int} (h : -128 ≤ n ∧ n < 128) : (Int8.ofInt n).toInt32 = Int32.ofInt n := by
  apply Int32.toInt_inj.mp
  rw [Int8.toInt_toInt32, Int8.toInt_ofInt_of_le (by omega) (by omega), iI_toInt (by unfold InR; omega)]
theorem sip_id {n : Int} (h : -32768 ≤ n ∧ n < 32768) : (Int16.ofInt n).toInt32 = Int32.ofInt n := by
  apply Int32.toInt_inj.mp
  rw [Int16.toInt_toInt32, Int16.toInt_ofInt_of_le (by omega) (by omega), iI_toInt (by unfold InR; omega)]
theorem w_bipush {Δ : DT} {Γ : FT} {fl : Bool} {md : MD} {d pc pc0 npc k1 k2 k3 : Nat} {mn : MethodName} {L st : List PV} {w : WD} {cells slots : Nat} {n : Int} (hi : lk md pc = some (pc0, Instr.bipush n, npc, k1, k2, k3, mn)) (hn : -128 ≤ n ∧ n < 128) (k : WAt Δ Γ fl md d npc L (vI n :: st) w cells slots) : WAt Δ Γ fl md d pc L (st) w cells slots := by
  intro F hL hst hM ls H locs hl hP hS hz
  obtain ⟨-, hd, rfl, hq⟩ := lk_ok hi F.good
  exact lv_bipush F.exec F.bytes hd (bip_id hn) (k F hL (hst.cons (show InR n by unfold InR; omega)) hM ls H locs hl hP hS hz)
theorem w_sipush {Δ : DT} {Γ : FT} {fl : Bool} {md : MD} {d pc pc0 npc k1 k2 k3 : Nat} {mn : MethodName} {L st : List PV} {w : WD} {cells slots : Nat} {n : Int} (hi : lk md pc = some (pc0, Instr.sipush n, npc, k1, k2, k3, mn)) (hn : -32768 ≤ n ∧ n < 32768) (k : WAt Δ Γ fl md d npc L (vI n :: st) w cells slots) : WAt Δ Γ fl md d pc L (st) w cells slots := by
  intro F hL hst hM ls H locs hl hP hS hz
  obtain ⟨-, hd, rfl, hq⟩ := lk_ok hi F.good
  exact lv_sipush F.exec F.bytes hd (sip_id hn) (k F hL (hst.cons (show InR n by unfold InR; omega)) hM ls H locs hl hP hS hz)
theorem w_ldcw {Δ : DT} {Γ : FT} {fl : Bool} {md : MD} {d pc pc0 npc k1 k2 k3 : Nat} {mn : MethodName} {L st : List PV} {w : WD} {cells slots : Nat} {idx : Nat} (hi : lk md pc = some (pc0, Instr.ldc_w idx, npc, k1, k2, k3, mn)) (hn : InR ((k1 : Int) - (k2 : Int))) (k : WAt Δ Γ fl md d npc L (vI ((k1 : Int) - (k2 : Int)) :: st) w cells slots) : WAt Δ Γ fl md d pc L (st) w cells slots := by
  intro F hL hst hM ls H locs hl hP hS hz
  obtain ⟨-, hd, rfl, hq⟩ := lk_ok hi F.good
  have hc := F.ts _ (wis_in hq)
  exact lv_ldcw F.exec F.bytes F.own hc hd (k F hL (hst.cons hn) hM ls H locs hl hP hS hz)
theorem w_iload_n {Δ : DT} {Γ : FT} {fl : Bool} {md : MD} {d pc pc0 npc k1 k2 k3 : Nat} {mn : MethodName} {L st : List PV} {w : WD} {cells slots : Nat} {j : Fin 4} {x : Int} (hi : lk md pc = some (pc0, Instr.iload_n j, npc, k1, k2, k3, mn)) (hx : L[(j : Nat)]? = some (vI x)) (k : WAt Δ Γ fl md d npc L (vI x :: st) w cells slots) : WAt Δ Γ fl md d pc L (st) w cells slots := by
  intro F hL hst hM ls H locs hl hP hS hz
  obtain ⟨-, hd, rfl, hq⟩ := lk_ok hi F.good
  exact lv_iload_n F.exec F.bytes hd rfl (hl.get hx (Or.inl ⟨x, rfl⟩)) (k F hL (hst.cons (hL _ (List.mem_of_getElem? hx))) hM ls H locs hl hP hS hz)
theorem w_iload {Δ : DT} {Γ : FT} {fl : Bool} {md : MD} {d pc pc0 npc k1 k2 k3 : Nat} {mn : MethodName} {L st : List PV} {w : WD} {cells slots : Nat} {i : Nat} {x : Int} (hi : lk md pc = some (pc0, Instr.iload i, npc, k1, k2, k3, mn)) (hx : L[i]? = some (vI x)) (k : WAt Δ Γ fl md d npc L (vI x :: st) w cells slots) : WAt Δ Γ fl md d pc L (st) w cells slots := by
  intro F hL hst hM ls H locs hl hP hS hz
  obtain ⟨-, hd, rfl, hq⟩ := lk_ok hi F.good
  exact lv_iload F.exec F.bytes hd (hl.get hx (Or.inl ⟨x, rfl⟩)) (k F hL (hst.cons (hL _ (List.mem_of_getElem? hx))) hM ls H locs hl hP hS hz)
theorem w_aload_n {Δ : DT} {Γ : FT} {fl : Bool} {md : MD} {d pc pc0 npc k1 k2 k3 : Nat} {mn : MethodName} {L st : List PV} {w : WD} {cells slots : Nat} {j : Fin 4} {x : Nat} (hi : lk md pc = some (pc0, Instr.aload_n j, npc, k1, k2, k3, mn)) (hx : L[(j : Nat)]? = some (vR x)) (k : WAt Δ Γ fl md d npc L (vR x :: st) w cells slots) : WAt Δ Γ fl md d pc L (st) w cells slots := by
  intro F hL hst hM ls H locs hl hP hS hz
  obtain ⟨-, hd, rfl, hq⟩ := lk_ok hi F.good
  exact lv_aload_n F.exec F.bytes hd rfl (hl.get hx (Or.inr ⟨x, rfl⟩)) (k F hL (hst.cons (hL _ (List.mem_of_getElem? hx))) hM ls H locs hl hP hS hz)
theorem w_aload {Δ : DT} {Γ : FT} {fl : Bool} {md : MD} {d pc pc0 npc k1 k2 k3 : Nat} {mn : MethodName} {L st : List PV} {w : WD} {cells slots : Nat} {i : Nat} {x : Nat} (hi : lk md pc = some (pc0, Instr.aload i, npc, k1, k2, k3, mn)) (hx : L[i]? = some (vR x)) (k : WAt Δ Γ fl md d npc L (vR x :: st) w cells slots) : WAt Δ Γ fl md d pc L (st) w cells slots := by
  intro F hL hst hM ls H locs hl hP hS hz
  obtain ⟨-, hd, rfl, hq⟩ := lk_ok hi F.good
  exact lv_aload F.exec F.bytes hd (hl.get hx (Or.inr ⟨x, rfl⟩)) (k F hL (hst.cons (hL _ (List.mem_of_getElem? hx))) hM ls H locs hl hP hS hz)
theorem okVs.set {L : List PV} (h : okVs L) {i : Nat} {v : PV} (hv : okV v) : okVs (L.set i v) := fun x hx => by
  rcases List.mem_or_eq_of_mem_set hx with h1 | rfl
  · exact h x h1
  · exact hv
theorem w_istore_n {Δ : DT} {Γ : FT} {fl : Bool} {md : MD} {d pc pc0 npc k1 k2 k3 : Nat} {mn : MethodName} {L st : List PV} {w : WD} {cells slots : Nat} {j : Fin 4} {x : Int} {L' : List PV} (hi : lk md pc = some (pc0, Instr.istore_n j, npc, k1, k2, k3, mn)) (hn : (j : Nat) < md.2.2.1) (hs : L.set (j : Nat) (vI x) = L') (k : WAt Δ Γ fl md d npc L' (st) w cells slots) : WAt Δ Γ fl md d pc L (vI x :: st) w cells slots := by
  intro F hL hst hM ls H locs hl hP hS hz
  obtain ⟨-, hd, rfl, hq⟩ := lk_ok hi F.good
  subst hs
  exact lv_istore_n F.exec F.bytes hd rfl hl hn rfl (fun ls' hl' => k F (hL.set hst.hd) hst.tl hM ls' H locs (lvx.set (ext_keep hq) (fun _ => rfl) hl') hP hS hz)
theorem w_istore {Δ : DT} {Γ : FT} {fl : Bool} {md : MD} {d pc pc0 npc k1 k2 k3 : Nat} {mn : MethodName} {L st : List PV} {w : WD} {cells slots : Nat} {i : Nat} {x : Int} {L' : List PV} (hi : lk md pc = some (pc0, Instr.istore i, npc, k1, k2, k3, mn)) (hn : i < md.2.2.1) (hs : L.set i (vI x) = L') (k : WAt Δ Γ fl md d npc L' (st) w cells slots) : WAt Δ Γ fl md d pc L (vI x :: st) w cells slots := by
  intro F hL hst hM ls H locs hl hP hS hz
  obtain ⟨-, hd, rfl, hq⟩ := lk_ok hi F.good
  subst hs
  exact lv_istore F.exec F.bytes hd hl hn rfl (fun ls' hl' => k F (hL.set hst.hd) hst.tl hM ls' H locs (lvx.set (ext_keep hq) (fun _ => rfl) hl') hP hS hz)
theorem w_astore_n {Δ : DT} {Γ : FT} {fl : Bool} {md : MD} {d pc pc0 npc k1 k2 k3 : Nat} {mn : MethodName} {L st : List PV} {w : WD} {cells slots : Nat} {j : Fin 4} {x : Nat} {L' : List PV} (hi : lk md pc = some (pc0, Instr.astore_n j, npc, k1, k2, k3, mn)) (hn : (j : Nat) < md.2.2.1) (hs : L.set (j : Nat) (vR x) = L') (k : WAt Δ Γ fl md d npc L' (st) w cells slots) : WAt Δ Γ fl md d pc L (vR x :: st) w cells slots := by
  intro F hL hst hM ls H locs hl hP hS hz
  obtain ⟨-, hd, rfl, hq⟩ := lk_ok hi F.good
  subst hs
  exact lv_astore_n F.exec F.bytes hd rfl hl hn rfl (fun ls' hl' => k F (hL.set hst.hd) hst.tl hM ls' H locs (lvx.set (ext_keep hq) (fun _ => rfl) hl') hP hS hz)
theorem w_astore {Δ : DT} {Γ : FT} {fl : Bool} {md : MD} {d pc pc0 npc k1 k2 k3 : Nat} {mn : MethodName} {L st : List PV} {w : WD} {cells slots : Nat} {i : Nat} {x : Nat} {L' : List PV} (hi : lk md pc = some (pc0, Instr.astore i, npc, k1, k2, k3, mn)) (hn : i < md.2.2.1) (hs : L.set i (vR x) = L') (k : WAt Δ Γ fl md d npc L' (st) w cells slots) : WAt Δ Γ fl md d pc L (vR x :: st) w cells slots := by
  intro F hL hst hM ls H locs hl hP hS hz
  obtain ⟨-, hd, rfl, hq⟩ := lk_ok hi F.good
  subst hs
  exact lv_astore F.exec F.bytes hd hl hn rfl (fun ls' hl' => k F (hL.set hst.hd) hst.tl hM ls' H locs (lvx.set (ext_keep hq) (fun _ => rfl) hl') hP hS hz)
theorem w_iinc {Δ : DT} {Γ : FT} {fl : Bool} {md : MD} {d pc pc0 npc k1 k2 k3 : Nat} {mn : MethodName} {L st : List PV} {w : WD} {cells slots : Nat} {i : Nat} {n x : Int} {L' : List PV} (hi : lk md pc = some (pc0, Instr.iinc i n, npc, k1, k2, k3, mn)) (hx : L[i]? = some (vI x)) (hn : i < md.2.2.1) (hs : L.set i (vI (wr (x + n))) = L') (k : WAt Δ Γ fl md d npc L' (st) w cells slots) : WAt Δ Γ fl md d pc L (st) w cells slots := by
  intro F hL hst hM ls H locs hl hP hS hz
  obtain ⟨-, hd, rfl, hq⟩ := lk_ok hi F.good
  subst hs
  have hm : (i, Value.int (Int32.ofInt x)) ∈ lvlA Δ.2.1 0 L := (lvlA_mem _ L 0 _).mpr ⟨i, vI x, hx, Or.inl ⟨x, rfl⟩, by simp [rep]⟩
  obtain ⟨j, hj⟩ := List.getElem?_of_mem (List.mem_append_right (ext Γ md) hm)
  exact lv_iinc F.exec F.bytes hd hl hj (v := Int32.ofInt (wr (x + n))) (iI_add x n) hn rfl (fun ls' hl' => k F (hL.set (wr_in _)) hst hM ls' H locs (lvx.set (ext_keep hq) (fun _ => rfl) hl') hP hS hz)
theorem w_iadd {Δ : DT} {Γ : FT} {fl : Bool} {md : MD} {d pc pc0 npc k1 k2 k3 : Nat} {mn : MethodName} {L st : List PV} {w : WD} {cells slots : Nat} {x y : Int} (hi : lk md pc = some (pc0, Instr.iadd, npc, k1, k2, k3, mn)) (k : WAt Δ Γ fl md d npc L (vI (wr (x + y)) :: st) w cells slots) : WAt Δ Γ fl md d pc L (vI y :: vI x :: st) w cells slots := by
  intro F hL hst hM ls H locs hl hP hS hz
  obtain ⟨-, hd, rfl, hq⟩ := lk_ok hi F.good
  refine lv_iadd F.exec F.bytes hd ?_
  rw [iI_add x y]
  exact k F hL (hst.tl.tl.cons (wr_in _)) hM ls H locs hl hP hS hz
theorem w_isub {Δ : DT} {Γ : FT} {fl : Bool} {md : MD} {d pc pc0 npc k1 k2 k3 : Nat} {mn : MethodName} {L st : List PV} {w : WD} {cells slots : Nat} {x y : Int} (hi : lk md pc = some (pc0, Instr.isub, npc, k1, k2, k3, mn)) (k : WAt Δ Γ fl md d npc L (vI (wr (x - y)) :: st) w cells slots) : WAt Δ Γ fl md d pc L (vI y :: vI x :: st) w cells slots := by
  intro F hL hst hM ls H locs hl hP hS hz
  obtain ⟨-, hd, rfl, hq⟩ := lk_ok hi F.good
  refine lv_isub F.exec F.bytes hd ?_
  rw [iI_sub x y]
  exact k F hL (hst.tl.tl.cons (wr_in _)) hM ls H locs hl hP hS hz
theorem w_imul {Δ : DT} {Γ : FT} {fl : Bool} {md : MD} {d pc pc0 npc k1 k2 k3 : Nat} {mn : MethodName} {L st : List PV} {w : WD} {cells slots : Nat} {x y : Int} (hi : lk md pc = some (pc0, Instr.imul, npc, k1, k2, k3, mn)) (k : WAt Δ Γ fl md d npc L (vI (wr (x * y)) :: st) w cells slots) : WAt Δ Γ fl md d pc L (vI y :: vI x :: st) w cells slots := by
  intro F hL hst hM ls H locs hl hP hS hz
  obtain ⟨-, hd, rfl, hq⟩ := lk_ok hi F.good
  refine lv_imul F.exec F.bytes hd ?_
  rw [iI_mul x y]
  exact k F hL (hst.tl.tl.cons (wr_in _)) hM ls H locs hl hP hS hz
theorem ne0 {y : Int} (hy : InR y) (h : y ≠ 0) : ¬ Int32.ofInt y = 0 := fun e => h ((iI_inj hy (by unfold InR; omega)).mp (e.trans iI_0.symm))
theorem w_idiv {Δ : DT} {Γ : FT} {fl : Bool} {md : MD} {d pc pc0 npc k1 k2 k3 : Nat} {mn : MethodName} {L st : List PV} {w : WD} {cells slots : Nat} {x y : Int} (hi : lk md pc = some (pc0, Instr.idiv, npc, k1, k2, k3, mn)) (hy : y ≠ 0) (k : WAt Δ Γ fl md d npc L (vI (wr (x.tdiv y)) :: st) w cells slots) : WAt Δ Γ fl md d pc L (vI y :: vI x :: st) w cells slots := by
  intro F hL hst hM ls H locs hl hP hS hz
  obtain ⟨-, hd, rfl, hq⟩ := lk_ok hi F.good
  refine lv_idiv F.exec F.bytes hd (ne0 hst.hd hy) ?_
  rw [iI_div hst.tl.hd hst.hd]
  exact k F hL (hst.tl.tl.cons (wr_in _)) hM ls H locs hl hP hS hz
theorem w_irem {Δ : DT} {Γ : FT} {fl : Bool} {md : MD} {d pc pc0 npc k1 k2 k3 : Nat} {mn : MethodName} {L st : List PV} {w : WD} {cells slots : Nat} {x y : Int} (hi : lk md pc = some (pc0, Instr.irem, npc, k1, k2, k3, mn)) (hy : y ≠ 0) (k : WAt Δ Γ fl md d npc L (vI (x.tmod y) :: st) w cells slots) : WAt Δ Γ fl md d pc L (vI y :: vI x :: st) w cells slots := by
  intro F hL hst hM ls H locs hl hP hS hz
  obtain ⟨-, hd, rfl, hq⟩ := lk_ok hi F.good
  refine lv_irem F.exec F.bytes hd (ne0 hst.hd hy) ?_
  rw [iI_rem hst.tl.hd hst.hd]
  exact k F hL (hst.tl.tl.cons (tmod_in hst.tl.hd)) hM ls H locs hl hP hS hz
theorem w_ineg {Δ : DT} {Γ : FT} {fl : Bool} {md : MD} {d pc pc0 npc k1 k2 k3 : Nat} {mn : MethodName} {L st : List PV} {w : WD} {cells slots : Nat} {x : Int} (hi : lk md pc = some (pc0, Instr.ineg, npc, k1, k2, k3, mn)) (k : WAt Δ Γ fl md d npc L (vI (wr (-x)) :: st) w cells slots) : WAt Δ Γ fl md d pc L (vI x :: st) w cells slots := by
  intro F hL hst hM ls H locs hl hP hS hz
  obtain ⟨-, hd, rfl, hq⟩ := lk_ok hi F.good
  refine lv_ineg F.exec F.bytes hd ?_
  rw [iI_neg]
  exact k F hL (hst.tl.cons (wr_in _)) hM ls H locs hl hP hS hz
theorem w_iand {Δ : DT} {Γ : FT} {fl : Bool} {md : MD} {d pc pc0 npc k1 k2 k3 : Nat} {mn : MethodName} {L st : List PV} {w : WD} {cells slots : Nat} {x y : Int} (hi : lk md pc = some (pc0, Instr.iand, npc, k1, k2, k3, mn)) (k : WAt Δ Γ fl md d npc L (vI (ish i_and x y) :: st) w cells slots) : WAt Δ Γ fl md d pc L (vI y :: vI x :: st) w cells slots := by
  intro F hL hst hM ls H locs hl hP hS hz
  obtain ⟨-, hd, rfl, hq⟩ := lk_ok hi F.good
  refine lv_iand F.exec F.bytes hd ?_
  have h := k F hL (hst.tl.tl.cons (ish_in i_and x y)) hM ls H locs hl hP hS hz
  simp only [List.map_cons, rep, iI_ish, i_and] at h
  exact h
theorem w_ior {Δ : DT} {Γ : FT} {fl : Bool} {md : MD} {d pc pc0 npc k1 k2 k3 : Nat} {mn : MethodName} {L st : List PV} {w : WD} {cells slots : Nat} {x y : Int} (hi : lk md pc = some (pc0, Instr.ior, npc, k1, k2, k3, mn)) (k : WAt Δ Γ fl md d npc L (vI (ish i_or x y) :: st) w cells slots) : WAt Δ Γ fl md d pc L (vI y :: vI x :: st) w cells slots := by
  intro F hL hst hM ls H locs hl hP hS hz
  obtain ⟨-, hd, rfl, hq⟩ := lk_ok hi F.good
  refine lv_ior F.exec F.bytes hd ?_
  have h := k F hL (hst.tl.tl.cons (ish_in i_or x y)) hM ls H locs hl hP hS hz
  simp only [List.map_cons, rep, iI_ish, i_or] at h
  exact h
theorem w_ixor {Δ : DT} {Γ : FT} {fl : Bool} {md : MD} {d pc pc0 npc k1 k2 k3 : Nat} {mn : MethodName} {L st : List PV} {w : WD} {cells slots : Nat} {x y : Int} (hi : lk md pc = some (pc0, Instr.ixor, npc, k1, k2, k3, mn)) (k : WAt Δ Γ fl md d npc L (vI (ish i_xor x y) :: st) w cells slots) : WAt Δ Γ fl md d pc L (vI y :: vI x :: st) w cells slots := by
  intro F hL hst hM ls H locs hl hP hS hz
  obtain ⟨-, hd, rfl, hq⟩ := lk_ok hi F.good
  refine lv_ixor F.exec F.bytes hd ?_
  have h := k F hL (hst.tl.tl.cons (ish_in i_xor x y)) hM ls H locs hl hP hS hz
  simp only [List.map_cons, rep, iI_ish, i_xor] at h
  exact h
theorem w_ishl {Δ : DT} {Γ : FT} {fl : Bool} {md : MD} {d pc pc0 npc k1 k2 k3 : Nat} {mn : MethodName} {L st : List PV} {w : WD} {cells slots : Nat} {x y : Int} (hi : lk md pc = some (pc0, Instr.ishl, npc, k1, k2, k3, mn)) (k : WAt Δ Γ fl md d npc L (vI (ish i_shl x y) :: st) w cells slots) : WAt Δ Γ fl md d pc L (vI y :: vI x :: st) w cells slots := by
  intro F hL hst hM ls H locs hl hP hS hz
  obtain ⟨-, hd, rfl, hq⟩ := lk_ok hi F.good
  refine lv_ishl F.exec F.bytes hd ?_
  have h := k F hL (hst.tl.tl.cons (ish_in i_shl x y)) hM ls H locs hl hP hS hz
  simp only [List.map_cons, rep, iI_ish, i_shl] at h
  exact h
theorem w_ishr {Δ : DT} {Γ : FT} {fl : Bool} {md : MD} {d pc pc0 npc k1 k2 k3 : Nat} {mn : MethodName} {L st : List PV} {w : WD} {cells slots : Nat} {x y : Int} (hi : lk md pc = some (pc0, Instr.ishr, npc, k1, k2, k3, mn)) (k : WAt Δ Γ fl md d npc L (vI (ish i_shr x y) :: st) w cells slots) : WAt Δ Γ fl md d pc L (vI y :: vI x :: st) w cells slots := by
  intro F hL hst hM ls H locs hl hP hS hz
  obtain ⟨-, hd, rfl, hq⟩ := lk_ok hi F.good
  refine lv_ishr F.exec F.bytes hd ?_
  have h := k F hL (hst.tl.tl.cons (ish_in i_shr x y)) hM ls H locs hl hP hS hz
  simp only [List.map_cons, rep, iI_ish, i_shr] at h
  exact h
theorem w_iushr {Δ : DT} {Γ : FT} {fl : Bool} {md : MD} {d pc pc0 npc k1 k2 k3 : Nat} {mn : MethodName} {L st : List PV} {w : WD} {cells slots : Nat} {x y : Int} (hi : lk md pc = some (pc0, Instr.iushr, npc, k1, k2, k3, mn)) (k : WAt Δ Γ fl md d npc L (vI (ish i_ushr x y) :: st) w cells slots) : WAt Δ Γ fl md d pc L (vI y :: vI x :: st) w cells slots := by
  intro F hL hst hM ls H locs hl hP hS hz
  obtain ⟨-, hd, rfl, hq⟩ := lk_ok hi F.good
  exact lv_iushr F.exec F.bytes hd (iI_ish i_ushr x y).symm (k F hL (hst.tl.tl.cons (ish_in i_ushr x y)) hM ls H locs hl hP hS hz)
theorem w_i2b {Δ : DT} {Γ : FT} {fl : Bool} {md : MD} {d pc pc0 npc k1 k2 k3 : Nat} {mn : MethodName} {L st : List PV} {w : WD} {cells slots : Nat} {x : Int} (hi : lk md pc = some (pc0, Instr.i2b, npc, k1, k2, k3, mn)) (k : WAt Δ Γ fl md d npc L (vI (sx8 x) :: st) w cells slots) : WAt Δ Γ fl md d pc L (vI x :: st) w cells slots := by
  intro F hL hst hM ls H locs hl hP hS hz
  obtain ⟨-, hd, rfl, hq⟩ := lk_ok hi F.good
  exact lv_i2b F.exec F.bytes hd (iI_sx8 hst.hd) (k F hL (hst.tl.cons (sx8_in x)) hM ls H locs hl hP hS hz)
theorem w_i2s {Δ : DT} {Γ : FT} {fl : Bool} {md : MD} {d pc pc0 npc k1 k2 k3 : Nat} {mn : MethodName} {L st : List PV} {w : WD} {cells slots : Nat} {x : Int} (hi : lk md pc = some (pc0, Instr.i2s, npc, k1, k2, k3, mn)) (k : WAt Δ Γ fl md d npc L (vI (sx16 x) :: st) w cells slots) : WAt Δ Γ fl md d pc L (vI x :: st) w cells slots := by
  intro F hL hst hM ls H locs hl hP hS hz
  obtain ⟨-, hd, rfl, hq⟩ := lk_ok hi F.good
  exact lv_i2s F.exec F.bytes hd (iI_sx16 hst.hd) (k F hL (hst.tl.cons (sx16_in x)) hM ls H locs hl hP hS hz)
theorem rep_cat {B : Nat} {v : PV} (h : ∀ n, v ≠ vL n) : (rep B v).category = 1 := by
  rcases v with n | (_ | a) | n
  · rfl
  · rfl
  · rfl
  · exact absurd rfl (h n)
theorem w_dup {Δ : DT} {Γ : FT} {fl : Bool} {md : MD} {d pc pc0 npc k1 k2 k3 : Nat} {mn : MethodName} {L st : List PV} {w : WD} {cells slots : Nat} {v : PV} (hi : lk md pc = some (pc0, Instr.dup, npc, k1, k2, k3, mn)) (hv : ∀ n, v ≠ vL n) (k : WAt Δ Γ fl md d npc L (v :: v :: st) w cells slots) : WAt Δ Γ fl md d pc L (v :: st) w cells slots := by
  intro F hL hst hM ls H locs hl hP hS hz
  obtain ⟨-, hd, rfl, hq⟩ := lk_ok hi F.good
  exact lv_dup F.exec F.bytes hd (rep_cat hv) (k F hL (hst.cons hst.hd) hM ls H locs hl hP hS hz)
theorem w_dup2 {Δ : DT} {Γ : FT} {fl : Bool} {md : MD} {d pc pc0 npc k1 k2 k3 : Nat} {mn : MethodName} {L st : List PV} {w : WD} {cells slots : Nat} {v u : PV} (hi : lk md pc = some (pc0, Instr.dup2, npc, k1, k2, k3, mn)) (hv : ∀ n, v ≠ vL n) (hu : ∀ n, u ≠ vL n) (k : WAt Δ Γ fl md d npc L (v :: u :: v :: u :: st) w cells slots) : WAt Δ Γ fl md d pc L (v :: u :: st) w cells slots := by
  intro F hL hst hM ls H locs hl hP hS hz
  obtain ⟨-, hd, rfl, hq⟩ := lk_ok hi F.good
  exact lv_dup2_11 F.exec F.bytes hd (rep_cat hv) (rep_cat hu) (k F hL ((hst.cons hst.tl.hd).cons hst.hd) hM ls H locs hl hP hS hz)
theorem w_dup_x1 {Δ : DT} {Γ : FT} {fl : Bool} {md : MD} {d pc pc0 npc k1 k2 k3 : Nat} {mn : MethodName} {L st : List PV} {w : WD} {cells slots : Nat} {v u : PV} (hi : lk md pc = some (pc0, Instr.dup_x1, npc, k1, k2, k3, mn)) (hv : ∀ n, v ≠ vL n) (hu : ∀ n, u ≠ vL n) (k : WAt Δ Γ fl md d npc L (v :: u :: v :: st) w cells slots) : WAt Δ Γ fl md d pc L (v :: u :: st) w cells slots := by
  intro F hL hst hM ls H locs hl hP hS hz
  obtain ⟨-, hd, rfl, hq⟩ := lk_ok hi F.good
  exact lv_dup_x1 F.exec F.bytes hd (rep_cat hv) (rep_cat hu) (k F hL (((hst.tl.tl.cons hst.hd).cons hst.tl.hd).cons hst.hd) hM ls H locs hl hP hS hz)
theorem w_pop {Δ : DT} {Γ : FT} {fl : Bool} {md : MD} {d pc pc0 npc k1 k2 k3 : Nat} {mn : MethodName} {L st : List PV} {w : WD} {cells slots : Nat} {v : PV} (hi : lk md pc = some (pc0, Instr.pop, npc, k1, k2, k3, mn)) (hv : ∀ n, v ≠ vL n) (k : WAt Δ Γ fl md d npc L (st) w cells slots) : WAt Δ Γ fl md d pc L (v :: st) w cells slots := by
  intro F hL hst hM ls H locs hl hP hS hz
  obtain ⟨-, hd, rfl, hq⟩ := lk_ok hi F.good
  exact lv_pop F.exec F.bytes hd (rep_cat hv) (k F hL hst.tl hM ls H locs hl hP hS hz)
theorem w_null {Δ : DT} {Γ : FT} {fl : Bool} {md : MD} {d pc pc0 npc k1 k2 k3 : Nat} {mn : MethodName} {L st : List PV} {w : WD} {cells slots : Nat}  (hi : lk md pc = some (pc0, Instr.aconst_null, npc, k1, k2, k3, mn)) (k : WAt Δ Γ fl md d npc L (vN :: st) w cells slots) : WAt Δ Γ fl md d pc L (st) w cells slots := by
  intro F hL hst hM ls H locs hl hP hS hz
  obtain ⟨-, hd, rfl, hq⟩ := lk_ok hi F.good
  exact lv_null F.exec F.bytes hd (k F hL (hst.cons (show okV vN from trivial)) hM ls H locs hl hP hS hz)
theorem tgt_of {pc x : Nat} {off : Int} (h : decide ((pc : Int) + off = (x : Int)) = true) : (pc : Int) + off = (x : Int) := of_decide_eq_true h
theorem w_goto {Δ : DT} {Γ : FT} {fl : Bool} {md : MD} {d pc pc0 npc k1 k2 k3 : Nat} {mn : MethodName} {L st : List PV} {w : WD} {cells slots : Nat} {off : Int} (hi : lk md pc = some (pc0, Instr.goto off, npc, k1, k2, k3, mn)) (k : WAt Δ Γ fl md d k1 L st w cells slots) : WAt Δ Γ fl md d pc L (st) w cells slots := by
  intro F hL hst hM ls H locs hl hP hS hz
  obtain ⟨-, hd, rfl, hq⟩ := lk_ok hi F.good
  exact lv_goto F.exec F.bytes hd (tgt_of hq) (k F hL hst hM ls H locs hl hP hS hz)
theorem w_icmp_eq {Δ : DT} {Γ : FT} {fl : Bool} {md : MD} {d pc pc0 npc k1 k2 k3 : Nat} {mn : MethodName} {L st : List PV} {w : WD} {cells slots : Nat} {off : Int} {x y : Int} (hi : lk md pc = some (pc0, Instr.if_icmp .eq off, npc, k1, k2, k3, mn)) (kt : x = y → WAt Δ Γ fl md d k1 L st w cells slots) (kf : ¬ (x = y) → WAt Δ Γ fl md d npc L (st) w cells slots) : WAt Δ Γ fl md d pc L (vI y :: vI x :: st) w cells slots := by
  intro F hL hst hM ls H locs hl hP hS hz
  obtain ⟨-, hd, rfl, hq⟩ := lk_ok hi F.good
  have hx : InR x := hst.tl.hd
  have hy : InR y := hst.hd
  exact lv_icmp_eq F.exec F.bytes hd (tgt_of hq) (fun h => kt ((iI_inj hx hy).mp h) F hL hst.tl.tl hM ls H locs hl hP hS hz) (fun h => kf (fun q => h ((iI_inj hx hy).mpr q)) F hL hst.tl.tl hM ls H locs hl hP hS hz)
theorem w_icmp_ne {Δ : DT} {Γ : FT} {fl : Bool} {md : MD} {d pc pc0 npc k1 k2 k3 : Nat} {mn : MethodName} {L st : List PV} {w : WD} {cells slots : Nat} {off : Int} {x y : Int} (hi : lk md pc = some (pc0, Instr.if_icmp .ne off, npc, k1, k2, k3, mn)) (kt : ¬ x = y → WAt Δ Γ fl md d k1 L st w cells slots) (kf : x = y → WAt Δ Γ fl md d npc L (st) w cells slots) : WAt Δ Γ fl md d pc L (vI y :: vI x :: st) w cells slots := by
  intro F hL hst hM ls H locs hl hP hS hz
  obtain ⟨-, hd, rfl, hq⟩ := lk_ok hi F.good
  have hx : InR x := hst.tl.hd
  have hy : InR y := hst.hd
  exact lv_icmp_ne F.exec F.bytes hd (tgt_of hq) (fun h => kt (fun q => h ((iI_inj hx hy).mpr q)) F hL hst.tl.tl hM ls H locs hl hP hS hz) (fun h => kf ((iI_inj hx hy).mp h) F hL hst.tl.tl hM ls H locs hl hP hS hz)
theorem w_icmp_lt {Δ : DT} {Γ : FT} {fl : Bool} {md : MD} {d pc pc0 npc k1 k2 k3 : Nat} {mn : MethodName} {L st : List PV} {w : WD} {cells slots : Nat} {off : Int} {x y : Int} (hi : lk md pc = some (pc0, Instr.if_icmp .lt off, npc, k1, k2, k3, mn)) (kt : x < y → WAt Δ Γ fl md d k1 L st w cells slots) (kf : ¬ (x < y) → WAt Δ Γ fl md d npc L (st) w cells slots) : WAt Δ Γ fl md d pc L (vI y :: vI x :: st) w cells slots := by
  intro F hL hst hM ls H locs hl hP hS hz
  obtain ⟨-, hd, rfl, hq⟩ := lk_ok hi F.good
  have hx : InR x := hst.tl.hd
  have hy : InR y := hst.hd
  exact lv_icmp_lt F.exec F.bytes hd (tgt_of hq) (fun h => kt ((iI_lt hx hy).mp h) F hL hst.tl.tl hM ls H locs hl hP hS hz) (fun h => kf (fun q => h ((iI_lt hx hy).mpr q)) F hL hst.tl.tl hM ls H locs hl hP hS hz)
theorem w_icmp_ge {Δ : DT} {Γ : FT} {fl : Bool} {md : MD} {d pc pc0 npc k1 k2 k3 : Nat} {mn : MethodName} {L st : List PV} {w : WD} {cells slots : Nat} {off : Int} {x y : Int} (hi : lk md pc = some (pc0, Instr.if_icmp .ge off, npc, k1, k2, k3, mn)) (kt : y ≤ x → WAt Δ Γ fl md d k1 L st w cells slots) (kf : ¬ (y ≤ x) → WAt Δ Γ fl md d npc L (st) w cells slots) : WAt Δ Γ fl md d pc L (vI y :: vI x :: st) w cells slots := by
  intro F hL hst hM ls H locs hl hP hS hz
  obtain ⟨-, hd, rfl, hq⟩ := lk_ok hi F.good
  have hx : InR x := hst.tl.hd
  have hy : InR y := hst.hd
  exact lv_icmp_ge F.exec F.bytes hd (tgt_of hq) (fun h => kt ((iI_le hy hx).mp h) F hL hst.tl.tl hM ls H locs hl hP hS hz) (fun h => kf (fun q => h ((iI_le hy hx).mpr q)) F hL hst.tl.tl hM ls H locs hl hP hS hz)
theorem w_icmp_gt {Δ : DT} {Γ : FT} {fl : Bool} {md : MD} {d pc pc0 npc k1 k2 k3 : Nat} {mn : MethodName} {L st : List PV} {w : WD} {cells slots : Nat} {off : Int} {x y : Int} (hi : lk md pc = some (pc0, Instr.if_icmp .gt off, npc, k1, k2, k3, mn)) (kt : y < x → WAt Δ Γ fl md d k1 L st w cells slots) (kf : ¬ (y < x) → WAt Δ Γ fl md d npc L (st) w cells slots) : WAt Δ Γ fl md d pc L (vI y :: vI x :: st) w cells slots := by
  intro F hL hst hM ls H locs hl hP hS hz
  obtain ⟨-, hd, rfl, hq⟩ := lk_ok hi F.good
  have hx : InR x := hst.tl.hd
  have hy : InR y := hst.hd
  exact lv_icmp_gt F.exec F.bytes hd (tgt_of hq) (fun h => kt ((iI_lt hy hx).mp h) F hL hst.tl.tl hM ls H locs hl hP hS hz) (fun h => kf (fun q => h ((iI_lt hy hx).mpr q)) F hL hst.tl.tl hM ls H locs hl hP hS hz)
theorem w_icmp_le {Δ : DT} {Γ : FT} {fl : Bool} {md : MD} {d pc pc0 npc k1 k2 k3 : Nat} {mn : MethodName} {L st : List PV} {w : WD} {cells slots : Nat} {off : Int} {x y : Int} (hi : lk md pc = some (pc0, Instr.if_icmp .le off, npc, k1, k2, k3, mn)) (kt : x ≤ y → WAt Δ Γ fl md d k1 L st w cells slots) (kf : ¬ (x ≤ y) → WAt Δ Γ fl md d npc L (st) w cells slots) : WAt Δ Γ fl md d pc L (vI y :: vI x :: st) w cells slots := by
  intro F hL hst hM ls H locs hl hP hS hz
  obtain ⟨-, hd, rfl, hq⟩ := lk_ok hi F.good
  have hx : InR x := hst.tl.hd
  have hy : InR y := hst.hd
  exact lv_icmp_le F.exec F.bytes hd (tgt_of hq) (fun h => kt ((iI_le hx hy).mp h) F hL hst.tl.tl hM ls H locs hl hP hS hz) (fun h => kf (fun q => h ((iI_le hx hy).mpr q)) F hL hst.tl.tl hM ls H locs hl hP hS hz)
theorem w_if_eq {Δ : DT} {Γ : FT} {fl : Bool} {md : MD} {d pc pc0 npc k1 k2 k3 : Nat} {mn : MethodName} {L st : List PV} {w : WD} {cells slots : Nat} {off : Int} {x : Int} (hi : lk md pc = some (pc0, Instr.ifCond .eq off, npc, k1, k2, k3, mn)) (kt : x = 0 → WAt Δ Γ fl md d k1 L st w cells slots) (kf : ¬ (x = 0) → WAt Δ Γ fl md d npc L (st) w cells slots) : WAt Δ Γ fl md d pc L (vI x :: st) w cells slots := by
  intro F hL hst hM ls H locs hl hP hS hz
  obtain ⟨-, hd, rfl, hq⟩ := lk_ok hi F.good
  have hx : InR x := hst.hd
  have hy : InR 0 := by unfold InR; omega
  exact lv_if_eq F.exec F.bytes hd (tgt_of hq) (fun h => kt ((iI_inj hx hy).mp h) F hL hst.tl hM ls H locs hl hP hS hz) (fun h => kf (fun q => h ((iI_inj hx hy).mpr q)) F hL hst.tl hM ls H locs hl hP hS hz)
theorem w_if_ne {Δ : DT} {Γ : FT} {fl : Bool} {md : MD} {d pc pc0 npc k1 k2 k3 : Nat} {mn : MethodName} {L st : List PV} {w : WD} {cells slots : Nat} {off : Int} {x : Int} (hi : lk md pc = some (pc0, Instr.ifCond .ne off, npc, k1, k2, k3, mn)) (kt : ¬ x = 0 → WAt Δ Γ fl md d k1 L st w cells slots) (kf : x = 0 → WAt Δ Γ fl md d npc L (st) w cells slots) : WAt Δ Γ fl md d pc L (vI x :: st) w cells slots := by
  intro F hL hst hM ls H locs hl hP hS hz
  obtain ⟨-, hd, rfl, hq⟩ := lk_ok hi F.good
  have hx : InR x := hst.hd
  have hy : InR 0 := by unfold InR; omega
  exact lv_if_ne F.exec F.bytes hd (tgt_of hq) (fun h => kt (fun q => h ((iI_inj hx hy).mpr q)) F hL hst.tl hM ls H locs hl hP hS hz) (fun h => kf ((iI_inj hx hy).mp h) F hL hst.tl hM ls H locs hl hP hS hz)
theorem w_if_lt {Δ : DT} {Γ : FT} {fl : Bool} {md : MD} {d pc pc0 npc k1 k2 k3 : Nat} {mn : MethodName} {L st : List PV} {w : WD} {cells slots : Nat} {off : Int} {x : Int} (hi : lk md pc = some (pc0, Instr.ifCond .lt off, npc, k1, k2, k3, mn)) (kt : x < 0 → WAt Δ Γ fl md d k1 L st w cells slots) (kf : ¬ (x < 0) → WAt Δ Γ fl md d npc L (st) w cells slots) : WAt Δ Γ fl md d pc L (vI x :: st) w cells slots := by
  intro F hL hst hM ls H locs hl hP hS hz
  obtain ⟨-, hd, rfl, hq⟩ := lk_ok hi F.good
  have hx : InR x := hst.hd
  have hy : InR 0 := by unfold InR; omega
  exact lv_if_lt F.exec F.bytes hd (tgt_of hq) (fun h => kt ((iI_lt hx hy).mp h) F hL hst.tl hM ls H locs hl hP hS hz) (fun h => kf (fun q => h ((iI_lt hx hy).mpr q)) F hL hst.tl hM ls H locs hl hP hS hz)
theorem w_if_ge {Δ : DT} {Γ : FT} {fl : Bool} {md : MD} {d pc pc0 npc k1 k2 k3 : Nat} {mn : MethodName} {L st : List PV} {w : WD} {cells slots : Nat} {off : Int} {x : Int} (hi : lk md pc = some (pc0, Instr.ifCond .ge off, npc, k1, k2, k3, mn)) (kt : 0 ≤ x → WAt Δ Γ fl md d k1 L st w cells slots) (kf : ¬ (0 ≤ x) → WAt Δ Γ fl md d npc L (st) w cells slots) : WAt Δ Γ fl md d pc L (vI x :: st) w cells slots := by
  intro F hL hst hM ls H locs hl hP hS hz
  obtain ⟨-, hd, rfl, hq⟩ := lk_ok hi F.good
  have hx : InR x := hst.hd
  have hy : InR 0 := by unfold InR; omega
  exact lv_if_ge F.exec F.bytes hd (tgt_of hq) (fun h => kt ((iI_le hy hx).mp h) F hL hst.tl hM ls H locs hl hP hS hz) (fun h => kf (fun q => h ((iI_le hy hx).mpr q)) F hL hst.tl hM ls H locs hl hP hS hz)
theorem w_if_gt {Δ : DT} {Γ : FT} {fl : Bool} {md : MD} {d pc pc0 npc k1 k2 k3 : Nat} {mn : MethodName} {L st : List PV} {w : WD} {cells slots : Nat} {off : Int} {x : Int} (hi : lk md pc = some (pc0, Instr.ifCond .gt off, npc, k1, k2, k3, mn)) (kt : 0 < x → WAt Δ Γ fl md d k1 L st w cells slots) (kf : ¬ (0 < x) → WAt Δ Γ fl md d npc L (st) w cells slots) : WAt Δ Γ fl md d pc L (vI x :: st) w cells slots := by
  intro F hL hst hM ls H locs hl hP hS hz
  obtain ⟨-, hd, rfl, hq⟩ := lk_ok hi F.good
  have hx : InR x := hst.hd
  have hy : InR 0 := by unfold InR; omega
  exact lv_if_gt F.exec F.bytes hd (tgt_of hq) (fun h => kt ((iI_lt hy hx).mp h) F hL hst.tl hM ls H locs hl hP hS hz) (fun h => kf (fun q => h ((iI_lt hy hx).mpr q)) F hL hst.tl hM ls H locs hl hP hS hz)
theorem w_if_le {Δ : DT} {Γ : FT} {fl : Bool} {md : MD} {d pc pc0 npc k1 k2 k3 : Nat} {mn : MethodName} {L st : List PV} {w : WD} {cells slots : Nat} {off : Int} {x : Int} (hi : lk md pc = some (pc0, Instr.ifCond .le off, npc, k1, k2, k3, mn)) (kt : x ≤ 0 → WAt Δ Γ fl md d k1 L st w cells slots) (kf : ¬ (x ≤ 0) → WAt Δ Γ fl md d npc L (st) w cells slots) : WAt Δ Γ fl md d pc L (vI x :: st) w cells slots := by
  intro F hL hst hM ls H locs hl hP hS hz
  obtain ⟨-, hd, rfl, hq⟩ := lk_ok hi F.good
  have hx : InR x := hst.hd
  have hy : InR 0 := by unfold InR; omega
  exact lv_if_le F.exec F.bytes hd (tgt_of hq) (fun h => kt ((iI_le hx hy).mp h) F hL hst.tl hM ls H locs hl hP hS hz) (fun h => kf (fun q => h ((iI_le hx hy).mpr q)) F hL hst.tl hM ls H locs hl hP hS hz)
theorem w_nonnull {Δ : DT} {Γ : FT} {fl : Bool} {md : MD} {d pc pc0 npc k1 k2 k3 : Nat} {mn : MethodName} {L st : List PV} {w : WD} {cells slots : Nat} {off : Int} {a : Nat} (hi : lk md pc = some (pc0, Instr.ifnonnull off, npc, k1, k2, k3, mn)) (k : WAt Δ Γ fl md d k1 L st w cells slots) : WAt Δ Γ fl md d pc L (vR a :: st) w cells slots := by
  intro F hL hst hM ls H locs hl hP hS hz
  obtain ⟨-, hd, rfl, hq⟩ := lk_ok hi F.good
  exact lv_ifnonnull F.exec F.bytes hd (tgt_of hq) (k F hL hst.tl hM ls H locs hl hP hS hz)
theorem w_nonnullN {Δ : DT} {Γ : FT} {fl : Bool} {md : MD} {d pc pc0 npc k1 k2 k3 : Nat} {mn : MethodName} {L st : List PV} {w : WD} {cells slots : Nat} {off : Int} (hi : lk md pc = some (pc0, Instr.ifnonnull off, npc, k1, k2, k3, mn)) (k : WAt Δ Γ fl md d npc L (st) w cells slots) : WAt Δ Γ fl md d pc L (vN :: st) w cells slots := by
  intro F hL hst hM ls H locs hl hP hS hz
  obtain ⟨-, hd, rfl, hq⟩ := lk_ok hi F.good
  exact lv_ifnonnullN F.exec F.bytes hd (k F hL hst.tl hM ls H locs hl hP hS hz)
theorem w_tabIn {Δ : DT} {Γ : FT} {fl : Bool} {md : MD} {d pc pc0 npc k1 k2 k3 : Nat} {mn : MethodName} {L st : List PV} {w : WD} {cells slots : Nat} {dflt lo hi' off : Int} {offs : Array Int} {x : Int} {tgt : Nat} (hi : lk md pc = some (pc0, Instr.tableswitch dflt lo hi' offs, npc, k1, k2, k3, mn)) (h1 : lo ≤ x) (h2 : x ≤ hi') (ho : offs[(x - lo).toNat]? = some off) (ht : (pc : Int) + off = (tgt : Int)) (k : WAt Δ Γ fl md d tgt L st w cells slots) : WAt Δ Γ fl md d pc L (vI x :: st) w cells slots := by
  intro F hL hst hM ls H locs hl hP hS hz
  obtain ⟨-, hd, rfl, hq⟩ := lk_ok hi F.good
  have hx : InR x := hst.hd
  exact lv_tableIn F.exec F.bytes hd (by rw [iI_toInt hx]; omega) (by rw [iI_toInt hx]; omega) (by rw [iI_toInt hx]; exact ho) ht (k F hL hst.tl hM ls H locs hl hP hS hz)
theorem w_tabOut {Δ : DT} {Γ : FT} {fl : Bool} {md : MD} {d pc pc0 npc k1 k2 k3 : Nat} {mn : MethodName} {L st : List PV} {w : WD} {cells slots : Nat} {dflt lo hi' : Int} {offs : Array Int} {x : Int} {tgt : Nat} (hi : lk md pc = some (pc0, Instr.tableswitch dflt lo hi' offs, npc, k1, k2, k3, mn)) (h : x < lo ∨ hi' < x) (ht : (pc : Int) + dflt = (tgt : Int)) (k : WAt Δ Γ fl md d tgt L st w cells slots) : WAt Δ Γ fl md d pc L (vI x :: st) w cells slots := by
  intro F hL hst hM ls H locs hl hP hS hz
  obtain ⟨-, hd, rfl, hq⟩ := lk_ok hi F.good
  have hx : InR x := hst.hd
  exact lv_tableOut F.exec F.bytes hd (by rw [iI_toInt hx]; omega) ht (k F hL hst.tl hM ls H locs hl hP hS hz)
theorem w_lookup {Δ : DT} {Γ : FT} {fl : Bool} {md : MD} {d pc pc0 npc k1 k2 k3 : Nat} {mn : MethodName} {L st : List PV} {w : WD} {cells slots : Nat} {dflt off : Int} {ps : Array (Int × Int)} {x : Int} {tgt : Nat} (hi : lk md pc = some (pc0, Instr.lookupswitch dflt ps, npc, k1, k2, k3, mn)) (hp : (ps.toList.zip (ps.toList.drop 1)).all (fun (a, next) => a.1 < next.1) = true) (ho : Op.lookupswitch.offset ps.toList dflt x = off) (ht : (pc : Int) + off = (tgt : Int)) (k : WAt Δ Γ fl md d tgt L st w cells slots) : WAt Δ Γ fl md d pc L (vI x :: st) w cells slots := by
  intro F hL hst hM ls H locs hl hP hS hz
  obtain ⟨-, hd, rfl, hq⟩ := lk_ok hi F.good
  have hx : InR x := hst.hd
  exact lv_lookup F.exec F.bytes hd hp (by rw [iI_toInt hx]; exact ho) ht (k F hL hst.tl hM ls H locs hl hP hS hz)
