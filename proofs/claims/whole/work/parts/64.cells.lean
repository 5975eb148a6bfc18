-- ===== the classes, by program =====
def clz : List (List Nat) := [[4294, 4296, 4298, 4300, 4302], [4203, 4205, 4207, 4209, 4211, 4213], [4172, 4174, 4176, 4178, 4180], [4322, 4324, 4326, 4328, 4330, 4332, 4334], [4248, 4250], [8259, 8261, 8263, 8265, 8267, 8269, 8271, 8273, 8275, 8277, 8279], [8226, 8228, 8230], [4265, 4267, 4269, 4271, 4273, 4275], [8204, 8206, 8208, 8210], [4227, 4229, 4231, 4233, 4235, 4237], [4142, 4144, 4146, 4148], [8297, 8299, 8301, 8303, 8305, 8307, 8309, 8311, 8313, 8315, 8317, 8319, 8321, 8323, 8325], [24648, 24650, 24652, 24654, 24656, 24658, 24660, 24662, 24664, 24666, 24668, 24670, 24672, 24674, 24676, 24678, 24680, 24682, 24684, 24686, 24688, 24690, 24692, 24694, 24696, 24698, 24700, 24702, 24704, 24706, 24708, 24710, 24712, 24714, 24716, 24718, 24720, 24722, 24724, 24726, 24728, 24730, 24732, 24734, 24736, 24738, 24740, 24742, 24744, 24746, 24748, 24750, 24752, 24754, 24756]]
def clchk : Bool := (List.range 13).all fun ci => match vwCl[ci]? with
  | some q => (List.range q.2.2).all fun k => wis ((clz.getD ci []).getD k 0) (u_lay q.1 q.2.1 k)
  | none => false
set_option maxRecDepth 100000 in
theorem clchk_ok : clchk = true := by decide +kernel
theorem cl_lt {ci : Nat} {q : vw_C} (h : vwCl[ci]? = some q) : ci < 13 := (List.getElem?_eq_some_iff.mp h).1
theorem cl_in {ci : Nat} {C : String} {T : u_T} {N : Nat} (hc : vwCl[ci]? = some (C, T, N)) : ∀ w ∈ u_ws C T N, w ∈ tblG := by
  intro w hw
  obtain ⟨k, hk, rfl⟩ := List.mem_map.mp hw
  have h := List.all_eq_true.mp clchk_ok ci (List.mem_range.mpr (cl_lt hc))
  rw [hc] at h
  exact wis_in (List.all_eq_true.mp h k hk)
theorem cl_ty {ci : Nat} {C : String} {T : u_T} {N : Nat} (hc : vwCl[ci]? = some (C, T, N)) : ∃ ty0 : Nat → FieldType, (∀ k, k < N → parseFieldDescriptor (T k).2.2.1 = some (ty0 k)) ∧ ∀ a, a < N → ∀ b, b < N → a ≠ b → (T a).2.1 ≠ (T b).2.1 := by
  match ci, hc with
  | 0, hc => cases hc; exact ⟨tyX0, tyX0_ok, nmX0⟩
  | 1, hc => cases hc; exact ⟨tyX1, tyX1_ok, nmX1⟩
  | 2, hc => cases hc; exact ⟨tyX2, tyX2_ok, nmX2⟩
  | 3, hc => cases hc; exact ⟨tyX3, tyX3_ok, nmX3⟩
  | 4, hc => cases hc; exact ⟨tyX4, tyX4_ok, nmX4⟩
  | 5, hc => cases hc; exact ⟨tyX5, tyX5_ok, nmX5⟩
  | 6, hc => cases hc; exact ⟨tyX6, tyX6_ok, nmX6⟩
  | 7, hc => cases hc; exact ⟨tyX7, tyX7_ok, nmX7⟩
  | 8, hc => cases hc; exact ⟨tyX8, tyX8_ok, nmX8⟩
  | 9, hc => cases hc; exact ⟨tyX9, tyX9_ok, nmX9⟩
  | 10, hc => cases hc; exact ⟨tyX10, tyX10_ok, nmX10⟩
  | 11, hc => cases hc; exact ⟨tyX11, tyX11_ok, nmX11⟩
  | 12, hc => cases hc; exact ⟨tyX12, tyX12_ok, nmX12⟩
  | k + 13, hc => exact absurd (cl_lt hc) (by omega)
/-- a field's type as it is written, and whether it is final -/
def fds (ci k : Nat) : Option (String × Bool) := (vwCl[ci]?).map fun q => ((q.2.1 k).2.2.1, (q.2.1 k).2.2.2)
theorem pfd_I : parseFieldDescriptor "I" = some .int := by decide +kernel
theorem pfd_Z : parseFieldDescriptor "Z" = some .boolean := by decide +kernel
theorem pfd_aI : parseFieldDescriptor "[I" = some (.array .int) := by decide +kernel
theorem pfd_aB : parseFieldDescriptor "[B" = some (.array .byte) := by decide +kernel
theorem chk_fld {md : MD} {i : Instr} {idx pc x y z : Nat} {mn : MethodName} (hi : i = .getfield idx ∨ i = .putfield idx) (h : chkI md.1.cls i pc x y z mn = true) : ∃ (C : String) (T : u_T) (N : Nat), vwCl[x]? = some (C, T, N) ∧ y < N ∧ Cond.fieldLink md.1.cls idx (T y).1 (T y).2.1 (T y).2.2.1 ∈ tblG := by
  have h2 : (match vwCl[x]? with
    | some q => decide (y < q.2.2) && wis z (.fieldLink md.1.cls idx (q.2.1 y).1 (q.2.1 y).2.1 (q.2.1 y).2.2.1)
    | none => false) = true := by rcases hi with rfl | rfl <;> exact h
  split at h2
  next q hc =>
    obtain ⟨C, T, N⟩ := q
    rw [Bool.and_eq_true, decide_eq_true_eq] at h2
    exact ⟨C, T, N, hc, h2.1, wis_in h2.2⟩
  next => cases h2
theorem w_get0 {Δ : DT} {Γ : FT} {fl : Bool} {md : MD} {d pc pc0 npc k1 k2 k3 : Nat} {mn : MethodName} {L st : List PV} {n : Nat} {S : Nat → SHP} {M : MEM} {cells slots : Nat} {idx a c : Nat} {ks : List Nat} {v : PV} (hi : lk md pc = some (pc0, Instr.getfield idx, npc, k1, k2, k3, mn)) (ha : a < n) (hs : S a = (0, k1, ks)) (hc : ks[k2]? = some c) (hv : rep Δ.2.1 v = fv Δ.2.1 (M a k2) c) (hok : okM M → okV v) (k : WAt Δ Γ fl md d npc L (v :: st) (n, S, M) cells slots) : WAt Δ Γ fl md d pc L (vR a :: st) (n, S, M) cells slots := by
  intro F hL hst hM ls H locs hl hP hS hz
  obtain ⟨-, hd, rfl, hq⟩ := lk_ok hi F.good
  obtain ⟨C, T, N, hcl, hk, hw⟩ := chk_fld (Or.inl rfl) hq
  refine va_get (D := Δ.2.2.1) (ci := k1) (fs := fvs Δ.2.1 (M a) 0 ks) (v := rep Δ.2.1 v) F.exec F.bytes F.ts (cl_in hcl) F.own F.kinds hP a (by rw [wL_get ha, hs]; rfl) hcl k2 hk (F.ts _ hw) (fun _ h => h) ?_ hd (k F hL (hst.tl.cons (hok hM)) hM ls H locs hl hP hS hz)
  rw [fvs_get _ _ ks 0 k2 c hc, hv, Nat.zero_add]
theorem w_getI {Δ : DT} {Γ : FT} {fl : Bool} {md : MD} {d pc pc0 npc k1 k2 k3 : Nat} {mn : MethodName} {L st : List PV} {n : Nat} {S : Nat → SHP} {M : MEM} {cells slots : Nat} {idx a : Nat} {ks : List Nat} (hi : lk md pc = some (pc0, Instr.getfield idx, npc, k1, k2, k3, mn)) (ha : a < n) (hs : S a = (0, k1, ks)) (hc : ks[k2]? = some 0) (k : WAt Δ Γ fl md d npc L (vI (M a k2) :: st) (n, S, M) cells slots) : WAt Δ Γ fl md d pc L (vR a :: st) (n, S, M) cells slots := w_get0 (v := vI (M a k2)) hi ha hs hc rfl (fun h => h a k2) k
theorem w_getR {Δ : DT} {Γ : FT} {fl : Bool} {md : MD} {d pc pc0 npc k1 k2 k3 : Nat} {mn : MethodName} {L st : List PV} {n : Nat} {S : Nat → SHP} {M : MEM} {cells slots : Nat} {idx a r : Nat} {ks : List Nat} (hi : lk md pc = some (pc0, Instr.getfield idx, npc, k1, k2, k3, mn)) (ha : a < n) (hs : S a = (0, k1, ks)) (hc : ks[k2]? = some (r + 3)) (k : WAt Δ Γ fl md d npc L (vR r :: st) (n, S, M) cells slots) : WAt Δ Γ fl md d pc L (vR a :: st) (n, S, M) cells slots := w_get0 (v := vR r) hi ha hs hc rfl (fun _ => trivial) k
theorem w_getD {Δ : DT} {Γ : FT} {fl : Bool} {md : MD} {d pc pc0 npc k1 k2 k3 : Nat} {mn : MethodName} {L st : List PV} {n : Nat} {S : Nat → SHP} {M : MEM} {cells slots : Nat} {idx a r : Nat} {ks : List Nat} (hi : lk md pc = some (pc0, Instr.getfield idx, npc, k1, k2, k3, mn)) (ha : a < n) (hs : S a = (0, k1, ks)) (hc : ks[k2]? = some 2) (hr : M a k2 = ((r : Int) + 1)) (k : WAt Δ Γ fl md d npc L (vR r :: st) (n, S, M) cells slots) : WAt Δ Γ fl md d pc L (vR a :: st) (n, S, M) cells slots := w_get0 (v := vR r) hi ha hs hc (by unfold fv rep; simp only; rw [hr, if_neg (by omega), show ((r : Int) + 1).toNat - 1 = r by omega]) (fun _ => trivial) k
theorem w_getN {Δ : DT} {Γ : FT} {fl : Bool} {md : MD} {d pc pc0 npc k1 k2 k3 : Nat} {mn : MethodName} {L st : List PV} {n : Nat} {S : Nat → SHP} {M : MEM} {cells slots : Nat} {idx a : Nat} {ks : List Nat} (hi : lk md pc = some (pc0, Instr.getfield idx, npc, k1, k2, k3, mn)) (ha : a < n) (hs : S a = (0, k1, ks)) (hc : ks[k2]? = some 2) (hr : M a k2 = 0) (k : WAt Δ Γ fl md d npc L (vN :: st) (n, S, M) cells slots) : WAt Δ Γ fl md d pc L (vR a :: st) (n, S, M) cells slots := w_get0 (v := vN) hi ha hs hc (by unfold fv rep; simp only; rw [hr, if_pos rfl]) (fun _ => trivial) k
section PUTS
variable {p : Program} {l : Launch} {e : Env} {R : Room} {s : State} {m : MethodId} {args : Array Value} {below : List Frame} {meth : Method} {c : Code} {H : Heap} {locs : List Loc} {cells slots : Nat} {Q : State → Prop}
variable {cc : ByteArray} {pc : Nat} {ls : Array Slot} {rest : List Value} {D : va_G} {cl : List vw_C} {A : Nat → Prop} {a : Nat} {tys : List (ClassId × FieldType)} {ws : va_W} {H0 : Heap}
/-- a field is written: what it leaves of the heap's size, too (along the kit's own rows for the two kinds of field) -/
theorem x_put (hexec : p.tables.exec = Jvm.exec) (hb : c.code = cc) {own C : String} {T : u_T} {N ci index : Nat} {Ts : List Cond} (hts : ∀ w ∈ Ts, w.before args s = true) (hin : ∀ w ∈ u_ws C T N, w ∈ Ts) (ty0 : Nat → FieldType) (hty : ∀ k, k < N → parseFieldDescriptor (T k).2.2.1 = some (ty0 k)) (hnm : ∀ a, a < N → ∀ b, b < N → a ≠ b → (T a).2.1 ≠ (T b).2.1) (hown : s.vm.findClass own = some m.cls) (hK : va_K D cl tys s) (hP : va_P D cl ws H) (hD : va_D A ws) (hS0 : va_S A H0 H locs) (q0 : Nat) {fs : List Value} (he : ws[q0]? = some (a, .inr (ci, fs))) (hc : cl[ci]? = some (C, T, N)) (k : Nat) (hk : k < N) (hlink : (Cond.fieldLink own index (T k).1 (T k).2.1 (T k).2.2.1).before args s = true) (hfin : (T k).2.2.2 = false ∨ ((T k).2.2.2 = true ∧ meth.name = "<init>" ∧ (T k).1 = own)) {ty : FieldType} {v : Value} (hd : parseFieldDescriptor (T k).2.2.1 = some ty) (hn : narrow ty v = v) (hfit : fits ty v = true) (hl : k < fs.length)
    (hdg : decode cc pc = .ok (.putfield index, 3)) (kk : ∀ (H1 : Heap) (locs1 : List Loc), va_P D cl (ws.set q0 (a, .inr (ci, fs.set k v))) H1 → va_S A H0 H1 locs1 → H1.size = H.size → W p l e R s m args below meth c H1 locs1 cells slots Q (F0 m (pc + 3) ls rest)) : W p l e R s m args below meth c H locs cells slots Q (F0 m pc ls (v :: .ref a :: rest)) := by
  have hap := va_apart (own := own) hts hin ty0 hty hnm hK hc
  obtain ⟨r, h1, cell, q1, q2, q3, q4⟩ := hP q0 _ he
  have hr : r = (C, T, N) := Option.some.inj (h1.symm.trans hc)
  subst hr
  obtain ⟨hS, hfc, kC, hkC, hkind⟩ := hK.1 ci _ hc
  obtain ⟨cf, kf, fi, f, hi, hsl⟩ := hS k hk
  have hlay := hts _ (hin _ (u_in_lay hk))
  have hst := (u_facts hfc hkC (u_lays hts hin hk) hi).1
  have go : ∀ H' : Heap, H'[a]? = some (cell.setSlot (D.2 ci k) v) → H'.size = H.size → (∀ q, q ≠ a → H'[q]? = H[q]?) → W p l e R s m args below meth c H' (locs ++ [⟨a, D.2 ci k⟩]) cells slots Q (F0 m (pc + 3) ls rest) := fun H' e1 e2 e3 =>
    kk H' _ (hP.set hD he ⟨_, hc, t_OB.to (V := updV (vp_V fs) k v) ⟨_, e1, q2, q3, t_set q4 hap hk v⟩ (fun j _ => vp_updV_set hl v j)⟩ e3) (hS0.put e2 e3 (hD.2 q0 _ he)) e2
  rcases hfin with hfin | ⟨hfin, hin2, hdecl⟩
  · unfold u_lay at hlay
    rw [if_neg (by rw [hfin]; decide)] at hlay
    have h6 := u_store hfc hkC hkind hlay hi hd hn hfit
    refine W.putK hexec hb (f := f) ⟨hown, hlink, ⟨_, _, _, hi⟩, hst⟩ (by rw [q2]; exact h6) q1 q3 (by rw [hsl]; exact k2_hasslot (q4 k hk)) rfl rfl hdg fun H' e1 e2 e3 => ?_
    rw [hsl] at e1 ⊢
    exact go H' e1 e2 e3
  · unfold u_lay at hlay
    rw [if_pos hfin] at hlay
    have hcf : m.cls = cf := by
      obtain ⟨_, _, c', _, _, _, -, -, hf', -, -, -, hown2, -⟩ := Cond.laysFinal_spec hlay
      have e1 : c' = cf := by have := hi.symm.trans hf'; simp at this; exact this.1.symm
      rw [hdecl] at hown2
      rw [← e1]; exact Option.some.inj (hown.symm.trans hown2)
    have h6 := u_fits hfc hkC hkind (Or.inr hlay) hi hd hn hfit
    refine W.putFinK hexec hb hown hlink hi hst hcf hin2 (by rw [q2]; exact h6) q1 q3 (by rw [hsl]; exact k2_hasslot (q4 k hk)) rfl rfl hdg fun H' e1 e2 e3 => ?_
    rw [hsl] at e1 ⊢
    exact go H' e1 e2 e3
end PUTS
theorem w_put0 {Δ : DT} {Γ : FT} {fl : Bool} {md : MD} {d pc pc0 npc k1 k2 k3 : Nat} {mn : MethodName} {L st : List PV} {n : Nat} {S : Nat → SHP} {M : MEM} {cells slots : Nat} {idx a c c' : Nat} {ks : List Nat} {v : PV} {x : Int} {ty : FieldType} {ds : String} {fin : Bool} {S' : Nat → SHP} (hi : lk md pc = some (pc0, Instr.putfield idx, npc, k1, k2, k3, mn)) (ha : a < n) (hs : S a = (0, k1, ks)) (hc : ks[k2]? = some c) (hv : rep Δ.2.1 v = fv Δ.2.1 x c') (hok : okM M → okV v → okM (up2 M a k2 x)) (hT : fds k1 k2 = some (ds, fin)) (hfi : fin = false ∨ (md.1.name = "<init>" ∧ (vwCl[k1]?).map (fun q => (q.2.1 k2).1) = some md.1.cls)) (hds : parseFieldDescriptor ds = some ty) (hn : narrow ty (rep Δ.2.1 v) = rep Δ.2.1 v) (hfit : fits ty (rep Δ.2.1 v) = true) (hS1 : S' a = (0, k1, ks.set k2 c')) (hS2 : ∀ j, j ≠ a → S' j = S j) (k : WAt Δ Γ fl md d npc L (st) (n, S', up2 M a k2 x) cells slots) : WAt Δ Γ fl md d pc L (v :: vR a :: st) (n, S, M) cells slots := by
  intro F hL hst hM ls H locs hl hP hS hz
  obtain ⟨-, hd, rfl, hq⟩ := lk_ok hi F.good
  obtain ⟨C, T, N, hcl, hk, hw⟩ := chk_fld (Or.inr rfl) hq
  obtain ⟨ty0, hty, hnm⟩ := cl_ty hcl
  have hT2 : (T k2).2.2.1 = ds ∧ (T k2).2.2.2 = fin := by
    unfold fds at hT
    rw [hcl] at hT
    have e := Option.some.inj hT
    exact ⟨(Prod.mk.inj e).1, (Prod.mk.inj e).2⟩
  have hfin : (T k2).2.2.2 = false ∨ ((T k2).2.2.2 = true ∧ Γ.2.2.2.2.2.2.2.1.name = "<init>" ∧ (T k2).1 = md.1.cls) := by
    rw [hT2.2]
    rcases hfi with rfl | ⟨h1, h2⟩
    · exact Or.inl rfl
    · rw [hcl] at h2
      cases fin with
      | false => exact Or.inl rfl
      | true => exact Or.inr ⟨rfl, F.name.trans h1, Option.some.inj h2⟩
  have hlen : k2 < (fvs Δ.2.1 (M a) 0 ks).length := by rw [fvs_len]; exact (List.getElem?_eq_some_iff.mp hc).1
  refine x_put (D := Δ.2.2.1) (ci := k1) (fs := fvs Δ.2.1 (M a) 0 ks) (v := rep Δ.2.1 v) (ty := ty) F.exec F.bytes F.ts (cl_in hcl) ty0 hty hnm F.own F.kinds hP wL_D hS a (by rw [wL_get ha, hs]; rfl) hcl k2 hk (F.ts _ hw) hfin (by rw [hT2.1]; exact hds) hn hfit hlen hd (fun H1 locs1 hP1 hS1' hz1 => ?_)
  have e : (wL Δ.2.1 Δ.2.2.2 (n, S, M)).set a (Δ.2.1 + a, .inr (k1, (fvs Δ.2.1 (M a) 0 ks).set k2 (rep Δ.2.1 v))) = wL Δ.2.1 Δ.2.2.2 (n, S', up2 M a k2 x) := by
    rw [← wL_set (S := S) (S' := S') (M := M) (M' := up2 M a k2 x) (i := a) hS2 (fun j hj => up2_off hj), hS1, up2_row, hv, fvs_put _ _ x ks 0 k2 c c' hc, Nat.zero_add]
    rfl
  rw [e] at hP1
  exact k F hL hst.tl.tl (hok hM hst.hd) ls H1 locs1 hl hP1 hS1' (fun h => hz1.trans (hz h))
theorem w_putI {Δ : DT} {Γ : FT} {fl : Bool} {md : MD} {d pc pc0 npc k1 k2 k3 : Nat} {mn : MethodName} {L st : List PV} {n : Nat} {S : Nat → SHP} {M : MEM} {cells slots : Nat} {idx a : Nat} {ks : List Nat} {x : Int} (hi : lk md pc = some (pc0, Instr.putfield idx, npc, k1, k2, k3, mn)) (ha : a < n) (hs : S a = (0, k1, ks)) (hc : ks[k2]? = some 0) (hT : fds k1 k2 = some ("I", false)) (k : WAt Δ Γ fl md d npc L (st) (n, S, up2 M a k2 x) cells slots) : WAt Δ Γ fl md d pc L (vI x :: vR a :: st) (n, S, M) cells slots :=
  w_put0 (v := vI x) hi ha hs hc rfl (fun h hx => h.up hx) hT (Or.inl rfl) pfd_I rfl rfl (by rw [list_set_same ks k2 0 hc]; exact hs) (fun _ _ => rfl) k
theorem w_putZ {Δ : DT} {Γ : FT} {fl : Bool} {md : MD} {d pc pc0 npc k1 k2 k3 : Nat} {mn : MethodName} {L st : List PV} {n : Nat} {S : Nat → SHP} {M : MEM} {cells slots : Nat} {idx a : Nat} {ks : List Nat} {x : Int} (hi : lk md pc = some (pc0, Instr.putfield idx, npc, k1, k2, k3, mn)) (ha : a < n) (hs : S a = (0, k1, ks)) (hc : ks[k2]? = some 0) (hT : fds k1 k2 = some ("Z", false)) (hx : x = 0 ∨ x = 1) (k : WAt Δ Γ fl md d npc L (st) (n, S, up2 M a k2 x) cells slots) : WAt Δ Γ fl md d pc L (vI x :: vR a :: st) (n, S, M) cells slots :=
  w_put0 (v := vI x) hi ha hs hc rfl (fun h hx => h.up hx) hT (Or.inl rfl) pfd_Z (by rcases hx with rfl | rfl <;> rfl) (by rcases hx with rfl | rfl <;> rfl) (by rw [list_set_same ks k2 0 hc]; exact hs) (fun _ _ => rfl) k
theorem w_putD {Δ : DT} {Γ : FT} {fl : Bool} {md : MD} {d pc pc0 npc k1 k2 k3 : Nat} {mn : MethodName} {L st : List PV} {n : Nat} {S : Nat → SHP} {M : MEM} {cells slots : Nat} {idx a r : Nat} {ks : List Nat} {ty : FieldType} {ds : String} (hi : lk md pc = some (pc0, Instr.putfield idx, npc, k1, k2, k3, mn)) (ha : a < n) (hs : S a = (0, k1, ks)) (hc : ks[k2]? = some 2) (hT : fds k1 k2 = some (ds, false)) (hds : parseFieldDescriptor ds = some (.array ty)) (hr : InR ((r : Int) + 1)) (k : WAt Δ Γ fl md d npc L (st) (n, S, up2 M a k2 ((r : Int) + 1)) cells slots) : WAt Δ Γ fl md d pc L (vR r :: vR a :: st) (n, S, M) cells slots :=
  w_put0 (v := vR r) (c' := 2) hi ha hs hc (by unfold fv rep; simp only; rw [if_neg (by omega), show ((r : Int) + 1).toNat - 1 = r by omega]) (fun h _ => h.up hr) hT (Or.inl rfl) hds rfl rfl (by rw [list_set_same ks k2 2 hc]; exact hs) (fun _ _ => rfl) k
theorem w_putN {Δ : DT} {Γ : FT} {fl : Bool} {md : MD} {d pc pc0 npc k1 k2 k3 : Nat} {mn : MethodName} {L st : List PV} {n : Nat} {S : Nat → SHP} {M : MEM} {cells slots : Nat} {idx a : Nat} {ks : List Nat} {ty : FieldType} {ds : String} (hi : lk md pc = some (pc0, Instr.putfield idx, npc, k1, k2, k3, mn)) (ha : a < n) (hs : S a = (0, k1, ks)) (hc : ks[k2]? = some 2) (hT : fds k1 k2 = some (ds, false)) (hds : parseFieldDescriptor ds = some (.array ty)) (k : WAt Δ Γ fl md d npc L (st) (n, S, up2 M a k2 0) cells slots) : WAt Δ Γ fl md d pc L (vN :: vR a :: st) (n, S, M) cells slots :=
  w_put0 (v := vN) (c' := 2) hi ha hs hc (by unfold fv rep; simp) (fun h _ => h.up (by unfold InR; omega)) hT (Or.inl rfl) hds rfl rfl (by rw [list_set_same ks k2 2 hc]; exact hs) (fun _ _ => rfl) k
theorem w_iald {Δ : DT} {Γ : FT} {fl : Bool} {md : MD} {d pc pc0 npc k1 k2 k3 : Nat} {mn : MethodName} {L st : List PV} {n : Nat} {S : Nat → SHP} {M : MEM} {cells slots : Nat} {a len : Nat} {i : Int} (hi : lk md pc = some (pc0, Instr.iaload, npc, k1, k2, k3, mn)) (ha : a < n) (hs : S a = (1, 0, [len])) (h0 : 0 ≤ i) (h1 : i < len) (k : WAt Δ Γ fl md d npc L (vI (M a i.toNat) :: st) (n, S, M) cells slots) : WAt Δ Γ fl md d pc L (vI i :: vR a :: st) (n, S, M) cells slots := by
  intro F hL hst hM ls H locs hl hP hS hz
  obtain ⟨-, hd, rfl, hq⟩ := lk_ok hi F.good
  have hi' : InR i := hst.hd
  refine va_iald (cA := Δ.2.2.2 0) (n := len) (f := fun j => Int32.ofInt (M a j)) F.exec F.bytes F.kinds hP a 0 (by rw [wL_get ha, hs]; rfl) rfl (iI_vp hi' h0 h1) hd ?_
  rw [iI_clamp hi']
  exact k F hL (hst.tl.tl.cons (hM a i.toNat)) hM ls H locs hl hP hS hz
theorem w_bald {Δ : DT} {Γ : FT} {fl : Bool} {md : MD} {d pc pc0 npc k1 k2 k3 : Nat} {mn : MethodName} {L st : List PV} {n : Nat} {S : Nat → SHP} {M : MEM} {cells slots : Nat} {a len : Nat} {i : Int} (hi : lk md pc = some (pc0, Instr.baload, npc, k1, k2, k3, mn)) (ha : a < n) (hs : S a = (1, 1, [len])) (h0 : 0 ≤ i) (h1 : i < len) (k : WAt Δ Γ fl md d npc L (vI (M a i.toNat) :: st) (n, S, M) cells slots) : WAt Δ Γ fl md d pc L (vI i :: vR a :: st) (n, S, M) cells slots := by
  intro F hL hst hM ls H locs hl hP hS hz
  obtain ⟨-, hd, rfl, hq⟩ := lk_ok hi F.good
  have hi' : InR i := hst.hd
  refine va_bald (cA := Δ.2.2.2 1) (n := len) (f := fun j => Int32.ofInt (M a j)) F.exec F.bytes F.kinds hP a 1 (by rw [wL_get ha, hs]; rfl) rfl (iI_vp hi' h0 h1) hd ?_
  rw [iI_clamp hi']
  exact k F hL (hst.tl.tl.cons (hM a i.toNat)) hM ls H locs hl hP hS hz
theorem w_zald {Δ : DT} {Γ : FT} {fl : Bool} {md : MD} {d pc pc0 npc k1 k2 k3 : Nat} {mn : MethodName} {L st : List PV} {n : Nat} {S : Nat → SHP} {M : MEM} {cells slots : Nat} {a len : Nat} {i : Int} (hi : lk md pc = some (pc0, Instr.baload, npc, k1, k2, k3, mn)) (ha : a < n) (hs : S a = (1, 2, [len])) (h0 : 0 ≤ i) (h1 : i < len) (k : WAt Δ Γ fl md d npc L (vI (M a i.toNat) :: st) (n, S, M) cells slots) : WAt Δ Γ fl md d pc L (vI i :: vR a :: st) (n, S, M) cells slots := by
  intro F hL hst hM ls H locs hl hP hS hz
  obtain ⟨-, hd, rfl, hq⟩ := lk_ok hi F.good
  have hi' : InR i := hst.hd
  refine va_zald (cA := Δ.2.2.2 2) (n := len) (f := fun j => Int32.ofInt (M a j)) F.exec F.bytes F.kinds hP a 2 (by rw [wL_get ha, hs]; rfl) rfl (iI_vp hi' h0 h1) hd ?_
  rw [iI_clamp hi']
  exact k F hL (hst.tl.tl.cons (hM a i.toNat)) hM ls H locs hl hP hS hz
theorem upd_up1 (v : Nat → Int) (k : Nat) (x : Int) : upd (fun j => Int32.ofInt (v j)) k (Int32.ofInt x) = fun j => Int32.ofInt (up1 v k x j) := by
  funext j
  unfold upd up1
  split <;> rfl
theorem w_iast {Δ : DT} {Γ : FT} {fl : Bool} {md : MD} {d pc pc0 npc k1 k2 k3 : Nat} {mn : MethodName} {L st : List PV} {n : Nat} {S : Nat → SHP} {M : MEM} {cells slots : Nat} {a len : Nat} {i x : Int} (hi : lk md pc = some (pc0, Instr.iastore, npc, k1, k2, k3, mn)) (ha : a < n) (hs : S a = (1, 0, [len])) (h0 : 0 ≤ i) (h1 : i < len) (hfl : fl = false) (k : WAt Δ Γ fl md d npc L (st) (n, S, up2 M a i.toNat (x)) cells slots) : WAt Δ Γ fl md d pc L (vI x :: vI i :: vR a :: st) (n, S, M) cells slots := by
  intro F hL hst hM ls H locs hl hP hS hz
  obtain ⟨-, hd, rfl, hq⟩ := lk_ok hi F.good
  have hi' : InR i := hst.tl.hd
  refine va_iast (cA := Δ.2.2.2 0) (n := len) (f := fun j => Int32.ofInt (M a j)) F.exec F.bytes F.kinds hP wL_D hS a 0 (by rw [wL_get ha, hs]; rfl) rfl (iI_vp hi' h0 h1) hd (fun H1 locs1 hP1 _ hS1 => ?_)
  have e : (wL Δ.2.1 Δ.2.2.2 (n, S, M)).set a (Δ.2.1 + a, .inl (Δ.2.2.2 0, len, .inl (upd (fun j => Int32.ofInt (M a j)) (Int32.ofInt i).toNatClampNeg (Int32.ofInt (x))))) = wL Δ.2.1 Δ.2.2.2 (n, S, up2 M a i.toNat (x)) := by
    rw [← wL_set (S := S) (S' := S) (M := M) (M' := up2 M a i.toNat (x)) (i := a) (fun _ _ => rfl) (fun j hj => up2_off hj), hs, up2_row, iI_clamp hi', upd_up1]
    rfl
  rw [e] at hP1
  exact k F hL hst.tl.tl.tl (hM.up hst.hd) ls H1 locs1 hl hP1 hS1 (fun h => by rw [hfl] at h; cases h)
theorem w_bast {Δ : DT} {Γ : FT} {fl : Bool} {md : MD} {d pc pc0 npc k1 k2 k3 : Nat} {mn : MethodName} {L st : List PV} {n : Nat} {S : Nat → SHP} {M : MEM} {cells slots : Nat} {a len : Nat} {i x : Int} (hi : lk md pc = some (pc0, Instr.bastore, npc, k1, k2, k3, mn)) (ha : a < n) (hs : S a = (1, 1, [len])) (h0 : 0 ≤ i) (h1 : i < len) (hfl : fl = false) (k : WAt Δ Γ fl md d npc L (st) (n, S, up2 M a i.toNat (sx8 x)) cells slots) : WAt Δ Γ fl md d pc L (vI x :: vI i :: vR a :: st) (n, S, M) cells slots := by
  intro F hL hst hM ls H locs hl hP hS hz
  obtain ⟨-, hd, rfl, hq⟩ := lk_ok hi F.good
  have hi' : InR i := hst.tl.hd
  refine va_bast (cA := Δ.2.2.2 1) (n := len) (f := fun j => Int32.ofInt (M a j)) F.exec F.bytes F.kinds hP wL_D hS a 1 (by rw [wL_get ha, hs]; rfl) rfl (iI_vp hi' h0 h1) hd (fun H1 locs1 hP1 _ hS1 => ?_)
  rw [vp_nar_byte, iI_sx8 hst.hd] at hP1
  have e : (wL Δ.2.1 Δ.2.2.2 (n, S, M)).set a (Δ.2.1 + a, .inl (Δ.2.2.2 1, len, .inl (upd (fun j => Int32.ofInt (M a j)) (Int32.ofInt i).toNatClampNeg (Int32.ofInt (sx8 x))))) = wL Δ.2.1 Δ.2.2.2 (n, S, up2 M a i.toNat (sx8 x)) := by
    rw [← wL_set (S := S) (S' := S) (M := M) (M' := up2 M a i.toNat (sx8 x)) (i := a) (fun _ _ => rfl) (fun j hj => up2_off hj), hs, up2_row, iI_clamp hi', upd_up1]
    rfl
  rw [e] at hP1
  exact k F hL hst.tl.tl.tl (hM.up (sx8_in x)) ls H1 locs1 hl hP1 hS1 (fun h => by rw [hfl] at h; cases h)
theorem w_zast {Δ : DT} {Γ : FT} {fl : Bool} {md : MD} {d pc pc0 npc k1 k2 k3 : Nat} {mn : MethodName} {L st : List PV} {n : Nat} {S : Nat → SHP} {M : MEM} {cells slots : Nat} {a len : Nat} {i x : Int} (hi : lk md pc = some (pc0, Instr.bastore, npc, k1, k2, k3, mn)) (ha : a < n) (hs : S a = (1, 2, [len])) (h0 : 0 ≤ i) (h1 : i < len) (hx : x = 0 ∨ x = 1) (hfl : fl = false) (k : WAt Δ Γ fl md d npc L (st) (n, S, up2 M a i.toNat (x)) cells slots) : WAt Δ Γ fl md d pc L (vI x :: vI i :: vR a :: st) (n, S, M) cells slots := by
  intro F hL hst hM ls H locs hl hP hS hz
  obtain ⟨-, hd, rfl, hq⟩ := lk_ok hi F.good
  have hi' : InR i := hst.tl.hd
  refine va_zast (cA := Δ.2.2.2 2) (n := len) (f := fun j => Int32.ofInt (M a j)) F.exec F.bytes F.kinds hP wL_D hS a 2 (by rw [wL_get ha, hs]; rfl) rfl (iI_vp hi' h0 h1) hd (fun H1 locs1 hP1 _ hS1 => ?_)
  rw [iI_bit hx] at hP1
  have e : (wL Δ.2.1 Δ.2.2.2 (n, S, M)).set a (Δ.2.1 + a, .inl (Δ.2.2.2 2, len, .inl (upd (fun j => Int32.ofInt (M a j)) (Int32.ofInt i).toNatClampNeg (Int32.ofInt (x))))) = wL Δ.2.1 Δ.2.2.2 (n, S, up2 M a i.toNat (x)) := by
    rw [← wL_set (S := S) (S' := S) (M := M) (M' := up2 M a i.toNat (x)) (i := a) (fun _ _ => rfl) (fun j hj => up2_off hj), hs, up2_row, iI_clamp hi', upd_up1]
    rfl
  rw [e] at hP1
  exact k F hL hst.tl.tl.tl (hM.up hst.hd) ls H1 locs1 hl hP1 hS1 (fun h => by rw [hfl] at h; cases h)
theorem w_aald {Δ : DT} {Γ : FT} {fl : Bool} {md : MD} {d pc pc0 npc k1 k2 k3 : Nat} {mn : MethodName} {L st : List PV} {n : Nat} {S : Nat → SHP} {M : MEM} {cells slots : Nat} {a t r : Nat} {ks : List Nat} {i : Int} (hi : lk md pc = some (pc0, Instr.aaload, npc, k1, k2, k3, mn)) (ha : a < n) (ht : t = 4 ∨ t = 5) (hs : S a = (3, t, ks)) (h0 : 0 ≤ i) (hr : ks[i.toNat]? = some (r + 1)) (k : WAt Δ Γ fl md d npc L (vR r :: st) (n, S, M) cells slots) : WAt Δ Γ fl md d pc L (vI i :: vR a :: st) (n, S, M) cells slots := by
  intro F hL hst hM ls H locs hl hP hS hz
  obtain ⟨-, hd, rfl, hq⟩ := lk_ok hi F.good
  have hi' : InR i := hst.hd
  have hlt : i.toNat < ks.length := (List.getElem?_eq_some_iff.mp hr).1
  have hval : va_rf (rcode Δ.2.1 (ks.getD (Int32.ofInt i).toNatClampNeg 0)) = rep Δ.2.1 (vR r) := by
    rw [iI_clamp hi', List.getD_eq_getElem?_getD, hr]
    rfl
  rcases ht with rfl | rfl
  · refine va_aldq (cA := Δ.2.2.2 4) (n := ks.length) (f := fun j => rcode Δ.2.1 (ks.getD j 0)) F.exec F.bytes F.kinds hP a 4 (by rw [wL_get ha, hs]; rfl) rfl (iI_vp hi' h0 (by omega)) hd ?_
    rw [hval]
    exact k F hL (hst.tl.tl.cons (show okV (vR r) from trivial)) hM ls H locs hl hP hS hz
  · refine va_aldq (cA := Δ.2.2.2 5) (n := ks.length) (f := fun j => rcode Δ.2.1 (ks.getD j 0)) F.exec F.bytes F.kinds hP a 5 (by rw [wL_get ha, hs]; rfl) rfl (iI_vp hi' h0 (by omega)) hd ?_
    rw [hval]
    exact k F hL (hst.tl.tl.cons (show okV (vR r) from trivial)) hM ls H locs hl hP hS hz
theorem w_alen {Δ : DT} {Γ : FT} {fl : Bool} {md : MD} {d pc pc0 npc k1 k2 k3 : Nat} {mn : MethodName} {L st : List PV} {n : Nat} {S : Nat → SHP} {M : MEM} {cells slots : Nat} {a t len : Nat} (hi : lk md pc = some (pc0, Instr.arraylength, npc, k1, k2, k3, mn)) (ha : a < n) (ht : t < 3) (hs : S a = (1, t, [len])) (hlen : len < 2147483648) (k : WAt Δ Γ fl md d npc L (vI (len : Int) :: st) (n, S, M) cells slots) : WAt Δ Γ fl md d pc L (vR a :: st) (n, S, M) cells slots := by
  intro F hL hst hM ls H locs hl hP hS hz
  obtain ⟨-, hd, rfl, hq⟩ := lk_ok hi F.good
  have k' := k F hL (hst.tl.cons (show InR (len : Int) by unfold InR; omega)) hM ls H locs hl hP hS hz
  match t, ht, hs with
  | 0, _, hs => exact va_alen (cA := Δ.2.2.2 0) (x := (len, .inl (fun j => Int32.ofInt (M a j)))) F.exec F.bytes F.kinds hP a 0 (by rw [wL_get ha, hs]; rfl) (ty := .int) rfl rfl hd k'
  | 1, _, hs => exact va_alen (cA := Δ.2.2.2 1) (x := (len, .inl (fun j => Int32.ofInt (M a j)))) F.exec F.bytes F.kinds hP a 1 (by rw [wL_get ha, hs]; rfl) (ty := .byte) rfl rfl hd k'
  | 2, _, hs => exact va_alen (cA := Δ.2.2.2 2) (x := (len, .inl (fun j => Int32.ofInt (M a j)))) F.exec F.bytes F.kinds hP a 2 (by rw [wL_get ha, hs]; rfl) (ty := .boolean) rfl rfl hd k'
theorem w_alenq {Δ : DT} {Γ : FT} {fl : Bool} {md : MD} {d pc pc0 npc k1 k2 k3 : Nat} {mn : MethodName} {L st : List PV} {n : Nat} {S : Nat → SHP} {M : MEM} {cells slots : Nat} {a t : Nat} {ks : List Nat} (hi : lk md pc = some (pc0, Instr.arraylength, npc, k1, k2, k3, mn)) (ha : a < n) (ht : t = 4 ∨ t = 5) (hs : S a = (3, t, ks)) (hlen : ks.length < 2147483648) (k : WAt Δ Γ fl md d npc L (vI (ks.length : Int) :: st) (n, S, M) cells slots) : WAt Δ Γ fl md d pc L (vR a :: st) (n, S, M) cells slots := by
  intro F hL hst hM ls H locs hl hP hS hz
  obtain ⟨-, hd, rfl, hq⟩ := lk_ok hi F.good
  have k' := k F hL (hst.tl.cons (show InR (ks.length : Int) by unfold InR; omega)) hM ls H locs hl hP hS hz
  rcases ht with rfl | rfl
  · exact va_alen (cA := Δ.2.2.2 4) (x := (ks.length, .inr (.inr (.inr (.inr (fun j => rcode Δ.2.1 (ks.getD j 0))))))) F.exec F.bytes F.kinds hP a 4 (by rw [wL_get ha, hs]; rfl) (ty := .object "DonkeysHour$Beast") rfl rfl hd k'
  · exact va_alen (cA := Δ.2.2.2 5) (x := (ks.length, .inr (.inr (.inr (.inr (fun j => rcode Δ.2.1 (ks.getD j 0))))))) F.exec F.bytes F.kinds hP a 5 (by rw [wL_get ha, hs]; rfl) (ty := .object "DonkeysHour$Scene") rfl rfl hd k'
