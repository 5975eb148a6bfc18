-- ===== making cells: rows for the constructors =====
def ovS (S : Nat → SHP) (a : Nat) (x : SHP) : Nat → SHP := fun i => if i = a then x else S i
theorem ovS_y {S : Nat → SHP} {a : Nat} {x : SHP} : ovS S a x a = x := if_pos rfl
theorem ovS_n {S : Nat → SHP} {a i : Nat} {x : SHP} (h : i ≠ a) : ovS S a x i = S i := if_neg h
theorem ovS_up {S : Nat → SHP} {a : Nat} {x y : SHP} : ovS (ovS S a x) a y = ovS S a y := by
  funext i
  unfold ovS
  split <;> rfl
theorem ovS_id {S : Nat → SHP} {a : Nat} {x : SHP} (h : S a = x) : ovS S a x = S := by
  funext i
  unfold ovS
  split
  · rename_i e; rw [e, h]
  · rfl
theorem fvs_01 {B : Nat} : ∀ (ks : List Nat) (i : Nat), (∀ c, c ∈ ks → c = 0 ∨ c = 1 ∨ c = 2) → fvs B (fun _ => 0) i ks = fvs 0 (fun _ => 0) i ks := by
  intro ks
  induction ks with
  | nil => intro i h; rfl
  | cons c ks ih =>
    intro i h
    unfold fvs
    rw [ih (i + 1) (fun c hc => h c (List.mem_cons_of_mem _ hc))]
    rcases h c List.mem_cons_self with rfl | rfl | rfl <;> rfl
section NEW
variable {Δ : DT} {Γ : FT} {md : MD} {d pc pc0 npc k1 k2 k3 : Nat} {mn : MethodName} {L st : List PV} {n : Nat} {S : Nat → SHP} {M : MEM} {cells slots : Nat}
theorem w_new {idx ci N z1 z2 : Nat} {T : u_T} {ks : List Nat} (hi : lk md pc = some (pc0, Instr.new idx, npc, k1, k2, k3, mn)) (hcl : vwCl[ci]? = some (mn.cls, T, N)) (ty : Nat → FieldType) (hty : ∀ k, k < N → parseFieldDescriptor (T k).2.2.1 = some (ty k)) (hz : (wis z1 (.instantiable mn.cls N) && wis z2 (.initialized mn.cls)) = true)
    (hfs : ∀ j, j < N → defaultValue (ty j) = vp_V (fvs 0 (fun _ => 0) 0 ks) j) (hk : ∀ c, c ∈ ks → c = 0 ∨ c = 1 ∨ c = 2) (hM0 : M n = fun _ => 0) (hcells : cells + 1 ≤ Γ.2.2.1.cells) (hslots : slots + N ≤ Γ.2.2.1.slots)
    (k : WAt Δ Γ true md d npc L (vR n :: st) (n + 1, ovS S n (0, ci, ks), M) (cells + 1) (slots + N)) : WAt Δ Γ true md d pc L st (n, S, M) cells slots := by
  intro F hL hst hM ls H locs hl hP hS hz'
  obtain ⟨-, hd, rfl, hq⟩ := lk_ok hi F.good
  rw [Bool.and_eq_true] at hz
  have hKn := F.kinds.1 ci _ hcl
  have hsz : H.size = Δ.2.1 + n := hz' rfl
  refine W.newcK F.exec F.bytes F.own (F.ts _ (wis_in hq)) (F.ts _ (wis_in hz.1)) (F.ts _ (wis_in hz.2)) rfl hd hcells hslots hKn.2.1 hsz fun H1 kC hkC e1 z1 o1 => ?_
  have hkk : ∀ (k : Nat) (x : Nat × va_E), (wL Δ.2.1 Δ.2.2.2 (n, S, M))[k]? = some x → H1[x.1]? = H[x.1]? := fun k x hx => o1 x.1 (by have := (hP k x hx).lt; omega)
  have hP1 : va_P Δ.2.2.1 vwCl (wL Δ.2.1 Δ.2.2.2 (n, S, M) ++ [(Δ.2.1 + n, sE Δ.2.1 Δ.2.2.2 (ovS S n (0, ci, ks) n) (M n))]) H1 := (hP.kept hkk).app (fun k x hx => by
    have hz : k < 1 := (List.getElem?_eq_some_iff.mp hx).1
    rw [show k = 0 by omega] at hx
    cases hx
    rw [ovS_y]
    refine ⟨_, hcl, (u_born ty F.ts (cl_in hcl) hKn hkC e1 hty).to (fun j hj => ?_)⟩
    rw [hfs j hj, hM0, ← fvs_01 (B := Δ.2.1) ks 0 hk])
  rw [wL_push (S' := ovS S n (0, ci, ks)) (M' := M) (fun j hj => ovS_n hj) (fun _ _ => rfl)] at hP1
  exact k F hL (hst.cons (show okV (vR n) from trivial)) hM ls H1 locs hl hP1 ⟨Nat.le_trans hS.1 (by omega), fun x h1 h2 => (o1 x (by have := hS.1; omega)).trans (hS.2.1 x h1 h2), hS.2.2⟩ (fun _ => by show H1.size = Δ.2.1 + (n + 1); omega)
theorem w_newa {at' : ArrayType} {t N z : Nat} (hi : lk md pc = some (pc0, Instr.newarray at', npc, k1, k2, k3, mn)) (ht : (t = 0 ∧ at' = .int) ∨ (t = 1 ∧ at' = .byte) ∨ (t = 2 ∧ at' = .boolean)) (hz : wis z (.arrayClass (newarray.typeOf at')) = true) (hN : N ≤ 100000) (hS0 : S n = (1, t, [N])) (hM0 : M n = fun _ => 0) (hcells : cells + 1 ≤ Γ.2.2.1.cells) (hslots : slots + N ≤ Γ.2.2.1.slots)
    (k : WAt Δ Γ true md d npc L (vR n :: st) (n + 1, S, M) (cells + 1) (slots + N)) : WAt Δ Γ true md d pc L (vI (N : Int) :: st) (n, S, M) cells slots := by
  intro F hL hst hM ls H locs hl hP hS hz'
  obtain ⟨-, hd, rfl, hq⟩ := lk_ok hi F.good
  have hsz : H.size = Δ.2.1 + n := hz' rfl
  have hNi : InR (N : Int) := hst.hd
  have hN1 : ¬ Int32.ofInt (N : Int) < 0 := fun q => by
    have := (iI_lt hNi (by unfold InR; omega)).mp (show Int32.ofInt (N : Int) < Int32.ofInt 0 from q)
    omega
  have hN2 : (Int32.ofInt (N : Int)).toNatClampNeg = N := by rw [iI_clamp hNi]; omega
  have hb : N * componentBytes (newarray.typeOf at') ≤ 536870912 := by
    rcases ht with ⟨-, rfl⟩ | ⟨-, rfl⟩ | ⟨-, rfl⟩
    · show N * 4 ≤ _; omega
    · show N * 1 ≤ _; omega
    · show N * 1 ≤ _; omega
  refine va_newaK F.exec F.bytes (F.ts _ (wis_in hz)) (g := F0 Γ.2.2.2.2.1 pc ls (.int (Int32.ofInt (N : Int)) :: st.map (rep Δ.2.1))) rfl hd rfl hN1 hN2 hb hcells hslots hsz fun H1 cA e1 z1 o1 hAr hNm => ?_
  have hcA : cA = Δ.2.2.2 t := by
    rcases ht with ⟨rfl, rfl⟩ | ⟨rfl, rfl⟩ | ⟨rfl, rfl⟩
    · exact Option.some.inj (hNm.symm.trans (F.kinds.2 0 (Δ.2.2.2 0, .int) rfl).2)
    · exact Option.some.inj (hNm.symm.trans (F.kinds.2 1 (Δ.2.2.2 1, .byte) rfl).2)
    · exact Option.some.inj (hNm.symm.trans (F.kinds.2 2 (Δ.2.2.2 2, .boolean) rfl).2)
  have hkk : ∀ (k : Nat) (x : Nat × va_E), (wL Δ.2.1 Δ.2.2.2 (n, S, M))[k]? = some x → H1[x.1]? = H[x.1]? := fun k x hx => o1 x.1 (by have := (hP k x hx).lt; omega)
  have hP1 : va_P Δ.2.2.1 vwCl (wL Δ.2.1 Δ.2.2.2 (n, S, M) ++ [(Δ.2.1 + n, sE Δ.2.1 Δ.2.2.2 (S n) (M n))]) H1 := (hP.kept hkk).app (fun k x hx => by
    have hz : k < 1 := (List.getElem?_eq_some_iff.mp hx).1
    rw [show k = 0 by omega] at hx
    cases hx
    rw [hS0, hM0]
    show H1[Δ.2.1 + n]? = some (vp_cell (Δ.2.2.2 t) (N, .inl (fun _ => Int32.ofInt 0)))
    rw [e1, hcA]
    rcases ht with ⟨-, rfl⟩ | ⟨-, rfl⟩ | ⟨-, rfl⟩ <;> rfl)
  rw [wL_push (S' := S) (M' := M) (fun _ _ => rfl) (fun _ _ => rfl)] at hP1
  exact k F hL (hst.tl.cons (show okV (vR n) from trivial)) hM ls H1 locs hl hP1 ⟨Nat.le_trans hS.1 (by omega), fun x h1 h2 => (o1 x (by have := hS.1; omega)).trans (hS.2.1 x h1 h2), hS.2.2⟩ (fun _ => by show H1.size = Δ.2.1 + (n + 1); omega)
theorem w_anew {idx t N : Nat} (hi : lk md pc = some (pc0, Instr.anewarray idx, npc, k1, k2, k3, mn)) (ht : (t = 4 ∧ mn.cls = "DonkeysHour$Beast") ∨ (t = 5 ∧ mn.cls = "DonkeysHour$Scene")) (hN : N ≤ 100000) (hcells : cells + 1 ≤ Γ.2.2.1.cells) (hslots : slots + N ≤ Γ.2.2.1.slots)
    (k : WAt Δ Γ true md d npc L (vR n :: st) (n + 1, ovS S n (3, t, List.replicate N 0), M) (cells + 1) (slots + N)) : WAt Δ Γ true md d pc L (vI (N : Int) :: st) (n, S, M) cells slots := by
  intro F hL hst hM ls H locs hl hP hS hz'
  obtain ⟨-, hd, rfl, hq⟩ := lk_ok hi F.good
  have hsz : H.size = Δ.2.1 + n := hz' rfl
  have hNi : InR (N : Int) := hst.hd
  have hN1 : ¬ Int32.ofInt (N : Int) < 0 := fun q => by
    have := (iI_lt hNi (by unfold InR; omega)).mp (show Int32.ofInt (N : Int) < Int32.ofInt 0 from q)
    omega
  have hN2 : (Int32.ofInt (N : Int)).toNatClampNeg = N := by rw [iI_clamp hNi]; omega
  have hover : (Cond.arrayOver (.object mn.cls)).before Γ.2.2.2.2.2.1 Γ.2.2.2.1 = true := by
    rcases ht with ⟨-, h⟩ | ⟨-, h⟩ <;> rw [h]
    · exact va_AO.use F.nest.2.1
    · exact va_AO.use F.nest.2.2
  refine W.anew F.exec F.bytes F.own (F.ts _ (wis_in hq)) hover (g := F0 Γ.2.2.2.2.1 pc ls (.int (Int32.ofInt (N : Int)) :: st.map (rep Δ.2.1))) rfl hd rfl hN1 (by rw [hN2]; omega) hcells (by rw [hN2]; exact hslots) fun cA kA comp f1 f2 f3 f4 => ?_
  rw [hN2, hsz]
  have hcA : cA = Δ.2.2.2 t := by
    rcases ht with ⟨rfl, h⟩ | ⟨rfl, h⟩
    · rw [h] at f1
      obtain ⟨kA', comp', -, -, -, g4⟩ := (F.kinds.2 4 (Δ.2.2.2 4, .object "DonkeysHour$Beast") rfl).2
      exact Option.some.inj (f1.symm.trans g4)
    · rw [h] at f1
      obtain ⟨kA', comp', -, -, -, g4⟩ := (F.kinds.2 5 (Δ.2.2.2 5, .object "DonkeysHour$Scene") rfl).2
      exact Option.some.inj (f1.symm.trans g4)
  generalize hH1 : H.push ({ cls := cA, slots := Array.replicate N .null, vm := .none } : Cell) = H1
  have z1 : H1.size = H.size + 1 := by rw [← hH1, Array.size_push]
  have e1 : H1[H.size]? = some (arrV cA N (fun _ => .null)) := by rw [← hH1, Array.getElem?_push_size, ← arrV_new]
  have o1 : ∀ q : Nat, q < H.size → H1[q]? = H[q]? := fun q hq => by rw [← hH1, Array.getElem?_push, if_neg (Nat.ne_of_lt hq)]
  have hkk : ∀ (k : Nat) (x : Nat × va_E), (wL Δ.2.1 Δ.2.2.2 (n, S, M))[k]? = some x → H1[x.1]? = H[x.1]? := fun k x hx => o1 x.1 ((hP k x hx).lt)
  have er : (fun j => rcode Δ.2.1 ((List.replicate N 0).getD j 0)) = fun _ : Nat => (none : Option Nat) := by
    funext j
    rw [List.getD_eq_getElem?_getD, List.getElem?_replicate]
    split <;> rfl
  have hP1 : va_P Δ.2.2.1 vwCl (wL Δ.2.1 Δ.2.2.2 (n, S, M) ++ [(Δ.2.1 + n, sE Δ.2.1 Δ.2.2.2 (ovS S n (3, t, List.replicate N 0) n) (M n))]) H1 := (hP.kept hkk).app (fun k x hx => by
    have hz : k < 1 := (List.getElem?_eq_some_iff.mp hx).1
    rw [show k = 0 by omega] at hx
    cases hx
    rw [ovS_y]
    show H1[Δ.2.1 + n]? = some (vp_cell (Δ.2.2.2 t) ((List.replicate N 0).length, .inr (.inr (.inr (.inr (fun j => rcode Δ.2.1 ((List.replicate N 0).getD j 0)))))))
    rw [er, vp_cell_q, List.length_replicate, ← hsz, e1, hcA]
    rfl)
  rw [wL_push (S' := ovS S n (3, t, List.replicate N 0)) (M' := M) (fun j hj => ovS_n hj) (fun _ _ => rfl)] at hP1
  exact k F hL (hst.tl.cons (show okV (vR n) from trivial)) hM ls H1 locs hl hP1 ⟨Nat.le_trans hS.1 (by omega), fun x h1 h2 => (o1 x (by have := hS.1; omega)).trans (hS.2.1 x h1 h2), hS.2.2⟩ (fun _ => by show H1.size = Δ.2.1 + (n + 1); omega)
/-- a reference into a field -/
theorem w_putR {idx a r c : Nat} {ks : List Nat} {fin : Bool} {ty : FieldType} {ds : String} (hi : lk md pc = some (pc0, Instr.putfield idx, npc, k1, k2, k3, mn)) (ha : a < n) (hc : ks[k2]? = some c) (hM0 : M a k2 = 0) (hT : fds k1 k2 = some (ds, fin)) (hfi : fin = false ∨ (md.1.name = "<init>" ∧ (vwCl[k1]?).map (fun q => (q.2.1 k2).1) = some md.1.cls)) (hds : parseFieldDescriptor ds = some ty) (hn : ∀ x, narrow ty (.ref x) = .ref x) (hfit : ∀ x, fits ty (.ref x) = true)
    (k : WAt Δ Γ true md d npc L st (n, ovS S a (0, k1, ks.set k2 (r + 3)), M) cells slots) : WAt Δ Γ true md d pc L (vR r :: vR a :: st) (n, ovS S a (0, k1, ks), M) cells slots := by
  have e : up2 M a k2 0 = M := by
    funext i j
    rw [up2_at]
    by_cases h : i = a ∧ j = k2
    · rw [if_pos h, h.1, h.2, hM0]
    · rw [if_neg h]
  rw [← e] at k
  exact w_put0 (v := vR r) (x := 0) (c' := r + 3) (S' := ovS S a (0, k1, ks.set k2 (r + 3))) hi ha ovS_y hc rfl (fun h _ => by rw [e]; exact h) hT hfi hds (hn _) (hfit _) ovS_y (fun j hj => by rw [ovS_n hj, ovS_n hj]) k
theorem w_oinit {idx z1 z2 : Nat} {x : Nat} (hi : lk md pc = some (pc0, Instr.invokespecial idx, npc, k1, 0, k3, Lib.objectInit)) (hz : (wis z1 (.instanceMethod Lib.objectInit) && wis z2 (.code Lib.objectInit ⟨#[0xb1]⟩ 1 none)) = true) (h4 : st.length ≤ 4) (k : WAt Δ Γ true md (d + 1) npc L st (n, S, M) cells slots) : WAt Δ Γ true md (d + 1) pc L (vR x :: st) (n, S, M) cells slots := by
  intro F hL hst hM ls H locs hl hP hS hz'
  obtain ⟨-, hd, rfl, hq⟩ := lk_ok hi F.good
  rw [Bool.and_eq_true] at hz
  have fr := F.fr
  have lo := F.lo
  refine W.objInit F.exec F.bytes F.own (F.ts _ (wis_in hq)) (F.ts _ (wis_in hz.1)) (F.ts _ (wis_in hz.2)) (g := F0 Γ.2.2.2.2.1 pc ls (.ref (Δ.2.1 + x) :: st.map (rep Δ.2.1))) rfl (hl.1.trans F.maxL.symm) rfl hd (by omega) ?_ (k F hL hst.tl hM ls H locs hl hP hS hz')
  have := lv_room (m := Γ.2.2.2.2.1) (pc := pc) (ls := ls) (rest := .ref (Δ.2.1 + x) :: st.map (rep Δ.2.1)) (cats (B := Δ.2.1) h4)
  omega
theorem w_aast {a t r i ci N : Nat} {E : String} {T : u_T} {ks ks' : List Nat} (hi : lk md pc = some (pc0, Instr.aastore, npc, k1, k2, k3, mn)) (ha : a < n) (hr : r < n) (hcl : vwCl[ci]? = some (E, T, N)) (htt : (tys Δ.2.2.2)[t + 4]? = some (Δ.2.2.2 (t + 4), .object E)) (hSr : S r = (0, ci, ks')) (hra : r ≠ a) (hil : i < ks.length) (hlen : ks.length < 2147483648)
    (k : WAt Δ Γ true md d npc L st (n, ovS S a (3, t + 4, ks.set i (r + 1)), M) cells slots) : WAt Δ Γ true md d pc L (vR r :: vI (i : Int) :: vR a :: st) (n, ovS S a (3, t + 4, ks), M) cells slots := by
  intro F hL hst hM ls H locs hl hP hS hz
  obtain ⟨-, hd, rfl, hq⟩ := lk_ok hi F.good
  have hi' : InR (i : Int) := by unfold InR; omega
  have ecl : (Int32.ofInt (i : Int)).toNatClampNeg = i := by rw [iI_clamp hi']; omega
  have vp : vp_in (Int32.ofInt (i : Int)) ks.length := iI_vp hi' (by omega) (by omega)
  have h0 : ¬ Int32.ofInt (i : Int) < 0 := fun q => vp (Or.inl q)
  have hv : (wL Δ.2.1 Δ.2.2.2 (n, ovS S a (3, t + 4, ks), M))[r]? = some (Δ.2.1 + r, .inr (ci, fvs Δ.2.1 (M r) 0 ks')) := by rw [wL_get hr, ovS_n hra, hSr]; rfl
  have haE : (wL Δ.2.1 Δ.2.2.2 (n, ovS S a (3, t + 4, ks), M))[a]? = some (Δ.2.1 + a, .inl (Δ.2.2.2 (t + 4), ks.length, .inr (.inr (.inr (.inr (fun j => rcode Δ.2.1 (ks.getD j 0))))))) := by rw [wL_get ha, ovS_y]; rfl
  obtain ⟨r', hr', cellV, g1, g2, g3, -⟩ := hP r _ hv
  have hcls := (F.kinds.1 ci _ hcl).2
  obtain ⟨kA, comp, q1, q2, q3, -⟩ := (F.kinds.2 (t + 4) _ htt).2
  have hcomp : comp = Δ.2.2.1.1 ci := Option.some.inj (q3.symm.trans hcls.1)
  subst hcomp
  obtain ⟨kC, hkC, -⟩ := hcls.2
  refine W.aast F.exec F.bytes (hP a _ haE) (fun q h => by cases h) (fun h => by cases h) q1 q2 rfl hkC ⟨h0, by show _ < (arrV _ _ _).slots.size; rw [arrV_size, ecl]; exact hil⟩ g1 (fun q h => by rw [g3] at h; cases h) (by rw [g2]; exact hkC) (by rw [g2]; exact va_assign hcls) rfl rfl hd fun H1 e z oq => ?_
  have hP1 : va_P Δ.2.2.1 vwCl ((wL Δ.2.1 Δ.2.2.2 (n, ovS S a (3, t + 4, ks), M)).set a (Δ.2.1 + a, sE Δ.2.1 Δ.2.2.2 (ovS S a (3, t + 4, ks.set i (r + 1)) a) (M a))) H1 := hP.set wL_D haE (by
    rw [ovS_y]
    show H1[Δ.2.1 + a]? = some (vp_cell _ ((ks.set i (r + 1)).length, .inr (.inr (.inr (.inr (fun j => rcode Δ.2.1 ((ks.set i (r + 1)).getD j 0)))))))
    rw [e]
    rw [vp_cell_q, vp_cell_q, arrV_store, List.length_set, ecl]
    congr 2
    funext j
    have eg : (ks.set i (r + 1)).getD j 0 = if j = i then r + 1 else ks.getD j 0 := by
      rw [List.getD_eq_getElem?_getD, List.getElem?_set]
      by_cases hj : j = i
      · rw [if_pos hj, if_pos hj.symm, if_pos hil]; rfl
      · rw [if_neg hj, if_neg (fun q => hj q.symm), List.getD_eq_getElem?_getD]
    rw [eg]
    by_cases hj : j = i
    · subst hj
      simp [updV, va_rf, rcode]
    · simp [updV, hj]) oq
  rw [wL_set (S := ovS S a (3, t + 4, ks)) (S' := ovS S a (3, t + 4, ks.set i (r + 1))) (M := M) (M' := M) (i := a) (fun j hj => by rw [ovS_n hj, ovS_n hj]) (fun _ _ => rfl)] at hP1
  exact k F hL hst.tl.tl.tl hM ls H1 _ hl hP1 (hS.put z oq (wL_D.2 a _ haE)) (fun h => z.trans (hz h))
/-- a constructor is called -/
theorem call_new {mdc : MD} {idx mc ms z1 z2 z4 a : Nat} {as : List PV} {w' : WD} (hk : k2 = 0 ∨ k2 = 1) (hi : lk md pc = some (pc0, Instr.invokespecial idx, npc, k1, k2, k3, mdc.1)) (hcal : Cal Δ true mdc d (vR a :: as) (n, S, M) none w' mc ms)
    (hv : (wis z1 (.code mdc.1 mdc.2.1 mdc.2.2.1 none) && wis z2 (.instanceMethod mdc.1) && wis z4 (.initialized mdc.1.cls) && decide (mdc.1.cls ≠ "java/lang/invoke/MethodHandle") && decide (mdc.1.cls ≠ "java/lang/invoke/VarHandle") && decide ((parseMethodDescriptor mdc.1.desc).map (fun d => d.parameters.length) = some as.length) && decide (mdc.2.2.1 ≤ 21)) = true) (hret : mdc.2.2.2.1 = none) (hname : mdc.1.name = "<init>")
    (hst4 : st.length ≤ 4) (hcr : cells + mc ≤ Γ.2.2.1.cells ∧ slots + ms ≤ Γ.2.2.1.slots)
    (k : WAt Δ Γ true md (d + 1) npc L st w' (cells + mc) (slots + ms)) : WAt Δ Γ true md (d + 1) pc L (as.reverse ++ vR a :: st) (n, S, M) cells slots := by
  intro F hL hst hM ls H locs hl hP hS hz
  obtain ⟨-, hd, rfl, hq⟩ := lk_ok hi F.good
  simp only [Bool.and_eq_true, decide_eq_true_eq] at hv
  obtain ⟨⟨⟨⟨⟨⟨v1, v2⟩, v4⟩, v5⟩, v6⟩, v7⟩, v8⟩ := hv
  have fr := F.fr
  have lo := F.lo
  have hml : Γ.2.2.2.2.2.2.2.2.1.maxLocals = md.2.2.1 := F.maxL
  have hcode : Cond.code mdc.1 mdc.2.1 mdc.2.2.1 mdc.2.2.2.1 ∈ tblG := by rw [hret]; exact wis_in v1
  have hw : wsOf mdc = Cond.code mdc.1 mdc.2.1 mdc.2.2.1 none :: tblG := by unfold wsOf; rw [hret]
  unfold Cal at hcal
  rw [hret] at hcal
  have run : va_Run Γ.1 Δ.1 Γ.2.1 Γ.2.2.1 Γ.2.2.2.1 Γ.2.2.2.2.1 Γ.2.2.2.2.2.1 Γ.2.2.2.2.2.2.1 Γ.2.2.2.2.2.2.2.1 Γ.2.2.2.2.2.2.2.2.1 H locs cells slots mc ms (F0 Γ.2.2.2.2.1 pc ls ((as.map (rep Δ.2.1)).reverse ++ .ref (Δ.2.1 + a) :: st.map (rep Δ.2.1))) (st.map (rep Δ.2.1)) (va_Qv (fun _ : Unit => True) (fun _ t => RepS Δ true w' t ∧ okM w'.2.2) (own Δ) (Value.ref (Δ.2.1 + a) :: as.map (rep Δ.2.1)).toArray) (own Δ) := by
    rcases hk with rfl | rfl
    · exact va_runI (As := as.map (rep Δ.2.1)) (rest := st.map (rep Δ.2.1)) ⟨F.exec, F.bytes, hml, F.own, F.ts⟩ hcal (cwI as.length F.ts (wsOf_good hcode) hw rfl rfl (F.ts _ (wis_in v4)) (F.ts _ (wis_in hq)) (F.ts _ (wis_in v2)) hname ⟨v5, v6, v7⟩ ⟨by show d + 1 ≤ _; exact fr, by show 8 + (mdc.2.2.1 + 11) + 40 * d ≤ _; omega⟩) ⟨RepS.blind, fun U hU hW => ⟨by simp [rep], by rw [hU]; exact hP, va_K.moved hW.alike F.kinds, by rw [hU]; have := F.base; have := hS.1; omega, fun h => by rw [hU]; exact hz h, F.nest.warm hW, by rw [hU]; exact F.text.go hW hS⟩⟩ rfl (by simp) hl.1 rfl (lv_room (cats hst4)) hd hcr
    · exact va_runIN (host := "DonkeysHour") (As := as.map (rep Δ.2.1)) (rest := st.map (rep Δ.2.1)) ⟨F.exec, F.bytes, hml, F.own, F.ts⟩ hcal ⟨va_cnB as.length F.ts (wsOf_good hcode) hw rfl rfl (F.nest.1 _ (of_decide_eq_true hq)) (F.ts _ (wis_in v4)) ⟨v5, v6, v7⟩ ⟨by show d + 1 ≤ _; exact fr, by show 8 + (mdc.2.2.1 + 11) + 40 * d ≤ _; omega⟩, hname, F.ts _ (wis_in v2)⟩ ⟨RepS.blind, fun U hU hW => ⟨by simp [rep], by rw [hU]; exact hP, va_K.moved hW.alike F.kinds, by rw [hU]; have := F.base; have := hS.1; omega, fun h => by rw [hU]; exact hz h, F.nest.warm hW, by rw [hU]; exact F.text.go hW hS⟩⟩ rfl (by simp) hl.1 rfl (lv_room (cats hst4)) hd hcr
  rw [map_rep_call]
  refine va_callv run hS (fun q _ h => h) (fun q h => h) (fun u t H1 locs1 ht hvm hw hB hz1 hk1 hS1 => ?_)
  obtain ⟨⟨hP1, hK1, hB1, hz2, -⟩, hok⟩ := hB
  rw [ht] at hP1 hz2
  exact k F hL (fun x hx => hst x (List.mem_append_right _ (List.mem_cons_of_mem _ hx))) hok ls H1 locs1 hl hP1 hS1 hz2
end NEW
