-- ===== the law's own rows (written by wip/whole/gen/law.py) =====
abbrev lawY : MethodName := ⟨"DonkeysHourLaw", "law", "([I)Z"⟩
abbrev lawT (T : List ENT) : MD := (lawY, code, 7, some .boolean, T)
def lawL (i : Int) : List PV := [vN, vR 0, vR 278, vR 307, vI i, vN, vN]
/-- the script: its cell, its ints -/
def SCR (Δ : DT) (Γ : FT) (n : Nat) (xs : Nat → Int32) : Prop := ∃ b : Nat, Γ.2.2.2.2.2.1 = #[Value.ref b] ∧ va_X b n xs Γ.2.2.2.1 Γ.2.2.2.1.heap ∧ b < Γ.2.2.2.1.heap.size ∧ ¬ own Δ b ∧ n ≤ 3072
theorem SCR.le {Δ : DT} {Γ : FT} {n : Nat} {xs : Nat → Int32} (h : SCR Δ Γ n xs) : n ≤ 3072 := by
  obtain ⟨b, -, -, -, -, h⟩ := h
  exact h
theorem w_re {Δ : DT} {Γ : FT} {fl : Bool} {T T' : List ENT} {d pc : Nat} {L st : List PV} {w : WD} {cells slots : Nat} (hg : T'.all (chkE (lawT T')) = true) (k : WAt Δ Γ fl (lawT T') d pc L st w cells slots) : WAt Δ Γ fl (lawT T) d pc L st w cells slots := by
  intro F hL hst hM ls H locs hl hP hS hz
  obtain ⟨f1, f2, f3, f4, f5, f6, f7, f8, f9, f10, f11, f12, -, f14, f15⟩ := F
  exact k ⟨f1, f2, f3, f4, f5, f6, f7, f8, f9, f10, f11, f12, hg, f14, f15⟩ hL hst hM ls H locs hl hP hS hz
theorem w_wid {Δ : DT} {Γ : FT} {fl : Bool} {md : MD} {d pc : Nat} {L st : List PV} {w : WD} {cells slots : Nat} (c s : Nat) (h1 : cells ≤ c) (h2 : slots ≤ s) (k : WAt Δ Γ fl md d pc L st w c s) : WAt Δ Γ fl md d pc L st w cells slots := by
  intro F hL hst hM ls H locs hl hP hS hz
  exact W.widen (k := c) (n := s) h1 h2 (k F hL hst hM ls H locs hl hP hS hz)
theorem w_fl {Δ : DT} {Γ : FT} {md : MD} {d pc : Nat} {L st : List PV} {w : WD} {cells slots : Nat} (k : WAt Δ Γ false md d pc L st w cells slots) : WAt Δ Γ true md d pc L st w cells slots := by
  intro F hL hst hM ls H locs hl hP hS hz
  exact k F hL hst hM ls H locs hl hP hS (fun h => by cases h)
section SCRIPT
variable {Δ : DT} {Γ : FT} {fl : Bool} {T : List ENT} {d pc p1 p2 p3 p4 npc q0 q1 q2 q3 q4 a0 a1 a2 a3 a4 b0 b1 b2 b3 b4 c0 c1 c2 c3 c4 : Nat} {m0 m1 m2 m3 m4 : MethodName} {L st : List PV} {w : WD} {cells slots n : Nat} {xs : Nat → Int32} {i : Int}
theorem scr_0 {ls : Array Slot} {b : Nat} {B : Nat} (hargs : Γ.2.2.2.2.2.1 = #[Value.ref b]) (hl : lvx (ext Γ (lawT T)) B ls 7 L) : ls[0]? = some (.val (.ref b)) := by
  refine hl.2.2 (0, .ref b) (List.mem_append_left _ ?_)
  have hc : (lawT T).1.cls = RL := rfl
  unfold ext
  rw [if_pos hc, hargs]
  exact List.mem_singleton.mpr rfl
theorem w_scr {c : Int} (hS : SCR Δ Γ n xs) (h0 : lk (lawT T) pc = some (q0, Instr.aload_n 0, p1, a0, b0, c0, m0)) (h1 : lk (lawT T) p1 = some (q1, Instr.iload 4, p2, a1, b1, c1, m1)) (h2 : lk (lawT T) p2 = some (q2, Instr.iconst c, p3, a2, b2, c2, m2)) (h3 : lk (lawT T) p3 = some (q3, Instr.iadd, p4, a3, b3, c3, m3)) (h4 : lk (lawT T) p4 = some (q4, Instr.iaload, npc, a4, b4, c4, m4))
    (hx : L[4]? = some (vI i)) (hi : 0 ≤ i ∧ 0 ≤ c ∧ i + c < n) (k : WAt Δ Γ fl (lawT T) d npc L (vI (xs (i + c).toNat).toInt :: st) w cells slots) : WAt Δ Γ fl (lawT T) d pc L st w cells slots := by
  intro F hL hst hM ls H locs hl hP hS' hz
  obtain ⟨b, hargs, hX, hb, hnb, hn⟩ := hS
  obtain ⟨-, d0, rfl, -⟩ := lk_ok h0 F.good
  obtain ⟨-, d1, rfl, -⟩ := lk_ok h1 F.good
  obtain ⟨-, d2, rfl, -⟩ := lk_ok h2 F.good
  obtain ⟨-, d3, rfl, -⟩ := lk_ok h3 F.good
  obtain ⟨-, d4, rfl, -⟩ := lk_ok h4 F.good
  have hr : InR (i + c) := by unfold InR; omega
  refine lv_aload_n F.exec F.bytes d0 rfl (scr_0 hargs hl) ?_
  refine lv_iload F.exec F.bytes d1 (hl.get hx (Or.inl ⟨i, rfl⟩)) ?_
  refine lv_iconst F.exec F.bytes d2 rfl ?_
  refine lv_iadd F.exec F.bytes d3 ?_
  show W _ _ _ _ _ _ _ _ _ _ _ _ _ _ _ (F0 _ _ _ (.int (Int32.ofInt i + Int32.ofInt c) :: _))
  rw [iI_add, wr_i (by omega) (by omega)]
  refine va_sld F.exec F.bytes hX hb hnb hS' (iI_vp hr (by omega) hi.2.2) d4 ?_
  rw [iI_clamp hr]
  have e := k F hL (hst.cons (show okV (vI (xs (i + c).toNat).toInt) from toInt_in _)) hM ls H locs hl hP hS' hz
  simp only [List.map_cons, rep, Int32.ofInt_toInt] at e
  exact e
theorem w_scr0 (hS : SCR Δ Γ n xs) (h0 : lk (lawT T) pc = some (q0, Instr.aload_n 0, p1, a0, b0, c0, m0)) (h1 : lk (lawT T) p1 = some (q1, Instr.iload 4, p2, a1, b1, c1, m1)) (h4 : lk (lawT T) p2 = some (q4, Instr.iaload, npc, a4, b4, c4, m4))
    (hx : L[4]? = some (vI i)) (hi : 0 ≤ i ∧ i < n) (k : WAt Δ Γ fl (lawT T) d npc L (vI (xs i.toNat).toInt :: st) w cells slots) : WAt Δ Γ fl (lawT T) d pc L st w cells slots := by
  intro F hL hst hM ls H locs hl hP hS' hz
  obtain ⟨b, hargs, hX, hb, hnb, hn⟩ := hS
  obtain ⟨-, d0, rfl, -⟩ := lk_ok h0 F.good
  obtain ⟨-, d1, rfl, -⟩ := lk_ok h1 F.good
  obtain ⟨-, d4, rfl, -⟩ := lk_ok h4 F.good
  have hr : InR i := by unfold InR; omega
  refine lv_aload_n F.exec F.bytes d0 rfl (scr_0 hargs hl) ?_
  refine lv_iload F.exec F.bytes d1 (hl.get hx (Or.inl ⟨i, rfl⟩)) ?_
  refine va_sld F.exec F.bytes hX hb hnb hS' (i := Int32.ofInt i) (iI_vp hr (by omega) hi.2) d4 ?_
  rw [iI_clamp hr]
  have e := k F hL (hst.cons (show okV (vI (xs i.toNat).toInt) from toInt_in _)) hM ls H locs hl hP hS' hz
  simp only [List.map_cons, rep, Int32.ofInt_toInt] at e
  exact e
theorem w_slen (hS : SCR Δ Γ n xs) (h0 : lk (lawT T) pc = some (q0, Instr.aload_n 0, p1, a0, b0, c0, m0)) (h1 : lk (lawT T) p1 = some (q1, Instr.arraylength, npc, a1, b1, c1, m1))
    (k : WAt Δ Γ fl (lawT T) d npc L (vI (n : Int) :: st) w cells slots) : WAt Δ Γ fl (lawT T) d pc L st w cells slots := by
  intro F hL hst hM ls H locs hl hP hS' hz
  obtain ⟨b, hargs, hX, hb, hnb, hn⟩ := hS
  obtain ⟨-, d0, rfl, -⟩ := lk_ok h0 F.good
  obtain ⟨-, d1, rfl, -⟩ := lk_ok h1 F.good
  refine lv_aload_n F.exec F.bytes d0 rfl (scr_0 hargs hl) ?_
  exact va_slen F.exec F.bytes hX hb hnb hS' d1 (k F hL (hst.cons (show InR (n : Int) by unfold InR; omega)) hM ls H locs hl hP hS' hz)
end SCRIPT
/-- a call from the law -/
theorem l_call {Δ : DT} {Γ : FT} {md mdc : MD} {d pc pc0 npc k1 k2 k3 : Nat} {L st as : List PV} {n : Nat} {S : Nat → SHP} {M M' : MEM} {cells slots idx a z1 z2 z3 z4 ci : Nat} {r : Int} {ks : List Nat} {T : u_T} {N : Nat} (hi : lk md pc = some (pc0, Instr.invokevirtual idx, npc, k1, k2, k3, mdc.1))
    (hcal : okVs (vR a :: as) → okM M → Cal Δ false mdc d (vR a :: as) (n, S, M) (some r) (n, S, M') 0 0) (hv : calleeV mdc z1 z2 z3 z4 as.length = true) (ha : a < n) (hs : S a = (0, ci, ks)) (hci : vwCl[ci]? = some (mdc.1.cls, T, N)) (hst4 : st.length ≤ 4) (hcr : cells ≤ Γ.2.2.1.cells ∧ slots ≤ Γ.2.2.1.slots)
    (k : WAt Δ Γ false md (d + 1) npc L (vI r :: st) (n, S, M') cells slots) : WAt Δ Γ false md (d + 1) pc L (as.reverse ++ vR a :: st) (n, S, M) cells slots := by
  intro F hL hst hM
  refine call_i hi (hcal (fun x hx => hst x ?_) hM) hv ha hs hci hst4 hcr (fun _ _ => k) F hL hst hM
  rcases List.mem_cons.mp hx with rfl | hx
  · exact List.mem_append_right _ List.mem_cons_self
  · exact List.mem_append_left _ (List.mem_reverse.mpr hx)
theorem l_callw {Δ : DT} {Γ : FT} {md mdc : MD} {d pc pc0 npc k1 k2 k3 : Nat} {hh : List (Nat × Nat × Nat × Nat)} {L st as : List PV} {M M' : MEM} {r : Int} {cells slots idx z1 z2 z4 : Nat} (hk2 : k2 = 0) (hi : lk md pc = some (pc0, Instr.invokestatic idx, npc, k1, k2, k3, mdc.1)) (hcal : okVs as → okM M → CalW Δ mdc hh d as M r M') (hv : calleeW mdc hh z1 z2 z4 as.length = true)
    (hst4 : st.length ≤ 4) (hcr : cells + 1 ≤ Γ.2.2.1.cells ∧ slots + 6 ≤ Γ.2.2.1.slots) (hX : XW Δ.2.1 Γ.2.2.2.1 Γ.2.2.2.1.heap)
    (k : WAt Δ Γ false md (d + 1) npc L (vI r :: st) (NG, S0, M') (cells + 1) (slots + 6)) : WAt Δ Γ false md (d + 1) pc L (as.reverse ++ st) (NG, S0, M) cells slots := by
  intro F hL hst hM
  exact call_w hk2 hi (hcal (fun x hx => hst x (List.mem_append_left _ (List.mem_reverse.mpr hx))) hM) hv hst4 hcr hX (fun _ => k) F hL hst hM
theorem Rel.wide {B B' : Int} {M : MEM} (h : Rel B M) (hb : B ≤ B') : Rel B' M := by
  obtain ⟨h1, h2, h3, h4, h5, h6, h7, h8, h9, h10, h11, h12⟩ := h
  refine ⟨h1, h2, h3, snS.mono hb h4, h5, h6, h7, ?_, ?_, h10, h11, h12⟩
  · obtain ⟨g1, g2, g3, g4, g5, g6⟩ := h8
    exact ⟨g1, g2, g3, g4, g5, fun i hi => ⟨(g6 i hi).1, snS.mono hb (g6 i hi).2.1, (g6 i hi).2.2⟩⟩
  · exact fun i hi => ⟨(h9 i hi).1, (h9 i hi).2.1, fun q => ⟨((h9 i hi).2.2 q).1, ((h9 i hi).2.2 q).2.1, ((h9 i hi).2.2 q).2.2.1, fun z => ⟨snS.mono hb (((h9 i hi).2.2 q).2.2.2 z).1, (((h9 i hi).2.2 q).2.2.2 z).2⟩⟩⟩
theorem bind_some {o : Option Int} {M : MEM} {p : Int × MEM} (h : (o.bind fun r => some (r, M)) = some p) : ∃ r, o = some r ∧ p = (r, M) := by
  cases o with
  | none => cases h
  | some r => exact ⟨r, rfl, (Option.some.inj h).symm⟩
/-- one of the law's cases: from its first instruction to the loop's end -/
def LCASE (Δ : DT) (Γ : FT) (n : Nat) (xs : Nat → Int32) (pc : Nat) : Prop := ∀ (i B : Int) (M : MEM) (c s : Nat), 0 ≤ i → i + 6 ≤ n → Rel B M → B ≤ 90000000 → c + 1 ≤ Γ.2.2.1.cells → s + 6 ≤ Γ.2.2.1.slots →
  (∀ M', Rel (B + 12000) M' → WAt Δ Γ false (lawT []) 1001 2197 (lawL i) [] (NG, S0, M') (c + 1) (s + 6)) → WAt Δ Γ false (lawT []) 1001 pc (lawL i) [] (NG, S0, M) c s
