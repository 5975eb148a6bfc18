-- ===== methods as data, the judgement WAt =====
/-- a row of a method's table: pc, instruction, the next pc, three numbers, a name -/
abbrev ENT := Nat × Instr × Nat × Nat × Nat × Nat × MethodName
/-- a method: its name, bytes, locals, return type, table -/
abbrev MD := MethodName × ByteArray × Nat × Option FieldType × List ENT
def wch (k : Nat) : List Cond := match k with
  | 0 => k2_sels lw_privs
  | 1 => tables_1_1
  | 2 => tables_1_2
  | 3 => tables_1_3
  | 4 => tables_1_4
  | 5 => tables_1_5
  | 6 => tables_1_6
  | 7 => tables_1_7
  | 8 => tables_1_8
  | _ => []
theorem wch_in : ∀ k, ∀ w ∈ wch k, w ∈ lw_tbl := by
  intro k w h
  have e : lw_tbl = wch 0 ++ (wch 1 ++ (wch 2 ++ (wch 3 ++ (wch 4 ++ (wch 5 ++ (wch 6 ++ (wch 7 ++ wch 8))))))) := rfl
  rw [e]
  simp only [List.mem_append]
  match k, h with
  | 0, h => exact Or.inl h
  | 1, h => exact Or.inr (Or.inl h)
  | 2, h => exact Or.inr (Or.inr (Or.inl h))
  | 3, h => exact Or.inr (Or.inr (Or.inr (Or.inl h)))
  | 4, h => exact Or.inr (Or.inr (Or.inr (Or.inr (Or.inl h))))
  | 5, h => exact Or.inr (Or.inr (Or.inr (Or.inr (Or.inr (Or.inl h)))))
  | 6, h => exact Or.inr (Or.inr (Or.inr (Or.inr (Or.inr (Or.inr (Or.inl h))))))
  | 7, h => exact Or.inr (Or.inr (Or.inr (Or.inr (Or.inr (Or.inr (Or.inr (Or.inl h)))))))
  | 8, h => exact Or.inr (Or.inr (Or.inr (Or.inr (Or.inr (Or.inr (Or.inr (Or.inr h)))))))
  | k + 9, h => exact absurd h List.not_mem_nil
def wat (z : Nat) : Option Cond := (wch (z / 4096))[z % 4096]?
def tblG : List Cond := lw_tbl.filter goodWord
theorem tblG_sub : ∀ w ∈ tblG, w ∈ lw_tbl := fun _ h => (List.mem_filter.mp h).1
theorem tblG_good : GoodIn tblG tblG := fun w h => ⟨h, good_of_word (List.mem_filter.mp h).2⟩
/-- the word at place z is w, and it keeps -/
def wis (z : Nat) (w : Cond) : Bool := decide (wat z = some w) && goodWord w
theorem wis_in {z : Nat} {w : Cond} (h : wis z w = true) : w ∈ tblG := by
  unfold wis at h
  rw [Bool.and_eq_true, decide_eq_true_eq] at h
  exact List.mem_filter.mpr ⟨wch_in _ w (List.mem_of_getElem? h.1), h.2⟩
def ilen (i : Instr) (x : Nat) : Nat := match i with
  | .iload _ | .aload _ | .istore _ | .astore _ | .bipush _ | .newarray _ | .ldc _ => 2
  | .sipush _ | .getfield _ | .putfield _ | .invokevirtual _ | .invokestatic _ | .invokespecial _ | .new _ | .anewarray _ | .iinc _ _ | .goto _ | .ifCond _ _ | .if_icmp _ _ | .ifnonnull _ | .ldc_w _ => 3
  | .tableswitch _ _ _ _ | .lookupswitch _ _ => x
  | _ => 1
-- ===== links to nest mates' constructors: no words that keep; carried beside =====
def nestL : List (String × Nat × MethodName) := [("DonkeysHour", 11, ⟨"DonkeysHour$Text", "<init>", "()V"⟩), ("DonkeysHour$Scene", 19, ⟨"DonkeysHour$Carrots", "<init>", "()V"⟩), ("DonkeysHour$Scene", 24, ⟨"DonkeysHour$Beast", "<init>", "()V"⟩), ("DonkeysHour", 25, ⟨"DonkeysHour$Flies", "<init>", "()V"⟩), ("DonkeysHour", 32, ⟨"DonkeysHour$Rule", "<init>", "()V"⟩), ("DonkeysHour", 42, ⟨"DonkeysHour$Acts", "<init>", "()V"⟩), ("DonkeysHour", 49, ⟨"DonkeysHour$Contracts", "<init>", "()V"⟩), ("DonkeysHour", 56, ⟨"DonkeysHour$Rumours", "<init>", "()V"⟩), ("DonkeysHour$Future", 11, ⟨"DonkeysHour$Carrots", "<init>", "()V"⟩), ("DonkeysHour$Future", 20, ⟨"DonkeysHour$Beast", "<init>", "()V"⟩), ("DonkeysHour$Contracts", 38, ⟨"DonkeysHour", "timesDue", "(II)I"⟩)]
def NW (U : State) : Prop := (∀ q ∈ nestL, va_Nw (.methodLinkNest q.1 q.2.1 q.2.2 "DonkeysHour") U) ∧ va_AO "DonkeysHour$Beast" U ∧ va_AO "DonkeysHour$Scene" U
theorem NW.warm {s U : State} (hW : s.WarmedH U.vm) (h : NW s) : NW U := ⟨fun q hq => va_Nw.warmM hW (h.1 q hq), va_AO.moved hW.alike h.2.1, va_AO.moved hW.alike h.2.2⟩
theorem NW.same {s U : State} (hW : s.vm = U.vm) (h : NW s) : NW U := ⟨fun q hq => va_Nw.same rfl hW (h.1 q hq), va_AO.moved (by rw [hW]; exact Vm.Alike.refl U.vm) h.2.1, va_AO.moved (by rw [hW]; exact Vm.Alike.refl U.vm) h.2.2⟩
/-- THE RULE's letters, a string of the machine's; the machine's strings are of bytes -/
def TW (B : Nat) (U : State) (H : Heap) : Prop := ∃ a v : Nat, vk_R "DonkeysHour$Rule" 73 "hptfcmki" a U ∧ vk_S 1 [8] [[104, 112, 116, 102, 99, 109, 107, 105]] (fun _ => a) (fun _ => v) (fun q => B ≤ q) U H ∧ va_Z "java/lang/String" "COMPACT_STRINGS" "Z" (.int 1) (fun q => B ≤ q) U H
theorem TW.go {B : Nat} {s U : State} {H H1 : Heap} {locs : List Loc} (hW : s.WarmedH U.vm) (hS : va_S (fun q => B ≤ q) H H1 locs) (h : TW B s H) : TW B U H1 := by
  obtain ⟨a, v, h1, h2, h3⟩ := h
  exact ⟨a, v, vk_R.warm hW h1, (vk_S.moved hW.alike h2).kept hS.2.1, (va_Z.moved hW.alike h3).kept hS.2.1⟩
theorem TW.same {B : Nat} {s U : State} {H : Heap} (hW : U.vm = s.vm) (hA : s.vm.Alike U.vm) (h : TW B s H) : TW B U H := by
  obtain ⟨a, v, h1, h2, h3⟩ := h
  exact ⟨a, v, vk_R.same hW h1, vk_S.moved hA h2, va_Z.moved hA h3⟩
def chkI (own : String) (i : Instr) (pc x y z : Nat) (mn : MethodName) : Bool := match i with
  | .getfield idx | .putfield idx => match vwCl[x]? with
    | some q => decide (y < q.2.2) && wis z (.fieldLink own idx (q.2.1 y).1 (q.2.1 y).2.1 (q.2.1 y).2.2.1)
    | none => false
  | .invokevirtual idx => wis z (.methodLink own idx mn)
  | .invokestatic idx | .invokespecial idx => if y = 0 then wis z (.methodLink own idx mn) else decide ((own, idx, mn) ∈ nestL)
  | .goto off | .ifCond _ off | .if_icmp _ off | .ifnonnull off => decide ((pc : Int) + off = (x : Int))
  | .new idx | .anewarray idx => wis z (.classLink own idx mn.cls)
  | .ldc idx | .ldc_w idx => wis z (.constant own idx (Int32.ofInt ((x : Int) - (y : Int))))
  | .istore_n j | .astore_n j => decide ((j : Nat) ≠ 0) || decide (own ≠ RL)
  | .istore j | .astore j | .iinc j _ => decide (j ≠ 0) || decide (own ≠ RL)
  | _ => true
def chkE (md : MD) (e : ENT) : Bool := decide (decode md.2.1 e.1 = .ok (e.2.1, ilen e.2.1 e.2.2.2.1)) && decide (e.2.2.1 = e.1 + ilen e.2.1 e.2.2.2.1) && chkI md.1.cls e.2.1 e.1 e.2.2.2.1 e.2.2.2.2.1 e.2.2.2.2.2.1 e.2.2.2.2.2.2
def lkT (pc : Nat) : List ENT → Option ENT
  | [] => none
  | e :: r => match Nat.beq e.1 pc with
    | true => some e
    | false => lkT pc r
def lk (md : MD) (pc : Nat) : Option ENT := lkT pc md.2.2.2.2
theorem lkT_ok {pc : Nat} {e : ENT} : ∀ {l : List ENT}, lkT pc l = some e → e ∈ l ∧ e.1 = pc := by
  intro l
  induction l with
  | nil => intro h; cases h
  | cons a l ih =>
    intro h
    unfold lkT at h
    split at h
    next hb =>
      cases h
      exact ⟨List.mem_cons_self, Nat.eq_of_beq_eq_true hb⟩
    next => exact ⟨List.mem_cons_of_mem _ (ih h).1, (ih h).2⟩
theorem lk_ok {md : MD} {pc pc0 npc x y z : Nat} {i : Instr} {mn : MethodName} (h : lk md pc = some (pc0, i, npc, x, y, z, mn)) (hg : md.2.2.2.2.all (chkE md) = true) :
    pc0 = pc ∧ decode md.2.1 pc = .ok (i, ilen i x) ∧ npc = pc + ilen i x ∧ chkI md.1.cls i pc x y z mn = true := by
  obtain ⟨h1, h2⟩ := lkT_ok h
  have h2 : pc0 = pc := h2
  subst h2
  have h3 := List.all_eq_true.mp hg _ h1
  unfold chkE at h3
  simp only [Bool.and_eq_true, decide_eq_true_eq] at h3
  exact ⟨rfl, h3.1.1, h3.1.2, h3.2⟩
-- ===== the launch's part, the frame's part =====
/-- launch, the first of the own addresses, classes and slots, the arrays' classes -/
abbrev DT := Launch × Nat × va_G × (Nat → ClassId)
abbrev FT := Program × Env × Room × State × MethodId × Array Value × List Frame × Method × Code × (State → Prop)
def tys (cA : Nat → ClassId) : List (ClassId × FieldType) := [(cA 0, .int), (cA 1, .byte), (cA 2, .boolean), (cA 3, .long), (cA 4, .object "DonkeysHour$Beast"), (cA 5, .object "DonkeysHour$Scene")]
def own (Δ : DT) : Nat → Prop := fun q => Δ.2.1 ≤ q
def FOk (Δ : DT) (Γ : FT) (md : MD) (d : Nat) : Prop :=
  Γ.1.tables.exec = Jvm.exec ∧ Γ.2.2.2.2.2.2.2.2.1.code = md.2.1 ∧ Γ.2.2.2.2.2.2.2.2.1.maxLocals = md.2.2.1 ∧ Γ.2.2.2.2.2.2.2.1.sig.returnType = md.2.2.2.1 ∧ Γ.2.2.2.2.2.2.2.1.locks = false ∧ Γ.2.2.2.2.2.2.2.1.name = md.1.name ∧
  Γ.2.2.2.1.vm.findClass md.1.cls = some Γ.2.2.2.2.1.cls ∧ (∀ w ∈ tblG, w.before Γ.2.2.2.2.2.1 Γ.2.2.2.1 = true) ∧ va_K Δ.2.2.1 vwCl (tys Δ.2.2.2) Γ.2.2.2.1 ∧ Δ.2.1 ≤ Γ.2.2.2.1.heap.size ∧ d ≤ Γ.2.2.1.frames ∧ 40 * d ≤ Γ.2.2.1.locals ∧ md.2.2.2.2.all (chkE md) = true ∧ NW Γ.2.2.2.1 ∧ TW Δ.2.1 Γ.2.2.2.1 Γ.2.2.2.1.heap
theorem FOk.exec {Δ : DT} {Γ : FT} {md : MD} {d : Nat} (F : FOk Δ Γ md d) : Γ.1.tables.exec = Jvm.exec := F.1
theorem FOk.bytes {Δ : DT} {Γ : FT} {md : MD} {d : Nat} (F : FOk Δ Γ md d) : Γ.2.2.2.2.2.2.2.2.1.code = md.2.1 := F.2.1
theorem FOk.maxL {Δ : DT} {Γ : FT} {md : MD} {d : Nat} (F : FOk Δ Γ md d) : Γ.2.2.2.2.2.2.2.2.1.maxLocals = md.2.2.1 := F.2.2.1
theorem FOk.ret {Δ : DT} {Γ : FT} {md : MD} {d : Nat} (F : FOk Δ Γ md d) : Γ.2.2.2.2.2.2.2.1.sig.returnType = md.2.2.2.1 := F.2.2.2.1
theorem FOk.locks {Δ : DT} {Γ : FT} {md : MD} {d : Nat} (F : FOk Δ Γ md d) : Γ.2.2.2.2.2.2.2.1.locks = false := F.2.2.2.2.1
theorem FOk.name {Δ : DT} {Γ : FT} {md : MD} {d : Nat} (F : FOk Δ Γ md d) : Γ.2.2.2.2.2.2.2.1.name = md.1.name := F.2.2.2.2.2.1
theorem FOk.own {Δ : DT} {Γ : FT} {md : MD} {d : Nat} (F : FOk Δ Γ md d) : Γ.2.2.2.1.vm.findClass md.1.cls = some Γ.2.2.2.2.1.cls := F.2.2.2.2.2.2.1
theorem FOk.ts {Δ : DT} {Γ : FT} {md : MD} {d : Nat} (F : FOk Δ Γ md d) : ∀ w ∈ tblG, w.before Γ.2.2.2.2.2.1 Γ.2.2.2.1 = true := F.2.2.2.2.2.2.2.1
theorem FOk.kinds {Δ : DT} {Γ : FT} {md : MD} {d : Nat} (F : FOk Δ Γ md d) : va_K Δ.2.2.1 vwCl (tys Δ.2.2.2) Γ.2.2.2.1 := F.2.2.2.2.2.2.2.2.1
theorem FOk.base {Δ : DT} {Γ : FT} {md : MD} {d : Nat} (F : FOk Δ Γ md d) : Δ.2.1 ≤ Γ.2.2.2.1.heap.size := F.2.2.2.2.2.2.2.2.2.1
theorem FOk.fr {Δ : DT} {Γ : FT} {md : MD} {d : Nat} (F : FOk Δ Γ md d) : d ≤ Γ.2.2.1.frames := F.2.2.2.2.2.2.2.2.2.2.1
theorem FOk.lo {Δ : DT} {Γ : FT} {md : MD} {d : Nat} (F : FOk Δ Γ md d) : 40 * d ≤ Γ.2.2.1.locals := F.2.2.2.2.2.2.2.2.2.2.2.1
theorem FOk.good {Δ : DT} {Γ : FT} {md : MD} {d : Nat} (F : FOk Δ Γ md d) : md.2.2.2.2.all (chkE md) = true := F.2.2.2.2.2.2.2.2.2.2.2.2.1
theorem FOk.nest {Δ : DT} {Γ : FT} {md : MD} {d : Nat} (F : FOk Δ Γ md d) : NW Γ.2.2.2.1 := F.2.2.2.2.2.2.2.2.2.2.2.2.2.1
theorem FOk.text {Δ : DT} {Γ : FT} {md : MD} {d : Nat} (F : FOk Δ Γ md d) : TW Δ.2.1 Γ.2.2.2.1 Γ.2.2.2.1.heap := F.2.2.2.2.2.2.2.2.2.2.2.2.2.2
/-- the locals that are known: no long among them; vN: nothing is known -/
def lvlA (B : Nat) : Nat → List PV → List (Nat × Value)
  | _, [] => []
  | i, v :: vs => match v with
    | .inl n => (i, .int (Int32.ofInt n)) :: lvlA B (i + 1) vs
    | .inr (.inl (some a)) => (i, .ref (B + a)) :: lvlA B (i + 1) vs
    | .inr (.inl none) => lvlA B (i + 1) vs
    | .inr (.inr _) => lvlA B (i + 1) vs
theorem lvlA_mem (B : Nat) : ∀ (L : List PV) (i : Nat) (q : Nat × Value), q ∈ lvlA B i L ↔ ∃ (j : Nat) (v : PV), L[j]? = some v ∧ ((∃ n, v = vI n) ∨ ∃ a, v = vR a) ∧ q = (i + j, rep B v) := by
  intro L
  induction L with
  | nil => intro i q; simp [lvlA]
  | cons v0 vs ih =>
    intro i q
    have tail : (∃ (j : Nat) (v : PV), vs[j]? = some v ∧ ((∃ n, v = vI n) ∨ ∃ a, v = vR a) ∧ q = (i + 1 + j, rep B v)) ↔ ∃ (j : Nat) (v : PV), 0 < j ∧ (v0 :: vs)[j]? = some v ∧ ((∃ n, v = vI n) ∨ ∃ a, v = vR a) ∧ q = (i + j, rep B v) := by
      constructor
      · rintro ⟨j, v, h1, h2, h3⟩
        exact ⟨j + 1, v, by omega, by simpa using h1, h2, by rw [h3, show i + 1 + j = i + (j + 1) by omega]⟩
      · rintro ⟨j, v, h0, h1, h2, h3⟩
        obtain ⟨k, rfl⟩ : ∃ k, j = k + 1 := ⟨j - 1, by omega⟩
        exact ⟨k, v, by simpa using h1, h2, by rw [h3, show i + 1 + k = i + (k + 1) by omega]⟩
    have split0 : (∃ (j : Nat) (v : PV), (v0 :: vs)[j]? = some v ∧ ((∃ n, v = vI n) ∨ ∃ a, v = vR a) ∧ q = (i + j, rep B v)) ↔ ((((∃ n, v0 = vI n) ∨ ∃ a, v0 = vR a) ∧ q = (i, rep B v0)) ∨ ∃ (j : Nat) (v : PV), 0 < j ∧ (v0 :: vs)[j]? = some v ∧ ((∃ n, v = vI n) ∨ ∃ a, v = vR a) ∧ q = (i + j, rep B v)) := by
      constructor
      · rintro ⟨j, v, h1, h2, h3⟩
        rcases Nat.eq_zero_or_pos j with rfl | hj
        · have e : v0 = v := by simpa using h1
          subst e
          exact Or.inl ⟨h2, h3⟩
        · exact Or.inr ⟨j, v, hj, h1, h2, h3⟩
      · rintro (⟨h1, h2⟩ | ⟨j, v, _, h1, h2, h3⟩)
        · exact ⟨0, v0, rfl, h1, h2⟩
        · exact ⟨j, v, h1, h2, h3⟩
    rw [split0, ← tail, ← ih (i + 1) q]
    rcases v0 with n | (_ | a) | n
    · simp [lvlA, rep]
    · simp [lvlA]
    · simp [lvlA, rep]
    · simp [lvlA]
def lvr (B : Nat) (ls : Array Slot) (nL : Nat) (L : List PV) : Prop := lv_has ls nL (lvlA B 0 L)
theorem lvr.get {B : Nat} {ls : Array Slot} {nL : Nat} {L : List PV} (h : lvr B ls nL L) {i : Nat} {v : PV} (hi : L[i]? = some v) (hv : (∃ n, v = vI n) ∨ ∃ a, v = vR a) : ls[i]? = some (.val (rep B v)) :=
  h.2.2 (i, rep B v) ((lvlA_mem B L 0 _).mpr ⟨i, v, hi, hv, by simp⟩)
theorem lvr.set {B : Nat} {ls' : Array Slot} {nL : Nat} {L : List PV} {i : Nat} {v : PV} {x : Value} (hx : ((∃ n, v = vI n) ∨ ∃ a, v = vR a) → x = rep B v) (h : lv_has ls' nL ((i, x) :: (lvlA B 0 L).filter (fun q => !(q.1 == i) && !(q.1 + 1 == i && q.2.category == 2)))) : lvr B ls' nL (L.set i v) := by
  refine ⟨h.1, h.2.1, fun q hq => h.2.2 q ?_⟩
  obtain ⟨j, u, h1, h2, rfl⟩ := (lvlA_mem B _ 0 _).mp hq
  rw [Nat.zero_add]
  rw [List.getElem?_set] at h1
  by_cases hij : i = j
  · subst hij
    rw [if_pos rfl] at h1
    split at h1
    next => cases h1; rw [← hx h2]; exact List.mem_cons_self
    next => cases h1
  · rw [if_neg hij] at h1
    refine List.mem_cons_of_mem _ (List.mem_filter.mpr ⟨(lvlA_mem B L 0 _).mpr ⟨j, u, h1, h2, by simp⟩, ?_⟩)
    have hc : (rep B u).category = 1 := by
      rcases h2 with ⟨n, rfl⟩ | ⟨a, rfl⟩ <;> rfl
    simp [hc, Ne.symm hij]
theorem lvr.set_eq {B : Nat} {ls : Array Slot} {nL : Nat} {L L' : List PV} (h : lvr B ls nL L) (e : L = L') : lvr B ls nL L' := e ▸ h
/-- in the law's own class: its first argument, a reference, still in local 0 -/
def ext (Γ : FT) (md : MD) : List (Nat × Value) := if md.1.cls = RL then (match (show Array Value from Γ.2.2.2.2.2.1)[0]? with | some (Value.ref a) => [(0, Value.ref a)] | _ => []) else []
theorem ext_0 {Γ : FT} {md : MD} {q : Nat × Value} (h : q ∈ ext Γ md) : md.1.cls = RL ∧ ∃ a, q = (0, Value.ref a) ∧ (show Array Value from Γ.2.2.2.2.2.1)[0]? = some (Value.ref a) := by
  unfold ext at h
  split at h
  next hc =>
    refine ⟨hc, ?_⟩
    split at h
    next a ha => exact ⟨a, List.mem_singleton.mp h, ha⟩
    next => exact absurd h List.not_mem_nil
  next => exact absurd h List.not_mem_nil
theorem ext_keep {Γ : FT} {md : MD} {i : Nat} (h : (decide (i ≠ 0) || decide (md.1.cls ≠ RL)) = true) : ∀ q ∈ ext Γ md, (!(q.1 == i) && !(q.1 + 1 == i && q.2.category == 2)) = true := by
  intro q hq
  obtain ⟨h1, a, rfl, -⟩ := ext_0 hq
  have hi : i ≠ 0 := by simpa [h1] using h
  simp [Ne.symm hi, Value.category]
def lvx (E : List (Nat × Value)) (B : Nat) (ls : Array Slot) (nL : Nat) (L : List PV) : Prop := lv_has ls nL (E ++ lvlA B 0 L)
theorem lvx.get {E : List (Nat × Value)} {B : Nat} {ls : Array Slot} {nL : Nat} {L : List PV} (h : lvx E B ls nL L) {i : Nat} {v : PV} (hi : L[i]? = some v) (hv : (∃ n, v = vI n) ∨ ∃ a, v = vR a) : ls[i]? = some (.val (rep B v)) :=
  h.2.2 (i, rep B v) (List.mem_append_right _ ((lvlA_mem B L 0 _).mpr ⟨i, v, hi, hv, by simp⟩))
theorem lvx.set {E : List (Nat × Value)} {B : Nat} {ls' : Array Slot} {nL : Nat} {L : List PV} {i : Nat} {v : PV} {x : Value} (hE : ∀ q ∈ E, (!(q.1 == i) && !(q.1 + 1 == i && q.2.category == 2)) = true) (hx : ((∃ n, v = vI n) ∨ ∃ a, v = vR a) → x = rep B v) (h : lv_has ls' nL ((i, x) :: (E ++ lvlA B 0 L).filter (fun q => !(q.1 == i) && !(q.1 + 1 == i && q.2.category == 2)))) : lvx E B ls' nL (L.set i v) := by
  have h2 : lvr B ls' nL (L.set i v) := lvr.set hx ⟨h.1, h.2.1, fun q hq => h.2.2 q (by
    rcases List.mem_cons.mp hq with e | hq
    · rw [e]; exact List.mem_cons_self
    · exact List.mem_cons_of_mem _ (List.mem_filter.mpr ⟨List.mem_append_right _ (List.mem_filter.mp hq).1, (List.mem_filter.mp hq).2⟩))⟩
  exact ⟨h.1, h.2.1, fun q hq => (List.mem_append.mp hq).elim (fun hq => h.2.2 q (List.mem_cons_of_mem _ (List.mem_filter.mpr ⟨List.mem_append_left _ hq, hE q hq⟩))) (h2.2.2 q)⟩
def WAt (Δ : DT) (Γ : FT) (fl : Bool) (md : MD) (d pc : Nat) (L st : List PV) (w : WD) (cells slots : Nat) : Prop :=
  FOk Δ Γ md d → okVs L → okVs st → okM w.2.2 → ∀ (ls : Array Slot) (H : Heap) (locs : List Loc), lvx (ext Γ md) Δ.2.1 ls md.2.2.1 L → va_P Δ.2.2.1 vwCl (wL Δ.2.1 Δ.2.2.2 w) H → va_S (own Δ) Γ.2.2.2.1.heap H locs → (fl = true → H.size = Δ.2.1 + w.1) →
    W Γ.1 Δ.1 Γ.2.1 Γ.2.2.1 Γ.2.2.2.1 Γ.2.2.2.2.1 Γ.2.2.2.2.2.1 Γ.2.2.2.2.2.2.1 Γ.2.2.2.2.2.2.2.1 Γ.2.2.2.2.2.2.2.2.1 H locs cells slots Γ.2.2.2.2.2.2.2.2.2 (F0 Γ.2.2.2.2.1 pc ls (st.map (rep Δ.2.1)))
