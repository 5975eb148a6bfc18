def RX0 : String := "DonkeysHour$Acts"
def TX0 : u_T := fun k => match k with
  | 0 => ("DonkeysHour$Acts", "kind", "[I", true)
  | 1 => ("DonkeysHour$Acts", "whose", "[I", true)
  | 2 => ("DonkeysHour$Acts", "where", "[I", true)
  | 3 => ("DonkeysHour$Acts", "value", "[I", true)
  | _ => ("DonkeysHour$Acts", "size", "I", false)
def tyX0 : Nat → FieldType := fun k => match k with
  | 0 => .array .int
  | 1 => .array .int
  | 2 => .array .int
  | 3 => .array .int
  | _ => .int
theorem nmX0 : ∀ a, a < 5 → ∀ b, b < 5 → a ≠ b → (TX0 a).2.1 ≠ (TX0 b).2.1 := by decide +kernel
theorem tyX0_ok : ∀ k, k < 5 → parseFieldDescriptor (TX0 k).2.2.1 = some (tyX0 k) := by decide +kernel
def RX1 : String := "DonkeysHour$Beast"
def TX1 : u_T := fun k => match k with
  | 0 => ("DonkeysHour$Beast", "round", "[I", true)
  | 1 => ("DonkeysHour$Beast", "book", "[I", true)
  | 2 => ("DonkeysHour$Beast", "places", "I", false)
  | 3 => ("DonkeysHour$Beast", "place", "I", false)
  | 4 => ("DonkeysHour$Beast", "hunger", "I", false)
  | _ => ("DonkeysHour$Beast", "strokes", "I", false)
def tyX1 : Nat → FieldType := fun k => match k with
  | 0 => .array .int
  | 1 => .array .int
  | 2 => .int
  | 3 => .int
  | 4 => .int
  | _ => .int
theorem nmX1 : ∀ a, a < 6 → ∀ b, b < 6 → a ≠ b → (TX1 a).2.1 ≠ (TX1 b).2.1 := by decide +kernel
theorem tyX1_ok : ∀ k, k < 6 → parseFieldDescriptor (TX1 k).2.2.1 = some (tyX1 k) := by decide +kernel
def RX2 : String := "DonkeysHour$Carrots"
def TX2 : u_T := fun k => match k with
  | 0 => ("DonkeysHour$Carrots", "whose", "[I", true)
  | 1 => ("DonkeysHour$Carrots", "from", "[I", true)
  | 2 => ("DonkeysHour$Carrots", "to", "[I", true)
  | 3 => ("DonkeysHour$Carrots", "how", "[I", true)
  | _ => ("DonkeysHour$Carrots", "size", "I", false)
def tyX2 : Nat → FieldType := fun k => match k with
  | 0 => .array .int
  | 1 => .array .int
  | 2 => .array .int
  | 3 => .array .int
  | _ => .int
theorem nmX2 : ∀ a, a < 5 → ∀ b, b < 5 → a ≠ b → (TX2 a).2.1 ≠ (TX2 b).2.1 := by decide +kernel
theorem tyX2_ok : ∀ k, k < 5 → parseFieldDescriptor (TX2 k).2.2.1 = some (tyX2 k) := by decide +kernel
def RX3 : String := "DonkeysHour$Contracts"
def TX3 : u_T := fun k => match k with
  | 0 => ("DonkeysHour$Contracts", "debtor", "[I", true)
  | 1 => ("DonkeysHour$Contracts", "creditor", "[I", true)
  | 2 => ("DonkeysHour$Contracts", "frogs", "[I", true)
  | 3 => ("DonkeysHour$Contracts", "clock", "[I", true)
  | 4 => ("DonkeysHour$Contracts", "hour", "[I", true)
  | 5 => ("DonkeysHour$Contracts", "struck", "[I", true)
  | _ => ("DonkeysHour$Contracts", "size", "I", false)
def tyX3 : Nat → FieldType := fun k => match k with
  | 0 => .array .int
  | 1 => .array .int
  | 2 => .array .int
  | 3 => .array .int
  | 4 => .array .int
  | 5 => .array .int
  | _ => .int
theorem nmX3 : ∀ a, a < 7 → ∀ b, b < 7 → a ≠ b → (TX3 a).2.1 ≠ (TX3 b).2.1 := by decide +kernel
theorem tyX3_ok : ∀ k, k < 7 → parseFieldDescriptor (TX3 k).2.2.1 = some (tyX3 k) := by decide +kernel
def RX4 : String := "DonkeysHour$Flies"
def TX4 : u_T := fun k => match k with
  | 0 => ("DonkeysHour$Flies", "digits", "[I", true)
  | _ => ("DonkeysHour$Flies", "size", "I", false)
def tyX4 : Nat → FieldType := fun k => match k with
  | 0 => .array .int
  | _ => .int
theorem nmX4 : ∀ a, a < 2 → ∀ b, b < 2 → a ≠ b → (TX4 a).2.1 ≠ (TX4 b).2.1 := by decide +kernel
theorem tyX4_ok : ∀ k, k < 2 → parseFieldDescriptor (TX4 k).2.2.1 = some (tyX4 k) := by decide +kernel
def RX5 : String := "DonkeysHour$Future"
def TX5 : u_T := fun k => match k with
  | 0 => ("DonkeysHour$Future", "rule", "LDonkeysHour$Rule;", true)
  | 1 => ("DonkeysHour$Future", "flies", "LDonkeysHour$Flies;", true)
  | 2 => ("DonkeysHour$Future", "carrots", "LDonkeysHour$Carrots;", true)
  | 3 => ("DonkeysHour$Future", "thought", "LDonkeysHour$Carrots;", true)
  | 4 => ("DonkeysHour$Future", "beast", "LDonkeysHour$Beast;", true)
  | 5 => ("DonkeysHour$Future", "strokeIn", "[I", true)
  | 6 => ("DonkeysHour$Future", "swarm", "I", false)
  | 7 => ("DonkeysHour$Future", "number", "I", false)
  | 8 => ("DonkeysHour$Future", "now", "I", false)
  | 9 => ("DonkeysHour$Future", "gone", "I", false)
  | _ => ("DonkeysHour$Future", "strokes", "I", false)
def tyX5 : Nat → FieldType := fun k => match k with
  | 0 => .object "DonkeysHour$Rule"
  | 1 => .object "DonkeysHour$Flies"
  | 2 => .object "DonkeysHour$Carrots"
  | 3 => .object "DonkeysHour$Carrots"
  | 4 => .object "DonkeysHour$Beast"
  | 5 => .array .int
  | 6 => .int
  | 7 => .int
  | 8 => .int
  | 9 => .int
  | _ => .int
theorem nmX5 : ∀ a, a < 11 → ∀ b, b < 11 → a ≠ b → (TX5 a).2.1 ≠ (TX5 b).2.1 := by decide +kernel
theorem tyX5_ok : ∀ k, k < 11 → parseFieldDescriptor (TX5 k).2.2.1 = some (tyX5 k) := by decide +kernel
def RX6 : String := "DonkeysHour$History"
def TX6 : u_T := fun k => match k with
  | 0 => ("DonkeysHour$History", "scenes", "[LDonkeysHour$Scene;", true)
  | 1 => ("DonkeysHour$History", "oldest", "I", false)
  | _ => ("DonkeysHour$History", "size", "I", false)
def tyX6 : Nat → FieldType := fun k => match k with
  | 0 => .array (.object "DonkeysHour$Scene")
  | 1 => .int
  | _ => .int
theorem nmX6 : ∀ a, a < 3 → ∀ b, b < 3 → a ≠ b → (TX6 a).2.1 ≠ (TX6 b).2.1 := by decide +kernel
theorem tyX6_ok : ∀ k, k < 3 → parseFieldDescriptor (TX6 k).2.2.1 = some (tyX6 k) := by decide +kernel
def RX7 : String := "DonkeysHour$Rule"
def TX7 : u_T := fun k => match k with
  | 0 => ("DonkeysHour$Rule", "code", "[I", true)
  | 1 => ("DonkeysHour$Rule", "stack", "[I", true)
  | 2 => ("DonkeysHour$Rule", "given", "[I", true)
  | 3 => ("DonkeysHour$Rule", "size", "I", false)
  | 4 => ("DonkeysHour$Rule", "top", "I", false)
  | _ => ("DonkeysHour$Rule", "brackets", "I", false)
def tyX7 : Nat → FieldType := fun k => match k with
  | 0 => .array .int
  | 1 => .array .int
  | 2 => .array .int
  | 3 => .int
  | 4 => .int
  | _ => .int
theorem nmX7 : ∀ a, a < 6 → ∀ b, b < 6 → a ≠ b → (TX7 a).2.1 ≠ (TX7 b).2.1 := by decide +kernel
theorem tyX7_ok : ∀ k, k < 6 → parseFieldDescriptor (TX7 k).2.2.1 = some (tyX7 k) := by decide +kernel
def RX8 : String := "DonkeysHour$Rumours"
def TX8 : u_T := fun k => match k with
  | 0 => ("DonkeysHour$Rumours", "whose", "[I", true)
  | 1 => ("DonkeysHour$Rumours", "strokes", "[I", true)
  | 2 => ("DonkeysHour$Rumours", "within", "[I", true)
  | _ => ("DonkeysHour$Rumours", "size", "I", false)
def tyX8 : Nat → FieldType := fun k => match k with
  | 0 => .array .int
  | 1 => .array .int
  | 2 => .array .int
  | _ => .int
theorem nmX8 : ∀ a, a < 4 → ∀ b, b < 4 → a ≠ b → (TX8 a).2.1 ≠ (TX8 b).2.1 := by decide +kernel
theorem tyX8_ok : ∀ k, k < 4 → parseFieldDescriptor (TX8 k).2.2.1 = some (tyX8 k) := by decide +kernel
def RX9 : String := "DonkeysHour$Scene"
def TX9 : u_T := fun k => match k with
  | 0 => ("DonkeysHour$Scene", "beasts", "[LDonkeysHour$Beast;", true)
  | 1 => ("DonkeysHour$Scene", "carrots", "LDonkeysHour$Carrots;", true)
  | 2 => ("DonkeysHour$Scene", "donkeys", "I", false)
  | 3 => ("DonkeysHour$Scene", "now", "I", false)
  | 4 => ("DonkeysHour$Scene", "filled", "Z", false)
  | _ => ("DonkeysHour$Scene", "withCarrots", "Z", false)
def tyX9 : Nat → FieldType := fun k => match k with
  | 0 => .array (.object "DonkeysHour$Beast")
  | 1 => .object "DonkeysHour$Carrots"
  | 2 => .int
  | 3 => .int
  | 4 => .boolean
  | _ => .boolean
theorem nmX9 : ∀ a, a < 6 → ∀ b, b < 6 → a ≠ b → (TX9 a).2.1 ≠ (TX9 b).2.1 := by decide +kernel
theorem tyX9_ok : ∀ k, k < 6 → parseFieldDescriptor (TX9 k).2.2.1 = some (tyX9 k) := by decide +kernel
def RX10 : String := "DonkeysHour$Text"
def TX10 : u_T := fun k => match k with
  | 0 => ("DonkeysHour$Text", "signs", "[I", true)
  | 1 => ("DonkeysHour$Text", "size", "I", false)
  | 2 => ("DonkeysHour$Text", "at", "I", false)
  | _ => ("DonkeysHour$Text", "limit", "I", false)
def tyX10 : Nat → FieldType := fun k => match k with
  | 0 => .array .int
  | 1 => .int
  | 2 => .int
  | _ => .int
theorem nmX10 : ∀ a, a < 4 → ∀ b, b < 4 → a ≠ b → (TX10 a).2.1 ≠ (TX10 b).2.1 := by decide +kernel
theorem tyX10_ok : ∀ k, k < 4 → parseFieldDescriptor (TX10 k).2.2.1 = some (tyX10 k) := by decide +kernel
def RX11 : String := "DonkeysHour"
def TX11 : u_T := fun k => match k with
  | 0 => ("DonkeysHour", "text", "LDonkeysHour$Text;", true)
  | 1 => ("DonkeysHour", "scene", "LDonkeysHour$Scene;", true)
  | 2 => ("DonkeysHour", "flies", "LDonkeysHour$Flies;", true)
  | 3 => ("DonkeysHour", "rule", "LDonkeysHour$Rule;", true)
  | 4 => ("DonkeysHour", "toldRule", "LDonkeysHour$Rule;", true)
  | 5 => ("DonkeysHour", "acts", "LDonkeysHour$Acts;", true)
  | 6 => ("DonkeysHour", "contracts", "LDonkeysHour$Contracts;", true)
  | 7 => ("DonkeysHour", "rumours", "LDonkeysHour$Rumours;", true)
  | 8 => ("DonkeysHour", "history", "LDonkeysHour$History;", true)
  | 9 => ("DonkeysHour", "kept", "[LDonkeysHour$Scene;", true)
  | 10 => ("DonkeysHour", "future", "LDonkeysHour$Future;", true)
  | 11 => ("DonkeysHour", "second", "LDonkeysHour$Future;", true)
  | 12 => ("DonkeysHour", "tally", "[I", true)
  | 13 => ("DonkeysHour", "numbers", "[I", true)
  | _ => ("DonkeysHour", "numbersTold", "I", false)
def tyX11 : Nat → FieldType := fun k => match k with
  | 0 => .object "DonkeysHour$Text"
  | 1 => .object "DonkeysHour$Scene"
  | 2 => .object "DonkeysHour$Flies"
  | 3 => .object "DonkeysHour$Rule"
  | 4 => .object "DonkeysHour$Rule"
  | 5 => .object "DonkeysHour$Acts"
  | 6 => .object "DonkeysHour$Contracts"
  | 7 => .object "DonkeysHour$Rumours"
  | 8 => .object "DonkeysHour$History"
  | 9 => .array (.object "DonkeysHour$Scene")
  | 10 => .object "DonkeysHour$Future"
  | 11 => .object "DonkeysHour$Future"
  | 12 => .array .int
  | 13 => .array .int
  | _ => .int
theorem nmX11 : ∀ a, a < 15 → ∀ b, b < 15 → a ≠ b → (TX11 a).2.1 ≠ (TX11 b).2.1 := by decide +kernel
theorem tyX11_ok : ∀ k, k < 15 → parseFieldDescriptor (TX11 k).2.2.1 = some (tyX11 k) := by decide +kernel
def RX12 : String := "DonkeysHourModel"
def TX12 : u_T := fun k => match k with
  | 0 => ("DonkeysHourModel", "now", "[I", true)
  | 1 => ("DonkeysHourModel", "donkeys", "I", false)
  | 2 => ("DonkeysHourModel", "rounds", "[I", true)
  | 3 => ("DonkeysHourModel", "flies", "[I", true)
  | 4 => ("DonkeysHourModel", "fliesMany", "I", false)
  | 5 => ("DonkeysHourModel", "fliesAsked", "I", false)
  | 6 => ("DonkeysHourModel", "carrots", "[I", true)
  | 7 => ("DonkeysHourModel", "carrotMany", "I", false)
  | 8 => ("DonkeysHourModel", "thoughtMany", "I", false)
  | 9 => ("DonkeysHourModel", "text", "[B", true)
  | 10 => ("DonkeysHourModel", "typed", "I", false)
  | 11 => ("DonkeysHourModel", "row", "[I", true)
  | 12 => ("DonkeysHourModel", "rowMany", "I", false)
  | 13 => ("DonkeysHourModel", "thrown", "I", false)
  | 14 => ("DonkeysHourModel", "read", "[B", false)
  | 15 => ("DonkeysHourModel", "length", "I", false)
  | 16 => ("DonkeysHourModel", "top", "I", false)
  | 17 => ("DonkeysHourModel", "at", "I", false)
  | 18 => ("DonkeysHourModel", "wrong", "I", false)
  | 19 => ("DonkeysHourModel", "comes", "[I", true)
  | 20 => ("DonkeysHourModel", "rule", "[B", true)
  | 21 => ("DonkeysHourModel", "ruleSize", "I", false)
  | 22 => ("DonkeysHourModel", "askedState", "[I", false)
  | 23 => ("DonkeysHourModel", "askedDonkey", "I", false)
  | 24 => ("DonkeysHourModel", "strokesNow", "I", false)
  | 25 => ("DonkeysHourModel", "strokesBy", "[I", true)
  | 26 => ("DonkeysHourModel", "ate", "I", false)
  | 27 => ("DonkeysHourModel", "stood", "I", false)
  | 28 => ("DonkeysHourModel", "eatenAt", "I", false)
  | 29 => ("DonkeysHourModel", "eatenOf", "I", false)
  | 30 => ("DonkeysHourModel", "undos", "[I", true)
  | 31 => ("DonkeysHourModel", "undoMany", "I", false)
  | 32 => ("DonkeysHourModel", "aside", "[I", true)
  | 33 => ("DonkeysHourModel", "sums", "[I", true)
  | 34 => ("DonkeysHourModel", "acts", "[I", true)
  | 35 => ("DonkeysHourModel", "dayStrokes", "I", false)
  | 36 => ("DonkeysHourModel", "then", "[I", true)
  | 37 => ("DonkeysHourModel", "times", "[I", true)
  | 38 => ("DonkeysHourModel", "timesMany", "I", false)
  | 39 => ("DonkeysHourModel", "eatenBy", "[I", true)
  | 40 => ("DonkeysHourModel", "contracts", "[I", true)
  | 41 => ("DonkeysHourModel", "contractMany", "I", false)
  | 42 => ("DonkeysHourModel", "often", "[I", true)
  | 43 => ("DonkeysHourModel", "first", "[I", true)
  | 44 => ("DonkeysHourModel", "last", "[I", true)
  | 45 => ("DonkeysHourModel", "latests", "[I", true)
  | 46 => ("DonkeysHourModel", "taken", "[Z", true)
  | 47 => ("DonkeysHourModel", "boys", "[I", true)
  | 48 => ("DonkeysHourModel", "sounds", "[I", true)
  | 49 => ("DonkeysHourModel", "soundMany", "I", false)
  | 50 => ("DonkeysHourModel", "same", "[I", true)
  | 51 => ("DonkeysHourModel", "came", "I", false)
  | 52 => ("DonkeysHourModel", "kept", "[I", true)
  | 53 => ("DonkeysHourModel", "isKept", "[Z", true)
  | _ => ("DonkeysHourModel", "keptCame", "[I", true)
def tyX12 : Nat → FieldType := fun k => match k with
  | 0 => .array .int
  | 1 => .int
  | 2 => .array .int
  | 3 => .array .int
  | 4 => .int
  | 5 => .int
  | 6 => .array .int
  | 7 => .int
  | 8 => .int
  | 9 => .array .byte
  | 10 => .int
  | 11 => .array .int
  | 12 => .int
  | 13 => .int
  | 14 => .array .byte
  | 15 => .int
  | 16 => .int
  | 17 => .int
  | 18 => .int
  | 19 => .array .int
  | 20 => .array .byte
  | 21 => .int
  | 22 => .array .int
  | 23 => .int
  | 24 => .int
  | 25 => .array .int
  | 26 => .int
  | 27 => .int
  | 28 => .int
  | 29 => .int
  | 30 => .array .int
  | 31 => .int
  | 32 => .array .int
  | 33 => .array .int
  | 34 => .array .int
  | 35 => .int
  | 36 => .array .int
  | 37 => .array .int
  | 38 => .int
  | 39 => .array .int
  | 40 => .array .int
  | 41 => .int
  | 42 => .array .int
  | 43 => .array .int
  | 44 => .array .int
  | 45 => .array .int
  | 46 => .array .boolean
  | 47 => .array .int
  | 48 => .array .int
  | 49 => .int
  | 50 => .array .int
  | 51 => .int
  | 52 => .array .int
  | 53 => .array .boolean
  | _ => .array .int
theorem nmX12 : ∀ a, a < 55 → ∀ b, b < 55 → a ≠ b → (TX12 a).2.1 ≠ (TX12 b).2.1 := by decide +kernel
theorem tyX12_ok : ∀ k, k < 55 → parseFieldDescriptor (TX12 k).2.2.1 = some (tyX12 k) := by decide +kernel
def RL : String := "DonkeysHourLaw"
abbrev vwCl : List vw_C := [(RX0, TX0, 5), (RX1, TX1, 6), (RX2, TX2, 5), (RX3, TX3, 7), (RX4, TX4, 2), (RX5, TX5, 11), (RX6, TX6, 3), (RX7, TX7, 6), (RX8, TX8, 4), (RX9, TX9, 6), (RX10, TX10, 4), (RX11, TX11, 15), (RX12, TX12, 55)]
-- ===== values, cells, worlds =====
abbrev PV := Int ⊕ (Option Nat ⊕ Int)
abbrev vI (n : Int) : PV := .inl n
abbrev vR (i : Nat) : PV := .inr (.inl (some i))
abbrev vN : PV := .inr (.inl none)
abbrev vL (n : Int) : PV := .inr (.inr n)
def rep (B : Nat) (v : PV) : Value := match v with
  | .inl n => .int (Int32.ofInt n)
  | .inr (.inl none) => .null
  | .inr (.inl (some i)) => .ref (B + i)
  | .inr (.inr n) => .long (Int64.ofInt n)
def okV (v : PV) : Prop := match v with
  | .inl n => InR n
  | .inr (.inl _) => True
  | .inr (.inr n) => InR n
def okVs (l : List PV) : Prop := ∀ v ∈ l, okV v
theorem okVs.cons {v : PV} {l : List PV} (h : okV v) (hl : okVs l) : okVs (v :: l) := fun x hx => by
  rcases List.mem_cons.mp hx with rfl | hx
  · exact h
  · exact hl x hx
theorem okVs.hd {v : PV} {l : List PV} (h : okVs (v :: l)) : okV v := h v List.mem_cons_self
theorem okVs.tl {v : PV} {l : List PV} (h : okVs (v :: l)) : okVs l := fun x hx => h x (List.mem_cons_of_mem _ hx)
def fv (B : Nat) (x : Int) (k : Nat) : Value := match k with
  | 0 => .int (Int32.ofInt x)
  | 1 => .null
  | 2 => if x = 0 then .null else .ref (B + (x.toNat - 1))
  | r + 3 => .ref (B + r)
def fvs (B : Nat) (v : Nat → Int) : Nat → List Nat → List Value
  | _, [] => []
  | i, k :: ks => fv B (v i) k :: fvs B v (i + 1) ks
def rcode (B : Nat) (c : Nat) : Option Nat := if c = 0 then none else some (B + (c - 1))
def sE (B : Nat) (cA : Nat → ClassId) (sh : SHP) (v : Nat → Int) : va_E := match sh with
  | (0, ci, ks) => .inr (ci, fvs B v 0 ks)
  | (1, t, ks) => .inl (cA t, ks.headD 0, .inl (fun j => Int32.ofInt (v j)))
  | (2, t, ks) => .inl (cA t, ks.headD 0, .inr (.inl (fun j => Int64.ofInt (v j))))
  | (_ + 3, t, ks) => .inl (cA t, ks.length, .inr (.inr (.inr (.inr (fun j => rcode B (ks.getD j 0))))))
abbrev WD := Nat × (Nat → SHP) × MEM
def wL (B : Nat) (cA : Nat → ClassId) (w : WD) : va_W := (List.range w.1).map (fun i => (B + i, sE B cA (w.2.1 i) (w.2.2 i)))
theorem wL_get {B : Nat} {cA : Nat → ClassId} {n : Nat} {S : Nat → SHP} {M : MEM} {i : Nat} (h : i < n) : (wL B cA (n, S, M))[i]? = some (B + i, sE B cA (S i) (M i)) := by
  simp [wL, h]
theorem wL_len {B : Nat} {cA : Nat → ClassId} {w : WD} : (wL B cA w).length = w.1 := by simp [wL]
theorem wL_D {B : Nat} {cA : Nat → ClassId} {w : WD} : va_D (fun q : Nat => B ≤ q) (wL B cA w) := by
  obtain ⟨n, S, M⟩ := w
  refine ⟨fun i j p q hp hq e => ?_, fun k q hq => ?_⟩
  · have hi : i < n := by have := (List.getElem?_eq_some_iff.mp hp).1; simpa [wL] using this
    have hj : j < n := by have := (List.getElem?_eq_some_iff.mp hq).1; simpa [wL] using this
    rw [wL_get hi] at hp
    rw [wL_get hj] at hq
    cases hp
    cases hq
    have e : B + i = B + j := e
    omega
  · have hk : k < n := by have := (List.getElem?_eq_some_iff.mp hq).1; simpa [wL] using this
    rw [wL_get hk] at hq
    cases hq
    show B ≤ B + k
    omega
theorem wL_set {B : Nat} {cA : Nat → ClassId} {n : Nat} {S S' : Nat → SHP} {M M' : MEM} {i : Nat} (hS : ∀ j, j ≠ i → S' j = S j) (hM : ∀ j, j ≠ i → M' j = M j) :
    (wL B cA (n, S, M)).set i (B + i, sE B cA (S' i) (M' i)) = wL B cA (n, S', M') := by
  apply List.ext_getElem?
  intro j
  rw [List.getElem?_set]
  by_cases hij : i = j
  · subst hij
    by_cases hi : i < n
    · simp [wL, hi]
    · simp [wL, hi]
  · have hji : j ≠ i := fun h => hij h.symm
    by_cases hj : j < n
    · rw [if_neg hij, wL_get hj, wL_get hj, hS j hji, hM j hji]
    · rw [if_neg hij]
      simp [wL, hj]
theorem wL_push {B : Nat} {cA : Nat → ClassId} {n : Nat} {S S' : Nat → SHP} {M M' : MEM} (hS : ∀ j, j ≠ n → S' j = S j) (hM : ∀ j, j ≠ n → M' j = M j) :
    wL B cA (n, S, M) ++ [(B + n, sE B cA (S' n) (M' n))] = wL B cA (n + 1, S', M') := by
  unfold wL
  rw [List.range_succ, List.map_append]
  congr 1
  apply List.map_congr_left
  intro j hj
  have hj : j < n := List.mem_range.mp hj
  have hne : j ≠ n := by omega
  simp [hS j hne, hM j hne]
theorem fvs_len (B : Nat) (v : Nat → Int) : ∀ (ks : List Nat) (i : Nat), (fvs B v i ks).length = ks.length := by
  intro ks
  induction ks with
  | nil => intro i; rfl
  | cons k ks ih => intro i; simp [fvs, ih]
theorem fvs_get (B : Nat) (v : Nat → Int) : ∀ (ks : List Nat) (i k c : Nat), ks[k]? = some c → (fvs B v i ks)[k]? = some (fv B (v (i + k)) c) := by
  intro ks
  induction ks with
  | nil => intro i k c h; cases h
  | cons c0 ks ih =>
    intro i k c h
    cases k with
    | zero => simp at h; subst h; simp [fvs]
    | succ k =>
      have h1 : ks[k]? = some c := by simpa using h
      have := ih (i + 1) k c h1
      simp only [fvs, List.getElem?_cons_succ]
      rw [this, show i + 1 + k = i + (k + 1) by omega]
theorem fvs_put (B : Nat) (v : Nat → Int) (x : Int) : ∀ (ks : List Nat) (i k c c' : Nat), ks[k]? = some c → (fvs B v i ks).set k (fv B x c') = fvs B (up1 v (i + k) x) i (ks.set k c') := by
  intro ks
  induction ks with
  | nil => intro i k c c' h; cases h
  | cons c0 ks ih =>
    intro i k c c' h
    have off : ∀ (ks : List Nat) (i0 j : Nat), j < i0 → fvs B (up1 v j x) i0 ks = fvs B v i0 ks := by
      intro ks
      induction ks with
      | nil => intro i0 j _; rfl
      | cons a ks ih2 =>
        intro i0 j hj
        simp only [fvs]
        rw [ih2 (i0 + 1) j (by omega)]
        simp [up1, show ¬ i0 = j by omega]
    cases k with
    | zero =>
      simp only [fvs, List.set_cons_zero, Nat.add_zero]
      rw [off ks (i + 1) i (by omega)]
      simp [up1]
    | succ k =>
      have h1 : ks[k]? = some c := by simpa using h
      have := ih (i + 1) k c c' h1
      simp only [fvs, List.set_cons_succ]
      rw [this, show i + 1 + k = i + (k + 1) by omega]
      simp [up1, show ¬ i = i + (k + 1) by omega]
theorem list_set_same {α : Type} : ∀ (l : List α) (k : Nat) (c : α), l[k]? = some c → l.set k c = l := by
  intro l
  induction l with
  | nil => intro k c h; cases h
  | cons a l ih =>
    intro k c h
    cases k with
    | zero => simp at h; subst h; rfl
    | succ k => simp only [List.set_cons_succ]; rw [ih k c (by simpa using h)]

