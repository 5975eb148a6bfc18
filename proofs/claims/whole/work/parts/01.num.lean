-- ===== numbers: an int of the machine as an integer in range =====
def InR (x : Int) : Prop := -2147483648 ≤ x ∧ x < 2147483648
theorem wr_ex : ∃ f : Int → Int, ∀ x, f x = (x + 2147483648) % 4294967296 - 2147483648 := ⟨fun x => (x + 2147483648) % 4294967296 - 2147483648, fun _ => rfl⟩
/-- the machine's wrap-around; kept closed, so that nobody unfolds it by the way -/
noncomputable def wr : Int → Int := Classical.choose wr_ex
theorem wr_def (x : Int) : wr x = (x + 2147483648) % 4294967296 - 2147483648 := Classical.choose_spec wr_ex x
theorem wr_in (x : Int) : InR (wr x) := by rw [wr_def]; unfold InR; omega
theorem wr_id {x : Int} (h : InR x) : wr x = x := by unfold InR at h; rw [wr_def]; omega
theorem iI_toInt {x : Int} (h : InR x) : (Int32.ofInt x).toInt = x := Int32.toInt_ofInt_of_le h.1 h.2
theorem toInt_in (x : Int32) : InR x.toInt := ⟨Int32.le_toInt x, Int32.toInt_lt x⟩
theorem wr_bmod (x : Int) : wr x = x.bmod (2 ^ 32) := by
  rw [wr_def]
  rw [Int.bmod_def, show ((2 ^ 32 : Nat) : Int) = 4294967296 from rfl]
  split <;> omega
theorem iI_wr (x : Int) : Int32.ofInt (wr x) = Int32.ofInt x := by
  apply Int32.toInt_inj.mp
  rw [iI_toInt (wr_in x), Int32.toInt_ofInt, wr_bmod]
theorem iI_inj {x y : Int} (hx : InR x) (hy : InR y) : Int32.ofInt x = Int32.ofInt y ↔ x = y :=
  ⟨fun h => by rw [← iI_toInt hx, ← iI_toInt hy, h], fun h => by rw [h]⟩
theorem iI_lt {x y : Int} (hx : InR x) (hy : InR y) : Int32.ofInt x < Int32.ofInt y ↔ x < y := by
  rw [Int32.lt_iff_toInt_lt, iI_toInt hx, iI_toInt hy]
theorem iI_le {x y : Int} (hx : InR x) (hy : InR y) : Int32.ofInt x ≤ Int32.ofInt y ↔ x ≤ y := by
  rw [Int32.le_iff_toInt_le, iI_toInt hx, iI_toInt hy]
theorem iI_clamp {x : Int} (hx : InR x) : (Int32.ofInt x).toNatClampNeg = x.toNat := Int32.toNatClampNeg_ofInt_of_le hx.1 hx.2
theorem iI_vp {x : Int} {n : Nat} (hx : InR x) (h0 : 0 ≤ x) (h1 : x < n) : vp_in (Int32.ofInt x) n := by
  rw [vp_in_iff, iI_toInt hx]
  exact ⟨h0, h1⟩
theorem iI_0 : Int32.ofInt 0 = 0 := rfl
theorem iI_add (x y : Int) : Int32.ofInt x + Int32.ofInt y = Int32.ofInt (wr (x + y)) := by rw [iI_wr, Int32.ofInt_add]
theorem iI_sub (x y : Int) : Int32.ofInt x - Int32.ofInt y = Int32.ofInt (wr (x - y)) := by rw [iI_wr, Int32.ofInt_sub]
theorem iI_mul (x y : Int) : Int32.ofInt x * Int32.ofInt y = Int32.ofInt (wr (x * y)) := by rw [iI_wr, Int32.ofInt_mul]
theorem iI_neg (x : Int) : - Int32.ofInt x = Int32.ofInt (wr (- x)) := by rw [iI_wr, Int32.ofInt_neg]
theorem iI_div {x y : Int} (hx : InR x) (hy : InR y) : Int32.ofInt x / Int32.ofInt y = Int32.ofInt (wr (x.tdiv y)) := by
  apply Int32.toInt_inj.mp
  rw [Int32.toInt_div, iI_toInt hx, iI_toInt hy, iI_toInt (wr_in _), wr_bmod]
theorem iI_rem {x y : Int} (hx : InR x) (hy : InR y) : Int32.ofInt x - Int32.ofInt x / Int32.ofInt y * Int32.ofInt y = Int32.ofInt (x.tmod y) := by
  rw [iI_div hx hy, iI_mul, iI_sub, iI_wr, Int.tmod_def, Int32.ofInt_sub, Int32.ofInt_sub, iI_wr, Int32.ofInt_mul, iI_wr, Int32.ofInt_mul, Int32.mul_comm]
theorem tmod_in {x y : Int} (hx : InR x) : InR (x.tmod y) := by
  unfold InR at *
  have h1 : (x.tmod y).natAbs ≤ x.natAbs := by
    rw [Int.natAbs_tmod]
    exact Nat.mod_le _ _
  rcases Int.le_total 0 x with h | h
  · have h2 := Int.tmod_nonneg y h
    omega
  · have h2 := Int.tmod_nonneg y (show 0 ≤ -x by omega)
    rw [Int.neg_tmod] at h2
    omega
/-- bit operations, by the machine's own -/
theorem ish_ex : ∃ g : (Int32 → Int32 → Int32) → Int → Int → Int, ∀ f x y, g f x y = (f (Int32.ofInt x) (Int32.ofInt y)).toInt := ⟨fun f x y => (f (Int32.ofInt x) (Int32.ofInt y)).toInt, fun _ _ _ => rfl⟩
noncomputable def ish : (Int32 → Int32 → Int32) → Int → Int → Int := Classical.choose ish_ex
theorem ish_def (f : Int32 → Int32 → Int32) (x y : Int) : ish f x y = (f (Int32.ofInt x) (Int32.ofInt y)).toInt := Classical.choose_spec ish_ex f x y
theorem ish_in (f : Int32 → Int32 → Int32) (x y : Int) : InR (ish f x y) := by rw [ish_def]; exact toInt_in _
theorem iI_ish (f : Int32 → Int32 → Int32) (x y : Int) : Int32.ofInt (ish f x y) = f (Int32.ofInt x) (Int32.ofInt y) := by rw [ish_def]; exact Int32.ofInt_toInt _
def i_and : Int32 → Int32 → Int32 := fun x y => x &&& y
def i_or : Int32 → Int32 → Int32 := fun x y => x ||| y
def i_xor : Int32 → Int32 → Int32 := fun x y => x ^^^ y
def i_shl : Int32 → Int32 → Int32 := fun x y => x <<< (y &&& 31)
def i_shr : Int32 → Int32 → Int32 := fun x y => x >>> (y &&& 31)
def i_ushr : Int32 → Int32 → Int32 := fun x y => (x.toUInt32 >>> (y.toUInt32 &&& Int32.toUInt32 31)).toInt32
/-- what a byte, a short keeps of an int -/
def sx8 (x : Int) : Int := (x + 128) % 256 - 128
def sx16 (x : Int) : Int := (x + 32768) % 65536 - 32768
def zx16 (x : Int) : Int := x % 65536
theorem sx8_in (x : Int) : InR (sx8 x) := by unfold InR sx8; omega
theorem sx16_in (x : Int) : InR (sx16 x) := by unfold InR sx16; omega
theorem zx16_in (x : Int) : InR (zx16 x) := by unfold InR zx16; omega
theorem iI_sx8 {x : Int} (hx : InR x) : (Int32.ofInt x).toInt8.toInt32 = Int32.ofInt (sx8 x) := by
  apply Int32.toInt_inj.mp
  rw [Int8.toInt_toInt32, Int32.toInt_toInt8, iI_toInt hx, iI_toInt (sx8_in x)]
  unfold sx8
  rw [Int.bmod_def, show ((2 ^ 8 : Nat) : Int) = 256 from rfl]
  split <;> omega
theorem iI_sx16 {x : Int} (hx : InR x) : (Int32.ofInt x).toInt16.toInt32 = Int32.ofInt (sx16 x) := by
  apply Int32.toInt_inj.mp
  rw [Int16.toInt_toInt32, Int32.toInt_toInt16, iI_toInt hx, iI_toInt (sx16_in x)]
  unfold sx16
  rw [Int.bmod_def, show ((2 ^ 16 : Nat) : Int) = 65536 from rfl]
  split <;> omega
theorem iI_bit {x : Int} (h : x = 0 ∨ x = 1) : vp_nar .boolean (Int32.ofInt x) = Int32.ofInt x := by rcases h with rfl | rfl <;> rfl
-- ===== memory =====
/-- a cell's shape: 0: an object (its class, how each field is: 0 an int, 1 null, 2 a reference that moves, r + 3 the cell r); 1: an array of ints, bytes, booleans (by its type; its length); 2: of longs; 3: of references (what each place holds: 0 null, r + 1) -/
abbrev SHP := Nat × Nat × List Nat
abbrev MEM := Nat → Nat → Int
def up1 (v : Nat → Int) (k : Nat) (x : Int) : Nat → Int := fun j => if j = k then x else v j
def up2 (M : MEM) (a k : Nat) (x : Int) : MEM := fun a' k' => if a' = a ∧ k' = k then x else M a' k'
def upS (S : Nat → SHP) (a : Nat) (sh : SHP) : Nat → SHP := fun a' => if a' = a then sh else S a'
def okM (M : MEM) : Prop := ∀ a k, InR (M a k)
theorem okM.up {M : MEM} (h : okM M) {a k : Nat} {x : Int} (hx : InR x) : okM (up2 M a k x) := fun a' k' => by
  unfold up2
  split
  · exact hx
  · exact h a' k'
theorem up2_row (M : MEM) (a k : Nat) (x : Int) : up2 M a k x a = up1 (M a) k x := by
  funext j
  simp [up2, up1]
theorem up2_off {M : MEM} {a k b : Nat} {x : Int} (h : b ≠ a) : up2 M a k x b = M b := by
  funext j
  simp [up2, h]
