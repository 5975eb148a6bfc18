section
-- ===== numbers: an int of the machine as an integer in range =====
def InR (x : Int) : Prop := -2147483648 ≤ x ∧ x < 2147483648
theorem wr_ex : ∃ f : Int → Int, ∀ x, f x = (x + 2147483648) % 4294967296 - 2147483648 := ⟨fun x => (x + 2147483648) % 4294967296 - 2147483648, fun _ => rfl⟩
/-- the machine's wrap-around; kept closed, so that nobody unfolds it by the way -/
noncomputable def wr : Int → Int := Classical.choose wr_ex
theorem wr_def (x : Int) : wr x = (x + 2147483648) % 4294967296 - 2147483648 := Classical.choose_spec wr_ex x
theorem wr_in (x : Int) : InR (wr x) := by rw [wr_def]; unfold InR; omega
theorem wr_id {x : Int} (h : InR x) : wr x = x := by unfold InR at h; rw [wr_def]; omega
theorem iI_toInt {x : Int} (h : InR x) : (Int32.ofInt x).toInt = x := Int32.toInt_ofInt_of_le h.1 h.2
theorem toInt_in (x : Int32) : InR x.toInt := ⟨Int32.le_toInt x, Int32.toInt_lt x⟩
theorem wr_bmod (x : Int) : wr x = x.bmod (2 ^ 32) := by
  rw [wr_def]
  rw [Int.bmod_def, show ((2 ^ 32 : Nat) : Int) = 4294967296 from rfl]
  split <;> omega
theorem iI_wr (x : Int) : Int32.ofInt (wr x) = Int32.ofInt x := by
  apply Int32.toInt_inj.mp
  rw [iI_toInt (wr_in x), Int32.toInt_ofInt, wr_bmod]
theorem iI_inj {x y : Int} (hx : InR x) (hy : InR y) : Int32.ofInt x = Int32.ofInt y ↔ x = y :=
  ⟨fun h => by rw [← iI_toInt hx, ← iI_toInt hy, h], fun h => by rw [h]⟩
theorem iI_lt {x y : Int} (hx : InR x) (hy : InR y) : Int32.ofInt x < Int32.ofInt y ↔ x < y := by
  rw [Int32.lt_iff_toInt_lt, iI_toInt hx, iI_toInt hy]
theorem iI_le {x y : Int} (hx : InR x) (hy : InR y) : Int32.ofInt x ≤ Int32.ofInt y ↔ x ≤ y := by
  rw [Int32.le_iff_toInt_le, iI_toInt hx, iI_toInt hy]
theorem iI_clamp {x : Int} (hx : InR x) : (Int32.ofInt x).toNatClampNeg = x.toNat := Int32.toNatClampNeg_ofInt_of_le hx.1 hx.2
theorem iI_vp {x : Int} {n : Nat} (hx : InR x) (h0 : 0 ≤ x) (h1 : x < n) : vp_in (Int32.ofInt x) n := by
  rw [vp_in_iff, iI_toInt hx]
  exact ⟨h0, h1⟩
theorem iI_0 : Int32.ofInt 0 = 0 := rfl
theorem iI_add (x y : Int) : Int32.ofInt x + Int32.ofInt y = Int32.ofInt (wr (x + y)) := by rw [iI_wr, Int32.ofInt_add]
theorem iI_sub (x y : Int) : Int32.ofInt x - Int32.ofInt y = Int32.ofInt (wr (x - y)) := by rw [iI_wr, Int32.ofInt_sub]
theorem iI_mul (x y : Int) : Int32.ofInt x * Int32.ofInt y = Int32.ofInt (wr (x * y)) := by rw [iI_wr, Int32.ofInt_mul]
theorem iI_neg (x : Int) : - Int32.ofInt x = Int32.ofInt (wr (- x)) := by rw [iI_wr, Int32.ofInt_neg]
theorem iI_div {x y : Int} (hx : InR x) (hy : InR y) : Int32.ofInt x / Int32.ofInt y = Int32.ofInt (wr (x.tdiv y)) := by
  apply Int32.toInt_inj.mp
  rw [Int32.toInt_div, iI_toInt hx, iI_toInt hy, iI_toInt (wr_in _), wr_bmod]
theorem iI_rem {x y : Int} (hx : InR x) (hy : InR y) : Int32.ofInt x - Int32.ofInt x / Int32.ofInt y * Int32.ofInt y = Int32.ofInt (x.tmod y) := by
  rw [iI_div hx hy, iI_mul, iI_sub, iI_wr, Int.tmod_def, Int32.ofInt_sub, Int32.ofInt_sub, iI_wr, Int32.ofInt_mul, iI_wr, Int32.ofInt_mul, Int32.mul_comm]
theorem tmod_in {x y : Int} (hx : InR x) : InR (x.tmod y) := by
  unfold InR at *
  have h1 : (x.tmod y).natAbs ≤ x.natAbs := by
    rw [Int.natAbs_tmod]
    exact Nat.mod_le _ _
  rcases Int.le_total 0 x with h | h
  · have h2 := Int.tmod_nonneg y h
    omega
  · have h2 := Int.tmod_nonneg y (show 0 ≤ -x by omega)
    rw [Int.neg_tmod] at h2
    omega
/-- bit operations, by the machine's own -/
theorem ish_ex : ∃ g : (Int32 → Int32 → Int32) → Int → Int → Int, ∀ f x y, g f x y = (f (Int32.ofInt x) (Int32.ofInt y)).toInt := ⟨fun f x y => (f (Int32.ofInt x) (Int32.ofInt y)).toInt, fun _ _ _ => rfl⟩
noncomputable def ish : (Int32 → Int32 → Int32) → Int → Int → Int := Classical.choose ish_ex
theorem ish_def (f : Int32 → Int32 → Int32) (x y : Int) : ish f x y = (f (Int32.ofInt x) (Int32.ofInt y)).toInt := Classical.choose_spec ish_ex f x y
theorem ish_in (f : Int32 → Int32 → Int32) (x y : Int) : InR (ish f x y) := by rw [ish_def]; exact toInt_in _
theorem iI_ish (f : Int32 → Int32 → Int32) (x y : Int) : Int32.ofInt (ish f x y) = f (Int32.ofInt x) (Int32.ofInt y) := by rw [ish_def]; exact Int32.ofInt_toInt _
def i_and : Int32 → Int32 → Int32 := fun x y => x &&& y
def i_or : Int32 → Int32 → Int32 := fun x y => x ||| y
def i_xor : Int32 → Int32 → Int32 := fun x y => x ^^^ y
def i_shl : Int32 → Int32 → Int32 := fun x y => x <<< (y &&& 31)
def i_shr : Int32 → Int32 → Int32 := fun x y => x >>> (y &&& 31)
def i_ushr : Int32 → Int32 → Int32 := fun x y => (x.toUInt32 >>> (y.toUInt32 &&& Int32.toUInt32 31)).toInt32
/-- what a byte, a short keeps of an int -/
def sx8 (x : Int) : Int := (x + 128) % 256 - 128
def sx16 (x : Int) : Int := (x + 32768) % 65536 - 32768
def zx16 (x : Int) : Int := x % 65536
theorem sx8_in (x : Int) : InR (sx8 x) := by unfold InR sx8; omega
theorem sx16_in (x : Int) : InR (sx16 x) := by unfold InR sx16; omega
theorem zx16_in (x : Int) : InR (zx16 x) := by unfold InR zx16; omega
theorem iI_sx8 {x : Int} (hx : InR x) : (Int32.ofInt x).toInt8.toInt32 = Int32.ofInt (sx8 x) := by
  apply Int32.toInt_inj.mp
  rw [Int8.toInt_toInt32, Int32.toInt_toInt8, iI_toInt hx, iI_toInt (sx8_in x)]
  unfold sx8
  rw [Int.bmod_def, show ((2 ^ 8 : Nat) : Int) = 256 from rfl]
  split <;> omega
theorem iI_sx16 {x : Int} (hx : InR x) : (Int32.ofInt x).toInt16.toInt32 = Int32.ofInt (sx16 x) := by
  apply Int32.toInt_inj.mp
  rw [Int16.toInt_toInt32, Int32.toInt_toInt16, iI_toInt hx, iI_toInt (sx16_in x)]
  unfold sx16
  rw [Int.bmod_def, show ((2 ^ 16 : Nat) : Int) = 65536 from rfl]
  split <;> omega
theorem iI_bit {x : Int} (h : x = 0 ∨ x = 1) : vp_nar .boolean (Int32.ofInt x) = Int32.ofInt x := by rcases h with rfl | rfl <;> rfl
-- ===== memory =====
/-- a cell's shape: 0: an object (its class, how each field is: 0 an int, 1 null, 2 a reference that moves, r + 3 the cell r); 1: an array of ints, bytes, booleans (by its type; its length); 2: of longs; 3: of references (what each place holds: 0 null, r + 1) -/
abbrev SHP := Nat × Nat × List Nat
abbrev MEM := Nat → Nat → Int
def up1 (v : Nat → Int) (k : Nat) (x : Int) : Nat → Int := fun j => if j = k then x else v j
def up2 (M : MEM) (a k : Nat) (x : Int) : MEM := fun a' k' => if a' = a ∧ k' = k then x else M a' k'
def upS (S : Nat → SHP) (a : Nat) (sh : SHP) : Nat → SHP := fun a' => if a' = a then sh else S a'
def okM (M : MEM) : Prop := ∀ a k, InR (M a k)
theorem okM.up {M : MEM} (h : okM M) {a k : Nat} {x : Int} (hx : InR x) : okM (up2 M a k x) := fun a' k' => by
  unfold up2
  split
  · exact hx
  · exact h a' k'
theorem up2_row (M : MEM) (a k : Nat) (x : Int) : up2 M a k x a = up1 (M a) k x := by
  funext j
  simp [up2, up1]
theorem up2_off {M : MEM} {a k b : Nat} {x : Int} (h : b ≠ a) : up2 M a k x b = M b := by
  funext j
  simp [up2, h]
end
section
-- ===== the world as the constructors leave it; loops; all methods of the class (dh_ ..) and of the reference (mo_ ..) as functions, by program =====
def S0L : List SHP := [(0, 11, [4, 6, 22, 24, 28, 32, 37, 44, 48, 226, 227, 237, 247, 248, 0]), (0, 10, [5, 0, 0, 0]), (1, 0, [80]), (0, 9, [7, 8, 0, 0, 0, 0]), (3, 4, [11, 14, 17]), (0, 2, [9, 10, 11, 12, 0]), (1, 0, [10]), (1, 0, [10]), (1, 0, [10]), (1, 0, [10]), (0, 1, [14, 15, 0, 0, 0, 0]), (1, 0, [12]), (1, 0, [40]), (0, 1, [17, 18, 0, 0, 0, 0]), (1, 0, [12]), (1, 0, [40]), (0, 1, [20, 21, 0, 0, 0, 0]), (1, 0, [12]), (1, 0, [40]), (0, 4, [23, 0]), (1, 0, [40]), (0, 7, [25, 26, 27, 0, 0, 0]), (1, 0, [40]), (1, 0, [40]), (1, 0, [8]), (0, 7, [29, 30, 31, 0, 0, 0]), (1, 0, [40]), (1, 0, [40]), (1, 0, [8]), (0, 0, [33, 34, 35, 36, 0]), (1, 0, [20]), (1, 0, [20]), (1, 0, [20]), (1, 0, [20]), (0, 3, [38, 39, 40, 41, 42, 43, 0]), (1, 0, [10]), (1, 0, [10]), (1, 0, [10]), (1, 0, [10]), (1, 0, [10]), (1, 0, [10]), (0, 8, [45, 46, 47, 0]), (1, 0, [8]), (1, 0, [8]), (1, 0, [8]), (0, 6, [49, 0, 0]), (3, 5, [48, 64, 80, 96, 112, 128, 144, 160, 176, 192, 208]), (0, 9, [51, 52, 0, 0, 0, 0]), (3, 4, [55, 58, 61]), (0, 2, [53, 54, 55, 56, 0]), (1, 0, [10]), (1, 0, [10]), (1, 0, [10]), (1, 0, [10]), (0, 1, [58, 59, 0, 0, 0, 0]), (1, 0, [12]), (1, 0, [40]), (0, 1, [61, 62, 0, 0, 0, 0]), (1, 0, [12]), (1, 0, [40]), (0, 1, [64, 65, 0, 0, 0, 0]), (1, 0, [12]), (1, 0, [40]), (0, 9, [67, 68, 0, 0, 0, 0]), (3, 4, [71, 74, 77]), (0, 2, [69, 70, 71, 72, 0]), (1, 0, [10]), (1, 0, [10]), (1, 0, [10]), (1, 0, [10]), (0, 1, [74, 75, 0, 0, 0, 0]), (1, 0, [12]), (1, 0, [40]), (0, 1, [77, 78, 0, 0, 0, 0]), (1, 0, [12]), (1, 0, [40]), (0, 1, [80, 81, 0, 0, 0, 0]), (1, 0, [12]), (1, 0, [40]), (0, 9, [83, 84, 0, 0, 0, 0]), (3, 4, [87, 90, 93]), (0, 2, [85, 86, 87, 88, 0]), (1, 0, [10]), (1, 0, [10]), (1, 0, [10]), (1, 0, [10]), (0, 1, [90, 91, 0, 0, 0, 0]), (1, 0, [12]), (1, 0, [40]), (0, 1, [93, 94, 0, 0, 0, 0]), (1, 0, [12]), (1, 0, [40]), (0, 1, [96, 97, 0, 0, 0, 0]), (1, 0, [12]), (1, 0, [40]), (0, 9, [99, 100, 0, 0, 0, 0]), (3, 4, [103, 106, 109]), (0, 2, [101, 102, 103, 104, 0]), (1, 0, [10]), (1, 0, [10]), (1, 0, [10]), (1, 0, [10]), (0, 1, [106, 107, 0, 0, 0, 0]), (1, 0, [12]), (1, 0, [40]), (0, 1, [109, 110, 0, 0, 0, 0]), (1, 0, [12]), (1, 0, [40]), (0, 1, [112, 113, 0, 0, 0, 0]), (1, 0, [12]), (1, 0, [40]), (0, 9, [115, 116, 0, 0, 0, 0]), (3, 4, [119, 122, 125]), (0, 2, [117, 118, 119, 120, 0]), (1, 0, [10]), (1, 0, [10]), (1, 0, [10]), (1, 0, [10]), (0, 1, [122, 123, 0, 0, 0, 0]), (1, 0, [12]), (1, 0, [40]), (0, 1, [125, 126, 0, 0, 0, 0]), (1, 0, [12]), (1, 0, [40]), (0, 1, [128, 129, 0, 0, 0, 0]), (1, 0, [12]), (1, 0, [40]), (0, 9, [131, 132, 0, 0, 0, 0]), (3, 4, [135, 138, 141]), (0, 2, [133, 134, 135, 136, 0]), (1, 0, [10]), (1, 0, [10]), (1, 0, [10]), (1, 0, [10]), (0, 1, [138, 139, 0, 0, 0, 0]), (1, 0, [12]), (1, 0, [40]), (0, 1, [141, 142, 0, 0, 0, 0]), (1, 0, [12]), (1, 0, [40]), (0, 1, [144, 145, 0, 0, 0, 0]), (1, 0, [12]), (1, 0, [40]), (0, 9, [147, 148, 0, 0, 0, 0]), (3, 4, [151, 154, 157]), (0, 2, [149, 150, 151, 152, 0]), (1, 0, [10]), (1, 0, [10]), (1, 0, [10]), (1, 0, [10]), (0, 1, [154, 155, 0, 0, 0, 0]), (1, 0, [12]), (1, 0, [40]), (0, 1, [157, 158, 0, 0, 0, 0]), (1, 0, [12]), (1, 0, [40]), (0, 1, [160, 161, 0, 0, 0, 0]), (1, 0, [12]), (1, 0, [40]), (0, 9, [163, 164, 0, 0, 0, 0]), (3, 4, [167, 170, 173]), (0, 2, [165, 166, 167, 168, 0]), (1, 0, [10]), (1, 0, [10]), (1, 0, [10]), (1, 0, [10]), (0, 1, [170, 171, 0, 0, 0, 0]), (1, 0, [12]), (1, 0, [40]), (0, 1, [173, 174, 0, 0, 0, 0]), (1, 0, [12]), (1, 0, [40]), (0, 1, [176, 177, 0, 0, 0, 0]), (1, 0, [12]), (1, 0, [40]), (0, 9, [179, 180, 0, 0, 0, 0]), (3, 4, [183, 186, 189]), (0, 2, [181, 182, 183, 184, 0]), (1, 0, [10]), (1, 0, [10]), (1, 0, [10]), (1, 0, [10]), (0, 1, [186, 187, 0, 0, 0, 0]), (1, 0, [12]), (1, 0, [40]), (0, 1, [189, 190, 0, 0, 0, 0]), (1, 0, [12]), (1, 0, [40]), (0, 1, [192, 193, 0, 0, 0, 0]), (1, 0, [12]), (1, 0, [40]), (0, 9, [195, 196, 0, 0, 0, 0]), (3, 4, [199, 202, 205]), (0, 2, [197, 198, 199, 200, 0]), (1, 0, [10]), (1, 0, [10]), (1, 0, [10]), (1, 0, [10]), (0, 1, [202, 203, 0, 0, 0, 0]), (1, 0, [12]), (1, 0, [40]), (0, 1, [205, 206, 0, 0, 0, 0]), (1, 0, [12]), (1, 0, [40]), (0, 1, [208, 209, 0, 0, 0, 0]), (1, 0, [12]), (1, 0, [40]), (0, 9, [211, 212, 0, 0, 0, 0]), (3, 4, [215, 218, 221]), (0, 2, [213, 214, 215, 216, 0]), (1, 0, [10]), (1, 0, [10]), (1, 0, [10]), (1, 0, [10]), (0, 1, [218, 219, 0, 0, 0, 0]), (1, 0, [12]), (1, 0, [40]), (0, 1, [221, 222, 0, 0, 0, 0]), (1, 0, [12]), (1, 0, [40]), (0, 1, [224, 225, 0, 0, 0, 0]), (1, 0, [12]), (1, 0, [40]), (3, 5, [247, 263]), (0, 5, [24, 22, 8, 228, 233, 236, 0, 0, 0, 0, 0]), (0, 2, [229, 230, 231, 232, 0]), (1, 0, [10]), (1, 0, [10]), (1, 0, [10]), (1, 0, [10]), (0, 1, [234, 235, 0, 0, 0, 0]), (1, 0, [12]), (1, 0, [40]), (1, 0, [600]), (0, 5, [24, 22, 8, 238, 243, 246, 0, 0, 0, 0, 0]), (0, 2, [239, 240, 241, 242, 0]), (1, 0, [10]), (1, 0, [10]), (1, 0, [10]), (1, 0, [10]), (0, 1, [244, 245, 0, 0, 0, 0]), (1, 0, [12]), (1, 0, [40]), (1, 0, [600]), (1, 0, [12]), (1, 0, [4]), (0, 9, [250, 251, 0, 0, 0, 0]), (3, 4, [254, 257, 260]), (0, 2, [252, 253, 254, 255, 0]), (1, 0, [10]), (1, 0, [10]), (1, 0, [10]), (1, 0, [10]), (0, 1, [257, 258, 0, 0, 0, 0]), (1, 0, [12]), (1, 0, [40]), (0, 1, [260, 261, 0, 0, 0, 0]), (1, 0, [12]), (1, 0, [40]), (0, 1, [263, 264, 0, 0, 0, 0]), (1, 0, [12]), (1, 0, [40]), (0, 9, [266, 267, 0, 0, 0, 0]), (3, 4, [270, 273, 276]), (0, 2, [268, 269, 270, 271, 0]), (1, 0, [10]), (1, 0, [10]), (1, 0, [10]), (1, 0, [10]), (0, 1, [273, 274, 0, 0, 0, 0]), (1, 0, [12]), (1, 0, [40]), (0, 1, [276, 277, 0, 0, 0, 0]), (1, 0, [12]), (1, 0, [40]), (0, 1, [279, 280, 0, 0, 0, 0]), (1, 0, [12]), (1, 0, [40]), (0, 12, [282, 0, 283, 284, 0, 0, 285, 0, 0, 286, 0, 287, 0, 0, 2, 0, 0, 0, 0, 288, 289, 0, 2, 0, 0, 290, 0, 0, 0, 0, 291, 0, 292, 293, 294, 0, 295, 296, 0, 297, 298, 0, 299, 300, 301, 302, 303, 304, 305, 0, 306, 0, 307, 308, 309]), (1, 0, [166]), (1, 0, [3]), (1, 0, [40]), (1, 0, [48]), (1, 1, [80]), (1, 0, [16]), (1, 0, [42]), (1, 1, [40]), (1, 0, [3]), (1, 0, [2080]), (1, 0, [208]), (1, 0, [3]), (1, 0, [320]), (1, 0, [166]), (1, 0, [2400]), (1, 0, [12]), (1, 0, [50]), (1, 0, [10]), (1, 0, [10]), (1, 0, [10]), (1, 0, [10]), (1, 2, [601]), (1, 0, [2]), (1, 0, [24]), (1, 0, [12]), (1, 0, [414]), (1, 2, [2]), (1, 0, [2]), (2, 3, [1])]
def NG : Nat := 308
def S0 (a : Nat) : SHP := S0L.getD a (1, 0, [0])
abbrev isArr (t len a : Nat) : Prop := a < NG ∧ S0 a = (1, t, [len])
def lenA (a : Nat) : Nat := (S0 a).2.2.headD 0
/-- a loop's own runs: on with .inl, out with .inr -/
def iter {σ ε : Type} (body : σ → Option (σ ⊕ ε)) : Nat → σ → Option ε
  | 0, _ => none
  | n + 1, s => (body s).bind (Sum.elim (iter body n) some)
def FU : Nat := 1000000
def dref (x : Int) : Nat := x.toNat - 1
theorem dref_eq {x : Int} (h : 0 < x) : x = ((dref x : Nat) : Int) + 1 := by unfold dref; omega
theorem inR_ref {r : Nat} (h : r < NG) : InR ((r : Int) + 1) := by unfold NG at h; unfold InR; omega
def cpy (M : MEM) (a b n : Nat) : MEM := fun a' k => if a' = b ∧ k < n then M a k else M a' k
noncomputable def iabs (x : Int) : Int := if 0 ≤ x then x else wr (0 - x)
def ixL : List Int := [104, 112, 116, 102, 99, 109, 107, 105]
/-- where a sign stands in "hptfcmki" -/
def ixOf (x : Int) : Int := if x = 104 then 0 else if x = 112 then 1 else if x = 116 then 2 else if x = 102 then 3 else if x = 99 then 4 else if x = 109 then 5 else if x = 107 then 6 else if x = 105 then 7 else -1
noncomputable def tx_addFour_b26 (x1 : Int) (x2 : Int) (M : MEM) : Option ((Int × MEM) ⊕ (Int × MEM)) :=
if x2 < 0 then
some (.inr (x2, M))
else
if 0 ≤ (M 1 1) ∧ (M 1 1) < 80 then
(some (up2 M 2 ((M 1 1)).toNat (ish i_and (ish i_ushr x1 x2) 255))).bind fun M4 =>
(some (up2 M4 1 1 (wr ((M4 1 1) + 1)))).bind fun M6 =>
some (.inl ((wr (x2 + (-8))), M6))
else none
noncomputable def tx_addFour (x1 : Int) (M : MEM) : Option (Int × MEM) :=
if (M 1 1) < 0 then
some (0, M)
else
if (wr ((M 1 1) + 4)) ≤ 80 then
(iter (fun s => tx_addFour_b26 x1 s.1 s.2) FU (24, M)).bind fun w7 =>
some (1, w7.2)
else
some (0, M)
noncomputable def dh_sign (x1 : Int) (M : MEM) : Option (Int × MEM) :=
(tx_addFour x1 M).bind fun p2 =>
if p2.1 = 0 then
some ((-1), p2.2)
else
some ((p2.2 1 1), p2.2)
noncomputable def tx_cut (x1 : Int) (M : MEM) : Option (Int × MEM) :=
if x1 < 0 then
some (0, M)
else
if x1 ≤ (M 1 1) then
(some (up2 M 1 1 x1)).bind fun M3 =>
some (1, M3)
else
some (0, M)
noncomputable def dh_end (x1 : Int) (M : MEM) : Option (Int × MEM) :=
(tx_cut x1 M).bind fun p2 =>
some (p2.1, p2.2)
noncomputable def be_addPlace (a0 : Nat) (x1 : Int) (M : MEM) : Option (MEM) :=
if 12 ≤ (M a0 2) then
some M
else
if 0 ≤ (M a0 2) ∧ (M a0 2) < 12 then
(some (up2 M (a0 + 1) ((M a0 2)).toNat x1)).bind fun M2 =>
(some (up2 M2 a0 2 (wr ((M2 a0 2) + 1)))).bind fun M4 =>
some M4
else none
noncomputable def be_stall (a0 : Nat) (x1 : Int) (M : MEM) : Option (MEM) :=
(some (up2 M a0 4 x1)).bind fun M1 =>
(some (up2 M1 a0 2 0)).bind fun M2 =>
(some (up2 M2 a0 3 0)).bind fun M3 =>
(some (up2 M3 a0 5 0)).bind fun M4 =>
some M4
noncomputable def tx_next  (M : MEM) : Option (Int) :=
if (M 1 2) < 0 then
some (-1)
else
if (M 1 3) ≤ (M 1 2) then
some (-1)
else
if 80 ≤ (M 1 2) then
some (-1)
else
if 0 ≤ (M 1 2) ∧ (M 1 2) < 80 then
some (M 2 ((M 1 2)).toNat)
else none
noncomputable def tx_digit  (M : MEM) : Option (Int × MEM) :=
(tx_next M).bind fun r2 =>
if r2 < 48 then
some ((-1), M)
else
if r2 ≤ 57 then
(some (up2 M 1 2 (wr ((M 1 2) + 1)))).bind fun M7 =>
some ((wr (r2 - 48)), M7)
else
some ((-1), M)
noncomputable def tx_takes (x1 : Int) (M : MEM) : Option (Int × MEM) :=
(tx_next M).bind fun r2 =>
if r2 = x1 then
(some (up2 M 1 2 (wr ((M 1 2) + 1)))).bind fun M6 =>
some (1, M6)
else
some (0, M)
noncomputable def dh_readLine_b33 (a1 : Nat) (x3 : Int) (M : MEM) : Option ((Int × MEM) ⊕ ((Int × MEM) ⊕ (Int × MEM))) :=
if 12 ≤ x3 then
some (.inr (.inr (x3, M)))
else
(tx_digit M).bind fun p15 =>
if 0 ≤ p15.1 then
(be_addPlace a1 p15.1 p15.2).bind fun M20 =>
some (.inl ((wr (x3 + 1)), M20))
else
if x3 < 4 then
some (.inr (.inl (0, p15.2)))
else
some (.inr (.inl (1, p15.2)))
noncomputable def dh_readLine (a1 : Nat) (M : MEM) : Option (Int × MEM) :=
(tx_digit M).bind fun p2 =>
if p2.1 < 0 then
some (0, p2.2)
else
(tx_takes 58 p2.2).bind fun p7 =>
if p7.1 = 0 then
some (0, p7.2)
else
(be_stall a1 p2.1 p7.2).bind fun M12 =>
(iter (fun s => dh_readLine_b33 a1 s.1 s.2) FU (0, M12)).bind (Sum.elim (fun r => some r) (fun w22 =>
some (1, w22.2)))
noncomputable def tx_isOver  (M : MEM) : Int :=
if (M 1 2) = (M 1 1) then
1
else
0
noncomputable def tx_wrong  (M : MEM) : Int :=
(wr ((-1) - (M 1 2)))
noncomputable def dh_readLines_b8  (x1 : Int) (M : MEM) : Option ((Int × MEM) ⊕ ((Int × MEM) ⊕ (Int × MEM))) :=
if 3 ≤ x1 then
some (.inr (.inr (x1, M)))
else
if 0 ≤ x1 ∧ x1 < 3 then
(dh_readLine (10 + 3 * (x1).toNat) M).bind fun p4 =>
if p4.1 = 0 then
some (.inr (.inl ((tx_wrong p4.2), p4.2)))
else
if (tx_isOver p4.2) = 0 then
(tx_takes 59 p4.2).bind fun p16 =>
if p16.1 = 0 then
some (.inr (.inl ((tx_wrong p16.2), p16.2)))
else
some (.inl ((wr (x1 + 1)), p16.2))
else
some (.inr (.inl ((wr ((wr (x1 + 1)) - (p4.2 3 2))), p4.2)))
else none
noncomputable def dh_readLines  (M : MEM) : Option (Int × MEM) :=
(iter (fun s => dh_readLines_b8  s.1 s.2) FU ((M 3 2), M)).bind (Sum.elim (fun r => some r) (fun w23 =>
some ((tx_wrong w23.2), w23.2)))
noncomputable def hi_clear  (M : MEM) : Option (MEM) :=
(some (up2 M 45 2 0)).bind fun M1 =>
some M1
noncomputable def tx_begin (x1 : Int) (M : MEM) : Option (MEM) :=
(some (up2 M 1 2 0)).bind fun M1 =>
(some (up2 M1 1 3 (min (M1 1 1) x1))).bind fun M2 =>
some M2
noncomputable def tx_empty  (M : MEM) : Option (MEM) :=
(some (up2 M 1 1 0)).bind fun M1 =>
some M1
noncomputable def dh_stable_j27 (s0 : Int) (M : MEM) : Option (Int × MEM) :=
(tx_empty M).bind fun M5 =>
if s0 ≤ 0 then
some (s0, M5)
else
(some (up2 M5 3 2 (wr ((M5 3 2) + s0)))).bind fun M7 =>
(hi_clear M7).bind fun M9 =>
some (s0, M9)
noncomputable def dh_stable  (M : MEM) : Option (Int × MEM) :=
(tx_begin 76 M).bind fun M2 =>
if (M2 1 1) = 0 then
dh_stable_j27 0 M2
else
(dh_readLines M2).bind fun p11 =>
dh_stable_j27 p11.1 p11.2
noncomputable def fl_read_b2  (x2 : Int) (M : MEM) : Option ((Int × MEM) ⊕ (Int × MEM)) :=
if 40 ≤ x2 then
some (.inr (x2, M))
else
(tx_digit M).bind fun p3 =>
if p3.1 < 0 then
some (.inr (x2, p3.2))
else
some (.inl ((wr (x2 + 1)), p3.2))
noncomputable def fl_read_b49  (x2 : Int) (M : MEM) : Option ((Int × MEM) ⊕ (Int × MEM)) :=
if (M 19 1) ≤ x2 then
some (.inr (x2, M))
else
if 40 ≤ x2 then
some (.inr (x2, M))
else
(tx_digit M).bind fun p21 =>
if 0 ≤ x2 ∧ x2 < 40 then
(some (up2 p21.2 20 (x2).toNat p21.1)).bind fun M24 =>
some (.inl ((wr (x2 + 1)), M24))
else none
noncomputable def fl_read_j21  (M : MEM) : Option (Int × MEM) :=
if (tx_isOver M) = 0 then
some ((tx_wrong M), M)
else
(tx_begin 40 M).bind fun M16 =>
(some (up2 M16 19 1 (M16 1 1))).bind fun M17 =>
(iter (fun s => fl_read_b49  s.1 s.2) FU (0, M17)).bind fun w26 =>
some ((w26.2 19 1), w26.2)
noncomputable def fl_read  (M : MEM) : Option (Int × MEM) :=
(iter (fun s => fl_read_b2  s.1 s.2) FU (0, M)).bind fun w7 =>
fl_read_j21  w7.2
noncomputable def dh_flies  (M : MEM) : Option (Int × MEM) :=
(tx_begin 40 M).bind fun M2 =>
(fl_read M2).bind fun p4 =>
(tx_empty p4.2).bind fun M8 =>
some (p4.1, M8)
noncomputable def ru_copy (a0 : Nat) (a1 : Nat) (M : MEM) : Option (MEM) :=
(some (up2 M a0 3 (M a1 3))).bind fun M1 =>
(some (cpy M1 (a1 + 1) (a0 + 1) 40)).bind fun M2 =>
some M2
noncomputable def ru_pop (a0 : Nat) (M : MEM) : Option (Int × MEM) :=
if (M a0 4) < 1 then
some (0, M)
else
if (M a0 4) ≤ 40 then
(some (up2 M a0 4 (wr ((M a0 4) - 1)))).bind fun M3 =>
if 0 ≤ (M3 a0 4) ∧ (M3 a0 4) < 40 then
some ((M3 (a0 + 2) ((M3 a0 4)).toNat), M3)
else none
else
some (0, M)
noncomputable def ru_emit (a0 : Nat) (x1 : Int) (M : MEM) : Option (MEM) :=
if 40 ≤ (M a0 3) then
some M
else
if 0 ≤ (M a0 3) ∧ (M a0 3) < 40 then
(some (up2 M (a0 + 1) ((M a0 3)).toNat x1)).bind fun M2 =>
(some (up2 M2 a0 3 (wr ((M2 a0 3) + 1)))).bind fun M4 =>
some M4
else none
noncomputable def ru_binding (x0 : Int) : Int :=
if x0 = 42 then
3
else
if x0 = 43 then
2
else
if x0 = 45 then
2
else
if x0 = 47 then
3
else
if x0 = 60 then
1
else
if x0 = 61 then
1
else
if x0 = 62 then
1
else
if x0 = 256 then
4
else
0
noncomputable def ru_waiting (a0 : Nat) (M : MEM) : Option (Int) :=
if (M a0 4) ≤ 0 then
some 0
else
if 40 < (M a0 4) then
some 0
else
if 0 ≤ (wr ((M a0 4) - 1)) ∧ (wr ((M a0 4) - 1)) < 40 then
some (ru_binding (M (a0 + 2) ((wr ((M a0 4) - 1))).toNat))
else none
noncomputable def ru_unwind_b5 (a0 : Nat) (x1 : Int) (x2 : Int) (M : MEM) : Option ((Int × MEM) ⊕ (Int × MEM)) :=
if x2 ≤ 0 then
some (.inr (x2, M))
else
(ru_waiting a0 M).bind fun r3 =>
if r3 < x1 then
some (.inr (x2, M))
else
(ru_pop a0 M).bind fun p8 =>
(ru_emit a0 (wr (2000 + p8.1)) p8.2).bind fun M12 =>
some (.inl ((wr (x2 + (-1))), M12))
noncomputable def ru_unwind (a0 : Nat) (x1 : Int) (M : MEM) : Option (MEM) :=
(iter (fun s => ru_unwind_b5 a0 x1 s.1 s.2) FU ((M a0 4), M)).bind fun w13 =>
some w13.2
noncomputable def ru_closeBrackets_b0 (a0 : Nat)  (M : MEM) : Option ((MEM) ⊕ (MEM)) :=
if (M a0 5) ≤ 0 then
some (.inr M)
else
(tx_takes 41 M).bind fun p16 =>
if p16.1 = 0 then
some (.inr p16.2)
else
(ru_unwind a0 1 p16.2).bind fun M21 =>
(ru_pop a0 M21).bind fun p23 =>
(some (up2 p23.2 a0 5 (wr ((p23.2 a0 5) - 1)))).bind fun M26 =>
some (.inl M26)
noncomputable def ru_closeBrackets (a0 : Nat) (M : MEM) : Option (MEM) :=
if (M a0 5) ≤ 0 then
some M
else
(tx_takes 41 M).bind fun p3 =>
if p3.1 = 0 then
some p3.2
else
(ru_unwind a0 1 p3.2).bind fun M8 =>
(ru_pop a0 M8).bind fun p10 =>
(some (up2 p10.2 a0 5 (wr ((p10.2 a0 5) - 1)))).bind fun M13 =>
(iter (fun s => ru_closeBrackets_b0 a0  s) FU M13).bind fun w27 =>
some w27
noncomputable def ru_push (a0 : Nat) (x1 : Int) (M : MEM) : Option (MEM) :=
if (M a0 4) < 0 then
some M
else
if 40 ≤ (M a0 4) then
some M
else
if 0 ≤ (M a0 4) ∧ (M a0 4) < 40 then
(some (up2 M (a0 + 2) ((M a0 4)).toNat x1)).bind fun M3 =>
(some (up2 M3 a0 4 (wr ((M3 a0 4) + 1)))).bind fun M5 =>
some M5
else none
noncomputable def ru_readOperator_j41 (a0 : Nat) (x2 : Int) (M : MEM) : Option (Int × MEM) :=
(ru_push a0 x2 M).bind fun M18 =>
(tx_takes x2 M18).bind fun p20 =>
some (p20.1, p20.2)
noncomputable def ru_readOperator (a0 : Nat) (M : MEM) : Option (Int × MEM) :=
(tx_next M).bind fun r2 =>
if 1 ≤ (ru_binding r2) then
(ru_unwind a0 (max 2 (ru_binding r2)) M).bind fun M10 =>
if (ru_binding r2) = 1 then
(ru_waiting a0 M10).bind fun r13 =>
if r13 = 1 then
some (0, M10)
else
ru_readOperator_j41 a0 r2 M10
else
ru_readOperator_j41 a0 r2 M10
else
some (0, M)
noncomputable def ru_readAhead_j64_2 (a0 : Nat) (x2 : Int) (M : MEM) : Option ((Int × MEM) ⊕ ((MEM) ⊕ (Int × MEM))) :=
some (.inl ((wr (x2 + 1)), M))
noncomputable def ru_readAhead_b2 (a0 : Nat) (x2 : Int) (M : MEM) : Option ((Int × MEM) ⊕ ((MEM) ⊕ (Int × MEM))) :=
if 40 ≤ x2 then
some (.inr (.inr (x2, M)))
else
(tx_takes 45 M).bind fun p3 =>
if p3.1 = 0 then
if 4 ≤ (p3.2 a0 5) then
some (.inr (.inl p3.2))
else
(tx_takes 40 p3.2).bind fun p9 =>
if p9.1 = 0 then
some (.inr (.inl p9.2))
else
(ru_push a0 40 p9.2).bind fun M14 =>
(some (up2 M14 a0 5 (wr ((M14 a0 5) + 1)))).bind fun M15 =>
ru_readAhead_j64_2 a0 x2 M15
else
(ru_push a0 256 p3.2).bind fun M17 =>
ru_readAhead_j64_2 a0 x2 M17
noncomputable def ru_readAhead (a0 : Nat) (M : MEM) : Option (MEM) :=
(iter (fun s => ru_readAhead_b2 a0 s.1 s.2) FU (0, M)).bind (Sum.elim (fun r => some r) (fun w18 =>
some w18.2))
noncomputable def tx_number_b7 (x1 : Int) (x2 : Int) (x3 : Int) (M : MEM) : Option ((Int × Int × MEM) ⊕ ((Int × MEM) ⊕ (Int × Int × MEM))) :=
if x1 ≤ x3 then
some (.inr (.inr (x2, x3, M)))
else
if x2 < 0 then
some (.inr (.inr (x2, x3, M)))
else
(tx_digit M).bind fun p8 =>
if 0 ≤ p8.1 then
some (.inl ((wr ((wr (x2 * 10)) + p8.1)), (wr (x3 + 1)), p8.2))
else
some (.inr (.inl (x2, p8.2)))
noncomputable def tx_number (x1 : Int) (M : MEM) : Option (Int × MEM) :=
(tx_digit M).bind fun p2 =>
(iter (fun s => tx_number_b7 x1 s.1 s.2.1 s.2.2) FU (p2.1, 1, p2.2)).bind (Sum.elim (fun r => some r) (fun w12 =>
some (w12.1, w12.2.2)))
noncomputable def ru_readThing_j42 (a0 : Nat) (x3 : Int) (s0 : Int) (M : MEM) : Option (Int × MEM) :=
if 0 ≤ s0 then
(tx_takes x3 M).bind fun p15 =>
(ru_emit a0 (wr (1000 + s0)) p15.2).bind fun M19 =>
some (1, M19)
else
some (0, M)
noncomputable def ru_readThing (a0 : Nat) (M : MEM) : Option (Int × MEM) :=
(ru_readAhead a0 M).bind fun M2 =>
(tx_number 3 M2).bind fun p4 =>
if p4.1 < 0 then
(tx_next p4.2).bind fun r9 =>
if 0 ≤ r9 then
ru_readThing_j42 a0 r9 (ixOf (zx16 r9)) p4.2
else
ru_readThing_j42 a0 r9 (-1) p4.2
else
(ru_emit a0 p4.1 p4.2).bind fun M21 =>
some (1, M21)
noncomputable def ru_read_b26 (a0 : Nat) (x2 : Int) (M : MEM) : Option ((Int × MEM) ⊕ ((Int × MEM) ⊕ (Int × MEM))) :=
if 40 ≤ x2 then
some (.inr (.inr (x2, M)))
else
(ru_readThing a0 M).bind fun p10 =>
if p10.1 = 0 then
some (.inr (.inl (0, p10.2)))
else
(ru_closeBrackets a0 p10.2).bind fun M15 =>
if (tx_isOver M15) = 0 then
(ru_readOperator a0 M15).bind fun p21 =>
if p21.1 = 0 then
some (.inr (.inl (0, p21.2)))
else
some (.inl ((wr (x2 + 1)), p21.2))
else
(ru_unwind a0 1 M15).bind fun M26 =>
if (M26 a0 5) = 0 then
some (.inr (.inl (1, M26)))
else
some (.inr (.inl (0, M26)))
noncomputable def ru_read (a0 : Nat) (M : MEM) : Option (Int × MEM) :=
(some (up2 M a0 3 0)).bind fun M1 =>
(some (up2 M1 a0 4 0)).bind fun M2 =>
(some (up2 M2 a0 5 0)).bind fun M3 =>
if (tx_isOver M3) = 0 then
(iter (fun s => ru_read_b26 a0 s.1 s.2) FU (0, M3)).bind (Sum.elim (fun r => some r) (fun w28 =>
some (0, w28.2)))
else
some (1, M3)
noncomputable def dh_rule  (M : MEM) : Option (Int × MEM) :=
(tx_begin 40 M).bind fun M2 =>
(ru_read 25 M2).bind fun p4 =>
(tx_empty p4.2).bind fun M11 =>
if p4.1 = 0 then
some ((tx_wrong p4.2), M11)
else
(ru_copy 21 25 M11).bind fun M14 =>
some (0, M14)
noncomputable def be_thistlesOn (a0 : Nat) (x1 : Int) (M : MEM) : Option (Int) :=
if x1 < 0 then
some 0
else
if 12 ≤ x1 then
some 0
else
if 0 ≤ x1 ∧ x1 < 12 then
some (M (a0 + 1) (x1).toNat)
else none
noncomputable def dh_isDonkey (x1 : Int) (M : MEM) : Int :=
if x1 < 0 then
0
else
if (M 3 2) ≤ x1 then
0
else
if 3 ≤ x1 then
0
else
1
noncomputable def dh_isPlace (x1 : Int) (x2 : Int) (M : MEM) : Option (Int) :=
if (dh_isDonkey x1 M) = 0 then
some 0
else
if x2 < 0 then
some 0
else
if 0 ≤ x1 ∧ x1 < 3 then
if (M (10 + 3 * (x1).toNat) 2) ≤ x2 then
some 0
else
some 1
else none
noncomputable def dh_thistles (x1 : Int) (x2 : Int) (M : MEM) : Option (Int) :=
(dh_isPlace x1 x2 M).bind fun r2 =>
if r2 = 0 then
some (-1)
else
if 0 ≤ x1 ∧ x1 < 3 then
(be_thistlesOn (10 + 3 * (x1).toNat) x2 M).bind fun r8 =>
some r8
else none
noncomputable def be_put (a0 : Nat) (x1 : Int) (x2 : Int) (M : MEM) : Option (MEM) :=
if x1 < 0 then
some M
else
if 12 ≤ x1 then
some M
else
if 0 ≤ x1 ∧ x1 < 12 then
(some (up2 M (a0 + 1) (x1).toNat x2)).bind fun M3 =>
some M3
else none
noncomputable def dh_sow (x1 : Int) (x2 : Int) (x3 : Int) (M : MEM) : Option (Int × MEM) :=
(dh_isPlace x1 x2 M).bind fun r2 =>
if r2 = 0 then
some ((-1), M)
else
if x3 < 0 then
some ((-1), M)
else
if x3 ≤ 9 then
if 0 ≤ x1 ∧ x1 < 3 then
(be_thistlesOn (10 + 3 * (x1).toNat) x2 M).bind fun r10 =>
(be_put (10 + 3 * (x1).toNat) x2 x3 M).bind fun M14 =>
some (r10, M14)
else none
else
some ((-1), M)
noncomputable def dh_setHunger (x1 : Int) (x2 : Int) (M : MEM) : Option (Int × MEM) :=
if (dh_isDonkey x1 M) = 0 then
some ((-1), M)
else
if x2 < 0 then
some ((-1), M)
else
if x2 ≤ 9 then
if 0 ≤ x1 ∧ x1 < 3 then
(some (up2 M (10 + 3 * (x1).toNat) 4 x2)).bind fun M8 =>
some ((M (10 + 3 * (x1).toNat) 4), M8)
else none
else
some ((-1), M)
noncomputable def dh_set (x1 : Int) (x2 : Int) (x3 : Int) (M : MEM) : Option (Int × MEM) :=
if x2 = 0 then
(dh_setHunger x1 x3 M).bind fun p3 =>
some (p3.1, p3.2)
else
if x2 = 1 then
(dh_isPlace x1 x3 M).bind fun r8 =>
if r8 = 0 then
some ((-1), M)
else
if 0 ≤ x1 ∧ x1 < 3 then
(some (up2 M (10 + 3 * (x1).toNat) 3 x3)).bind fun M13 =>
some ((M (10 + 3 * (x1).toNat) 3), M13)
else none
else
some ((-1), M)
noncomputable def be_allThistles_b4 (a0 : Nat) (x1 : Int) (x2 : Int) (M : MEM) : Option ((Int × Int) ⊕ (Int × Int)) :=
if (M a0 2) ≤ x2 then
some (.inr (x1, x2))
else
(be_thistlesOn a0 x2 M).bind fun r3 =>
some (.inl ((wr (x1 + r3)), (wr (x2 + 1))))
noncomputable def be_allThistles (a0 : Nat) (M : MEM) : Option (Int) :=
(iter (fun s => be_allThistles_b4 a0 s.1 s.2 M) FU (0, 0)).bind fun w6 =>
some w6.1
noncomputable def dh_entryOf_j20 (s0 : Int) : Int :=
(max 0 (min 9 s0))
noncomputable def dh_entryOf (x0 : Int) (x1 : Int) : Int :=
if x0 = 0 then
dh_entryOf_j20 (sx8 x1)
else
if x0 = 1 then
dh_entryOf_j20 (sx16 x1)
else
dh_entryOf_j20 x1
noncomputable def dh_sheet_j101_66 (x1 : Int) (x2 : Int) (x4 : Int) (x5 : Int) (x7 : Int) (x8 : Int) (s1 : Int) (s2 : Int) (M : MEM) : Option ((Int × Int × MEM) ⊕ (Int × Int × MEM)) :=
(be_put 10 s1 s2 M).bind fun M15 =>
some (.inl ((wr (x7 + x4)), (wr (x8 + 1)), M15))
noncomputable def dh_sheet_j100_66 (x1 : Int) (x2 : Int) (x4 : Int) (x5 : Int) (x7 : Int) (x8 : Int) (s1 : Int) (M : MEM) : Option ((Int × Int × MEM) ⊕ (Int × Int × MEM)) :=
dh_sheet_j101_66 x1 x2 x4 x5 x7 x8 s1 0 M
noncomputable def dh_sheet_b66 (x1 : Int) (x2 : Int) (x4 : Int) (x5 : Int) (x7 : Int) (x8 : Int) (M : MEM) : Option ((Int × Int × MEM) ⊕ (Int × Int × MEM)) :=
if (M 10 2) ≤ x8 then
some (.inr (x7, x8, M))
else
if x5 = 0 then
if x2 ≤ x8 then
dh_sheet_j100_66 x1 x2 x4 x5 x7 x8 x8 M
else
dh_sheet_j101_66 x1 x2 x4 x5 x7 x8 x8 (dh_entryOf x1 x7) M
else
dh_sheet_j100_66 x1 x2 x4 x5 x7 x8 x8 M
noncomputable def dh_sheet_j49 (x1 : Int) (x2 : Int) (x3 : Int) (x4 : Int) (x5 : Int) (M : MEM) : Option (Int × MEM) :=
(iter (fun s => dh_sheet_b66 x1 x2 x4 x5 s.1 s.2.1 s.2.2) FU (x3, 0, M)).bind fun w19 =>
if x5 = 0 then
(be_allThistles 10 w19.2.2).bind fun r22 =>
some (r22, w19.2.2)
else
some ((-3), w19.2.2)
noncomputable def dh_sheet_j35 (x1 : Int) (x2 : Int) (x3 : Int) (x4 : Int) (s0 : Int) (M : MEM) : Option (Int × MEM) :=
if s0 = 0 then
if 0 ≤ x2 then
dh_sheet_j49 x1 x2 x3 x4 s0 M
else
some ((-2), M)
else
dh_sheet_j49 x1 x2 x3 x4 s0 M
noncomputable def dh_sheet (x1 : Int) (x2 : Int) (x3 : Int) (x4 : Int) (M : MEM) : Option (Int × MEM) :=
if x1 < 0 then
some ((-1), M)
else
if 3 < x1 then
some ((-1), M)
else
if 12 < x2 then
some ((-1), M)
else
if (dh_isDonkey 0 M) = 0 then
some ((-1), M)
else
if x1 = 3 then
dh_sheet_j35 x1 x2 x3 x4 1 M
else
dh_sheet_j35 x1 x2 x3 x4 0 M
noncomputable def ca_add (a0 : Nat) (x1 : Int) (x2 : Int) (x3 : Int) (x4 : Int) (M : MEM) : Option (Int × MEM) :=
if (M a0 4) < 0 then
some (0, M)
else
if (M a0 4) < 10 then
if 0 ≤ (M a0 4) ∧ (M a0 4) < 10 then
(some (up2 M (a0 + 1) ((M a0 4)).toNat x1)).bind fun M3 =>
if 0 ≤ (M3 a0 4) ∧ (M3 a0 4) < 10 then
(some (up2 M3 (a0 + 2) ((M3 a0 4)).toNat x2)).bind fun M5 =>
if 0 ≤ (M5 a0 4) ∧ (M5 a0 4) < 10 then
(some (up2 M5 (a0 + 3) ((M5 a0 4)).toNat x3)).bind fun M7 =>
if 0 ≤ (M7 a0 4) ∧ (M7 a0 4) < 10 then
(some (up2 M7 (a0 + 4) ((M7 a0 4)).toNat x4)).bind fun M9 =>
(some (up2 M9 a0 4 (wr ((M9 a0 4) + 1)))).bind fun M11 =>
some (1, M11)
else none
else none
else none
else none
else
some (0, M)
noncomputable def dh_isWay (x0 : Int) : Int :=
if x0 = 1 then
1
else
if x0 = (-1) then
1
else
0
noncomputable def dh_carrot (x1 : Int) (x2 : Int) (x3 : Int) (x4 : Int) (M : MEM) : Option (Int × MEM) :=
if (dh_isDonkey x1 M) = 0 then
some ((-1), M)
else
if (dh_isWay x4) = 0 then
some ((-1), M)
else
if x2 < 0 then
some ((-1), M)
else
if x3 < x2 then
some ((-1), M)
else
if x3 ≤ 9999 then
(ca_add 5 x1 x2 x3 x4 M).bind fun p13 =>
if p13.1 = 0 then
some ((-2), p13.2)
else
some ((M 5 4), p13.2)
else
some ((-1), M)
noncomputable def ca_dropLatest (a0 : Nat) (M : MEM) : Option (Int × MEM) :=
if 1 ≤ (M a0 4) then
(some (up2 M a0 4 (wr ((M a0 4) - 1)))).bind fun M2 =>
some (1, M2)
else
some (0, M)
noncomputable def dh_eat  (M : MEM) : Option (Int × MEM) :=
(ca_dropLatest 5 M).bind fun p2 =>
if p2.1 = 0 then
some ((-1), p2.2)
else
some ((p2.2 5 4), p2.2)
noncomputable def dh_newRow  (M : MEM) : Option (MEM) :=
(some (up2 M 0 14 0)).bind fun M1 =>
some M1
noncomputable def jm_floorMod (x0 : Int) (x1 : Int) : Option (Int) :=
if x1 = 0 then none else
if 0 ≤ (ish i_xor x0 x1) then
some (Int.tmod x0 x1)
else
if (Int.tmod x0 x1) = 0 then
some (Int.tmod x0 x1)
else
some (wr ((Int.tmod x0 x1) + x1))
noncomputable def be_enter (a0 : Nat) (x1 : Int) (M : MEM) : Option (MEM) :=
(jm_floorMod (M a0 5) 40).bind fun r2 =>
if 0 ≤ r2 ∧ r2 < 40 then
(some (up2 M (a0 + 2) (r2).toNat x1)).bind fun M5 =>
some M5
else none
noncomputable def be_walk_j132_13 (a0 : Nat) (x1 : Int) (x2 : Int) (x3 : Int) (M : MEM) : Option ((Int × Int × MEM) ⊕ (Int × Int × MEM)) :=
some (.inl (x2, (wr (x3 + 1)), M))
noncomputable def be_walk_j87_13 (a0 : Nat) (x1 : Int) (x2 : Int) (x3 : Int) (M : MEM) : Option ((Int × Int × MEM) ⊕ (Int × Int × MEM)) :=
(be_thistlesOn a0 (M a0 3) M).bind fun r10 =>
if r10 ≤ 0 then
be_walk_j132_13 a0 x1 x2 x3 M
else
(be_put a0 (M a0 3) (wr (r10 - 1)) M).bind fun M15 =>
(some (up2 M15 a0 4 (max 0 (wr ((M15 a0 4) - 2))))).bind fun M16 =>
be_walk_j132_13 a0 x1 (ish i_or x2 2) x3 M16
noncomputable def be_walk_j48_13 (a0 : Nat) (x1 : Int) (x2 : Int) (x3 : Int) (s1 : Int) (M : MEM) : Option ((Int × Int × MEM) ⊕ (Int × Int × MEM)) :=
(some (up2 M a0 3 s1)).bind fun M5 =>
if (M5 a0 3) = 0 then
(some (up2 M5 a0 5 (wr ((M5 a0 5) + 1)))).bind fun M7 =>
(some (up2 M7 a0 4 (min 9 (wr ((M7 a0 4) + 1))))).bind fun M8 =>
be_walk_j87_13 a0 x1 (ish i_or x2 1) x3 M8
else
be_walk_j87_13 a0 x1 x2 x3 M5
noncomputable def be_walk_b13 (a0 : Nat) (x1 : Int) (x2 : Int) (x3 : Int) (M : MEM) : Option ((Int × Int × MEM) ⊕ (Int × Int × MEM)) :=
if x1 ≤ x3 then
some (.inr (x2, x3, M))
else
if (ish i_and x2 2) = 0 then
if (M a0 2) ≤ (wr ((M a0 3) + 1)) then
be_walk_j48_13 a0 x1 x2 x3 0 M
else
be_walk_j48_13 a0 x1 x2 x3 (wr ((M a0 3) + 1)) M
else
some (.inr (x2, x3, M))
noncomputable def be_walk_j10 (a0 : Nat) (x1 : Int) (s0 : Int) (M : MEM) : Option (Int × MEM) :=
(iter (fun s => be_walk_b13 a0 x1 s.1 s.2.1 s.2.2) FU (s0, 0, M)).bind fun w17 =>
some (w17.1, w17.2.2)
noncomputable def be_walk (a0 : Nat) (x1 : Int) (M : MEM) : Option (Int × MEM) :=
if 1 ≤ x1 then
be_walk_j10 a0 x1 0 M
else
be_walk_j10 a0 x1 4 M
noncomputable def ca_pull_j64_5 (a0 : Nat) (x1 : Int) (x2 : Int) (x3 : Int) (x4 : Int) (M : MEM) : Option ((Int × Int) ⊕ (Int × Int)) :=
some (.inl (x3, (wr (x4 + 1))))
noncomputable def ca_pull_b5 (a0 : Nat) (x1 : Int) (x2 : Int) (x3 : Int) (x4 : Int) (M : MEM) : Option ((Int × Int) ⊕ (Int × Int)) :=
if (M a0 4) ≤ x4 then
some (.inr (x3, x4))
else
if 10 ≤ x4 then
some (.inr (x3, x4))
else
if 0 ≤ x4 ∧ x4 < 10 then
if (M (a0 + 1) (x4).toNat) = x1 then
if 0 ≤ x4 ∧ x4 < 10 then
if x2 < (M (a0 + 2) (x4).toNat) then
ca_pull_j64_5 a0 x1 x2 x3 x4 M
else
if 0 ≤ x4 ∧ x4 < 10 then
if (M (a0 + 3) (x4).toNat) < x2 then
ca_pull_j64_5 a0 x1 x2 x3 x4 M
else
if 0 ≤ x4 ∧ x4 < 10 then
ca_pull_j64_5 a0 x1 x2 (wr (x3 + (M (a0 + 4) (x4).toNat))) x4 M
else none
else none
else none
else
ca_pull_j64_5 a0 x1 x2 x3 x4 M
else none
noncomputable def ca_pull (a0 : Nat) (x1 : Int) (x2 : Int) (M : MEM) : Option (Int) :=
(iter (fun s => ca_pull_b5 a0 x1 x2 s.1 s.2 M) FU (0, 0)).bind fun w10 =>
some w10.1
noncomputable def fl_in (x1 : Int) (M : MEM) : Option (Int) :=
if 1 ≤ (M 19 1) then
(jm_floorMod x1 (M 19 1)).bind fun r3 =>
if 40 ≤ r3 then
some 0
else
if 0 ≤ r3 ∧ r3 < 40 then
some (M 20 (r3).toNat)
else none
else
some 0
noncomputable def ru_give (a0 : Nat) (a1 : Nat) (x2 : Int) (x3 : Int) (x4 : Int) (x5 : Int) (M : MEM) : Option (MEM) :=
(some (up2 M (a0 + 3) 0 (M a1 4))).bind fun M1 =>
(some (up2 M1 (a0 + 3) 1 (M1 a1 3))).bind fun M2 =>
(be_thistlesOn a1 (M2 a1 3) M2).bind fun r4 =>
(some (up2 M2 (a0 + 3) 2 r4)).bind fun M7 =>
(some (up2 M7 (a0 + 3) 3 x2)).bind fun M8 =>
(some (up2 M8 (a0 + 3) 4 x3)).bind fun M9 =>
(some (up2 M9 (a0 + 3) 5 x4)).bind fun M10 =>
(some (up2 M10 (a0 + 3) 6 (Int.tmod (M10 a1 5) 12))).bind fun M11 =>
(some (up2 M11 (a0 + 3) 7 x5)).bind fun M12 =>
some M12
noncomputable def ru_combine (x0 : Int) (x1 : Int) (x2 : Int) : Option (Int) :=
if x0 = 42 then
some (wr (x1 * x2))
else
if x0 = 43 then
some (wr (x1 + x2))
else
if x0 = 45 then
some (wr (x1 - x2))
else
if x0 = 47 then
if x2 = 0 then
some 0
else
if x2 = 0 then none else
some (wr (Int.tdiv x1 x2))
else
if x0 = 60 then
if x2 ≤ x1 then
some 0
else
some 1
else
if x0 = 62 then
if x1 ≤ x2 then
some 0
else
some 1
else
if x1 = x2 then
some 1
else
some 0
noncomputable def ru_pace_j126_16 (a0 : Nat) (x1 : Int) (M : MEM) : Option ((Int × MEM) ⊕ (Int × MEM)) :=
some (.inl ((wr (x1 + 1)), M))
noncomputable def ru_pace_b16 (a0 : Nat) (x1 : Int) (M : MEM) : Option ((Int × MEM) ⊕ (Int × MEM)) :=
if (M a0 3) ≤ x1 then
some (.inr (x1, M))
else
if 40 ≤ x1 then
some (.inr (x1, M))
else
if 0 ≤ x1 ∧ x1 < 40 then
if 1000 ≤ (M (a0 + 1) (x1).toNat) then
if (wr (1000 + 8)) ≤ (M (a0 + 1) (x1).toNat) then
if (M (a0 + 1) (x1).toNat) = 2256 then
(ru_pop a0 M).bind fun p10 =>
(ru_push a0 (wr (-p10.1)) p10.2).bind fun M14 =>
ru_pace_j126_16 a0 x1 M14
else
(ru_pop a0 M).bind fun p16 =>
(ru_pop a0 p16.2).bind fun p20 =>
(ru_combine (wr ((M (a0 + 1) (x1).toNat) - 2000)) p20.1 p16.1).bind fun r24 =>
(ru_push a0 r24 p20.2).bind fun M28 =>
ru_pace_j126_16 a0 x1 M28
else
if 0 ≤ (wr ((M (a0 + 1) (x1).toNat) - 1000)) ∧ (wr ((M (a0 + 1) (x1).toNat) - 1000)) < 8 then
(ru_push a0 (M (a0 + 3) ((wr ((M (a0 + 1) (x1).toNat) - 1000))).toNat) M).bind fun M31 =>
ru_pace_j126_16 a0 x1 M31
else none
else
(ru_push a0 (M (a0 + 1) (x1).toNat) M).bind fun M33 =>
ru_pace_j126_16 a0 x1 M33
else none
noncomputable def ru_pace_j132 (a0 : Nat) (M : MEM) : Option (Int × MEM) :=
(ru_pop a0 M).bind fun p36 =>
some ((max 0 (min 4 p36.1)), p36.2)
noncomputable def ru_pace (a0 : Nat) (M : MEM) : Option (Int × MEM) :=
if (M a0 3) = 0 then
some (1, M)
else
(some (up2 M a0 4 0)).bind fun M2 =>
(iter (fun s => ru_pace_b16 a0 s.1 s.2) FU (0, M2)).bind fun w34 =>
ru_pace_j132 a0 w34.2
noncomputable def dh_paceNow (a1 : Nat) (x2 : Int) (M : MEM) : Option (Int × MEM) :=
(fl_in (M 3 3) M).bind fun r2 =>
(ca_pull 5 x2 (M 3 3) M).bind fun r6 =>
(ru_give 21 a1 r2 r6 (M 3 3) x2 M).bind fun M10 =>
(ru_pace 21 M10).bind fun p12 =>
some (p12.1, p12.2)
noncomputable def dh_pass_j88_4 (x1 : Int) (x2 : Int) (M : MEM) : Option ((Int × Int × MEM) ⊕ (Int × Int × MEM)) :=
some (.inl (x1, (wr (x2 + 1)), M))
noncomputable def dh_pass_j73_4 (x1 : Int) (x2 : Int) (x4 : Int) (M : MEM) : Option ((Int × Int × MEM) ⊕ (Int × Int × MEM)) :=
if (ish i_and x4 4) = 0 then
dh_pass_j88_4 x1 x2 M
else
dh_pass_j88_4 (ish i_or x1 (ish i_shl 1 (wr (x2 + 3)))) x2 M
noncomputable def dh_pass_j60_4 (x1 : Int) (x2 : Int) (x4 : Int) (M : MEM) : Option ((Int × Int × MEM) ⊕ (Int × Int × MEM)) :=
if (ish i_and x4 2) = 0 then
dh_pass_j73_4 x1 x2 x4 M
else
dh_pass_j73_4 (ish i_or x1 (ish i_shl 1 x2)) x2 x4 M
noncomputable def dh_pass_b4  (x1 : Int) (x2 : Int) (M : MEM) : Option ((Int × Int × MEM) ⊕ (Int × Int × MEM)) :=
if (M 3 2) ≤ x2 then
some (.inr (x1, x2, M))
else
if 3 ≤ x2 then
some (.inr (x1, x2, M))
else
if 0 ≤ x2 ∧ x2 < 3 then
(dh_paceNow (10 + 3 * (x2).toNat) x2 M).bind fun p5 =>
(be_walk (10 + 3 * (x2).toNat) p5.1 p5.2).bind fun p9 =>
if (ish i_and p9.1 1) = 0 then
dh_pass_j60_4 x1 x2 p9.1 p9.2
else
(be_enter (10 + 3 * (x2).toNat) (p9.2 3 3) p9.2).bind fun M16 =>
dh_pass_j60_4 x1 x2 p9.1 M16
else none
noncomputable def dh_pass_j94 (x1 : Int) (M : MEM) : Option (Int × MEM) :=
(some (up2 M 3 3 (wr ((M 3 3) + 1)))).bind fun M18 =>
some (x1, M18)
noncomputable def dh_pass  (M : MEM) : Option (Int × MEM) :=
(iter (fun s => dh_pass_b4  s.1 s.2.1 s.2.2) FU (0, 0, M)).bind fun w17 =>
dh_pass_j94 w17.1 w17.2.2
noncomputable def dh_tell (x1 : Int) (M : MEM) : Option (MEM) :=
if 4 ≤ (M 0 14) then
some M
else
if 0 ≤ (M 0 14) ∧ (M 0 14) < 4 then
(some (up2 M 245 ((M 0 14)).toNat x1)).bind fun M2 =>
(some (up2 M2 0 14 (wr ((M2 0 14) + 1)))).bind fun M4 =>
some M4
else none
noncomputable def hi_commit  (M : MEM) : Option (MEM) :=
if 10 ≤ (M 45 2) then
(jm_floorMod (wr ((M 45 1) + 1)) 11).bind fun r3 =>
(some (up2 M 45 1 r3)).bind fun M6 =>
some M6
else
(some (up2 M 45 2 (wr ((M 45 2) + 1)))).bind fun M7 =>
some M7
noncomputable def ca_copy (a0 : Nat) (a1 : Nat) (M : MEM) : Option (MEM) :=
(some (up2 M a0 4 (M a1 4))).bind fun M1 =>
(some (cpy M1 (a1 + 1) (a0 + 1) 10)).bind fun M2 =>
(some (cpy M2 (a1 + 2) (a0 + 2) 10)).bind fun M3 =>
(some (cpy M3 (a1 + 3) (a0 + 3) 10)).bind fun M4 =>
(some (cpy M4 (a1 + 4) (a0 + 4) 10)).bind fun M5 =>
some M5
noncomputable def be_copyButBook (a0 : Nat) (a1 : Nat) (M : MEM) : Option (MEM) :=
(some (up2 M a0 2 (M a1 2))).bind fun M1 =>
(some (up2 M1 a0 3 (M1 a1 3))).bind fun M2 =>
(some (up2 M2 a0 4 (M2 a1 4))).bind fun M3 =>
(some (up2 M3 a0 5 (M3 a1 5))).bind fun M4 =>
(some (cpy M4 (a1 + 1) (a0 + 1) 12)).bind fun M5 =>
some M5
noncomputable def be_copy (a0 : Nat) (a1 : Nat) (M : MEM) : Option (MEM) :=
(be_copyButBook a0 a1 M).bind fun M2 =>
(some (cpy M2 (a1 + 2) (a0 + 2) 40)).bind fun M3 =>
some M3
noncomputable def sc_copyWalk_b18 (a0 : Nat) (a1 : Nat) (x2 : Int) (M : MEM) : Option ((Int × MEM) ⊕ (Int × MEM)) :=
if (M a0 2) ≤ x2 then
some (.inr (x2, M))
else
if 3 ≤ x2 then
some (.inr (x2, M))
else
if 0 ≤ x2 ∧ x2 < 3 then
if 0 ≤ x2 ∧ x2 < 3 then
(be_copy (a0 + 7 + 3 * (x2).toNat) (a1 + 7 + 3 * (x2).toNat) M).bind fun M8 =>
some (.inl ((wr (x2 + 1)), M8))
else none
else none
noncomputable def sc_copyWalk (a0 : Nat) (a1 : Nat) (M : MEM) : Option (MEM) :=
(some (up2 M a0 2 (M a1 2))).bind fun M1 =>
(some (up2 M1 a0 3 (M1 a1 3))).bind fun M2 =>
(iter (fun s => sc_copyWalk_b18 a0 a1 s.1 s.2) FU (0, M2)).bind fun w9 =>
some w9.2
noncomputable def hi_prepare (a1 : Nat) (x2 : Int) (M : MEM) : Option (MEM) :=
(jm_floorMod (wr ((M 45 1) + (M 45 2))) 11).bind fun r2 =>
if 0 ≤ r2 ∧ r2 < 11 then
(sc_copyWalk (47 + 16 * (r2).toNat) a1 M).bind fun M7 =>
(ca_copy ((47 + 16 * (r2).toNat) + 2) (a1 + 2) M7).bind fun M9 =>
if x2 = 0 ∨ x2 = 1 then
(some (up2 M9 (47 + 16 * (r2).toNat) 5 x2)).bind fun M10 =>
some M10
else none
else none
noncomputable def sc_allStrokes_b4 (a0 : Nat) (x1 : Int) (x2 : Int) (M : MEM) : Option ((Int × Int) ⊕ (Int × Int)) :=
if (M a0 2) ≤ x2 then
some (.inr (x1, x2))
else
if 3 ≤ x2 then
some (.inr (x1, x2))
else
if 0 ≤ x2 ∧ x2 < 3 then
some (.inl ((wr (x1 + (M (a0 + 7 + 3 * (x2).toNat) 5))), (wr (x2 + 1))))
else none
noncomputable def sc_allStrokes (a0 : Nat) (M : MEM) : Option (Int) :=
(iter (fun s => sc_allStrokes_b4 a0 s.1 s.2 M) FU (0, 0)).bind fun w4 =>
some w4.1
noncomputable def dh_minute  (M : MEM) : Option (Int × MEM) :=
(sc_allStrokes 3 M).bind fun r2 =>
(hi_prepare 3 0 M).bind fun M6 =>
(hi_commit M6).bind fun M8 =>
(dh_pass M8).bind fun p10 =>
(dh_newRow p10.2).bind fun M14 =>
(dh_tell (ish i_and p10.1 7) M14).bind fun M16 =>
(dh_tell (ish i_shr p10.1 3) M16).bind fun M18 =>
(sc_allStrokes 3 M18).bind fun r20 =>
some ((wr (r20 - r2)), M18)
noncomputable def dh_passMany_b2 (x1 : Int) (x2 : Int) (M : MEM) : Option ((Int × MEM) ⊕ (Int × MEM)) :=
if x1 ≤ x2 then
some (.inr (x2, M))
else
(dh_pass M).bind fun p3 =>
some (.inl ((wr (x2 + 1)), p3.2))
noncomputable def dh_passMany (x1 : Int) (M : MEM) : Option (MEM) :=
(iter (fun s => dh_passMany_b2 x1 s.1 s.2) FU (0, M)).bind fun w6 =>
some w6.2
noncomputable def sc_allThistles_b4 (a0 : Nat) (x1 : Int) (x2 : Int) (M : MEM) : Option ((Int × Int) ⊕ (Int × Int)) :=
if (M a0 2) ≤ x2 then
some (.inr (x1, x2))
else
if 3 ≤ x2 then
some (.inr (x1, x2))
else
if 0 ≤ x2 ∧ x2 < 3 then
(be_allThistles (a0 + 7 + 3 * (x2).toNat) M).bind fun r5 =>
some (.inl ((wr (x1 + r5)), (wr (x2 + 1))))
else none
noncomputable def sc_allThistles (a0 : Nat) (M : MEM) : Option (Int) :=
(iter (fun s => sc_allThistles_b4 a0 s.1 s.2 M) FU (0, 0)).bind fun w8 =>
some w8.1
noncomputable def dh_minutes_b55 (x1 : Int) (x2 : Int) (x3 : Int) (x4 : Int) (M : MEM) : Option ((Int × MEM) ⊕ (Int × MEM)) :=
if (M 3 2) ≤ x4 then
some (.inr (x4, M))
else
if 3 ≤ x4 then
some (.inr (x4, M))
else
if 0 ≤ x4 ∧ x4 < 3 then
if 0 ≤ x4 ∧ x4 < 12 then
(some (up2 M 244 (x4).toNat (M (10 + 3 * (x4).toNat) 5))).bind fun M15 =>
some (.inl ((wr (x4 + 1)), M15))
else none
else none
noncomputable def dh_minutes_b124 (x2 : Int) (x4 : Int) (M : MEM) : Option ((Int × MEM) ⊕ (Int × MEM)) :=
if (M 3 2) ≤ x4 then
some (.inr (x4, M))
else
if 3 ≤ x4 then
some (.inr (x4, M))
else
if 0 ≤ x4 ∧ x4 < 3 then
if 0 ≤ x4 ∧ x4 < 12 then
(dh_tell (wr ((M (10 + 3 * (x4).toNat) 5) - (M 244 (x4).toNat))) M).bind fun M33 =>
some (.inl ((wr (x4 + 1)), M33))
else none
else none
noncomputable def dh_minutes_j173 (x2 : Int) (M : MEM) : Option (Int × MEM) :=
(sc_allStrokes 3 M).bind fun r36 =>
some ((wr (r36 - x2)), M)
noncomputable def dh_minutes_j99 (x1 : Int) (x2 : Int) (x3 : Int) (M : MEM) : Option (Int × MEM) :=
(dh_passMany x1 M).bind fun M19 =>
(dh_newRow M19).bind fun M21 =>
(sc_allThistles 3 M21).bind fun r23 =>
(dh_tell (wr (x3 - r23)) M21).bind fun M27 =>
(iter (fun s => dh_minutes_b124 x2 s.1 s.2) FU (0, M27)).bind fun w34 =>
dh_minutes_j173 x2 w34.2
noncomputable def dh_minutes_j36 (x1 : Int) (M : MEM) : Option (Int × MEM) :=
(sc_allStrokes 3 M).bind fun r5 =>
(sc_allThistles 3 M).bind fun r9 =>
(iter (fun s => dh_minutes_b55 x1 r5 r9 s.1 s.2) FU (0, M)).bind fun w17 =>
dh_minutes_j99 x1 r5 r9 w17.2
noncomputable def dh_minutes (x1 : Int) (M : MEM) : Option (Int × MEM) :=
if x1 < 0 then
some ((-1), M)
else
if x1 ≤ 600 then
if x1 ≤ 0 then
dh_minutes_j36 x1 M
else
(hi_prepare 3 0 M).bind fun M40 =>
(hi_commit M40).bind fun M42 =>
dh_minutes_j36 x1 M42
else
some ((-1), M)
noncomputable def ac_readBetween (x1 : Int) (M : MEM) : Option (Int × MEM) :=
if x1 = 99 then
(tx_takes 43 M).bind fun p3 =>
if p3.1 = 0 then
(tx_takes 45 p3.2).bind fun p8 =>
if p8.1 = 0 then
some ((-2), p8.2)
else
some ((-1), p8.2)
else
some (1, p3.2)
else
if x1 = 104 then
(tx_takes 61 M).bind fun p14 =>
if p14.1 = 0 then
some ((-2), p14.2)
else
some (0, p14.2)
else
if x1 = 115 then
(tx_number 2 M).bind fun p20 =>
if p20.1 < 0 then
some ((-2), p20.2)
else
(tx_takes 61 p20.2).bind fun p25 =>
if p25.1 = 0 then
some ((-2), p25.2)
else
some (p20.1, p25.2)
else
some (0, M)
noncomputable def ac_readAct_j151 (x2 : Int) (s1 : Int) (s2 : Int) (M : MEM) : Option (Int × MEM) :=
if 0 ≤ s1 ∧ s1 < 20 then
(some (up2 M 33 (s1).toNat s2)).bind fun M32 =>
if 0 ≤ x2 ∧ x2 < 20 then
if (M32 33 (x2).toNat) < 0 then
some (0, M32)
else
some (1, M32)
else none
else none
noncomputable def ac_readAct_j100 (x2 : Int) (x3 : Int) (s1 : Int) (s2 : Int) (M : MEM) : Option (Int × MEM) :=
if 0 ≤ s1 ∧ s1 < 20 then
(some (up2 M 32 (s1).toNat s2)).bind fun M23 =>
if 0 ≤ x2 ∧ x2 < 20 then
if (M23 32 (x2).toNat) = (-2) then
some (0, M23)
else
if x3 = 109 then
(tx_number 3 M23).bind fun p29 =>
ac_readAct_j151 x2 x2 p29.1 p29.2
else
if x3 = 99 then
(tx_number 2 M23).bind fun p38 =>
ac_readAct_j151 x2 x2 p38.1 p38.2
else
(tx_digit M23).bind fun p42 =>
ac_readAct_j151 x2 x2 p42.1 p42.2
else none
else none
noncomputable def ac_readAct_j75 (x2 : Int) (x3 : Int) (s1 : Int) (s2 : Int) (M : MEM) : Option (Int × MEM) :=
if 0 ≤ s1 ∧ s1 < 20 then
(some (up2 M 31 (s1).toNat s2)).bind fun M15 =>
if 0 ≤ x2 ∧ x2 < 20 then
if 0 ≤ (M15 31 (x2).toNat) then
(ac_readBetween x3 M15).bind fun p20 =>
ac_readAct_j100 x2 x3 x2 p20.1 p20.2
else
ac_readAct_j100 x2 x3 x2 (-2) M15
else none
else none
noncomputable def ac_readAct_j43 (x2 : Int) (x3 : Int) (M : MEM) : Option (Int × MEM) :=
(tx_takes x3 M).bind fun p9 =>
if 0 ≤ x2 ∧ x2 < 20 then
(some (up2 p9.2 30 (x2).toNat x3)).bind fun M12 =>
if x3 = 109 then
ac_readAct_j75 x2 x3 x2 0 M12
else
(tx_digit M12).bind fun p46 =>
ac_readAct_j75 x2 x3 x2 p46.1 p46.2
else none
noncomputable def ac_readAct (x2 : Int) (M : MEM) : Option (Int × MEM) :=
if x2 < 0 then
some (0, M)
else
if x2 < 20 then
(tx_next M).bind fun r4 =>
if r4 = 109 then
ac_readAct_j43 x2 r4 M
else
if r4 = 99 then
ac_readAct_j43 x2 r4 M
else
if r4 = 115 then
ac_readAct_j43 x2 r4 M
else
if r4 = 104 then
ac_readAct_j43 x2 r4 M
else
some (0, M)
else
some (0, M)
noncomputable def ac_read_b14   (M : MEM) : Option ((MEM) ⊕ ((Int × MEM) ⊕ (MEM))) :=
if 20 ≤ (M 29 4) then
some (.inr (.inr M))
else
(ac_readAct (M 29 4) M).bind fun p8 =>
if p8.1 = 0 then
some (.inr (.inl (0, p8.2)))
else
(some (up2 p8.2 29 4 (wr ((p8.2 29 4) + 1)))).bind fun M12 =>
if (tx_isOver M12) = 0 then
(tx_takes 59 M12).bind fun p18 =>
if p18.1 = 0 then
some (.inr (.inl (0, p18.2)))
else
some (.inl p18.2)
else
some (.inr (.inl (1, M12)))
noncomputable def ac_read  (M : MEM) : Option (Int × MEM) :=
(some (up2 M 29 4 0)).bind fun M1 =>
if (tx_isOver M1) = 0 then
(iter (fun s => ac_read_b14   s) FU M1).bind (Sum.elim (fun r => some r) (fun w22 =>
some (0, w22)))
else
some (1, M1)
noncomputable def dh_doAct (x1 : Int) (M : MEM) : Option (Int × MEM) :=
if x1 < 0 then
some (0, M)
else
if x1 < 20 then
if 0 ≤ x1 ∧ x1 < 20 then
if 0 ≤ x1 ∧ x1 < 20 then
if 0 ≤ x1 ∧ x1 < 20 then
if (M 30 (x1).toNat) = 99 then
if 0 ≤ x1 ∧ x1 < 20 then
(dh_carrot (M 31 (x1).toNat) (M 3 3) (wr ((wr ((M 3 3) + (M 33 (x1).toNat))) - 1)) (M 32 (x1).toNat) M).bind fun p9 =>
if p9.1 < 0 then
some (0, p9.2)
else
some (1, p9.2)
else none
else
if (M 30 (x1).toNat) = 109 then
if (M 33 (x1).toNat) ≤ 600 then
(dh_passMany (M 33 (x1).toNat) M).bind fun M16 =>
some (1, M16)
else
some (0, M)
else
if (M 30 (x1).toNat) = 115 then
if 0 ≤ x1 ∧ x1 < 20 then
(dh_sow (M 31 (x1).toNat) (M 32 (x1).toNat) (M 33 (x1).toNat) M).bind fun p20 =>
if p20.1 < 0 then
some (0, p20.2)
else
some (1, p20.2)
else none
else
(dh_setHunger (M 31 (x1).toNat) (M 33 (x1).toNat) M).bind fun p25 =>
if p25.1 < 0 then
some (0, p25.2)
else
some (1, p25.2)
else none
else none
else none
else
some (0, M)
noncomputable def dh_day_b65 (x3 : Int) (x4 : Int) (M : MEM) : Option ((Int × MEM) ⊕ (Int × MEM)) :=
if (M 29 4) ≤ x4 then
some (.inr (x4, M))
else
(dh_doAct x4 M).bind fun p21 =>
if p21.1 = 0 then
some (.inr (x4, p21.2))
else
some (.inl ((wr (x4 + 1)), p21.2))
noncomputable def dh_day_j126 (x3 : Int) (x4 : Int) (s1 : Int) (M : MEM) : Option (Int × MEM) :=
(dh_tell s1 M).bind fun M31 =>
(sc_allStrokes 3 M31).bind fun r33 =>
(dh_tell (wr (r33 - x3)) M31).bind fun M37 =>
some (x4, M37)
noncomputable def dh_day_j104 (x3 : Int) (x4 : Int) (M : MEM) : Option (Int × MEM) :=
(dh_newRow M).bind fun M28 =>
if (M28 29 4) ≤ x4 then
dh_day_j126 x3 x4 0 M28
else
dh_day_j126 x3 x4 1 M28
noncomputable def dh_day_j92 (x3 : Int) (x4 : Int) (M : MEM) : Option (Int × MEM) :=
if x4 ≤ 0 then
dh_day_j104 x3 x4 M
else
(hi_commit M).bind fun M39 =>
dh_day_j104 x3 x4 M39
noncomputable def dh_day  (M : MEM) : Option (Int × MEM) :=
(tx_begin 60 M).bind fun M2 =>
(ac_read M2).bind fun p4 =>
(tx_empty p4.2).bind fun M11 =>
if p4.1 = 0 then
some ((tx_wrong p4.2), M11)
else
(sc_allStrokes 3 M11).bind fun r14 =>
(hi_prepare 3 1 M11).bind fun M18 =>
(iter (fun s => dh_day_b65 r14 s.1 s.2) FU (0, M18)).bind fun w25 =>
dh_day_j92 r14 w25.1 w25.2
noncomputable def hi_takeBack (a1 : Nat) (M : MEM) : Option (Int × MEM) :=
if 1 ≤ (M 45 2) then
(some (up2 M 45 2 (wr ((M 45 2) - 1)))).bind fun M2 =>
(jm_floorMod (wr ((M2 45 1) + (M2 45 2))) 11).bind fun r4 =>
if 0 ≤ r4 ∧ r4 < 11 then
(sc_copyWalk a1 (47 + 16 * (r4).toNat) M2).bind fun M9 =>
if (M9 (47 + 16 * (r4).toNat) 5) = 0 then
some (1, M9)
else
(ca_copy (a1 + 2) ((47 + 16 * (r4).toNat) + 2) M9).bind fun M12 =>
some (1, M12)
else none
else
some (0, M)
noncomputable def dh_undo  (M : MEM) : Option (Int × MEM) :=
(hi_takeBack 3 M).bind fun p2 =>
if p2.1 = 0 then
some ((-1), p2.2)
else
some ((p2.2 45 2), p2.2)
noncomputable def be_minuteOf (a0 : Nat) (x1 : Int) (M : MEM) : Option (Int) :=
if x1 ≤ (M a0 5) then
if x1 < 1 then
some (-3)
else
if (wr ((M a0 5) - 40)) < x1 then
(jm_floorMod x1 40).bind fun r5 =>
if 0 ≤ r5 ∧ r5 < 40 then
some (M (a0 + 2) (r5).toNat)
else none
else
some (-3)
else
some (-2)
noncomputable def dh_struck (x1 : Int) (x2 : Int) (M : MEM) : Option (Int) :=
if (dh_isDonkey x1 M) = 0 then
some (-1)
else
if 1 ≤ x2 then
if 0 ≤ x1 ∧ x1 < 3 then
(be_minuteOf (10 + 3 * (x1).toNat) x2 M).bind fun r8 =>
some r8
else none
else
some (-1)
noncomputable def dh_took (x1 : Int) (x2 : Int) (M : MEM) : Option (Int) :=
if (dh_isDonkey x1 M) = 0 then
some (-1)
else
if 1 ≤ x2 then
if 0 ≤ x1 ∧ x1 < 3 then
(be_minuteOf (10 + 3 * (x1).toNat) x2 M).bind fun r8 =>
if 0 ≤ r8 then
(be_minuteOf (10 + 3 * (x1).toNat) (wr (x2 + 1)) M).bind fun r13 =>
if 0 ≤ r13 then
some (wr (r13 - r8))
else
some r13
else
some r8
else none
else
some (-1)
noncomputable def dh_longest_j117_49 (a2 : Nat) (x4 : Int) (x5 : Int) (x6 : Int) (x7 : Int) (x8 : Int) (M : MEM) : Option ((Int × Int × Int × Int × Int) ⊕ (Int × Int × Int × Int × Int)) :=
some (.inl (x4, x5, x6, x7, (wr (x8 + 1))))
noncomputable def dh_longest_j109_49 (a2 : Nat) (x4 : Int) (x5 : Int) (x8 : Int) (x9 : Int) (M : MEM) : Option ((Int × Int × Int × Int × Int) ⊕ (Int × Int × Int × Int × Int)) :=
dh_longest_j117_49 a2 x4 x5 x8 x9 x8 M
noncomputable def dh_longest_j96_49 (a2 : Nat) (x4 : Int) (x5 : Int) (x6 : Int) (x7 : Int) (x8 : Int) (x9 : Int) (M : MEM) : Option ((Int × Int × Int × Int × Int) ⊕ (Int × Int × Int × Int × Int)) :=
if x6 = (-1) then
dh_longest_j109_49 a2 x4 x5 x8 x9 M
else
if x7 ≤ x9 then
dh_longest_j117_49 a2 x4 x5 x6 x7 x8 M
else
dh_longest_j109_49 a2 x4 x5 x8 x9 M
noncomputable def dh_longest_j88_49 (a2 : Nat) (x6 : Int) (x7 : Int) (x8 : Int) (x9 : Int) (M : MEM) : Option ((Int × Int × Int × Int × Int) ⊕ (Int × Int × Int × Int × Int)) :=
dh_longest_j96_49 a2 x8 x9 x6 x7 x8 x9 M
noncomputable def dh_longest_b49 (a2 : Nat) (x4 : Int) (x5 : Int) (x6 : Int) (x7 : Int) (x8 : Int) (M : MEM) : Option ((Int × Int × Int × Int × Int) ⊕ (Int × Int × Int × Int × Int)) :=
if (M a2 5) ≤ x8 then
some (.inr (x4, x5, x6, x7, x8))
else
(be_minuteOf a2 (wr (x8 + 1)) M).bind fun r8 =>
(be_minuteOf a2 x8 M).bind fun r12 =>
if x4 = (-1) then
dh_longest_j88_49 a2 x6 x7 x8 (wr (r8 - r12)) M
else
if (wr (r8 - r12)) ≤ x5 then
dh_longest_j96_49 a2 x4 x5 x6 x7 x8 (wr (r8 - r12)) M
else
dh_longest_j88_49 a2 x6 x7 x8 (wr (r8 - r12)) M
noncomputable def dh_longest (x1 : Int) (M : MEM) : Option (Int × MEM) :=
if (dh_isDonkey x1 M) = 0 then
some ((-1), M)
else
if 0 ≤ x1 ∧ x1 < 3 then
(iter (fun s => dh_longest_b49 (10 + 3 * (x1).toNat) s.1 s.2.1 s.2.2.1 s.2.2.2.1 s.2.2.2.2 M) FU ((-1), 0, (-1), 0, (max 1 (wr ((wr ((M (10 + 3 * (x1).toNat) 5) - 40)) + 1))))).bind fun w19 =>
if w19.1 = (-1) then
some ((-2), M)
else
(dh_newRow M).bind fun M22 =>
(dh_tell w19.2.1 M22).bind fun M24 =>
(dh_tell w19.2.2.1 M24).bind fun M26 =>
(dh_tell w19.2.2.2.1 M26).bind fun M28 =>
some (w19.1, M28)
else none
noncomputable def fu_begin (a0 : Nat) (a1 : Nat) (x2 : Int) (x3 : Int) (M : MEM) : Option (MEM) :=
(be_copyButBook (a0 + 6) a1 M).bind fun M2 =>
(some (up2 M2 a0 7 x2)).bind fun M3 =>
(some (up2 M3 a0 8 x3)).bind fun M4 =>
(some (up2 M4 a0 9 0)).bind fun M5 =>
(some (up2 M5 a0 10 0)).bind fun M6 =>
some M6
noncomputable def dh_look (a1 : Nat) (x2 : Int) (M : MEM) : Option (MEM) :=
if (dh_isDonkey x2 M) = 0 then
some M
else
if 0 ≤ x2 ∧ x2 < 3 then
(fu_begin a1 (10 + 3 * (x2).toNat) x2 (M 3 3) M).bind fun M7 =>
some M7
else none
noncomputable def fu_step_j142 (a0 : Nat) (x4 : Int) (M : MEM) : Option (Int × MEM) :=
(some (up2 M a0 9 (wr ((M a0 9) + 1)))).bind fun M21 =>
some (x4, M21)
noncomputable def fu_step_j32 (a0 : Nat) (x1 : Int) (s0 : Int) (M : MEM) : Option (Int × MEM) :=
(ca_pull 5 (M a0 7) x1 M).bind fun r3 =>
(ca_pull (a0 + 1) (M a0 7) x1 M).bind fun r7 =>
(ru_give 21 (a0 + 6) s0 (wr (r3 + r7)) x1 (M a0 7) M).bind fun M11 =>
(ru_pace 21 M11).bind fun p13 =>
(be_walk (a0 + 6) p13.1 p13.2).bind fun p17 =>
if (ish i_and p17.1 1) = 0 then
fu_step_j142 a0 p17.1 p17.2
else
if (p17.2 a0 10) < 0 then
fu_step_j142 a0 p17.1 p17.2
else
if 600 ≤ (p17.2 a0 10) then
fu_step_j142 a0 p17.1 p17.2
else
if 0 ≤ (p17.2 a0 10) ∧ (p17.2 a0 10) < 600 then
(some (up2 p17.2 (a0 + 9) ((p17.2 a0 10)).toNat (p17.2 a0 9))).bind fun M24 =>
(some (up2 M24 a0 10 (wr ((M24 a0 10) + 1)))).bind fun M26 =>
fu_step_j142 a0 p17.1 M26
else none
noncomputable def fu_step (a0 : Nat) (M : MEM) : Option (Int × MEM) :=
if 0 ≤ (M a0 6) then
fu_step_j32 a0 (wr ((M a0 8) + (M a0 9))) (M a0 6) M
else
(fl_in (wr ((M a0 8) + (M a0 9))) M).bind fun r28 =>
fu_step_j32 a0 (wr ((M a0 8) + (M a0 9))) r28 M
noncomputable def fu_run_b5 (a0 : Nat) (x1 : Int) (x2 : Int) (x3 : Int) (M : MEM) : Option ((Int × MEM) ⊕ (Int × MEM)) :=
if x1 ≤ x3 then
some (.inr (x3, M))
else
if x2 ≤ (M a0 10) then
some (.inr (x3, M))
else
(fu_step a0 M).bind fun p4 =>
some (.inl ((wr (x3 + 1)), p4.2))
noncomputable def fu_run (a0 : Nat) (x1 : Int) (x2 : Int) (M : MEM) : Option (MEM) :=
(iter (fun s => fu_run_b5 a0 x1 x2 s.1 s.2) FU ((M a0 9), M)).bind fun w7 =>
some w7.2
noncomputable def dh_ahead (x1 : Int) (x2 : Int) (M : MEM) : Option (Int × MEM) :=
if (dh_isDonkey x1 M) = 0 then
some ((-1), M)
else
if x2 < 0 then
some ((-1), M)
else
if x2 ≤ 600 then
(dh_look 224 x1 M).bind fun M8 =>
(fu_run 224 x2 600 M8).bind fun M10 =>
(dh_newRow M10).bind fun M12 =>
(dh_tell (M12 230 3) M12).bind fun M14 =>
(dh_tell (M14 230 4) M14).bind fun M16 =>
some ((M16 224 10), M16)
else
some ((-1), M)
noncomputable def dh_isAskedStroke (x0 : Int) : Int :=
if x0 < 1 then
0
else
if 60 < x0 then
0
else
1
noncomputable def fu_strokeMinute (a0 : Nat) (x1 : Int) (M : MEM) : Option (Int) :=
if x1 < 1 then
some (-1)
else
if (M a0 10) < x1 then
some (-1)
else
if 600 < x1 then
some (-1)
else
if 0 ≤ (wr (x1 - 1)) ∧ (wr (x1 - 1)) < 600 then
some (M (a0 + 9) ((wr (x1 - 1))).toNat)
else none
noncomputable def fu_afterStroke (a0 : Nat) (x1 : Int) (M : MEM) : Option (Int × MEM) :=
(fu_run a0 600 x1 M).bind fun M2 =>
if (M2 a0 10) < x1 then
some ((-1), M2)
else
(fu_strokeMinute a0 x1 M2).bind fun r5 =>
some ((wr (r5 + 1)), M2)
noncomputable def dh_when (x1 : Int) (x2 : Int) (M : MEM) : Option (Int × MEM) :=
if (dh_isDonkey x1 M) = 0 then
some ((-1), M)
else
if (dh_isAskedStroke x2) = 0 then
some ((-1), M)
else
(dh_look 224 x1 M).bind fun M10 =>
(fu_afterStroke 224 x2 M10).bind fun p12 =>
if 0 ≤ p12.1 then
some (p12.1, p12.2)
else
some ((-2), p12.2)
noncomputable def dh_strikes (x1 : Int) (x2 : Int) (M : MEM) : Option (Int × MEM) :=
if (dh_isDonkey x1 M) = 0 then
some ((-1), M)
else
if x2 < 0 then
some ((-1), M)
else
if x2 < 12 then
(dh_look 224 x1 M).bind fun M8 =>
(jm_floorMod (wr ((wr (x2 - (M8 230 5))) - 1)) 12).bind fun r10 =>
(fu_afterStroke 224 (wr (r10 + 1)) M8).bind fun p14 =>
if 0 ≤ p14.1 then
(dh_newRow p14.2).bind fun M19 =>
(dh_tell (wr (r10 + 1)) M19).bind fun M21 =>
some (p14.1, M21)
else
some ((-2), p14.2)
else
some ((-1), M)
noncomputable def dh_stops_j46_23 (x2 : Int) (x3 : Int) (M : MEM) : Option ((Int × Int × MEM) ⊕ (Int × Int × MEM)) :=
some (.inl (x2, (wr (x3 + 1)), M))
noncomputable def dh_stops_b23  (x2 : Int) (x3 : Int) (M : MEM) : Option ((Int × Int × MEM) ⊕ (Int × Int × MEM)) :=
if 600 ≤ x3 then
some (.inr (x2, x3, M))
else
(fu_step 224 M).bind fun p9 =>
if (ish i_and p9.1 4) = 0 then
dh_stops_j46_23 (wr (x3 + 1)) x3 p9.2
else
dh_stops_j46_23 x2 x3 p9.2
noncomputable def dh_stops (x1 : Int) (M : MEM) : Option (Int × MEM) :=
if (dh_isDonkey x1 M) = 0 then
some ((-1), M)
else
(dh_look 224 x1 M).bind fun M6 =>
(iter (fun s => dh_stops_b23  s.1 s.2.1 s.2.2) FU (0, 0, M6)).bind fun w13 =>
if 600 ≤ w13.1 then
some ((-2), w13.2.2)
else
some (w13.1, w13.2.2)
noncomputable def dh_eats_j105_60 (a3 : Nat) (x4 : Int) (x5 : Int) (x6 : Int) (M : MEM) : Option ((Int × Int × Int) ⊕ (Int × Int × Int)) :=
some (.inl (x4, x5, (wr (x6 + 1))))
noncomputable def dh_eats_b60 (a3 : Nat) (x4 : Int) (x5 : Int) (x6 : Int) (M : MEM) : Option ((Int × Int × Int) ⊕ (Int × Int × Int)) :=
if (M a3 2) ≤ x6 then
some (.inr (x4, x5, x6))
else
(be_thistlesOn a3 x6 M).bind fun r14 =>
(be_thistlesOn 230 x6 M).bind fun r18 =>
if (wr (r14 - r18)) ≤ x4 then
dh_eats_j105_60 a3 x4 x5 x6 M
else
dh_eats_j105_60 a3 (wr (r14 - r18)) x6 x6 M
noncomputable def dh_eats (x1 : Int) (x2 : Int) (M : MEM) : Option (Int × MEM) :=
if (dh_isDonkey x1 M) = 0 then
some ((-1), M)
else
if x2 < 0 then
some ((-1), M)
else
if x2 ≤ 600 then
(dh_look 224 x1 M).bind fun M8 =>
if 0 ≤ x1 ∧ x1 < 3 then
(fu_run 224 x2 600 M8).bind fun M11 =>
(iter (fun s => dh_eats_b60 (10 + 3 * (x1).toNat) s.1 s.2.1 s.2.2 M11) FU (0, (-1), 0)).bind fun w22 =>
(dh_newRow M11).bind fun M24 =>
(dh_tell w22.2.1 M24).bind fun M26 =>
(dh_tell w22.1 M26).bind fun M28 =>
(be_allThistles (10 + 3 * (x1).toNat) M28).bind fun r30 =>
(be_allThistles 230 M28).bind fun r34 =>
some ((wr (r30 - r34)), M28)
else none
else
some ((-1), M)
noncomputable def co_add (x1 : Int) (x2 : Int) (x3 : Int) (x4 : Int) (x5 : Int) (M : MEM) : Option (Int × MEM) :=
if (M 34 6) < 0 then
some (0, M)
else
if (M 34 6) < 10 then
if 0 ≤ (M 34 6) ∧ (M 34 6) < 10 then
(some (up2 M 35 ((M 34 6)).toNat x1)).bind fun M3 =>
if 0 ≤ (M3 34 6) ∧ (M3 34 6) < 10 then
(some (up2 M3 36 ((M3 34 6)).toNat x2)).bind fun M5 =>
if 0 ≤ (M5 34 6) ∧ (M5 34 6) < 10 then
(some (up2 M5 37 ((M5 34 6)).toNat x3)).bind fun M7 =>
if 0 ≤ (M7 34 6) ∧ (M7 34 6) < 10 then
(some (up2 M7 38 ((M7 34 6)).toNat x4)).bind fun M9 =>
if 0 ≤ (M9 34 6) ∧ (M9 34 6) < 10 then
(some (up2 M9 39 ((M9 34 6)).toNat x5)).bind fun M11 =>
(some (up2 M11 34 6 (wr ((M11 34 6) + 1)))).bind fun M13 =>
some (1, M13)
else none
else none
else none
else none
else none
else
some (0, M)
noncomputable def dh_isPerson (x0 : Int) : Int :=
if x0 < 0 then
0
else
if 6 ≤ x0 then
0
else
1
noncomputable def dh_owe_j24 (x1 : Int) (x2 : Int) (x3 : Int) (x4 : Int) (x5 : Int) (s0 : Int) (M : MEM) : Option (Int × MEM) :=
if s0 = 0 then
some ((-1), M)
else
if x3 < 1 then
some ((-1), M)
else
if 99 < x3 then
some ((-1), M)
else
if (dh_isDonkey x4 M) = 0 then
some ((-1), M)
else
if x5 < 0 then
some ((-1), M)
else
if x5 < 12 then
(co_add x1 x2 x3 x4 x5 M).bind fun p15 =>
if p15.1 = 0 then
some ((-2), p15.2)
else
some ((M 34 6), p15.2)
else
some ((-1), M)
noncomputable def dh_owe_j23 (x1 : Int) (x2 : Int) (x3 : Int) (x4 : Int) (x5 : Int) (M : MEM) : Option (Int × MEM) :=
dh_owe_j24 x1 x2 x3 x4 x5 0 M
noncomputable def dh_owe (x1 : Int) (x2 : Int) (x3 : Int) (x4 : Int) (x5 : Int) (M : MEM) : Option (Int × MEM) :=
if (dh_isPerson x1) = 0 then
dh_owe_j23 x1 x2 x3 x4 x5 M
else
if (dh_isPerson x2) = 0 then
dh_owe_j23 x1 x2 x3 x4 x5 M
else
if x1 = x2 then
dh_owe_j23 x1 x2 x3 x4 x5 M
else
dh_owe_j24 x1 x2 x3 x4 x5 1 M
noncomputable def dh_tear  (M : MEM) : Option (Int × MEM) :=
(some (up2 M 34 6 0)).bind fun M1 =>
some ((M 34 6), M1)
noncomputable def co_has (x1 : Int) (M : MEM) : Int :=
if x1 < 0 then
0
else
if (M 34 6) ≤ x1 then
0
else
if 10 ≤ x1 then
0
else
1
noncomputable def dh_isFar (x0 : Int) : Int :=
if x0 < 1 then
0
else
if 600 < x0 then
0
else
1
noncomputable def dh_isLaw (x0 : Int) : Int :=
if x0 < 0 then
0
else
if 4 ≤ x0 then
0
else
1
noncomputable def dh_timesDue (x0 : Int) (x1 : Int) : Int :=
if x0 = 2 then
x1
else
if x0 = 3 then
if x1 = 1 then
1
else
0
else
(min 1 x1)
noncomputable def fu_isHour (a0 : Nat) (x1 : Int) (x2 : Int) (M : MEM) : Option (Int) :=
(jm_floorMod (wr ((wr ((M (a0 + 6) 5) - (M a0 10))) + x1)) 12).bind fun r2 =>
if r2 = x2 then
some 1
else
some 0
noncomputable def fu_firstStruck_b2 (a0 : Nat) (x1 : Int) (x2 : Int) (M : MEM) : Option ((Int) ⊕ ((Int) ⊕ (Int))) :=
if (M a0 10) < x2 then
some (.inr (.inr x2))
else
(fu_isHour a0 x2 x1 M).bind fun r3 =>
if r3 = 0 then
some (.inl (wr (x2 + 1)))
else
(fu_strokeMinute a0 x2 M).bind fun r8 =>
some (.inr (.inl r8))
noncomputable def fu_firstStruck (a0 : Nat) (x1 : Int) (M : MEM) : Option (Int) :=
(iter (fun s => fu_firstStruck_b2 a0 x1 s M) FU 1).bind (Sum.elim (fun r => some r) (fun w11 =>
some (-1)))
noncomputable def fu_lastStruck_b5 (a0 : Nat) (x1 : Int) (x2 : Int) (M : MEM) : Option ((Int) ⊕ ((Int) ⊕ (Int))) :=
if x2 < 1 then
some (.inr (.inr x2))
else
(fu_isHour a0 x2 x1 M).bind fun r3 =>
if r3 = 0 then
some (.inl (wr (x2 + (-1))))
else
(fu_strokeMinute a0 x2 M).bind fun r8 =>
some (.inr (.inl r8))
noncomputable def fu_lastStruck (a0 : Nat) (x1 : Int) (M : MEM) : Option (Int) :=
(iter (fun s => fu_lastStruck_b5 a0 x1 s M) FU (M a0 10)).bind (Sum.elim (fun r => some r) (fun w11 =>
some (-1)))
noncomputable def fu_timesStruck_j24_4 (a0 : Nat) (x1 : Int) (x2 : Int) (x3 : Int) (M : MEM) : Option ((Int × Int) ⊕ (Int × Int)) :=
some (.inl (x2, (wr (x3 + 1))))
noncomputable def fu_timesStruck_b4 (a0 : Nat) (x1 : Int) (x2 : Int) (x3 : Int) (M : MEM) : Option ((Int × Int) ⊕ (Int × Int)) :=
if (M a0 10) < x3 then
some (.inr (x2, x3))
else
(fu_isHour a0 x3 x1 M).bind fun r3 =>
if r3 = 0 then
fu_timesStruck_j24_4 a0 x1 x2 x3 M
else
fu_timesStruck_j24_4 a0 x1 (wr (x2 + 1)) x3 M
noncomputable def fu_timesStruck (a0 : Nat) (x1 : Int) (M : MEM) : Option (Int) :=
(iter (fun s => fu_timesStruck_b4 a0 x1 s.1 s.2 M) FU (0, 1)).bind fun w7 =>
some w7.1
noncomputable def dh_due (x1 : Int) (x2 : Int) (x3 : Int) (M : MEM) : Option (Int × MEM) :=
if (co_has x1 M) = 0 then
some ((-1), M)
else
if (dh_isLaw x2) = 0 then
some ((-1), M)
else
if (dh_isFar x3) = 0 then
some ((-1), M)
else
if 0 ≤ x1 ∧ x1 < 10 then
(dh_look 224 (M 38 (x1).toNat) M).bind fun M15 =>
(fu_run 224 x3 600 M15).bind fun M17 =>
if 0 ≤ x1 ∧ x1 < 10 then
(fu_timesStruck 224 (M17 39 (x1).toNat) M17).bind fun r20 =>
if (dh_timesDue x2 r20) = 0 then
some ((-2), M17)
else
if x2 = 1 then
(fu_lastStruck 224 (M17 39 (x1).toNat) M17).bind fun r29 =>
some (r29, M17)
else
(fu_firstStruck 224 (M17 39 (x1).toNat) M17).bind fun r33 =>
some (r33, M17)
else none
else none
noncomputable def co_sumOf_j61_6 (a1 : Nat) (x2 : Int) (x3 : Int) (x4 : Int) (x5 : Int) (M : MEM) : Option ((Int × Int) ⊕ (Int × Int)) :=
some (.inl (x4, (wr (x5 + 1))))
noncomputable def co_sumOf_b6 (a1 : Nat) (x2 : Int) (x3 : Int) (x4 : Int) (x5 : Int) (M : MEM) : Option ((Int × Int) ⊕ (Int × Int)) :=
if (M 34 6) ≤ x5 then
some (.inr (x4, x5))
else
if ((lenA a1) : Int) ≤ x5 then
some (.inr (x4, x5))
else
if 10 ≤ x5 then
some (.inr (x4, x5))
else
if 0 ≤ x5 ∧ x5 < (lenA a1) then
if (M a1 (x5).toNat) = x2 then
if 0 ≤ x5 ∧ x5 < 10 then
if 0 ≤ x5 ∧ x5 < 10 then
co_sumOf_j61_6 a1 x2 x3 (wr (x4 + (wr ((M 37 (x5).toNat) * (dh_timesDue x3 (M 40 (x5).toNat)))))) x5 M
else none
else none
else
co_sumOf_j61_6 a1 x2 x3 x4 x5 M
else none
noncomputable def co_sumOf (a1 : Nat) (x2 : Int) (x3 : Int) (M : MEM) : Option (Int) :=
(iter (fun s => co_sumOf_b6 a1 x2 x3 s.1 s.2 M) FU (0, 0)).bind fun w11 =>
some w11.1
noncomputable def co_owedBy (x1 : Int) (x2 : Int) (M : MEM) : Option (Int) :=
(co_sumOf 35 x1 x2 M).bind fun r2 =>
some r2
noncomputable def co_owedTo (x1 : Int) (x2 : Int) (M : MEM) : Option (Int) :=
(co_sumOf 36 x1 x2 M).bind fun r2 =>
some r2
noncomputable def dh_countDue_b2 (x1 : Int) (x2 : Int) (M : MEM) : Option ((Int × MEM) ⊕ (Int × MEM)) :=
if (co_has x2 M) = 0 then
some (.inr (x2, M))
else
if 10 ≤ x2 then
some (.inr (x2, M))
else
if 0 ≤ x2 ∧ x2 < 10 then
(dh_look 224 (M 38 (x2).toNat) M).bind fun M8 =>
(fu_run 224 x1 600 M8).bind fun M10 =>
if 0 ≤ x2 ∧ x2 < 10 then
(fu_timesStruck 224 (M10 39 (x2).toNat) M10).bind fun r13 =>
if 0 ≤ x2 ∧ x2 < 10 then
(some (up2 M10 40 (x2).toNat r13)).bind fun M16 =>
some (.inl ((wr (x2 + 1)), M16))
else none
else none
else none
noncomputable def dh_countDue (x1 : Int) (M : MEM) : Option (MEM) :=
(iter (fun s => dh_countDue_b2 x1 s.1 s.2) FU (0, M)).bind fun w18 =>
some w18.2
noncomputable def dh_owes (x1 : Int) (x2 : Int) (x3 : Int) (M : MEM) : Option (Int × MEM) :=
if (dh_isPerson x1) = 0 then
some ((-1), M)
else
if (dh_isLaw x2) = 0 then
some ((-1), M)
else
if (dh_isFar x3) = 0 then
some ((-1), M)
else
(dh_countDue x3 M).bind fun M14 =>
(dh_newRow M14).bind fun M16 =>
(co_owedTo x1 x2 M16).bind fun r18 =>
(dh_tell r18 M16).bind fun M22 =>
(co_owedBy x1 x2 M22).bind fun r24 =>
some (r24, M22)
noncomputable def co_less (x1 : Int) (x2 : Int) (M : MEM) : Option (Int) :=
(co_owedBy x1 x2 M).bind fun r2 =>
(co_owedTo x1 x2 M).bind fun r6 =>
some (wr (r2 - r6))
noncomputable def dh_reading_j79_41 (x1 : Int) (x3 : Int) (x4 : Int) (x5 : Int) (M : MEM) : Option ((Int × Int × Int × MEM) ⊕ (Int × Int × Int × MEM)) :=
some (.inl (x3, x4, (wr (x5 + 1)), M))
noncomputable def dh_reading_b41 (x1 : Int) (x3 : Int) (x4 : Int) (x5 : Int) (M : MEM) : Option ((Int × Int × Int × MEM) ⊕ (Int × Int × Int × MEM)) :=
if 4 ≤ x5 then
some (.inr (x3, x4, x5, M))
else
(co_less x1 x5 M).bind fun r19 =>
(dh_tell r19 M).bind fun M23 =>
if x4 ≤ r19 then
dh_reading_j79_41 x1 x3 x4 x5 M23
else
dh_reading_j79_41 x1 x5 r19 x5 M23
noncomputable def dh_reading (x1 : Int) (x2 : Int) (M : MEM) : Option (Int × MEM) :=
if (dh_isPerson x1) = 0 then
some ((-1), M)
else
if (dh_isFar x2) = 0 then
some ((-1), M)
else
(dh_countDue x2 M).bind fun M10 =>
(dh_newRow M10).bind fun M12 =>
(co_less x1 0 M12).bind fun r14 =>
(iter (fun s => dh_reading_b41 x1 s.1 s.2.1 s.2.2.1 s.2.2.2) FU (0, r14, 0, M12)).bind fun w25 =>
some (w25.1, w25.2.2.2)
noncomputable def co_most_b9 (x1 : Int) (x2 : Int) (x3 : Int) (M : MEM) : Option ((Int × Int) ⊕ (Int × Int)) :=
if 6 ≤ x3 then
some (.inr (x2, x3))
else
(co_less x3 x1 M).bind fun r7 =>
some (.inl ((max x2 r7), (wr (x3 + 1))))
noncomputable def co_most (x1 : Int) (M : MEM) : Option (Int) :=
(co_less 0 x1 M).bind fun r2 =>
(iter (fun s => co_most_b9 x1 s.1 s.2 M) FU (r2, 1)).bind fun w10 =>
some w10.1
noncomputable def dh_mildest_j57_28 (x2 : Int) (x3 : Int) (x4 : Int) (M : MEM) : Option ((Int × Int × Int) ⊕ (Int × Int × Int)) :=
some (.inl (x2, x3, (wr (x4 + 1))))
noncomputable def dh_mildest_b28  (x2 : Int) (x3 : Int) (x4 : Int) (M : MEM) : Option ((Int × Int × Int) ⊕ (Int × Int × Int)) :=
if 4 ≤ x4 then
some (.inr (x2, x3, x4))
else
(co_most x4 M).bind fun r13 =>
if x3 ≤ r13 then
dh_mildest_j57_28 x2 x3 x4 M
else
dh_mildest_j57_28 x4 r13 x4 M
noncomputable def dh_mildest (x1 : Int) (M : MEM) : Option (Int × MEM) :=
if (dh_isFar x1) = 0 then
some ((-1), M)
else
(dh_countDue x1 M).bind fun M6 =>
(co_most 0 M6).bind fun r8 =>
(iter (fun s => dh_mildest_b28  s.1 s.2.1 s.2.2 M6) FU (0, r8, 1)).bind fun w17 =>
(dh_newRow M6).bind fun M19 =>
(dh_tell w17.2.1 M19).bind fun M21 =>
some (w17.1, M21)
noncomputable def dh_isRoad (x0 : Int) : Int :=
if x0 < 0 then
0
else
if 99 < x0 then
0
else
1
noncomputable def fu_latestFor (a0 : Nat) (x1 : Int) (x2 : Int) (M : MEM) : Option (Int × MEM) :=
(fu_run a0 (wr (x1 - x2)) 600 M).bind fun M2 =>
some ((M2 a0 10), M2)
noncomputable def fu_there (a0 : Nat) (x1 : Int) (x2 : Int) (M : MEM) : Option (Int) :=
(fu_strokeMinute a0 x1 M).bind fun r2 =>
some (wr ((wr (r2 + x2)) + 1))
noncomputable def dh_leave (x1 : Int) (x2 : Int) (x3 : Int) (M : MEM) : Option (Int × MEM) :=
if (dh_isDonkey x1 M) = 0 then
some ((-1), M)
else
if (dh_isFar x2) = 0 then
some ((-1), M)
else
if (dh_isRoad x3) = 0 then
some ((-1), M)
else
if x3 ≤ x2 then
(dh_look 224 x1 M).bind fun M15 =>
(fu_latestFor 224 x2 x3 M15).bind fun p17 =>
(dh_newRow p17.2).bind fun M21 =>
(fu_there 224 p17.1 x3 M21).bind fun r23 =>
(dh_tell (wr (x2 - r23)) M21).bind fun M27 =>
some (p17.1, M27)
else
some ((-2), M)
noncomputable def dh_waysWithLatest_j23_4 (x1 : Int) (x2 : Int) (x3 : Int) (M : MEM) : Option ((Int × Int) ⊕ (Int × Int)) :=
some (.inl (x2, (wr (x3 + 1))))
noncomputable def dh_waysWithLatest_b4 (x1 : Int) (x2 : Int) (x3 : Int) (M : MEM) : Option ((Int × Int) ⊕ (Int × Int)) :=
if 10 ≤ x3 then
some (.inr (x2, x3))
else
if 0 ≤ x3 ∧ x3 < 12 then
if (M 244 (x3).toNat) < x1 then
dh_waysWithLatest_j23_4 x1 x2 x3 M
else
dh_waysWithLatest_j23_4 x1 (wr (x2 + 1)) x3 M
else none
noncomputable def dh_waysWithLatest (x1 : Int) (M : MEM) : Option (Int) :=
(iter (fun s => dh_waysWithLatest_b4 x1 s.1 s.2 M) FU (0, 0)).bind fun w4 =>
some w4.1
noncomputable def dh_sure_b48 (x1 : Int) (x2 : Int) (x3 : Int) (x4 : Int) (x5 : Int) (M : MEM) : Option ((Int × MEM) ⊕ (Int × MEM)) :=
if 10 ≤ x5 then
some (.inr (x5, M))
else
(dh_look 224 x1 M).bind fun M18 =>
(some (up2 M18 230 4 x5)).bind fun M19 =>
(fu_latestFor 224 x2 x3 M19).bind fun p21 =>
if 0 ≤ x5 ∧ x5 < 12 then
(some (up2 p21.2 244 (x5).toNat p21.1)).bind fun M24 =>
some (.inl ((wr (x5 + 1)), M24))
else none
noncomputable def dh_sure_j148_104 (x4 : Int) (x5 : Int) (x6 : Int) (M : MEM) : Option ((Int × Int) ⊕ (Int × Int)) :=
some (.inl (x5, (wr (x6 + 1))))
noncomputable def dh_sure_b104 (x4 : Int) (x5 : Int) (x6 : Int) (M : MEM) : Option ((Int × Int) ⊕ (Int × Int)) :=
if 10 ≤ x6 then
some (.inr (x5, x6))
else
if 0 ≤ x6 ∧ x6 < 12 then
if (M 244 (x6).toNat) ≤ x5 then
dh_sure_j148_104 x4 x5 x6 M
else
if 0 ≤ x6 ∧ x6 < 12 then
(dh_waysWithLatest (M 244 (x6).toNat) M).bind fun r32 =>
if r32 < x4 then
dh_sure_j148_104 x4 x5 x6 M
else
if 0 ≤ x6 ∧ x6 < 12 then
dh_sure_j148_104 x4 (M 244 (x6).toNat) x6 M
else none
else none
else none
noncomputable def dh_sure (x1 : Int) (x2 : Int) (x3 : Int) (x4 : Int) (M : MEM) : Option (Int × MEM) :=
if (dh_isDonkey x1 M) = 0 then
some ((-1), M)
else
if (dh_isFar x2) = 0 then
some ((-1), M)
else
if (dh_isRoad x3) = 0 then
some ((-1), M)
else
if x4 < 1 then
some ((-1), M)
else
if x4 ≤ 10 then
if x3 ≤ x2 then
(iter (fun s => dh_sure_b48 x1 x2 x3 x4 s.1 s.2) FU (0, M)).bind fun w26 =>
(iter (fun s => dh_sure_b104 x4 s.1 s.2 w26.2) FU (0, 0)).bind fun w37 =>
(dh_newRow w26.2).bind fun M39 =>
(dh_waysWithLatest w37.1 M39).bind fun r41 =>
(dh_tell r41 M39).bind fun M45 =>
some (w37.1, M45)
else
some ((-2), M)
else
some ((-1), M)
noncomputable def dh_missed_j151_93 (x2 : Int) (x3 : Int) (x4 : Int) (x6 : Int) (x7 : Int) (x8 : Int) (x9 : Int) (x10 : Int) (M : MEM) : Option ((Int × Int × Int × Int) ⊕ (Int × Int × Int × Int)) :=
some (.inl (x7, x8, x9, (wr (x10 + x3))))
noncomputable def dh_missed_b93 (x2 : Int) (x3 : Int) (x4 : Int) (x6 : Int) (x7 : Int) (x8 : Int) (x9 : Int) (x10 : Int) (M : MEM) : Option ((Int × Int × Int × Int) ⊕ (Int × Int × Int × Int)) :=
if (M 224 10) < x10 then
some (.inr (x7, x8, x9, x10))
else
(fu_there 224 x10 x4 M).bind fun r20 =>
if x2 = 0 then none else
if (wr (Int.tdiv (wr ((wr (r20 + x2)) - 1)) x2)) ≤ x6 then
if (wr (Int.tdiv (wr ((wr (r20 + x2)) - 1)) x2)) = x8 then
dh_missed_j151_93 x2 x3 x4 x6 x7 x8 x9 x10 M
else
dh_missed_j151_93 x2 x3 x4 x6 (wr (x7 + 1)) (wr (Int.tdiv (wr ((wr (r20 + x2)) - 1)) x2)) x9 x10 M
else
dh_missed_j151_93 x2 x3 x4 x6 x7 x8 (wr (x9 + 1)) x10 M
noncomputable def dh_missed_j16 (x1 : Int) (x2 : Int) (x3 : Int) (x4 : Int) (s0 : Int) (M : MEM) : Option (Int × MEM) :=
if (dh_isDonkey x1 M) = 0 then
some ((-1), M)
else
if s0 = 0 then
some ((-1), M)
else
if x3 < 1 then
some ((-1), M)
else
if 12 < x3 then
some ((-1), M)
else
if (dh_isRoad x4) = 0 then
some ((-1), M)
else
(dh_look 224 x1 M).bind fun M14 =>
(fu_run 224 600 600 M14).bind fun M16 =>
if x2 = 0 then none else
(iter (fun s => dh_missed_b93 x2 x3 x4 (wr (Int.tdiv 600 x2)) s.1 s.2.1 s.2.2.1 s.2.2.2 M16) FU (0, 0, 0, x3)).bind fun w26 =>
(dh_newRow M16).bind fun M28 =>
(dh_tell w26.2.2.1 M28).bind fun M30 =>
some ((wr ((wr (Int.tdiv 600 x2)) - w26.1)), M30)
noncomputable def dh_missed_j15 (x1 : Int) (x2 : Int) (x3 : Int) (x4 : Int) (M : MEM) : Option (Int × MEM) :=
dh_missed_j16 x1 x2 x3 x4 0 M
noncomputable def dh_missed (x1 : Int) (x2 : Int) (x3 : Int) (x4 : Int) (M : MEM) : Option (Int × MEM) :=
if x2 < 1 then
dh_missed_j15 x1 x2 x3 x4 M
else
if 120 < x2 then
dh_missed_j15 x1 x2 x3 x4 M
else
dh_missed_j16 x1 x2 x3 x4 1 M
noncomputable def dh_isBetter (x0 : Int) (x1 : Int) (x2 : Int) : Int :=
if 0 ≤ x0 then
if x2 ≤ x1 then
0
else
1
else
if x1 ≤ x2 then
0
else
1
noncomputable def fu_boiled (a0 : Nat) (x1 : Int) (M : MEM) : Option (Int) :=
(fu_strokeMinute a0 (wr (x1 + 1)) M).bind fun r2 =>
(fu_strokeMinute a0 1 M).bind fun r6 =>
some (wr (r2 - r6))
noncomputable def fu_hour (a0 : Nat) (M : MEM) : Option (Int) :=
if 2 ≤ (M a0 10) then
(fu_boiled a0 1 M).bind fun r3 =>
some r3
else
some 601
noncomputable def dh_nextHour (x1 : Int) (M : MEM) : Option (Int × MEM) :=
(dh_look 224 x1 M).bind fun M2 =>
(fu_run 224 600 2 M2).bind fun M4 =>
(fu_hour 224 M4).bind fun r6 =>
some (r6, M4)
noncomputable def dh_think (x1 : Int) (x2 : Int) (x3 : Int) (x4 : Int) (M : MEM) : Option (MEM) :=
(ca_add 225 x1 (wr ((M 3 3) + x2)) (wr ((wr ((wr ((M 3 3) + x2)) + x3)) - 1)) x4 M).bind fun p2 =>
some p2.2
noncomputable def dh_bribe_j102_44 (x1 : Int) (x2 : Int) (x3 : Int) (x4 : Int) (x5 : Int) (x6 : Int) (x7 : Int) (M : MEM) : Option ((Int × Int × Int × MEM) ⊕ (Int × Int × Int × MEM)) :=
some (.inl (x5, x6, (wr (x7 + 1)), M))
noncomputable def dh_bribe_j94_44 (x1 : Int) (x2 : Int) (x3 : Int) (x4 : Int) (x7 : Int) (x8 : Int) (M : MEM) : Option ((Int × Int × Int × MEM) ⊕ (Int × Int × Int × MEM)) :=
dh_bribe_j102_44 x1 x2 x3 x4 x7 x8 x7 M
noncomputable def dh_bribe_b44 (x1 : Int) (x2 : Int) (x3 : Int) (x4 : Int) (x5 : Int) (x6 : Int) (x7 : Int) (M : MEM) : Option ((Int × Int × Int × MEM) ⊕ (Int × Int × Int × MEM)) :=
if 60 < x7 then
some (.inr (x5, x6, x7, M))
else
(dh_think x1 x7 x2 x3 M).bind fun M17 =>
(dh_nextHour x1 M17).bind fun p19 =>
(some (up2 p19.2 225 4 0)).bind fun M22 =>
if x7 = 0 then
dh_bribe_j94_44 x1 x2 x3 x4 x7 p19.1 M22
else
if (dh_isBetter x3 p19.1 x6) = 0 then
dh_bribe_j102_44 x1 x2 x3 x4 x5 x6 x7 M22
else
dh_bribe_j94_44 x1 x2 x3 x4 x7 p19.1 M22
noncomputable def dh_bribe (x1 : Int) (x2 : Int) (x3 : Int) (M : MEM) : Option (Int × MEM) :=
if (dh_isDonkey x1 M) = 0 then
some ((-1), M)
else
if x2 < 1 then
some ((-1), M)
else
if 20 < x2 then
some ((-1), M)
else
if (dh_isWay x3) = 0 then
some ((-1), M)
else
(dh_nextHour x1 M).bind fun p12 =>
(iter (fun s => dh_bribe_b44 x1 x2 x3 p12.1 s.1 s.2.1 s.2.2.1 s.2.2.2) FU (0, 0, 0, p12.2)).bind fun w28 =>
(dh_newRow w28.2.2.2).bind fun M30 =>
(dh_tell w28.2.1 M30).bind fun M32 =>
(dh_tell p12.1 M32).bind fun M34 =>
some (w28.1, M34)
noncomputable def dh_hourOfBoys (x1 : Int) (x2 : Int) (x3 : Int) (x4 : Int) (M : MEM) : Option (Int × MEM) :=
(dh_think x1 x3 x2 (-1) M).bind fun M2 =>
(dh_think x1 x4 x2 1 M2).bind fun M4 =>
(dh_look 224 x1 M4).bind fun M6 =>
(fu_run 224 600 2 M6).bind fun M8 =>
(some (up2 M8 225 4 0)).bind fun M9 =>
(fu_hour 224 M9).bind fun r11 =>
some (r11, M9)
noncomputable def dh_bestOfBoy_j91_28 (x1 : Int) (x2 : Int) (x3 : Int) (x4 : Int) (x5 : Int) (x6 : Int) (x7 : Int) (x8 : Int) (M : MEM) : Option ((Int × Int × Int × MEM) ⊕ (Int × Int × Int × MEM)) :=
some (.inl (x6, x7, (wr (x8 + 1)), M))
noncomputable def dh_bestOfBoy_j73_28 (x1 : Int) (x2 : Int) (x3 : Int) (x4 : Int) (x5 : Int) (x6 : Int) (x7 : Int) (x8 : Int) (x9 : Int) (s0 : Int) (M : MEM) : Option ((Int × Int × Int × MEM) ⊕ (Int × Int × Int × MEM)) :=
if (dh_isBetter s0 x9 x7) = 0 then
dh_bestOfBoy_j91_28 x1 x2 x3 x4 x5 x6 x7 x8 M
else
dh_bestOfBoy_j91_28 x1 x2 x3 x4 x5 x8 x9 x8 M
noncomputable def dh_bestOfBoy_j62_28 (x1 : Int) (x2 : Int) (x3 : Int) (x4 : Int) (x5 : Int) (x6 : Int) (x7 : Int) (x8 : Int) (s0 : Int) (M : MEM) : Option ((Int × Int × Int × MEM) ⊕ (Int × Int × Int × MEM)) :=
if x3 = 0 then
dh_bestOfBoy_j73_28 x1 x2 x3 x4 x5 x6 x7 x8 s0 (-1) M
else
dh_bestOfBoy_j73_28 x1 x2 x3 x4 x5 x6 x7 x8 s0 1 M
noncomputable def dh_bestOfBoy_b28 (x1 : Int) (x2 : Int) (x3 : Int) (x4 : Int) (x5 : Int) (x6 : Int) (x7 : Int) (x8 : Int) (M : MEM) : Option ((Int × Int × Int × MEM) ⊕ (Int × Int × Int × MEM)) :=
if 30 < x8 then
some (.inr (x6, x7, x8, M))
else
if x3 = 0 then
(dh_hourOfBoys x1 x2 x8 x5 M).bind fun p9 =>
dh_bestOfBoy_j62_28 x1 x2 x3 x4 x5 x6 x7 x8 p9.1 p9.2
else
(dh_hourOfBoys x1 x2 x4 x8 M).bind fun p18 =>
dh_bestOfBoy_j62_28 x1 x2 x3 x4 x5 x6 x7 x8 p18.1 p18.2
noncomputable def dh_bestOfBoy_j11 (x1 : Int) (x2 : Int) (x3 : Int) (x4 : Int) (x5 : Int) (s0 : Int) (M : MEM) : Option (Int × MEM) :=
(dh_hourOfBoys x1 x2 x4 x5 M).bind fun p3 =>
(iter (fun s => dh_bestOfBoy_b28 x1 x2 x3 x4 x5 s.1 s.2.1 s.2.2.1 s.2.2.2) FU (s0, p3.1, 0, p3.2)).bind fun w21 =>
some (w21.1, w21.2.2.2)
noncomputable def dh_bestOfBoy (x1 : Int) (x2 : Int) (x3 : Int) (x4 : Int) (x5 : Int) (M : MEM) : Option (Int × MEM) :=
if x3 = 0 then
dh_bestOfBoy_j11 x1 x2 x3 x4 x5 x4 M
else
dh_bestOfBoy_j11 x1 x2 x3 x4 x5 x5 M
noncomputable def dh_rests_j133_43 (x1 : Int) (x2 : Int) (x3 : Int) (x4 : Int) (x5 : Int) (x6 : Int) (s0 : Int) (M : MEM) : Option ((Int × Int × Int × Int × MEM) ⊕ (Int × Int × Int × Int × MEM)) :=
some (.inl (x4, x5, (wr (x6 + 1)), s0, M))
noncomputable def dh_rests_j116_43 (x1 : Int) (x2 : Int) (x3 : Int) (x4 : Int) (x6 : Int) (x7 : Int) (x9 : Int) (x10 : Int) (s0 : Int) (M : MEM) : Option ((Int × Int × Int × Int × MEM) ⊕ (Int × Int × Int × Int × MEM)) :=
if x10 = x9 then
dh_rests_j133_43 x1 x2 x3 x4 s0 x6 (wr (x7 + 1)) M
else
dh_rests_j133_43 x1 x2 x3 x4 s0 x6 0 M
noncomputable def dh_rests_j101_43 (x1 : Int) (x2 : Int) (x3 : Int) (x5 : Int) (x6 : Int) (x7 : Int) (x8 : Int) (x9 : Int) (x10 : Int) (s0 : Int) (M : MEM) : Option ((Int × Int × Int × Int × MEM) ⊕ (Int × Int × Int × Int × MEM)) :=
if x8 = 1 then
dh_rests_j116_43 x1 x2 x3 s0 x6 x7 x9 x10 x10 M
else
dh_rests_j116_43 x1 x2 x3 s0 x6 x7 x9 x10 x5 M
noncomputable def dh_rests_j73_43 (x1 : Int) (x2 : Int) (x3 : Int) (x4 : Int) (x5 : Int) (x6 : Int) (x7 : Int) (x8 : Int) (s0 : Int) (M : MEM) : Option ((Int × Int × Int × Int × MEM) ⊕ (Int × Int × Int × Int × MEM)) :=
(dh_bestOfBoy x1 x2 x8 x4 x5 M).bind fun p13 =>
if x8 = 0 then
dh_rests_j101_43 x1 x2 x3 x5 x6 x7 x8 s0 p13.1 p13.1 p13.2
else
dh_rests_j101_43 x1 x2 x3 x5 x6 x7 x8 s0 p13.1 x4 p13.2
noncomputable def dh_rests_b43 (x1 : Int) (x2 : Int) (x3 : Int) (x4 : Int) (x5 : Int) (x6 : Int) (x7 : Int) (M : MEM) : Option ((Int × Int × Int × Int × MEM) ⊕ (Int × Int × Int × Int × MEM)) :=
if x3 ≤ x6 then
some (.inr (x4, x5, x6, x7, M))
else
if 2 ≤ x7 then
some (.inr (x4, x5, x6, x7, M))
else
if (Int.tmod x6 2) = 0 then
dh_rests_j73_43 x1 x2 x3 x4 x5 x6 x7 (Int.tmod x6 2) x4 M
else
dh_rests_j73_43 x1 x2 x3 x4 x5 x6 x7 (Int.tmod x6 2) x5 M
noncomputable def dh_rests_j157 (x1 : Int) (x2 : Int) (x4 : Int) (x5 : Int) (x6 : Int) (s1 : Int) (M : MEM) : Option (Int × MEM) :=
(dh_tell s1 M).bind fun M24 =>
(dh_tell x4 M24).bind fun M26 =>
(dh_tell x5 M26).bind fun M28 =>
(dh_hourOfBoys x1 x2 x4 x5 M28).bind fun p30 =>
(dh_tell p30.1 p30.2).bind fun M34 =>
some (x6, M34)
noncomputable def dh_rests_j141 (x1 : Int) (x2 : Int) (x4 : Int) (x5 : Int) (x6 : Int) (x7 : Int) (M : MEM) : Option (Int × MEM) :=
(dh_newRow M).bind fun M21 =>
if x7 = 2 then
dh_rests_j157 x1 x2 x4 x5 x6 1 M21
else
dh_rests_j157 x1 x2 x4 x5 x6 0 M21
noncomputable def dh_rests (x1 : Int) (x2 : Int) (x3 : Int) (M : MEM) : Option (Int × MEM) :=
if (dh_isDonkey x1 M) = 0 then
some ((-1), M)
else
if x2 < 1 then
some ((-1), M)
else
if 10 < x2 then
some ((-1), M)
else
if x3 < 0 then
some ((-1), M)
else
if x3 ≤ 20 then
(iter (fun s => dh_rests_b43 x1 x2 x3 s.1 s.2.1 s.2.2.1 s.2.2.2.1 s.2.2.2.2) FU (0, 0, 0, 0, M)).bind fun w19 =>
dh_rests_j141 x1 x2 w19.1 w19.2.1 w19.2.2.1 w19.2.2.2.1 w19.2.2.2.2
else
some ((-1), M)
noncomputable def dh_bid_j134_27 (x1 : Int) (x2 : Int) (x3 : Int) (x4 : Int) (M : MEM) : Option ((Int × MEM) ⊕ ((Int × MEM) ⊕ (Int × MEM))) :=
some (.inl ((wr (x4 + 1)), M))
noncomputable def dh_bid_j112_27 (x1 : Int) (x2 : Int) (x3 : Int) (x4 : Int) (x6 : Int) (s0 : Int) (M : MEM) : Option ((Int × MEM) ⊕ ((Int × MEM) ⊕ (Int × MEM))) :=
if 0 ≤ x2 then
if s0 = 0 then
dh_bid_j134_27 x1 x2 x3 x4 M
else
some (.inr (.inl (x4, M)))
else
if x6 = 0 then
dh_bid_j134_27 x1 x2 x3 x4 M
else
some (.inr (.inl (x4, M)))
noncomputable def dh_bid_j111_27 (x1 : Int) (x2 : Int) (x3 : Int) (x4 : Int) (x6 : Int) (M : MEM) : Option ((Int × MEM) ⊕ ((Int × MEM) ⊕ (Int × MEM))) :=
dh_bid_j112_27 x1 x2 x3 x4 x6 0 M
noncomputable def dh_bid_j94_27 (x1 : Int) (x2 : Int) (x3 : Int) (x4 : Int) (x5 : Int) (s0 : Int) (M : MEM) : Option ((Int × MEM) ⊕ ((Int × MEM) ⊕ (Int × MEM))) :=
if x5 < 0 then
dh_bid_j111_27 x1 x2 x3 x4 s0 M
else
if x3 < x5 then
dh_bid_j111_27 x1 x2 x3 x4 s0 M
else
dh_bid_j112_27 x1 x2 x3 x4 s0 1 M
noncomputable def dh_bid_j89_27 (x1 : Int) (x2 : Int) (x3 : Int) (x4 : Int) (x5 : Int) (M : MEM) : Option ((Int × MEM) ⊕ ((Int × MEM) ⊕ (Int × MEM))) :=
dh_bid_j94_27 x1 x2 x3 x4 x5 1 M
noncomputable def dh_bid_j48_27 (x1 : Int) (x2 : Int) (x3 : Int) (x4 : Int) (M : MEM) : Option ((Int × MEM) ⊕ ((Int × MEM) ⊕ (Int × MEM))) :=
(dh_look 224 x1 M).bind fun M16 =>
(fu_afterStroke 224 1 M16).bind fun p18 =>
(some (up2 p18.2 225 4 0)).bind fun M21 =>
if p18.1 < 0 then
dh_bid_j89_27 x1 x2 x3 x4 p18.1 M21
else
if p18.1 < x3 then
dh_bid_j94_27 x1 x2 x3 x4 p18.1 0 M21
else
dh_bid_j89_27 x1 x2 x3 x4 p18.1 M21
noncomputable def dh_bid_b27 (x1 : Int) (x2 : Int) (x3 : Int) (x4 : Int) (M : MEM) : Option ((Int × MEM) ⊕ ((Int × MEM) ⊕ (Int × MEM))) :=
if 60 < x4 then
some (.inr (.inr (x4, M)))
else
if x4 ≤ 0 then
dh_bid_j48_27 x1 x2 x3 x4 M
else
(dh_think x1 0 x4 x2 M).bind fun M30 =>
dh_bid_j48_27 x1 x2 x3 x4 M30
noncomputable def dh_bid (x1 : Int) (x2 : Int) (x3 : Int) (M : MEM) : Option (Int × MEM) :=
if (dh_isDonkey x1 M) = 0 then
some ((-1), M)
else
if (dh_isWay x2) = 0 then
some ((-1), M)
else
if (dh_isFar x3) = 0 then
some ((-1), M)
else
(iter (fun s => dh_bid_b27 x1 x2 x3 s.1 s.2) FU (0, M)).bind (Sum.elim (fun r => some r) (fun w31 =>
some ((-2), w31.2)))
noncomputable def rm_add (x1 : Int) (x2 : Int) (x3 : Int) (M : MEM) : Option (Int × MEM) :=
if (M 41 3) < 0 then
some (0, M)
else
if (M 41 3) < 8 then
if 0 ≤ (M 41 3) ∧ (M 41 3) < 8 then
(some (up2 M 42 ((M 41 3)).toNat x1)).bind fun M3 =>
if 0 ≤ (M3 41 3) ∧ (M3 41 3) < 8 then
(some (up2 M3 43 ((M3 41 3)).toNat x2)).bind fun M5 =>
if 0 ≤ (M5 41 3) ∧ (M5 41 3) < 8 then
(some (up2 M5 44 ((M5 41 3)).toNat x3)).bind fun M7 =>
(some (up2 M7 41 3 (wr ((M7 41 3) + 1)))).bind fun M9 =>
some (1, M9)
else none
else none
else none
else
some (0, M)
noncomputable def dh_heard (x1 : Int) (x2 : Int) (x3 : Int) (M : MEM) : Option (Int × MEM) :=
if (dh_isDonkey x1 M) = 0 then
some ((-1), M)
else
if x2 < 0 then
some ((-1), M)
else
if 60 < x2 then
some ((-1), M)
else
if (dh_isFar x3) = 0 then
some ((-1), M)
else
(rm_add x1 x2 x3 M).bind fun p12 =>
if p12.1 = 0 then
some ((-1), p12.2)
else
some ((p12.2 41 3), p12.2)
noncomputable def dh_forget  (M : MEM) : Option (Int × MEM) :=
(some (up2 M 41 3 0)).bind fun M1 =>
some ((M 41 3), M1)
noncomputable def fu_strokesWithin_b2 (a0 : Nat) (x1 : Int) (x2 : Int) (M : MEM) : Option ((Int) ⊕ (Int)) :=
if (M a0 10) ≤ x2 then
some (.inr x2)
else
(fu_strokeMinute a0 (wr (x2 + 1)) M).bind fun r3 =>
if x1 ≤ r3 then
some (.inr x2)
else
some (.inl (wr (x2 + 1)))
noncomputable def fu_strokesWithin (a0 : Nat) (x1 : Int) (M : MEM) : Option (Int) :=
(iter (fun s => fu_strokesWithin_b2 a0 x1 s M) FU 0).bind fun w7 =>
some w7
noncomputable def rm_fit_j63_2 (a1 : Nat) (x2 : Int) (M : MEM) : Option ((Int × MEM) ⊕ ((Int × MEM) ⊕ (Int × MEM))) :=
some (.inl ((wr (x2 + 1)), M))
noncomputable def rm_fit_b2 (a1 : Nat) (x2 : Int) (M : MEM) : Option ((Int × MEM) ⊕ ((Int × MEM) ⊕ (Int × MEM))) :=
if (M 41 3) ≤ x2 then
some (.inr (.inr (x2, M)))
else
if 8 ≤ x2 then
some (.inr (.inr (x2, M)))
else
if 0 ≤ x2 ∧ x2 < 8 then
if (M 42 (x2).toNat) = (M a1 7) then
if 0 ≤ x2 ∧ x2 < 8 then
(fu_run a1 (M 44 (x2).toNat) 600 M).bind fun M7 =>
if 0 ≤ x2 ∧ x2 < 8 then
(fu_strokesWithin a1 (M7 44 (x2).toNat) M7).bind fun r10 =>
if 0 ≤ x2 ∧ x2 < 8 then
if r10 = (M7 43 (x2).toNat) then
rm_fit_j63_2 a1 x2 M7
else
some (.inr (.inl (0, M7)))
else none
else none
else none
else
rm_fit_j63_2 a1 x2 M
else none
noncomputable def rm_fit (a1 : Nat) (M : MEM) : Option (Int × MEM) :=
(iter (fun s => rm_fit_b2 a1 s.1 s.2) FU (0, M)).bind (Sum.elim (fun r => some r) (fun w15 =>
some (1, w15.2)))
noncomputable def dh_isWayHeard (x1 : Int) (x2 : Int) (x3 : Int) (M : MEM) : Option (Int × MEM) :=
(dh_look 224 x1 M).bind fun M2 =>
(some (up2 M2 230 4 x2)).bind fun M3 =>
(some (up2 M3 230 3 x3)).bind fun M4 =>
(rm_fit 224 M4).bind fun p6 =>
some (p6.1, p6.2)
noncomputable def dh_hungers_j53_25 (x1 : Int) (a2 : Nat) (x3 : Int) (x4 : Int) (M : MEM) : Option ((Int × Int × MEM) ⊕ (Int × Int × MEM)) :=
some (.inl (x3, (wr (x4 + 1)), M))
noncomputable def dh_hungers_b25 (x1 : Int) (a2 : Nat) (x3 : Int) (x4 : Int) (M : MEM) : Option ((Int × Int × MEM) ⊕ (Int × Int × MEM)) :=
if 10 ≤ x4 then
some (.inr (x3, x4, M))
else
(dh_isWayHeard x1 x4 (M a2 3) M).bind fun p8 =>
if p8.1 = 0 then
dh_hungers_j53_25 x1 a2 x3 x4 p8.2
else
dh_hungers_j53_25 x1 a2 (ish i_or x3 (ish i_shl 1 x4)) x4 p8.2
noncomputable def dh_hungers_j97_65 (x1 : Int) (a2 : Nat) (x3 : Int) (x4 : Int) (x5 : Int) (M : MEM) : Option ((Int × Int × MEM) ⊕ (Int × Int × MEM)) :=
some (.inl (x4, (wr (x5 + 1)), M))
noncomputable def dh_hungers_b65 (x1 : Int) (a2 : Nat) (x3 : Int) (x4 : Int) (x5 : Int) (M : MEM) : Option ((Int × Int × MEM) ⊕ (Int × Int × MEM)) :=
if (M a2 2) ≤ x5 then
some (.inr (x4, x5, M))
else
(dh_isWayHeard x1 (M a2 4) x5 M).bind fun p15 =>
if p15.1 = 0 then
dh_hungers_j97_65 x1 a2 x3 x4 x5 p15.2
else
dh_hungers_j97_65 x1 a2 x3 (ish i_or x4 (ish i_shl 1 x5)) x5 p15.2
noncomputable def dh_hungers (x1 : Int) (M : MEM) : Option (Int × MEM) :=
if (dh_isDonkey x1 M) = 0 then
some ((-1), M)
else
if 0 ≤ x1 ∧ x1 < 3 then
(iter (fun s => dh_hungers_b25 x1 (10 + 3 * (x1).toNat) s.1 s.2.1 s.2.2) FU (0, 0, M)).bind fun w12 =>
(iter (fun s => dh_hungers_b65 x1 (10 + 3 * (x1).toNat) w12.1 s.1 s.2.1 s.2.2) FU (0, 0, w12.2.2)).bind fun w19 =>
(dh_newRow w19.2.2).bind fun M21 =>
(dh_tell w19.1 M21).bind fun M23 =>
some (w12.1, M23)
else none
noncomputable def dh_ways_j73_27 (x1 : Int) (x2 : Int) (x3 : Int) (x4 : Int) (M : MEM) : Option ((Int × Int × MEM) ⊕ (Int × Int × MEM)) :=
some (.inl (x2, (wr (x4 + 1)), M))
noncomputable def dh_ways_j70_27 (x1 : Int) (x2 : Int) (x3 : Int) (x4 : Int) (M : MEM) : Option ((Int × Int × MEM) ⊕ (Int × Int × MEM)) :=
dh_ways_j73_27 x1 (wr (x2 + 1)) x3 x4 M
noncomputable def dh_ways_b27 (x1 : Int) (x3 : Int) (x2 : Int) (x4 : Int) (M : MEM) : Option ((Int × Int × MEM) ⊕ (Int × Int × MEM)) :=
if 0 ≤ x1 ∧ x1 < 3 then
if (M (10 + 3 * (x1).toNat) 2) ≤ x4 then
some (.inr (x2, x4, M))
else
(dh_isWayHeard x1 x3 x4 M).bind fun p11 =>
if p11.1 = 0 then
dh_ways_j73_27 x1 x2 x3 x4 p11.2
else
if x2 = 0 then
(dh_tell x3 p11.2).bind fun M17 =>
(dh_tell x4 M17).bind fun M19 =>
dh_ways_j70_27 x1 x2 x3 x4 M19
else
dh_ways_j70_27 x1 x2 x3 x4 p11.2
else none
noncomputable def dh_ways_b18 (x1 : Int) (x2 : Int) (x3 : Int) (M : MEM) : Option ((Int × Int × MEM) ⊕ (Int × Int × MEM)) :=
if 10 ≤ x3 then
some (.inr (x2, x3, M))
else
(iter (fun s => dh_ways_b27 x1 x3 s.1 s.2.1 s.2.2) FU (x2, 0, M)).bind fun w20 =>
some (.inl (w20.1, (wr (x3 + 1)), w20.2.2))
noncomputable def dh_ways (x1 : Int) (M : MEM) : Option (Int × MEM) :=
if (dh_isDonkey x1 M) = 0 then
some ((-1), M)
else
(dh_newRow M).bind fun M6 =>
(iter (fun s => dh_ways_b18 x1 s.1 s.2.1 s.2.2) FU (0, 0, M6)).bind fun w21 =>
some (w21.1, w21.2.2)
noncomputable def dh_swarms_b23 (x1 : Int) (x2 : Int) (x3 : Int) (x4 : Int) (M : MEM) : Option ((Int × Int × MEM) ⊕ (Int × Int × MEM)) :=
if (M 3 2) ≤ x4 then
some (.inr (x3, x4, M))
else
if x3 = 0 then
some (.inr (x3, x4, M))
else
(dh_look 224 x4 M).bind fun M6 =>
(rm_fit 224 M6).bind fun p8 =>
some (.inl (p8.1, (wr (x4 + 1)), p8.2))
noncomputable def dh_swarms_j85_4 (x1 : Int) (x2 : Int) (M : MEM) : Option ((Int × Int × MEM) ⊕ (Int × Int × MEM)) :=
some (.inl (x1, (wr (x2 + 1)), M))
noncomputable def dh_swarms_j67_4 (x1 : Int) (x2 : Int) (x3 : Int) (M : MEM) : Option ((Int × Int × MEM) ⊕ (Int × Int × MEM)) :=
(some (up2 M 224 6 (-1))).bind fun M12 =>
if x3 = 0 then
dh_swarms_j85_4 x1 x2 M12
else
dh_swarms_j85_4 (ish i_or x1 (ish i_shl 1 x2)) x2 M12
noncomputable def dh_swarms_b4  (x1 : Int) (x2 : Int) (M : MEM) : Option ((Int × Int × MEM) ⊕ (Int × Int × MEM)) :=
if 10 ≤ x2 then
some (.inr (x1, x2, M))
else
(some (up2 M 224 6 x2)).bind fun M2 =>
(iter (fun s => dh_swarms_b23 x1 x2 s.1 s.2.1 s.2.2) FU (1, 0, M2)).bind fun w11 =>
dh_swarms_j67_4 x1 x2 w11.1 w11.2.2
noncomputable def dh_swarms  (M : MEM) : Option (Int × MEM) :=
(iter (fun s => dh_swarms_b4  s.1 s.2.1 s.2.2) FU (0, 0, M)).bind fun w14 =>
some (w14.1, w14.2.2)
noncomputable def dh_span_j115_38 (x1 : Int) (x2 : Int) (x3 : Int) (x4 : Int) (x5 : Int) (x6 : Int) (x7 : Int) (M : MEM) : Option ((Int × Int × Int × Int × MEM) ⊕ (Int × Int × Int × Int × MEM)) :=
some (.inl (x3, x4, x5, (wr (x7 + 1)), M))
noncomputable def dh_span_j102_38 (x1 : Int) (x2 : Int) (x4 : Int) (x5 : Int) (x6 : Int) (x7 : Int) (x8 : Int) (s0 : Int) (M : MEM) : Option ((Int × Int × Int × Int × MEM) ⊕ (Int × Int × Int × Int × MEM)) :=
dh_span_j115_38 x1 x2 s0 (max x4 x8) (wr (x5 + 1)) x6 x7 M
noncomputable def dh_span_j79_38 (x1 : Int) (x2 : Int) (x3 : Int) (x4 : Int) (x5 : Int) (x6 : Int) (x7 : Int) (s0 : Int) (M : MEM) : Option ((Int × Int × Int × Int × MEM) ⊕ (Int × Int × Int × Int × MEM)) :=
if s0 < 0 then
dh_span_j115_38 x1 x2 x3 x4 x5 x6 x7 M
else
if x5 = 0 then
dh_span_j102_38 x1 x2 x4 x5 x6 x7 s0 s0 M
else
dh_span_j102_38 x1 x2 x4 x5 x6 x7 s0 (min x3 s0) M
noncomputable def dh_span_b38 (x1 : Int) (x2 : Int) (x6 : Int) (x3 : Int) (x4 : Int) (x5 : Int) (x7 : Int) (M : MEM) : Option ((Int × Int × Int × Int × MEM) ⊕ (Int × Int × Int × Int × MEM)) :=
if 0 ≤ x1 ∧ x1 < 3 then
if (M (10 + 3 * (x1).toNat) 2) ≤ x7 then
some (.inr (x3, x4, x5, x7, M))
else
(dh_isWayHeard x1 x6 x7 M).bind fun p13 =>
if p13.1 = 0 then
dh_span_j79_38 x1 x2 x3 x4 x5 x6 x7 (-1) p13.2
else
(fu_afterStroke 224 x2 p13.2).bind fun p20 =>
dh_span_j79_38 x1 x2 x3 x4 x5 x6 x7 p20.1 p20.2
else none
noncomputable def dh_span_b28 (x1 : Int) (x2 : Int) (x3 : Int) (x4 : Int) (x5 : Int) (x6 : Int) (M : MEM) : Option ((Int × Int × Int × Int × MEM) ⊕ (Int × Int × Int × Int × MEM)) :=
if 10 ≤ x6 then
some (.inr (x3, x4, x5, x6, M))
else
(iter (fun s => dh_span_b38 x1 x2 x6 s.1 s.2.1 s.2.2.1 s.2.2.2.1 s.2.2.2.2) FU (x3, x4, x5, 0, M)).bind fun w23 =>
some (.inl (w23.1, w23.2.1, w23.2.2.1, (wr (x6 + 1)), w23.2.2.2.2))
noncomputable def dh_span (x1 : Int) (x2 : Int) (M : MEM) : Option (Int × MEM) :=
if (dh_isDonkey x1 M) = 0 then
some ((-1), M)
else
if (dh_isAskedStroke x2) = 0 then
some ((-1), M)
else
(iter (fun s => dh_span_b28 x1 x2 s.1 s.2.1 s.2.2.1 s.2.2.2.1 s.2.2.2.2) FU ((-1), (-1), 0, 0, M)).bind fun w24 =>
if w24.2.2.1 = 0 then
some ((-2), w24.2.2.2.2)
else
(dh_newRow w24.2.2.2.2).bind fun M27 =>
(dh_tell w24.2.1 M27).bind fun M29 =>
(dh_tell w24.2.2.1 M29).bind fun M31 =>
some (w24.1, M31)
noncomputable def dh_areTwo (x1 : Int) (x2 : Int) (M : MEM) : Int :=
if (dh_isDonkey x1 M) = 0 then
0
else
if (dh_isDonkey x2 M) = 0 then
0
else
if x1 = x2 then
0
else
1
noncomputable def dh_lookBoth (x1 : Int) (x2 : Int) (M : MEM) : Option (MEM) :=
(dh_look 224 x1 M).bind fun M2 =>
(dh_look 234 x2 M2).bind fun M4 =>
some M4
noncomputable def dh_together_b19  (x3 : Int) (M : MEM) : Option ((Int × MEM) ⊕ ((Int × MEM) ⊕ (Int × MEM))) :=
if 600 ≤ x3 then
some (.inr (.inr (x3, M)))
else
(fu_step 224 M).bind fun p9 =>
(fu_step 234 p9.2).bind fun p13 =>
if (ish i_and (ish i_and p9.1 p13.1) 1) = 0 then
some (.inl ((wr (x3 + 1)), p13.2))
else
some (.inr (.inl ((wr (x3 + 1)), p13.2)))
noncomputable def dh_together (x1 : Int) (x2 : Int) (M : MEM) : Option (Int × MEM) :=
if (dh_areTwo x1 x2 M) = 0 then
some ((-1), M)
else
(dh_lookBoth x1 x2 M).bind fun M6 =>
(iter (fun s => dh_together_b19  s.1 s.2) FU (0, M6)).bind (Sum.elim (fun r => some r) (fun w17 =>
some ((-2), w17.2)))
noncomputable def dh_join_b27 (x3 : Int) (x4 : Int) (M : MEM) : Option ((Int × MEM) ⊕ (Int × MEM)) :=
if 12 ≤ x4 then
some (.inr (x4, M))
else
if 0 ≤ x4 ∧ x4 < 12 then
(some (up2 M 244 (x4).toNat 0)).bind fun M12 =>
some (.inl ((wr (x4 + 1)), M12))
else none
noncomputable def dh_join_b51 (x3 : Int) (x4 : Int) (M : MEM) : Option ((Int × MEM) ⊕ (Int × MEM)) :=
if x3 ≤ x4 then
some (.inr (x4, M))
else
(fu_step 224 M).bind fun p17 =>
(fu_step 234 p17.2).bind fun p21 =>
(jm_floorMod (wr ((p21.2 230 5) - (p21.2 240 5))) 12).bind fun r25 =>
if 0 ≤ r25 ∧ r25 < 12 then
if 0 ≤ r25 ∧ r25 < 12 then
(some (up2 p21.2 244 (r25).toNat (wr ((p21.2 244 (r25).toNat) + 1)))).bind fun M29 =>
some (.inl ((wr (x4 + 1)), M29))
else none
else none
noncomputable def dh_join_j148_120 (x4 : Int) (x5 : Int) (M : MEM) : Option ((Int × Int) ⊕ (Int × Int)) :=
some (.inl (x4, (wr (x5 + 1))))
noncomputable def dh_join_b120  (x4 : Int) (x5 : Int) (M : MEM) : Option ((Int × Int) ⊕ (Int × Int)) :=
if 12 ≤ x5 then
some (.inr (x4, x5))
else
if 0 ≤ x5 ∧ x5 < 12 then
if 0 ≤ x4 ∧ x4 < 12 then
if (M 244 (x5).toNat) ≤ (M 244 (x4).toNat) then
dh_join_j148_120 x4 x5 M
else
dh_join_j148_120 x5 x5 M
else none
else none
noncomputable def dh_join (x1 : Int) (x2 : Int) (x3 : Int) (M : MEM) : Option (Int × MEM) :=
if (dh_areTwo x1 x2 M) = 0 then
some ((-1), M)
else
if (dh_isFar x3) = 0 then
some ((-1), M)
else
(dh_lookBoth x1 x2 M).bind fun M10 =>
(iter (fun s => dh_join_b27 x3 s.1 s.2) FU (0, M10)).bind fun w14 =>
(iter (fun s => dh_join_b51 x3 s.1 s.2) FU (0, w14.2)).bind fun w31 =>
(iter (fun s => dh_join_b120  s.1 s.2 w31.2) FU (0, 1)).bind fun w36 =>
(dh_newRow w31.2).bind fun M38 =>
(dh_tell w36.1 M38).bind fun M40 =>
if 0 ≤ w36.1 ∧ w36.1 < 12 then
(dh_tell (M40 244 (w36.1).toNat) M40).bind fun M43 =>
some ((M43 244 0), M43)
else none
noncomputable def dh_shows (x1 : Int) (x2 : Int) (x3 : Int) (M : MEM) : Option (Int × MEM) :=
if (dh_areTwo x1 x2 M) = 0 then
some ((-1), M)
else
if (dh_isAskedStroke x3) = 0 then
some ((-1), M)
else
(dh_lookBoth x1 x2 M).bind fun M10 =>
(fu_afterStroke 234 x3 M10).bind fun p12 =>
if 0 ≤ p12.1 then
(fu_run 224 p12.1 600 p12.2).bind fun M17 =>
some ((Int.tmod (M17 230 5) 12), M17)
else
some ((-2), p12.2)
noncomputable def dh_egg_j125_71 (x2 : Int) (x3 : Int) (x4 : Int) (x5 : Int) (M : MEM) : Option ((Int × Int) ⊕ (Int × Int)) :=
some (.inl (x4, (wr (x5 + 1))))
noncomputable def dh_egg_b71 (x2 : Int) (x3 : Int) (x4 : Int) (x5 : Int) (M : MEM) : Option ((Int × Int) ⊕ (Int × Int)) :=
if (M 224 10) ≤ x5 then
some (.inr (x4, x5))
else
if 12 < x5 then
some (.inr (x4, x5))
else
(fu_boiled 224 x5 M).bind fun r19 =>
(fu_boiled 224 x4 M).bind fun r23 =>
if (iabs (wr (r23 - x3))) ≤ (iabs (wr (r19 - x3))) then
dh_egg_j125_71 x2 x3 x4 x5 M
else
dh_egg_j125_71 x2 x3 x5 x5 M
noncomputable def dh_egg_j131 (x2 : Int) (x4 : Int) (M : MEM) : Option (Int × MEM) :=
(dh_newRow M).bind fun M29 =>
(dh_tell x4 M29).bind fun M31 =>
(fu_boiled 224 x4 M31).bind fun r33 =>
(dh_tell r33 M31).bind fun M37 =>
(fu_boiled 224 x2 M37).bind fun r39 =>
some (r39, M37)
noncomputable def dh_egg (x1 : Int) (x2 : Int) (x3 : Int) (M : MEM) : Option (Int × MEM) :=
if (dh_isDonkey x1 M) = 0 then
some ((-1), M)
else
if x2 < 1 then
some ((-1), M)
else
if 12 < x2 then
some ((-1), M)
else
if (dh_isFar x3) = 0 then
some ((-1), M)
else
(dh_look 224 x1 M).bind fun M12 =>
(fu_run 224 600 13 M12).bind fun M14 =>
if (wr (x2 + 1)) ≤ (M14 224 10) then
(iter (fun s => dh_egg_b71 x2 x3 s.1 s.2 M14) FU (1, 2)).bind fun w27 =>
dh_egg_j131 x2 w27.1 M14
else
some ((-2), M14)
noncomputable def dh_plant_j134_37 (x1 : Int) (x2 : Int) (x3 : Int) (x4 : Int) (x5 : Int) (x6 : Int) (M : MEM) : Option ((Int × Int × Int × MEM) ⊕ (Int × Int × Int × MEM)) :=
some (.inl (x4, x5, (wr (x6 + 1)), M))
noncomputable def dh_plant_j117_37 (x1 : Int) (x2 : Int) (x3 : Int) (x4 : Int) (x5 : Int) (x6 : Int) (s0 : Int) (M : MEM) : Option ((Int × Int × Int × MEM) ⊕ (Int × Int × Int × MEM)) :=
if s0 ≤ x5 then
dh_plant_j134_37 x1 x2 x3 x4 x5 x6 M
else
dh_plant_j134_37 x1 x2 x3 x6 s0 x6 M
noncomputable def dh_plant_b37 (x1 : Int) (x2 : Int) (x3 : Int) (x4 : Int) (x5 : Int) (x6 : Int) (M : MEM) : Option ((Int × Int × Int × MEM) ⊕ (Int × Int × Int × MEM)) :=
if 0 ≤ x1 ∧ x1 < 3 then
if (M (10 + 3 * (x1).toNat) 2) ≤ x6 then
some (.inr (x4, x5, x6, M))
else
(dh_look 224 x1 M).bind fun M14 =>
(be_thistlesOn 230 x6 M14).bind fun r16 =>
(be_put 230 x6 (min 9 (wr (r16 + x2))) M14).bind fun M20 =>
(fu_afterStroke 224 x3 M20).bind fun p22 =>
if 0 ≤ p22.1 then
dh_plant_j117_37 x1 x2 x3 x4 x5 x6 p22.1 p22.2
else
dh_plant_j117_37 x1 x2 x3 x4 x5 x6 601 p22.2
else none
noncomputable def dh_plant_j159 (x4 : Int) (s1 : Int) (M : MEM) : Option (Int × MEM) :=
(dh_tell s1 M).bind fun M32 =>
some (x4, M32)
noncomputable def dh_plant (x1 : Int) (x2 : Int) (x3 : Int) (M : MEM) : Option (Int × MEM) :=
if (dh_isDonkey x1 M) = 0 then
some ((-1), M)
else
if x2 < 1 then
some ((-1), M)
else
if 9 < x2 then
some ((-1), M)
else
if (dh_isAskedStroke x3) = 0 then
some ((-1), M)
else
(iter (fun s => dh_plant_b37 x1 x2 x3 s.1 s.2.1 s.2.2.1 s.2.2.2) FU (0, (-1), 0, M)).bind fun w27 =>
(dh_newRow w27.2.2.2).bind fun M29 =>
if w27.2.1 = 601 then
dh_plant_j159 w27.1 (-1) M29
else
dh_plant_j159 w27.1 w27.2.1 M29
noncomputable def dh_keep (x1 : Int) (M : MEM) : Option (Int × MEM) :=
if x1 < 0 then
some (0, M)
else
if x1 < 2 then
if 0 ≤ x1 ∧ x1 < 2 then
(sc_copyWalk (246 + 16 * (x1).toNat) 3 M).bind fun M5 =>
if 0 ≤ x1 ∧ x1 < 2 then
(ca_copy ((246 + 16 * (x1).toNat) + 2) 5 M5).bind fun M8 =>
if 0 ≤ x1 ∧ x1 < 2 then
(some (up2 M8 (246 + 16 * (x1).toNat) 4 1)).bind fun M10 =>
some (1, M10)
else none
else none
else none
else
some (0, M)
noncomputable def dh_again (x1 : Int) (M : MEM) : Option (Int × MEM) :=
if x1 < 0 then
some (0, M)
else
if 2 ≤ x1 then
some (0, M)
else
if 0 ≤ x1 ∧ x1 < 2 then
if (M (246 + 16 * (x1).toNat) 4) = 0 then
some (0, M)
else
if 0 ≤ x1 ∧ x1 < 2 then
if (M (246 + 16 * (x1).toNat) 2) = (M 3 2) then
if 0 ≤ x1 ∧ x1 < 2 then
(sc_copyWalk 3 (246 + 16 * (x1).toNat) M).bind fun M9 =>
if 0 ≤ x1 ∧ x1 < 2 then
(ca_copy 5 ((246 + 16 * (x1).toNat) + 2) M9).bind fun M12 =>
(hi_clear M12).bind fun M14 =>
some (1, M14)
else none
else none
else
some (0, M)
else none
else none
noncomputable def dh_count (x1 : Int) (M : MEM) : Option (Int) :=
if x1 = 0 then
some (M 3 2)
else
if x1 = 1 then
some (M 3 3)
else
if x1 = 2 then
some (M 5 4)
else
if x1 = 3 then
some (M 34 6)
else
if x1 = 4 then
(sc_allStrokes 3 M).bind fun r7 =>
some r7
else
if x1 = 5 then
(sc_allThistles 3 M).bind fun r12 =>
some r12
else
if x1 = 6 then
some (M 45 2)
else
if x1 = 7 then
some (M 41 3)
else
if x1 = 8 then
some (M 0 14)
else
if x1 = 9 then
some (M 1 1)
else
some (-1)
noncomputable def dh_donkey (x1 : Int) (x2 : Int) (M : MEM) : Option (MEM ⊕ (Int × MEM)) :=
if (dh_isDonkey x1 M) = 0 then
some (.inl M)
else
if x2 < 0 then
some (.inl M)
else
if x2 ≤ 6 then
if 0 ≤ x1 ∧ x1 < 3 then
if x2 = 0 then
some (.inr ((M (10 + 3 * (x1).toNat) 4), M))
else
if x2 = 1 then
some (.inr ((M (10 + 3 * (x1).toNat) 3), M))
else
if x2 = 2 then
some (.inr ((M (10 + 3 * (x1).toNat) 5), M))
else
if x2 = 3 then
some (.inr ((Int.tmod (M (10 + 3 * (x1).toNat) 5) 12), M))
else
if x2 = 4 then
some (.inr ((M (10 + 3 * (x1).toNat) 2), M))
else
if x2 = 5 then
(be_allThistles (10 + 3 * (x1).toNat) M).bind fun r15 =>
some (.inr (r15, M))
else
(dh_paceNow (10 + 3 * (x1).toNat) x1 M).bind fun p19 =>
some (.inr (p19.1, p19.2))
else none
else
some (.inl M)
noncomputable def dh_apart (x1 : Int) (x2 : Int) (x3 : Int) (M : MEM) : Option (MEM ⊕ (Int × MEM)) :=
if (dh_areTwo x1 x2 M) = 0 then
some (.inl M)
else
if x3 < 0 then
some (.inl M)
else
if x3 ≤ 600 then
(dh_lookBoth x1 x2 M).bind fun M8 =>
(fu_run 224 x3 600 M8).bind fun M10 =>
(fu_run 234 x3 600 M10).bind fun M12 =>
some (.inr ((wr ((M12 230 5) - (M12 240 5))), M12))
else
some (.inl M)
noncomputable def dh_row (x1 : Int) (M : MEM) : Option (MEM ⊕ (Int × MEM)) :=
if x1 < 0 then
some (.inl M)
else
if (M 0 14) ≤ x1 then
some (.inl M)
else
if x1 < 4 then
if 0 ≤ x1 ∧ x1 < 4 then
some (.inr ((M 245 (x1).toNat), M))
else none
else
some (.inl M)
noncomputable def mo_thrown  (M : MEM) : Int :=
(M 278 13)
noncomputable def mo_sign_b20 (x1 : Int) (x2 : Int) (M : MEM) : Option ((Int × MEM) ⊕ (Int × MEM)) :=
if x2 < 0 then
some (.inr (x2, M))
else
(some (up2 M 278 10 (wr ((M 278 10) + 1)))).bind fun M4 =>
if 0 ≤ (M 278 10) ∧ (M 278 10) < 80 then
(some (up2 M4 283 ((M 278 10)).toNat (sx8 (sx8 (ish i_shr x1 (wr (8 * x2))))))).bind fun M5 =>
some (.inl ((wr (x2 + (-1))), M5))
else none
noncomputable def mo_sign (x1 : Int) (M : MEM) : Option (Int × MEM) :=
(some (up2 M 278 13 0)).bind fun M1 =>
if (wr ((M1 278 10) + 4)) ≤ 80 then
(iter (fun s => mo_sign_b20 x1 s.1 s.2) FU (3, M1)).bind fun w7 =>
some ((w7.2 278 10), w7.2)
else
some ((-1), M1)
noncomputable def mo_in (x0 : Int) (x1 : Int) (x2 : Int) : Int :=
if x0 < x1 then
0
else
if x2 < x0 then
0
else
1
noncomputable def mo_end (x1 : Int) (M : MEM) : Option (Int × MEM) :=
(some (up2 M 278 13 0)).bind fun M1 =>
if (mo_in x1 0 (M1 278 10)) = 0 then
some (0, M1)
else
(some (up2 M1 278 10 x1)).bind fun M6 =>
some (1, M6)
noncomputable def mo_begin (a1 : Nat) (x2 : Int) (x3 : Int) (M : MEM) : Option (MEM) :=
(some (up2 M 278 14 ((a1 : Nat) + 1))).bind fun M1 =>
(some (up2 M1 278 15 x2)).bind fun M2 =>
(some (up2 M2 278 16 x3)).bind fun M3 =>
(some (up2 M3 278 17 0)).bind fun M4 =>
(some (up2 M4 278 18 (-1))).bind fun M5 =>
some M5
noncomputable def mo_fine  (M : MEM) : Int :=
if (M 278 18) = (-1) then
1
else
0
noncomputable def mo_fault (x1 : Int) (M : MEM) : Option (MEM) :=
if (mo_fine M) = 0 then
some M
else
(some (up2 M 278 18 x1)).bind fun M5 =>
some M5
noncomputable def mo_here  (M : MEM) : Option (Int) :=
if (M 278 15) ≤ (M 278 17) then
some (-1)
else
if (M 278 16) ≤ (M 278 17) then
some (-1)
else
if 0 < M 278 14 ∧ isArr 1 (lenA (dref (M 278 14))) (dref (M 278 14)) then
if 0 ≤ (M 278 17) ∧ (M 278 17) < (lenA (dref (M 278 14))) then
some (M (dref (M 278 14)) ((M 278 17)).toNat)
else none
else none
noncomputable def mo_passes (x1 : Int) (M : MEM) : Option (Int × MEM) :=
if (mo_fine M) = 0 then
some (0, M)
else
(mo_here M).bind fun r6 =>
if r6 = x1 then
(some (up2 M 278 17 (wr ((M 278 17) + 1)))).bind fun M10 =>
some (1, M10)
else
some (0, M)
noncomputable def mo_need (x1 : Int) (M : MEM) : Option (MEM) :=
(mo_passes x1 M).bind fun p2 =>
if p2.1 = 0 then
(mo_fault (p2.2 278 17) p2.2).bind fun M7 =>
some M7
else
some p2.2
noncomputable def mo_number_b16 (x1 : Int) (x2 : Int) (x3 : Int) (M : MEM) : Option ((Int × MEM) ⊕ (Int × MEM)) :=
if (wr (x2 + x1)) ≤ (M 278 17) then
some (.inr (x3, M))
else
(mo_here M).bind fun r7 =>
if (mo_in r7 48 57) = 0 then
some (.inr (x3, M))
else
(mo_here M).bind fun r15 =>
(some (up2 M 278 17 (wr ((M 278 17) + 1)))).bind fun M18 =>
some (.inl ((wr ((wr ((wr (10 * x3)) + r15)) - 48)), M18))
noncomputable def mo_number_j66 (x2 : Int) (x3 : Int) (M : MEM) : Option (Int × MEM) :=
if (M 278 17) = x2 then
(mo_fault (M 278 17) M).bind fun M22 =>
some (x3, M22)
else
some (x3, M)
noncomputable def mo_number (x1 : Int) (M : MEM) : Option (Int × MEM) :=
if (mo_fine M) = 0 then
some (0, M)
else
(iter (fun s => mo_number_b16 x1 (M 278 17) s.1 s.2) FU (0, M)).bind fun w19 =>
mo_number_j66 (M 278 17) w19.1 w19.2
noncomputable def mo_readDonkey_b19 (x1 : Int) (x2 : Int) (M : MEM) : Option ((Int × MEM) ⊕ (Int × MEM)) :=
if (mo_fine M) = 0 then
some (.inr (x2, M))
else
(mo_here M).bind fun r14 =>
if (mo_in r14 48 57) = 0 then
some (.inr (x2, M))
else
if x2 = 12 then
(mo_fault (M 278 17) M).bind fun M23 =>
some (.inl (x2, M23))
else
(mo_here M).bind fun r25 =>
if 0 ≤ (wr ((wr (x1 + 2)) + x2)) ∧ (wr ((wr (x1 + 2)) + x2)) < 42 then
(some (up2 M 285 ((wr ((wr (x1 + 2)) + x2))).toNat (wr (r25 - 48)))).bind fun M28 =>
(some (up2 M28 278 17 (wr ((M28 278 17) + 1)))).bind fun M30 =>
some (.inl ((wr (x2 + 1)), M30))
else none
noncomputable def mo_readDonkey_j103 (x1 : Int) (x2 : Int) (M : MEM) : Option (MEM) :=
if 0 ≤ (wr (x1 + 1)) ∧ (wr (x1 + 1)) < 42 then
(some (up2 M 285 ((wr (x1 + 1))).toNat x2)).bind fun M33 =>
some M33
else none
noncomputable def mo_readDonkey_j90 (x1 : Int) (x2 : Int) (M : MEM) : Option (MEM) :=
if 4 ≤ x2 then
mo_readDonkey_j103 x1 x2 M
else
(mo_fault (M 278 17) M).bind fun M36 =>
mo_readDonkey_j103 x1 x2 M36
noncomputable def mo_readDonkey (x1 : Int) (M : MEM) : Option (MEM) :=
(mo_number 1 M).bind fun p2 =>
if 0 ≤ x1 ∧ x1 < 42 then
(some (up2 p2.2 285 (x1).toNat p2.1)).bind fun M5 =>
(mo_need 58 M5).bind fun M8 =>
(iter (fun s => mo_readDonkey_b19 x1 s.1 s.2) FU (0, M8)).bind fun w31 =>
mo_readDonkey_j90 x1 w31.1 w31.2
else none
noncomputable def mo_stable_j77_37 (x1 : Int) (M : MEM) : Option ((Int × Int × MEM) ⊕ (Int × Int × MEM)) :=
(mo_passes 59 M).bind fun p15 =>
some (.inl ((wr (x1 + 1)), p15.1, p15.2))
noncomputable def mo_stable_b37  (x1 : Int) (x2 : Int) (M : MEM) : Option ((Int × Int × MEM) ⊕ (Int × Int × MEM)) :=
if x2 = 0 then
some (.inr (x1, x2, M))
else
if (mo_fine M) = 0 then
some (.inr (x1, x2, M))
else
if (wr ((M 278 1) + x1)) = 3 then
(mo_fault (M 278 17) M).bind fun M13 =>
mo_stable_j77_37 x1 M13
else
(mo_readDonkey (wr (14 * x1)) M).bind fun M19 =>
mo_stable_j77_37 x1 M19
noncomputable def mo_stable_b142 (x1 : Int) (x3 : Int) (x4 : Int) (x5 : Int) (M : MEM) : Option ((Int × MEM) ⊕ (Int × MEM)) :=
if 55 ≤ x5 then
some (.inr (x5, M))
else
if 0 ≤ (wr (x4 + x5)) ∧ (wr (x4 + x5)) < 166 then
(some (up2 M 279 ((wr (x4 + x5))).toNat 0)).bind fun M28 =>
some (.inl ((wr (x5 + 1)), M28))
else none
noncomputable def mo_stable_b205 (x1 : Int) (x3 : Int) (x4 : Int) (x5 : Int) (M : MEM) : Option ((Int × MEM) ⊕ (Int × MEM)) :=
if 0 ≤ (M 278 1) ∧ (M 278 1) < 3 then
if (M 280 ((M 278 1)).toNat) ≤ x5 then
some (.inr (x5, M))
else
if 0 ≤ (wr ((wr ((wr (14 * x3)) + 2)) + x5)) ∧ (wr ((wr ((wr (14 * x3)) + 2)) + x5)) < 42 then
if 0 ≤ (wr ((wr (x4 + 3)) + x5)) ∧ (wr ((wr (x4 + 3)) + x5)) < 166 then
(some (up2 M 279 ((wr ((wr (x4 + 3)) + x5))).toNat (M 285 ((wr ((wr ((wr (14 * x3)) + 2)) + x5))).toNat))).bind fun M40 =>
some (.inl ((wr (x5 + 1)), M40))
else none
else none
else none
noncomputable def mo_stable_b125 (x1 : Int) (x3 : Int) (M : MEM) : Option ((Int × MEM) ⊕ (Int × MEM)) :=
if x1 ≤ x3 then
some (.inr (x3, M))
else
(iter (fun s => mo_stable_b142 x1 x3 (wr (55 * (M 278 1))) s.1 s.2) FU (0, M)).bind fun w30 =>
if 0 ≤ (wr (14 * x3)) ∧ (wr (14 * x3)) < 42 then
if 0 ≤ (wr (55 * (M 278 1))) ∧ (wr (55 * (M 278 1))) < 166 then
(some (up2 w30.2 279 ((wr (55 * (M 278 1)))).toNat (w30.2 285 ((wr (14 * x3))).toNat))).bind fun M32 =>
if 0 ≤ (wr ((wr (14 * x3)) + 1)) ∧ (wr ((wr (14 * x3)) + 1)) < 42 then
if 0 ≤ (M32 278 1) ∧ (M32 278 1) < 3 then
(some (up2 M32 280 ((M32 278 1)).toNat (M32 285 ((wr ((wr (14 * x3)) + 1))).toNat))).bind fun M35 =>
(iter (fun s => mo_stable_b205 x1 x3 (wr (55 * (M 278 1))) s.1 s.2) FU (0, M35)).bind fun w42 =>
(some (up2 w42.2 278 1 (wr ((w42.2 278 1) + 1)))).bind fun M43 =>
some (.inl ((wr (x3 + 1)), M43))
else none
else none
else none
else none
noncomputable def mo_stable_j109 (x1 : Int) (M : MEM) : Option (Int × MEM) :=
if (mo_fine M) = 0 then
some ((wr ((-1) - (M 278 18))), M)
else
(iter (fun s => mo_stable_b125 x1 s.1 s.2) FU (0, M)).bind fun w44 =>
(some (up2 w44.2 278 31 0)).bind fun M45 =>
(some (up2 M45 278 51 (wr ((M45 278 51) + 1)))).bind fun M46 =>
some (x1, M46)
noncomputable def mo_stable_j90 (x1 : Int) (M : MEM) : Option (Int × MEM) :=
if (M 278 15) ≤ (M 278 17) then
mo_stable_j109 x1 M
else
(mo_fault (M 278 17) M).bind fun M48 =>
mo_stable_j109 x1 M48
noncomputable def mo_stable  (M : MEM) : Option (Int × MEM) :=
(some (up2 M 278 13 0)).bind fun M1 =>
(mo_begin 283 (M1 278 10) 76 M1).bind fun M3 =>
(some (up2 M3 278 10 0)).bind fun M4 =>
if (M4 278 15) = 0 then
some (0, M4)
else
(iter (fun s => mo_stable_b37  s.1 s.2.1 s.2.2) FU (0, 1, M4)).bind fun w20 =>
mo_stable_j90 w20.1 w20.2.2
noncomputable def mo_flies_b17 (x1 : Int) (x2 : Int) (M : MEM) : Option ((Int) ⊕ ((Int × MEM) ⊕ (Int))) :=
if x1 ≤ x2 then
some (.inr (.inr x2))
else
if x2 = 40 then
some (.inr (.inl ((wr ((-1) - x2)), M)))
else
if 0 ≤ x2 ∧ x2 < 80 then
if (mo_in (M 283 (x2).toNat) 48 57) = 0 then
some (.inr (.inl ((wr ((-1) - x2)), M)))
else
some (.inl (wr (x2 + 1)))
else none
noncomputable def mo_flies_b56 (x1 : Int) (x2 : Int) (M : MEM) : Option ((Int × MEM) ⊕ (Int × MEM)) :=
if x1 ≤ x2 then
some (.inr (x2, M))
else
if 0 ≤ x2 ∧ x2 < 80 then
if 0 ≤ x2 ∧ x2 < 40 then
(some (up2 M 281 (x2).toNat (wr ((M 283 (x2).toNat) - 48)))).bind fun M13 =>
some (.inl ((wr (x2 + 1)), M13))
else none
else none
noncomputable def mo_flies  (M : MEM) : Option (Int × MEM) :=
(some (up2 M 278 13 0)).bind fun M1 =>
(some (up2 M1 278 10 0)).bind fun M2 =>
(iter (fun s => mo_flies_b17 (M1 278 10) s M2) FU 0).bind (Sum.elim (fun r => some r) (fun w10 =>
(iter (fun s => mo_flies_b56 (M1 278 10) s.1 s.2) FU (0, M2)).bind fun w15 =>
(some (up2 w15.2 278 4 (M1 278 10))).bind fun M16 =>
some ((M1 278 10), M16)))
noncomputable def mo_fliesIn (x1 : Int) (M : MEM) : Option (Int) :=
if (M 278 5) = (-1) then
if (M 278 4) = 0 then
some 0
else
if (M 278 4) = 0 then none else
if 0 ≤ (Int.tmod x1 (M 278 4)) ∧ (Int.tmod x1 (M 278 4)) < 40 then
some (M 281 ((Int.tmod x1 (M 278 4))).toNat)
else none
else
some (M 278 5)
noncomputable def mo_hurry_j99_5 (x1 : Int) (x2 : Int) (x3 : Int) (x4 : Int) (M : MEM) : Option ((Int × Int) ⊕ (Int × Int)) :=
some (.inl (x3, (wr (x4 + 1))))
noncomputable def mo_hurry_j43_5 (x1 : Int) (x2 : Int) (x3 : Int) (x4 : Int) (M : MEM) : Option ((Int × Int) ⊕ (Int × Int)) :=
if 0 ≤ (wr (4 * x4)) ∧ (wr (4 * x4)) < 48 then
if (M 282 ((wr (4 * x4))).toNat) = x1 then
if 0 ≤ (wr ((wr (4 * x4)) + 1)) ∧ (wr ((wr (4 * x4)) + 1)) < 48 then
if 0 ≤ (wr ((wr (4 * x4)) + 2)) ∧ (wr ((wr (4 * x4)) + 2)) < 48 then
if (mo_in x2 (M 282 ((wr ((wr (4 * x4)) + 1))).toNat) (M 282 ((wr ((wr (4 * x4)) + 2))).toNat)) = 0 then
mo_hurry_j99_5 x1 x2 x3 x4 M
else
if 0 ≤ (wr ((wr (4 * x4)) + 3)) ∧ (wr ((wr (4 * x4)) + 3)) < 48 then
mo_hurry_j99_5 x1 x2 (wr (x3 + (M 282 ((wr ((wr (4 * x4)) + 3))).toNat))) x4 M
else none
else none
else none
else
mo_hurry_j99_5 x1 x2 x3 x4 M
else none
noncomputable def mo_hurry_b5 (x1 : Int) (x2 : Int) (x3 : Int) (x4 : Int) (M : MEM) : Option ((Int × Int) ⊕ (Int × Int)) :=
if 12 ≤ x4 then
some (.inr (x3, x4))
else
if x4 < (M 278 7) then
mo_hurry_j43_5 x1 x2 x3 x4 M
else
if x4 < 10 then
mo_hurry_j99_5 x1 x2 x3 x4 M
else
if x4 < (wr (10 + (M 278 8))) then
mo_hurry_j43_5 x1 x2 x3 x4 M
else
mo_hurry_j99_5 x1 x2 x3 x4 M
noncomputable def mo_hurry (x1 : Int) (x2 : Int) (M : MEM) : Option (Int) :=
(iter (fun s => mo_hurry_b5 x1 x2 s.1 s.2 M) FU (0, 0)).bind fun w14 =>
some w14.1
noncomputable def mo_letter (x1 : Int) (a2 : Nat) (x3 : Int) (M : MEM) : Option (Int) :=
if x1 = 99 then
if 0 ≤ (165 : Int) ∧ (165 : Int) < (lenA a2) then
(mo_hurry x3 (M a2 ((165 : Int)).toNat) M).bind fun r4 =>
some r4
else none
else
if x1 = 102 then
if 0 ≤ (165 : Int) ∧ (165 : Int) < (lenA a2) then
(mo_fliesIn (M a2 ((165 : Int)).toNat) M).bind fun r10 =>
some r10
else none
else
if x1 = 104 then
if 0 ≤ (wr (55 * x3)) ∧ (wr (55 * x3)) < (lenA a2) then
some (M a2 ((wr (55 * x3))).toNat)
else none
else
if x1 = 107 then
if 0 ≤ (wr ((wr (55 * x3)) + 2)) ∧ (wr ((wr (55 * x3)) + 2)) < (lenA a2) then
some (Int.tmod (M a2 ((wr ((wr (55 * x3)) + 2))).toNat) 12)
else none
else
if x1 = 109 then
if 0 ≤ (165 : Int) ∧ (165 : Int) < (lenA a2) then
some (M a2 ((165 : Int)).toNat)
else none
else
if x1 = 112 then
if 0 ≤ (wr ((wr (55 * x3)) + 1)) ∧ (wr ((wr (55 * x3)) + 1)) < (lenA a2) then
some (M a2 ((wr ((wr (55 * x3)) + 1))).toNat)
else none
else
if x1 = 116 then
if 0 ≤ (wr ((wr (55 * x3)) + 1)) ∧ (wr ((wr (55 * x3)) + 1)) < (lenA a2) then
if 0 ≤ (wr ((wr ((wr (55 * x3)) + 3)) + (M a2 ((wr ((wr (55 * x3)) + 1))).toNat))) ∧ (wr ((wr ((wr (55 * x3)) + 3)) + (M a2 ((wr ((wr (55 * x3)) + 1))).toNat))) < (lenA a2) then
some (M a2 ((wr ((wr ((wr (55 * x3)) + 3)) + (M a2 ((wr ((wr (55 * x3)) + 1))).toNat)))).toNat)
else none
else none
else
some x3
noncomputable def mo_thing_j142 (rec : Nat → Int → MEM → Option (Int × MEM)) (x2 : Int) (M : MEM) : Option (Int × MEM) :=
(some (up2 M 278 17 (wr ((M 278 17) + 1)))).bind fun M21 =>
if M21 278 22 = 0 then
some (0, M21)
else
if 0 < M21 278 22 ∧ isArr 0 (lenA (dref (M21 278 22))) (dref (M21 278 22)) then
if 0 < M21 278 22 ∧ isArr 0 (lenA (dref (M21 278 22))) (dref (M21 278 22)) then
(mo_letter x2 (dref (M21 278 22)) (M21 278 23) M21).bind fun r27 =>
some (r27, M21)
else none
else none
noncomputable def mo_thing_j67 (rec : Nat → Int → MEM → Option (Int × MEM)) (x2 : Int) (M : MEM) : Option (Int × MEM) :=
if (mo_in x2 48 57) = 0 then
if x2 = 104 then
mo_thing_j142 rec x2 M
else
if x2 = 112 then
mo_thing_j142 rec x2 M
else
if x2 = 116 then
mo_thing_j142 rec x2 M
else
if x2 = 102 then
mo_thing_j142 rec x2 M
else
if x2 = 99 then
mo_thing_j142 rec x2 M
else
if x2 = 109 then
mo_thing_j142 rec x2 M
else
if x2 = 107 then
mo_thing_j142 rec x2 M
else
if x2 = 105 then
mo_thing_j142 rec x2 M
else
(mo_fault (M 278 17) M).bind fun M38 =>
some (0, M38)
else
(mo_number 3 M).bind fun p40 =>
some (p40.1, p40.2)
noncomputable def mo_thing_o (rec : Nat → Int → MEM → Option (Int × MEM)) (x1 : Int) (M : MEM) : Option (Int × MEM) :=
(mo_passes 45 M).bind fun p2 =>
if p2.1 = 0 then
if (mo_fine p2.2) = 0 then
some (0, p2.2)
else
(mo_here p2.2).bind fun r11 =>
if r11 = 40 then
if 4 ≤ x1 then
mo_thing_j67 rec r11 p2.2
else
(some (up2 p2.2 278 17 (wr ((p2.2 278 17) + 1)))).bind fun M43 =>
(rec 0 (wr (x1 + 1)) M43).bind fun p45 =>
(mo_need 41 p45.2).bind fun M49 =>
some (p45.1, M49)
else
mo_thing_j67 rec r11 p2.2
else
(rec 3 x1 p2.2).bind fun p51 =>
some ((wr (-p51.1)), p51.2)
noncomputable def mo_product_j87_6 (rec : Nat → Int → MEM → Option (Int × MEM)) (x1 : Int) (s0 : Int) (M : MEM) : Option ((Int × MEM) ⊕ (Int × MEM)) :=
some (.inl (s0, M))
noncomputable def mo_product_j45_6 (rec : Nat → Int → MEM → Option (Int × MEM)) (x1 : Int) (x2 : Int) (s0 : Int) (M : MEM) : Option ((Int × MEM) ⊕ (Int × MEM)) :=
(some (up2 M 278 17 (wr ((M 278 17) + 1)))).bind fun M19 =>
(rec 3 x1 M19).bind fun p21 =>
if s0 = 0 then
if p21.1 = 0 then
mo_product_j87_6 rec x1 0 p21.2
else
if p21.1 = 0 then none else
mo_product_j87_6 rec x1 (wr (Int.tdiv x2 p21.1)) p21.2
else
mo_product_j87_6 rec x1 (wr (x2 * p21.1)) p21.2
noncomputable def mo_product_j31_6 (rec : Nat → Int → MEM → Option (Int × MEM)) (x1 : Int) (x2 : Int) (M : MEM) : Option ((Int × MEM) ⊕ (Int × MEM)) :=
(mo_here M).bind fun r15 =>
if r15 = 42 then
mo_product_j45_6 rec x1 x2 1 M
else
mo_product_j45_6 rec x1 x2 0 M
noncomputable def mo_product_b6 (rec : Nat → Int → MEM → Option (Int × MEM)) (x1 : Int) (x2 : Int) (M : MEM) : Option ((Int × MEM) ⊕ (Int × MEM)) :=
if (mo_fine M) = 0 then
some (.inr (x2, M))
else
(mo_here M).bind fun r10 =>
if r10 = 42 then
mo_product_j31_6 rec x1 x2 M
else
(mo_here M).bind fun r28 =>
if r28 = 47 then
mo_product_j31_6 rec x1 x2 M
else
some (.inr (x2, M))
noncomputable def mo_product_o (rec : Nat → Int → MEM → Option (Int × MEM)) (x1 : Int) (M : MEM) : Option (Int × MEM) :=
(rec 3 x1 M).bind fun p2 =>
(iter (fun s => mo_product_b6 rec x1 s.1 s.2) FU (p2.1, p2.2)).bind fun w32 =>
some (w32.1, w32.2)
noncomputable def mo_sum_j78_6 (rec : Nat → Int → MEM → Option (Int × MEM)) (x1 : Int) (s0 : Int) (M : MEM) : Option ((Int × MEM) ⊕ (Int × MEM)) :=
some (.inl (s0, M))
noncomputable def mo_sum_j45_6 (rec : Nat → Int → MEM → Option (Int × MEM)) (x1 : Int) (x2 : Int) (s0 : Int) (M : MEM) : Option ((Int × MEM) ⊕ (Int × MEM)) :=
(some (up2 M 278 17 (wr ((M 278 17) + 1)))).bind fun M19 =>
(rec 2 x1 M19).bind fun p21 =>
if s0 = 0 then
mo_sum_j78_6 rec x1 (wr (x2 - p21.1)) p21.2
else
mo_sum_j78_6 rec x1 (wr (x2 + p21.1)) p21.2
noncomputable def mo_sum_j31_6 (rec : Nat → Int → MEM → Option (Int × MEM)) (x1 : Int) (x2 : Int) (M : MEM) : Option ((Int × MEM) ⊕ (Int × MEM)) :=
(mo_here M).bind fun r15 =>
if r15 = 43 then
mo_sum_j45_6 rec x1 x2 1 M
else
mo_sum_j45_6 rec x1 x2 0 M
noncomputable def mo_sum_b6 (rec : Nat → Int → MEM → Option (Int × MEM)) (x1 : Int) (x2 : Int) (M : MEM) : Option ((Int × MEM) ⊕ (Int × MEM)) :=
if (mo_fine M) = 0 then
some (.inr (x2, M))
else
(mo_here M).bind fun r10 =>
if r10 = 43 then
mo_sum_j31_6 rec x1 x2 M
else
(mo_here M).bind fun r26 =>
if r26 = 45 then
mo_sum_j31_6 rec x1 x2 M
else
some (.inr (x2, M))
noncomputable def mo_sum_o (rec : Nat → Int → MEM → Option (Int × MEM)) (x1 : Int) (M : MEM) : Option (Int × MEM) :=
(rec 2 x1 M).bind fun p2 =>
(iter (fun s => mo_sum_b6 rec x1 s.1 s.2) FU (p2.1, p2.2)).bind fun w30 =>
some (w30.1, w30.2)
noncomputable def mo_held_o (rec : Nat → Int → MEM → Option (Int × MEM)) (x1 : Int) (M : MEM) : Option (Int × MEM) :=
(rec 1 x1 M).bind fun p2 =>
(mo_passes 60 p2.2).bind fun p6 =>
if p6.1 = 0 then
(mo_passes 62 p6.2).bind fun p11 =>
if p11.1 = 0 then
(mo_passes 61 p11.2).bind fun p16 =>
if p16.1 = 0 then
some (p2.1, p16.2)
else
(rec 1 x1 p16.2).bind fun p21 =>
if p2.1 = p21.1 then
some (1, p21.2)
else
some (0, p21.2)
else
(rec 1 x1 p11.2).bind fun p26 =>
if p2.1 ≤ p26.1 then
some (0, p26.2)
else
some (1, p26.2)
else
(rec 1 x1 p6.2).bind fun p31 =>
if p31.1 ≤ p2.1 then
some (0, p31.2)
else
some (1, p31.2)
def RF : Nat := 70
noncomputable def mo_rec : Nat → Nat → Int → MEM → Option (Int × MEM)
  | 0, _, _, _ => none
  | n + 1, tag, x, M => match tag with
    | 0 => mo_held_o (mo_rec n) x M
    | 1 => mo_sum_o (mo_rec n) x M
    | 2 => mo_product_o (mo_rec n) x M
    | _ => mo_thing_o (mo_rec n) x M
noncomputable def mo_rule_b73 (x1 : Int) (x2 : Int) (M : MEM) : Option ((Int × MEM) ⊕ (Int × MEM)) :=
if x1 ≤ x2 then
some (.inr (x2, M))
else
if 0 ≤ x2 ∧ x2 < 80 then
if 0 ≤ x2 ∧ x2 < 40 then
(some (up2 M 286 (x2).toNat (sx8 (M 283 (x2).toNat)))).bind fun M9 =>
some (.inl ((wr (x2 + 1)), M9))
else none
else none
noncomputable def mo_rule_j71 (x1 : Int) (M : MEM) : Option (Int × MEM) :=
(iter (fun s => mo_rule_b73 x1 s.1 s.2) FU (0, M)).bind fun w11 =>
(some (up2 w11.2 278 21 x1)).bind fun M12 =>
some (0, M12)
noncomputable def mo_rule_j57 (x1 : Int) (M : MEM) : Option (Int × MEM) :=
if (mo_fine M) = 0 then
some ((wr ((-1) - (M 278 18))), M)
else
mo_rule_j71 x1 M
noncomputable def mo_rule  (M : MEM) : Option (Int × MEM) :=
(some (up2 M 278 13 0)).bind fun M1 =>
(mo_begin 283 (M1 278 10) 40 M1).bind fun M3 =>
(some (up2 M3 278 10 0)).bind fun M4 =>
(some (up2 M4 278 22 0)).bind fun M5 =>
if (M1 278 10) ≤ 0 then
mo_rule_j71 (M1 278 10) M5
else
(mo_rec RF 0 0 M5).bind fun p14 =>
if (M1 278 10) ≤ (p14.2 278 17) then
mo_rule_j57 (M1 278 10) p14.2
else
(mo_fault (p14.2 278 17) p14.2).bind fun M23 =>
mo_rule_j57 (M1 278 10) M23
noncomputable def mo_allThistles_b4 (a0 : Nat) (x1 : Int) (x2 : Int) (x3 : Int) (M : MEM) : Option ((Int × Int) ⊕ (Int × Int)) :=
if 12 ≤ x3 then
some (.inr (x2, x3))
else
if 0 ≤ (wr ((wr ((wr (55 * x1)) + 3)) + x3)) ∧ (wr ((wr ((wr (55 * x1)) + 3)) + x3)) < (lenA a0) then
some (.inl ((wr (x2 + (M a0 ((wr ((wr ((wr (55 * x1)) + 3)) + x3))).toNat))), (wr (x3 + 1))))
else none
noncomputable def mo_allThistles (a0 : Nat) (x1 : Int) (M : MEM) : Option (Int) :=
(iter (fun s => mo_allThistles_b4 a0 x1 s.1 s.2 M) FU (0, 0)).bind fun w3 =>
some w3.1
noncomputable def mo_isDonkey (x1 : Int) (M : MEM) : Int :=
(mo_in x1 0 (wr ((M 278 1) - 1)))
noncomputable def mo_lost  (M : MEM) : Option (Int × MEM) :=
(some (up2 M 278 13 1)).bind fun M1 =>
some (0, M1)
noncomputable def mo_pace (a1 : Nat) (x2 : Int) (M : MEM) : Option (Int × MEM) :=
if (M 278 21) = 0 then
some (1, M)
else
(mo_begin 286 (M 278 21) 40 M).bind fun M3 =>
(some (up2 M3 278 22 ((a1 : Nat) + 1))).bind fun M4 =>
(some (up2 M4 278 23 x2)).bind fun M5 =>
(mo_rec RF 0 0 M5).bind fun p7 =>
some ((max 0 (min 4 p7.1)), p7.2)
noncomputable def mo_donkey_j23  (M : MEM) : Option (Int × MEM) :=
(mo_lost M).bind fun p7 =>
some (p7.1, p7.2)
noncomputable def mo_donkey (x1 : Int) (x2 : Int) (M : MEM) : Option (Int × MEM) :=
(some (up2 M 278 13 0)).bind fun M1 =>
if (mo_isDonkey x1 M1) = 0 then
mo_donkey_j23  M1
else
if (mo_in x2 0 6) = 0 then
mo_donkey_j23  M1
else
if x2 = 0 then
if 0 ≤ (wr (55 * x1)) ∧ (wr (55 * x1)) < 166 then
some ((M1 279 ((wr (55 * x1))).toNat), M1)
else none
else
if x2 = 1 then
if 0 ≤ (wr ((wr (55 * x1)) + 1)) ∧ (wr ((wr (55 * x1)) + 1)) < 166 then
some ((M1 279 ((wr ((wr (55 * x1)) + 1))).toNat), M1)
else none
else
if x2 = 2 then
if 0 ≤ (wr ((wr (55 * x1)) + 2)) ∧ (wr ((wr (55 * x1)) + 2)) < 166 then
some ((M1 279 ((wr ((wr (55 * x1)) + 2))).toNat), M1)
else none
else
if x2 = 3 then
if 0 ≤ (wr ((wr (55 * x1)) + 2)) ∧ (wr ((wr (55 * x1)) + 2)) < 166 then
some ((Int.tmod (M1 279 ((wr ((wr (55 * x1)) + 2))).toNat) 12), M1)
else none
else
if x2 = 4 then
if 0 ≤ x1 ∧ x1 < 3 then
some ((M1 280 (x1).toNat), M1)
else none
else
if x2 = 5 then
(mo_allThistles 279 x1 M1).bind fun r26 =>
some (r26, M1)
else
(mo_pace 279 x1 M1).bind fun p30 =>
some (p30.1, p30.2)
noncomputable def mo_isPlace (x1 : Int) (x2 : Int) (M : MEM) : Option (Int) :=
if (mo_isDonkey x1 M) = 0 then
some 0
else
if 0 ≤ x1 ∧ x1 < 3 then
if (mo_in x2 0 (wr ((M 280 (x1).toNat) - 1))) = 0 then
some 0
else
some 1
else none
noncomputable def mo_thistles (x1 : Int) (x2 : Int) (M : MEM) : Option (Int × MEM) :=
(some (up2 M 278 13 0)).bind fun M1 =>
(mo_isPlace x1 x2 M1).bind fun r3 =>
if r3 = 0 then
some ((-1), M1)
else
if 0 ≤ (wr ((wr ((wr (55 * x1)) + 3)) + x2)) ∧ (wr ((wr ((wr (55 * x1)) + 3)) + x2)) < 166 then
some ((M1 279 ((wr ((wr ((wr (55 * x1)) + 3)) + x2))).toNat), M1)
else none
noncomputable def mo_sow (x1 : Int) (x2 : Int) (x3 : Int) (M : MEM) : Option (Int × MEM) :=
(some (up2 M 278 13 0)).bind fun M1 =>
(mo_isPlace x1 x2 M1).bind fun r3 =>
if r3 = 0 then
some ((-1), M1)
else
if (mo_in x3 0 9) = 0 then
some ((-1), M1)
else
if 0 ≤ (wr ((wr ((wr (55 * x1)) + 3)) + x2)) ∧ (wr ((wr ((wr (55 * x1)) + 3)) + x2)) < 166 then
if 0 ≤ (wr ((wr ((wr (55 * x1)) + 3)) + x2)) ∧ (wr ((wr ((wr (55 * x1)) + 3)) + x2)) < 166 then
(some (up2 M1 279 ((wr ((wr ((wr (55 * x1)) + 3)) + x2))).toNat x3)).bind fun M12 =>
some ((M1 279 ((wr ((wr ((wr (55 * x1)) + 3)) + x2))).toNat), M12)
else none
else none
noncomputable def mo_set_j41 (x1 : Int) (x2 : Int) (x3 : Int) (s0 : Int) (s1 : Int) (s2 : Int) (M : MEM) : Option (Int × MEM) :=
if (mo_in s0 s1 s2) = 0 then
some ((-1), M)
else
if 0 ≤ (wr ((wr (55 * x1)) + x2)) ∧ (wr ((wr (55 * x1)) + x2)) < 166 then
if 0 ≤ (wr ((wr (55 * x1)) + x2)) ∧ (wr ((wr (55 * x1)) + x2)) < 166 then
(some (up2 M 279 ((wr ((wr (55 * x1)) + x2))).toNat x3)).bind fun M16 =>
some ((M 279 ((wr ((wr (55 * x1)) + x2))).toNat), M16)
else none
else none
noncomputable def mo_set (x1 : Int) (x2 : Int) (x3 : Int) (M : MEM) : Option (Int × MEM) :=
(some (up2 M 278 13 0)).bind fun M1 =>
if (mo_isDonkey x1 M1) = 0 then
some ((-1), M1)
else
if (mo_in x2 0 1) = 0 then
some ((-1), M1)
else
if x2 = 0 then
mo_set_j41 x1 x2 x3 x3 0 9 M1
else
if 0 ≤ x1 ∧ x1 < 3 then
mo_set_j41 x1 x2 x3 x3 0 (wr ((M1 280 (x1).toNat) - 1)) M1
else none
noncomputable def mo_sheet_j120_50 (x1 : Int) (x2 : Int) (x4 : Int) (x5 : Int) (x6 : Int) (x7 : Int) (s1 : Int) (s2 : Int) (M : MEM) : Option ((Int × Int × Int × MEM) ⊕ (Int × Int × Int × MEM)) :=
if 0 ≤ s1 ∧ s1 < 166 then
(some (up2 M 279 (s1).toNat s2)).bind fun M12 =>
if 0 ≤ (wr (3 + x7)) ∧ (wr (3 + x7)) < 166 then
some (.inl ((wr (x5 + (M12 279 ((wr (3 + x7))).toNat))), (wr (x6 + x4)), (wr (x7 + 1)), M12))
else none
else none
noncomputable def mo_sheet_j105_50 (x1 : Int) (x2 : Int) (x4 : Int) (x5 : Int) (x6 : Int) (x7 : Int) (s1 : Int) (M : MEM) : Option ((Int × Int × Int × MEM) ⊕ (Int × Int × Int × MEM)) :=
mo_sheet_j120_50 x1 x2 x4 x5 x6 x7 s1 0 M
noncomputable def mo_sheet_j84_50 (x1 : Int) (x2 : Int) (x4 : Int) (x5 : Int) (x6 : Int) (x7 : Int) (s0 : Int) (M : MEM) : Option ((Int × Int × Int × MEM) ⊕ (Int × Int × Int × MEM)) :=
if x1 = 3 then
mo_sheet_j105_50 x1 x2 x4 x5 x6 x7 (wr (3 + x7)) M
else
if x7 < x2 then
mo_sheet_j120_50 x1 x2 x4 x5 x6 x7 (wr (3 + x7)) (max 0 (min 9 s0)) M
else
mo_sheet_j105_50 x1 x2 x4 x5 x6 x7 (wr (3 + x7)) M
noncomputable def mo_sheet_b50 (x1 : Int) (x2 : Int) (x4 : Int) (x5 : Int) (x6 : Int) (x7 : Int) (M : MEM) : Option ((Int × Int × Int × MEM) ⊕ (Int × Int × Int × MEM)) :=
if (M 280 0) ≤ x7 then
some (.inr (x5, x6, x7, M))
else
if x1 = 0 then
mo_sheet_j84_50 x1 x2 x4 x5 x6 x7 (sx8 x6) M
else
if x1 = 1 then
mo_sheet_j84_50 x1 x2 x4 x5 x6 x7 (sx16 x6) M
else
mo_sheet_j84_50 x1 x2 x4 x5 x6 x7 x6 M
noncomputable def mo_sheet_j41 (x1 : Int) (x2 : Int) (x3 : Int) (x4 : Int) (M : MEM) : Option (Int × MEM) :=
(iter (fun s => mo_sheet_b50 x1 x2 x4 s.1 s.2.1 s.2.2.1 s.2.2.2) FU (0, x3, 0, M)).bind fun w17 =>
if x1 = 3 then
some ((-3), w17.2.2.2)
else
some (w17.1, w17.2.2.2)
noncomputable def mo_sheet (x1 : Int) (x2 : Int) (x3 : Int) (x4 : Int) (M : MEM) : Option (Int × MEM) :=
(some (up2 M 278 13 0)).bind fun M1 =>
if (mo_in x1 0 3) = 0 then
some ((-1), M1)
else
if 12 < x2 then
some ((-1), M1)
else
if (M1 278 1) = 0 then
some ((-1), M1)
else
if 3 ≤ x1 then
mo_sheet_j41 x1 x2 x3 x4 M1
else
if 0 ≤ x2 then
mo_sheet_j41 x1 x2 x3 x4 M1
else
some ((-2), M1)
noncomputable def mo_layCarrot (x1 : Int) (x2 : Int) (x3 : Int) (x4 : Int) (x5 : Int) (M : MEM) : Option (MEM) :=
if 0 ≤ (wr (4 * x1)) ∧ (wr (4 * x1)) < 48 then
(some (up2 M 282 ((wr (4 * x1))).toNat x2)).bind fun M1 =>
if 0 ≤ (wr ((wr (4 * x1)) + 1)) ∧ (wr ((wr (4 * x1)) + 1)) < 48 then
(some (up2 M1 282 ((wr ((wr (4 * x1)) + 1))).toNat x3)).bind fun M3 =>
if 0 ≤ (wr ((wr (4 * x1)) + 2)) ∧ (wr ((wr (4 * x1)) + 2)) < 48 then
(some (up2 M3 282 ((wr ((wr (4 * x1)) + 2))).toNat x4)).bind fun M5 =>
if 0 ≤ (wr ((wr (4 * x1)) + 3)) ∧ (wr ((wr (4 * x1)) + 3)) < 48 then
(some (up2 M5 282 ((wr ((wr (4 * x1)) + 3))).toNat x5)).bind fun M7 =>
some M7
else none
else none
else none
else none
noncomputable def mo_carrot_j49 (x1 : Int) (x2 : Int) (x3 : Int) (x4 : Int) (M : MEM) : Option (Int × MEM) :=
if (M 278 7) = 10 then
some ((-2), M)
else
(mo_layCarrot (M 278 7) x1 x2 x3 x4 M).bind fun M17 =>
(some (up2 M17 278 7 (wr ((M17 278 7) + 1)))).bind fun M18 =>
some ((wr ((M18 278 7) - 1)), M18)
noncomputable def mo_carrot (x1 : Int) (x2 : Int) (x3 : Int) (x4 : Int) (M : MEM) : Option (Int × MEM) :=
(some (up2 M 278 13 0)).bind fun M1 =>
if (mo_isDonkey x1 M1) = 0 then
some ((-1), M1)
else
if (mo_in x2 0 9999) = 0 then
some ((-1), M1)
else
if (mo_in x3 x2 9999) = 0 then
some ((-1), M1)
else
if x4 = 1 then
mo_carrot_j49 x1 x2 x3 x4 M1
else
if x4 = (-1) then
mo_carrot_j49 x1 x2 x3 x4 M1
else
some ((-1), M1)
noncomputable def mo_eat  (M : MEM) : Option (Int × MEM) :=
(some (up2 M 278 13 0)).bind fun M1 =>
if (M1 278 7) = 0 then
some ((-1), M1)
else
(some (up2 M1 278 7 (wr ((M1 278 7) - 1)))).bind fun M3 =>
some ((M3 278 7), M3)
noncomputable def mo_goSteps_j102_9 (a1 : Nat) (x2 : Int) (x3 : Int) (x4 : Int) (x5 : Int) (M : MEM) : Option ((Int × MEM) ⊕ ((MEM) ⊕ (Int × MEM))) :=
if 0 ≤ (wr (x4 + 1)) ∧ (wr (x4 + 1)) < (lenA a1) then
if 0 ≤ (wr ((wr (x4 + 3)) + (M a1 ((wr (x4 + 1))).toNat))) ∧ (wr ((wr (x4 + 3)) + (M a1 ((wr (x4 + 1))).toNat))) < (lenA a1) then
if (M a1 ((wr ((wr (x4 + 3)) + (M a1 ((wr (x4 + 1))).toNat)))).toNat) = 0 then
some (.inl ((wr (x5 + 1)), M))
else
if 0 ≤ (wr ((wr (x4 + 3)) + (M a1 ((wr (x4 + 1))).toNat))) ∧ (wr ((wr (x4 + 3)) + (M a1 ((wr (x4 + 1))).toNat))) < (lenA a1) then
if 0 ≤ (wr ((wr (x4 + 3)) + (M a1 ((wr (x4 + 1))).toNat))) ∧ (wr ((wr (x4 + 3)) + (M a1 ((wr (x4 + 1))).toNat))) < (lenA a1) then
(some (up2 M a1 ((wr ((wr (x4 + 3)) + (M a1 ((wr (x4 + 1))).toNat)))).toNat (wr ((M a1 ((wr ((wr (x4 + 3)) + (M a1 ((wr (x4 + 1))).toNat)))).toNat) - 1)))).bind fun M26 =>
if 0 ≤ x4 ∧ x4 < (lenA a1) then
if 0 ≤ x4 ∧ x4 < (lenA a1) then
(some (up2 M26 a1 (x4).toNat (max 0 (wr ((M26 a1 (x4).toNat) - 2))))).bind fun M29 =>
(some (up2 M29 278 26 (ish i_or (M29 278 26) (ish i_shl 1 x2)))).bind fun M31 =>
if x2 = (M31 278 29) then
if 0 ≤ (wr (x4 + 1)) ∧ (wr (x4 + 1)) < (lenA a1) then
(some (up2 M31 278 28 (M31 a1 ((wr (x4 + 1))).toNat))).bind fun M34 =>
some (.inr (.inl M34))
else none
else
some (.inr (.inl M31))
else none
else none
else none
else none
else none
else none
noncomputable def mo_goSteps_b9 (a1 : Nat) (x2 : Int) (x3 : Int) (x4 : Int) (x5 : Int) (M : MEM) : Option ((Int × MEM) ⊕ ((MEM) ⊕ (Int × MEM))) :=
if x3 ≤ x5 then
some (.inr (.inr (x5, M)))
else
if 0 ≤ (wr (x4 + 1)) ∧ (wr (x4 + 1)) < (lenA a1) then
if 0 ≤ x2 ∧ x2 < 3 then
if (M 280 (x2).toNat) = 0 then none else
if 0 ≤ (wr (x4 + 1)) ∧ (wr (x4 + 1)) < (lenA a1) then
(some (up2 M a1 ((wr (x4 + 1))).toNat (Int.tmod (wr ((M a1 ((wr (x4 + 1))).toNat) + 1)) (M 280 (x2).toNat)))).bind fun M5 =>
if 0 ≤ (wr (x4 + 1)) ∧ (wr (x4 + 1)) < (lenA a1) then
if (M5 a1 ((wr (x4 + 1))).toNat) = 0 then
if 0 ≤ (wr (x4 + 2)) ∧ (wr (x4 + 2)) < (lenA a1) then
if 0 ≤ (165 : Int) ∧ (165 : Int) < (lenA a1) then
if 0 ≤ (wr ((wr (x4 + 15)) + (Int.tmod (M5 a1 ((wr (x4 + 2))).toNat) 40))) ∧ (wr ((wr (x4 + 15)) + (Int.tmod (M5 a1 ((wr (x4 + 2))).toNat) 40))) < (lenA a1) then
(some (up2 M5 a1 ((wr ((wr (x4 + 15)) + (Int.tmod (M5 a1 ((wr (x4 + 2))).toNat) 40)))).toNat (M5 a1 ((165 : Int)).toNat))).bind fun M11 =>
if 0 ≤ (wr (x4 + 2)) ∧ (wr (x4 + 2)) < (lenA a1) then
if 0 ≤ (wr (x4 + 2)) ∧ (wr (x4 + 2)) < (lenA a1) then
(some (up2 M11 a1 ((wr (x4 + 2))).toNat (wr ((M11 a1 ((wr (x4 + 2))).toNat) + 1)))).bind fun M14 =>
if 0 ≤ x4 ∧ x4 < (lenA a1) then
if 0 ≤ x4 ∧ x4 < (lenA a1) then
(some (up2 M14 a1 (x4).toNat (min 9 (wr ((M14 a1 (x4).toNat) + 1))))).bind fun M17 =>
if 0 ≤ x2 ∧ x2 < 3 then
if 0 ≤ x2 ∧ x2 < 3 then
(some (up2 M17 287 (x2).toNat (wr ((M17 287 (x2).toNat) + 1)))).bind fun M20 =>
mo_goSteps_j102_9 a1 x2 x3 x4 x5 M20
else none
else none
else none
else none
else none
else none
else none
else none
else none
else
mo_goSteps_j102_9 a1 x2 x3 x4 x5 M5
else none
else none
else none
else none
noncomputable def mo_goSteps (a1 : Nat) (x2 : Int) (x3 : Int) (M : MEM) : Option (MEM) :=
(iter (fun s => mo_goSteps_b9 a1 x2 x3 (wr (55 * x2)) s.1 s.2) FU (0, M)).bind (Sum.elim (fun r => some r) (fun w35 =>
some w35.2))
noncomputable def mo_goMinute_j55_17 (a1 : Nat) (x2 : Int) (x3 : Int) (M : MEM) : Option ((Int × MEM) ⊕ (Int × MEM)) :=
(mo_goSteps a1 x2 x3 M).bind fun M14 =>
if 0 ≤ x2 ∧ x2 < 3 then
(some (up2 M14 278 24 (wr ((M14 278 24) + (M14 287 (x2).toNat))))).bind fun M16 =>
some (.inl ((wr (x2 + 1)), M16))
else none
noncomputable def mo_goMinute_b17 (a1 : Nat) (x2 : Int) (M : MEM) : Option ((Int × MEM) ⊕ (Int × MEM)) :=
if (M 278 1) ≤ x2 then
some (.inr (x2, M))
else
if 0 ≤ x2 ∧ x2 < 3 then
(some (up2 M 287 (x2).toNat 0)).bind fun M5 =>
(mo_pace a1 x2 M5).bind fun p8 =>
if p8.1 = 0 then
(some (up2 p8.2 278 27 (ish i_or (p8.2 278 27) (ish i_shl 1 x2)))).bind fun M12 =>
mo_goMinute_j55_17 a1 x2 p8.1 M12
else
mo_goMinute_j55_17 a1 x2 p8.1 p8.2
else none
noncomputable def mo_goMinute (a1 : Nat) (M : MEM) : Option (MEM) :=
(some (up2 M 278 24 0)).bind fun M1 =>
(some (up2 M1 278 26 0)).bind fun M2 =>
(some (up2 M2 278 27 0)).bind fun M3 =>
(iter (fun s => mo_goMinute_b17 a1 s.1 s.2) FU (0, M3)).bind fun w17 =>
if 0 ≤ (165 : Int) ∧ (165 : Int) < (lenA a1) then
if 0 ≤ (165 : Int) ∧ (165 : Int) < (lenA a1) then
(some (up2 w17.2 a1 ((165 : Int)).toNat (wr ((w17.2 a1 ((165 : Int)).toNat) + 1)))).bind fun M19 =>
some M19
else none
else none
noncomputable def mo_layAll_b2 (a1 : Nat) (x2 : Int) (x3 : Int) (M : MEM) : Option ((Int × MEM) ⊕ (Int × MEM)) :=
if 166 ≤ x3 then
some (.inr (x3, M))
else
if 0 ≤ x3 ∧ x3 < 166 then
if 0 ≤ (wr (x2 + x3)) ∧ (wr (x2 + x3)) < (lenA a1) then
(some (up2 M a1 ((wr (x2 + x3))).toNat (M 279 (x3).toNat))).bind fun M3 =>
some (.inl ((wr (x3 + 1)), M3))
else none
else none
noncomputable def mo_layAll_b39 (a1 : Nat) (x2 : Int) (x3 : Int) (M : MEM) : Option ((Int × MEM) ⊕ (Int × MEM)) :=
if 40 ≤ x3 then
some (.inr (x3, M))
else
if 0 ≤ x3 ∧ x3 < 48 then
if 0 ≤ (wr ((wr ((wr (x2 + 166)) + 1)) + x3)) ∧ (wr ((wr ((wr (x2 + 166)) + 1)) + x3)) < (lenA a1) then
(some (up2 M a1 ((wr ((wr ((wr (x2 + 166)) + 1)) + x3))).toNat (M 282 (x3).toNat))).bind fun M10 =>
some (.inl ((wr (x3 + 1)), M10))
else none
else none
noncomputable def mo_layAll (a1 : Nat) (x2 : Int) (M : MEM) : Option (MEM) :=
(iter (fun s => mo_layAll_b2 a1 x2 s.1 s.2) FU (0, M)).bind fun w5 =>
if 0 ≤ (wr (x2 + 166)) ∧ (wr (x2 + 166)) < (lenA a1) then
(some (up2 w5.2 a1 ((wr (x2 + 166))).toNat (w5.2 278 7))).bind fun M6 =>
(iter (fun s => mo_layAll_b39 a1 x2 s.1 s.2) FU (0, M6)).bind fun w12 =>
some w12.2
else none
noncomputable def mo_layAside_j25 (s1 : Int) (s2 : Int) (M : MEM) : Option (MEM) :=
if 0 ≤ s1 ∧ s1 < 208 then
(some (up2 M 289 (s1).toNat s2)).bind fun M4 =>
some M4
else none
noncomputable def mo_layAside (x1 : Int) (M : MEM) : Option (MEM) :=
(mo_layAll 289 0 M).bind fun M2 =>
if x1 = 0 then
mo_layAside_j25 207 0 M2
else
mo_layAside_j25 207 1 M2
noncomputable def mo_remember_b15 (x1 : Int) (x2 : Int) (M : MEM) : Option ((Int × MEM) ⊕ (Int × MEM)) :=
if (wr (x1 * 9)) ≤ x2 then
some (.inr (x2, M))
else
if 0 ≤ (wr (x2 + x1)) ∧ (wr (x2 + x1)) < 2080 then
if 0 ≤ x2 ∧ x2 < 2080 then
(some (up2 M 288 (x2).toNat (M 288 ((wr (x2 + x1))).toNat))).bind fun M4 =>
some (.inl ((wr (x2 + 1)), M4))
else none
else none
noncomputable def mo_remember_b55 (x1 : Int) (x2 : Int) (M : MEM) : Option ((Int × MEM) ⊕ (Int × MEM)) :=
if x1 ≤ x2 then
some (.inr (x2, M))
else
if 0 ≤ x2 ∧ x2 < 208 then
if 0 ≤ (wr ((wr (x1 * (M 278 31))) + x2)) ∧ (wr ((wr (x1 * (M 278 31))) + x2)) < 2080 then
(some (up2 M 288 ((wr ((wr (x1 * (M 278 31))) + x2))).toNat (M 289 (x2).toNat))).bind fun M10 =>
some (.inl ((wr (x2 + 1)), M10))
else none
else none
noncomputable def mo_remember_j53 (x1 : Int) (M : MEM) : Option (MEM) :=
(iter (fun s => mo_remember_b55 x1 s.1 s.2) FU (0, M)).bind fun w12 =>
(some (up2 w12.2 278 31 (wr ((w12.2 278 31) + 1)))).bind fun M13 =>
some M13
noncomputable def mo_remember  (M : MEM) : Option (MEM) :=
if (M 278 31) = 10 then
(iter (fun s => mo_remember_b15 208 s.1 s.2) FU (0, M)).bind fun w6 =>
(some (up2 w6.2 278 31 (wr ((w6.2 278 31) - 1)))).bind fun M7 =>
mo_remember_j53 208 M7
else
mo_remember_j53 208 M
noncomputable def mo_tell (x1 : Int) (M : MEM) : Option (MEM) :=
if 0 ≤ (M 278 12) ∧ (M 278 12) < 16 then
(some (up2 M 284 ((M 278 12)).toNat x1)).bind fun M1 =>
(some (up2 M1 278 12 (wr ((M1 278 12) + 1)))).bind fun M3 =>
some M3
else none
noncomputable def mo_minute  (M : MEM) : Option (Int × MEM) :=
(some (up2 M 278 13 0)).bind fun M1 =>
(mo_layAside 0 M1).bind fun M3 =>
(mo_remember M3).bind fun M5 =>
(mo_goMinute 279 M5).bind fun M7 =>
(some (up2 M7 278 12 0)).bind fun M8 =>
(mo_tell (M8 278 26) M8).bind fun M10 =>
(mo_tell (M10 278 27) M10).bind fun M12 =>
some ((M12 278 24), M12)
noncomputable def ji_bitCount (x0 : Int) : Int :=
(ish i_and (wr ((wr ((ish i_and (wr ((wr ((ish i_and (wr (x0 - (ish i_and (ish i_ushr x0 1) (1431655765 - 0)))) (858993459 - 0)) + (ish i_and (ish i_ushr (wr (x0 - (ish i_and (ish i_ushr x0 1) (1431655765 - 0)))) 2) (858993459 - 0)))) + (ish i_ushr (wr ((ish i_and (wr (x0 - (ish i_and (ish i_ushr x0 1) (1431655765 - 0)))) (858993459 - 0)) + (ish i_and (ish i_ushr (wr (x0 - (ish i_and (ish i_ushr x0 1) (1431655765 - 0)))) 2) (858993459 - 0)))) 4))) (252645135 - 0)) + (ish i_ushr (ish i_and (wr ((wr ((ish i_and (wr (x0 - (ish i_and (ish i_ushr x0 1) (1431655765 - 0)))) (858993459 - 0)) + (ish i_and (ish i_ushr (wr (x0 - (ish i_and (ish i_ushr x0 1) (1431655765 - 0)))) 2) (858993459 - 0)))) + (ish i_ushr (wr ((ish i_and (wr (x0 - (ish i_and (ish i_ushr x0 1) (1431655765 - 0)))) (858993459 - 0)) + (ish i_and (ish i_ushr (wr (x0 - (ish i_and (ish i_ushr x0 1) (1431655765 - 0)))) 2) (858993459 - 0)))) 4))) (252645135 - 0)) 8))) + (ish i_ushr (wr ((ish i_and (wr ((wr ((ish i_and (wr (x0 - (ish i_and (ish i_ushr x0 1) (1431655765 - 0)))) (858993459 - 0)) + (ish i_and (ish i_ushr (wr (x0 - (ish i_and (ish i_ushr x0 1) (1431655765 - 0)))) 2) (858993459 - 0)))) + (ish i_ushr (wr ((ish i_and (wr (x0 - (ish i_and (ish i_ushr x0 1) (1431655765 - 0)))) (858993459 - 0)) + (ish i_and (ish i_ushr (wr (x0 - (ish i_and (ish i_ushr x0 1) (1431655765 - 0)))) 2) (858993459 - 0)))) 4))) (252645135 - 0)) + (ish i_ushr (ish i_and (wr ((wr ((ish i_and (wr (x0 - (ish i_and (ish i_ushr x0 1) (1431655765 - 0)))) (858993459 - 0)) + (ish i_and (ish i_ushr (wr (x0 - (ish i_and (ish i_ushr x0 1) (1431655765 - 0)))) 2) (858993459 - 0)))) + (ish i_ushr (wr ((ish i_and (wr (x0 - (ish i_and (ish i_ushr x0 1) (1431655765 - 0)))) (858993459 - 0)) + (ish i_and (ish i_ushr (wr (x0 - (ish i_and (ish i_ushr x0 1) (1431655765 - 0)))) 2) (858993459 - 0)))) 4))) (252645135 - 0)) 8))) 16))) 63)
noncomputable def mo_minutes_b38 (x1 : Int) (x2 : Int) (x3 : Int) (x4 : Int) (M : MEM) : Option ((Int × MEM) ⊕ (Int × MEM)) :=
if 3 ≤ x4 then
some (.inr (x4, M))
else
if 0 ≤ x4 ∧ x4 < 3 then
(some (up2 M 290 (x4).toNat 0)).bind fun M8 =>
some (.inl ((wr (x4 + 1)), M8))
else none
noncomputable def mo_minutes_b95 (x1 : Int) (x2 : Int) (x3 : Int) (x4 : Int) (x5 : Int) (M : MEM) : Option ((Int × MEM) ⊕ (Int × MEM)) :=
if (M 278 1) ≤ x5 then
some (.inr (x5, M))
else
if 0 ≤ x5 ∧ x5 < 3 then
if 0 ≤ x5 ∧ x5 < 3 then
if 0 ≤ x5 ∧ x5 < 3 then
(some (up2 M 290 (x5).toNat (wr ((M 290 (x5).toNat) + (M 287 (x5).toNat))))).bind fun M20 =>
some (.inl ((wr (x5 + 1)), M20))
else none
else none
else none
noncomputable def mo_minutes_b61 (x1 : Int) (x2 : Int) (x3 : Int) (x4 : Int) (M : MEM) : Option ((Int × Int × Int × MEM) ⊕ (Int × Int × Int × MEM)) :=
if x1 ≤ x4 then
some (.inr (x2, x3, x4, M))
else
(mo_goMinute 279 M).bind fun M13 =>
(iter (fun s => mo_minutes_b95 x1 (wr (x2 + (M13 278 24))) (wr (x3 + (ji_bitCount (M13 278 26)))) x4 s.1 s.2) FU (0, M13)).bind fun w22 =>
some (.inl ((wr (x2 + (M13 278 24))), (wr (x3 + (ji_bitCount (M13 278 26)))), (wr (x4 + 1)), w22.2))
noncomputable def mo_minutes_b146 (x2 : Int) (x4 : Int) (M : MEM) : Option ((Int × MEM) ⊕ (Int × MEM)) :=
if (M 278 1) ≤ x4 then
some (.inr (x4, M))
else
if 0 ≤ x4 ∧ x4 < 3 then
(mo_tell (M 290 (x4).toNat) M).bind fun M30 =>
some (.inl ((wr (x4 + 1)), M30))
else none
noncomputable def mo_minutes_j31 (x1 : Int) (M : MEM) : Option (Int × MEM) :=
(iter (fun s => mo_minutes_b38 x1 0 0 s.1 s.2) FU (0, M)).bind fun w10 =>
(iter (fun s => mo_minutes_b61 x1 s.1 s.2.1 s.2.2.1 s.2.2.2) FU (0, 0, 0, w10.2)).bind fun w23 =>
(some (up2 w23.2.2.2 278 12 0)).bind fun M24 =>
(mo_tell w23.2.1 M24).bind fun M26 =>
(iter (fun s => mo_minutes_b146 w23.1 s.1 s.2) FU (0, M26)).bind fun w31 =>
some (w23.1, w31.2)
noncomputable def mo_minutes (x1 : Int) (M : MEM) : Option (Int × MEM) :=
(some (up2 M 278 13 0)).bind fun M1 =>
if (mo_in x1 0 600) = 0 then
some ((-1), M1)
else
if x1 ≤ 0 then
mo_minutes_j31 x1 M1
else
(mo_layAside 0 M1).bind fun M33 =>
(mo_remember M33).bind fun M35 =>
mo_minutes_j31 x1 M35
noncomputable def mo_act_b80 (x2 : Int) (x5 : Int) (M : MEM) : Option ((Int × MEM) ⊕ (Int × MEM)) :=
if x2 ≤ x5 then
some (.inr (x5, M))
else
(mo_goMinute 279 M).bind fun M16 =>
(some (up2 M16 278 35 (wr ((M16 278 35) + (M16 278 24))))).bind fun M17 =>
some (.inl ((wr (x5 + 1)), M17))
noncomputable def mo_act (x1 : Int) (M : MEM) : Option (Int × MEM) :=
if 0 ≤ (wr (x1 + 1)) ∧ (wr (x1 + 1)) < 320 then
if 0 ≤ (wr (x1 + 2)) ∧ (wr (x1 + 2)) < 320 then
if 0 ≤ (wr (x1 + 3)) ∧ (wr (x1 + 3)) < 320 then
if 0 ≤ x1 ∧ x1 < 320 then
if (M 291 (x1).toNat) = 99 then
if (M 291 ((wr (x1 + 2))).toNat) ≤ 0 then
some (0, M)
else
(mo_carrot (M 291 ((wr (x1 + 1))).toNat) (M 279 165) (wr ((wr ((M 279 165) + (M 291 ((wr (x1 + 2))).toNat))) - 1)) (M 291 ((wr (x1 + 3))).toNat) M).bind fun p8 =>
if p8.1 < 0 then
some (0, p8.2)
else
some (1, p8.2)
else
if (M 291 (x1).toNat) = 109 then
if (M 291 ((wr (x1 + 1))).toNat) ≤ 600 then
(iter (fun s => mo_act_b80 (M 291 ((wr (x1 + 1))).toNat) s.1 s.2) FU (0, M)).bind fun w18 =>
some (1, w18.2)
else
some (0, M)
else
if (M 291 (x1).toNat) = 115 then
(mo_sow (M 291 ((wr (x1 + 1))).toNat) (M 291 ((wr (x1 + 3))).toNat) (M 291 ((wr (x1 + 2))).toNat) M).bind fun p21 =>
if p21.1 < 0 then
some (0, p21.2)
else
some (1, p21.2)
else
(mo_set (M 291 ((wr (x1 + 1))).toNat) 0 (M 291 ((wr (x1 + 2))).toNat) M).bind fun p26 =>
if p26.1 < 0 then
some (0, p26.2)
else
some (1, p26.2)
else none
else none
else none
else none
noncomputable def mo_readAct_j148 (x1 : Int) (M : MEM) : Option (MEM) :=
(some (up2 M 278 17 (wr ((M 278 17) + 1)))).bind fun M34 =>
(mo_number 2 M34).bind fun p36 =>
if 0 ≤ (wr (x1 + 2)) ∧ (wr (x1 + 2)) < 320 then
(some (up2 p36.2 291 ((wr (x1 + 2))).toNat p36.1)).bind fun M39 =>
some M39
else none
noncomputable def mo_readAct_j114 (x1 : Int) (s1 : Int) (s2 : Int) (M : MEM) : Option (MEM) :=
if 0 ≤ s1 ∧ s1 < 320 then
(some (up2 M 291 (s1).toNat s2)).bind fun M28 =>
if (mo_fine M28) = 0 then
mo_readAct_j148 x1 M28
else
(mo_here M28).bind fun r42 =>
if r42 = 43 then
mo_readAct_j148 x1 M28
else
(mo_here M28).bind fun r47 =>
if r47 = 45 then
mo_readAct_j148 x1 M28
else
(mo_fault (M28 278 17) M28).bind fun M52 =>
mo_readAct_j148 x1 M52
else none
noncomputable def mo_readAct_j191 (x1 : Int) (M : MEM) : Option (MEM) :=
(mo_need 61 M).bind fun M61 =>
(mo_number 1 M61).bind fun p63 =>
if 0 ≤ (wr (x1 + 2)) ∧ (wr (x1 + 2)) < 320 then
(some (up2 p63.2 291 ((wr (x1 + 2))).toNat p63.1)).bind fun M66 =>
some M66
else none
noncomputable def mo_readAct_j37 (x1 : Int) (x2 : Int) (M : MEM) : Option (MEM) :=
(some (up2 M 278 17 (wr ((M 278 17) + 1)))).bind fun M6 =>
if 0 ≤ x1 ∧ x1 < 320 then
(some (up2 M6 291 (x1).toNat x2)).bind fun M7 =>
if x2 = 109 then
(mo_number 3 M7).bind fun p11 =>
if 0 ≤ (wr (x1 + 1)) ∧ (wr (x1 + 1)) < 320 then
(some (up2 p11.2 291 ((wr (x1 + 1))).toNat p11.1)).bind fun M14 =>
some M14
else none
else
(mo_number 1 M7).bind fun p17 =>
if 0 ≤ (wr (x1 + 1)) ∧ (wr (x1 + 1)) < 320 then
(some (up2 p17.2 291 ((wr (x1 + 1))).toNat p17.1)).bind fun M20 =>
if x2 = 99 then
(mo_here M20).bind fun r24 =>
if r24 = 45 then
mo_readAct_j114 x1 (wr (x1 + 3)) (-1) M20
else
mo_readAct_j114 x1 (wr (x1 + 3)) 1 M20
else
if x2 = 115 then
(mo_number 2 M20).bind fun p55 =>
if 0 ≤ (wr (x1 + 3)) ∧ (wr (x1 + 3)) < 320 then
(some (up2 p55.2 291 ((wr (x1 + 3))).toNat p55.1)).bind fun M58 =>
mo_readAct_j191 x1 M58
else none
else
mo_readAct_j191 x1 M20
else none
else none
noncomputable def mo_readAct (x1 : Int) (M : MEM) : Option (MEM) :=
(mo_here M).bind fun r2 =>
if r2 = 109 then
mo_readAct_j37 x1 r2 M
else
if r2 = 99 then
mo_readAct_j37 x1 r2 M
else
if r2 = 115 then
mo_readAct_j37 x1 r2 M
else
if r2 = 104 then
mo_readAct_j37 x1 r2 M
else
(mo_fault (M 278 17) M).bind fun M72 =>
mo_readAct_j37 x1 r2 M72
noncomputable def mo_day_b39  (x1 : Int) (x2 : Int) (M : MEM) : Option ((Int × Int × MEM) ⊕ (Int × Int × MEM)) :=
if x2 = 0 then
some (.inr (x1, x2, M))
else
if (mo_fine M) = 0 then
some (.inr (x1, x2, M))
else
(mo_readAct (wr (4 * x1)) M).bind fun M12 =>
(mo_passes 59 M12).bind fun p14 =>
some (.inl ((wr (x1 + 1)), p14.1, p14.2))
noncomputable def mo_day_b115 (x1 : Int) (x3 : Int) (M : MEM) : Option ((Int × MEM) ⊕ (Int × MEM)) :=
if x1 ≤ x3 then
some (.inr (x3, M))
else
(mo_act (wr (4 * x3)) M).bind fun p28 =>
if p28.1 = 0 then
some (.inr (x3, p28.2))
else
some (.inl ((wr (x3 + 1)), p28.2))
noncomputable def mo_day_j160 (x3 : Int) (s1 : Int) (M : MEM) : Option (Int × MEM) :=
(mo_tell s1 M).bind fun M37 =>
(mo_tell (M37 278 35) M37).bind fun M39 =>
some (x3, M39)
noncomputable def mo_day_j144 (x1 : Int) (x3 : Int) (M : MEM) : Option (Int × MEM) :=
(some (up2 M 278 12 0)).bind fun M34 =>
if x1 ≤ x3 then
mo_day_j160 x3 0 M34
else
mo_day_j160 x3 1 M34
noncomputable def mo_day_j136 (x1 : Int) (x3 : Int) (M : MEM) : Option (Int × MEM) :=
if x3 ≤ 0 then
mo_day_j144 x1 x3 M
else
(mo_remember M).bind fun M41 =>
mo_day_j144 x1 x3 M41
noncomputable def mo_day_j89 (x1 : Int) (M : MEM) : Option (Int × MEM) :=
if (mo_fine M) = 0 then
some ((wr ((-1) - (M 278 18))), M)
else
(mo_layAside 1 M).bind fun M24 =>
(some (up2 M24 278 35 0)).bind fun M25 =>
(iter (fun s => mo_day_b115 x1 s.1 s.2) FU (0, M25)).bind fun w32 =>
mo_day_j136 x1 w32.1 w32.2
noncomputable def mo_day_j70 (x1 : Int) (M : MEM) : Option (Int × MEM) :=
if (M 278 15) ≤ (M 278 17) then
mo_day_j89 x1 M
else
(mo_fault (M 278 17) M).bind fun M43 =>
mo_day_j89 x1 M43
noncomputable def mo_day_j38 (x1 : Int) (s0 : Int) (M : MEM) : Option (Int × MEM) :=
(iter (fun s => mo_day_b39  s.1 s.2.1 s.2.2) FU (x1, s0, M)).bind fun w17 =>
mo_day_j70 w17.1 w17.2.2
noncomputable def mo_day  (M : MEM) : Option (Int × MEM) :=
(some (up2 M 278 13 0)).bind fun M1 =>
(mo_begin 283 (M1 278 10) 60 M1).bind fun M3 =>
(some (up2 M3 278 10 0)).bind fun M4 =>
if (M4 278 15) ≤ 0 then
mo_day_j38 0 0 M4
else
mo_day_j38 0 1 M4
noncomputable def mo_takeCarrots_b13 (a1 : Nat) (x2 : Int) (x3 : Int) (M : MEM) : Option ((Int × MEM) ⊕ (Int × MEM)) :=
if 40 ≤ x3 then
some (.inr (x3, M))
else
if 0 ≤ (wr ((wr ((wr (x2 + 166)) + 1)) + x3)) ∧ (wr ((wr ((wr (x2 + 166)) + 1)) + x3)) < (lenA a1) then
if 0 ≤ x3 ∧ x3 < 48 then
(some (up2 M 282 (x3).toNat (M a1 ((wr ((wr ((wr (x2 + 166)) + 1)) + x3))).toNat))).bind fun M5 =>
some (.inl ((wr (x3 + 1)), M5))
else none
else none
noncomputable def mo_takeCarrots (a1 : Nat) (x2 : Int) (M : MEM) : Option (MEM) :=
if 0 ≤ (wr (x2 + 166)) ∧ (wr (x2 + 166)) < (lenA a1) then
(some (up2 M 278 7 (M a1 ((wr (x2 + 166))).toNat))).bind fun M2 =>
(iter (fun s => mo_takeCarrots_b13 a1 x2 s.1 s.2) FU (0, M2)).bind fun w7 =>
some w7.2
else none
noncomputable def mo_undo_b35 (x1 : Int) (x2 : Int) (M : MEM) : Option ((Int × MEM) ⊕ (Int × MEM)) :=
if 166 ≤ x2 then
some (.inr (x2, M))
else
if 0 ≤ (wr (x1 + x2)) ∧ (wr (x1 + x2)) < 2080 then
if 0 ≤ x2 ∧ x2 < 166 then
(some (up2 M 279 (x2).toNat (M 288 ((wr (x1 + x2))).toNat))).bind fun M6 =>
some (.inl ((wr (x2 + 1)), M6))
else none
else none
noncomputable def mo_undo  (M : MEM) : Option (Int × MEM) :=
(some (up2 M 278 13 0)).bind fun M1 =>
if (M1 278 31) = 0 then
some ((-1), M1)
else
(some (up2 M1 278 31 (wr ((M1 278 31) - 1)))).bind fun M3 =>
(iter (fun s => mo_undo_b35 (wr (208 * (M3 278 31))) s.1 s.2) FU (0, M3)).bind fun w8 =>
if 0 ≤ (wr ((wr (208 * (M3 278 31))) + 207)) ∧ (wr ((wr (208 * (M3 278 31))) + 207)) < 2080 then
if (w8.2 288 ((wr ((wr (208 * (M3 278 31))) + 207))).toNat) = 1 then
(mo_takeCarrots 288 (wr (208 * (M3 278 31))) w8.2).bind fun M12 =>
some ((M12 278 31), M12)
else
some ((w8.2 278 31), w8.2)
else none
noncomputable def mo_strokes (x1 : Int) (M : MEM) : Option (Int) :=
if 0 ≤ (wr ((wr (55 * x1)) + 2)) ∧ (wr ((wr (55 * x1)) + 2)) < 166 then
some (M 279 ((wr ((wr (55 * x1)) + 2))).toNat)
else none
noncomputable def mo_line (x1 : Int) (x2 : Int) (M : MEM) : Option (Int) :=
(mo_strokes x1 M).bind fun r2 =>
if x2 ≤ r2 then
(mo_strokes x1 M).bind fun r7 =>
if (wr (r7 - 40)) < x2 then
if 0 ≤ (wr ((wr ((wr (55 * x1)) + 15)) + (Int.tmod (wr (x2 - 1)) 40))) ∧ (wr ((wr ((wr (55 * x1)) + 15)) + (Int.tmod (wr (x2 - 1)) 40))) < 166 then
some (M 279 ((wr ((wr ((wr (55 * x1)) + 15)) + (Int.tmod (wr (x2 - 1)) 40)))).toNat)
else none
else
some (-3)
else
some (-2)
noncomputable def mo_struck (x1 : Int) (x2 : Int) (M : MEM) : Option (Int × MEM) :=
(some (up2 M 278 13 0)).bind fun M1 =>
if (mo_isDonkey x1 M1) = 0 then
some ((-1), M1)
else
if x2 < 1 then
some ((-1), M1)
else
(mo_line x1 x2 M1).bind fun r8 =>
some (r8, M1)
noncomputable def mo_took (x1 : Int) (x2 : Int) (M : MEM) : Option (Int × MEM) :=
(some (up2 M 278 13 0)).bind fun M1 =>
if (mo_isDonkey x1 M1) = 0 then
some ((-1), M1)
else
if 1 ≤ x2 then
(mo_line x1 x2 M1).bind fun r8 =>
if 0 ≤ r8 then
(mo_strokes x1 M1).bind fun r13 =>
if x2 = r13 then
some ((-2), M1)
else
(mo_line x1 (wr (x2 + 1)) M1).bind fun r18 =>
(mo_line x1 x2 M1).bind fun r22 =>
some ((wr (r18 - r22)), M1)
else
(mo_line x1 x2 M1).bind fun r26 =>
some (r26, M1)
else
some ((-1), M1)
noncomputable def mo_longest_j120_35 (x1 : Int) (x2 : Int) (x3 : Int) (x4 : Int) (M : MEM) : Option ((Int × Int × Int) ⊕ (Int × Int × Int)) :=
some (.inl (x2, x3, (wr (x4 + 1))))
noncomputable def mo_longest_j117_35 (x1 : Int) (x2 : Int) (x4 : Int) (M : MEM) : Option ((Int × Int × Int) ⊕ (Int × Int × Int)) :=
mo_longest_j120_35 x1 x2 x4 x4 M
noncomputable def mo_longest_j92_35 (x1 : Int) (x2 : Int) (x3 : Int) (x4 : Int) (x5 : Int) (M : MEM) : Option ((Int × Int × Int) ⊕ (Int × Int × Int)) :=
if x3 = (-1) then
mo_longest_j117_35 x1 x2 x4 M
else
(mo_line x1 (wr (x3 + 1)) M).bind fun r26 =>
(mo_line x1 x3 M).bind fun r30 =>
if (wr (r26 - r30)) ≤ x5 then
mo_longest_j120_35 x1 x2 x3 x4 M
else
mo_longest_j117_35 x1 x2 x4 M
noncomputable def mo_longest_j89_35 (x1 : Int) (x3 : Int) (x4 : Int) (x5 : Int) (M : MEM) : Option ((Int × Int × Int) ⊕ (Int × Int × Int)) :=
mo_longest_j92_35 x1 x4 x3 x4 x5 M
noncomputable def mo_longest_b35 (x1 : Int) (x2 : Int) (x3 : Int) (x4 : Int) (M : MEM) : Option ((Int × Int × Int) ⊕ (Int × Int × Int)) :=
(mo_strokes x1 M).bind fun r11 =>
if r11 ≤ x4 then
some (.inr (x2, x3, x4))
else
(mo_line x1 (wr (x4 + 1)) M).bind fun r16 =>
(mo_line x1 x4 M).bind fun r20 =>
if x2 = (-1) then
mo_longest_j89_35 x1 x3 x4 (wr (r16 - r20)) M
else
(mo_line x1 (wr (x2 + 1)) M).bind fun r35 =>
(mo_line x1 x2 M).bind fun r39 =>
if (wr (r16 - r20)) ≤ (wr (r35 - r39)) then
mo_longest_j92_35 x1 x2 x3 x4 (wr (r16 - r20)) M
else
mo_longest_j89_35 x1 x3 x4 (wr (r16 - r20)) M
noncomputable def mo_longest (x1 : Int) (M : MEM) : Option (Int × MEM) :=
(some (up2 M 278 13 0)).bind fun M1 =>
if (mo_isDonkey x1 M1) = 0 then
some ((-1), M1)
else
(mo_strokes x1 M1).bind fun r7 =>
(iter (fun s => mo_longest_b35 x1 s.1 s.2.1 s.2.2 M1) FU ((-1), (-1), (max 1 (wr ((wr (r7 - 40)) + 1))))).bind fun w43 =>
if w43.1 = (-1) then
some ((-2), M1)
else
(some (up2 M1 278 12 0)).bind fun M45 =>
(mo_line x1 (wr (w43.1 + 1)) M45).bind fun r47 =>
(mo_line x1 w43.1 M45).bind fun r51 =>
(mo_tell (wr (r47 - r51)) M45).bind fun M55 =>
(mo_tell w43.2.1 M55).bind fun M57 =>
(mo_line x1 (wr (w43.2.1 + 1)) M57).bind fun r59 =>
(mo_line x1 w43.2.1 M57).bind fun r63 =>
(mo_tell (wr (r59 - r63)) M57).bind fun M67 =>
some (w43.1, M67)
noncomputable def mo_beginThen_b2  (x1 : Int) (M : MEM) : Option ((Int × MEM) ⊕ (Int × MEM)) :=
if 166 ≤ x1 then
some (.inr (x1, M))
else
if 0 ≤ x1 ∧ x1 < 166 then
if 0 ≤ x1 ∧ x1 < 166 then
(some (up2 M 292 (x1).toNat (M 279 (x1).toNat))).bind fun M3 =>
some (.inl ((wr (x1 + 1)), M3))
else none
else none
noncomputable def mo_beginThen  (M : MEM) : Option (MEM) :=
(iter (fun s => mo_beginThen_b2  s.1 s.2) FU (0, M)).bind fun w5 =>
some w5.2
noncomputable def mo_ahead_b32 (x1 : Int) (x2 : Int) (x3 : Int) (M : MEM) : Option ((Int × MEM) ⊕ (Int × MEM)) :=
if x2 ≤ x3 then
some (.inr (x3, M))
else
(mo_goMinute 292 M).bind fun M14 =>
some (.inl ((wr (x3 + 1)), M14))
noncomputable def mo_ahead (x1 : Int) (x2 : Int) (M : MEM) : Option (Int × MEM) :=
(some (up2 M 278 13 0)).bind fun M1 =>
if (mo_isDonkey x1 M1) = 0 then
some ((-1), M1)
else
if (mo_in x2 0 600) = 0 then
some ((-1), M1)
else
(mo_beginThen M1).bind fun M11 =>
(iter (fun s => mo_ahead_b32 x1 x2 s.1 s.2) FU (0, M11)).bind fun w15 =>
(some (up2 w15.2 278 12 0)).bind fun M16 =>
if 0 ≤ (wr ((wr (55 * x1)) + 1)) ∧ (wr ((wr (55 * x1)) + 1)) < 166 then
(mo_tell (M16 292 ((wr ((wr (55 * x1)) + 1))).toNat) M16).bind fun M19 =>
if 0 ≤ (wr (55 * x1)) ∧ (wr (55 * x1)) < 166 then
(mo_tell (M19 292 ((wr (55 * x1))).toNat) M19).bind fun M22 =>
if 0 ≤ (wr ((wr (55 * x1)) + 2)) ∧ (wr ((wr (55 * x1)) + 2)) < 166 then
(mo_strokes x1 M22).bind fun r25 =>
some ((wr ((M22 292 ((wr ((wr (55 * x1)) + 2))).toNat) - r25)), M22)
else none
else none
else none
noncomputable def mo_findTimes_b24 (x1 : Int) (x2 : Int) (x3 : Int) (M : MEM) : Option ((Int × MEM) ⊕ (Int × MEM)) :=
if 0 ≤ x1 ∧ x1 < 3 then
if (M 287 (x1).toNat) ≤ x3 then
some (.inr (x3, M))
else
if 0 ≤ (M 278 38) ∧ (M 278 38) < 2400 then
(some (up2 M 293 ((M 278 38)).toNat x2)).bind fun M7 =>
(some (up2 M7 278 38 (wr ((M7 278 38) + 1)))).bind fun M9 =>
some (.inl ((wr (x3 + 1)), M9))
else none
else none
noncomputable def mo_findTimes_b7 (x1 : Int) (x2 : Int) (M : MEM) : Option ((Int × MEM) ⊕ (Int × MEM)) :=
if 600 ≤ x2 then
some (.inr (x2, M))
else
(mo_goMinute 292 M).bind fun M4 =>
(iter (fun s => mo_findTimes_b24 x1 x2 s.1 s.2) FU (0, M4)).bind fun w10 =>
some (.inl ((wr (x2 + 1)), w10.2))
noncomputable def mo_findTimes (x1 : Int) (M : MEM) : Option (MEM) :=
(some (up2 M 278 38 0)).bind fun M1 =>
(iter (fun s => mo_findTimes_b7 x1 s.1 s.2) FU (0, M1)).bind fun w11 =>
some w11.2
noncomputable def mo_timesNow (x1 : Int) (M : MEM) : Option (MEM) :=
(mo_beginThen M).bind fun M2 =>
(mo_findTimes x1 M2).bind fun M4 =>
some M4
noncomputable def mo_when (x1 : Int) (x2 : Int) (M : MEM) : Option (Int × MEM) :=
(some (up2 M 278 13 0)).bind fun M1 =>
if (mo_isDonkey x1 M1) = 0 then
some ((-1), M1)
else
if (mo_in x2 1 60) = 0 then
some ((-1), M1)
else
(mo_timesNow x1 M1).bind fun M11 =>
if x2 ≤ (M11 278 38) then
if 0 ≤ (wr (x2 - 1)) ∧ (wr (x2 - 1)) < 2400 then
some ((wr ((M11 293 ((wr (x2 - 1))).toNat) + 1)), M11)
else none
else
some ((-2), M11)
noncomputable def mo_strikes_b32 (x1 : Int) (x2 : Int) (x3 : Int) (M : MEM) : Option ((Int) ⊕ ((Int × MEM) ⊕ (Int))) :=
if (M 278 38) < x3 then
some (.inr (.inr x3))
else
(mo_strokes x1 M).bind fun r14 =>
if (Int.tmod (wr (r14 + x3)) 12) = x2 then
(some (up2 M 278 12 0)).bind fun M18 =>
(mo_tell x3 M18).bind fun M20 =>
if 0 ≤ (wr (x3 - 1)) ∧ (wr (x3 - 1)) < 2400 then
some (.inr (.inl ((wr ((M20 293 ((wr (x3 - 1))).toNat) + 1)), M20)))
else none
else
some (.inl (wr (x3 + 1)))
noncomputable def mo_strikes (x1 : Int) (x2 : Int) (M : MEM) : Option (Int × MEM) :=
(some (up2 M 278 13 0)).bind fun M1 =>
if (mo_isDonkey x1 M1) = 0 then
some ((-1), M1)
else
if (mo_in x2 0 11) = 0 then
some ((-1), M1)
else
(mo_timesNow x1 M1).bind fun M11 =>
(iter (fun s => mo_strikes_b32 x1 x2 s M11) FU 1).bind (Sum.elim (fun r => some r) (fun w22 =>
some ((-2), M11)))
noncomputable def mo_has (x0 : Int) (x1 : Int) : Int :=
if (ish i_and (ish i_shr x0 x1) 1) = 1 then
1
else
0
noncomputable def mo_stops_j51_23 (x1 : Int) (x2 : Int) (x3 : Int) (M : MEM) : Option ((Int × Int × MEM) ⊕ (Int × Int × MEM)) :=
some (.inl (x2, (wr (x3 + 1)), M))
noncomputable def mo_stops_b23 (x1 : Int) (x2 : Int) (x3 : Int) (M : MEM) : Option ((Int × Int × MEM) ⊕ (Int × Int × MEM)) :=
if 600 < x3 then
some (.inr (x2, x3, M))
else
(mo_goMinute 292 M).bind fun M10 =>
if (mo_has (M10 278 27) x1) = 0 then
mo_stops_j51_23 x1 x3 x3 M10
else
mo_stops_j51_23 x1 x2 x3 M10
noncomputable def mo_stops (x1 : Int) (M : MEM) : Option (Int × MEM) :=
(some (up2 M 278 13 0)).bind fun M1 =>
if (mo_isDonkey x1 M1) = 0 then
some ((-1), M1)
else
(mo_beginThen M1).bind fun M7 =>
(iter (fun s => mo_stops_b23 x1 s.1 s.2.1 s.2.2) FU (0, 1, M7)).bind fun w15 =>
if w15.1 = 600 then
some ((-2), w15.2.2)
else
some (w15.1, w15.2.2)
noncomputable def mo_eats_b28 (x1 : Int) (x2 : Int) (x3 : Int) (M : MEM) : Option ((Int × MEM) ⊕ (Int × MEM)) :=
if 12 ≤ x3 then
some (.inr (x3, M))
else
if 0 ≤ x3 ∧ x3 < 12 then
(some (up2 M 294 (x3).toNat 0)).bind fun M11 =>
some (.inl ((wr (x3 + 1)), M11))
else none
noncomputable def mo_eats_j105_61 (x1 : Int) (x2 : Int) (x3 : Int) (x4 : Int) (M : MEM) : Option ((Int × Int × MEM) ⊕ (Int × Int × MEM)) :=
some (.inl (x3, (wr (x4 + 1)), M))
noncomputable def mo_eats_b61 (x1 : Int) (x2 : Int) (x3 : Int) (x4 : Int) (M : MEM) : Option ((Int × Int × MEM) ⊕ (Int × Int × MEM)) :=
if x2 ≤ x4 then
some (.inr (x3, x4, M))
else
(mo_goMinute 292 M).bind fun M19 =>
if (mo_has (M19 278 26) x1) = 0 then
mo_eats_j105_61 x1 x2 x3 x4 M19
else
if 0 ≤ (M19 278 28) ∧ (M19 278 28) < 12 then
if 0 ≤ (M19 278 28) ∧ (M19 278 28) < 12 then
(some (up2 M19 294 ((M19 278 28)).toNat (wr ((M19 294 ((M19 278 28)).toNat) + 1)))).bind fun M25 =>
mo_eats_j105_61 x1 x2 (wr (x3 + 1)) x4 M25
else none
else none
noncomputable def mo_eats_j160_125 (x3 : Int) (x4 : Int) (x5 : Int) (x6 : Int) (M : MEM) : Option ((Int × Int × Int) ⊕ (Int × Int × Int)) :=
some (.inl (x4, x5, (wr (x6 + 1))))
noncomputable def mo_eats_b125 (x3 : Int) (x4 : Int) (x5 : Int) (x6 : Int) (M : MEM) : Option ((Int × Int × Int) ⊕ (Int × Int × Int)) :=
if 12 ≤ x6 then
some (.inr (x4, x5, x6))
else
if 0 ≤ x6 ∧ x6 < 12 then
if x5 < (M 294 (x6).toNat) then
if 0 ≤ x6 ∧ x6 < 12 then
mo_eats_j160_125 x3 x6 (M 294 (x6).toNat) x6 M
else none
else
mo_eats_j160_125 x3 x4 x5 x6 M
else none
noncomputable def mo_eats (x1 : Int) (x2 : Int) (M : MEM) : Option (Int × MEM) :=
(some (up2 M 278 13 0)).bind fun M1 =>
if (mo_isDonkey x1 M1) = 0 then
some ((-1), M1)
else
if (mo_in x2 0 600) = 0 then
some ((-1), M1)
else
(iter (fun s => mo_eats_b28 x1 x2 s.1 s.2) FU (0, M1)).bind fun w13 =>
(mo_beginThen w13.2).bind fun M15 =>
(some (up2 M15 278 29 x1)).bind fun M16 =>
(iter (fun s => mo_eats_b61 x1 x2 s.1 s.2.1 s.2.2) FU (0, 0, M16)).bind fun w27 =>
(some (up2 w27.2.2 278 29 (-1))).bind fun M28 =>
(iter (fun s => mo_eats_b125 w27.1 s.1 s.2.1 s.2.2 M28) FU ((-1), 0, 0)).bind fun w33 =>
(some (up2 M28 278 12 0)).bind fun M34 =>
(mo_tell w33.1 M34).bind fun M36 =>
(mo_tell w33.2.1 M36).bind fun M38 =>
some (w27.1, M38)
noncomputable def mo_owe (x1 : Int) (x2 : Int) (x3 : Int) (x4 : Int) (x5 : Int) (M : MEM) : Option (Int × MEM) :=
(some (up2 M 278 13 0)).bind fun M1 =>
if (mo_in x1 0 5) = 0 then
some ((-1), M1)
else
if (mo_in x2 0 5) = 0 then
some ((-1), M1)
else
if x1 = x2 then
some ((-1), M1)
else
if (mo_in x3 1 99) = 0 then
some ((-1), M1)
else
if (mo_isDonkey x4 M1) = 0 then
some ((-1), M1)
else
if (mo_in x5 0 11) = 0 then
some ((-1), M1)
else
if (M1 278 41) = 10 then
some ((-2), M1)
else
if 0 ≤ (wr (5 * (M1 278 41))) ∧ (wr (5 * (M1 278 41))) < 50 then
(some (up2 M1 295 ((wr (5 * (M1 278 41)))).toNat x1)).bind fun M24 =>
if 0 ≤ (wr ((wr (5 * (M1 278 41))) + 1)) ∧ (wr ((wr (5 * (M1 278 41))) + 1)) < 50 then
(some (up2 M24 295 ((wr ((wr (5 * (M1 278 41))) + 1))).toNat x2)).bind fun M26 =>
if 0 ≤ (wr ((wr (5 * (M1 278 41))) + 2)) ∧ (wr ((wr (5 * (M1 278 41))) + 2)) < 50 then
(some (up2 M26 295 ((wr ((wr (5 * (M1 278 41))) + 2))).toNat x3)).bind fun M28 =>
if 0 ≤ (wr ((wr (5 * (M1 278 41))) + 3)) ∧ (wr ((wr (5 * (M1 278 41))) + 3)) < 50 then
(some (up2 M28 295 ((wr ((wr (5 * (M1 278 41))) + 3))).toNat x4)).bind fun M30 =>
if 0 ≤ (wr ((wr (5 * (M1 278 41))) + 4)) ∧ (wr ((wr (5 * (M1 278 41))) + 4)) < 50 then
(some (up2 M30 295 ((wr ((wr (5 * (M1 278 41))) + 4))).toNat x5)).bind fun M32 =>
(some (up2 M32 278 41 (wr ((M32 278 41) + 1)))).bind fun M34 =>
some ((wr ((M34 278 41) - 1)), M34)
else none
else none
else none
else none
else none
noncomputable def mo_tear  (M : MEM) : Option (Int × MEM) :=
(some (up2 M 278 13 0)).bind fun M1 =>
(some (up2 M1 278 41 0)).bind fun M2 =>
some ((M1 278 41), M2)
noncomputable def mo_findHours_b2 (x1 : Int) (x2 : Int) (M : MEM) : Option ((Int × MEM) ⊕ (Int × MEM)) :=
if (M 278 41) ≤ x2 then
some (.inr (x2, M))
else
if 0 ≤ x2 ∧ x2 < 10 then
(some (up2 M 296 (x2).toNat 0)).bind fun M2 =>
some (.inl ((wr (x2 + 1)), M2))
else none
noncomputable def mo_findHours_j146_67 (x1 : Int) (x2 : Int) (x3 : Int) (x4 : Int) (x5 : Int) (M : MEM) : Option ((Int × MEM) ⊕ (Int × MEM)) :=
some (.inl ((wr (x5 + 1)), M))
noncomputable def mo_findHours_j129_67 (x1 : Int) (x2 : Int) (x3 : Int) (x4 : Int) (x5 : Int) (M : MEM) : Option ((Int × MEM) ⊕ (Int × MEM)) :=
if 0 ≤ x3 ∧ x3 < 10 then
(some (up2 M 298 (x3).toNat x2)).bind fun M21 =>
if 0 ≤ x3 ∧ x3 < 10 then
if 0 ≤ x3 ∧ x3 < 10 then
(some (up2 M21 296 (x3).toNat (wr ((M21 296 (x3).toNat) + 1)))).bind fun M24 =>
mo_findHours_j146_67 x1 x2 x3 x4 x5 M24
else none
else none
else none
noncomputable def mo_findHours_b67 (x1 : Int) (x2 : Int) (x3 : Int) (x4 : Int) (x5 : Int) (M : MEM) : Option ((Int × MEM) ⊕ (Int × MEM)) :=
if 0 ≤ x4 ∧ x4 < 3 then
if (M 287 (x4).toNat) ≤ x5 then
some (.inr (x5, M))
else
if 0 ≤ (wr ((wr (55 * x4)) + 2)) ∧ (wr ((wr (55 * x4)) + 2)) < 166 then
if 0 ≤ (wr ((wr (5 * x3)) + 4)) ∧ (wr ((wr (5 * x3)) + 4)) < 50 then
if (Int.tmod (wr ((M 292 ((wr ((wr (55 * x4)) + 2))).toNat) - x5)) 12) = (M 295 ((wr ((wr (5 * x3)) + 4))).toNat) then
if 0 ≤ x3 ∧ x3 < 10 then
if (M 296 (x3).toNat) = 0 then
if 0 ≤ x3 ∧ x3 < 10 then
(some (up2 M 297 (x3).toNat x2)).bind fun M19 =>
mo_findHours_j129_67 x1 x2 x3 x4 x5 M19
else none
else
mo_findHours_j129_67 x1 x2 x3 x4 x5 M
else none
else
mo_findHours_j146_67 x1 x2 x3 x4 x5 M
else none
else none
else none
noncomputable def mo_findHours_b44 (x1 : Int) (x2 : Int) (x3 : Int) (M : MEM) : Option ((Int × MEM) ⊕ (Int × MEM)) :=
if (M 278 41) ≤ x3 then
some (.inr (x3, M))
else
if 0 ≤ (wr ((wr (5 * x3)) + 3)) ∧ (wr ((wr (5 * x3)) + 3)) < 50 then
(iter (fun s => mo_findHours_b67 x1 x2 x3 (M 295 ((wr ((wr (5 * x3)) + 3))).toNat) s.1 s.2) FU (0, M)).bind fun w26 =>
some (.inl ((wr (x3 + 1)), w26.2))
else none
noncomputable def mo_findHours_b29 (x1 : Int) (x2 : Int) (M : MEM) : Option ((Int × MEM) ⊕ (Int × MEM)) :=
if x1 ≤ x2 then
some (.inr (x2, M))
else
(mo_goMinute 292 M).bind fun M9 =>
(iter (fun s => mo_findHours_b44 x1 x2 s.1 s.2) FU (0, M9)).bind fun w27 =>
some (.inl ((wr (x2 + 1)), w27.2))
noncomputable def mo_findHours (x1 : Int) (M : MEM) : Option (MEM) :=
(iter (fun s => mo_findHours_b2 x1 s.1 s.2) FU (0, M)).bind fun w4 =>
(mo_beginThen w4.2).bind fun M6 =>
(iter (fun s => mo_findHours_b29 x1 s.1 s.2) FU (0, M6)).bind fun w28 =>
some w28.2
noncomputable def mo_isDue (x1 : Int) (x2 : Int) (M : MEM) : Option (Int) :=
if x2 = 3 then
if 0 ≤ x1 ∧ x1 < 10 then
if (M 296 (x1).toNat) = 1 then
some 1
else
some 0
else none
else
if 0 ≤ x1 ∧ x1 < 10 then
if (M 296 (x1).toNat) ≤ 0 then
some 0
else
some 1
else none
noncomputable def mo_isMore (x0 : Int) : Int :=
(mo_in x0 1 600)
noncomputable def mo_due (x1 : Int) (x2 : Int) (x3 : Int) (M : MEM) : Option (Int × MEM) :=
(some (up2 M 278 13 0)).bind fun M1 =>
if (mo_in x1 0 (wr ((M1 278 41) - 1))) = 0 then
some ((-1), M1)
else
if (mo_in x2 0 3) = 0 then
some ((-1), M1)
else
if (mo_isMore x3) = 0 then
some ((-1), M1)
else
(mo_findHours x3 M1).bind fun M15 =>
(mo_isDue x1 x2 M15).bind fun r17 =>
if r17 = 0 then
some ((-2), M15)
else
if x2 = 1 then
if 0 ≤ x1 ∧ x1 < 10 then
some ((M15 298 (x1).toNat), M15)
else none
else
if 0 ≤ x1 ∧ x1 < 10 then
some ((M15 297 (x1).toNat), M15)
else none
noncomputable def mo_frogsOf_j73_6 (x1 : Int) (x2 : Int) (x3 : Int) (x4 : Int) (x5 : Int) (M : MEM) : Option ((Int × Int) ⊕ (Int × Int)) :=
some (.inl (x4, (wr (x5 + 1))))
noncomputable def mo_frogsOf_j69_6 (x1 : Int) (x2 : Int) (x3 : Int) (x5 : Int) (s0 : Int) (s1 : Int) (s2 : Int) (M : MEM) : Option ((Int × Int) ⊕ (Int × Int)) :=
mo_frogsOf_j73_6 x1 x2 x3 (wr (s0 + (wr (s1 * s2)))) x5 M
noncomputable def mo_frogsOf_b6 (x1 : Int) (x2 : Int) (x3 : Int) (x4 : Int) (x5 : Int) (M : MEM) : Option ((Int × Int) ⊕ (Int × Int)) :=
if (M 278 41) ≤ x5 then
some (.inr (x4, x5))
else
if 0 ≤ (wr ((wr (5 * x5)) + x3)) ∧ (wr ((wr (5 * x5)) + x3)) < 50 then
if (M 295 ((wr ((wr (5 * x5)) + x3))).toNat) = x1 then
(mo_isDue x5 x2 M).bind fun r5 =>
if r5 = 0 then
mo_frogsOf_j73_6 x1 x2 x3 x4 x5 M
else
if 0 ≤ (wr ((wr (5 * x5)) + 2)) ∧ (wr ((wr (5 * x5)) + 2)) < 50 then
if x2 = 2 then
if 0 ≤ x5 ∧ x5 < 10 then
mo_frogsOf_j69_6 x1 x2 x3 x5 x4 (M 295 ((wr ((wr (5 * x5)) + 2))).toNat) (M 296 (x5).toNat) M
else none
else
mo_frogsOf_j69_6 x1 x2 x3 x5 x4 (M 295 ((wr ((wr (5 * x5)) + 2))).toNat) 1 M
else none
else
mo_frogsOf_j73_6 x1 x2 x3 x4 x5 M
else none
noncomputable def mo_frogsOf (x1 : Int) (x2 : Int) (x3 : Int) (M : MEM) : Option (Int) :=
(iter (fun s => mo_frogsOf_b6 x1 x2 x3 s.1 s.2 M) FU (0, 0)).bind fun w12 =>
some w12.1
noncomputable def mo_owes (x1 : Int) (x2 : Int) (x3 : Int) (M : MEM) : Option (Int × MEM) :=
(some (up2 M 278 13 0)).bind fun M1 =>
if (mo_in x1 0 5) = 0 then
some ((-1), M1)
else
if (mo_in x2 0 3) = 0 then
some ((-1), M1)
else
if (mo_isMore x3) = 0 then
some ((-1), M1)
else
(mo_findHours x3 M1).bind fun M15 =>
(some (up2 M15 278 12 0)).bind fun M16 =>
(mo_frogsOf x1 x2 1 M16).bind fun r18 =>
(mo_tell r18 M16).bind fun M22 =>
(mo_frogsOf x1 x2 0 M22).bind fun r24 =>
some (r24, M22)
noncomputable def mo_netOf (x1 : Int) (x2 : Int) (M : MEM) : Option (Int) :=
(mo_frogsOf x1 x2 0 M).bind fun r2 =>
(mo_frogsOf x1 x2 1 M).bind fun r6 =>
some (wr (r2 - r6))
noncomputable def mo_reading_j74_38 (x1 : Int) (x3 : Int) (x4 : Int) (M : MEM) : Option ((Int × Int × MEM) ⊕ (Int × Int × MEM)) :=
some (.inl (x3, (wr (x4 + 1)), M))
noncomputable def mo_reading_b38 (x1 : Int) (x3 : Int) (x4 : Int) (M : MEM) : Option ((Int × Int × MEM) ⊕ (Int × Int × MEM)) :=
if 4 ≤ x4 then
some (.inr (x3, x4, M))
else
(mo_netOf x1 x4 M).bind fun r15 =>
(mo_tell r15 M).bind fun M19 =>
(mo_netOf x1 x4 M19).bind fun r21 =>
(mo_netOf x1 x3 M19).bind fun r25 =>
if r25 ≤ r21 then
mo_reading_j74_38 x1 x3 x4 M19
else
mo_reading_j74_38 x1 x4 x4 M19
noncomputable def mo_reading (x1 : Int) (x2 : Int) (M : MEM) : Option (Int × MEM) :=
(some (up2 M 278 13 0)).bind fun M1 =>
if (mo_in x1 0 5) = 0 then
some ((-1), M1)
else
if (mo_isMore x2) = 0 then
some ((-1), M1)
else
(mo_findHours x2 M1).bind fun M11 =>
(some (up2 M11 278 12 0)).bind fun M12 =>
(iter (fun s => mo_reading_b38 x1 s.1 s.2.1 s.2.2) FU (0, 0, M12)).bind fun w29 =>
some (w29.1, w29.2.2)
noncomputable def mo_mildest_b42 (x2 : Int) (x3 : Int) (x4 : Int) (x5 : Int) (x6 : Int) (M : MEM) : Option ((Int × Int) ⊕ (Int × Int)) :=
if 6 ≤ x6 then
some (.inr (x5, x6))
else
(mo_netOf x6 x4 M).bind fun r11 =>
some (.inl ((max x5 r11), (wr (x6 + 1))))
noncomputable def mo_mildest_j85_28 (x2 : Int) (x3 : Int) (x4 : Int) (M : MEM) : Option ((Int × Int × Int) ⊕ (Int × Int × Int)) :=
some (.inl (x2, x3, (wr (x4 + 1))))
noncomputable def mo_mildest_b28  (x2 : Int) (x3 : Int) (x4 : Int) (M : MEM) : Option ((Int × Int × Int) ⊕ (Int × Int × Int)) :=
if 4 ≤ x4 then
some (.inr (x2, x3, x4))
else
(iter (fun s => mo_mildest_b42 x2 x3 x4 s.1 s.2 M) FU ((0 - 1000000), 0)).bind fun w14 =>
if w14.1 < x3 then
mo_mildest_j85_28 x4 w14.1 x4 M
else
mo_mildest_j85_28 x2 x3 x4 M
noncomputable def mo_mildest (x1 : Int) (M : MEM) : Option (Int × MEM) :=
(some (up2 M 278 13 0)).bind fun M1 =>
if (mo_isMore x1) = 0 then
some ((-1), M1)
else
(mo_findHours x1 M1).bind fun M7 =>
(iter (fun s => mo_mildest_b28  s.1 s.2.1 s.2.2 M7) FU (0, (1000000 - 0), 0)).bind fun w16 =>
(some (up2 M7 278 12 0)).bind fun M17 =>
(mo_tell w16.2.1 M17).bind fun M19 =>
some (w16.1, M19)
noncomputable def mo_there (x1 : Int) (x2 : Int) (M : MEM) : Option (Int) :=
if x1 = 0 then
some x2
else
if 0 ≤ (wr (x1 - 1)) ∧ (wr (x1 - 1)) < 2400 then
some (wr ((wr ((M 293 ((wr (x1 - 1))).toNat) + x2)) + 1))
else none
noncomputable def mo_latest_j28_5 (x1 : Int) (x2 : Int) (x3 : Int) (x4 : Int) (M : MEM) : Option ((Int × Int) ⊕ (Int × Int)) :=
some (.inl (x3, (wr (x4 + 1))))
noncomputable def mo_latest_b5 (x1 : Int) (x2 : Int) (x3 : Int) (x4 : Int) (M : MEM) : Option ((Int × Int) ⊕ (Int × Int)) :=
if (M 278 38) < x4 then
some (.inr (x3, x4))
else
(mo_there x4 x2 M).bind fun r3 =>
if x1 < r3 then
mo_latest_j28_5 x1 x2 x3 x4 M
else
mo_latest_j28_5 x1 x2 x4 x4 M
noncomputable def mo_latest (x1 : Int) (x2 : Int) (M : MEM) : Option (Int) :=
(iter (fun s => mo_latest_b5 x1 x2 s.1 s.2 M) FU ((-1), 0)).bind fun w7 =>
some w7.1
noncomputable def mo_leave (x1 : Int) (x2 : Int) (x3 : Int) (M : MEM) : Option (Int × MEM) :=
(some (up2 M 278 13 0)).bind fun M1 =>
if (mo_isDonkey x1 M1) = 0 then
some ((-1), M1)
else
if (mo_isMore x2) = 0 then
some ((-1), M1)
else
if (mo_in x3 0 99) = 0 then
some ((-1), M1)
else
(mo_timesNow x1 M1).bind fun M15 =>
(mo_latest x2 x3 M15).bind fun r17 =>
if r17 = (-1) then
some ((-2), M15)
else
(some (up2 M15 278 12 0)).bind fun M21 =>
(mo_there r17 x3 M21).bind fun r23 =>
(mo_tell (wr (x2 - r23)) M21).bind fun M27 =>
some (r17, M27)
noncomputable def mo_sure_b46 (x1 : Int) (x2 : Int) (x3 : Int) (x4 : Int) (x5 : Int) (M : MEM) : Option ((Int × MEM) ⊕ (Int × MEM)) :=
if 10 ≤ x5 then
some (.inr (x5, M))
else
(mo_beginThen M).bind fun M20 =>
if 0 ≤ (wr (55 * x1)) ∧ (wr (55 * x1)) < 166 then
(some (up2 M20 292 ((wr (55 * x1))).toNat x5)).bind fun M21 =>
(mo_findTimes x1 M21).bind fun M24 =>
(mo_latest x2 x3 M24).bind fun r26 =>
if 0 ≤ x5 ∧ x5 < 10 then
(some (up2 M24 299 (x5).toNat r26)).bind fun M29 =>
some (.inl ((wr (x5 + 1)), M29))
else none
else none
noncomputable def mo_sure_j147_119 (x4 : Int) (x5 : Int) (x8 : Int) (x9 : Int) (s0 : Int) (s1 : Int) (M : MEM) : Option ((Int × Int) ⊕ (Int × Int)) :=
some (.inl ((wr (s0 + s1)), (wr (x9 + 1))))
noncomputable def mo_sure_b119 (x4 : Int) (x5 : Int) (x8 : Int) (x6 : Int) (x9 : Int) (M : MEM) : Option ((Int × Int) ⊕ (Int × Int)) :=
if x8 ≤ x9 then
some (.inr (x6, x9))
else
if 0 ≤ x9 ∧ x9 < 10 then
if (M 299 (x9).toNat) < x5 then
mo_sure_j147_119 x4 x5 x8 x9 x6 0 M
else
mo_sure_j147_119 x4 x5 x8 x9 x6 1 M
else none
noncomputable def mo_sure_b97 (x4 : Int) (x5 : Int) (M : MEM) : Option ((Int) ⊕ ((Int × MEM) ⊕ (Int))) :=
if x5 < 0 then
some (.inr (.inr x5))
else
(iter (fun s => mo_sure_b119 x4 x5 10 s.1 s.2 M) FU (0, 0)).bind fun w36 =>
if x4 ≤ w36.1 then
(some (up2 M 278 12 0)).bind fun M38 =>
(mo_tell w36.1 M38).bind fun M40 =>
some (.inr (.inl (x5, M40)))
else
some (.inl (wr (x5 + (-1))))
noncomputable def mo_sure (x1 : Int) (x2 : Int) (x3 : Int) (x4 : Int) (M : MEM) : Option (Int × MEM) :=
(some (up2 M 278 13 0)).bind fun M1 =>
if (mo_isDonkey x1 M1) = 0 then
some ((-1), M1)
else
if (mo_isMore x2) = 0 then
some ((-1), M1)
else
if (mo_in x3 0 99) = 0 then
some ((-1), M1)
else
if (mo_in x4 1 10) = 0 then
some ((-1), M1)
else
(iter (fun s => mo_sure_b46 x1 x2 x3 x4 s.1 s.2) FU (0, M1)).bind fun w31 =>
(iter (fun s => mo_sure_b97 x4 s w31.2) FU 2400).bind (Sum.elim (fun r => some r) (fun w41 =>
some ((-2), w31.2)))
noncomputable def mo_missed_b54 (x2 : Int) (x3 : Int) (x4 : Int) (x5 : Int) (M : MEM) : Option ((Int × MEM) ⊕ (Int × MEM)) :=
if 600 < x5 then
some (.inr (x5, M))
else
if 0 ≤ x5 ∧ x5 < 601 then
(some (up2 M 300 (x5).toNat 0)).bind fun M21 =>
some (.inl ((wr (x5 + 1)), M21))
else none
noncomputable def mo_missed_j135_82 (x2 : Int) (x3 : Int) (x4 : Int) (x5 : Int) (x6 : Int) (M : MEM) : Option ((Int × Int × MEM) ⊕ (Int × Int × MEM)) :=
some (.inl (x5, (wr (x6 + x3)), M))
noncomputable def mo_missed_b82 (x2 : Int) (x3 : Int) (x4 : Int) (x5 : Int) (x6 : Int) (M : MEM) : Option ((Int × Int × MEM) ⊕ (Int × Int × MEM)) :=
if (M 278 38) < x6 then
some (.inr (x5, x6, M))
else
(mo_there x6 x4 M).bind fun r26 =>
if x2 = 0 then none else
if (wr ((max 1 (wr (Int.tdiv (wr ((wr (r26 + x2)) - 1)) x2))) * x2)) ≤ 600 then
if 0 ≤ (wr ((max 1 (wr (Int.tdiv (wr ((wr (r26 + x2)) - 1)) x2))) * x2)) ∧ (wr ((max 1 (wr (Int.tdiv (wr ((wr (r26 + x2)) - 1)) x2))) * x2)) < 601 then
(some (up2 M 300 ((wr ((max 1 (wr (Int.tdiv (wr ((wr (r26 + x2)) - 1)) x2))) * x2))).toNat 1)).bind fun M31 =>
mo_missed_j135_82 x2 x3 x4 x5 x6 M31
else none
else
mo_missed_j135_82 x2 x3 x4 (wr (x5 + 1)) x6 M
noncomputable def mo_missed_j175_150 (x2 : Int) (x5 : Int) (x7 : Int) (s0 : Int) (s1 : Int) (M : MEM) : Option ((Int × Int) ⊕ (Int × Int)) :=
some (.inl ((wr (s0 + s1)), (wr (x7 + x2))))
noncomputable def mo_missed_b150 (x2 : Int) (x5 : Int) (x6 : Int) (x7 : Int) (M : MEM) : Option ((Int × Int) ⊕ (Int × Int)) :=
if 600 < x7 then
some (.inr (x6, x7))
else
if 0 ≤ x7 ∧ x7 < 601 then
if (M 300 (x7).toNat) = 0 then
mo_missed_j175_150 x2 x5 x7 x6 1 M
else
mo_missed_j175_150 x2 x5 x7 x6 0 M
else none
noncomputable def mo_missed (x1 : Int) (x2 : Int) (x3 : Int) (x4 : Int) (M : MEM) : Option (Int × MEM) :=
(some (up2 M 278 13 0)).bind fun M1 =>
if (mo_isDonkey x1 M1) = 0 then
some ((-1), M1)
else
if (mo_in x2 1 120) = 0 then
some ((-1), M1)
else
if (mo_in x3 1 12) = 0 then
some ((-1), M1)
else
if (mo_in x4 0 99) = 0 then
some ((-1), M1)
else
(mo_timesNow x1 M1).bind fun M19 =>
(iter (fun s => mo_missed_b54 x2 x3 x4 s.1 s.2) FU (0, M19)).bind fun w23 =>
(iter (fun s => mo_missed_b82 x2 x3 x4 s.1 s.2.1 s.2.2) FU (0, x3, w23.2)).bind fun w33 =>
(iter (fun s => mo_missed_b150 x2 w33.1 s.1 s.2 w33.2.2) FU (0, x2)).bind fun w37 =>
(some (up2 w33.2.2 278 12 0)).bind fun M38 =>
(mo_tell w33.1 M38).bind fun M40 =>
some (w37.1, M40)
noncomputable def mo_hour (x1 : Int) (M : MEM) : Option (Int × MEM) :=
(mo_timesNow x1 M).bind fun M2 =>
if 2 ≤ (M2 278 38) then
some ((wr ((M2 293 1) - (M2 293 0))), M2)
else
some (601, M2)
noncomputable def mo_think (x1 : Int) (x2 : Int) (x3 : Int) (x4 : Int) (x5 : Int) (M : MEM) : Option (MEM) :=
(mo_layCarrot (wr (10 + x1)) x2 (wr ((M 279 165) + x3)) (wr ((wr ((wr ((M 279 165) + x3)) + x4)) - 1)) x5 M).bind fun M2 =>
(some (up2 M2 278 8 (max (M2 278 8) (wr (x1 + 1))))).bind fun M3 =>
some M3
noncomputable def mo_bribe_j118_51 (x1 : Int) (x2 : Int) (x3 : Int) (x4 : Int) (x5 : Int) (x6 : Int) (x7 : Int) (M : MEM) : Option ((Int × Int × Int × MEM) ⊕ (Int × Int × Int × MEM)) :=
some (.inl (x5, x6, (wr (x7 + 1)), M))
noncomputable def mo_bribe_j110_51 (x1 : Int) (x2 : Int) (x3 : Int) (x4 : Int) (x7 : Int) (x8 : Int) (M : MEM) : Option ((Int × Int × Int × MEM) ⊕ (Int × Int × Int × MEM)) :=
mo_bribe_j118_51 x1 x2 x3 x4 x7 x8 x7 M
noncomputable def mo_bribe_b51 (x1 : Int) (x2 : Int) (x3 : Int) (x4 : Int) (x5 : Int) (x6 : Int) (x7 : Int) (M : MEM) : Option ((Int × Int × Int × MEM) ⊕ (Int × Int × Int × MEM)) :=
if 60 < x7 then
some (.inr (x5, x6, x7, M))
else
(mo_think 0 x1 x7 x2 x3 M).bind fun M17 =>
(mo_hour x1 M17).bind fun p19 =>
(some (up2 p19.2 278 8 0)).bind fun M22 =>
if x7 ≤ 0 then
mo_bribe_j110_51 x1 x2 x3 x4 x7 p19.1 M22
else
if x3 = 1 then
if p19.1 < x6 then
mo_bribe_j110_51 x1 x2 x3 x4 x7 p19.1 M22
else
mo_bribe_j118_51 x1 x2 x3 x4 x5 x6 x7 M22
else
if x6 < p19.1 then
mo_bribe_j110_51 x1 x2 x3 x4 x7 p19.1 M22
else
mo_bribe_j118_51 x1 x2 x3 x4 x5 x6 x7 M22
noncomputable def mo_bribe_j35 (x1 : Int) (x2 : Int) (x3 : Int) (M : MEM) : Option (Int × MEM) :=
(mo_hour x1 M).bind fun p12 =>
(iter (fun s => mo_bribe_b51 x1 x2 x3 p12.1 s.1 s.2.1 s.2.2.1 s.2.2.2) FU (0, 0, 0, p12.2)).bind fun w27 =>
(some (up2 w27.2.2.2 278 12 0)).bind fun M28 =>
(mo_tell w27.2.1 M28).bind fun M30 =>
(mo_tell p12.1 M30).bind fun M32 =>
some (w27.1, M32)
noncomputable def mo_bribe (x1 : Int) (x2 : Int) (x3 : Int) (M : MEM) : Option (Int × MEM) :=
(some (up2 M 278 13 0)).bind fun M1 =>
if (mo_isDonkey x1 M1) = 0 then
some ((-1), M1)
else
if (mo_in x2 1 20) = 0 then
some ((-1), M1)
else
if x3 = 1 then
mo_bribe_j35 x1 x2 x3 M1
else
if x3 = (-1) then
mo_bribe_j35 x1 x2 x3 M1
else
some ((-1), M1)
noncomputable def mo_hourBy (x1 : Int) (x2 : Int) (M : MEM) : Option (Int × MEM) :=
(mo_think 0 x1 (M 301 0) x2 (-1) M).bind fun M2 =>
(mo_think 1 x1 (M2 301 1) x2 1 M2).bind fun M4 =>
(mo_hour x1 M4).bind fun p6 =>
(some (up2 p6.2 278 8 0)).bind fun M9 =>
some (p6.1, M9)
noncomputable def mo_rests_j154_97 (x1 : Int) (x2 : Int) (x3 : Int) (x4 : Int) (x5 : Int) (x6 : Int) (x7 : Int) (x8 : Int) (x9 : Int) (x10 : Int) (M : MEM) : Option ((Int × Int × Int × MEM) ⊕ (Int × Int × Int × MEM)) :=
some (.inl (x8, x9, (wr (x10 + 1)), M))
noncomputable def mo_rests_j146_97 (x1 : Int) (x2 : Int) (x3 : Int) (x4 : Int) (x5 : Int) (x6 : Int) (x7 : Int) (x10 : Int) (x11 : Int) (M : MEM) : Option ((Int × Int × Int × MEM) ⊕ (Int × Int × Int × MEM)) :=
mo_rests_j154_97 x1 x2 x3 x4 x5 x6 x7 x10 x11 x10 M
noncomputable def mo_rests_b97 (x1 : Int) (x2 : Int) (x3 : Int) (x4 : Int) (x5 : Int) (x6 : Int) (x7 : Int) (x8 : Int) (x9 : Int) (x10 : Int) (M : MEM) : Option ((Int × Int × Int × MEM) ⊕ (Int × Int × Int × MEM)) :=
if 30 < x10 then
some (.inr (x8, x9, x10, M))
else
if 0 ≤ x6 ∧ x6 < 2 then
(some (up2 M 301 (x6).toNat x10)).bind fun M24 =>
(mo_hourBy x1 x2 M24).bind fun p27 =>
if x6 = 0 then
if x9 < p27.1 then
mo_rests_j146_97 x1 x2 x3 x4 x5 x6 x7 x10 p27.1 p27.2
else
mo_rests_j154_97 x1 x2 x3 x4 x5 x6 x7 x8 x9 x10 p27.2
else
if p27.1 < x9 then
mo_rests_j146_97 x1 x2 x3 x4 x5 x6 x7 x10 p27.1 p27.2
else
mo_rests_j154_97 x1 x2 x3 x4 x5 x6 x7 x8 x9 x10 p27.2
else none
noncomputable def mo_rests_j184_55 (x1 : Int) (x2 : Int) (x3 : Int) (x4 : Int) (s0 : Int) (M : MEM) : Option ((Int × Int × MEM) ⊕ (Int × Int × MEM)) :=
some (.inl ((wr (x4 + 1)), s0, M))
noncomputable def mo_rests_b55 (x1 : Int) (x2 : Int) (x3 : Int) (x4 : Int) (x5 : Int) (M : MEM) : Option ((Int × Int × MEM) ⊕ (Int × Int × MEM)) :=
if x3 ≤ x4 then
some (.inr (x4, x5, M))
else
if 2 ≤ x5 then
some (.inr (x4, x5, M))
else
if 0 ≤ (Int.tmod x4 2) ∧ (Int.tmod x4 2) < 2 then
(mo_hourBy x1 x2 M).bind fun p20 =>
(iter (fun s => mo_rests_b97 x1 x2 x3 x4 x5 (Int.tmod x4 2) (M 301 ((Int.tmod x4 2)).toNat) s.1 s.2.1 s.2.2.1 s.2.2.2) FU ((M 301 ((Int.tmod x4 2)).toNat), p20.1, 0, p20.2)).bind fun w33 =>
if 0 ≤ (Int.tmod x4 2) ∧ (Int.tmod x4 2) < 2 then
(some (up2 w33.2.2.2 301 ((Int.tmod x4 2)).toNat w33.1)).bind fun M34 =>
if w33.1 = (M 301 ((Int.tmod x4 2)).toNat) then
mo_rests_j184_55 x1 x2 x3 x4 (wr (x5 + 1)) M34
else
mo_rests_j184_55 x1 x2 x3 x4 0 M34
else none
else none
noncomputable def mo_rests_j217 (x4 : Int) (x6 : Int) (s1 : Int) (M : MEM) : Option (Int × MEM) :=
(mo_tell s1 M).bind fun M45 =>
(mo_tell (M45 301 0) M45).bind fun M47 =>
(mo_tell (M47 301 1) M47).bind fun M49 =>
(mo_tell x6 M49).bind fun M51 =>
some (x4, M51)
noncomputable def mo_rests_j192 (x1 : Int) (x2 : Int) (x4 : Int) (x5 : Int) (M : MEM) : Option (Int × MEM) :=
(mo_hourBy x1 x2 M).bind fun p39 =>
(some (up2 p39.2 278 12 0)).bind fun M42 =>
if x5 = 2 then
mo_rests_j217 x4 p39.1 1 M42
else
mo_rests_j217 x4 p39.1 0 M42
noncomputable def mo_rests (x1 : Int) (x2 : Int) (x3 : Int) (M : MEM) : Option (Int × MEM) :=
(some (up2 M 278 13 0)).bind fun M1 =>
if (mo_isDonkey x1 M1) = 0 then
some ((-1), M1)
else
if (mo_in x2 1 10) = 0 then
some ((-1), M1)
else
if (mo_in x3 0 20) = 0 then
some ((-1), M1)
else
(some (up2 M1 301 0 0)).bind fun M14 =>
(some (up2 M14 301 1 0)).bind fun M15 =>
(iter (fun s => mo_rests_b55 x1 x2 x3 s.1 s.2.1 s.2.2) FU (0, 0, M15)).bind fun w37 =>
mo_rests_j192 x1 x2 w37.1 w37.2.1 w37.2.2
noncomputable def mo_bid_j123_39 (x1 : Int) (x2 : Int) (x3 : Int) (x4 : Int) (x5 : Int) (M : MEM) : Option ((Int × Int × MEM) ⊕ (Int × Int × MEM)) :=
some (.inl (x4, (wr (x5 + 1)), M))
noncomputable def mo_bid_j119_39 (x1 : Int) (x2 : Int) (x3 : Int) (x5 : Int) (M : MEM) : Option ((Int × Int × MEM) ⊕ (Int × Int × MEM)) :=
mo_bid_j123_39 x1 x2 x3 x5 x5 M
noncomputable def mo_bid_j97_39 (x1 : Int) (x2 : Int) (x3 : Int) (x4 : Int) (x5 : Int) (s0 : Int) (M : MEM) : Option ((Int × Int × MEM) ⊕ (Int × Int × MEM)) :=
if x2 = 1 then
if x3 < s0 then
mo_bid_j123_39 x1 x2 x3 x4 x5 M
else
mo_bid_j119_39 x1 x2 x3 x5 M
else
if s0 < x3 then
mo_bid_j123_39 x1 x2 x3 x4 x5 M
else
mo_bid_j119_39 x1 x2 x3 x5 M
noncomputable def mo_bid_j66_39 (x1 : Int) (x2 : Int) (x3 : Int) (x4 : Int) (x5 : Int) (M : MEM) : Option ((Int × Int × MEM) ⊕ (Int × Int × MEM)) :=
(mo_timesNow x1 M).bind fun M15 =>
(some (up2 M15 278 8 0)).bind fun M16 =>
if (M16 278 38) = 0 then
mo_bid_j97_39 x1 x2 x3 x4 x5 601 M16
else
mo_bid_j97_39 x1 x2 x3 x4 x5 (wr ((M16 293 0) + 1)) M16
noncomputable def mo_bid_b39 (x1 : Int) (x2 : Int) (x3 : Int) (x4 : Int) (x5 : Int) (M : MEM) : Option ((Int × Int × MEM) ⊕ (Int × Int × MEM)) :=
if 60 < x5 then
some (.inr (x4, x5, M))
else
if 0 ≤ x4 then
some (.inr (x4, x5, M))
else
if x5 ≤ 0 then
mo_bid_j66_39 x1 x2 x3 x4 x5 M
else
(mo_think 0 x1 0 x5 x2 M).bind fun M22 =>
mo_bid_j66_39 x1 x2 x3 x4 x5 M22
noncomputable def mo_bid_j23 (x1 : Int) (x2 : Int) (x3 : Int) (M : MEM) : Option (Int × MEM) :=
if (mo_isMore x3) = 0 then
some ((-1), M)
else
(iter (fun s => mo_bid_b39 x1 x2 x3 s.1 s.2.1 s.2.2) FU ((-2), 0, M)).bind fun w23 =>
some (w23.1, w23.2.2)
noncomputable def mo_bid (x1 : Int) (x2 : Int) (x3 : Int) (M : MEM) : Option (Int × MEM) :=
(some (up2 M 278 13 0)).bind fun M1 =>
if (mo_isDonkey x1 M1) = 0 then
some ((-1), M1)
else
if x2 = 1 then
mo_bid_j23 x1 x2 x3 M1
else
if x2 = (-1) then
mo_bid_j23 x1 x2 x3 M1
else
some ((-1), M1)
noncomputable def mo_heard (x1 : Int) (x2 : Int) (x3 : Int) (M : MEM) : Option (Int × MEM) :=
(some (up2 M 278 13 0)).bind fun M1 =>
if (mo_isDonkey x1 M1) = 0 then
some ((-1), M1)
else
if (mo_in x2 0 60) = 0 then
some ((-1), M1)
else
if (mo_isMore x3) = 0 then
some ((-1), M1)
else
if (M1 278 49) = 8 then
some ((-1), M1)
else
if 0 ≤ (wr (3 * (M1 278 49))) ∧ (wr (3 * (M1 278 49))) < 24 then
(some (up2 M1 302 ((wr (3 * (M1 278 49)))).toNat x1)).bind fun M15 =>
if 0 ≤ (wr ((wr (3 * (M15 278 49))) + 1)) ∧ (wr ((wr (3 * (M15 278 49))) + 1)) < 24 then
(some (up2 M15 302 ((wr ((wr (3 * (M15 278 49))) + 1))).toNat x2)).bind fun M17 =>
if 0 ≤ (wr ((wr (3 * (M17 278 49))) + 2)) ∧ (wr ((wr (3 * (M17 278 49))) + 2)) < 24 then
(some (up2 M17 302 ((wr ((wr (3 * (M17 278 49))) + 2))).toNat x3)).bind fun M19 =>
(some (up2 M19 278 49 (wr ((M19 278 49) + 1)))).bind fun M21 =>
some ((M21 278 49), M21)
else none
else none
else none
noncomputable def mo_forget  (M : MEM) : Option (Int × MEM) :=
(some (up2 M 278 13 0)).bind fun M1 =>
(some (up2 M1 278 49 0)).bind fun M2 =>
some ((M1 278 49), M2)
noncomputable def mo_isHeard_b27 (x1 : Int) (x2 : Int) (x3 : Int) (M : MEM) : Option ((Int) ⊕ (Int)) :=
if (M 278 38) ≤ x3 then
some (.inr x3)
else
if 0 ≤ x3 ∧ x3 < 2400 then
if 0 ≤ (wr ((wr (3 * x2)) + 2)) ∧ (wr ((wr (3 * x2)) + 2)) < 24 then
if (M 302 ((wr ((wr (3 * x2)) + 2))).toNat) ≤ (M 293 (x3).toNat) then
some (.inr x3)
else
some (.inl (wr (x3 + 1)))
else none
else none
noncomputable def mo_isHeard_j76_2 (x1 : Int) (x2 : Int) (M : MEM) : Option ((Int) ⊕ ((Int) ⊕ (Int))) :=
some (.inl (wr (x2 + 1)))
noncomputable def mo_isHeard_j60_2 (x1 : Int) (x2 : Int) (x3 : Int) (M : MEM) : Option ((Int) ⊕ ((Int) ⊕ (Int))) :=
if 0 ≤ (wr ((wr (3 * x2)) + 1)) ∧ (wr ((wr (3 * x2)) + 1)) < 24 then
if x3 = (M 302 ((wr ((wr (3 * x2)) + 1))).toNat) then
mo_isHeard_j76_2 x1 x2 M
else
some (.inr (.inl 0))
else none
noncomputable def mo_isHeard_b2 (x1 : Int) (x2 : Int) (M : MEM) : Option ((Int) ⊕ ((Int) ⊕ (Int))) :=
if (M 278 49) ≤ x2 then
some (.inr (.inr x2))
else
if 0 ≤ (wr (3 * x2)) ∧ (wr (3 * x2)) < 24 then
if (M 302 ((wr (3 * x2))).toNat) = x1 then
(iter (fun s => mo_isHeard_b27 x1 x2 s M) FU 0).bind fun w8 =>
mo_isHeard_j60_2 x1 x2 w8 M
else
mo_isHeard_j76_2 x1 x2 M
else none
noncomputable def mo_isHeard (x1 : Int) (M : MEM) : Option (Int) :=
(iter (fun s => mo_isHeard_b2 x1 s M) FU 0).bind (Sum.elim (fun r => some r) (fun w11 =>
some 1))
noncomputable def mo_isHeardWith (x1 : Int) (x2 : Int) (x3 : Int) (M : MEM) : Option (Int × MEM) :=
(mo_beginThen M).bind fun M2 =>
if 0 ≤ (wr (55 * x1)) ∧ (wr (55 * x1)) < 166 then
(some (up2 M2 292 ((wr (55 * x1))).toNat x2)).bind fun M3 =>
if 0 ≤ (wr ((wr (55 * x1)) + 1)) ∧ (wr ((wr (55 * x1)) + 1)) < 166 then
(some (up2 M3 292 ((wr ((wr (55 * x1)) + 1))).toNat x3)).bind fun M5 =>
(mo_findTimes x1 M5).bind fun M8 =>
(mo_isHeard x1 M8).bind fun r10 =>
some (r10, M8)
else none
else none
noncomputable def mo_hungers_j59_22 (x1 : Int) (x3 : Int) (x4 : Int) (s0 : Int) (s1 : Int) (M : MEM) : Option ((Int × Int × MEM) ⊕ (Int × Int × MEM)) :=
some (.inl ((ish i_or s0 s1), (wr (x4 + 1)), M))
noncomputable def mo_hungers_b22 (x1 : Int) (x3 : Int) (x2 : Int) (x4 : Int) (M : MEM) : Option ((Int × Int × MEM) ⊕ (Int × Int × MEM)) :=
if 10 ≤ x4 then
some (.inr (x2, x4, M))
else
if 0 ≤ (wr ((wr (55 * x1)) + 1)) ∧ (wr ((wr (55 * x1)) + 1)) < 166 then
(mo_isHeardWith x1 x4 (M 279 ((wr ((wr (55 * x1)) + 1))).toNat) M).bind fun p9 =>
if p9.1 = 0 then
mo_hungers_j59_22 x1 x3 x4 x2 0 p9.2
else
mo_hungers_j59_22 x1 x3 x4 x2 (ish i_shl 1 x4) p9.2
else none
noncomputable def mo_hungers_j109_70 (x1 : Int) (x2 : Int) (x4 : Int) (s0 : Int) (s1 : Int) (M : MEM) : Option ((Int × Int × MEM) ⊕ (Int × Int × MEM)) :=
some (.inl ((ish i_or s0 s1), (wr (x4 + 1)), M))
noncomputable def mo_hungers_b70 (x1 : Int) (x2 : Int) (x3 : Int) (x4 : Int) (M : MEM) : Option ((Int × Int × MEM) ⊕ (Int × Int × MEM)) :=
if 0 ≤ x1 ∧ x1 < 3 then
if (M 280 (x1).toNat) ≤ x4 then
some (.inr (x3, x4, M))
else
if 0 ≤ (wr (55 * x1)) ∧ (wr (55 * x1)) < 166 then
(mo_isHeardWith x1 (M 279 ((wr (55 * x1))).toNat) x4 M).bind fun p18 =>
if p18.1 = 0 then
mo_hungers_j109_70 x1 x2 x4 x3 0 p18.2
else
mo_hungers_j109_70 x1 x2 x4 x3 (ish i_shl 1 x4) p18.2
else none
else none
noncomputable def mo_hungers (x1 : Int) (M : MEM) : Option (Int × MEM) :=
(some (up2 M 278 13 0)).bind fun M1 =>
if (mo_isDonkey x1 M1) = 0 then
some ((-1), M1)
else
(iter (fun s => mo_hungers_b22 x1 0 s.1 s.2.1 s.2.2) FU (0, 0, M1)).bind fun w13 =>
(iter (fun s => mo_hungers_b70 x1 w13.1 s.1 s.2.1 s.2.2) FU (0, 0, w13.2.2)).bind fun w22 =>
(some (up2 w22.2.2 278 12 0)).bind fun M23 =>
(mo_tell w22.1 M23).bind fun M25 =>
some (w13.1, M25)
noncomputable def mo_ways_j74_32 (x1 : Int) (x2 : Int) (x3 : Int) (x4 : Int) (x5 : Int) (M : MEM) : Option ((Int × Int × Int × MEM) ⊕ (Int × Int × Int × MEM)) :=
some (.inl (x2, x3, (wr (x5 + 1)), M))
noncomputable def mo_ways_j71_32 (x1 : Int) (x2 : Int) (x3 : Int) (x4 : Int) (x5 : Int) (M : MEM) : Option ((Int × Int × Int × MEM) ⊕ (Int × Int × Int × MEM)) :=
mo_ways_j74_32 x1 (wr (x2 + 1)) x3 x4 x5 M
noncomputable def mo_ways_b32 (x1 : Int) (x4 : Int) (x2 : Int) (x3 : Int) (x5 : Int) (M : MEM) : Option ((Int × Int × Int × MEM) ⊕ (Int × Int × Int × MEM)) :=
if 0 ≤ x1 ∧ x1 < 3 then
if (M 280 (x1).toNat) ≤ x5 then
some (.inr (x2, x3, x5, M))
else
(mo_isHeardWith x1 x4 x5 M).bind fun p10 =>
if p10.1 = 0 then
mo_ways_j74_32 x1 x2 x3 x4 x5 p10.2
else
if x2 = 0 then
mo_ways_j71_32 x1 x2 (wr ((wr (12 * x4)) + x5)) x4 x5 p10.2
else
mo_ways_j71_32 x1 x2 x3 x4 x5 p10.2
else none
noncomputable def mo_ways_b22 (x1 : Int) (x2 : Int) (x3 : Int) (x4 : Int) (M : MEM) : Option ((Int × Int × Int × MEM) ⊕ (Int × Int × Int × MEM)) :=
if 10 ≤ x4 then
some (.inr (x2, x3, x4, M))
else
(iter (fun s => mo_ways_b32 x1 x4 s.1 s.2.1 s.2.2.1 s.2.2.2) FU (x2, x3, 0, M)).bind fun w15 =>
some (.inl (w15.1, w15.2.1, (wr (x4 + 1)), w15.2.2.2))
noncomputable def mo_ways (x1 : Int) (M : MEM) : Option (Int × MEM) :=
(some (up2 M 278 13 0)).bind fun M1 =>
if (mo_isDonkey x1 M1) = 0 then
some ((-1), M1)
else
(iter (fun s => mo_ways_b22 x1 s.1 s.2.1 s.2.2.1 s.2.2.2) FU (0, 0, 0, M1)).bind fun w16 =>
(some (up2 w16.2.2.2 278 12 0)).bind fun M17 =>
if w16.1 ≤ 0 then
some (w16.1, M17)
else
(mo_tell (wr (Int.tdiv w16.2.1 12)) M17).bind fun M20 =>
(mo_tell (Int.tmod w16.2.1 12) M20).bind fun M22 =>
some (w16.1, M22)
noncomputable def mo_swarms_b25 (x1 : Int) (x2 : Int) (x3 : Int) (x4 : Int) (M : MEM) : Option ((Int × Int × MEM) ⊕ (Int × Int × MEM)) :=
if (M 278 1) ≤ x4 then
some (.inr (x3, x4, M))
else
if x3 = 0 then
some (.inr (x3, x4, M))
else
(mo_timesNow x4 M).bind fun M7 =>
(mo_isHeard x4 M7).bind fun r9 =>
some (.inl (r9, (wr (x4 + 1)), M7))
noncomputable def mo_swarms_j69_9 (x2 : Int) (s0 : Int) (s1 : Int) (M : MEM) : Option ((Int × Int × MEM) ⊕ (Int × Int × MEM)) :=
some (.inl ((ish i_or s0 s1), (wr (x2 + 1)), M))
noncomputable def mo_swarms_j57_9 (x1 : Int) (x2 : Int) (x3 : Int) (M : MEM) : Option ((Int × Int × MEM) ⊕ (Int × Int × MEM)) :=
if x3 = 0 then
mo_swarms_j69_9 x2 x1 0 M
else
mo_swarms_j69_9 x2 x1 (ish i_shl 1 x2) M
noncomputable def mo_swarms_b9  (x1 : Int) (x2 : Int) (M : MEM) : Option ((Int × Int × MEM) ⊕ (Int × Int × MEM)) :=
if 10 ≤ x2 then
some (.inr (x1, x2, M))
else
(some (up2 M 278 5 x2)).bind fun M3 =>
(iter (fun s => mo_swarms_b25 x1 x2 s.1 s.2.1 s.2.2) FU (1, 0, M3)).bind fun w12 =>
mo_swarms_j57_9 x1 x2 w12.1 w12.2.2
noncomputable def mo_swarms  (M : MEM) : Option (Int × MEM) :=
(some (up2 M 278 13 0)).bind fun M1 =>
(iter (fun s => mo_swarms_b9  s.1 s.2.1 s.2.2) FU (0, 0, M1)).bind fun w14 =>
(some (up2 w14.2.2 278 5 (-1))).bind fun M15 =>
some (w14.1, M15)
noncomputable def mo_span_j117_48 (x1 : Int) (x2 : Int) (x3 : Int) (x4 : Int) (x5 : Int) (x6 : Int) (x7 : Int) (M : MEM) : Option ((Int × Int × Int × Int × MEM) ⊕ (Int × Int × Int × Int × MEM)) :=
some (.inl (x3, x4, x5, (wr (x7 + 1)), M))
noncomputable def mo_span_b48 (x1 : Int) (x2 : Int) (x6 : Int) (x3 : Int) (x4 : Int) (x5 : Int) (x7 : Int) (M : MEM) : Option ((Int × Int × Int × Int × MEM) ⊕ (Int × Int × Int × Int × MEM)) :=
if 0 ≤ x1 ∧ x1 < 3 then
if (M 280 (x1).toNat) ≤ x7 then
some (.inr (x3, x4, x5, x7, M))
else
(mo_isHeardWith x1 x6 x7 M).bind fun p14 =>
if p14.1 = 0 then
mo_span_j117_48 x1 x2 x3 x4 x5 x6 x7 p14.2
else
if x2 ≤ (p14.2 278 38) then
if 0 ≤ (wr (x2 - 1)) ∧ (wr (x2 - 1)) < 2400 then
if 0 ≤ (wr (x2 - 1)) ∧ (wr (x2 - 1)) < 2400 then
mo_span_j117_48 x1 x2 (min x3 (wr ((p14.2 293 ((wr (x2 - 1))).toNat) + 1))) (max x4 (wr ((p14.2 293 ((wr (x2 - 1))).toNat) + 1))) (wr (x5 + 1)) x6 x7 p14.2
else none
else none
else
mo_span_j117_48 x1 x2 x3 x4 x5 x6 x7 p14.2
else none
noncomputable def mo_span_b38 (x1 : Int) (x2 : Int) (x3 : Int) (x4 : Int) (x5 : Int) (x6 : Int) (M : MEM) : Option ((Int × Int × Int × Int × MEM) ⊕ (Int × Int × Int × Int × MEM)) :=
if 10 ≤ x6 then
some (.inr (x3, x4, x5, x6, M))
else
(iter (fun s => mo_span_b48 x1 x2 x6 s.1 s.2.1 s.2.2.1 s.2.2.2.1 s.2.2.2.2) FU (x3, x4, x5, 0, M)).bind fun w21 =>
some (.inl (w21.1, w21.2.1, w21.2.2.1, (wr (x6 + 1)), w21.2.2.2.2))
noncomputable def mo_span (x1 : Int) (x2 : Int) (M : MEM) : Option (Int × MEM) :=
(some (up2 M 278 13 0)).bind fun M1 =>
if (mo_isDonkey x1 M1) = 0 then
some ((-1), M1)
else
if (mo_in x2 1 60) = 0 then
some ((-1), M1)
else
(iter (fun s => mo_span_b38 x1 x2 s.1 s.2.1 s.2.2.1 s.2.2.2.1 s.2.2.2.2) FU ((1000000 - 0), 0, 0, 0, M1)).bind fun w22 =>
if w22.2.2.1 = 0 then
some ((-2), w22.2.2.2.2)
else
(some (up2 w22.2.2.2.2 278 12 0)).bind fun M24 =>
(mo_tell w22.2.1 M24).bind fun M26 =>
(mo_tell w22.2.2.1 M26).bind fun M28 =>
some (w22.1, M28)
noncomputable def mo_areTwo (x1 : Int) (x2 : Int) (M : MEM) : Int :=
if (mo_isDonkey x1 M) = 0 then
0
else
if (mo_isDonkey x2 M) = 0 then
0
else
if x1 = x2 then
0
else
1
noncomputable def mo_apart_j25  (M : MEM) : Option (Int × MEM) :=
(mo_lost M).bind fun p7 =>
some (p7.1, p7.2)
noncomputable def mo_apart_b37 (x1 : Int) (x2 : Int) (x3 : Int) (x4 : Int) (M : MEM) : Option ((Int × MEM) ⊕ (Int × MEM)) :=
if x3 ≤ x4 then
some (.inr (x4, M))
else
(mo_goMinute 292 M).bind fun M18 =>
some (.inl ((wr (x4 + 1)), M18))
noncomputable def mo_apart (x1 : Int) (x2 : Int) (x3 : Int) (M : MEM) : Option (Int × MEM) :=
(some (up2 M 278 13 0)).bind fun M1 =>
if (mo_areTwo x1 x2 M1) = 0 then
mo_apart_j25  M1
else
if (mo_in x3 0 600) = 0 then
mo_apart_j25  M1
else
(mo_beginThen M1).bind fun M15 =>
(iter (fun s => mo_apart_b37 x1 x2 x3 s.1 s.2) FU (0, M15)).bind fun w19 =>
if 0 ≤ (wr ((wr (55 * x1)) + 2)) ∧ (wr ((wr (55 * x1)) + 2)) < 166 then
if 0 ≤ (wr ((wr (55 * x2)) + 2)) ∧ (wr ((wr (55 * x2)) + 2)) < 166 then
some ((wr ((w19.2 292 ((wr ((wr (55 * x1)) + 2))).toNat) - (w19.2 292 ((wr ((wr (55 * x2)) + 2))).toNat))), w19.2)
else none
else none
noncomputable def mo_together_j57_22 (x1 : Int) (x2 : Int) (x3 : Int) (M : MEM) : Option ((Int × MEM) ⊕ ((Int × MEM) ⊕ (Int × MEM))) :=
some (.inl ((wr (x3 + 1)), M))
noncomputable def mo_together_b22 (x1 : Int) (x2 : Int) (x3 : Int) (M : MEM) : Option ((Int × MEM) ⊕ ((Int × MEM) ⊕ (Int × MEM))) :=
if 600 < x3 then
some (.inr (.inr (x3, M)))
else
(mo_goMinute 292 M).bind fun M10 =>
if 0 ≤ x1 ∧ x1 < 3 then
if (M10 287 (x1).toNat) ≤ 0 then
mo_together_j57_22 x1 x2 x3 M10
else
if 0 ≤ x2 ∧ x2 < 3 then
if (M10 287 (x2).toNat) ≤ 0 then
mo_together_j57_22 x1 x2 x3 M10
else
some (.inr (.inl (x3, M10)))
else none
else none
noncomputable def mo_together (x1 : Int) (x2 : Int) (M : MEM) : Option (Int × MEM) :=
(some (up2 M 278 13 0)).bind fun M1 =>
if (mo_areTwo x1 x2 M1) = 0 then
some ((-1), M1)
else
(mo_beginThen M1).bind fun M7 =>
(iter (fun s => mo_together_b22 x1 x2 s.1 s.2) FU (1, M7)).bind (Sum.elim (fun r => some r) (fun w15 =>
some ((-2), w15.2)))
noncomputable def mo_join_b26 (x1 : Int) (x2 : Int) (x3 : Int) (x4 : Int) (M : MEM) : Option ((Int × MEM) ⊕ (Int × MEM)) :=
if 12 ≤ x4 then
some (.inr (x4, M))
else
if 0 ≤ x4 ∧ x4 < 12 then
(some (up2 M 303 (x4).toNat 0)).bind fun M11 =>
some (.inl ((wr (x4 + 1)), M11))
else none
noncomputable def mo_join_b54 (x1 : Int) (x2 : Int) (x3 : Int) (x4 : Int) (M : MEM) : Option ((Int × MEM) ⊕ (Int × MEM)) :=
if x3 ≤ x4 then
some (.inr (x4, M))
else
(mo_goMinute 292 M).bind fun M18 =>
if 0 ≤ (wr ((wr (55 * x1)) + 2)) ∧ (wr ((wr (55 * x1)) + 2)) < 166 then
if 0 ≤ (wr ((wr (55 * x2)) + 2)) ∧ (wr ((wr (55 * x2)) + 2)) < 166 then
if 0 ≤ (Int.tmod (wr ((wr ((Int.tmod (M18 292 ((wr ((wr (55 * x1)) + 2))).toNat) 12) + 12)) - (Int.tmod (M18 292 ((wr ((wr (55 * x2)) + 2))).toNat) 12))) 12) ∧ (Int.tmod (wr ((wr ((Int.tmod (M18 292 ((wr ((wr (55 * x1)) + 2))).toNat) 12) + 12)) - (Int.tmod (M18 292 ((wr ((wr (55 * x2)) + 2))).toNat) 12))) 12) < 12 then
if 0 ≤ (Int.tmod (wr ((wr ((Int.tmod (M18 292 ((wr ((wr (55 * x1)) + 2))).toNat) 12) + 12)) - (Int.tmod (M18 292 ((wr ((wr (55 * x2)) + 2))).toNat) 12))) 12) ∧ (Int.tmod (wr ((wr ((Int.tmod (M18 292 ((wr ((wr (55 * x1)) + 2))).toNat) 12) + 12)) - (Int.tmod (M18 292 ((wr ((wr (55 * x2)) + 2))).toNat) 12))) 12) < 12 then
(some (up2 M18 303 ((Int.tmod (wr ((wr ((Int.tmod (M18 292 ((wr ((wr (55 * x1)) + 2))).toNat) 12) + 12)) - (Int.tmod (M18 292 ((wr ((wr (55 * x2)) + 2))).toNat) 12))) 12)).toNat (wr ((M18 303 ((Int.tmod (wr ((wr ((Int.tmod (M18 292 ((wr ((wr (55 * x1)) + 2))).toNat) 12) + 12)) - (Int.tmod (M18 292 ((wr ((wr (55 * x2)) + 2))).toNat) 12))) 12)).toNat) + 1)))).bind fun M22 =>
some (.inl ((wr (x4 + 1)), M22))
else none
else none
else none
else none
noncomputable def mo_join_j152_124 (x4 : Int) (x5 : Int) (M : MEM) : Option ((Int × Int) ⊕ (Int × Int)) :=
some (.inl (x4, (wr (x5 + 1))))
noncomputable def mo_join_b124  (x4 : Int) (x5 : Int) (M : MEM) : Option ((Int × Int) ⊕ (Int × Int)) :=
if 12 ≤ x5 then
some (.inr (x4, x5))
else
if 0 ≤ x5 ∧ x5 < 12 then
if 0 ≤ x4 ∧ x4 < 12 then
if (M 303 (x5).toNat) ≤ (M 303 (x4).toNat) then
mo_join_j152_124 x4 x5 M
else
mo_join_j152_124 x5 x5 M
else none
else none
noncomputable def mo_join (x1 : Int) (x2 : Int) (x3 : Int) (M : MEM) : Option (Int × MEM) :=
(some (up2 M 278 13 0)).bind fun M1 =>
if (mo_areTwo x1 x2 M1) = 0 then
some ((-1), M1)
else
if (mo_isMore x3) = 0 then
some ((-1), M1)
else
(iter (fun s => mo_join_b26 x1 x2 x3 s.1 s.2) FU (0, M1)).bind fun w13 =>
(mo_beginThen w13.2).bind fun M15 =>
(iter (fun s => mo_join_b54 x1 x2 x3 s.1 s.2) FU (0, M15)).bind fun w24 =>
(iter (fun s => mo_join_b124  s.1 s.2 w24.2) FU (0, 1)).bind fun w29 =>
(some (up2 w24.2 278 12 0)).bind fun M30 =>
(mo_tell w29.1 M30).bind fun M32 =>
if 0 ≤ w29.1 ∧ w29.1 < 12 then
(mo_tell (M32 303 (w29.1).toNat) M32).bind fun M35 =>
some ((M35 303 0), M35)
else none
noncomputable def mo_shows_b36 (x1 : Int) (x2 : Int) (x3 : Int) (x4 : Int) (x5 : Int) (M : MEM) : Option ((Int × Int × MEM) ⊕ ((Int × MEM) ⊕ (Int × Int × MEM))) :=
if 600 ≤ x5 then
some (.inr (.inr (x4, x5, M)))
else
(mo_goMinute 292 M).bind fun M14 =>
if 0 ≤ x2 ∧ x2 < 3 then
if (wr (x4 + (M14 287 (x2).toNat))) < x3 then
some (.inl ((wr (x4 + (M14 287 (x2).toNat))), (wr (x5 + 1)), M14))
else
if 0 ≤ (wr ((wr (55 * x1)) + 2)) ∧ (wr ((wr (55 * x1)) + 2)) < 166 then
some (.inr (.inl ((Int.tmod (M14 292 ((wr ((wr (55 * x1)) + 2))).toNat) 12), M14)))
else none
else none
noncomputable def mo_shows (x1 : Int) (x2 : Int) (x3 : Int) (M : MEM) : Option (Int × MEM) :=
(some (up2 M 278 13 0)).bind fun M1 =>
if (mo_areTwo x1 x2 M1) = 0 then
some ((-1), M1)
else
if (mo_in x3 1 60) = 0 then
some ((-1), M1)
else
(mo_beginThen M1).bind fun M11 =>
(iter (fun s => mo_shows_b36 x1 x2 x3 s.1 s.2.1 s.2.2) FU (0, 0, M11)).bind (Sum.elim (fun r => some r) (fun w18 =>
some ((-2), w18.2.2)))
noncomputable def mo_boils (x1 : Int) (M : MEM) : Option (Int) :=
if 0 ≤ x1 ∧ x1 < 2400 then
some (wr ((M 293 (x1).toNat) - (M 293 0)))
else none
noncomputable def mo_egg_j99_54 (x2 : Int) (x3 : Int) (x4 : Int) (x5 : Int) (M : MEM) : Option ((Int × Int) ⊕ (Int × Int)) :=
some (.inl (x4, (wr (x5 + 1))))
noncomputable def mo_egg_b54 (x2 : Int) (x3 : Int) (x4 : Int) (x5 : Int) (M : MEM) : Option ((Int × Int) ⊕ (Int × Int)) :=
if 12 < x5 then
some (.inr (x4, x5))
else
if (M 278 38) ≤ x5 then
some (.inr (x4, x5))
else
(mo_boils x5 M).bind fun r20 =>
(mo_boils x4 M).bind fun r24 =>
if (iabs (wr (r24 - x3))) ≤ (iabs (wr (r20 - x3))) then
mo_egg_j99_54 x2 x3 x4 x5 M
else
mo_egg_j99_54 x2 x3 x5 x5 M
noncomputable def mo_egg_j105 (x2 : Int) (x4 : Int) (M : MEM) : Option (Int × MEM) :=
(some (up2 M 278 12 0)).bind fun M29 =>
(mo_tell x4 M29).bind fun M31 =>
(mo_boils x4 M31).bind fun r33 =>
(mo_tell r33 M31).bind fun M37 =>
(mo_boils x2 M37).bind fun r39 =>
some (r39, M37)
noncomputable def mo_egg (x1 : Int) (x2 : Int) (x3 : Int) (M : MEM) : Option (Int × MEM) :=
(some (up2 M 278 13 0)).bind fun M1 =>
if (mo_isDonkey x1 M1) = 0 then
some ((-1), M1)
else
if (mo_in x2 1 12) = 0 then
some ((-1), M1)
else
if (mo_isMore x3) = 0 then
some ((-1), M1)
else
(mo_timesNow x1 M1).bind fun M15 =>
if x2 < (M15 278 38) then
(iter (fun s => mo_egg_b54 x2 x3 s.1 s.2 M15) FU (1, 2)).bind fun w28 =>
mo_egg_j105 x2 w28.1 M15
else
some ((-2), M15)
noncomputable def mo_plant_j146_44 (x1 : Int) (x2 : Int) (x3 : Int) (x4 : Int) (x5 : Int) (x6 : Int) (M : MEM) : Option ((Int × Int × Int × MEM) ⊕ (Int × Int × Int × MEM)) :=
some (.inl (x4, x5, (wr (x6 + 1)), M))
noncomputable def mo_plant_j138_44 (x1 : Int) (x2 : Int) (x3 : Int) (x6 : Int) (x8 : Int) (M : MEM) : Option ((Int × Int × Int × MEM) ⊕ (Int × Int × Int × MEM)) :=
mo_plant_j146_44 x1 x2 x3 x6 x8 x6 M
noncomputable def mo_plant_j120_44 (x1 : Int) (x2 : Int) (x3 : Int) (x4 : Int) (x5 : Int) (x6 : Int) (s0 : Int) (M : MEM) : Option ((Int × Int × Int × MEM) ⊕ (Int × Int × Int × MEM)) :=
if x4 = (-1) then
mo_plant_j138_44 x1 x2 x3 x6 s0 M
else
if x5 < s0 then
mo_plant_j138_44 x1 x2 x3 x6 s0 M
else
mo_plant_j146_44 x1 x2 x3 x4 x5 x6 M
noncomputable def mo_plant_b44 (x1 : Int) (x2 : Int) (x3 : Int) (x4 : Int) (x5 : Int) (x6 : Int) (M : MEM) : Option ((Int × Int × Int × MEM) ⊕ (Int × Int × Int × MEM)) :=
if 0 ≤ x1 ∧ x1 < 3 then
if (M 280 (x1).toNat) ≤ x6 then
some (.inr (x4, x5, x6, M))
else
(mo_beginThen M).bind fun M17 =>
if 0 ≤ (wr ((wr ((wr (55 * x1)) + 3)) + x6)) ∧ (wr ((wr ((wr (55 * x1)) + 3)) + x6)) < 166 then
if 0 ≤ (wr ((wr ((wr (55 * x1)) + 3)) + x6)) ∧ (wr ((wr ((wr (55 * x1)) + 3)) + x6)) < 166 then
(some (up2 M17 292 ((wr ((wr ((wr (55 * x1)) + 3)) + x6))).toNat (min 9 (wr ((M17 292 ((wr ((wr ((wr (55 * x1)) + 3)) + x6))).toNat) + x2))))).bind fun M19 =>
(mo_findTimes x1 M19).bind fun M22 =>
if x3 ≤ (M22 278 38) then
if 0 ≤ (wr (x3 - 1)) ∧ (wr (x3 - 1)) < 2400 then
mo_plant_j120_44 x1 x2 x3 x4 x5 x6 (wr ((M22 293 ((wr (x3 - 1))).toNat) + 1)) M22
else none
else
mo_plant_j120_44 x1 x2 x3 x4 x5 x6 601 M22
else none
else none
else none
noncomputable def mo_plant_j172 (x4 : Int) (s1 : Int) (M : MEM) : Option (Int × MEM) :=
(mo_tell s1 M).bind fun M31 =>
some (x4, M31)
noncomputable def mo_plant (x1 : Int) (x2 : Int) (x3 : Int) (M : MEM) : Option (Int × MEM) :=
(some (up2 M 278 13 0)).bind fun M1 =>
if (mo_isDonkey x1 M1) = 0 then
some ((-1), M1)
else
if (mo_in x2 1 9) = 0 then
some ((-1), M1)
else
if (mo_in x3 1 60) = 0 then
some ((-1), M1)
else
(iter (fun s => mo_plant_b44 x1 x2 x3 s.1 s.2.1 s.2.2.1 s.2.2.2) FU ((-1), 0, 0, M1)).bind fun w27 =>
(some (up2 w27.2.2.2 278 12 0)).bind fun M28 =>
if w27.2.1 = 601 then
mo_plant_j172 w27.1 (-1) M28
else
mo_plant_j172 w27.1 w27.2.1 M28
noncomputable def mo_keep (x1 : Int) (M : MEM) : Option (Int × MEM) :=
(some (up2 M 278 13 0)).bind fun M1 =>
if (mo_in x1 0 1) = 0 then
some (0, M1)
else
if 0 ≤ x1 ∧ x1 < 2 then
(some (up2 M1 305 (x1).toNat 1)).bind fun M6 =>
if 0 ≤ x1 ∧ x1 < 2 then
(some (up2 M6 306 (x1).toNat (M6 278 51))).bind fun M8 =>
(mo_layAll 304 (wr (207 * x1)) M8).bind fun M11 =>
some (1, M11)
else none
else none
noncomputable def mo_again_b40 (x1 : Int) (x2 : Int) (M : MEM) : Option ((Int × MEM) ⊕ (Int × MEM)) :=
if 166 ≤ x2 then
some (.inr (x2, M))
else
if 0 ≤ (wr ((wr (207 * x1)) + x2)) ∧ (wr ((wr (207 * x1)) + x2)) < 414 then
if 0 ≤ x2 ∧ x2 < 166 then
(some (up2 M 279 (x2).toNat (M 304 ((wr ((wr (207 * x1)) + x2))).toNat))).bind fun M12 =>
some (.inl ((wr (x2 + 1)), M12))
else none
else none
noncomputable def mo_again (x1 : Int) (M : MEM) : Option (Int × MEM) :=
(some (up2 M 278 13 0)).bind fun M1 =>
if (mo_in x1 0 1) = 0 then
some (0, M1)
else
if 0 ≤ x1 ∧ x1 < 2 then
if (M1 305 (x1).toNat) = 0 then
some (0, M1)
else
if 0 ≤ x1 ∧ x1 < 2 then
if (M1 306 (x1).toNat) = (M1 278 51) then
(iter (fun s => mo_again_b40 x1 s.1 s.2) FU (0, M1)).bind fun w14 =>
(mo_takeCarrots 304 (wr (207 * x1)) w14.2).bind fun M16 =>
(some (up2 M16 278 31 0)).bind fun M17 =>
some (1, M17)
else
some (0, M1)
else none
else none
noncomputable def mo_count_b90  (x2 : Int) (x3 : Int) (M : MEM) : Option ((Int × Int) ⊕ (Int × Int)) :=
if (M 278 1) ≤ x3 then
some (.inr (x2, x3))
else
(mo_strokes x3 M).bind fun r9 =>
some (.inl ((wr (x2 + r9)), (wr (x3 + 1))))
noncomputable def mo_count_b116  (x2 : Int) (x3 : Int) (M : MEM) : Option ((Int × Int) ⊕ (Int × Int)) :=
if (M 278 1) ≤ x3 then
some (.inr (x2, x3))
else
(mo_allThistles 279 x3 M).bind fun r16 =>
some (.inl ((wr (x2 + r16)), (wr (x3 + 1))))
noncomputable def mo_count (x1 : Int) (M : MEM) : Option (Int × MEM) :=
(some (up2 M 278 13 0)).bind fun M1 =>
if x1 = 0 then
some ((M1 278 1), M1)
else
if x1 = 1 then
some ((M1 279 165), M1)
else
if x1 = 2 then
some ((M1 278 7), M1)
else
if x1 = 3 then
some ((M1 278 41), M1)
else
if x1 = 4 then
(iter (fun s => mo_count_b90  s.1 s.2 M1) FU (0, 0)).bind fun w12 =>
some (w12.1, M1)
else
if x1 = 5 then
(iter (fun s => mo_count_b116  s.1 s.2 M1) FU (0, 0)).bind fun w19 =>
some (w19.1, M1)
else
if x1 = 6 then
some ((M1 278 31), M1)
else
if x1 = 7 then
some ((M1 278 49), M1)
else
if x1 = 8 then
some ((M1 278 12), M1)
else
if x1 = 9 then
some ((M1 278 10), M1)
else
some ((-1), M1)
noncomputable def mo_row (x1 : Int) (M : MEM) : Option (Int × MEM) :=
(some (up2 M 278 13 0)).bind fun M1 =>
if (mo_in x1 0 (wr ((M1 278 12) - 1))) = 0 then
(mo_lost M1).bind fun p7 =>
some (p7.1, p7.2)
else
if 0 ≤ x1 ∧ x1 < 16 then
some ((M1 284 (x1).toNat), M1)
else none
end
section
-- ===== plain facts of the functions' world =====
theorem up2_at (M : MEM) (a k : Nat) (x : Int) (a' k' : Nat) : up2 M a k x a' k' = if a' = a ∧ k' = k then x else M a' k' := rfl
theorem up2_ne {M : MEM} {a k : Nat} {x : Int} {a' : Nat} (h : a' ≠ a) : up2 M a k x a' = M a' := up2_off h
theorem cpy_at (M : MEM) (a b n a' k : Nat) : cpy M a b n a' k = if a' = b ∧ k < n then M a k else M a' k := rfl
theorem cpy_ne {M : MEM} {a b n a' : Nat} (h : a' ≠ b) : cpy M a b n a' = M a' := by
  funext k
  simp [cpy, h]
theorem iter_traj {σ ε : Type} {body : σ → Option (σ ⊕ ε)} {e : ε} (st : Nat → σ) : ∀ (N : Nat), (∀ k, k < N → body (st k) = some (.inl (st (k + 1)))) → body (st N) = some (.inr e) → ∀ n, N < n → iter body n (st 0) = some e := by
  have go : ∀ (d N i : Nat), N = i + d → (∀ k, k < N → body (st k) = some (.inl (st (k + 1)))) → body (st N) = some (.inr e) → ∀ n, d < n → iter body n (st i) = some e := by
    intro d
    induction d with
    | zero =>
      intro N i hi hs he n hn
      obtain ⟨n, rfl⟩ : ∃ m, n = m + 1 := ⟨n - 1, by omega⟩
      have : N = i := by omega
      subst this
      simp [iter, he]
    | succ d ih =>
      intro N i hi hs he n hn
      obtain ⟨n, rfl⟩ : ∃ m, n = m + 1 := ⟨n - 1, by omega⟩
      simp only [iter, hs i (by omega), Option.bind_some, Sum.elim_inl]
      exact ih N (i + 1) (by omega) hs he n (by omega)
  intro N hs he n hn
  exact go N N 0 (by omega) hs he n hn
/-- a loop by its invariant: N turns at most, I i before turn i; it may end early -/
theorem iter_inv {σ ε : Type} {body : σ → Option (σ ⊕ ε)} (I : Nat → σ → Prop) (E : ε → Prop) (N : Nat) (hs : ∀ i s, i < N → I i s → (∃ s', body s = some (.inl s') ∧ I (i + 1) s') ∨ ∃ e, body s = some (.inr e) ∧ E e) (he : ∀ s, I N s → ∃ e, body s = some (.inr e) ∧ E e) : ∀ (n i : Nat) (s : σ), i ≤ N → I i s → N - i < n → ∃ e, iter body n s = some e ∧ E e := by
  intro n
  induction n with
  | zero => intro i s _ _ h; omega
  | succ n ih =>
    intro i s hi hI hn
    by_cases h : i < N
    · rcases hs i s h hI with ⟨s', e1, h1⟩ | ⟨e, e1, h1⟩
      · obtain ⟨e, q1, q2⟩ := ih (i + 1) s' (by omega) h1 (by omega)
        exact ⟨e, by simp [iter, e1, q1], q2⟩
      · exact ⟨e, by simp [iter, e1], h1⟩
    · have : i = N := by omega
      subst this
      obtain ⟨e, e1, h1⟩ := he s hI
      exact ⟨e, by simp [iter, e1], h1⟩
theorem loop_inv {σ ε : Type} {body : σ → Option (σ ⊕ ε)} {s : σ} (I : Nat → σ → Prop) (E : ε → Prop) (N : Nat) (h0 : I 0 s) (hN : N < 1000000) (hs : ∀ i s, i < N → I i s → (∃ s', body s = some (.inl s') ∧ I (i + 1) s') ∨ ∃ e, body s = some (.inr e) ∧ E e) (he : ∀ s, I N s → ∃ e, body s = some (.inr e) ∧ E e) : ∃ e, iter body FU s = some e ∧ E e :=
  iter_inv I E N hs he FU 0 s (Nat.zero_le _) h0 (by unfold FU; omega)
/-- a loop whose states are told one by one -/
theorem loop_traj {σ ε : Type} {body : σ → Option (σ ⊕ ε)} {e : ε} (st : Nat → σ) (N : Nat) (hN : N < 1000000) (hs : ∀ k, k < N → body (st k) = some (.inl (st (k + 1)))) (he : body (st N) = some (.inr e)) : iter body FU (st 0) = some e :=
  iter_traj st N hs he FU (by unfold FU; omega)
theorem ish_xor_neg {x y : Int} (hx : InR x) (hy : InR y) : (0 ≤ ish i_xor x y) ↔ ((x < 0) ↔ (y < 0)) := by
  have hm : ∀ z : Int32, z.toBitVec.msb = decide (z.toInt < 0) := fun z => by
    rw [BitVec.msb_eq_toInt, Int32.toInt_toBitVec]
  have h2 : (Int32.ofInt x ^^^ Int32.ofInt y).toBitVec.msb = ((Int32.ofInt x).toBitVec.msb ^^ (Int32.ofInt y).toBitVec.msb) := by
    rw [Int32.toBitVec_xor, BitVec.msb_xor]
  rw [hm, hm, hm, iI_toInt hx, iI_toInt hy] at h2
  have h3 : ish i_xor x y = (Int32.ofInt x ^^^ Int32.ofInt y).toInt := ish_def _ _ _
  rw [h3]
  generalize (Int32.ofInt x ^^^ Int32.ofInt y).toInt = q at h2
  by_cases hx0 : x < 0 <;> by_cases hy0 : y < 0 <;> simp [hx0, hy0] at h2 ⊢ <;> omega
theorem floorMod_eq {x y : Int} (hx : InR x) (hy : 0 < y) (hy2 : y < 2147483648) : jm_floorMod x y = some (x % y) := by
  have hyI : InR y := by unfold InR; omega
  unfold jm_floorMod
  rw [if_neg (by omega)]
  by_cases h : x < 0
  · rw [if_neg (by rw [ish_xor_neg hx hyI]; omega)]
    have e : x.tmod y = if x % y = 0 then 0 else x % y - y := by
      have h1 := Int.emod_nonneg x (show y ≠ 0 by omega)
      have h2 := Int.emod_lt_of_pos x hy
      rw [Int.tmod_eq_emod]
      by_cases hd : y ∣ x
      · have : x % y = 0 := Int.emod_eq_zero_of_dvd hd
        simp [this, hd]
      · have hne : x % y ≠ 0 := fun q => hd (Int.dvd_of_emod_eq_zero q)
        rw [if_neg hne, if_neg (by rintro (q | q); omega; exact hd q)]
        omega
    have h1 := Int.emod_nonneg x (show y ≠ 0 by omega)
    have h2 := Int.emod_lt_of_pos x hy
    by_cases h0 : x % y = 0
    · rw [e, if_pos h0, if_pos rfl, h0]
    · rw [e, if_neg h0, if_neg (by omega), wr_id (by unfold InR; omega)]
      congr 1
      omega
  · rw [if_pos (by rw [ish_xor_neg hx hyI]; omega), Int.tmod_eq_emod_of_nonneg (by omega)]
theorem tmod_nn {x y : Int} (h : 0 ≤ x) : x.tmod y = x % y := Int.tmod_eq_emod_of_nonneg h
theorem iter_exit {σ ε : Type} {body : σ → Option (σ ⊕ ε)} {s : σ} {e : ε} (h : body s = some (.inr e)) : iter body FU s = some e := loop_traj (fun _ => s) 0 (by omega) (fun k hk => by omega) h
theorem rd_same {M : MEM} {a k : Nat} {x : Int} : up2 M a k x a k = x := by simp [up2]
theorem rd_k {M : MEM} {a k a' k' : Nat} {x : Int} (h : k' ≠ k) : up2 M a k x a' k' = M a' k' := by simp [up2, h]
theorem rd_a {M : MEM} {a k a' k' : Nat} {x : Int} (h : a' ≠ a) : up2 M a k x a' k' = M a' k' := by simp [up2, h]
theorem wr_i {x : Int} (h1 : -2147483648 ≤ x) (h2 : x < 2147483648) : wr x = x := wr_id ⟨h1, h2⟩
theorem toNat_c (n : Nat) : ((n : Int)).toNat = n := by omega
end
section
-- ===== one DONKEY's minute =====
/-- place, hunger, strokes, thistles -/
abbrev DS := Int × Int × Int × (Nat → Int)
def oneD (n : Int) (s : DS) : DS × Bool :=
  let p := if s.1 + 1 < n then s.1 + 1 else 0
  let h := if p = 0 then min 9 (s.2.1 + 1) else s.2.1
  let k := if p = 0 then s.2.2.1 + 1 else s.2.2.1
  if 0 < s.2.2.2 p.toNat then ((p, max 0 (h - 2), k, up1 s.2.2.2 p.toNat (s.2.2.2 p.toNat - 1)), true) else ((p, h, k, s.2.2.2), false)
/-- so many steps, till a thistle is eaten -/
def walkD (n : Int) : Nat → DS → DS × Bool
  | 0, s => (s, false)
  | j + 1, s => if (oneD n s).2 = true then oneD n s else walkD n j (oneD n s).1
def okD (n : Int) (s : DS) : Prop := 4 ≤ n ∧ n ≤ 12 ∧ 0 ≤ s.1 ∧ s.1 < n ∧ 0 ≤ s.2.1 ∧ s.2.1 ≤ 9 ∧ 0 ≤ s.2.2.1 ∧ s.2.2.1 < 1073741824 ∧ ∀ p : Nat, (p : Int) < n → 0 ≤ s.2.2.2 p ∧ s.2.2.2 p ≤ 9
/-- the same but for places that are not there -/
def eqD (n : Int) (s t : DS) : Prop := s.1 = t.1 ∧ s.2.1 = t.2.1 ∧ s.2.2.1 = t.2.2.1 ∧ ∀ p : Nat, (p : Int) < n → s.2.2.2 p = t.2.2.2 p
def nxt (n p : Int) : Int := if p + 1 < n then p + 1 else 0
theorem oneD_def (n : Int) (s : DS) : oneD n s = if 0 < s.2.2.2 (nxt n s.1).toNat then
    ((nxt n s.1, max 0 ((if nxt n s.1 = 0 then min 9 (s.2.1 + 1) else s.2.1) - 2), (if nxt n s.1 = 0 then s.2.2.1 + 1 else s.2.2.1), up1 s.2.2.2 (nxt n s.1).toNat (s.2.2.2 (nxt n s.1).toNat - 1)), true)
    else ((nxt n s.1, (if nxt n s.1 = 0 then min 9 (s.2.1 + 1) else s.2.1), (if nxt n s.1 = 0 then s.2.2.1 + 1 else s.2.2.1), s.2.2.2), false) := rfl
theorem nxt_in {n p : Int} (hn : 0 < n) (h0 : 0 ≤ p) : 0 ≤ nxt n p ∧ nxt n p < n := by unfold nxt; split <;> omega
theorem oneD_place (n : Int) (s : DS) : (oneD n s).1.1 = nxt n s.1 := by
  rw [oneD_def]
  by_cases h : 0 < s.2.2.2 (nxt n s.1).toNat
  · rw [if_pos h]
  · rw [if_neg h]
theorem oneD_hunger (n : Int) (s : DS) : (oneD n s).1.2.1 = if 0 < s.2.2.2 (nxt n s.1).toNat then max 0 ((if nxt n s.1 = 0 then min 9 (s.2.1 + 1) else s.2.1) - 2) else (if nxt n s.1 = 0 then min 9 (s.2.1 + 1) else s.2.1) := by
  rw [oneD_def]
  by_cases h : 0 < s.2.2.2 (nxt n s.1).toNat
  · rw [if_pos h, if_pos h]
  · rw [if_neg h, if_neg h]
theorem oneD_strokes (n : Int) (s : DS) : (oneD n s).1.2.2.1 = if nxt n s.1 = 0 then s.2.2.1 + 1 else s.2.2.1 := by
  rw [oneD_def]
  by_cases h : 0 < s.2.2.2 (nxt n s.1).toNat
  · rw [if_pos h]
  · rw [if_neg h]
theorem oneD_th (n : Int) (s : DS) : (oneD n s).1.2.2.2 = if 0 < s.2.2.2 (nxt n s.1).toNat then up1 s.2.2.2 (nxt n s.1).toNat (s.2.2.2 (nxt n s.1).toNat - 1) else s.2.2.2 := by
  rw [oneD_def]
  by_cases h : 0 < s.2.2.2 (nxt n s.1).toNat
  · rw [if_pos h, if_pos h]
  · rw [if_neg h, if_neg h]
theorem oneD_ate (n : Int) (s : DS) : (oneD n s).2 = decide (0 < s.2.2.2 (nxt n s.1).toNat) := by
  rw [oneD_def]
  by_cases h : 0 < s.2.2.2 (nxt n s.1).toNat
  · rw [if_pos h]; simp [h]
  · rw [if_neg h]; simp [h]
theorem up1_at (f : Nat → Int) (k : Nat) (x : Int) (j : Nat) : up1 f k x j = if j = k then x else f j := rfl
theorem oneD_ok {n : Int} {s : DS} (h : okD n s) (hk : s.2.2.1 + 1 < 1073741824) : okD n (oneD n s).1 := by
  obtain ⟨h1, h2, h3, h4, h5, h6, h7, h8, h9⟩ := h
  have hq := nxt_in (n := n) (p := s.1) (by omega) h3
  refine ⟨h1, h2, ?_, ?_, ?_, ?_, ?_, ?_, fun p hp => ?_⟩
  · rw [oneD_place]; exact hq.1
  · rw [oneD_place]; exact hq.2
  · rw [oneD_hunger]
    have : 0 ≤ (if nxt n s.1 = 0 then min 9 (s.2.1 + 1) else s.2.1) := by split <;> omega
    split <;> omega
  · rw [oneD_hunger]
    have : (if nxt n s.1 = 0 then min 9 (s.2.1 + 1) else s.2.1) ≤ 9 := by split <;> omega
    split <;> omega
  · rw [oneD_strokes]; split <;> omega
  · rw [oneD_strokes]; split <;> omega
  · rw [oneD_th]
    have h0 := h9 p hp
    by_cases hc : 0 < s.2.2.2 (nxt n s.1).toNat
    · rw [if_pos hc, up1_at]
      by_cases e : p = (nxt n s.1).toNat
      · subst e
        rw [if_pos rfl]
        omega
      · rw [if_neg e]; exact h0
    · rw [if_neg hc]; exact h0
theorem oneD_congr {n : Int} {s t : DS} (hn : 0 < n) (hs : 0 ≤ s.1) (h : eqD n s t) : eqD n (oneD n s).1 (oneD n t).1 ∧ (oneD n s).2 = (oneD n t).2 := by
  obtain ⟨h1, h2, h3, h4⟩ := h
  have hq := nxt_in (n := n) (p := s.1) hn hs
  have e : s.2.2.2 (nxt n s.1).toNat = t.2.2.2 (nxt n s.1).toNat := h4 _ (by omega)
  refine ⟨⟨?_, ?_, ?_, fun p hp => ?_⟩, ?_⟩
  · rw [oneD_place, oneD_place, h1]
  · rw [oneD_hunger, oneD_hunger, ← h1, ← h2, e]
  · rw [oneD_strokes, oneD_strokes, ← h1, ← h3]
  · rw [oneD_th, oneD_th, ← h1, e]
    split
    · rw [up1_at, up1_at]
      split
      · rfl
      · exact h4 p hp
    · exact h4 p hp
  · rw [oneD_ate, oneD_ate, ← h1, e]
theorem walkD_S (n : Int) (j : Nat) (s : DS) : walkD n (j + 1) s = if (oneD n s).2 = true then oneD n s else walkD n j (oneD n s).1 := rfl
theorem walkD_congr {n : Int} (hn : 0 < n) : ∀ (j : Nat) {s t : DS}, 0 ≤ s.1 → eqD n s t → eqD n (walkD n j s).1 (walkD n j t).1 ∧ (walkD n j s).2 = (walkD n j t).2 := by
  intro j
  induction j with
  | zero => intro s t _ h; exact ⟨h, rfl⟩
  | succ j ih =>
    intro s t hs h
    have h1 := oneD_congr hn hs h
    rw [walkD_S, walkD_S, ← h1.2]
    split
    · exact h1
    · exact ih (by rw [oneD_place]; exact (nxt_in hn hs).1) h1.1
/-- in n steps at most, one STROKE at most; none, if PLACE 0 isn't reached -/
theorem walkD_strokes {n : Int} (hn : 0 < n) : ∀ (j : Nat) (s : DS), 0 ≤ s.1 → s.1 < n → (j : Int) ≤ n → ((walkD n j s).1.2.2.1 = s.2.2.1 ∨ ((walkD n j s).1.2.2.1 = s.2.2.1 + 1 ∧ n ≤ s.1 + j)) := by
  intro j
  induction j with
  | zero => intro s _ _ _; exact Or.inl rfl
  | succ j ih =>
    intro s h0 h1 hj
    have hp := oneD_place n s
    have hs := oneD_strokes n s
    have hq := nxt_in (n := n) (p := s.1) hn h0
    have hnx : (nxt n s.1 = 0 ∧ n ≤ s.1 + 1) ∨ (nxt n s.1 = s.1 + 1 ∧ s.1 + 1 < n) := by
      unfold nxt
      by_cases h : s.1 + 1 < n
      · rw [if_pos h]; exact Or.inr ⟨rfl, h⟩
      · rw [if_neg h]; exact Or.inl ⟨rfl, by omega⟩
    rw [walkD_S]
    split
    · rcases hnx with ⟨e, h⟩ | ⟨e, h⟩
      · rw [hs, if_pos e]; right; omega
      · rw [hs, if_neg (by omega)]; left; rfl
    · have h2 := ih (oneD n s).1 (by rw [hp]; exact hq.1) (by rw [hp]; exact hq.2) (by omega)
      rw [hp, hs] at h2
      rcases hnx with ⟨e, h⟩ | ⟨e, h⟩
      · rw [if_pos e, e] at h2
        rcases h2 with h2 | ⟨h2, h3⟩
        · right; omega
        · omega
      · rw [if_neg (by omega)] at h2
        rcases h2 with h2 | ⟨h2, h3⟩
        · left; exact h2
        · right; omega
theorem walkD_ok {n : Int} : ∀ (j : Nat) (s : DS), okD n s → s.2.2.1 + j < 1073741824 → okD n (walkD n j s).1 := by
  intro j
  induction j with
  | zero => intro s h _; exact h
  | succ j ih =>
    intro s h hk
    have h1 := oneD_ok h (by omega)
    rw [walkD_S]
    split
    · exact h1
    · refine ih _ h1 ?_
      have := oneD_strokes n s
      rw [this]
      split <;> omega
end
section
-- ===== the class's walk is walkD =====
def dsC (b : Nat) (M : MEM) : DS := (M b 3, M b 4, M b 5, M (b + 1))
def flg (did k : Int) (r : DS × Bool) : Int := (if did = 1 ∨ r.1.2.2.1 ≠ k then 1 else 0) + (if r.2 = true then 2 else 0)
theorem ish_c1 : ish i_and 0 2 = 0 ∧ ish i_and 1 2 = 0 ∧ ish i_and 2 2 = 2 ∧ ish i_and 3 2 = 2 ∧ ish i_or 0 1 = 1 ∧ ish i_or 1 1 = 1 ∧ ish i_or 0 2 = 2 ∧ ish i_or 1 2 = 3 := by
  simp only [ish_def]
  decide
/-- what a donkey's cells alone have changed -/
def offB (b : Nat) (M M1 : MEM) : Prop := (∀ c, c ≠ b → c ≠ b + 1 → M1 c = M c) ∧ ∀ k, k ≠ 3 → k ≠ 4 → k ≠ 5 → M1 b k = M b k
theorem offB.rf {b : Nat} {M : MEM} : offB b M M := ⟨fun _ _ _ => rfl, fun _ _ _ _ => rfl⟩
theorem offB.tr {b : Nat} {M M1 M2 : MEM} (h : offB b M M1) (h2 : offB b M1 M2) : offB b M M2 := ⟨fun c x y => (h2.1 c x y).trans (h.1 c x y), fun k x y z => (h2.2 k x y z).trans (h.2 k x y z)⟩
set_option maxHeartbeats 4000000 in
theorem be_step {b : Nat} {n pace did i : Int} {M : MEM} (hn : M b 2 = n) (hd : okD n (dsC b M)) (hk : M b 5 + 1 < 1073741824) (hi : 0 ≤ i) (hip : i < pace) (hp : pace ≤ 4) (hdid : did = 0 ∨ did = 1) :
    ∃ M1, be_walk_b13 b pace did i M = some (.inl (flg did (M b 5) (oneD n (dsC b M)), i + 1, M1)) ∧ dsC b M1 = (oneD n (dsC b M)).1 ∧ M1 b 2 = n ∧ offB b M M1 := by
  obtain ⟨d1, d2, d3, d4, d5, d6, d7, d8, d9⟩ := hd
  simp only [dsC] at d3 d4 d5 d6 d7 d8 d9
  have w1 : wr (M b 3 + 1) = M b 3 + 1 := wr_id (by unfold InR; omega)
  have w2 : wr (M b 5 + 1) = M b 5 + 1 := wr_id (by unfold InR; omega)
  have w3 : wr (M b 4 + 1) = M b 4 + 1 := wr_id (by unfold InR; omega)
  have w4 : wr (i + 1) = i + 1 := wr_id (by unfold InR; omega)
  have w5 : wr (M b 4 - 2) = M b 4 - 2 := wr_id (by unfold InR; omega)
  have w6 : wr (min 9 (M b 4 + 1) - 2) = min 9 (M b 4 + 1) - 2 := wr_id (by unfold InR; omega)
  have hand : ish i_and did 2 = 0 := by rcases hdid with rfl | rfl; exact ish_c1.1; exact ish_c1.2.1
  have o1 : ish i_or did 1 = 1 := by rcases hdid with rfl | rfl; exact ish_c1.2.2.2.2.1; exact ish_c1.2.2.2.2.2.1
  have o2 : ish i_or did 2 = did + 2 := by rcases hdid with rfl | rfl; exact ish_c1.2.2.2.2.2.2.1; exact ish_c1.2.2.2.2.2.2.2
  have o3 : ish i_or 1 2 = 3 := ish_c1.2.2.2.2.2.2.2
  have hdf : (if did = 1 then (1 : Int) else 0) = did := by rcases hdid with rfl | rfl <;> rfl
  have c1 : ¬ pace ≤ i := by omega
  have hne : ¬ (M b 5 + 1 = M b 5) := by omega
  rw [oneD_def]
  simp only [dsC, nxt, flg, be_walk_b13, be_walk_j48_13, be_walk_j87_13, be_walk_j132_13, hand, c1, if_false, if_true, w1, hn]
  by_cases h1 : M b 3 + 1 < n
  · have h1' : ¬ n ≤ M b 3 + 1 := by omega
    have h0 : ¬ M b 3 + 1 = 0 := by omega
    have hlt : ¬ (M b 3 + 1 < 0) := by omega
    have hlt2 : ¬ (12 ≤ M b 3 + 1) := by omega
    have hlt3 : 0 ≤ M b 3 + 1 ∧ M b 3 + 1 < 12 := by omega
    by_cases h2 : 0 < M (b + 1) (M b 3 + 1).toNat
    · have h2' : ¬ (M (b + 1) (M b 3 + 1).toNat ≤ 0) := by omega
      have w7 : wr (M (b + 1) (M b 3 + 1).toNat - 1) = M (b + 1) (M b 3 + 1).toNat - 1 := wr_id (by have := d9 (M b 3 + 1).toNat (by omega); unfold InR; omega)
      refine ⟨up2 (up2 (up2 M b 3 (M b 3 + 1)) (b + 1) (M b 3 + 1).toNat (M (b + 1) (M b 3 + 1).toNat - 1)) b 4 (max 0 (M b 4 - 2)), ?_, ?_, ?_, fun c hc1 hc2 => ?_, fun k k3 k4 k5 => ?_⟩
      · simp [up2, h1, h1', h0, hlt, hlt2, hlt3, h2, h2', be_thistlesOn, be_put, w4, w5, w7, o2, hdf]
      · simp [up2, h1, h0, h2, h2']
        funext j; simp [up2, up1]
      · simp [up2, hn]
      · funext j; simp [up2, hc1, hc2]
      · simp [up2, k3, k4]
    · have h2' : M (b + 1) (M b 3 + 1).toNat ≤ 0 := by omega
      refine ⟨up2 M b 3 (M b 3 + 1), ?_, ?_, ?_, fun c hc1 hc2 => ?_, fun k k3 k4 k5 => ?_⟩
      · simp [up2, h1, h1', h0, hlt, hlt2, hlt3, h2, h2', be_thistlesOn, be_put, w4, hdf]
      · simp [up2, h1, h0, h2, h2']
        funext j; simp [up2]
      · simp [up2, hn]
      · funext j; simp [up2, hc1, hc2]
      · simp [up2, k3, k4]
  · have h1' : n ≤ M b 3 + 1 := by omega
    by_cases h2 : 0 < M (b + 1) 0
    · have h2' : ¬ (M (b + 1) 0 ≤ 0) := by omega
      have w7 : wr (M (b + 1) 0 - 1) = M (b + 1) 0 - 1 := wr_id (by have := d9 0 (by omega); unfold InR; omega)
      refine ⟨up2 (up2 (up2 (up2 (up2 M b 3 0) b 5 (M b 5 + 1)) b 4 (min 9 (M b 4 + 1))) (b + 1) 0 (M (b + 1) 0 - 1)) b 4 (max 0 (min 9 (M b 4 + 1) - 2)), ?_, ?_, ?_, fun c hc1 hc2 => ?_, fun k k3 k4 k5 => ?_⟩
      · simp [up2, h1, h1', h2, h2', be_thistlesOn, be_put, w2, w3, w4, w6, w7, o1, o3, hdf, hne]
      · simp [up2, h1, h2, h2']
        funext j; simp [up2, up1]
      · simp [up2, hn]
      · funext j; simp [up2, hc1, hc2]
      · simp [up2, k3, k4, k5]
    · have h2' : M (b + 1) 0 ≤ 0 := by omega
      refine ⟨up2 (up2 (up2 M b 3 0) b 5 (M b 5 + 1)) b 4 (min 9 (M b 4 + 1)), ?_, ?_, ?_, fun c hc1 hc2 => ?_, fun k k3 k4 k5 => ?_⟩
      · simp [up2, h1, h1', h2, h2', be_thistlesOn, be_put, w2, w3, w4, o1, hdf, hne]
      · simp [up2, h1, h2, h2']
        funext j; simp [up2]
      · simp [up2, hn]
      · funext j; simp [up2, hc1, hc2]
      · simp [up2, k3, k4, k5]
theorem walkD_one {n : Int} {j : Nat} {s : DS} (h : (oneD n s).2 = true) : walkD n (j + 1) s = oneD n s := by rw [walkD_S, if_pos h]
theorem walkD_two {n : Int} {j : Nat} {s : DS} (h : (oneD n s).2 = false) : walkD n (j + 1) s = walkD n j (oneD n s).1 := by rw [walkD_S, if_neg (by rw [h]; decide)]
theorem walkD_mono {n : Int} : ∀ (j : Nat) (s : DS), s.2.2.1 ≤ (walkD n j s).1.2.2.1 := by
  intro j
  induction j with
  | zero => intro s; exact Int.le_refl _
  | succ j ih =>
    intro s
    have h := oneD_strokes n s
    have h2 : s.2.2.1 ≤ (oneD n s).1.2.2.1 := by rw [h]; split <;> omega
    rw [walkD_S]
    split
    · exact h2
    · exact Int.le_trans h2 (ih _)
/-- the loop of the class's walk, from any turn on -/
theorem be_loop {b : Nat} {n pace : Int} (hp : pace ≤ 4) : ∀ (j fu : Nat) (did i : Int) (M : MEM), i + j = pace → 0 ≤ i → j < fu → M b 2 = n → okD n (dsC b M) → M b 5 + j < 1073741824 → (did = 0 ∨ did = 1) →
    ∃ i' M', iter (fun s => be_walk_b13 b pace s.1 s.2.1 s.2.2) fu (did, i, M) = some (flg did (M b 5) (walkD n j (dsC b M)), i', M') ∧ dsC b M' = (walkD n j (dsC b M)).1 ∧ M' b 2 = n ∧ offB b M M' := by
  intro j
  induction j with
  | zero =>
    intro fu did i M hij hi hfu hn hd hk hdid
    obtain ⟨fu, rfl⟩ : ∃ f, fu = f + 1 := ⟨fu - 1, by omega⟩
    refine ⟨i, M, ?_, rfl, hn, offB.rf⟩
    have e : flg did (M b 5) (walkD n 0 (dsC b M)) = did := by
      rcases hdid with rfl | rfl <;> simp [flg, walkD, dsC]
    rw [e]
    simp [iter, be_walk_b13, show pace ≤ i by omega]
  | succ j ih =>
    intro fu did i M hij hi hfu hn hd hk hdid
    obtain ⟨fu, rfl⟩ : ∃ f, fu = f + 1 := ⟨fu - 1, by omega⟩
    obtain ⟨M1, e1, d1, n1, o1⟩ := be_step hn hd (by omega) hi (by omega) hp hdid
    have hs1 : M1 b 5 = (oneD n (dsC b M)).1.2.2.1 := by rw [← d1]; rfl
    have hst := oneD_strokes n (dsC b M)
    have hk5 : (dsC b M).2.2.1 = M b 5 := rfl
    rw [hk5] at hst
    have hstb : (oneD n (dsC b M)).1.2.2.1 = M b 5 ∨ (oneD n (dsC b M)).1.2.2.1 = M b 5 + 1 := by rw [hst]; split <;> omega
    simp only [iter, e1, Option.bind_some, Sum.elim_inl]
    cases ha : (oneD n (dsC b M)).2 with
    | true =>
      rw [walkD_one ha]
      have hfl : flg did (M b 5) (oneD n (dsC b M)) = 2 ∨ flg did (M b 5) (oneD n (dsC b M)) = 3 := by
        unfold flg
        rw [ha]
        split <;> simp
      have hand : ¬ ish i_and (flg did (M b 5) (oneD n (dsC b M))) 2 = 0 := by
        rcases hfl with h | h <;> rw [h]
        · rw [ish_c1.2.2.1]; decide
        · rw [ish_c1.2.2.2.1]; decide
      obtain ⟨fu, rfl⟩ : ∃ f, fu = f + 1 := ⟨fu - 1, by omega⟩
      refine ⟨i + 1, M1, ?_, d1, n1, o1⟩
      by_cases hc : pace ≤ i + 1
      · simp [iter, be_walk_b13, hc]
      · simp [iter, be_walk_b13, hc, hand]
    | false =>
      rw [walkD_two ha]
      have hok1 : okD n (dsC b M1) := by
        rw [d1]
        exact oneD_ok hd (by rw [hk5]; omega)
      obtain ⟨i', M', e2, d2, n2, o2⟩ := ih fu (flg did (M b 5) (oneD n (dsC b M))) (i + 1) M1 (by omega) (by omega) (by omega) n1 hok1 (by omega) (by
        unfold flg
        rw [ha]
        split <;> simp)
      refine ⟨i', M', ?_, ?_, n2, o1.tr o2⟩
      · rw [e2]
        congr 2
        have hm := walkD_mono (n := n) j (oneD n (dsC b M)).1
        unfold flg
        rw [d1, hs1, ha]
        simp only [Bool.false_eq_true, if_false, Int.add_zero]
        congr 1
        rcases hdid with rfl | rfl
        · rcases hstb with h | h
          · simp [h]
          · have h1 : ¬ (oneD n (dsC b M)).1.2.2.1 = M b 5 := by omega
            have h2 : ¬ (walkD n j (oneD n (dsC b M)).1).1.2.2.1 = M b 5 := by omega
            simp [h1, h2]
        · simp
      · rw [d2, d1]
def didD (k : Int) (pace : Int) (r : DS × Bool) : Int := if pace < 1 then 4 else flg 0 k r
theorem be_walk_eq {b : Nat} {n pace : Int} {M : MEM} (hp0 : 0 ≤ pace) (hp : pace ≤ 4) (hn : M b 2 = n) (hd : okD n (dsC b M)) (hk : M b 5 + 4 < 1073741824) :
    ∃ M', be_walk b pace M = some (didD (M b 5) pace (walkD n pace.toNat (dsC b M)), M') ∧ dsC b M' = (walkD n pace.toNat (dsC b M)).1 ∧ M' b 2 = n ∧ offB b M M' := by
  by_cases h : 1 ≤ pace
  · obtain ⟨i', M', e, d, n', o⟩ := be_loop (n := n) hp pace.toNat FU 0 0 M (by omega) (by omega) (by unfold FU; omega) hn hd (by omega) (Or.inl rfl)
    refine ⟨M', ?_, d, n', o⟩
    simp [be_walk, be_walk_j10, h, e, didD, show ¬ pace < 1 by omega]
  · have h0 : pace = 0 := by omega
    subst h0
    refine ⟨M, ?_, rfl, hn, offB.rf⟩
    have h1 : iter (fun s => be_walk_b13 b 0 s.1 s.2.1 s.2.2) FU (4, 0, M) = some (4, 0, M) := by
      apply iter_exit
      show be_walk_b13 b 0 4 0 M = _
      unfold be_walk_b13
      rw [if_pos (Int.le_refl 0)]
    have e1 : be_walk b 0 M = be_walk_j10 b 0 4 M := by
      unfold be_walk
      rw [if_neg h]
    have e2 : didD (M b 5) 0 (walkD n (Int.toNat 0) (dsC b M)) = 4 := by
      unfold didD
      rw [if_pos (by omega)]
    rw [e1, e2]
    unfold be_walk_j10
    rw [h1]
    rfl
end
section
-- ===== the model's steps are walkD =====
def dsM (a o : Nat) (M : MEM) : DS := (M a (o + 1), M a o, M a (o + 2), fun p => M a (o + 3 + p))
theorem mod40 (k : Int) (h : 0 ≤ k) : k.tmod 40 = k % 40 := tmod_nn h
/-- what one turn of the model's steps leaves: the donkey's row, its strokes, who ate, where -/
def offM (a o : Nat) (d : Int) (M M1 : MEM) : Prop :=
  (∀ c, c ≠ a → c ≠ 278 → c ≠ 287 → M1 c = M c) ∧ (∀ k, (k < o ∨ o + 55 ≤ k) → M1 a k = M a k) ∧ (∀ k, k ≠ 26 → k ≠ 28 → M1 278 k = M 278 k) ∧ (∀ k, k ≠ d.toNat → M1 287 k = M 287 k)
theorem offM.tr {a o : Nat} {d : Int} {M M1 M2 : MEM} (h : offM a o d M M1) (h2 : offM a o d M1 M2) : offM a o d M M2 :=
  ⟨fun c x y z => (h2.1 c x y z).trans (h.1 c x y z), fun k x => (h2.2.1 k x).trans (h.2.1 k x), fun k x y => (h2.2.2.1 k x y).trans (h.2.2.1 k x y), fun k x => (h2.2.2.2 k x).trans (h.2.2.2 k x)⟩
theorem offM.rf {a o : Nat} {d : Int} {M : MEM} : offM a o d M M := ⟨fun _ _ _ _ => rfl, fun _ _ => rfl, fun _ _ _ => rfl, fun _ _ => rfl⟩
/-- one turn's numbers -/
def turnM (a o : Nat) (d n : Int) (M M1 : MEM) : Prop :=
  M1 a (o + 1) = (oneD n (dsM a o M)).1.1 ∧ M1 a o = (oneD n (dsM a o M)).1.2.1 ∧ M1 a (o + 2) = (oneD n (dsM a o M)).1.2.2.1 ∧ (∀ p, p < 12 → M1 a (o + 3 + p) = (oneD n (dsM a o M)).1.2.2.2 p) ∧
  (∀ j : Nat, j < 40 → M1 a (o + 15 + j) = if nxt n (M a (o + 1)) = 0 ∧ (j : Int) = M a (o + 2) % 40 then M a 165 else M a (o + 15 + j)) ∧
  M1 287 d.toNat = (if nxt n (M a (o + 1)) = 0 then wr (M 287 d.toNat + 1) else M 287 d.toNat) ∧
  M1 278 26 = (if (oneD n (dsM a o M)).2 = true then ish i_or (M 278 26) (ish i_shl 1 d) else M 278 26) ∧
  M1 278 28 = (if (oneD n (dsM a o M)).2 = true ∧ d = M 278 29 then (oneD n (dsM a o M)).1.1 else M 278 28)
theorem w_x {o k : Nat} {x : Int} (hx : x = (k : Int)) (h : o + k ≤ 1000) : wr ((o : Int) + x) = ((o + k : Nat) : Int) := by rw [hx, wr_id (by unfold InR; omega)]; omega
theorem w_o {o k : Nat} (h : o + k ≤ 1000) : wr ((o : Int) + (k : Int)) = ((o + k : Nat) : Int) := w_x rfl h
/-- what is eaten at the place p -/
noncomputable def eatM (a o p : Nat) (d : Int) (M : MEM) : MEM :=
  if d = M 278 29 then up2 (up2 (up2 (up2 M a (o + 3 + p) (M a (o + 3 + p) - 1)) a o (max 0 (M a o - 2))) 278 26 (ish i_or (M 278 26) (ish i_shl 1 d))) 278 28 p
  else up2 (up2 (up2 M a (o + 3 + p) (M a (o + 3 + p) - 1)) a o (max 0 (M a o - 2))) 278 26 (ish i_or (M 278 26) (ish i_shl 1 d))
theorem mo_j102 {a o p : Nat} {d pace i : Int} {M : MEM} (ha : lenA a = 166) (ha1 : a ≠ 278) (ho : o ≤ 110) (hp : M a (o + 1) = (p : Int)) (hp12 : p < 12) (hth : 0 ≤ M a (o + 3 + p) ∧ M a (o + 3 + p) ≤ 9) (hh : 0 ≤ M a o ∧ M a o ≤ 9) (hi : 0 ≤ i) (hi4 : i < 4) :
    mo_goSteps_j102_9 a d pace (o : Int) i M = (if 0 < M a (o + 3 + p) then some (.inr (.inl (eatM a o p d M))) else some (.inl (i + 1, M))) := by
  have w1 : wr ((o : Int) + 1) = ((o + 1 : Nat) : Int) := (wr_i (x := (o : Int) + 1) (by omega) (by omega)).trans (by omega)
  have w3 : wr ((o : Int) + 3) = ((o + 3 : Nat) : Int) := (wr_i (x := (o : Int) + 3) (by omega) (by omega)).trans (by omega)
  have wpp : wr (((o + 3 : Nat) : Int) + (p : Int)) = ((o + 3 + p : Nat) : Int) := w_o (by omega)
  have b1 : 0 ≤ ((o + 1 : Nat) : Int) ∧ ((o + 1 : Nat) : Int) < ((166 : Nat) : Int) := by omega
  have b0 : 0 ≤ (o : Int) ∧ (o : Int) < ((166 : Nat) : Int) := by omega
  have bp : 0 ≤ ((o + 3 + p : Nat) : Int) ∧ ((o + 3 + p : Nat) : Int) < ((166 : Nat) : Int) := by omega
  have wi : wr (i + 1) = i + 1 := wr_i (by omega) (by omega)
  have wt : wr (M a (o + 3 + p) - 1) = M a (o + 3 + p) - 1 := wr_i (by omega) (by omega)
  have wh : wr (M a o - 2) = M a o - 2 := wr_i (by omega) (by omega)
  have r1 : up2 M a (o + 3 + p) (M a (o + 3 + p) - 1) a o = M a o := rd_k (by omega)
  unfold mo_goSteps_j102_9
  simp only [ha, w1, toNat_c, hp, w3, wpp, wi, wt]
  rw [if_pos b1, if_pos bp]
  by_cases he : 0 < M a (o + 3 + p)
  · rw [if_pos he, if_neg (by omega), if_pos bp, if_pos bp, Option.bind_some, if_pos b0, if_pos b0, Option.bind_some, Option.bind_some, r1, wh]
    have q1 : up2 (up2 M a (o + 3 + p) (M a (o + 3 + p) - 1)) a o (max 0 (M a o - 2)) 278 26 = M 278 26 := by rw [rd_a (by omega), rd_a (by omega)]
    rw [q1]
    have q2 : up2 (up2 (up2 M a (o + 3 + p) (M a (o + 3 + p) - 1)) a o (max 0 (M a o - 2))) 278 26 (ish i_or (M 278 26) (ish i_shl 1 d)) 278 29 = M 278 29 := by rw [rd_k (by omega), rd_a (by omega), rd_a (by omega)]
    have q3 : up2 (up2 (up2 M a (o + 3 + p) (M a (o + 3 + p) - 1)) a o (max 0 (M a o - 2))) 278 26 (ish i_or (M 278 26) (ish i_shl 1 d)) a (o + 1) = (p : Int) := by rw [rd_a (by omega), rd_k (by omega), rd_k (by omega), hp]
    rw [q2, q3]
    unfold eatM
    by_cases hd : d = M 278 29
    · rw [if_pos hd, if_pos hd, if_pos b1, Option.bind_some]
    · rw [if_neg hd, if_neg hd]
  · rw [if_neg he, if_pos (by omega)]
/-- the cells when PLACE 0 is stepped onto -/
noncomputable def strM (a o : Nat) (d : Int) (M : MEM) : MEM :=
  up2 (up2 (up2 (up2 (up2 M a (o + 1) 0) a (o + 15 + (M a (o + 2) % 40).toNat) (M a 165)) a (o + 2) (M a (o + 2) + 1)) a o (min 9 (M a o + 1))) 287 d.toNat (wr (M 287 d.toNat + 1))
theorem mo_b9 {a o : Nat} {d n pace i : Int} {M : MEM} (ha : lenA a = 166) (ha3 : a ≠ 287) (ho : o ≤ 110) (hd0 : 0 ≤ d) (hd3 : d < 3) (hn : M 280 d.toNat = n) (hd : okD n (dsM a o M)) (hk : M a (o + 2) + 1 < 1073741824) (hip : i < pace) :
    mo_goSteps_b9 a d pace (o : Int) i M = if nxt n (M a (o + 1)) = 0 then mo_goSteps_j102_9 a d pace (o : Int) i (strM a o d M) else mo_goSteps_j102_9 a d pace (o : Int) i (up2 M a (o + 1) (nxt n (M a (o + 1)))) := by
  obtain ⟨d1, d2, d3, d4, d5, d6, d7, d8, d9⟩ := hd
  simp only [dsM] at d3 d4 d5 d6 d7 d8 d9
  have w1 : wr ((o : Int) + 1) = ((o + 1 : Nat) : Int) := (wr_i (x := (o : Int) + 1) (by omega) (by omega)).trans (by omega)
  have w2 : wr ((o : Int) + 2) = ((o + 2 : Nat) : Int) := (wr_i (x := (o : Int) + 2) (by omega) (by omega)).trans (by omega)
  have w15 : wr ((o : Int) + 15) = ((o + 15 : Nat) : Int) := (wr_i (x := (o : Int) + 15) (by omega) (by omega)).trans (by omega)
  have b1 : 0 ≤ ((o + 1 : Nat) : Int) ∧ ((o + 1 : Nat) : Int) < ((166 : Nat) : Int) := by omega
  have b2 : 0 ≤ ((o + 2 : Nat) : Int) ∧ ((o + 2 : Nat) : Int) < ((166 : Nat) : Int) := by omega
  have b0 : 0 ≤ (o : Int) ∧ (o : Int) < ((166 : Nat) : Int) := by omega
  have bd : 0 ≤ d ∧ d < 3 := ⟨hd0, hd3⟩
  have b165 : 0 ≤ (165 : Int) ∧ (165 : Int) < ((166 : Nat) : Int) := by omega
  have wp : wr (M a (o + 1) + 1) = M a (o + 1) + 1 := wr_i (by omega) (by omega)
  have wk1 : wr (M a (o + 2) + 1) = M a (o + 2) + 1 := wr_i (by omega) (by omega)
  have wh : wr (M a o + 1) = M a o + 1 := wr_i (by omega) (by omega)
  have hmod : (M a (o + 2)).tmod 40 = (((M a (o + 2) % 40).toNat : Nat) : Int) := by rw [mod40 _ d7]; omega
  have hq40 : (M a (o + 2) % 40).toNat < 40 := by omega
  have htm : (M a (o + 1) + 1).tmod n = nxt n (M a (o + 1)) := by
    unfold nxt
    rw [tmod_nn (by omega)]
    split
    · rw [Int.emod_eq_of_lt (by omega) (by omega)]
    · rw [show M a (o + 1) + 1 = n by omega, Int.emod_self]
  have t165 : (165 : Int).toNat = 165 := rfl
  unfold mo_goSteps_b9
  rw [if_neg (by omega)]
  simp only [ha, w1, w2, w15, toNat_c, t165]
  rw [if_pos b1, if_pos bd, hn, if_neg (by omega), if_pos b1, wp, htm, Option.bind_some, if_pos b1, rd_same]
  by_cases hz : nxt n (M a (o + 1)) = 0
  · rw [if_pos hz, if_pos hz, if_pos b2, if_pos b165]
    have r2 : up2 M a (o + 1) (nxt n (M a (o + 1))) a (o + 2) = M a (o + 2) := rd_k (by omega)
    have r165 : up2 M a (o + 1) (nxt n (M a (o + 1))) a 165 = M a 165 := rd_k (by omega)
    rw [r2, r165, hmod]
    generalize hq : (M a (o + 2) % 40).toNat = q at *
    have wq : wr (((o + 15 : Nat) : Int) + (q : Int)) = ((o + 15 + q : Nat) : Int) := w_o (by omega)
    have bq : 0 ≤ ((o + 15 + q : Nat) : Int) ∧ ((o + 15 + q : Nat) : Int) < ((166 : Nat) : Int) := by omega
    rw [wq, if_pos bq, Option.bind_some, if_pos b2, if_pos b2, Option.bind_some, if_pos b0, if_pos b0, Option.bind_some, if_pos bd, if_pos bd, Option.bind_some]
    simp only [toNat_c]
    have s1 : up2 (up2 M a (o + 1) (nxt n (M a (o + 1)))) a (o + 15 + q) (M a 165) a (o + 2) = M a (o + 2) := by rw [rd_k (by omega), r2]
    rw [s1, wk1]
    have s2 : up2 (up2 (up2 M a (o + 1) (nxt n (M a (o + 1)))) a (o + 15 + q) (M a 165)) a (o + 2) (M a (o + 2) + 1) a o = M a o := by rw [rd_k (by omega), rd_k (by omega), rd_k (by omega)]
    rw [s2, wh]
    have s3 : up2 (up2 (up2 (up2 M a (o + 1) (nxt n (M a (o + 1)))) a (o + 15 + q) (M a 165)) a (o + 2) (M a (o + 2) + 1)) a o (min 9 (M a o + 1)) 287 d.toNat = M 287 d.toNat := by rw [rd_a (by omega), rd_a (by omega), rd_a (by omega), rd_a (by omega)]
    rw [s3]
    unfold strM
    rw [hq, hz]
  · rw [if_neg hz, if_neg hz]
theorem strM_facts {a o q : Nat} {d : Int} {M S : MEM} (hS : strM a o d M = S) (ha1 : a ≠ 278) (ha3 : a ≠ 287) (ho : o ≤ 110) (hq : M a (o + 2) % 40 = (q : Int)) (hq40 : q < 40) :
    S a (o + 1) = 0 ∧ S a o = min 9 (M a o + 1) ∧ S a (o + 2) = M a (o + 2) + 1 ∧ (∀ j, j < 12 → S a (o + 3 + j) = M a (o + 3 + j)) ∧ (∀ j, j < 40 → S a (o + 15 + j) = if j = q then M a 165 else M a (o + 15 + j)) ∧ S 287 d.toNat = wr (M 287 d.toNat + 1) ∧ (∀ k, S 278 k = M 278 k) ∧ offM a o d M S := by
  unfold strM at hS
  rw [hq, toNat_c] at hS
  subst hS
  refine ⟨?_, ?_, ?_, fun j hj => ?_, fun j hj => ?_, ?_, fun k => ?_, fun c x y z => ?_, fun k x => ?_, fun k _ _ => ?_, fun k x => ?_⟩
  · simp (disch := omega) only [rd_same, rd_k, rd_a]
  · simp (disch := omega) only [rd_same, rd_k, rd_a]
  · simp (disch := omega) only [rd_same, rd_k, rd_a]
  · simp (disch := omega) only [rd_same, rd_k, rd_a]
  · by_cases e : j = q
    · subst e; rw [if_pos rfl]; simp (disch := omega) only [rd_same, rd_k, rd_a]
    · rw [if_neg e]; simp (disch := omega) only [rd_same, rd_k, rd_a]
  · simp (disch := omega) only [rd_same]
  · simp (disch := omega) only [rd_a]
  · funext k; simp (disch := omega) only [rd_a]
  · simp (disch := omega) only [rd_k, rd_a]
  · simp (disch := omega) only [rd_a]
  · simp (disch := omega) only [rd_k, rd_a]
theorem eatM_facts {a o p : Nat} {d : Int} {M S : MEM} (hS : eatM a o p d M = S) (ha1 : a ≠ 278) (ha3 : a ≠ 287) (hp12 : p < 12) :
    S a (o + 1) = M a (o + 1) ∧ S a o = max 0 (M a o - 2) ∧ S a (o + 2) = M a (o + 2) ∧ (∀ j, j < 12 → S a (o + 3 + j) = if j = p then M a (o + 3 + p) - 1 else M a (o + 3 + j)) ∧ (∀ j, S a (o + 15 + j) = M a (o + 15 + j)) ∧ (∀ k, S 287 k = M 287 k) ∧ S 278 26 = ish i_or (M 278 26) (ish i_shl 1 d) ∧ S 278 28 = (if d = M 278 29 then (p : Int) else M 278 28) ∧ offM a o d M S := by
  unfold eatM at hS
  have h : S = (if d = M 278 29 then up2 (up2 (up2 (up2 M a (o + 3 + p) (M a (o + 3 + p) - 1)) a o (max 0 (M a o - 2))) 278 26 (ish i_or (M 278 26) (ish i_shl 1 d))) 278 28 p else up2 (up2 (up2 M a (o + 3 + p) (M a (o + 3 + p) - 1)) a o (max 0 (M a o - 2))) 278 26 (ish i_or (M 278 26) (ish i_shl 1 d))) := hS.symm
  clear hS
  generalize ish i_or (M 278 26) (ish i_shl 1 d) = z at h
  by_cases hd : d = M 278 29
  · rw [if_pos hd] at h ⊢
    clear hd
    subst h
    refine ⟨?_, ?_, ?_, fun j hj => ?_, fun j => ?_, fun k => ?_, ?_, ?_, fun c x y z => ?_, fun k x => ?_, fun k _ _ => ?_, fun k x => ?_⟩
    · simp (disch := omega) only [rd_same, rd_k, rd_a]
    · simp (disch := omega) only [rd_same, rd_k, rd_a]
    · simp (disch := omega) only [rd_same, rd_k, rd_a]
    · by_cases e : j = p
      · subst e; rw [if_pos rfl]; simp (disch := omega) only [rd_same, rd_k, rd_a]
      · rw [if_neg e]; simp (disch := omega) only [rd_same, rd_k, rd_a]
    · simp (disch := omega) only [rd_same, rd_k, rd_a]
    · simp (disch := omega) only [rd_a]
    · simp (disch := omega) only [rd_same, rd_k]
    · simp (disch := omega) only [rd_same]
    · funext k; simp (disch := omega) only [rd_a]
    · simp (disch := omega) only [rd_k, rd_a]
    · simp (disch := omega) only [rd_k, rd_a]
    · simp (disch := omega) only [rd_a]
  · rw [if_neg hd] at h ⊢
    clear hd
    subst h
    refine ⟨?_, ?_, ?_, fun j hj => ?_, fun j => ?_, fun k => ?_, ?_, ?_, fun c x y z => ?_, fun k x => ?_, fun k _ _ => ?_, fun k x => ?_⟩
    · simp (disch := omega) only [rd_same, rd_k, rd_a]
    · simp (disch := omega) only [rd_same, rd_k, rd_a]
    · simp (disch := omega) only [rd_same, rd_k, rd_a]
    · by_cases e : j = p
      · subst e; rw [if_pos rfl]; simp (disch := omega) only [rd_same, rd_k, rd_a]
      · rw [if_neg e]; simp (disch := omega) only [rd_same, rd_k, rd_a]
    · simp (disch := omega) only [rd_same, rd_k, rd_a]
    · simp (disch := omega) only [rd_a]
    · simp (disch := omega) only [rd_same]
    · simp (disch := omega) only [rd_k, rd_a]
    · funext k; simp (disch := omega) only [rd_a]
    · simp (disch := omega) only [rd_k, rd_a]
    · simp (disch := omega) only [rd_k, rd_a]
    · simp (disch := omega) only [rd_a]
theorem mo_fin {a o p q : Nat} {d n pace i : Int} {M S : MEM} (ha : lenA a = 166) (ha1 : a ≠ 278) (ha3 : a ≠ 287) (ho : o ≤ 110) (hpn : nxt n (M a (o + 1)) = (p : Int)) (hp12 : p < 12) (hq : M a (o + 2) % 40 = (q : Int)) (hi : 0 ≤ i) (hi4 : i < 4)
    (hth : 0 ≤ M a (o + 3 + p) ∧ M a (o + 3 + p) ≤ 9) (hh : 0 ≤ M a o ∧ M a o ≤ 9)
    (s1 : S a (o + 1) = (p : Int)) (s2 : S a o = if p = 0 then min 9 (M a o + 1) else M a o) (s3 : S a (o + 2) = if p = 0 then M a (o + 2) + 1 else M a (o + 2)) (s4 : ∀ j, j < 12 → S a (o + 3 + j) = M a (o + 3 + j))
    (s5 : ∀ j, j < 40 → S a (o + 15 + j) = if p = 0 ∧ j = q then M a 165 else M a (o + 15 + j)) (s6 : S 287 d.toNat = if p = 0 then wr (M 287 d.toNat + 1) else M 287 d.toNat) (s7 : ∀ k, S 278 k = M 278 k) (s8 : offM a o d M S) :
    ∃ M1, mo_goSteps_j102_9 a d pace (o : Int) i S = (if (oneD n (dsM a o M)).2 = true then some (.inr (.inl M1)) else some (.inl (i + 1, M1))) ∧ turnM a o d n M M1 ∧ offM a o d M M1 := by
  have hS4 := s4 p hp12
  have hSh : 0 ≤ S a o ∧ S a o ≤ 9 := by rw [s2]; split <;> omega
  rw [mo_j102 ha ha1 ho s1 hp12 (by rw [hS4]; exact hth) hSh hi hi4, hS4]
  have ea : (oneD n (dsM a o M)).2 = decide (0 < M a (o + 3 + p)) := by
    rw [oneD_ate]; simp only [dsM, hpn, toNat_c]
  have e1 : (oneD n (dsM a o M)).1.1 = (p : Int) := by rw [oneD_place]; exact hpn
  have eh : (oneD n (dsM a o M)).1.2.1 = if 0 < M a (o + 3 + p) then max 0 (S a o - 2) else S a o := by
    have e0 : ((p : Int) = 0) ↔ p = 0 := by omega
    rw [oneD_hunger, s2]; simp only [dsM, hpn, toNat_c, e0]
  have ek : (oneD n (dsM a o M)).1.2.2.1 = S a (o + 2) := by
    rw [oneD_strokes, s3]; simp only [dsM, hpn]
    by_cases hz : p = 0
    · subst hz; rfl
    · rw [if_neg hz, if_neg (by omega)]
  have et : (oneD n (dsM a o M)).1.2.2.2 = if 0 < M a (o + 3 + p) then up1 (fun j => M a (o + 3 + j)) p (M a (o + 3 + p) - 1) else fun j => M a (o + 3 + j) := by
    rw [oneD_th]; simp only [dsM, hpn, toNat_c]
  have ez : (nxt n (M a (o + 1)) = 0) ↔ p = 0 := by rw [hpn]; omega
  have el : ∀ j : Nat, (nxt n (M a (o + 1)) = 0 ∧ (j : Int) = M a (o + 2) % 40) ↔ (p = 0 ∧ j = q) := fun j => by rw [ez, hq]; omega
  by_cases he : 0 < M a (o + 3 + p)
  · obtain ⟨f1, f2, f3, f4, f5, f6, f7, f8, f9⟩ := eatM_facts (S := eatM a o p d S) rfl ha1 ha3 hp12
    refine ⟨eatM a o p d S, ?_, ⟨?_, ?_, ?_, fun j hj => ?_, fun j hj => ?_, ?_, ?_, ?_⟩, s8.tr f9⟩
    · rw [if_pos he, if_pos (by rw [ea]; exact decide_eq_true he)]
    · rw [f1, s1, e1]
    · rw [f2, eh, if_pos he]
    · rw [f3, ek]
    · rw [f4 j hj, et, if_pos he, hS4, s4 j hj, up1_at]
    · rw [f5, s5 j hj]
      by_cases hc : p = 0 ∧ j = q
      · rw [if_pos hc, if_pos ((el j).mpr hc)]
      · rw [if_neg hc, if_neg (fun x => hc ((el j).mp x))]
    · rw [f6, s6]
      by_cases hc : p = 0
      · rw [if_pos hc, if_pos (ez.mpr hc)]
      · rw [if_neg hc, if_neg (fun x => hc (ez.mp x))]
    · rw [f7, s7, if_pos (by rw [ea]; exact decide_eq_true he)]
    · rw [f8, s7, s7, e1]
      by_cases hd : d = M 278 29
      · rw [if_pos hd, if_pos ⟨by rw [ea]; exact decide_eq_true he, hd⟩]
      · rw [if_neg hd, if_neg (fun x => hd x.2)]
  · have hf : ¬ (oneD n (dsM a o M)).2 = true := by rw [ea]; simpa using he
    refine ⟨S, ?_, ⟨?_, ?_, ?_, fun j hj => ?_, fun j hj => ?_, ?_, ?_, ?_⟩, s8⟩
    · rw [if_neg he, if_neg hf]
    · rw [s1, e1]
    · rw [eh, if_neg he]
    · rw [ek]
    · rw [s4 j hj, et, if_neg he]
    · rw [s5 j hj]
      by_cases hc : p = 0 ∧ j = q
      · rw [if_pos hc, if_pos ((el j).mpr hc)]
      · rw [if_neg hc, if_neg (fun x => hc ((el j).mp x))]
    · rw [s6]
      by_cases hc : p = 0
      · rw [if_pos hc, if_pos (ez.mpr hc)]
      · rw [if_neg hc, if_neg (fun x => hc (ez.mp x))]
    · rw [s7, if_neg hf]
    · rw [s7, if_neg (fun x => hf x.1)]
theorem mo_step {a o : Nat} {d n pace i : Int} {M : MEM} (ha : lenA a = 166) (ha1 : a ≠ 278) (ha3 : a ≠ 287) (ho : o ≤ 110) (hd0 : 0 ≤ d) (hd3 : d < 3) (hn : M 280 d.toNat = n) (hd : okD n (dsM a o M)) (hk : M a (o + 2) + 1 < 1073741824) (hi : 0 ≤ i) (hip : i < pace) (hp : pace ≤ 4) :
    ∃ M1, mo_goSteps_b9 a d pace (o : Int) i M = (if (oneD n (dsM a o M)).2 = true then some (.inr (.inl M1)) else some (.inl (i + 1, M1))) ∧ turnM a o d n M M1 ∧ offM a o d M M1 := by
  rw [mo_b9 ha ha3 ho hd0 hd3 hn hd hk hip]
  obtain ⟨d1, d2, d3, d4, d5, d6, d7, d8, d9⟩ := hd
  simp only [dsM] at d3 d4 d5 d6 d7 d8 d9
  have hx := nxt_in (n := n) (p := M a (o + 1)) (by omega) d3
  obtain ⟨p, hpn, hp12⟩ : ∃ p : Nat, nxt n (M a (o + 1)) = (p : Int) ∧ p < 12 := ⟨(nxt n (M a (o + 1))).toNat, by omega, by omega⟩
  obtain ⟨q, hq, hq40⟩ : ∃ q : Nat, M a (o + 2) % 40 = (q : Int) ∧ q < 40 := ⟨(M a (o + 2) % 40).toNat, by omega, by omega⟩
  have hth := d9 p (by omega)
  by_cases hz : p = 0
  · obtain ⟨f1, f2, f3, f4, f5, f6, f7, f8⟩ := strM_facts (S := strM a o d M) rfl ha1 ha3 ho hq hq40
    rw [if_pos (by omega)]
    refine mo_fin ha ha1 ha3 ho hpn hp12 hq hi (by omega) hth ⟨d5, d6⟩ (by rw [f1, hz]; rfl) (by rw [f2, if_pos hz]) (by rw [f3, if_pos hz]) f4 (fun j hj => ?_) (by rw [f6, if_pos hz]) f7 f8
    rw [f5 j hj]
    by_cases hc : j = q
    · rw [if_pos hc, if_pos ⟨hz, hc⟩]
    · rw [if_neg hc, if_neg (fun x => hc x.2)]
  · rw [if_neg (by omega), hpn]
    refine mo_fin ha ha1 ha3 ho hpn hp12 hq hi (by omega) hth ⟨d5, d6⟩ rd_same (by rw [if_neg hz]; exact rd_k (by omega)) (by rw [if_neg hz]; exact rd_k (by omega)) (fun j _ => rd_k (by omega)) (fun j _ => by rw [if_neg (fun x => hz x.1)]; exact rd_k (by omega)) (by rw [if_neg hz]; exact rd_a (by omega)) (fun k => rd_a (by omega)) ⟨fun c x y z => up2_ne x, fun k x => rd_k (by omega), fun k _ _ => rd_a (by omega), fun k _ => rd_a (by omega)⟩
end
section
-- ===== the model's steps, all of one minute =====
theorem okD_congr {n : Int} {s t : DS} (h : eqD n s t) (hs : okD n s) : okD n t := by
  obtain ⟨h1, h2, h3, h4⟩ := h
  obtain ⟨d1, d2, d3, d4, d5, d6, d7, d8, d9⟩ := hs
  exact ⟨d1, d2, by rw [← h1]; exact d3, by rw [← h1]; exact d4, by rw [← h2]; exact d5, by rw [← h2]; exact d6, by rw [← h3]; exact d7, by rw [← h3]; exact d8, fun p hp => by rw [← h4 p hp]; exact d9 p hp⟩
theorem eqD.rf {n : Int} {s : DS} : eqD n s s := ⟨rfl, rfl, rfl, fun _ _ => rfl⟩
theorem eqD.sy {n : Int} {s t : DS} (h : eqD n s t) : eqD n t s := ⟨h.1.symm, h.2.1.symm, h.2.2.1.symm, fun p hp => (h.2.2.2 p hp).symm⟩
theorem eqD.tr {n : Int} {s t u : DS} (h : eqD n s t) (g : eqD n t u) : eqD n s u := ⟨h.1.trans g.1, h.2.1.trans g.2.1, h.2.2.1.trans g.2.2.1, fun p hp => (h.2.2.2 p hp).trans (g.2.2.2 p hp)⟩
/-- what a walk of j steps leaves in the model's cells -/
def walkM (a o : Nat) (d n : Int) (j : Nat) (M M1 : MEM) : Prop :=
  eqD n (dsM a o M1) (walkD n j (dsM a o M)).1 ∧ (∀ p : Nat, n ≤ (p : Int) → p < 12 → M1 a (o + 3 + p) = M a (o + 3 + p)) ∧
  (∀ q : Nat, q < 40 → M1 a (o + 15 + q) = if (walkD n j (dsM a o M)).1.2.2.1 ≠ M a (o + 2) ∧ (q : Int) = M a (o + 2) % 40 then M a 165 else M a (o + 15 + q)) ∧
  M1 287 d.toNat = (if (walkD n j (dsM a o M)).1.2.2.1 ≠ M a (o + 2) then wr (M 287 d.toNat + 1) else M 287 d.toNat) ∧
  M1 278 26 = (if (walkD n j (dsM a o M)).2 = true then ish i_or (M 278 26) (ish i_shl 1 d) else M 278 26) ∧
  M1 278 28 = (if (walkD n j (dsM a o M)).2 = true ∧ d = M 278 29 then (walkD n j (dsM a o M)).1.1 else M 278 28)
theorem turnM_eq {a o : Nat} {d n : Int} {M M1 : MEM} (hn : n ≤ 12) (h : turnM a o d n M M1) : eqD n (dsM a o M1) (oneD n (dsM a o M)).1 :=
  ⟨h.1, h.2.1, h.2.2.1, fun p hp => h.2.2.2.1 p (by omega)⟩
theorem mo_loop {a o : Nat} {d n pace : Int} (ha : lenA a = 166) (ha1 : a ≠ 278) (ha3 : a ≠ 287) (ha2 : a ≠ 280) (ho : o ≤ 110) (hd0 : 0 ≤ d) (hd3 : d < 3) (hp : pace ≤ 4) :
    ∀ (j fu : Nat) (i : Int) (M : MEM), i + j = pace → 0 ≤ i → j < fu → M 280 d.toNat = n → okD n (dsM a o M) → M a (o + 2) + j < 1073741824 →
    ∃ (e : MEM ⊕ (Int × MEM)) (M1 : MEM), iter (fun s => mo_goSteps_b9 a d pace (o : Int) s.1 s.2) fu (i, M) = some e ∧ (e = .inl M1 ∨ ∃ i', e = .inr (i', M1)) ∧ walkM a o d n j M M1 ∧ offM a o d M M1 := by
  intro j
  induction j with
  | zero =>
    intro fu i M hij hi hfu hn hd hk
    obtain ⟨fu, rfl⟩ : ∃ f, fu = f + 1 := ⟨fu - 1, by omega⟩
    refine ⟨.inr (i, M), M, ?_, Or.inr ⟨i, rfl⟩, ⟨eqD.rf, fun _ _ _ => rfl, fun q _ => ?_, ?_, ?_, ?_⟩, offM.rf⟩
    · have hb : mo_goSteps_b9 a d pace (o : Int) i M = some (.inr (.inr (i, M))) := by
        unfold mo_goSteps_b9
        rw [if_pos (by omega)]
      unfold iter
      simp only [hb, Option.bind_some, Sum.elim_inr]
    · rw [if_neg (fun x => x.1 rfl)]
    · rw [if_neg (fun x => x rfl)]
    · rw [if_neg (show ¬ (walkD n 0 (dsM a o M)).2 = true from Bool.false_ne_true)]
    · rw [if_neg (fun x => (show ¬ (walkD n 0 (dsM a o M)).2 = true from Bool.false_ne_true) x.1)]
  | succ j ih =>
    intro fu i M hij hi hfu hn hd hk
    obtain ⟨fu, rfl⟩ : ∃ f, fu = f + 1 := ⟨fu - 1, by omega⟩
    obtain ⟨M1, e1, t1, o1⟩ := mo_step ha ha1 ha3 ho hd0 hd3 hn hd (by omega) hi (by omega) hp
    have hd' := hd
    obtain ⟨d1, d2, d3, d4, -, -, d7, -, -⟩ := hd'
    simp only [dsM] at d3 d4 d7
    have hks : (dsM a o M).2.2.1 = M a (o + 2) := rfl
    have hos := oneD_strokes n (dsM a o M)
    rw [hks] at hos
    have hpl : (dsM a o M).1 = M a (o + 1) := rfl
    rw [hpl] at hos
    have hbey : ∀ p : Nat, n ≤ (p : Int) → p < 12 → M1 a (o + 3 + p) = M a (o + 3 + p) := fun p h1 h2 => by
      rw [t1.2.2.2.1 p h2, oneD_th]
      split
      · rw [up1_at, if_neg (by have := nxt_in (n := n) (p := (dsM a o M).1) (by omega) d3; omega)]; rfl
      · rfl
    have hstr : ∀ q : Nat, q < 40 → M1 a (o + 15 + q) = if (oneD n (dsM a o M)).1.2.2.1 ≠ M a (o + 2) ∧ (q : Int) = M a (o + 2) % 40 then M a 165 else M a (o + 15 + q) := fun q hq => by
      rw [t1.2.2.2.2.1 q hq, hos]
      by_cases hz : nxt n (M a (o + 1)) = 0
      · rw [if_pos hz]
        by_cases hq2 : (q : Int) = M a (o + 2) % 40
        · rw [if_pos ⟨hz, hq2⟩, if_pos ⟨by omega, hq2⟩]
        · rw [if_neg (fun x => hq2 x.2), if_neg (fun x => hq2 x.2)]
      · rw [if_neg hz, if_neg (fun x => hz x.1), if_neg (fun x => x.1 rfl)]
    have h287 : M1 287 d.toNat = (if (oneD n (dsM a o M)).1.2.2.1 ≠ M a (o + 2) then wr (M 287 d.toNat + 1) else M 287 d.toNat) := by
      rw [t1.2.2.2.2.2.1, hos]
      by_cases hz : nxt n (M a (o + 1)) = 0
      · rw [if_pos hz, if_pos hz, if_pos (by omega)]
      · rw [if_neg hz, if_neg hz, if_neg (fun x => x rfl)]
    have heq := turnM_eq d2 t1
    cases hat : (oneD n (dsM a o M)).2 with
    | true =>
      rw [hat, if_pos rfl] at e1
      refine ⟨.inl M1, M1, ?_, Or.inl rfl, ?_, o1⟩
      · unfold iter
        simp only [e1, Option.bind_some, Sum.elim_inr]
      · unfold walkM
        rw [walkD_one hat]
        exact ⟨heq, hbey, hstr, h287, t1.2.2.2.2.2.2.1, t1.2.2.2.2.2.2.2⟩
    | false =>
      rw [hat, if_neg (by decide)] at e1
      have hk1 : M1 a (o + 2) = (oneD n (dsM a o M)).1.2.2.1 := t1.2.2.1
      have hk1' : M1 a (o + 2) = M a (o + 2) ∨ M1 a (o + 2) = M a (o + 2) + 1 := by rw [hk1, hos]; split <;> omega
      have hok1 : okD n (dsM a o M1) := okD_congr heq.sy (oneD_ok hd (by rw [hks]; omega))
      have hn1 : M1 280 d.toNat = n := by rw [o1.1 280 (by omega) (by omega) (by omega)]; exact hn
      obtain ⟨e, M2, e2, hee, w2, o2⟩ := ih fu (i + 1) M1 (by omega) (by omega) (by omega) hn1 hok1 (by omega)
      have hpl1 : 0 ≤ (dsM a o M1).1 := hok1.2.2.1
      have hcg := walkD_congr (n := n) (by omega) j hpl1 heq
      refine ⟨e, M2, ?_, hee, ?_, o1.tr o2⟩
      · unfold iter
        simp only [e1, Option.bind_some, Sum.elim_inl]
        exact e2
      · have hall := walkD_strokes (n := n) (by omega) (j + 1) (dsM a o M) d3 d4 (by omega)
        rw [walkD_two hat, hks] at hall
        have hmo := walkD_mono (n := n) j (oneD n (dsM a o M)).1
        rw [← hk1] at hmo
        have hrs : (walkD n j (dsM a o M1)).1.2.2.1 = (walkD n j (oneD n (dsM a o M)).1).1.2.2.1 := hcg.1.2.2.1
        have h165 : M1 a 165 = M a 165 := o1.2.1 165 (by omega)
        have h29 : M1 278 29 = M 278 29 := o1.2.2.1 29 (by omega) (by omega)
        obtain ⟨w21, w22, w23, w24, w25, w26⟩ := w2
        rw [hrs] at w23 w24
        rw [hcg.2] at w25 w26
        have hpp : (walkD n j (dsM a o M1)).1.1 = (walkD n j (oneD n (dsM a o M)).1).1.1 := hcg.1.1
        rw [hpp, h29] at w26
        have t26 : M1 278 26 = M 278 26 := by rw [t1.2.2.2.2.2.2.1, hat]; rfl
        have t28 : M1 278 28 = M 278 28 := by rw [t1.2.2.2.2.2.2.2, hat]; rw [if_neg (fun x => Bool.false_ne_true x.1)]
        rw [t26] at w25
        rw [t28] at w26
        rw [← hk1] at hstr h287
        unfold walkM
        rw [walkD_two hat]
        generalize walkD n j (oneD n (dsM a o M)).1 = r at *
        refine ⟨w21.tr hcg.1, fun p h1 h2 => (w22 p h1 h2).trans (hbey p h1 h2), fun q hq => ?_, ?_, w25, w26⟩
        · rw [w23 q hq, hstr q hq, h165]
          rcases hk1' with h | h
          · rw [h, if_neg (fun x : M a (o + 2) ≠ M a (o + 2) ∧ _ => x.1 rfl)]
          · have hr : r.1.2.2.1 = M1 a (o + 2) := by omega
            rw [hr, if_neg (fun x : M1 a (o + 2) ≠ M1 a (o + 2) ∧ _ => x.1 rfl)]
        · rw [w24, h287]
          rcases hk1' with h | h
          · rw [h, if_neg (fun x : M a (o + 2) ≠ M a (o + 2) => x rfl)]
          · have hr : r.1.2.2.1 = M1 a (o + 2) := by omega
            rw [hr, if_neg (fun x : M1 a (o + 2) ≠ M1 a (o + 2) => x rfl)]
theorem mo_goSteps_eq {a o : Nat} {d n pace : Int} {M : MEM} (ha : lenA a = 166) (ha1 : a ≠ 278) (ha3 : a ≠ 287) (ha2 : a ≠ 280) (hod : (o : Int) = 55 * d) (hd0 : 0 ≤ d) (hd3 : d < 3) (hp0 : 0 ≤ pace) (hp : pace ≤ 4) (hn : M 280 d.toNat = n) (hd : okD n (dsM a o M)) (hk : M a (o + 2) + 4 < 1073741824) :
    ∃ M1, mo_goSteps a d pace M = some M1 ∧ walkM a o d n pace.toNat M M1 ∧ offM a o d M M1 := by
  obtain ⟨e, M1, e1, he, w, of⟩ := mo_loop (n := n) ha ha1 ha3 ha2 (by omega) hd0 hd3 hp pace.toNat FU 0 M (by omega) (by omega) (by unfold FU; omega) hn hd (by omega)
  refine ⟨M1, ?_, w, of⟩
  have w55 : wr (55 * d) = (o : Int) := (wr_i (by omega) (by omega)).trans hod.symm
  unfold mo_goSteps
  rw [w55, e1]
  rcases he with rfl | ⟨i', rfl⟩ <;> rfl
end
section
-- ===== the class's PACE out of its code =====
def pushL (x : Int) (l : List Int) : List Int := if 40 ≤ l.length then l else x :: l
def popL (l : List Int) : Int × List Int := match l with
  | [] => (0, [])
  | x :: r => (x, r)
noncomputable def combP (o x y : Int) : Int := if o = 42 then wr (x * y) else if o = 43 then wr (x + y) else if o = 45 then wr (x - y) else if o = 47 then (if y = 0 then 0 else wr (Int.tdiv x y)) else if o = 60 then (if y ≤ x then 0 else 1) else if o = 62 then (if x ≤ y then 0 else 1) else if x = y then 1 else 0
theorem ru_combine_eq (o x y : Int) : ru_combine o x y = some (combP o x y) := by
  unfold ru_combine combP
  by_cases h1 : o = 42
  · rw [if_pos h1, if_pos h1]
  rw [if_neg h1, if_neg h1]
  by_cases h2 : o = 43
  · rw [if_pos h2, if_pos h2]
  rw [if_neg h2, if_neg h2]
  by_cases h3 : o = 45
  · rw [if_pos h3, if_pos h3]
  rw [if_neg h3, if_neg h3]
  by_cases h4 : o = 47
  · rw [if_pos h4, if_pos h4]
    by_cases h : y = 0
    · rw [if_pos h, if_pos h]
    · rw [if_neg h, if_neg h, if_neg h]
  rw [if_neg h4, if_neg h4]
  by_cases h5 : o = 60
  · rw [if_pos h5, if_pos h5]
    by_cases h : y ≤ x
    · rw [if_pos h, if_pos h]
    · rw [if_neg h, if_neg h]
  rw [if_neg h5, if_neg h5]
  by_cases h6 : o = 62
  · rw [if_pos h6, if_pos h6]
    by_cases h : x ≤ y
    · rw [if_pos h, if_pos h]
    · rw [if_neg h, if_neg h]
  rw [if_neg h6, if_neg h6]
  by_cases h : x = y
  · rw [if_pos h, if_pos h]
  · rw [if_neg h, if_neg h]
noncomputable def stepL (g : Nat → Int) (c : Int) (l : List Int) : List Int :=
  if c < 1000 then pushL c l
  else if c < 1008 then pushL (g (c - 1000).toNat) l
  else if c = 2256 then pushL (wr (-(popL l).1)) (popL l).2
  else pushL (combP (c - 2000) (popL (popL l).2).1 (popL l).1) (popL (popL l).2).2
/-- the code's places i, i + 1 .. so many of them -/
noncomputable def runL (g code : Nat → Int) : Nat → Nat → List Int → List Int
  | 0, _, l => l
  | n + 1, i, l => runL g code n (i + 1) (stepL g (code i) l)
noncomputable def codeV (size : Int) (code g : Nat → Int) : Int := if size = 0 then 1 else max 0 (min 4 (popL (runL g code size.toNat 0 [])).1)
/-- cell 23 up to slot 4 of cell 21 holds the list, its head on top -/
def stkIs (M : MEM) (l : List Int) : Prop := M 21 4 = (l.length : Int) ∧ l.length ≤ 40 ∧ ∀ (i : Nat) (x : Int), l.reverse[i]? = some x → M 23 i = x
def offR (M M1 : MEM) : Prop := (∀ c, c ≠ 21 → c ≠ 23 → M1 c = M c) ∧ ∀ k, k ≠ 4 → M1 21 k = M 21 k
theorem offR.rf {M : MEM} : offR M M := ⟨fun _ _ _ => rfl, fun _ _ => rfl⟩
theorem offR.tr {M M1 M2 : MEM} (h : offR M M1) (g : offR M1 M2) : offR M M2 := ⟨fun c x y => (g.1 c x y).trans (h.1 c x y), fun k x => (g.2 k x).trans (h.2 k x)⟩
theorem push_eq {M : MEM} {l : List Int} (x : Int) (h : stkIs M l) : ∃ M1, ru_push 21 x M = some M1 ∧ stkIs M1 (pushL x l) ∧ offR M M1 := by
  obtain ⟨h1, h2, h3⟩ := h
  unfold ru_push pushL
  rw [if_neg (by omega)]
  by_cases hl : 40 ≤ l.length
  · rw [if_pos (by omega), if_pos hl]
    exact ⟨M, rfl, ⟨h1, h2, h3⟩, offR.rf⟩
  · rw [if_neg (by omega), if_pos (by omega), if_neg hl, h1, Option.bind_some, toNat_c]
    have r1 : up2 M (21 + 2) l.length x 21 4 = (l.length : Int) := by rw [rd_a (by omega), h1]
    rw [r1, wr_i (by omega) (by omega), Option.bind_some]
    refine ⟨_, rfl, ⟨?_, ?_, fun i y hy => ?_⟩, ⟨fun c hc1 hc2 => ?_, fun k hk => ?_⟩⟩
    · rw [rd_same, List.length_cons]; omega
    · rw [List.length_cons]; omega
    · rw [rd_a (by omega)]
      rw [List.reverse_cons] at hy
      by_cases hi : i < l.reverse.length
      · rw [List.getElem?_append_left hi] at hy
        rw [List.length_reverse] at hi
        rw [rd_k (by omega)]
        exact h3 i y hy
      · rw [List.getElem?_append_right (by omega)] at hy
        have hz : i - l.reverse.length < 1 := (List.getElem?_eq_some_iff.mp hy).1
        rw [List.length_reverse] at hi hz hy
        have : i = l.length := by omega
        subst this
        rw [Nat.sub_self] at hy
        have hy : some x = some y := hy
        cases hy
        exact rd_same
    · funext k; rw [rd_a hc1, rd_a hc2]
    · rw [rd_k hk, rd_a (by omega)]
theorem pop_eq {M : MEM} {l : List Int} (h : stkIs M l) : ∃ M1, ru_pop 21 M = some ((popL l).1, M1) ∧ stkIs M1 (popL l).2 ∧ offR M M1 := by
  obtain ⟨h1, h2, h3⟩ := h
  unfold ru_pop
  cases l with
  | nil =>
    rw [if_pos (by rw [h1]; decide)]
    exact ⟨M, rfl, ⟨h1, h2, h3⟩, offR.rf⟩
  | cons x r =>
    rw [List.length_cons] at h1 h2
    rw [if_neg (by omega), if_pos (by omega), h1, wr_i (by omega) (by omega), Option.bind_some, rd_same, if_pos (by omega), show (((r.length + 1 : Nat) : Int) - 1).toNat = r.length by omega]
    have hx : M 23 r.length = x := h3 r.length x (by rw [List.reverse_cons, List.getElem?_append_right (by simp)]; simp)
    have e : up2 M 21 4 (((r.length + 1 : Nat) : Int) - 1) (21 + 2) r.length = x := by rw [rd_a (by omega)]; exact hx
    rw [e]
    refine ⟨_, rfl, ⟨?_, ?_, fun i y hy => ?_⟩, ⟨fun c hc1 hc2 => ?_, fun k hk => ?_⟩⟩
    · rw [rd_same]; show _ = (r.length : Int); omega
    · show r.length ≤ 40; omega
    · rw [rd_a (by omega)]
      refine h3 i y ?_
      have hy : r.reverse[i]? = some y := hy
      rw [List.reverse_cons, List.getElem?_append_left (List.getElem?_eq_some_iff.mp hy).1]
      exact hy
    · funext k; rw [rd_a hc1]
    · rw [rd_k hk]
end
section
-- ===== total correctness of the functions, regions of the memory =====
/-- the function has a value, and it is so -/
def Tc {α : Type} (o : Option α) (P : α → Prop) : Prop := ∃ a, o = some a ∧ P a
theorem Tc_some {α : Type} {a : α} {P : α → Prop} (h : P a) : Tc (some a) P := ⟨a, rfl, h⟩
theorem Tc_u {α β : Type} {v : β} {f : β → Option α} {P : α → Prop} (h : Tc (f v) P) : Tc ((some v).bind f) P := h
theorem Tc_b {α β : Type} {o : Option β} {f : β → Option α} {P : α → Prop} (h : Tc o (fun b => Tc (f b) P)) : Tc (o.bind f) P := by
  obtain ⟨b, rfl, h⟩ := h
  exact h
theorem Tc_c {α β : Type} {o : Option β} {f : β → Option α} {Q : β → Prop} {P : α → Prop} (h : Tc o Q) (k : ∀ b, Q b → Tc (f b) P) : Tc (o.bind f) P := by
  obtain ⟨b, rfl, h⟩ := h
  exact k b h
theorem Tc_e {α β : Type} {o : Option β} {b : β} {f : β → Option α} {P : α → Prop} (h : o = some b) (k : Tc (f b) P) : Tc (o.bind f) P := by
  subst h
  exact k
theorem Tc_m {α : Type} {o : Option α} {P Q : α → Prop} (h : Tc o P) (k : ∀ a, P a → Q a) : Tc o Q := by
  obtain ⟨a, e, h⟩ := h
  exact ⟨a, e, k a h⟩
theorem Tc_i {α : Type} {c : Prop} [Decidable c] {A B : Option α} {P : α → Prop} (h1 : c → Tc A P) (h2 : ¬ c → Tc B P) : Tc (if c then A else B) P := by
  by_cases h : c
  · rw [if_pos h]; exact h1 h
  · rw [if_neg h]; exact h2 h
theorem Tc_t {α : Type} {c : Prop} [Decidable c] {A B : Option α} {P : α → Prop} (hc : c) (h : Tc A P) : Tc (if c then A else B) P := by
  rw [if_pos hc]; exact h
theorem Tc_f {α : Type} {c : Prop} [Decidable c] {A B : Option α} {P : α → Prop} (hc : ¬ c) (h : Tc B P) : Tc (if c then A else B) P := by
  rw [if_neg hc]; exact h
theorem Tc_l {σ ε : Type} {body : σ → Option (σ ⊕ ε)} {s : σ} (I : Nat → σ → Prop) (E : ε → Prop) (N : Nat) (h0 : I 0 s) (hN : N < 1000000) (hs : ∀ i s, i < N → I i s → Tc (body s) (fun r => (∃ s', r = .inl s' ∧ I (i + 1) s') ∨ ∃ e, r = .inr e ∧ E e)) (he : ∀ s, I N s → Tc (body s) (fun r => ∃ e, r = .inr e ∧ E e)) : Tc (iter body FU s) E := by
  refine loop_inv I E N h0 hN (fun i s hi h => ?_) (fun s h => ?_)
  · obtain ⟨r, e, h⟩ := hs i s hi h
    rcases h with ⟨s', rfl, h⟩ | ⟨x, rfl, h⟩
    · exact Or.inl ⟨s', e, h⟩
    · exact Or.inr ⟨x, e, h⟩
  · obtain ⟨r, e, x, rfl, h⟩ := he s h
    exact ⟨x, e, h⟩
/-- a loop that runs to its count -/
theorem Tc_n {σ ε : Type} {body : σ → Option (σ ⊕ ε)} {s : σ} {E : ε → Prop} (I : Nat → σ → Prop) (N : Nat) (h0 : I 0 s) (hN : N < 1000000) (hs : ∀ i s, i < N → I i s → Tc (body s) (fun r => ∃ s', r = .inl s' ∧ I (i + 1) s')) (he : ∀ s, I N s → Tc (body s) (fun r => ∃ e, r = .inr e ∧ E e)) : Tc (iter body FU s) E :=
  Tc_l I E N h0 hN (fun i s hi h => Tc_m (hs i s hi h) (fun _ q => Or.inl q)) he
theorem Tc_inl {σ ε : Type} {s : σ} {P : σ → Prop} (h : P s) : Tc (some (.inl s : σ ⊕ ε)) (fun r => ∃ s', r = .inl s' ∧ P s') := ⟨_, rfl, s, rfl, h⟩
theorem Tc_inr {σ ε : Type} {s : ε} {P : ε → Prop} (h : P s) : Tc (some (.inr s : σ ⊕ ε)) (fun r => ∃ s', r = .inr s' ∧ P s') := ⟨_, rfl, s, rfl, h⟩
theorem Tc_inlL {σ ε : Type} {s : σ} {P : σ → Prop} {E : ε → Prop} (h : P s) : Tc (some (.inl s : σ ⊕ ε)) (fun r => (∃ s', r = .inl s' ∧ P s') ∨ ∃ e, r = .inr e ∧ E e) := ⟨_, rfl, Or.inl ⟨s, rfl, h⟩⟩
theorem Tc_inrR {σ ε : Type} {s : ε} {P : σ → Prop} {E : ε → Prop} (h : E s) : Tc (some (.inr s : σ ⊕ ε)) (fun r => (∃ s', r = .inl s' ∧ P s') ∨ ∃ e, r = .inr e ∧ E e) := ⟨_, rfl, Or.inr ⟨s, rfl, h⟩⟩
theorem Tc_and {α : Type} {o : Option α} {P Q : α → Prop} (h : Tc o P) (g : Tc o Q) : Tc o (fun a => P a ∧ Q a) := by
  obtain ⟨a, e, h⟩ := h
  obtain ⟨b, e2, g⟩ := g
  have : a = b := Option.some.inj (e.symm.trans e2)
  subst this
  exact ⟨a, e, h, g⟩
-- ===== regions: 0 scratch, 1 text, 2 flies, 3 rule, 4 donkeys, 5 carrots, 6 contracts, 7 rumours, 8 what can be undone, 9 kept, 10 row, 11 at rest, 12 how many donkeys and places =====
def rg (a k : Nat) : Nat :=
  if a < 246 then
    if a < 45 then
      if a < 19 then
        if a < 10 then
          if a = 0 then (if k = 14 then 10 else 0) else if a = 1 then (if k = 1 then 1 else 0) else if a = 2 then 1 else if a = 3 then (if k = 2 then 12 else if k = 3 then 4 else 0) else if a = 4 then 0 else if a = 5 then (if k = 4 then 5 else 0) else 5
        else if (a = 10 ∨ a = 13 ∨ a = 16) ∧ k = 2 then 12 else 4
      else if a ≤ 20 then 2 else if a = 21 then (if k = 3 then 3 else 0) else if a = 22 then 3 else if a < 34 then 0 else if a = 34 then (if k = 6 then 6 else 0) else if a < 40 then 6 else if a = 40 then 0 else 7
    else if a ≤ 222 then 8 else if a = 224 ∨ a = 234 then (if k = 6 then 11 else 0) else if a = 225 ∨ a = 235 then (if k = 4 then 11 else 0) else if a = 245 then 10 else 0
  else if a ≤ 277 then 9
  else if a = 278 then (if k = 1 then 12 else if k = 4 then 2 else if k = 5 then 11 else if k = 7 then 5 else if k = 8 then 11 else if k = 10 then 1 else if k = 12 then 10 else if k = 21 then 3 else if k = 29 then 11 else if k = 31 then 8 else if k = 41 then 6 else if k = 49 then 7 else if k = 51 then 12 else 0)
  else if a = 279 then 4 else if a = 280 then 12 else if a = 281 then 2 else if a = 282 then (if k < 40 then 5 else 0) else if a = 283 then 1 else if a = 284 then 10 else if a = 286 then 3 else if a = 288 then 8 else if a = 295 then 6 else if a = 302 then 7 else if a = 304 then 9 else if a = 305 then 9 else if a = 306 then 9 else 0
/-- only these regions have changed -/
def chg (L : List Nat) (M M1 : MEM) : Prop := ∀ a k, rg a k ∉ L → M1 a k = M a k
theorem chg.rf {L : List Nat} {M : MEM} : chg L M M := fun _ _ _ => rfl
theorem chg.up {L : List Nat} {M M1 : MEM} {a k : Nat} {x : Int} (h : rg a k ∈ L) (g : chg L M M1) : chg L M (up2 M1 a k x) := fun a' k' n => by
  rw [up2_at]
  by_cases e : a' = a ∧ k' = k
  · obtain ⟨rfl, rfl⟩ := e
    exact absurd h n
  · rw [if_neg e]
    exact g a' k' n
theorem chg.cpy {L : List Nat} {M M1 : MEM} {a b n : Nat} (h : ∀ k, k < n → rg b k ∈ L) (g : chg L M M1) : chg L M (cpy M1 a b n) := fun a' k' m => by
  rw [cpy_at]
  by_cases e : a' = b ∧ k' < n
  · obtain ⟨rfl, e⟩ := e
    exact absurd (h k' e) m
  · rw [if_neg e]
    exact g a' k' m
theorem chg.tr {L : List Nat} {M M1 M2 : MEM} (h : chg L M M1) (g : chg L M1 M2) : chg L M M2 := fun a k n => (g a k n).trans (h a k n)
theorem chg.sub {L L' : List Nat} {M M1 : MEM} (h : chg L M M1) (s : ∀ r ∈ L, r ∈ L') : chg L' M M1 := fun a k n => h a k (fun q => n (s _ q))
theorem chg.row {L : List Nat} {M M1 : MEM} (h : chg L M M1) {a : Nat} (s : ∀ k, rg a k ∉ L) : M1 a = M a := funext fun k => h a k (s k)
theorem rg_D {a k : Nat} (h1 : 10 ≤ a) (h2 : a ≤ 18) (h : k ≠ 2 ∨ (a ≠ 10 ∧ a ≠ 13 ∧ a ≠ 16)) : rg a k = 4 := by
  unfold rg
  rw [if_pos (by omega), if_pos (by omega), if_pos (by omega), if_neg (by omega), if_neg (by omega)]
theorem rg_P {a : Nat} (h : a = 10 ∨ a = 13 ∨ a = 16) : rg a 2 = 12 := by rcases h with rfl | rfl | rfl <;> rfl
theorem rg_U {a k : Nat} (h1 : 45 ≤ a) (h2 : a ≤ 222) : rg a k = 8 := by
  unfold rg
  rw [if_pos (by omega), if_neg (by omega), if_pos (by omega)]
theorem rg_K {a k : Nat} (h1 : 246 ≤ a) (h2 : a ≤ 277) : rg a k = 9 := by
  unfold rg
  rw [if_neg (by omega), if_pos (by omega)]
theorem rg_car {k : Nat} (h : k < 40) : rg 282 k = 5 := by
  unfold rg
  rw [if_neg (by omega), if_neg (by omega), if_neg (by omega), if_neg (by omega), if_neg (by omega), if_neg (by omega), if_pos rfl, if_pos h]
end
section
-- ===== flies, carrots =====
def sumN (F : Nat → Int) : Nat → Int
  | 0 => 0
  | n + 1 => sumN F n + F n
theorem sumN_S (F : Nat → Int) (n : Nat) : sumN F (n + 1) = sumN F n + F n := rfl
theorem sumN_congr {F G : Nat → Int} : ∀ {n : Nat}, (∀ i, i < n → F i = G i) → sumN F n = sumN G n := by
  intro n
  induction n with
  | zero => intro _; rfl
  | succ n ih => intro h; rw [sumN_S, sumN_S, ih (fun i hi => h i (by omega)), h n (by omega)]
theorem sumN_bd {F : Nat → Int} {a b : Int} : ∀ {n : Nat}, (∀ i, i < n → a ≤ F i ∧ F i ≤ b) → a * n ≤ sumN F n ∧ sumN F n ≤ b * n := by
  intro n
  induction n with
  | zero => intro _; simp [sumN]
  | succ n ih =>
    intro h
    have h1 := ih (fun i hi => h i (by omega))
    have h2 := h n (by omega)
    rw [sumN_S, Int.natCast_add, Int.mul_add, Int.mul_add]
    have e1 : a * ((1 : Nat) : Int) = a := by simp
    have e2 : b * ((1 : Nat) : Int) = b := by simp
    rw [e1, e2]
    omega
/-- what a CARROT does to a DONKEY in a MINUTE -/
def plT (d m w fr to how : Int) : Int := if w = d ∧ fr ≤ m ∧ m ≤ to then how else 0
def plF (c : Nat) (M : MEM) (d m : Int) (i : Nat) : Int := if (i : Int) < M c 4 then plT d m (M (c + 1) i) (M (c + 2) i) (M (c + 3) i) (M (c + 4) i) else 0
def plC (c : Nat) (M : MEM) (d m : Int) : Int := sumN (plF c M d m) 10
def howOk (c : Nat) (M : MEM) : Prop := ∀ i : Nat, (i : Int) < M c 4 → M (c + 4) i = 1 ∨ M (c + 4) i = -1
theorem plF_bd {c : Nat} {M : MEM} {d m : Int} (h : howOk c M) (i : Nat) : -1 ≤ plF c M d m i ∧ plF c M d m i ≤ 1 := by
  unfold plF plT
  split
  · split
    · rcases h i (by assumption) with h | h <;> omega
    · omega
  · omega
theorem plC_bd {c : Nat} {M : MEM} {d m : Int} (h : howOk c M) : -10 ≤ plC c M d m ∧ plC c M d m ≤ 10 := by
  have := sumN_bd (n := 10) (fun i _ => plF_bd (d := d) (m := m) h i)
  unfold plC
  omega
theorem ca_pull_eq {c : Nat} {M : MEM} {d m : Int} (h0 : 0 ≤ M c 4) (h1 : M c 4 ≤ 10) (h : howOk c M) : ca_pull c d m M = some (plC c M d m) := by
  obtain ⟨N, hN⟩ : ∃ N : Nat, M c 4 = (N : Int) := ⟨(M c 4).toNat, by omega⟩
  have hb : ∀ n : Nat, n ≤ 10 → -(n : Int) ≤ sumN (plF c M d m) n ∧ sumN (plF c M d m) n ≤ n := fun n _ => by
    have := sumN_bd (n := n) (fun i _ => plF_bd (d := d) (m := m) h i)
    omega
  have hl : iter (fun s => ca_pull_b5 c d m s.1 s.2 M) FU (0, 0) = some (sumN (plF c M d m) N, (N : Int)) := by
    refine loop_traj (fun i => (sumN (plF c M d m) i, (i : Int))) N (by omega) (fun k hk => ?_) ?_
    · have hkI : (k : Int) < M c 4 := by omega
      have w1 : wr ((k : Int) + 1) = ((k + 1 : Nat) : Int) := (wr_i (by omega) (by omega)).trans (by omega)
      have b1 := hb k (by omega)
      show ca_pull_b5 c d m (sumN (plF c M d m) k) (k : Int) M = _
      unfold ca_pull_b5 ca_pull_j64_5
      rw [if_neg (by omega), if_neg (by omega), if_pos (by omega)]
      simp only [toNat_c, w1]
      rw [sumN_S]
      have eF : plF c M d m k = plT d m (M (c + 1) k) (M (c + 2) k) (M (c + 3) k) (M (c + 4) k) := by unfold plF; rw [if_pos hkI]
      rw [eF]
      unfold plT
      by_cases e1 : M (c + 1) k = d
      · rw [if_pos e1, if_pos (by omega)]
        by_cases e2 : m < M (c + 2) k
        · rw [if_pos e2, if_neg (by omega), Int.add_zero]
        · rw [if_neg e2, if_pos (by omega)]
          by_cases e3 : M (c + 3) k < m
          · rw [if_pos e3, if_neg (by omega), Int.add_zero]
          · rw [if_neg e3, if_pos (by omega), if_pos ⟨e1, by omega, by omega⟩, wr_i]
            · rcases h k hkI with q | q <;> omega
            · rcases h k hkI with q | q <;> omega
      · rw [if_neg e1, if_neg (fun q => e1 q.1), Int.add_zero]
    · show ca_pull_b5 c d m (sumN (plF c M d m) N) (N : Int) M = _
      unfold ca_pull_b5
      rw [if_pos (by omega)]
  unfold ca_pull
  rw [hl, Option.bind_some]
  have e : ∀ k, N + k ≤ 10 → sumN (plF c M d m) (N + k) = sumN (plF c M d m) N := by
    intro k
    induction k with
    | zero => intro _; rfl
    | succ k ih =>
      intro hk
      have z : plF c M d m (N + k) = 0 := by unfold plF; rw [if_neg (by omega)]
      rw [show N + (k + 1) = (N + k) + 1 by omega, sumN_S, ih (by omega), z, Int.add_zero]
  have e10 := e (10 - N) (by omega)
  rw [show N + (10 - N) = 10 by omega] at e10
  unfold plC
  rw [e10]
def flC (M : MEM) (m : Int) : Int := if 1 ≤ M 19 1 then M 20 (m % M 19 1).toNat else 0
theorem fl_in_eq {M : MEM} {m : Int} (hm : InR m) (h0 : 0 ≤ M 19 1) (h1 : M 19 1 ≤ 40) : fl_in m M = some (flC M m) := by
  unfold fl_in flC
  by_cases h : 1 ≤ M 19 1
  · have h2 := Int.emod_nonneg m (show M 19 1 ≠ 0 by omega)
    have h3 := Int.emod_lt_of_pos m (show 0 < M 19 1 by omega)
    rw [if_pos h, if_pos h, floorMod_eq hm (by omega) (by omega), Option.bind_some, if_neg (by omega), if_pos (by omega)]
  · rw [if_neg h, if_neg h]
-- ===== the reference's =====
def hrF (M : MEM) (d m : Int) (i : Nat) : Int := if (i : Int) < M 278 7 ∨ (10 ≤ i ∧ (i : Int) < 10 + M 278 8) then plT d m (M 282 (4 * i)) (M 282 (4 * i + 1)) (M 282 (4 * i + 2)) (M 282 (4 * i + 3)) else 0
def hrM (M : MEM) (d m : Int) : Int := sumN (hrF M d m) 12
def howOkM (M : MEM) : Prop := ∀ i : Nat, ((i : Int) < M 278 7 ∨ (10 ≤ i ∧ (i : Int) < 10 + M 278 8)) → M 282 (4 * i + 3) = 1 ∨ M 282 (4 * i + 3) = -1
theorem hrF_bd {M : MEM} {d m : Int} (h : howOkM M) (i : Nat) : -1 ≤ hrF M d m i ∧ hrF M d m i ≤ 1 := by
  unfold hrF plT
  split
  · split
    · rcases h i (by assumption) with h | h <;> omega
    · omega
  · omega
theorem mo_in_eq (x a b : Int) : mo_in x a b = if a ≤ x ∧ x ≤ b then 1 else 0 := by
  unfold mo_in
  by_cases h : x < a
  · rw [if_pos h, if_neg (by omega)]
  · rw [if_neg h]
    by_cases h2 : b < x
    · rw [if_pos h2, if_neg (by omega)]
    · rw [if_neg h2, if_pos (by omega)]
theorem mo_hurry_eq {M : MEM} {d m : Int} (h0 : 0 ≤ M 278 7) (h1 : M 278 7 ≤ 10) (h2 : 0 ≤ M 278 8) (h3 : M 278 8 ≤ 2) (h : howOkM M) : mo_hurry d m M = some (hrM M d m) := by
  have hb : ∀ n : Nat, n ≤ 12 → -(n : Int) ≤ sumN (hrF M d m) n ∧ sumN (hrF M d m) n ≤ n := fun n _ => by
    have := sumN_bd (n := n) (fun i _ => hrF_bd (d := d) (m := m) h i)
    omega
  have hl : iter (fun s => mo_hurry_b5 d m s.1 s.2 M) FU (0, 0) = some (sumN (hrF M d m) 12, ((12 : Nat) : Int)) := by
    refine loop_traj (fun i => (sumN (hrF M d m) i, (i : Int))) 12 (by omega) (fun k hk => ?_) ?_
    · have w1 : wr ((k : Int) + 1) = ((k + 1 : Nat) : Int) := (wr_i (by omega) (by omega)).trans (by omega)
      have w4 : wr (4 * (k : Int)) = ((4 * k : Nat) : Int) := (wr_i (by omega) (by omega)).trans (by omega)
      have w41 : wr (((4 * k : Nat) : Int) + 1) = ((4 * k + 1 : Nat) : Int) := (wr_i (by omega) (by omega)).trans (by omega)
      have w42 : wr (((4 * k : Nat) : Int) + 2) = ((4 * k + 2 : Nat) : Int) := (wr_i (by omega) (by omega)).trans (by omega)
      have w43 : wr (((4 * k : Nat) : Int) + 3) = ((4 * k + 3 : Nat) : Int) := (wr_i (by omega) (by omega)).trans (by omega)
      have w10 : wr (10 + M 278 8) = 10 + M 278 8 := wr_i (by omega) (by omega)
      have b1 := hb k (by omega)
      have on : ((k : Int) < M 278 7 ∨ (10 ≤ k ∧ (k : Int) < 10 + M 278 8)) → mo_hurry_j43_5 d m (sumN (hrF M d m) k) (k : Int) M = some (.inl (sumN (hrF M d m) (k + 1), ((k + 1 : Nat) : Int))) := fun q => by
        unfold mo_hurry_j43_5 mo_hurry_j99_5
        simp only [w1, w4, w41, w42, w43, toNat_c]
        rw [if_pos (by omega), sumN_S]
        have eF : hrF M d m k = plT d m (M 282 (4 * k)) (M 282 (4 * k + 1)) (M 282 (4 * k + 2)) (M 282 (4 * k + 3)) := by unfold hrF; rw [if_pos q]
        rw [eF, mo_in_eq]
        unfold plT
        by_cases e1 : M 282 (4 * k) = d
        · rw [if_pos e1, if_pos (by omega), if_pos (by omega)]
          by_cases e2 : M 282 (4 * k + 1) ≤ m ∧ m ≤ M 282 (4 * k + 2)
          · rw [if_pos e2, if_neg (by omega), if_pos (by omega), if_pos ⟨e1, e2⟩, wr_i]
            · rcases h k q with q | q <;> omega
            · rcases h k q with q | q <;> omega
          · rw [if_neg e2, if_pos rfl, if_neg (fun q => e2 q.2), Int.add_zero]
        · rw [if_neg e1, if_neg (fun q => e1 q.1), Int.add_zero]
      have off : ¬ ((k : Int) < M 278 7 ∨ (10 ≤ k ∧ (k : Int) < 10 + M 278 8)) → mo_hurry_j99_5 d m (sumN (hrF M d m) k) (k : Int) M = some (.inl (sumN (hrF M d m) (k + 1), ((k + 1 : Nat) : Int))) := fun q => by
        unfold mo_hurry_j99_5
        rw [w1, sumN_S]
        have eF : hrF M d m k = 0 := by unfold hrF; rw [if_neg q]
        rw [eF, Int.add_zero]
      show mo_hurry_b5 d m (sumN (hrF M d m) k) (k : Int) M = _
      unfold mo_hurry_b5
      rw [if_neg (by omega), w10]
      by_cases q1 : (k : Int) < M 278 7
      · rw [if_pos q1]; exact on (Or.inl q1)
      · rw [if_neg q1]
        by_cases q2 : (k : Int) < 10
        · rw [if_pos q2]; exact off (by omega)
        · rw [if_neg q2]
          by_cases q3 : (k : Int) < 10 + M 278 8
          · rw [if_pos q3]; exact on (by omega)
          · rw [if_neg q3]; exact off (by omega)
    · show mo_hurry_b5 d m (sumN (hrF M d m) 12) ((12 : Nat) : Int) M = _
      unfold mo_hurry_b5
      rw [if_pos (by omega)]
  unfold mo_hurry
  rw [hl, Option.bind_some]
  rfl
def flM (M : MEM) (m : Int) : Int := if M 278 5 = -1 then (if M 278 4 = 0 then 0 else M 281 (m % M 278 4).toNat) else M 278 5
theorem mo_fliesIn_eq {M : MEM} {m : Int} (hm : 0 ≤ m) (h0 : 0 ≤ M 278 4) (h1 : M 278 4 ≤ 40) : mo_fliesIn m M = some (flM M m) := by
  unfold mo_fliesIn flM
  by_cases h : M 278 5 = -1
  · rw [if_pos h, if_pos h]
    by_cases h2 : M 278 4 = 0
    · rw [if_pos h2, if_pos h2]
    · have q1 := Int.emod_nonneg m h2
      have q2 := Int.emod_lt_of_pos m (show 0 < M 278 4 by omega)
      rw [if_neg h2, if_neg h2, if_neg h2, tmod_nn hm, if_pos (by omega)]
  · rw [if_neg h, if_neg h]
end
section
-- ===== the class's PACE =====
theorem runL_snoc (g code : Nat → Int) : ∀ (k i : Nat) (l : List Int), runL g code (k + 1) i l = stepL g (code (i + k)) (runL g code k i l) := by
  intro k
  induction k with
  | zero => intro i l; rfl
  | succ k ih =>
    intro i l
    have h : runL g code (k + 1 + 1) i l = runL g code (k + 1) (i + 1) (stepL g (code i) l) := rfl
    rw [h, ih]
    have h2 : runL g code (k + 1) i l = runL g code k (i + 1) (stepL g (code i) l) := rfl
    rw [h2, show i + 1 + k = i + (k + 1) by omega]
def codeOk (size : Int) (code : Nat → Int) : Prop := 0 ≤ size ∧ size ≤ 40 ∧ ∀ i : Nat, (i : Int) < size → 0 ≤ code i ∧ code i ≤ 3000
theorem stepL_congr {g h : Nat → Int} (e : ∀ i, i < 8 → g i = h i) (c : Int) (l : List Int) : stepL g c l = stepL h c l := by
  unfold stepL
  by_cases h1 : c < 1000
  · rw [if_pos h1, if_pos h1]
  · rw [if_neg h1, if_neg h1]
    by_cases h2 : c < 1008
    · rw [if_pos h2, if_pos h2, e _ (by omega)]
    · rw [if_neg h2, if_neg h2]
theorem runL_congr {g h code : Nat → Int} (e : ∀ i, i < 8 → g i = h i) : ∀ (n i : Nat) (l : List Int), runL g code n i l = runL h code n i l := by
  intro n
  induction n with
  | zero => intro i l; rfl
  | succ n ih => intro i l; unfold runL; rw [stepL_congr e, ih]
theorem codeV_congr {g h code : Nat → Int} {size : Int} (e : ∀ i, i < 8 → g i = h i) : codeV size code g = codeV size code h := by
  unfold codeV
  rw [runL_congr e]
theorem codeV_in (size : Int) (code g : Nat → Int) : 0 ≤ codeV size code g ∧ codeV size code g ≤ 4 := by
  unfold codeV
  split <;> omega
theorem ru_pace_eq {M : MEM} (h : codeOk (M 21 3) (M 22)) : ∃ M', ru_pace 21 M = some (codeV (M 21 3) (M 22) (M 24), M') ∧ offR M M' := by
  obtain ⟨h0, h1, h2⟩ := h
  unfold ru_pace
  by_cases hz : M 21 3 = 0
  · refine ⟨M, ?_, offR.rf⟩
    rw [if_pos hz]
    unfold codeV
    rw [if_pos hz]
  · obtain ⟨N, hN⟩ : ∃ N : Nat, M 21 3 = (N : Int) := ⟨(M 21 3).toNat, by omega⟩
    have hl : Tc (iter (fun s => ru_pace_b16 21 s.1 s.2) FU (0, up2 M 21 4 0)) (fun r => stkIs r.2 (runL (M 24) (M 22) N 0 []) ∧ offR M r.2) := by
      refine Tc_n (fun i s => s.1 = (i : Int) ∧ stkIs s.2 (runL (M 24) (M 22) i 0 []) ∧ offR M s.2) N ⟨rfl, ⟨?_, ?_, ?_⟩, ⟨fun c h1 h2 => up2_ne h1, fun k h => rd_k h⟩⟩ (by omega) (fun i s hi hI => ?_) (fun s hI => ?_)
      · show up2 M 21 4 0 21 4 = 0
        exact rd_same
      · exact Nat.zero_le _
      · intro i x hx; cases hx
      · obtain ⟨x, M1⟩ := s
        obtain ⟨rfl, hs, ho⟩ := hI
        have e3 : M1 21 3 = (N : Int) := (ho.2 3 (by decide)).trans hN
        have e22 : M1 22 = M 22 := ho.1 22 (by decide) (by decide)
        have e24 : M1 24 = M 24 := ho.1 24 (by decide) (by decide)
        have w1 : wr ((i : Int) + 1) = ((i + 1 : Nat) : Int) := (wr_i (by omega) (by omega)).trans (by omega)
        have w8 : wr (1000 + 8) = 1008 := wr_i (by omega) (by omega)
        have hc := h2 i (by omega)
        rw [runL_snoc, Nat.zero_add]
        unfold ru_pace_b16 ru_pace_j126_16
        simp only [e3, e22, e24, toNat_c, w1, w8]
        refine Tc_f (by omega) (Tc_f (by omega) (Tc_t (by omega) ?_))
        unfold stepL
        by_cases c1 : M 22 i < 1000
        · rw [if_pos c1]
          refine Tc_f (by omega) ?_
          obtain ⟨M2, q1, q2, q3⟩ := push_eq (M 22 i) hs
          refine Tc_e q1 (Tc_inl ⟨rfl, q2, ho.tr q3⟩)
        · rw [if_neg c1]
          refine Tc_t (by omega) ?_
          by_cases c2 : M 22 i < 1008
          · rw [if_pos c2]
            have w0 : wr (M 22 i - 1000) = M 22 i - 1000 := wr_i (by omega) (by omega)
            rw [w0]
            refine Tc_f (by omega) (Tc_t (by omega) ?_)
            obtain ⟨M2, q1, q2, q3⟩ := push_eq (M 24 (M 22 i - 1000).toNat) hs
            refine Tc_e q1 (Tc_inl ⟨rfl, q2, ho.tr q3⟩)
          · rw [if_neg c2]
            refine Tc_t (by omega) ?_
            obtain ⟨M2, q1, q2, q3⟩ := pop_eq hs
            by_cases c3 : M 22 i = 2256
            · refine Tc_t c3 ?_
              rw [if_pos c3]
              refine Tc_e q1 ?_
              obtain ⟨M3, r1, r2, r3⟩ := push_eq (wr (-(popL (runL (M 24) (M 22) i 0 [])).1)) q2
              exact Tc_e r1 (Tc_inl ⟨rfl, r2, (ho.tr q3).tr r3⟩)
            · refine Tc_f c3 ?_
              rw [if_neg c3]
              refine Tc_e q1 ?_
              obtain ⟨M3, r1, r2, r3⟩ := pop_eq q2
              refine Tc_e r1 (Tc_e (ru_combine_eq _ _ _) ?_)
              have w0 : wr (M 22 i - 2000) = M 22 i - 2000 := wr_i (by omega) (by omega)
              rw [w0]
              obtain ⟨M4, s1, s2, s3⟩ := push_eq (combP (M 22 i - 2000) (popL (popL (runL (M 24) (M 22) i 0 [])).2).1 (popL (runL (M 24) (M 22) i 0 [])).1) r2
              exact Tc_e s1 (Tc_inl ⟨rfl, s2, ((ho.tr q3).tr r3).tr s3⟩)
      · obtain ⟨x, M1⟩ := s
        obtain ⟨rfl, hs, ho⟩ := hI
        have e3 : M1 21 3 = (N : Int) := (ho.2 3 (by decide)).trans hN
        unfold ru_pace_b16
        exact Tc_t (by show M1 21 3 ≤ _; omega) (Tc_inr ⟨hs, ho⟩)
    obtain ⟨r, e1, hs, ho⟩ := hl
    obtain ⟨M2, q1, q2, q3⟩ := pop_eq hs
    refine ⟨M2, ?_, ho.tr q3⟩
    rw [if_neg hz, Option.bind_some, e1, Option.bind_some]
    unfold ru_pace_j132
    rw [q1, Option.bind_some]
    unfold codeV
    rw [if_neg hz, hN, toNat_c]
-- ===== surroundings, a DONKEY's way through the MINUTES =====
/-- FLIES in a MINUTE, CARROTS of a DONKEY in a MINUTE, THE RULE -/
abbrev EN := (Int → Int) × (Int → Int → Int) × ((Nat → Int) → Int)
def gvD (e : EN) (d m : Int) (s : DS) : Nat → Int := fun i =>
  if i = 0 then s.2.1 else if i = 1 then s.1 else if i = 2 then s.2.2.2 s.1.toNat else if i = 3 then e.1 m else if i = 4 then e.2.1 d m else if i = 5 then m else if i = 6 then s.2.2.1 % 12 else d
def paceD (e : EN) (d m : Int) (s : DS) : Int := e.2.2 (gvD e d m s)
def clE (e : EN) : Prop := ∀ g, 0 ≤ e.2.2 g ∧ e.2.2 g ≤ 4
theorem gvD_congr {e : EN} {d m n : Int} {s t : DS} (h0 : 0 ≤ s.1) (h1 : s.1 < n) (h : eqD n s t) : gvD e d m s = gvD e d m t := by
  obtain ⟨q1, q2, q3, q4⟩ := h
  have h2 := q4 s.1.toNat (by omega)
  unfold gvD
  rw [← q1, ← q2, ← q3, h2]
def stepD (e : EN) (n d m : Int) (s : DS) : DS × Bool := walkD n (paceD e d m s).toNat s
def trajD (e : EN) (n d m0 : Int) (s : DS) : Nat → DS
  | 0 => s
  | j + 1 => (stepD e n d (m0 + j) (trajD e n d m0 s j)).1
theorem trajD_S (e : EN) (n d m0 : Int) (s : DS) (j : Nat) : trajD e n d m0 s (j + 1) = (stepD e n d (m0 + j) (trajD e n d m0 s j)).1 := rfl
theorem stepD_k {e : EN} {n d m : Int} {s : DS} (he : clE e) (h : okD n s) : (stepD e n d m s).1.2.2.1 = s.2.2.1 ∨ (stepD e n d m s).1.2.2.1 = s.2.2.1 + 1 := by
  have hp := he (gvD e d m s)
  rcases walkD_strokes (n := n) (by have := h.1; omega) (paceD e d m s).toNat s h.2.2.1 h.2.2.2.1 (by have := h.1; unfold paceD; omega) with q | q
  · exact Or.inl q
  · exact Or.inr q.1
theorem stepD_ok {e : EN} {n d m : Int} {s : DS} (he : clE e) (h : okD n s) (hk : s.2.2.1 + 4 < 1073741824) : okD n (stepD e n d m s).1 := by
  have hp := he (gvD e d m s)
  exact walkD_ok _ _ h (by unfold paceD; omega)
theorem stepD_congr {e : EN} {n d m : Int} {s t : DS} (h : okD n s) (q : eqD n s t) : eqD n (stepD e n d m s).1 (stepD e n d m t).1 ∧ (stepD e n d m s).2 = (stepD e n d m t).2 := by
  unfold stepD paceD
  rw [gvD_congr h.2.2.1 h.2.2.2.1 q]
  exact walkD_congr (by have := h.1; omega) _ h.2.2.1 q
theorem traj_ok {e : EN} {n d m0 : Int} {s : DS} (he : clE e) (h : okD n s) (hk : s.2.2.1 ≤ 1000000000) : ∀ j : Nat, j ≤ 1000000 → okD n (trajD e n d m0 s j) ∧ s.2.2.1 ≤ (trajD e n d m0 s j).2.2.1 ∧ (trajD e n d m0 s j).2.2.1 ≤ s.2.2.1 + j := by
  intro j
  induction j with
  | zero => intro _; exact ⟨h, Int.le_refl _, by show s.2.2.1 ≤ _; omega⟩
  | succ j ih =>
    intro hj
    obtain ⟨h1, h2, h3⟩ := ih (by omega)
    have hs := stepD_k (d := d) (m := m0 + j) he h1
    rw [trajD_S]
    exact ⟨stepD_ok he h1 (by omega), by omega, by omega⟩
theorem traj_congr {e : EN} {n d m0 : Int} {s t : DS} (he : clE e) (h : okD n s) (hk : s.2.2.1 ≤ 1000000000) (q : eqD n s t) : ∀ j : Nat, j ≤ 1000000 → eqD n (trajD e n d m0 s j) (trajD e n d m0 t j) := by
  intro j
  induction j with
  | zero => intro _; exact q
  | succ j ih =>
    intro hj
    rw [trajD_S, trajD_S]
    exact (stepD_congr (traj_ok he h hk j (by omega)).1 (ih (by omega))).1
/-- STROKES in the first j MINUTES -/
def cnt (T : Nat → DS) (j : Nat) : Int := (T j).2.2.1 - (T 0).2.2.1
/-- STROKE i + 1 is struck in MINUTE v -/
def isT (T : Nat → DS) (v : Int) (i : Nat) : Prop := ∃ u : Nat, v = (u : Int) ∧ cnt T u = i ∧ cnt T (u + 1) = i + 1
/-- a way on which STROKES come one by one, up to MINUTE J -/
def stk (T : Nat → DS) (J : Nat) : Prop := ∀ j, j < J → cnt T (j + 1) = cnt T j ∨ cnt T (j + 1) = cnt T j + 1
theorem cnt_0 (T : Nat → DS) : cnt T 0 = 0 := by unfold cnt; omega
theorem cnt_mono {T : Nat → DS} {J : Nat} (h : stk T J) : ∀ {a b : Nat}, a ≤ b → b ≤ J → cnt T a ≤ cnt T b ∧ cnt T b ≤ cnt T a + ((b - a : Nat) : Int) := by
  intro a b hab
  induction b with
  | zero => intro _; have : a = 0 := by omega
            subst this; omega
  | succ b ih =>
    intro hb
    by_cases e : a = b + 1
    · subst e; omega
    · have := ih (by omega) (by omega)
      rcases h b (by omega) with q | q <;> omega
theorem cnt_le {T : Nat → DS} {J : Nat} (h : stk T J) {b : Nat} (hb : b ≤ J) : 0 ≤ cnt T b ∧ cnt T b ≤ b := by
  have := cnt_mono h (Nat.zero_le b) hb
  rw [cnt_0] at this
  omega
theorem isT_uniq {T : Nat → DS} {J : Nat} (h : stk T J) {v w : Int} {i : Nat} (h1 : isT T v i) (h2 : isT T w i) (hv : v < J) (hw : w < J) : v = w := by
  obtain ⟨a, rfl, a1, a2⟩ := h1
  obtain ⟨b, rfl, b1, b2⟩ := h2
  rcases Nat.lt_trichotomy a b with q | q | q
  · have := (cnt_mono h (show a + 1 ≤ b by omega) (by omega)).1
    omega
  · rw [q]
  · have := (cnt_mono h (show b + 1 ≤ a by omega) (by omega)).1
    omega
/-- STROKE i + 1 comes within j MINUTES, if its MINUTE is one of them -/
theorem isT_lt {T : Nat → DS} {J : Nat} (h : stk T J) {v : Int} {i j : Nat} (h1 : isT T v i) (hv : v < J) (hj : j ≤ J) : v < j ↔ (i : Int) < cnt T j := by
  obtain ⟨a, rfl, a1, a2⟩ := h1
  constructor
  · intro q
    have := (cnt_mono h (show a + 1 ≤ j by omega) hj).1
    omega
  · intro q
    by_cases e : a < j
    · omega
    · have := (cnt_mono h (show j ≤ a by omega) (by omega)).1
      omega
theorem traj_stk {e : EN} {n d m0 : Int} {s : DS} (he : clE e) (h : okD n s) (hk : s.2.2.1 ≤ 1000000000) : stk (trajD e n d m0 s) 1000000 := by
  intro j hj
  have := stepD_k (d := d) (m := m0 + j) he (traj_ok (d := d) (m0 := m0) he h hk j (by omega)).1
  unfold cnt
  rw [trajD_S]
  omega
end
section
-- ===== the class's MINUTES to come =====
theorem give_eq {b : Nat} {fl ca m d : Int} {M : MEM} (hb : b ≠ 24) (hb1 : b + 1 ≠ 24) (h0 : 0 ≤ M b 3) (h1 : M b 3 < 12) (h5 : 0 ≤ M b 5) :
    ∃ M', ru_give 21 b fl ca m d M = some M' ∧ (∀ c, c ≠ 24 → M' c = M c) ∧ M' 24 0 = M b 4 ∧ M' 24 1 = M b 3 ∧ M' 24 2 = M (b + 1) (M b 3).toNat ∧ M' 24 3 = fl ∧ M' 24 4 = ca ∧ M' 24 5 = m ∧ M' 24 6 = M b 5 % 12 ∧ M' 24 7 = d := by
  unfold ru_give be_thistlesOn
  have e1 : up2 M 24 0 (M b 4) b 3 = M b 3 := by rw [up2_ne hb]
  simp only [Option.bind_some, Nat.reduceAdd, up2_ne hb, up2_ne hb1]
  rw [if_neg (by omega), if_neg (by omega), if_pos ⟨h0, h1⟩, Option.bind_some, tmod_nn h5]
  refine ⟨_, rfl, fun c hc => ?_, ?_, ?_, ?_, ?_, ?_, ?_, ?_, ?_⟩
  · simp only [up2_ne hc]
  all_goals simp (disch := omega) only [rd_same, rd_k]
/-- what the walks rest on -/
def eOk (f : Nat) (M : MEM) : Prop := (0 ≤ M 19 1 ∧ M 19 1 ≤ 40) ∧ (0 ≤ M 5 4 ∧ M 5 4 ≤ 10 ∧ howOk 5 M) ∧ (0 ≤ M (f + 1) 4 ∧ M (f + 1) 4 ≤ 10 ∧ howOk (f + 1) M) ∧ codeOk (M 21 3) (M 22)
noncomputable def envC (f : Nat) (M : MEM) : EN := (fun m => if 0 ≤ M f 6 then M f 6 else flC M m, fun d m => plC 5 M d m + plC (f + 1) M d m, codeV (M 21 3) (M 22))
theorem envC_cl (f : Nat) (M : MEM) : clE (envC f M) := fun g => codeV_in _ _ _
theorem plC_cg {c : Nat} {M M' : MEM} (h : ∀ q, q ≤ 4 → M' (c + q) = M (c + q)) : plC c M' = plC c M := by
  have h0 := h 0 (by omega)
  rw [Nat.add_zero] at h0
  funext d m
  unfold plC plF
  rw [h0, h 1 (by omega), h 2 (by omega), h 3 (by omega), h 4 (by omega)]
theorem howOk_cg {c : Nat} {M M' : MEM} (h : ∀ q, q ≤ 4 → M' (c + q) = M (c + q)) (g : howOk c M) : howOk c M' := by
  have h0 := h 0 (by omega)
  rw [Nat.add_zero] at h0
  intro i hi
  rw [h0] at hi
  rw [h 4 (by omega)]
  exact g i hi
/-- what MINUTES to come change -/
def offF (f : Nat) (M M' : MEM) : Prop := (∀ c, c ≠ f → c ≠ f + 6 → c ≠ f + 7 → c ≠ f + 9 → c ≠ 21 → c ≠ 23 → c ≠ 24 → M' c = M c) ∧ (∀ k, k ≠ 9 → k ≠ 10 → M' f k = M f k) ∧ (∀ k, k ≠ 4 → M' 21 k = M 21 k) ∧ (∀ k, k ≠ 3 → k ≠ 4 → k ≠ 5 → M' (f + 6) k = M (f + 6) k)
theorem offF.rf {f : Nat} {M : MEM} : offF f M M := ⟨fun _ _ _ _ _ _ _ _ => rfl, fun _ _ _ => rfl, fun _ _ => rfl, fun _ _ _ _ => rfl⟩
theorem offF.tr {f : Nat} {M M1 M2 : MEM} (h : offF f M M1) (g : offF f M1 M2) : offF f M M2 :=
  ⟨fun c a1 a2 a3 a4 a5 a6 a7 => (g.1 c a1 a2 a3 a4 a5 a6 a7).trans (h.1 c a1 a2 a3 a4 a5 a6 a7), fun k a1 a2 => (g.2.1 k a1 a2).trans (h.2.1 k a1 a2), fun k a1 => (g.2.2.1 k a1).trans (h.2.2.1 k a1), fun k a1 a2 a3 => (g.2.2.2 k a1 a2 a3).trans (h.2.2.2 k a1 a2 a3)⟩
theorem offF.env {f : Nat} {M M' : MEM} (hf : f = 224 ∨ f = 234) (h : offF f M M') : envC f M' = envC f M := by
  have r : ∀ c, (c = 5 ∨ c = 6 ∨ c = 7 ∨ c = 8 ∨ c = 9 ∨ c = 19 ∨ c = 20 ∨ c = 22 ∨ (f + 1 ≤ c ∧ c ≤ f + 5)) → M' c = M c := fun c hc => h.1 c (by omega) (by omega) (by omega) (by omega) (by omega) (by omega) (by omega)
  unfold envC flC
  rw [plC_cg (c := 5) (fun q hq => r _ (by omega)), plC_cg (c := f + 1) (fun q hq => r _ (by omega)), h.2.1 6 (by omega) (by omega), h.2.2.1 3 (by omega), r 19 (by omega), r 20 (by omega), r 22 (by omega)]
theorem offF.eOk {f : Nat} {M M' : MEM} (hf : f = 224 ∨ f = 234) (h : offF f M M') (g : eOk f M) : eOk f M' := by
  have r : ∀ c, (c = 5 ∨ c = 6 ∨ c = 7 ∨ c = 8 ∨ c = 9 ∨ c = 19 ∨ c = 20 ∨ c = 22 ∨ (f + 1 ≤ c ∧ c ≤ f + 5)) → M' c = M c := fun c hc => h.1 c (by omega) (by omega) (by omega) (by omega) (by omega) (by omega) (by omega)
  obtain ⟨g1, ⟨g2, g3, g4⟩, ⟨g5, g6, g7⟩, g8⟩ := g
  refine ⟨?_, ⟨?_, ?_, howOk_cg (fun q hq => r _ (by omega)) g4⟩, ⟨?_, ?_, howOk_cg (fun q hq => r _ (by omega)) g7⟩, ?_⟩
  · rw [r 19 (by omega)]; exact g1
  · rw [r 5 (by omega)]; exact g2
  · rw [r 5 (by omega)]; exact g3
  · rw [r (f + 1) (by omega)]; exact g5
  · rw [r (f + 1) (by omega)]; exact g6
  · rw [h.2.2.1 3 (by omega), r 22 (by omega)]; exact g8
theorem ish_c2 : ish i_and 0 1 = 0 ∧ ish i_and 1 1 = 1 ∧ ish i_and 2 1 = 0 ∧ ish i_and 3 1 = 1 ∧ ish i_and 4 1 = 0 ∧ ish i_and 4 2 = 0 ∧ ish i_and 0 4 = 0 ∧ ish i_and 1 4 = 0 ∧ ish i_and 2 4 = 0 ∧ ish i_and 3 4 = 0 ∧ ish i_and 4 4 = 4 := by
  simp only [ish_def]
  decide
theorem did_1 {k p n : Int} {s : DS} (h0 : 0 ≤ p) (hk : k = s.2.2.1) : ish i_and (didD k p (walkD n p.toNat s)) 1 = 0 ↔ (walkD n p.toNat s).1.2.2.1 = k := by
  unfold didD
  by_cases hp : p < 1
  · rw [if_pos hp, ish_c2.2.2.2.2.1, show p.toNat = 0 by omega]
    exact ⟨fun _ => hk.symm, fun _ => rfl⟩
  · rw [if_neg hp]
    unfold flg
    generalize walkD n p.toNat s = r
    by_cases h1 : r.1.2.2.1 = k
    · by_cases h2 : r.2 = true
      · rw [if_neg (by omega), if_pos h2, show (0 : Int) + 2 = 2 from rfl, ish_c2.2.2.1]; exact ⟨fun _ => h1, fun _ => rfl⟩
      · rw [if_neg (by omega), if_neg h2, show (0 : Int) + 0 = 0 from rfl, ish_c2.1]; exact ⟨fun _ => h1, fun _ => rfl⟩
    · by_cases h2 : r.2 = true
      · rw [if_pos (Or.inr h1), if_pos h2, show (1 : Int) + 2 = 3 from rfl, ish_c2.2.2.2.1]; exact ⟨fun q => by omega, fun q => absurd q h1⟩
      · rw [if_pos (Or.inr h1), if_neg h2, show (1 : Int) + 0 = 1 from rfl, ish_c2.2.1]; exact ⟨fun q => by omega, fun q => absurd q h1⟩
theorem did_2 {k p n : Int} {s : DS} (h0 : 0 ≤ p) : ish i_and (didD k p (walkD n p.toNat s)) 2 = 0 ↔ (walkD n p.toNat s).2 = false := by
  unfold didD
  by_cases hp : p < 1
  · rw [if_pos hp, ish_c2.2.2.2.2.2.1, show p.toNat = 0 by omega]
    exact ⟨fun _ => rfl, fun _ => rfl⟩
  · rw [if_neg hp]
    unfold flg
    generalize walkD n p.toNat s = r
    by_cases h1 : r.1.2.2.1 = k
    · by_cases h2 : r.2 = true
      · rw [if_neg (by omega), if_pos h2, show (0 : Int) + 2 = 2 from rfl, ish_c1.2.2.1, h2]; exact ⟨fun q => by omega, fun q => by cases q⟩
      · rw [if_neg (by omega), if_neg h2, show (0 : Int) + 0 = 0 from rfl, ish_c1.1]; exact ⟨fun _ => by simpa using h2, fun _ => rfl⟩
    · by_cases h2 : r.2 = true
      · rw [if_pos (Or.inr h1), if_pos h2, show (1 : Int) + 2 = 3 from rfl, ish_c1.2.2.2.1, h2]; exact ⟨fun q => by omega, fun q => by cases q⟩
      · rw [if_pos (Or.inr h1), if_neg h2, show (1 : Int) + 0 = 1 from rfl, ish_c1.2.1]; exact ⟨fun _ => by simpa using h2, fun _ => rfl⟩
theorem did_4 {k p : Int} {r : DS × Bool} (h0 : 0 ≤ p) : ish i_and (didD k p r) 4 = 0 ↔ p ≠ 0 := by
  unfold didD
  by_cases hp : p < 1
  · rw [if_pos hp, ish_c2.2.2.2.2.2.2.2.2.2.2]
    omega
  · rw [if_neg hp]
    refine ⟨fun _ => by omega, fun _ => ?_⟩
    unfold flg
    split <;> split
    · exact ish_c2.2.2.2.2.2.2.2.2.2.1
    · exact ish_c2.2.2.2.2.2.2.2.1
    · exact ish_c2.2.2.2.2.2.2.2.2.1
    · exact ish_c2.2.2.2.2.2.2.1
theorem did_c (k p : Int) (r : DS × Bool) : didD k p r = 0 ∨ didD k p r = 1 ∨ didD k p r = 2 ∨ didD k p r = 3 ∨ didD k p r = 4 := by
  unfold didD flg
  by_cases h : p < 1
  · rw [if_pos h]; simp
  · rw [if_neg h]
    by_cases h1 : (0 : Int) = 1 ∨ r.1.2.2.1 ≠ k
    · rw [if_pos h1]
      by_cases h2 : r.2 = true
      · rw [if_pos h2]; simp
      · rw [if_neg h2]; simp
    · rw [if_neg h1]
      by_cases h2 : r.2 = true
      · rw [if_pos h2]; simp
      · rw [if_neg h2]; simp
/-- the PACE of a DONKEY, given as the class gives it -/
theorem pace_of {b : Nat} {d m n : Int} {e : EN} {M : MEM} (hb : b ≠ 24) (hb1 : b + 1 ≠ 24) (hd : okD n (dsC b M)) (hc : codeOk (M 21 3) (M 22)) (h2 : e.2.2 = codeV (M 21 3) (M 22)) :
    ∃ M1 M', ru_give 21 b (e.1 m) (e.2.1 d m) m d M = some M1 ∧ ru_pace 21 M1 = some (paceD e d m (dsC b M), M') ∧ (∀ c, c ≠ 21 → c ≠ 23 → c ≠ 24 → M' c = M c) ∧ ∀ k, k ≠ 4 → M' 21 k = M 21 k := by
  obtain ⟨q1, q2, q3, q4, q5, q6, q7, q8, q9⟩ := hd
  simp only [dsC] at q3 q4 q7
  obtain ⟨M1, e1, o1, g0, g1, g2, g3, g4, g5, g6, g7⟩ := give_eq (fl := e.1 m) (ca := e.2.1 d m) (m := m) (d := d) hb hb1 q3 (by omega) q7
  have r21 : M1 21 = M 21 := o1 21 (by decide)
  have r22 : M1 22 = M 22 := o1 22 (by decide)
  obtain ⟨M', e2, o2⟩ := ru_pace_eq (M := M1) (by rw [r21, r22]; exact hc)
  refine ⟨M1, M', e1, ?_, fun c c1 c2 c3 => (o2.1 c c1 c2).trans (o1 c c3), fun k hk => (o2.2 k hk).trans (by rw [r21])⟩
  rw [e2, r21, r22]
  unfold paceD
  rw [h2, codeV_congr (h := gvD e d m (dsC b M))]
  intro i hi
  unfold gvD dsC
  have hi : i = 0 ∨ i = 1 ∨ i = 2 ∨ i = 3 ∨ i = 4 ∨ i = 5 ∨ i = 6 ∨ i = 7 := by omega
  rcases hi with rfl | rfl | rfl | rfl | rfl | rfl | rfl | rfl
  · exact g0
  · exact g1
  · exact g2
  · exact g3
  · exact g4
  · exact g5
  · exact g6
  · exact g7
/-- the future of a DONKEY d behind j MINUTES of the way T -/
def futAt (f : Nat) (e : EN) (n d m0 : Int) (T : Nat → DS) (j : Nat) (M : MEM) : Prop :=
  envC f M = e ∧ eOk f M ∧ M (f + 6) 2 = n ∧ eqD n (T j) (dsC (f + 6) M) ∧ M f 7 = d ∧ M f 8 = m0 ∧ M f 9 = (j : Int) ∧ M f 10 = cnt T j ∧ ∀ i : Nat, (i : Int) < cnt T j → isT T (M (f + 9) i) i ∧ M (f + 9) i < j
theorem fut_step {f : Nat} {e : EN} {n d m0 : Int} {s : DS} {j : Nat} {M : MEM} (hf : f = 224 ∨ f = 234) (hs : okD n s) (hk : s.2.2.1 ≤ 100000000) (hm0 : 0 ≤ m0) (hm1 : m0 ≤ 100000000) (hj : j < 600) (h : futAt f e n d m0 (trajD e n d m0 s) j M) :
    ∃ did M', fu_step f M = some (did, M') ∧ futAt f e n d m0 (trajD e n d m0 s) (j + 1) M' ∧ offF f M M' ∧ (ish i_and did 1 = 0 ↔ cnt (trajD e n d m0 s) (j + 1) = cnt (trajD e n d m0 s) j) ∧ (ish i_and did 4 = 0 ↔ paceD e d (m0 + j) (trajD e n d m0 s j) ≠ 0) ∧ (did = 0 ∨ did = 1 ∨ did = 2 ∨ did = 3 ∨ did = 4) := by
  have hcl : clE e := by rw [← h.1]; exact envC_cl f M
  have hst := traj_stk (d := d) (m0 := m0) hcl hs (by omega)
  have hok := (traj_ok (d := d) (m0 := m0) hcl hs (by omega) j (by omega))
  have hS := trajD_S e n d m0 s j
  generalize hT : trajD e n d m0 s = T at *
  have hT0 : (T 0).2.2.1 = s.2.2.1 := by rw [← hT]; rfl
  obtain ⟨h1, h2, h3, h4, h5, h6, h7, h8, h9⟩ := h
  obtain ⟨hok, hkl, hkr⟩ := hok
  have hcb := cnt_le hst (show j ≤ 1000000 by omega)
  have hokM : okD n (dsC (f + 6) M) := okD_congr h4 hok
  have ep : paceD e d (m0 + j) (dsC (f + 6) M) = paceD e d (m0 + j) (T j) := by unfold paceD; rw [gvD_congr hok.2.2.1 hok.2.2.2.1 h4]
  have hp := hcl (gvD e d (m0 + j) (T j))
  have hp0 : 0 ≤ paceD e d (m0 + j) (T j) := hp.1
  have hp4 : paceD e d (m0 + j) (T j) ≤ 4 := hp.2
  have hw : wr (M f 8 + M f 9) = m0 + j := by rw [h6, h7]; exact wr_i (by omega) (by omega)
  obtain ⟨g1, ⟨g2, g3, g4⟩, ⟨g5, g6, g7⟩, g8⟩ := h2
  have efl : (if 0 ≤ M f 6 then M f 6 else flC M (m0 + j)) = e.1 (m0 + j) := by rw [← h1]; rfl
  have epl : plC 5 M d (m0 + j) + plC (f + 1) M d (m0 + j) = e.2.1 d (m0 + j) := by rw [← h1]; rfl
  have ecv : e.2.2 = codeV (M 21 3) (M 22) := by rw [← h1]; rfl
  have hpl := plC_bd (d := d) (m := m0 + j) g4
  have hpl2 := plC_bd (d := d) (m := m0 + j) g7
  obtain ⟨M1, M2, e1, e2, o1, o2⟩ := pace_of (b := f + 6) (d := d) (m := m0 + j) (e := e) (M := M) (by omega) (by omega) hokM g8 ecv
  have ho6 : M2 (f + 6) = M (f + 6) := o1 _ (by omega) (by omega) (by omega)
  have ho7 : M2 (f + 7) = M (f + 7) := o1 _ (by omega) (by omega) (by omega)
  have hof : M2 f = M f := o1 _ (by omega) (by omega) (by omega)
  have hds : dsC (f + 6) M2 = dsC (f + 6) M := by unfold dsC; rw [ho6, show f + 6 + 1 = f + 7 by omega, ho7]
  rw [ep] at e2
  have hk5 : M (f + 6) 5 = (T j).2.2.1 := h4.2.2.1.symm
  obtain ⟨M3, e3, d3, n3, o3⟩ := be_walk_eq (b := f + 6) (n := n) (pace := paceD e d (m0 + j) (T j)) (M := M2) hp0 hp4 (by rw [ho6]; exact h3) (by rw [hds]; exact hokM) (by rw [ho6]; omega)
  rw [hds, ho6, hk5] at e3
  rw [hds] at d3
  -- the step of T against the step of the cells
  have hcg := walkD_congr (n := n) (by have := hs.1; omega) (paceD e d (m0 + j) (T j)).toNat hok.2.2.1 h4
  have hTn : T (j + 1) = (walkD n (paceD e d (m0 + j) (T j)).toNat (T j)).1 := hS
  have hkn : (walkD n (paceD e d (m0 + j) (T j)).toNat (dsC (f + 6) M)).1.2.2.1 = (T (j + 1)).2.2.1 := by rw [hTn]; exact hcg.1.2.2.1.symm
  have hd1 := did_1 (n := n) (k := (T j).2.2.1) (s := dsC (f + 6) M) hp0 h4.2.2.1
  rw [hkn] at hd1
  have hcs : cnt T (j + 1) = cnt T j ∨ cnt T (j + 1) = cnt T j + 1 := hst j (by omega)
  have hce : (T (j + 1)).2.2.1 = (T j).2.2.1 ↔ cnt T (j + 1) = cnt T j := by unfold cnt; omega
  have hd4 := did_4 (k := (T j).2.2.1) (r := walkD n (paceD e d (m0 + j) (T j)).toNat (dsC (f + 6) M)) hp0
  have hdid := did_c (T j).2.2.1 (paceD e d (m0 + j) (T j)) (walkD n (paceD e d (m0 + j) (T j)).toNat (dsC (f + 6) M))
  generalize hdd : didD (T j).2.2.1 (paceD e d (m0 + j) (T j)) (walkD n (paceD e d (m0 + j) (T j)).toNat (dsC (f + 6) M)) = did at *
  have h3f : M3 f = M f := (o3.1 f (by omega) (by omega)).trans hof
  have eq3 : eqD n (T (j + 1)) (dsC (f + 6) M3) := by rw [d3, hTn]; exact hcg.1
  have h39 : M3 (f + 9) = M (f + 9) := (o3.1 _ (by omega) (by omega)).trans (o1 _ (by omega) (by omega) (by omega))
  have hb24 : offF f M M3 := by
    refine ⟨fun c c1 c2 c3 c4 c5 c6 c7 => (o3.1 c c2 (by omega)).trans (o1 c c5 c6 c7), fun k _ _ => by rw [h3f], fun k hk => ?_, fun k k3 k4 k5 => (o3.2 k k3 k4 k5).trans (by rw [ho6])⟩
    rw [o3.1 21 (by omega) (by omega)]; exact o2 k hk
  -- the program
  have hrun : fu_step f M = (if ish i_and did 1 = 0 then fu_step_j142 f did M3 else fu_step_j142 f did (up2 (up2 M3 (f + 9) (M f 10).toNat (M f 9)) f 10 (wr (M f 10 + 1)))) := by
    have ej : ∀ x0, x0 = e.1 (m0 + j) → fu_step_j32 f (m0 + j) x0 M = (if ish i_and did 1 = 0 then fu_step_j142 f did M3 else fu_step_j142 f did (up2 (up2 M3 (f + 9) (M f 10).toNat (M f 9)) f 10 (wr (M f 10 + 1)))) := fun x0 hx => by
      unfold fu_step_j32
      rw [h5, ca_pull_eq g2 g3 g4, Option.bind_some, ca_pull_eq g5 g6 g7, Option.bind_some, epl, wr_i (by omega) (by omega), hx, e1, Option.bind_some, e2, Option.bind_some, e3, Option.bind_some]
      dsimp only
      have h310 : M3 f 10 = M f 10 := by rw [h3f]
      have h309 : M3 f 9 = M f 9 := by rw [h3f]
      by_cases hc : ish i_and did 1 = 0
      · rw [if_pos hc, if_pos hc]
      · rw [if_neg hc, if_neg hc, if_neg (by omega), if_neg (by omega), if_pos (by omega), Option.bind_some, h310, h309]
        have r10 : up2 M3 (f + 9) (M f 10).toNat (M f 9) f 10 = M f 10 := by rw [rd_a (by omega), h3f]
        rw [r10, Option.bind_some]
    unfold fu_step
    rw [hw]
    by_cases h6 : 0 ≤ M f 6
    · rw [if_pos h6]
      rw [if_pos h6] at efl
      exact ej _ efl
    · rw [if_neg h6]
      rw [if_neg h6] at efl
      rw [fl_in_eq (by unfold InR; omega) g1.1 g1.2, Option.bind_some]
      exact ej _ efl
  rw [hrun]
  by_cases hc : ish i_and did 1 = 0
  · have hcc := hce.mp (hd1.mp hc)
    rw [if_pos hc]
    unfold fu_step_j142
    rw [Option.bind_some, h3f, h7, wr_i (by omega) (by omega)]
    have hof2 : offF f M (up2 M3 f 9 ((j : Int) + 1)) := hb24.tr ⟨fun c c1 c2 c3 c4 c5 c6 c7 => up2_ne c1, fun k k9 k10 => rd_k k9, fun k hk => rd_a (by omega), fun k k3 k4 k5 => rd_a (by omega)⟩
    refine ⟨did, _, rfl, ⟨(hof2.env hf).trans h1, hof2.eOk hf ⟨g1, ⟨g2, g3, g4⟩, ⟨g5, g6, g7⟩, g8⟩, ?_, ?_, ?_, ?_, ?_, ?_, fun i hi => ?_⟩, hof2, hd1.trans hce, hd4, hdid⟩
    · rw [rd_a (by omega)]; exact n3
    · have : dsC (f + 6) (up2 M3 f 9 ((j : Int) + 1)) = dsC (f + 6) M3 := by unfold dsC; rw [up2_ne (by omega), up2_ne (by omega)]
      rw [this]; exact eq3
    · rw [rd_k (by omega), h3f]; exact h5
    · rw [rd_k (by omega), h3f]; exact h6
    · rw [rd_same]; omega
    · rw [rd_k (by omega), h3f, hcc]; exact h8
    · rw [hcc] at hi
      rw [rd_a (by omega), h39]
      have := h9 i hi
      exact ⟨this.1, by have := this.2; omega⟩
  · have hcc : cnt T (j + 1) = cnt T j + 1 := by
      rcases hcs with q | q
      · exact absurd (hd1.mpr (hce.mpr q)) hc
      · exact q
    rw [if_neg hc]
    unfold fu_step_j142
    obtain ⟨c, hcn⟩ : ∃ c : Nat, cnt T j = (c : Int) := ⟨(cnt T j).toNat, by omega⟩
    have r9 : up2 (up2 M3 (f + 9) (M f 10).toNat (M f 9)) f 10 (wr (M f 10 + 1)) f 9 = j := by rw [rd_k (by omega), rd_a (by omega), h3f, h7]
    rw [Option.bind_some, r9, wr_i (x := (j : Int) + 1) (by omega) (by omega), h8, h7, hcn, toNat_c, wr_i (x := (c : Int) + 1) (by omega) (by omega)]
    have hof2 : offF f M (up2 (up2 (up2 M3 (f + 9) c (j : Int)) f 10 ((c : Int) + 1)) f 9 ((j : Int) + 1)) := hb24.tr ⟨fun c c1 c2 c3 c4 c5 c6 c7 => by rw [up2_ne c1, up2_ne c1, up2_ne c4], fun k k9 k10 => by rw [rd_k k9, rd_k k10, rd_a (by omega)], fun k hk => by rw [rd_a (by omega), rd_a (by omega), rd_a (by omega)], fun k k3 k4 k5 => by rw [rd_a (by omega), rd_a (by omega), rd_a (by omega)]⟩
    refine ⟨did, _, rfl, ⟨(hof2.env hf).trans h1, hof2.eOk hf ⟨g1, ⟨g2, g3, g4⟩, ⟨g5, g6, g7⟩, g8⟩, ?_, ?_, ?_, ?_, ?_, ?_, fun i hi => ?_⟩, hof2, by rw [← hcn]; exact hd1.trans hce, hd4, hdid⟩
    · rw [rd_a (by omega), rd_a (by omega), rd_a (by omega)]; exact n3
    · have : dsC (f + 6) (up2 (up2 (up2 M3 (f + 9) c (j : Int)) f 10 ((c : Int) + 1)) f 9 ((j : Int) + 1)) = dsC (f + 6) M3 := by unfold dsC; rw [up2_ne (by omega), up2_ne (by omega), up2_ne (by omega), up2_ne (by omega), up2_ne (by omega), up2_ne (by omega)]
      rw [this]; exact eq3
    · rw [rd_k (by omega), rd_k (by omega), rd_a (by omega), h3f]; exact h5
    · rw [rd_k (by omega), rd_k (by omega), rd_a (by omega), h3f]; exact h6
    · rw [rd_same]; omega
    · rw [rd_k (by omega), rd_same, hcc, hcn]
    · rw [hcc, hcn] at hi
      rw [rd_a (by omega), rd_a (by omega)]
      by_cases hic : i = c
      · subst hic
        rw [rd_same]
        exact ⟨⟨j, rfl, hcn, by rw [hcc, hcn]⟩, by omega⟩
      · rw [rd_k hic, h39]
        have := h9 i (by omega)
        exact ⟨this.1, by have := this.2; omega⟩
end
section
-- ===== the class's MINUTES to come: begun, gone through =====
theorem fut_run {f : Nat} {e : EN} {n d m0 till most : Int} {s : DS} {j : Nat} {M : MEM} (hf : f = 224 ∨ f = 234) (hs : okD n s) (hk : s.2.2.1 ≤ 100000000) (hm0 : 0 ≤ m0) (hm1 : m0 ≤ 100000000) (ht : till ≤ 600) (hj : j ≤ 600) (h : futAt f e n d m0 (trajD e n d m0 s) j M) :
    ∃ j' M', fu_run f till most M = some M' ∧ futAt f e n d m0 (trajD e n d m0 s) j' M' ∧ offF f M M' ∧ j ≤ j' ∧ (j' = j ∨ (j' : Int) ≤ till) ∧ (till ≤ j' ∨ most ≤ cnt (trajD e n d m0 s) j') ∧ ∀ i, j ≤ i → i < j' → cnt (trajD e n d m0 s) i < most := by
  have hl : Tc (iter (fun s => fu_run_b5 f till most s.1 s.2) FU (M f 9, M)) (fun r => ∃ j', futAt f e n d m0 (trajD e n d m0 s) j' r.2 ∧ offF f M r.2 ∧ j ≤ j' ∧ (j' = j ∨ (j' : Int) ≤ till) ∧ (till ≤ j' ∨ most ≤ cnt (trajD e n d m0 s) j') ∧ ∀ i, j ≤ i → i < j' → cnt (trajD e n d m0 s) i < most) := by
    refine Tc_l (fun i q => q.1 = ((j + i : Nat) : Int) ∧ futAt f e n d m0 (trajD e n d m0 s) (j + i) q.2 ∧ offF f M q.2 ∧ (i = 0 ∨ ((j + i : Nat) : Int) ≤ till) ∧ ∀ i', j ≤ i' → i' < j + i → cnt (trajD e n d m0 s) i' < most) _ (600 - j) ⟨h.2.2.2.2.2.2.1, h, offF.rf, Or.inl rfl, fun i' h1 h2 => by omega⟩ (by omega) (fun i q hi hI => ?_) (fun q hI => ?_)
    · obtain ⟨x, M1⟩ := q
      obtain ⟨rfl, h1, h2, h3, h4⟩ := hI
      have h10 : M1 f 10 = cnt (trajD e n d m0 s) (j + i) := h1.2.2.2.2.2.2.2.1
      unfold fu_run_b5
      refine Tc_i (fun c => ?_) (fun c => Tc_i (fun c2 => ?_) (fun c2 => ?_))
      · exact Tc_inrR ⟨j + i, h1, h2, by omega, by omega, Or.inl c, h4⟩
      · exact Tc_inrR ⟨j + i, h1, h2, by omega, by omega, Or.inr (by rw [← h10]; exact c2), h4⟩
      · have c2 : ¬ most ≤ M1 f 10 := c2
        have c : ¬ till ≤ ((j + i : Nat) : Int) := c
        obtain ⟨did, M2, e1, e2, e3, -⟩ := fut_step hf hs hk hm0 hm1 (by omega) h1
        refine Tc_e e1 (Tc_inlL ⟨?_, e2, h2.tr e3, Or.inr (by omega), fun i' q1 q2 => ?_⟩)
        · show wr (((j + i : Nat) : Int) + 1) = _
          rw [wr_i (by omega) (by omega)]
          omega
        · by_cases q3 : i' = j + i
          · subst q3; omega
          · exact h4 i' q1 (by omega)
    · obtain ⟨x, M1⟩ := q
      obtain ⟨rfl, h1, h2, h3, h4⟩ := hI
      unfold fu_run_b5
      refine Tc_t (by show till ≤ ((j + (600 - j) : Nat) : Int); omega) (Tc_inr ⟨j + (600 - j), h1, h2, by omega, by omega, Or.inl (by omega), h4⟩)
  obtain ⟨r, e1, j', h1⟩ := hl
  refine ⟨j', r.2, ?_, h1⟩
  unfold fu_run
  rw [e1]
  rfl
/-- so many MINUTES, none left out -/
theorem fut_run600 {f : Nat} {e : EN} {n d m0 till : Int} {s : DS} {j : Nat} {M : MEM} (hf : f = 224 ∨ f = 234) (hs : okD n s) (hk : s.2.2.1 ≤ 100000000) (hm0 : 0 ≤ m0) (hm1 : m0 ≤ 100000000) (ht : till ≤ 600) (hj : j ≤ 600) (h : futAt f e n d m0 (trajD e n d m0 s) j M) :
    ∃ M', fu_run f till 600 M = some M' ∧ futAt f e n d m0 (trajD e n d m0 s) (max j till.toNat) M' ∧ offF f M M' := by
  obtain ⟨j', M', e1, h1, h2, h3, h4, h5, h6⟩ := fut_run (most := 600) hf hs hk hm0 hm1 ht hj h
  have hcl : clE e := by rw [← h.1]; exact envC_cl f M
  have hst := traj_stk (d := d) (m0 := m0) hcl hs (by omega)
  have := cnt_le hst (show j' ≤ 1000000 by omega)
  have : j' = max j till.toNat := by omega
  subst this
  exact ⟨M', e1, h1, h2⟩
theorem cpy_row {M : MEM} {a b n : Nat} (k : Nat) (h : k < n) : cpy M a b n b k = M a k := by rw [cpy_at, if_pos ⟨rfl, h⟩]
theorem cpy_rowb {M : MEM} {a b n : Nat} (k : Nat) (h : n ≤ k) : cpy M a b n b k = M b k := by rw [cpy_at, if_neg (by omega)]
/-- what beginning changes, too -/
def offL (f : Nat) (M M' : MEM) : Prop := (∀ c, c ≠ f → c ≠ f + 6 → c ≠ f + 7 → c ≠ f + 9 → c ≠ 21 → c ≠ 23 → c ≠ 24 → M' c = M c) ∧ (∀ k, (k < 7 ∨ 10 < k) → M' f k = M f k) ∧ (∀ k, k ≠ 4 → M' 21 k = M 21 k)
theorem offL.rf {f : Nat} {M : MEM} : offL f M M := ⟨fun _ _ _ _ _ _ _ _ => rfl, fun _ _ => rfl, fun _ _ => rfl⟩
theorem offL.tr {f : Nat} {M M1 M2 : MEM} (h : offL f M M1) (g : offL f M1 M2) : offL f M M2 :=
  ⟨fun c a1 a2 a3 a4 a5 a6 a7 => (g.1 c a1 a2 a3 a4 a5 a6 a7).trans (h.1 c a1 a2 a3 a4 a5 a6 a7), fun k a1 => (g.2.1 k a1).trans (h.2.1 k a1), fun k a1 => (g.2.2 k a1).trans (h.2.2 k a1)⟩
theorem offF.L {f : Nat} {M M' : MEM} (h : offF f M M') : offL f M M' := ⟨h.1, fun k hk => h.2.1 k (by omega) (by omega), h.2.2.1⟩
theorem offL.chg {f : Nat} {M M' : MEM} (hf : f = 224 ∨ f = 234) (h : offL f M M') : chg [0] M M' := fun a k hn => by
  by_cases h1 : a = f
  · subst h1
    refine h.2.1 k ?_
    rcases hf with rfl | rfl
    · by_cases h6 : k = 6
      · omega
      · exact absurd (by unfold rg; simp [h6]) hn
    · by_cases h6 : k = 6
      · omega
      · exact absurd (by unfold rg; simp [h6]) hn
  · by_cases h2 : a = 21
    · subst h2
      refine h.2.2 k (fun h4 => ?_)
      subst h4
      exact hn (by decide)
    · by_cases h3 : a = f + 6 ∨ a = f + 7 ∨ a = f + 9 ∨ a = 23 ∨ a = 24
      · refine absurd ?_ hn
        rcases hf with rfl | rfl <;> rcases h3 with rfl | rfl | rfl | rfl | rfl <;> exact List.mem_singleton.mpr rfl
      · rw [h.1 a (by omega) (by omega) (by omega) (by omega) (by omega) (by omega) (by omega)]
theorem offL.env {f : Nat} {M M' : MEM} (hf : f = 224 ∨ f = 234) (h : offL f M M') : envC f M' = envC f M := by
  have r : ∀ c, (c = 5 ∨ c = 6 ∨ c = 7 ∨ c = 8 ∨ c = 9 ∨ c = 19 ∨ c = 20 ∨ c = 22 ∨ (f + 1 ≤ c ∧ c ≤ f + 5)) → M' c = M c := fun c hc => h.1 c (by omega) (by omega) (by omega) (by omega) (by omega) (by omega) (by omega)
  unfold envC flC
  rw [plC_cg (c := 5) (fun q hq => r _ (by omega)), plC_cg (c := f + 1) (fun q hq => r _ (by omega)), h.2.1 6 (by omega), h.2.2 3 (by omega), r 19 (by omega), r 20 (by omega), r 22 (by omega)]
theorem offL.eOk {f : Nat} {M M' : MEM} (hf : f = 224 ∨ f = 234) (h : offL f M M') (g : eOk f M) : eOk f M' := by
  have r : ∀ c, (c = 5 ∨ c = 6 ∨ c = 7 ∨ c = 8 ∨ c = 9 ∨ c = 19 ∨ c = 20 ∨ c = 22 ∨ (f + 1 ≤ c ∧ c ≤ f + 5)) → M' c = M c := fun c hc => h.1 c (by omega) (by omega) (by omega) (by omega) (by omega) (by omega) (by omega)
  obtain ⟨g1, ⟨g2, g3, g4⟩, ⟨g5, g6, g7⟩, g8⟩ := g
  refine ⟨?_, ⟨?_, ?_, howOk_cg (fun q hq => r _ (by omega)) g4⟩, ⟨?_, ?_, howOk_cg (fun q hq => r _ (by omega)) g7⟩, ?_⟩
  · rw [r 19 (by omega)]; exact g1
  · rw [r 5 (by omega)]; exact g2
  · rw [r 5 (by omega)]; exact g3
  · rw [r (f + 1) (by omega)]; exact g5
  · rw [r (f + 1) (by omega)]; exact g6
  · rw [h.2.2 3 (by omega), r 22 (by omega)]; exact g8
theorem isDonkey_eq {M : MEM} {d : Int} (h : M 3 2 ≤ 3) : dh_isDonkey d M = if 0 ≤ d ∧ d < M 3 2 then 1 else 0 := by
  unfold dh_isDonkey
  by_cases h0 : d < 0
  · rw [if_pos h0, if_neg (by omega)]
  · rw [if_neg h0]
    by_cases h1 : M 3 2 ≤ d
    · rw [if_pos h1, if_neg (by omega)]
    · rw [if_neg h1, if_neg (by omega), if_pos (by omega)]
theorem isDonkey_y {M : MEM} {d : Int} (h : M 3 2 ≤ 3) (h0 : 0 ≤ d) (h1 : d < M 3 2) : dh_isDonkey d M = 1 := by rw [isDonkey_eq h, if_pos ⟨h0, h1⟩]
theorem isDonkey_n {M : MEM} {d : Int} (h : M 3 2 ≤ 3) (h1 : ¬ (0 ≤ d ∧ d < M 3 2)) : dh_isDonkey d M = 0 := by rw [isDonkey_eq h, if_neg h1]
/-- a future begun -/
theorem look_eq {f : Nat} {d : Int} {M : MEM} (hf : f = 224 ∨ f = 234) (h3 : M 3 2 ≤ 3) (h0 : 0 ≤ d) (h1 : d < M 3 2) (hp : 0 ≤ M (10 + 3 * d.toNat) 2 ∧ M (10 + 3 * d.toNat) 2 ≤ 12) :
    ∃ M', dh_look f d M = some M' ∧ offL f M M' ∧ M' (f + 6) 2 = M (10 + 3 * d.toNat) 2 ∧ eqD (M (10 + 3 * d.toNat) 2) (dsC (10 + 3 * d.toNat) M) (dsC (f + 6) M') ∧ M' f 7 = d ∧ M' f 8 = M 3 3 ∧ M' f 9 = 0 ∧ M' f 10 = 0 := by
  unfold dh_look
  rw [isDonkey_y h3 h0 h1, if_neg (by decide), if_pos (by omega)]
  generalize hb : 10 + 3 * d.toNat = b at *
  have hb1 : b ≤ 16 := by omega
  unfold fu_begin be_copyButBook
  simp only [Option.bind_some]
  have a1 : ∀ x, up2 M (f + 6) 2 x b = M b := fun x => up2_ne (by omega)
  have a2 : ∀ x y, up2 (up2 M (f + 6) 2 x) (f + 6) 3 y b = M b := fun x y => by rw [up2_ne (by omega), up2_ne (by omega)]
  have a3 : ∀ x y z, up2 (up2 (up2 M (f + 6) 2 x) (f + 6) 3 y) (f + 6) 4 z b = M b := fun x y z => by rw [up2_ne (by omega), up2_ne (by omega), up2_ne (by omega)]
  simp only [a1, a2, a3]
  refine ⟨_, rfl, ⟨fun c c1 c2 c3 c4 c5 c6 c7 => ?_, fun k hk => ?_, fun k hk => ?_⟩, ?_, ?_, ?_, ?_, ?_, ?_⟩
  · simp (disch := omega) only [up2_ne, cpy_ne]
  · rw [rd_k (by omega), rd_k (by omega), rd_k (by omega), rd_k (by omega), cpy_ne (by omega)]
    simp (disch := omega) only [up2_ne]
  · simp (disch := omega) only [up2_ne, cpy_ne]
  · simp (disch := omega) only [rd_a, cpy_ne, rd_k, rd_same]
  · have e6 : ∀ x y z w (N : MEM), up2 (up2 (up2 (up2 N f 7 x) f 8 y) f 9 z) f 10 w (f + 6) = N (f + 6) := fun x y z w N => by simp (disch := omega) only [up2_ne]
    have e7 : ∀ x y z w (N : MEM), up2 (up2 (up2 (up2 N f 7 x) f 8 y) f 9 z) f 10 w (f + 6 + 1) = N (f + 6 + 1) := fun x y z w N => by simp (disch := omega) only [up2_ne]
    refine ⟨?_, ?_, ?_, fun p hp2 => ?_⟩
    · unfold dsC; dsimp only; rw [e6, cpy_ne (by omega)]; simp (disch := omega) only [rd_k, rd_same]
    · unfold dsC; dsimp only; rw [e6, cpy_ne (by omega)]; simp (disch := omega) only [rd_k, rd_same]
    · unfold dsC; dsimp only; rw [e6, cpy_ne (by omega)]; simp (disch := omega) only [rd_same]
    · unfold dsC; dsimp only; rw [e7, cpy_row _ (by omega)]; simp (disch := omega) only [up2_ne]
  · simp (disch := omega) only [rd_k, rd_same]
  · simp (disch := omega) only [rd_k, rd_same]
  · simp (disch := omega) only [rd_k, rd_same]
  · simp (disch := omega) only [rd_same]
theorem fut0 {f : Nat} {e : EN} {n d m0 : Int} {s : DS} {M : MEM} (h1 : envC f M = e) (h2 : eOk f M) (h3 : M (f + 6) 2 = n) (h4 : eqD n s (dsC (f + 6) M)) (h5 : M f 7 = d) (h6 : M f 8 = m0) (h7 : M f 9 = 0) (h8 : M f 10 = 0) : futAt f e n d m0 (trajD e n d m0 s) 0 M :=
  ⟨h1, h2, h3, h4, h5, h6, h7, by rw [cnt_0]; exact h8, fun i hi => by rw [cnt_0] at hi; omega⟩
end
section
-- ===== the reference's PACE (for now without proof) =====
noncomputable def envM (M : MEM) : EN := (flM M, hrM M, codeV (M 21 3) (M 22))
def emOk (M : MEM) : Prop := (0 ≤ M 278 4 ∧ M 278 4 ≤ 40) ∧ (0 ≤ M 278 7 ∧ M 278 7 ≤ 10) ∧ (0 ≤ M 278 8 ∧ M 278 8 ≤ 2) ∧ howOkM M
/-- what the reference's PACE changes -/
def offP (M M' : MEM) : Prop := (∀ c, c ≠ 278 → M' c = M c) ∧ ∀ k, (k < 14 ∨ 18 < k) → k ≠ 22 → k ≠ 23 → M' 278 k = M 278 k
theorem offP.rf {M : MEM} : offP M M := ⟨fun _ _ => rfl, fun _ _ _ _ => rfl⟩
theorem offP.tr {M M1 M2 : MEM} (h : offP M M1) (g : offP M1 M2) : offP M M2 := ⟨fun c a => (g.1 c a).trans (h.1 c a), fun k a b c => (g.2 k a b c).trans (h.2 k a b c)⟩
def rlOk (M : MEM) : Prop := codeOk (M 21 3) (M 22)
theorem rlOk.code {M : MEM} (h : rlOk M) : codeOk (M 21 3) (M 22) := h
theorem rlOk.cg {M M' : MEM} (h : ∀ a k, rg a k = 3 → M' a k = M a k) (g : rlOk M) : rlOk M' := by
  have e : M' 22 = M 22 := funext fun k => h 22 k rfl
  unfold rlOk at *
  rw [h 21 3 rfl, e]
  exact g
theorem mo_pace_eq {a o : Nat} {d n : Int} {M : MEM} (ha : a = 279 ∨ a = 292) (hR : rlOk M) (he : emOk M) (hod : (o : Int) = 55 * d) (hd0 : 0 ≤ d) (hd3 : d < 3) (hD : okD n (dsM a o M)) (ht : 0 ≤ M a 165) : ∃ M', mo_pace a d M = some (paceD (envM M) d (M a 165) (dsM a o M), M') ∧ offP M M' := by
  sorry
end
section
-- ===== a MINUTE of the reference =====
def w2 (i : Nat) : Int := if i = 0 then 1 else if i = 1 then 2 else 4
def bitsI (P : Nat → Bool) (i : Nat) : Int := sumN (fun d => if P d = true then w2 d else 0) i
theorem bitsI_S (P : Nat → Bool) (i : Nat) : bitsI P (i + 1) = bitsI P i + (if P i = true then w2 i else 0) := rfl
theorem bitsI_congr {P Q : Nat → Bool} {n : Nat} (h : ∀ i, i < n → P i = Q i) : bitsI P n = bitsI Q n := sumN_congr (fun i hi => by rw [h i hi])
theorem bitsI_bd {P : Nat → Bool} {i : Nat} (h : i ≤ 3) : 0 ≤ bitsI P i ∧ bitsI P i < (if i = 0 then 1 else if i = 1 then 2 else if i = 2 then 4 else 8) := by
  have h3 : i = 0 ∨ i = 1 ∨ i = 2 ∨ i = 3 := by omega
  rcases h3 with rfl | rfl | rfl | rfl
  · simp [bitsI, sumN]
  · simp only [bitsI, sumN, w2]; cases P 0 <;> simp
  · simp only [bitsI, sumN, w2]; cases P 0 <;> cases P 1 <;> simp
  · simp only [bitsI, sumN, w2]; cases P 0 <;> cases P 1 <;> cases P 2 <;> simp
theorem or_bit {i : Nat} {x : Int} (h : i < 3) (h0 : 0 ≤ x) (h1 : x < w2 i) : ish i_or x (ish i_shl 1 (i : Int)) = x + w2 i := by
  have h3 : (i = 0 ∧ x = 0) ∨ (i = 1 ∧ x = 0) ∨ (i = 1 ∧ x = 1) ∨ (i = 2 ∧ x = 0) ∨ (i = 2 ∧ x = 1) ∨ (i = 2 ∧ x = 2) ∨ (i = 2 ∧ x = 3) := by
    have : i = 0 ∨ i = 1 ∨ i = 2 := by omega
    unfold w2 at h1
    rcases this with rfl | rfl | rfl <;> simp at h1 <;> omega
  simp only [ish_def]
  rcases h3 with ⟨rfl, rfl⟩ | ⟨rfl, rfl⟩ | ⟨rfl, rfl⟩ | ⟨rfl, rfl⟩ | ⟨rfl, rfl⟩ | ⟨rfl, rfl⟩ | ⟨rfl, rfl⟩ <;> decide
theorem or_bitsI {P : Nat → Bool} {i : Nat} (h : i < 3) : ish i_or (bitsI P i) (ish i_shl 1 (i : Int)) = bitsI P i + w2 i := by
  have hb := bitsI_bd (P := P) (i := i) (by omega)
  refine or_bit h hb.1 ?_
  have : i = 0 ∨ i = 1 ∨ i = 2 := by omega
  rcases this with rfl | rfl | rfl <;> simp [w2] at hb ⊢ <;> omega
theorem has_bit {P : Nat → Bool} {n d : Nat} (hn : n ≤ 3) (hd : d < n) : mo_has (bitsI P n) (d : Int) = if P d = true then 1 else 0 := by
  have h3 : (n = 1 ∧ d = 0) ∨ (n = 2 ∧ d = 0) ∨ (n = 2 ∧ d = 1) ∨ (n = 3 ∧ d = 0) ∨ (n = 3 ∧ d = 1) ∨ (n = 3 ∧ d = 2) := by omega
  unfold mo_has
  rcases h3 with ⟨rfl, rfl⟩ | ⟨rfl, rfl⟩ | ⟨rfl, rfl⟩ | ⟨rfl, rfl⟩ | ⟨rfl, rfl⟩ | ⟨rfl, rfl⟩ <;> simp only [ish_def, bitsI, sumN, w2] <;> cases P 0 <;> cases P 1 <;> cases P 2 <;> decide
def rowN (M : MEM) (d : Nat) : Int := M 280 d
def rowR (a : Nat) (e : EN) (M : MEM) (d : Nat) : DS × Bool := stepD e (M 280 d) d (M a 165) (dsM a (55 * d) M)
def rowK (a : Nat) (e : EN) (M : MEM) (d : Nat) : Int := if (rowR a e M d).1.2.2.1 = M a (55 * d + 2) then 0 else 1
def rowSt (a : Nat) (e : EN) (M M' : MEM) (d : Nat) : Prop :=
  eqD (M 280 d) (dsM a (55 * d) M') (rowR a e M d).1 ∧ (∀ p : Nat, M 280 d ≤ (p : Int) → p < 12 → M' a (55 * d + 3 + p) = M a (55 * d + 3 + p)) ∧
  (∀ q : Nat, q < 40 → M' a (55 * d + 15 + q) = if (rowR a e M d).1.2.2.1 ≠ M a (55 * d + 2) ∧ (q : Int) = M a (55 * d + 2) % 40 then M a 165 else M a (55 * d + 15 + q)) ∧ M' 287 d = rowK a e M d
def stoodB (a : Nat) (e : EN) (M : MEM) (d : Nat) : Bool := decide (paceD e d (M a 165) (dsM a (55 * d) M) = 0)
/-- what a MINUTE changes -/
def offG (a : Nat) (M M' : MEM) : Prop := (∀ c, c ≠ a → c ≠ 278 → c ≠ 287 → M' c = M c) ∧ ∀ k, (k < 14 ∨ 28 < k ∨ (19 ≤ k ∧ k ≤ 21)) → M' 278 k = M 278 k
theorem offG.rf {a : Nat} {M : MEM} : offG a M M := ⟨fun _ _ _ _ => rfl, fun _ _ => rfl⟩
theorem offG.tr {a : Nat} {M M1 M2 : MEM} (h : offG a M M1) (g : offG a M1 M2) : offG a M M2 := ⟨fun c x y z => (g.1 c x y z).trans (h.1 c x y z), fun k x => (g.2 k x).trans (h.2 k x)⟩
theorem offG.env {a : Nat} {M M' : MEM} (ha : a = 279 ∨ a = 292) (h : offG a M M') : envM M' = envM M := by
  have r : ∀ c, (c = 21 ∨ c = 22 ∨ c = 281 ∨ c = 282) → M' c = M c := fun c hc => h.1 c (by omega) (by omega) (by omega)
  unfold envM flM hrM hrF
  rw [r 21 (by omega), r 22 (by omega), r 281 (by omega), r 282 (by omega), h.2 4 (by omega), h.2 5 (by omega), h.2 7 (by omega), h.2 8 (by omega)]
theorem offG.em {a : Nat} {M M' : MEM} (ha : a = 279 ∨ a = 292) (h : offG a M M') (g : emOk M) : emOk M' := by
  unfold emOk howOkM at *
  rw [h.1 282 (by omega) (by omega) (by omega), h.2 4 (by omega), h.2 7 (by omega), h.2 8 (by omega)]
  exact g
theorem rg278_3 {k : Nat} (h : rg 278 k = 3) : k = 21 := by
  unfold rg at h
  rw [if_neg (by omega), if_neg (by omega), if_pos rfl] at h
  repeat' split at h
  all_goals omega
theorem offG.rl {a : Nat} {M M' : MEM} (ha : a = 279 ∨ a = 292) (h : offG a M M') (g : rlOk M) : rlOk M' := by
  refine g.cg (fun c k hc => ?_)
  by_cases h8 : c = 278
  · subst h8
    by_cases hk : k = 21
    · subst hk; exact h.2 21 (by omega)
    · exact absurd (rg278_3 hc) hk
  · rw [h.1 c (by rintro rfl; rcases ha with rfl | rfl <;> simp [rg] at hc) h8 (by rintro rfl; simp [rg] at hc)]
def goOk (a : Nat) (M : MEM) : Prop := 0 ≤ M 278 1 ∧ M 278 1 ≤ 3 ∧ rlOk M ∧ emOk M ∧ 0 ≤ M a 165 ∧ M a 165 ≤ 1000000000 ∧ ∀ d : Nat, (d : Int) < M 278 1 → okD (M 280 d) (dsM a (55 * d) M) ∧ M a (55 * d + 2) ≤ 1000000000
theorem mo_go {a : Nat} {M : MEM} (ha : a = 279 ∨ a = 292) (h : goOk a M) : ∃ M', mo_goMinute a M = some M' ∧ offG a M M' ∧ M' a 165 = M a 165 + 1 ∧ (∀ d : Nat, (d : Int) < M 278 1 → rowSt a (envM M) M M' d) ∧ (∀ k : Nat, 55 * M 278 1 ≤ (k : Int) → k ≠ 165 → M' a k = M a k) ∧
    M' 278 26 = bitsI (fun d => (rowR a (envM M) M d).2) (M 278 1).toNat ∧ M' 278 27 = bitsI (stoodB a (envM M) M) (M 278 1).toNat ∧ M' 278 24 = sumN (rowK a (envM M) M) (M 278 1).toNat ∧
    (∀ d : Nat, (d : Int) < M 278 1 → (rowR a (envM M) M d).2 = true → (d : Int) = M 278 29 → M' 278 28 = (rowR a (envM M) M d).1.1) := by
  obtain ⟨h1, h2, h3, h4, h5, h6, h7⟩ := h
  have hlen : lenA a = 166 := by rcases ha with rfl | rfl <;> rfl
  obtain ⟨N, hN⟩ : ∃ N : Nat, M 278 1 = (N : Int) := ⟨(M 278 1).toNat, by omega⟩
  have hl : Tc (iter (fun s => mo_goMinute_b17 a s.1 s.2) FU (0, up2 (up2 (up2 M 278 24 0) 278 26 0) 278 27 0)) (fun r => offG a M r.2 ∧ r.2 a 165 = M a 165 ∧ (∀ d : Nat, d < N → rowSt a (envM M) M r.2 d) ∧ (∀ k : Nat, 55 * N ≤ k → r.2 a k = M a k) ∧
      r.2 278 26 = bitsI (fun d => (rowR a (envM M) M d).2) N ∧ r.2 278 27 = bitsI (stoodB a (envM M) M) N ∧ r.2 278 24 = sumN (rowK a (envM M) M) N ∧ (∀ d : Nat, d < N → (rowR a (envM M) M d).2 = true → (d : Int) = M 278 29 → r.2 278 28 = (rowR a (envM M) M d).1.1)) := by
    refine Tc_n (fun i s => s.1 = (i : Int) ∧ offG a M s.2 ∧ (∀ d : Nat, d < i → rowSt a (envM M) M s.2 d) ∧ (∀ k : Nat, 55 * i ≤ k → s.2 a k = M a k) ∧ s.2 278 26 = bitsI (fun d => (rowR a (envM M) M d).2) i ∧ s.2 278 27 = bitsI (stoodB a (envM M) M) i ∧ s.2 278 24 = sumN (rowK a (envM M) M) i ∧ (∀ d : Nat, d < i → (rowR a (envM M) M d).2 = true → (d : Int) = M 278 29 → s.2 278 28 = (rowR a (envM M) M d).1.1)) N ⟨rfl, ⟨fun c x y z => ?_, fun k hk => ?_⟩, fun d hd => by omega, fun k hk => ?_, ?_, ?_, ?_, fun d hd => by omega⟩ (by omega) (fun i s hi hI => ?_) (fun s hI => ?_)
    · show up2 (up2 (up2 M 278 24 0) 278 26 0) 278 27 0 c = _
      rw [up2_ne y, up2_ne y, up2_ne y]
    · show up2 (up2 (up2 M 278 24 0) 278 26 0) 278 27 0 278 k = _
      rw [rd_k (by omega), rd_k (by omega), rd_k (by omega)]
    · show up2 (up2 (up2 M 278 24 0) 278 26 0) 278 27 0 a k = _
      rw [rd_a (by omega), rd_a (by omega), rd_a (by omega)]
    · show up2 (up2 (up2 M 278 24 0) 278 26 0) 278 27 0 278 26 = 0
      rw [rd_k (by omega), rd_same]
    · show up2 (up2 (up2 M 278 24 0) 278 26 0) 278 27 0 278 27 = 0
      rw [rd_same]
    · show up2 (up2 (up2 M 278 24 0) 278 26 0) 278 27 0 278 24 = 0
      rw [rd_k (by omega), rd_k (by omega), rd_same]
    · obtain ⟨x, M1⟩ := s
      obtain ⟨rfl, o1, r1, u1, b26, b27, b24, e28⟩ := hI
      dsimp only at o1 r1 u1 b26 b27 b24 e28 ⊢
      have hi3 : i < 3 := by omega
      obtain ⟨hD, hDk⟩ := h7 i (by omega)
      have n1 : M1 278 1 = M 278 1 := o1.2 1 (by omega)
      have e280 : M1 280 = M 280 := o1.1 280 (by omega) (by omega) (by omega)
      unfold mo_goMinute_b17
      refine Tc_f (by omega) (Tc_t (by omega) (Tc_u ?_))
      rw [toNat_c]
      -- the row is as it was
      have oM2 : offG a M (up2 M1 287 i 0) := o1.tr ⟨fun c x y z => up2_ne z, fun k _ => rd_a (by omega)⟩
      have hds : dsM a (55 * i) (up2 M1 287 i 0) = dsM a (55 * i) M := by
        unfold dsM
        rw [up2_ne (by omega), u1 _ (by omega), u1 _ (by omega), u1 _ (by omega)]
        congr 3
        funext p
        exact u1 _ (by omega)
      have h165 : up2 M1 287 i 0 a 165 = M a 165 := by rw [up2_ne (by omega)]; exact u1 165 (by omega)
      obtain ⟨M3, e3, o3⟩ := mo_pace_eq (a := a) (o := 55 * i) (d := (i : Int)) (n := M 280 i) (M := up2 M1 287 i 0) ha (oM2.rl ha h3) (oM2.em ha h4) (by omega) (by omega) (by omega) (by rw [hds]; exact hD) (by rw [h165]; exact h5)
      rw [oM2.env ha, h165, hds] at e3
      refine Tc_e e3 ?_
      dsimp only
      have hcl : clE (envM M) := fun g => codeV_in _ _ _
      have hp := hcl (gvD (envM M) i (M a 165) (dsM a (55 * i) M))
      have hp0 : 0 ≤ paceD (envM M) i (M a 165) (dsM a (55 * i) M) := hp.1
      have hp4 : paceD (envM M) i (M a 165) (dsM a (55 * i) M) ≤ 4 := hp.2
      have hstR : rowR a (envM M) M i = walkD (M 280 i) (paceD (envM M) i (M a 165) (dsM a (55 * i) M)).toNat (dsM a (55 * i) M) := rfl
      have hkS := stepD_k (d := (i : Int)) (m := M a 165) hcl hD
      have hstB : stoodB a (envM M) M i = decide (paceD (envM M) i (M a 165) (dsM a (55 * i) M) = 0) := rfl
      generalize hpp : paceD (envM M) i (M a 165) (dsM a (55 * i) M) = pace at *
      have o3a : M3 a = M1 a := (o3.1 a (by omega)).trans (up2_ne (by omega))
      have o3g : offG a M M3 := oM2.tr ⟨fun c x y z => o3.1 c y, fun k hk => o3.2 k (by omega) (by omega) (by omega)⟩
      have t26 : M3 278 26 = bitsI (fun d => (rowR a (envM M) M d).2) i := by rw [o3.2 26 (by omega) (by omega) (by omega), rd_a (by omega)]; exact b26
      have t27 : M3 278 27 = bitsI (stoodB a (envM M) M) i := by rw [o3.2 27 (by omega) (by omega) (by omega), rd_a (by omega)]; exact b27
      have t24 : M3 278 24 = sumN (rowK a (envM M) M) i := by rw [o3.2 24 (by omega) (by omega) (by omega), rd_a (by omega)]; exact b24
      have t28 : M3 278 28 = M1 278 28 := by rw [o3.2 28 (by omega) (by omega) (by omega), rd_a (by omega)]
      have t287 : M3 287 i = 0 := by rw [o3.1 287 (by omega), rd_same]
      have t287' : ∀ d, d ≠ i → M3 287 d = M1 287 d := fun d hd => by rw [o3.1 287 (by omega), rd_k hd]
      -- behind 'stood'
      have tail : ∀ M4 : MEM, (∀ c, c ≠ 278 → M4 c = M3 c) → (∀ k, k ≠ 27 → M4 278 k = M3 278 k) → M4 278 27 = bitsI (stoodB a (envM M) M) (i + 1) → Tc (mo_goMinute_j55_17 a (i : Int) pace M4) (fun r => ∃ s', r = .inl s' ∧ (s'.1 = ((i + 1 : Nat) : Int) ∧ offG a M s'.2 ∧ (∀ d : Nat, d < i + 1 → rowSt a (envM M) M s'.2 d) ∧ (∀ k : Nat, 55 * (i + 1) ≤ k → s'.2 a k = M a k) ∧ s'.2 278 26 = bitsI (fun d => (rowR a (envM M) M d).2) (i + 1) ∧ s'.2 278 27 = bitsI (stoodB a (envM M) M) (i + 1) ∧ s'.2 278 24 = sumN (rowK a (envM M) M) (i + 1) ∧ (∀ d : Nat, d < i + 1 → (rowR a (envM M) M d).2 = true → (d : Int) = M 278 29 → s'.2 278 28 = (rowR a (envM M) M d).1.1))) := fun M4 q1 q2 q3 => by
        have q4a : M4 a = M1 a := (q1 a (by omega)).trans o3a
        have o4 : offG a M M4 := o3g.tr ⟨fun c x y z => q1 c y, fun k hk => q2 k (by omega)⟩
        have hds4 : dsM a (55 * i) M4 = dsM a (55 * i) M := by
          unfold dsM
          rw [q4a, u1 _ (by omega), u1 _ (by omega), u1 _ (by omega)]
          congr 3
          funext p
          exact u1 _ (by omega)
        have e2804 : M4 280 = M 280 := o4.1 280 (by omega) (by omega) (by omega)
        unfold mo_goMinute_j55_17
        obtain ⟨M5, g1, g2, g3⟩ := mo_goSteps_eq (a := a) (o := 55 * i) (d := (i : Int)) (n := M 280 i) (pace := pace) (M := M4) hlen (by omega) (by omega) (by omega) (by omega) (by omega) (by omega) hp0 hp4 (by rw [toNat_c, e2804]) (by rw [hds4]; exact hD) (by rw [q4a, u1 _ (by omega)]; omega)
        refine Tc_e g1 (Tc_t (by omega) (Tc_u (Tc_inl ?_)))
        obtain ⟨w1, w2, w3, w4, w5, w6⟩ := g2
        rw [hds4, ← hstR] at w1 w3 w4 w5 w6
        rw [toNat_c] at w4 ⊢
        have hk4 : M4 a (55 * i + 2) = M a (55 * i + 2) := by rw [q4a]; exact u1 _ (by omega)
        have h1654 : M4 a 165 = M a 165 := by rw [q4a]; exact u1 _ (by omega)
        have h29 : M4 278 29 = M 278 29 := o4.2 29 (by omega)
        have h287 : M4 287 i = 0 := by rw [q1 287 (by omega)]; exact t287
        have hK5 : M5 287 i = rowK a (envM M) M i := by
          rw [w4, h287, hk4]
          unfold rowK
          by_cases hz : (rowR a (envM M) M i).1.2.2.1 = M a (55 * i + 2)
          · rw [if_pos hz, if_neg (fun q => q hz)]
          · rw [if_neg hz, if_pos hz]; exact wr_i (by omega) (by omega)
        have hs24 : M5 278 24 = sumN (rowK a (envM M) M) i := by rw [g3.2.2.1 24 (by omega) (by omega), q2 24 (by omega)]; exact t24
        have hb24 := sumN_bd (F := rowK a (envM M) M) (a := 0) (b := 1) (n := i) (fun j _ => by unfold rowK; split <;> omega)
        have hb24' : 0 ≤ rowK a (envM M) M i ∧ rowK a (envM M) M i ≤ 1 := by unfold rowK; split <;> omega
        rw [hK5, hs24, wr_i (x := sumN (rowK a (envM M) M) i + rowK a (envM M) M i) (by omega) (by omega)]
        refine ⟨(wr_i (by omega) (by omega)).trans (by omega), ?_, fun d hd => ?_, fun k hk => ?_, ?_, ?_, ?_, fun d hd hat hof => ?_⟩
        · refine o4.tr ⟨fun c x y z => ?_, fun k hk => ?_⟩
          · dsimp only
            rw [up2_ne y]; exact g3.1 c x y z
          · dsimp only
            rw [rd_k (by omega)]; exact g3.2.2.1 k (by omega) (by omega)
        · dsimp only
          have ra : ∀ k, up2 M5 278 24 (sumN (rowK a (envM M) M) i + rowK a (envM M) M i) a k = M5 a k := fun k => rd_a (by omega)
          have r287 : ∀ k, up2 M5 278 24 (sumN (rowK a (envM M) M) i + rowK a (envM M) M i) 287 k = M5 287 k := fun k => rd_a (by omega)
          by_cases hdi : d = i
          · subst hdi
            refine ⟨?_, fun p hp1 hp2 => ?_, fun q hq => ?_, ?_⟩
            · have : dsM a (55 * d) (up2 M5 278 24 (sumN (rowK a (envM M) M) d + rowK a (envM M) M d)) = dsM a (55 * d) M5 := by
                unfold dsM; rw [up2_ne (by omega)]
              rw [this]; exact w1
            · rw [ra, w2 p hp1 hp2, q4a]; exact u1 _ (by omega)
            · rw [ra, w3 q hq, hk4, h1654, q4a, u1 _ (by omega)]
            · rw [r287]; exact hK5
          · obtain ⟨z1, z2, z3, z4⟩ := r1 d (by omega)
            have zk : ∀ k, (k < 55 * i ∨ 55 * i + 55 ≤ k) → M5 a k = M1 a k := fun k hk => by rw [g3.2.1 k hk, q4a]
            refine ⟨?_, fun p hp1 hp2 => ?_, fun q hq => ?_, ?_⟩
            · refine eqD.tr ⟨?_, ?_, ?_, fun p hp => ?_⟩ z1
              · show up2 M5 278 24 _ a (55 * d + 1) = M1 a (55 * d + 1); rw [ra, zk _ (by omega)]
              · show up2 M5 278 24 _ a (55 * d) = M1 a (55 * d); rw [ra, zk _ (by omega)]
              · show up2 M5 278 24 _ a (55 * d + 2) = M1 a (55 * d + 2); rw [ra, zk _ (by omega)]
              · have hn12 := (h7 d (by omega)).1.2.1
                show up2 M5 278 24 _ a (55 * d + 3 + p) = M1 a (55 * d + 3 + p); rw [ra, zk _ (by omega)]
            · rw [ra, zk _ (by omega)]; exact z2 p hp1 hp2
            · rw [ra, zk _ (by omega)]; exact z3 q hq
            · rw [r287, g3.2.2.2 d (by omega), q1 287 (by omega), t287' d hdi]; exact z4
        · dsimp only
          rw [rd_a (by omega), g3.2.1 k (by omega), q4a]
          exact u1 k (by omega)
        · dsimp only
          rw [rd_k (by omega), w5, q2 26 (by omega), t26, bitsI_S]
          by_cases hz : (rowR a (envM M) M i).2 = true
          · rw [if_pos hz, if_pos hz, or_bitsI hi3]
          · rw [if_neg hz, if_neg hz, Int.add_zero]
        · dsimp only
          rw [rd_k (by omega), g3.2.2.1 27 (by omega) (by omega)]
          exact q3
        · dsimp only
          rw [rd_same, sumN_S]
        · dsimp only
          rw [rd_k (by omega), w6, h29]
          by_cases hdi : d = i
          · subst hdi
            rw [if_pos ⟨hat, hof⟩]
          · rw [if_neg (fun q => by omega), q2 28 (by omega), t28]
            exact e28 d (by omega) hat hof
      refine Tc_i (fun hz => ?_) (fun hz => ?_)
      · refine Tc_u (tail _ (fun c hc => up2_ne hc) (fun k hk => rd_k hk) ?_)
        rw [rd_same, t27, or_bitsI hi3, bitsI_S, hstB, if_pos (by rw [hz]; rfl)]
      · refine tail _ (fun c hc => rfl) (fun k hk => rfl) ?_
        rw [t27, bitsI_S, hstB, if_neg (by simp [hz]), Int.add_zero]
    · obtain ⟨x, M1⟩ := s
      obtain ⟨rfl, o1, r1, u1, b26, b27, b24, e28⟩ := hI
      dsimp only at o1 r1 u1 b26 b27 b24 e28 ⊢
      unfold mo_goMinute_b17
      have n1 : M1 278 1 = M 278 1 := o1.2 1 (by omega)
      exact Tc_t (by omega) (Tc_inr ⟨o1, u1 165 (by omega), r1, u1, b26, b27, b24, e28⟩)
  obtain ⟨r, e1, o1, t1, r1, u1, b26, b27, b24, e28⟩ := hl
  refine ⟨up2 r.2 a 165 (M a 165 + 1), ?_, ?_, rd_same, fun d hd => ?_, fun k hk hk2 => ?_, ?_, ?_, ?_, fun d hd hat hof => ?_⟩
  · unfold mo_goMinute
    simp only [Option.bind_some]
    rw [e1, Option.bind_some, hlen, if_pos (by omega), if_pos (by omega), show (165 : Int).toNat = 165 from rfl, t1, wr_i (by omega) (by omega)]
  · exact o1.tr ⟨fun c x y z => up2_ne x, fun k hk => rd_a (by omega)⟩
  · obtain ⟨z1, z2, z3, z4⟩ := r1 d (by omega)
    have hn12 := (h7 d hd).1.2.1
    have zk : ∀ k, k ≠ 165 → up2 r.2 a 165 (M a 165 + 1) a k = r.2 a k := fun k hk => rd_k hk
    refine ⟨eqD.tr ⟨?_, ?_, ?_, fun p hp => ?_⟩ z1, fun p hp1 hp2 => ?_, fun q hq => ?_, ?_⟩
    · exact zk _ (by omega)
    · exact zk _ (by omega)
    · exact zk _ (by omega)
    · exact zk _ (by omega)
    · rw [zk _ (by omega)]; exact z2 p hp1 hp2
    · rw [zk _ (by omega)]; exact z3 q hq
    · rw [rd_a (by omega)]; exact z4
  · rw [rd_k hk2]; exact u1 k (by omega)
  · rw [rd_a (by omega), hN, toNat_c]; exact b26
  · rw [rd_a (by omega), hN, toNat_c]; exact b27
  · rw [rd_a (by omega), hN, toNat_c]; exact b24
  · rw [rd_a (by omega)]; exact e28 d (by omega) hat hof
end
section
-- ===== what class and reference hold alike, region by region =====
/-- THE TEXT -/
def C_T (M : MEM) : Prop := M 278 10 = M 1 1 ∧ 0 ≤ M 1 1 ∧ M 1 1 ≤ 80 ∧ ∀ i : Nat, (i : Int) < M 1 1 → 0 ≤ M 2 i ∧ M 2 i ≤ 255 ∧ M 283 i = sx8 (M 2 i)
/-- FLIES -/
def C_F (M : MEM) : Prop := M 278 4 = M 19 1 ∧ 0 ≤ M 19 1 ∧ M 19 1 ≤ 40 ∧ ∀ i : Nat, (i : Int) < M 19 1 → M 281 i = M 20 i
/-- how many DONKEYS, PLACES -/
def C_S (M : MEM) : Prop := M 278 1 = M 3 2 ∧ 0 ≤ M 3 2 ∧ M 3 2 ≤ 3 ∧ 0 ≤ M 278 51 ∧ M 278 51 ≤ M 3 2 ∧ ∀ d : Nat, (d : Int) < M 3 2 → M 280 d = M (10 + 3 * d) 2 ∧ 4 ≤ M 280 d ∧ M 280 d ≤ 12
/-- a DONKEY's cells of the class (b) and its row of the reference (a, from o on), n PLACES, as of MINUTE t -/
def snD (b a o : Nat) (n t : Int) (M : MEM) : Prop :=
  eqD n (dsC b M) (dsM a o M) ∧ okD n (dsC b M) ∧ (∀ p : Nat, n ≤ (p : Int) → p < 12 → M a (o + 3 + p) = 0) ∧ M b 5 ≤ t ∧
  ∀ j : Nat, 1 ≤ j → (j : Int) ≤ M b 5 → M b 5 < (j : Int) + 40 → M (b + 2) (j % 40) = M a (o + 15 + (j - 1) % 40) ∧ 0 ≤ M (b + 2) (j % 40) ∧ M (b + 2) (j % 40) < t
/-- a scene of the class (s) and a picture of the reference (a, from k on), of N DONKEYS -/
def snS (s a k : Nat) (N B : Int) (M : MEM) : Prop :=
  M s 3 = M a (k + 165) ∧ 0 ≤ M s 3 ∧ M s 3 ≤ B ∧ ∀ d : Nat, (d : Int) < N → M (s + 7 + 3 * d) 2 = M 280 d ∧ snD (s + 7 + 3 * d) a (k + 55 * d) (M 280 d) (M s 3) M
/-- CARROTS of the class (c) and of the reference (how many, the cells) -/
def snC (c : Nat) (mm : Int) (cf : Nat → Int) (M : MEM) : Prop :=
  M c 4 = mm ∧ 0 ≤ mm ∧ mm ≤ 10 ∧ ∀ i : Nat, (i : Int) < mm → M (c + 1) i = cf (4 * i) ∧ M (c + 2) i = cf (4 * i + 1) ∧ M (c + 3) i = cf (4 * i + 2) ∧ M (c + 4) i = cf (4 * i + 3) ∧ (M (c + 4) i = 1 ∨ M (c + 4) i = -1)
def C_D (B : Int) (M : MEM) : Prop := snS 3 279 0 (M 3 2) B M
def C_C (M : MEM) : Prop := snC 5 (M 278 7) (M 282) M
/-- CONTRACTS -/
def C_O (M : MEM) : Prop := M 278 41 = M 34 6 ∧ 0 ≤ M 34 6 ∧ M 34 6 ≤ 10 ∧ ∀ i : Nat, (i : Int) < M 34 6 →
  M 295 (5 * i) = M 35 i ∧ M 295 (5 * i + 1) = M 36 i ∧ M 295 (5 * i + 2) = M 37 i ∧ M 295 (5 * i + 3) = M 38 i ∧ M 295 (5 * i + 4) = M 39 i ∧ (1 ≤ M 37 i ∧ M 37 i ≤ 99) ∧ (0 ≤ M 38 i ∧ M 38 i < M 3 2) ∧ (0 ≤ M 39 i ∧ M 39 i < 12)
/-- what was heard -/
def C_H (M : MEM) : Prop := M 278 49 = M 41 3 ∧ 0 ≤ M 41 3 ∧ M 41 3 ≤ 8 ∧ ∀ i : Nat, (i : Int) < M 41 3 →
  M 302 (3 * i) = M 42 i ∧ M 302 (3 * i + 1) = M 43 i ∧ M 302 (3 * i + 2) = M 44 i ∧ (0 ≤ M 43 i ∧ M 43 i ≤ 60) ∧ (1 ≤ M 44 i ∧ M 44 i ≤ 600)
def usc (M : MEM) (i : Nat) : Nat := 47 + 16 * (if (M 45 1).toNat + i < 11 then (M 45 1).toNat + i else (M 45 1).toNat + i - 11)
/-- what can be undone -/
def C_U (B : Int) (M : MEM) : Prop := 0 ≤ M 45 1 ∧ M 45 1 < 11 ∧ M 278 31 = M 45 2 ∧ 0 ≤ M 45 2 ∧ M 45 2 ≤ 10 ∧ ∀ i : Nat, (i : Int) < M 45 2 →
  M (usc M i) 2 = M 3 2 ∧ snS (usc M i) 288 (208 * i) (M 3 2) B M ∧ snC (usc M i + 2) (M 288 (208 * i + 166)) (fun q => M 288 (208 * i + 167 + q)) M ∧ M (usc M i) 5 = M 288 (208 * i + 207) ∧ (M (usc M i) 5 = 0 ∨ M (usc M i) 5 = 1)
/-- what is kept -/
def C_K (B : Int) (M : MEM) : Prop := ∀ i : Nat, i < 2 → M 305 i = M (246 + 16 * i) 4 ∧ (M 305 i = 0 ∨ M 305 i = 1) ∧ (M 305 i = 1 →
  M 306 i ≤ M 278 51 ∧ M (246 + 16 * i) 2 ≤ M 3 2 ∧ (M 306 i = M 278 51 ↔ M (246 + 16 * i) 2 = M 3 2) ∧
  (M (246 + 16 * i) 2 = M 3 2 → snS (246 + 16 * i) 304 (207 * i) (M 3 2) B M ∧ snC (246 + 16 * i + 2) (M 304 (207 * i + 166)) (fun q => M 304 (207 * i + 167 + q)) M))
/-- THE ROW -/
def C_W (M : MEM) : Prop := M 278 12 = M 0 14 ∧ 0 ≤ M 0 14 ∧ M 0 14 ≤ 4 ∧ ∀ i : Nat, (i : Int) < M 0 14 → M 284 i = M 245 i
/-- at rest: nothing is thought of -/
def C_N (M : MEM) : Prop := M 224 6 = -1 ∧ M 234 6 = -1 ∧ M 225 4 = 0 ∧ M 235 4 = 0 ∧ M 278 5 = -1 ∧ M 278 8 = 0 ∧ M 278 29 = -1
/-- as many MINUTES as B at most have gone by -/
def Rel (B : Int) (M : MEM) : Prop := C_T M ∧ C_F M ∧ rlOk M ∧ C_D B M ∧ C_C M ∧ C_O M ∧ C_H M ∧ C_U B M ∧ C_K B M ∧ C_W M ∧ C_N M ∧ C_S M
theorem Rel.T {B : Int} {M : MEM} (h : Rel B M) : C_T M := h.1
theorem Rel.F {B : Int} {M : MEM} (h : Rel B M) : C_F M := h.2.1
theorem Rel.R {B : Int} {M : MEM} (h : Rel B M) : rlOk M := h.2.2.1
theorem Rel.D {B : Int} {M : MEM} (h : Rel B M) : C_D B M := h.2.2.2.1
theorem Rel.C {B : Int} {M : MEM} (h : Rel B M) : C_C M := h.2.2.2.2.1
theorem Rel.O {B : Int} {M : MEM} (h : Rel B M) : C_O M := h.2.2.2.2.2.1
theorem Rel.H {B : Int} {M : MEM} (h : Rel B M) : C_H M := h.2.2.2.2.2.2.1
theorem Rel.U {B : Int} {M : MEM} (h : Rel B M) : C_U B M := h.2.2.2.2.2.2.2.1
theorem Rel.K {B : Int} {M : MEM} (h : Rel B M) : C_K B M := h.2.2.2.2.2.2.2.2.1
theorem Rel.W {B : Int} {M : MEM} (h : Rel B M) : C_W M := h.2.2.2.2.2.2.2.2.2.1
theorem Rel.N {B : Int} {M : MEM} (h : Rel B M) : C_N M := h.2.2.2.2.2.2.2.2.2.2.1
theorem Rel.S {B : Int} {M : MEM} (h : Rel B M) : C_S M := h.2.2.2.2.2.2.2.2.2.2.2
/-- the regions r are as they were -/
def same (r : Nat → Prop) (M M' : MEM) : Prop := ∀ a k, r (rg a k) → M' a k = M a k
theorem same.row {r : Nat → Prop} {M M' : MEM} (h : same r M M') {a : Nat} (g : ∀ k, r (rg a k)) : M' a = M a := funext fun k => h a k (g k)
theorem C_T.cg {M M' : MEM} (h : same (· = 1) M M') (g : C_T M) : C_T M' := by
  unfold C_T at *
  rw [h 278 10 rfl, h 1 1 rfl, h.row (a := 2) (fun k => rfl), h.row (a := 283) (fun k => rfl)]
  exact g
theorem C_F.cg {M M' : MEM} (h : same (· = 2) M M') (g : C_F M) : C_F M' := by
  unfold C_F at *
  rw [h 278 4 rfl, h 19 1 rfl, h.row (a := 20) (fun k => rfl), h.row (a := 281) (fun k => rfl)]
  exact g
theorem C_S.cg {M M' : MEM} (h : same (· = 12) M M') (g : C_S M) : C_S M' := by
  obtain ⟨g1, g2, g3, g5, g6, g4⟩ := g
  unfold C_S
  rw [h 278 1 rfl, h 3 2 rfl, h 278 51 rfl, h.row (a := 280) (fun k => rfl)]
  refine ⟨g1, g2, g3, g5, g6, fun d hd => ?_⟩
  rw [h (10 + 3 * d) 2 (rg_P (by omega))]
  exact g4 d hd
theorem snD.cg {b a o : Nat} {n t t' : Int} {M M' : MEM} (ht : t ≤ t') (h1 : M' (b + 1) = M (b + 1)) (h2 : M' (b + 2) = M (b + 2)) (h3 : ∀ k, k = 3 ∨ k = 4 ∨ k = 5 → M' b k = M b k) (h4 : ∀ k, o ≤ k → k < o + 55 → M' a k = M a k) (g : snD b a o n t M) : snD b a o n t' M' := by
  obtain ⟨g1, g2, g3, g4, g5⟩ := g
  have e1 : dsC b M' = dsC b M := by unfold dsC; rw [h1, h3 3 (by omega), h3 4 (by omega), h3 5 (by omega)]
  have e2 : eqD n (dsM a o M) (dsM a o M') := by
    refine ⟨?_, ?_, ?_, fun p hp => ?_⟩
    · exact (h4 _ (by omega) (by omega)).symm
    · exact (h4 _ (by omega) (by omega)).symm
    · exact (h4 _ (by omega) (by omega)).symm
    · have := g2.2.1
      exact (h4 _ (by omega) (by omega)).symm
  refine ⟨?_, ?_, fun p h h' => ?_, ?_, fun j hj1 hj2 hj3 => ?_⟩
  · rw [e1]; exact g1.tr e2
  · rw [e1]; exact g2
  · rw [h4 _ (by omega) (by omega)]; exact g3 p h h'
  · rw [h3 5 (by omega)]; omega
  · rw [h3 5 (by omega)] at hj2 hj3
    rw [h2, h4 _ (by omega) (by omega)]
    have := g5 j hj1 hj2 hj3
    exact ⟨this.1, this.2.1, by omega⟩
theorem snS.cg {s a k : Nat} {N B : Int} {M M' : MEM} (hN : N ≤ 3) (h0 : M' s 3 = M s 3) (h1 : ∀ c q, s + 7 ≤ c → c < s + 16 → M' c q = M c q) (h2 : ∀ q, k ≤ q → q < k + 166 → M' a q = M a q) (h3 : ∀ d : Nat, (d : Int) < N → M' 280 d = M 280 d) (g : snS s a k N B M) : snS s a k N B M' := by
  obtain ⟨g1, g2, g3, g4⟩ := g
  unfold snS
  rw [h0, h2 _ (by omega) (by omega)]
  refine ⟨g1, g2, g3, fun d hd => ?_⟩
  rw [h3 d hd, h1 _ _ (by omega) (by omega)]
  exact ⟨(g4 d hd).1, (g4 d hd).2.cg (Int.le_refl _) (funext fun q => h1 _ q (by omega) (by omega)) (funext fun q => h1 _ q (by omega) (by omega)) (fun q _ => h1 _ q (by omega) (by omega)) (fun q _ _ => h2 q (by omega) (by omega))⟩
theorem snS.mono {s a k : Nat} {N B B' : Int} {M : MEM} (h : B ≤ B') (g : snS s a k N B M) : snS s a k N B' M := ⟨g.1, g.2.1, by have := g.2.2.1; omega, g.2.2.2⟩
theorem snC.cg {c : Nat} {mm : Int} {cf cf' : Nat → Int} {M M' : MEM} (h : ∀ q k, q ≤ 4 → (q ≠ 0 ∨ k = 4) → M' (c + q) k = M (c + q) k) (h2 : ∀ k, k < 40 → cf' k = cf k) (g : snC c mm cf M) : snC c mm cf' M' := by
  obtain ⟨g1, g2, g3, g4⟩ := g
  have h0 := h 0 4 (by omega) (by omega)
  rw [Nat.add_zero] at h0
  refine ⟨h0.trans g1, g2, g3, fun i hi => ?_⟩
  rw [h 1 i (by omega) (by omega), h 2 i (by omega) (by omega), h 3 i (by omega) (by omega), h 4 i (by omega) (by omega), h2 _ (by omega), h2 _ (by omega), h2 _ (by omega), h2 _ (by omega)]
  exact g4 i hi
theorem rg_279 (k : Nat) : rg 279 k = 4 := rfl
theorem rg_D12 {a k : Nat} (h1 : 10 ≤ a) (h2 : a ≤ 18) : rg a k = 4 ∨ rg a k = 12 := by
  by_cases h : k ≠ 2 ∨ (a ≠ 10 ∧ a ≠ 13 ∧ a ≠ 16)
  · exact Or.inl (rg_D h1 h2 h)
  · have : k = 2 := by omega
    subst this
    exact Or.inr (rg_P (by omega))
theorem C_D.cg {B : Int} {M M' : MEM} (hN : M 3 2 ≤ 3) (h : same (fun r => r = 4 ∨ r = 12) M M') (g : C_D B M) : C_D B M' := by
  unfold C_D at *
  rw [h 3 2 (by decide)]
  exact g.cg hN (h 3 3 (by decide)) (fun c q h1 h2 => h c q (rg_D12 h1 (by omega))) (fun q _ _ => h 279 q (Or.inl rfl)) (fun d _ => h 280 d (Or.inr rfl))
theorem C_C.cg {M M' : MEM} (h : same (· = 5) M M') (g : C_C M) : C_C M' := by
  unfold C_C at *
  rw [h 278 7 rfl]
  refine g.cg (fun q k h1 h2 => ?_) (fun k hk => h 282 k (rg_car hk))
  have : q = 0 ∨ q = 1 ∨ q = 2 ∨ q = 3 ∨ q = 4 := by omega
  rcases this with rfl | rfl | rfl | rfl | rfl
  · have : k = 4 := by omega
    subst this
    exact h 5 4 rfl
  · exact h 6 k rfl
  · exact h 7 k rfl
  · exact h 8 k rfl
  · exact h 9 k rfl
theorem C_O.cg {M M' : MEM} (hN : M 3 2 ≤ M' 3 2) (h : same (· = 6) M M') (g : C_O M) : C_O M' := by
  obtain ⟨g1, g2, g3, g4⟩ := g
  unfold C_O
  rw [h 278 41 rfl, h 34 6 rfl, h.row (a := 35) (fun k => rfl), h.row (a := 36) (fun k => rfl), h.row (a := 37) (fun k => rfl), h.row (a := 38) (fun k => rfl), h.row (a := 39) (fun k => rfl), h.row (a := 295) (fun k => rfl)]
  refine ⟨g1, g2, g3, fun i hi => ?_⟩
  obtain ⟨q1, q2, q3, q4, q5, q6, q7, q8⟩ := g4 i hi
  exact ⟨q1, q2, q3, q4, q5, q6, ⟨q7.1, by omega⟩, q8⟩
theorem C_H.cg {M M' : MEM} (h : same (· = 7) M M') (g : C_H M) : C_H M' := by
  unfold C_H at *
  rw [h 278 49 rfl, h 41 3 rfl, h.row (a := 42) (fun k => rfl), h.row (a := 43) (fun k => rfl), h.row (a := 44) (fun k => rfl), h.row (a := 302) (fun k => rfl)]
  exact g
theorem usc_in {M : MEM} {i : Nat} (h0 : 0 ≤ M 45 1) (h1 : M 45 1 < 11) (hi : i < 11) : 47 ≤ usc M i ∧ usc M i + 15 ≤ 222 := by
  unfold usc
  split <;> omega
theorem C_U.cg {B B' : Int} {M M' : MEM} (hB : B ≤ B') (hN : M 3 2 ≤ 3) (h : same (fun r => r = 8 ∨ r = 12) M M') (g : C_U B M) : C_U B' M' := by
  obtain ⟨g1, g2, g3, g4, g5, g6⟩ := g
  have e45 : M' 45 = M 45 := h.row (fun k => Or.inl rfl)
  have e288 : M' 288 = M 288 := h.row (fun k => Or.inl rfl)
  have eu : ∀ i, usc M' i = usc M i := fun i => by unfold usc; rw [e45]
  unfold C_U
  rw [e45, e288, h 278 31 (Or.inl rfl), h 3 2 (Or.inr rfl)]
  refine ⟨g1, g2, g3, g4, g5, fun i hi => ?_⟩
  have hu := usc_in (i := i) g1 g2 (by omega)
  rw [eu]
  have hr : ∀ c q, 47 ≤ c → c ≤ 222 → M' c q = M c q := fun c q h1 h2 => h c q (Or.inl (rg_U (by omega) h2))
  obtain ⟨q1, q2, q3, q4, q5⟩ := g6 i hi
  rw [hr _ _ hu.1 (by omega), hr (usc M i) 5 hu.1 (by omega)]
  exact ⟨q1, (q2.mono hB).cg hN (hr _ _ hu.1 (by omega)) (fun c q h1 h2 => hr c q (by omega) (by omega)) (fun q _ _ => by rw [e288]) (fun d _ => h 280 d (Or.inr rfl)), q3.cg (fun q k h1 h2 => hr _ _ (by omega) (by omega)) (fun k _ => rfl), q4, q5⟩
theorem C_K.cg {B B' : Int} {M M' : MEM} (hB : B ≤ B') (hN : M 3 2 ≤ 3) (h : same (fun r => r = 9 ∨ r = 12) M M') (g : C_K B M) : C_K B' M' := by
  have e304 : M' 304 = M 304 := h.row (fun k => Or.inl rfl)
  have e305 : M' 305 = M 305 := h.row (fun k => Or.inl rfl)
  have e306 : M' 306 = M 306 := h.row (fun k => Or.inl rfl)
  have hr : ∀ c q, 246 ≤ c → c ≤ 277 → M' c q = M c q := fun c q h1 h2 => h c q (Or.inl (rg_K (by omega) h2))
  intro i hi
  rw [e305, e306, h 278 51 (Or.inr rfl), h 3 2 (Or.inr rfl), hr _ _ (by omega) (by omega), hr _ 2 (by omega) (by omega), e304]
  obtain ⟨q1, q2, q3⟩ := g i hi
  refine ⟨q1, q2, fun h1 => ?_⟩
  obtain ⟨q4, q5, q6, q7⟩ := q3 h1
  refine ⟨q4, q5, q6, fun h2 => ?_⟩
  obtain ⟨q8, q9⟩ := q7 h2
  exact ⟨(q8.mono hB).cg hN (hr _ _ (by omega) (by omega)) (fun c q h1 h2 => hr c q (by omega) (by omega)) (fun q _ _ => by rw [e304]) (fun d _ => h 280 d (Or.inr rfl)), q9.cg (fun q k h1 h2 => hr _ _ (by omega) (by omega)) (fun k _ => rfl)⟩
theorem C_W.cg {M M' : MEM} (h : same (· = 10) M M') (g : C_W M) : C_W M' := by
  unfold C_W at *
  rw [h 278 12 rfl, h 0 14 rfl, h.row (a := 245) (fun k => rfl), h.row (a := 284) (fun k => rfl)]
  exact g
theorem C_N.cg {M M' : MEM} (h : same (· = 11) M M') (g : C_N M) : C_N M' := by
  unfold C_N at *
  rw [h 224 6 rfl, h 234 6 rfl, h 225 4 rfl, h 235 4 rfl, h 278 5 rfl, h 278 8 rfl, h 278 29 rfl]
  exact g
theorem chg.same {L : List Nat} {r : Nat → Prop} {M M' : MEM} (h : chg L M M') (d : ∀ x, r x → x ∉ L) : same r M M' := fun a k g => h a k (d _ g)
/-- what isn't touched goes on being alike; what is must be shown -/
theorem Rel.go {B B' : Int} {L : List Nat} {M M' : MEM} (h : Rel B M) (hB : B ≤ B') (c : chg L M M') (h12 : 12 ∉ L) (q1 : 1 ∈ L → C_T M') (q2 : 2 ∈ L → C_F M') (q3 : 3 ∈ L → rlOk M') (q4 : 4 ∈ L → C_D B' M') (q5 : 5 ∈ L → C_C M') (q6 : 6 ∈ L → C_O M') (q7 : 7 ∈ L → C_H M') (q8 : 8 ∈ L → C_U B' M') (q9 : 9 ∈ L → C_K B' M') (q10 : 10 ∈ L → C_W M') (q11 : 11 ∈ L → C_N M') : Rel B' M' := by
  have hS3 : M 3 2 ≤ 3 := h.S.2.2.1
  refine ⟨?_, ?_, ?_, ?_, ?_, ?_, ?_, ?_, ?_, ?_, ?_, h.S.cg (c.same fun x hx => by rw [hx]; exact h12)⟩
  · by_cases e : 1 ∈ L
    · exact q1 e
    · exact h.T.cg (c.same fun x hx => by rw [hx]; exact e)
  · by_cases e : 2 ∈ L
    · exact q2 e
    · exact h.F.cg (c.same fun x hx => by rw [hx]; exact e)
  · by_cases e : 3 ∈ L
    · exact q3 e
    · exact h.R.cg (fun a k hr => c a k (by rw [hr]; exact e))
  · by_cases e : 4 ∈ L
    · exact q4 e
    · have g := h.D.cg hS3 (c.same fun x hx => by rcases hx with hx | hx <;> rw [hx]; exact e; exact h12)
      exact g.mono hB
  · by_cases e : 5 ∈ L
    · exact q5 e
    · exact h.C.cg (c.same fun x hx => by rw [hx]; exact e)
  · by_cases e : 6 ∈ L
    · exact q6 e
    · exact h.O.cg (by rw [c 3 2 h12]; exact Int.le_refl _) (c.same fun x hx => by rw [hx]; exact e)
  · by_cases e : 7 ∈ L
    · exact q7 e
    · exact h.H.cg (c.same fun x hx => by rw [hx]; exact e)
  · by_cases e : 8 ∈ L
    · exact q8 e
    · exact h.U.cg hB hS3 (c.same fun x hx => by rcases hx with hx | hx <;> rw [hx]; exact e; exact h12)
  · by_cases e : 9 ∈ L
    · exact q9 e
    · exact h.K.cg hB hS3 (c.same fun x hx => by rcases hx with hx | hx <;> rw [hx]; exact e; exact h12)
  · by_cases e : 10 ∈ L
    · exact q10 e
    · exact h.W.cg (c.same fun x hx => by rw [hx]; exact e)
  · by_cases e : 11 ∈ L
    · exact q11 e
    · exact h.N.cg (c.same fun x hx => by rw [hx]; exact e)
theorem Rel.go0 {B : Int} {M M' : MEM} (h : Rel B M) (c : chg [0] M M') : Rel B M' :=
  h.go (Int.le_refl _) c (by decide) (fun q => absurd q (by decide)) (fun q => absurd q (by decide)) (fun q => absurd q (by decide)) (fun q => absurd q (by decide)) (fun q => absurd q (by decide)) (fun q => absurd q (by decide)) (fun q => absurd q (by decide)) (fun q => absurd q (by decide)) (fun q => absurd q (by decide)) (fun q => absurd q (by decide)) (fun q => absurd q (by decide))
theorem Rel.go10 {B : Int} {M M' : MEM} (h : Rel B M) (c : chg [0, 10] M M') (w : C_W M') : Rel B M' :=
  h.go (Int.le_refl _) c (by decide) (fun q => absurd q (by decide)) (fun q => absurd q (by decide)) (fun q => absurd q (by decide)) (fun q => absurd q (by decide)) (fun q => absurd q (by decide)) (fun q => absurd q (by decide)) (fun q => absurd q (by decide)) (fun q => absurd q (by decide)) (fun q => absurd q (by decide)) (fun _ => w) (fun q => absurd q (by decide))
end
section
-- ===== surroundings alike =====
/-- thought of alike -/
def thR (f : Nat) (M : MEM) : Prop := M (f + 1) 4 = M 278 8 ∧ 0 ≤ M 278 8 ∧ M 278 8 ≤ 2 ∧ ∀ i : Nat, (i : Int) < M 278 8 → M (f + 2) i = M 282 (40 + 4 * i) ∧ M (f + 3) i = M 282 (40 + 4 * i + 1) ∧ M (f + 4) i = M 282 (40 + 4 * i + 2) ∧ M (f + 5) i = M 282 (40 + 4 * i + 3) ∧ (M (f + 5) i = 1 ∨ M (f + 5) i = -1)
def swR (f : Nat) (M : MEM) : Prop := (M f 6 = -1 ∧ M 278 5 = -1) ∨ (0 ≤ M f 6 ∧ M 278 5 = M f 6)
theorem fl_alike {M : MEM} (hF : C_F M) (m : Int) : flC M m = if M 278 4 = 0 then 0 else M 281 (m % M 278 4).toNat := by
  obtain ⟨h1, h2, h3, h4⟩ := hF
  unfold flC
  rw [h1]
  by_cases h : 1 ≤ M 19 1
  · have q1 := Int.emod_nonneg m (show M 19 1 ≠ 0 by omega)
    have q2 := Int.emod_lt_of_pos m (show 0 < M 19 1 by omega)
    rw [if_pos h, if_neg (by omega), h4 _ (by omega)]
  · rw [if_neg h, if_pos (by omega)]
theorem sumN_split (F : Nat → Int) : sumN F 12 = sumN F 10 + (F 10 + F 11) := by
  show sumN F 10 + F 10 + F 11 = _
  omega
theorem hr_alike {f : Nat} {M : MEM} (hC : C_C M) (hT : thR f M) (d m : Int) : plC 5 M d m + plC (f + 1) M d m = hrM M d m := by
  obtain ⟨c1, c2, c3, c4⟩ := hC
  obtain ⟨t1, t2, t3, t4⟩ := hT
  unfold hrM plC
  rw [sumN_split]
  congr 1
  · refine sumN_congr (fun i hi => ?_)
    unfold plF hrF
    by_cases h : (i : Int) < M 5 4
    · obtain ⟨q1, q2, q3, q4, -⟩ := c4 i (by omega)
      rw [if_pos h, if_pos (by omega), ← q1, ← q2, ← q3, ← q4]
    · rw [if_neg h, if_neg (by omega)]
  · have tail : ∀ k, 2 + k ≤ 10 → sumN (plF (f + 1) M d m) (2 + k) = plF (f + 1) M d m 0 + plF (f + 1) M d m 1 := by
      intro k
      induction k with
      | zero => intro _; show (0 : Int) + plF (f + 1) M d m 0 + plF (f + 1) M d m 1 = _; rw [Int.zero_add]
      | succ k ih =>
        intro hk
        have z : plF (f + 1) M d m (2 + k) = 0 := by unfold plF; rw [if_neg (by omega)]
        rw [show 2 + (k + 1) = (2 + k) + 1 by omega, sumN_S, ih (by omega), z, Int.add_zero]
    have e := tail 8 (by omega)
    rw [show 2 + 8 = 10 from rfl] at e
    rw [e]
    have one : ∀ i, i < 2 → plF (f + 1) M d m i = hrF M d m (10 + i) := fun i hi => by
      unfold plF hrF
      by_cases h : (i : Int) < M 278 8
      · obtain ⟨q1, q2, q3, q4, -⟩ := t4 i h
        rw [if_pos (by omega), if_pos (by omega), show f + 1 + 1 = f + 2 by omega, show f + 1 + 2 = f + 3 by omega, show f + 1 + 3 = f + 4 by omega, show f + 1 + 4 = f + 5 by omega, q1, q2, q3, q4, show 4 * (10 + i) = 40 + 4 * i by omega]
      · rw [if_neg (by omega), if_neg (by omega)]
    rw [one 0 (by omega), one 1 (by omega)]
theorem env_alike {f : Nat} {M : MEM} (hF : C_F M) (hC : C_C M) (hT : thR f M) (hS : swR f M) : envC f M = envM M := by
  unfold envC envM
  have e1 : (fun m => if 0 ≤ M f 6 then M f 6 else flC M m) = flM M := by
    funext m
    unfold flM
    rcases hS with ⟨q1, q2⟩ | ⟨q1, q2⟩
    · rw [if_neg (by omega), if_pos q2, fl_alike hF]
    · rw [if_pos q1, if_neg (by omega), q2]
  have e2 : (fun d m => plC 5 M d m + plC (f + 1) M d m) = hrM M := by
    funext d m
    exact hr_alike hC hT d m
  rw [e1, e2]
theorem eOk_of {f : Nat} {M : MEM} (hF : C_F M) (hC : C_C M) (hT : thR f M) (hR : rlOk M) : eOk f M := by
  obtain ⟨c1, c2, c3, c4⟩ := hC
  obtain ⟨t1, t2, t3, t4⟩ := hT
  refine ⟨⟨hF.2.1, hF.2.2.1⟩, ⟨by omega, by omega, fun i hi => (c4 i (by omega)).2.2.2.2⟩, ⟨by omega, by omega, fun i hi => ?_⟩, hR.code⟩
  rw [show f + 1 + 4 = f + 5 by omega]
  exact (t4 i (by omega)).2.2.2.2
theorem em_of {f : Nat} {M : MEM} (hF : C_F M) (hC : C_C M) (hT : thR f M) : emOk M := by
  obtain ⟨c1, c2, c3, c4⟩ := hC
  obtain ⟨t1, t2, t3, t4⟩ := hT
  obtain ⟨f1, f2, f3, -⟩ := hF
  refine ⟨⟨by omega, by omega⟩, ⟨by omega, by omega⟩, ⟨t2, t3⟩, fun i hi => ?_⟩
  rcases hi with hi | ⟨h1, h2⟩
  · have := c4 i (by omega)
    rw [← this.2.2.2.1]
    exact this.2.2.2.2
  · obtain ⟨j, rfl⟩ : ∃ j, i = 10 + j := ⟨i - 10, by omega⟩
    have := t4 j (by omega)
    rw [show 4 * (10 + j) + 3 = 40 + 4 * j + 3 by omega, ← this.2.2.2.1]
    exact this.2.2.2.2
theorem th0 {f : Nat} {M : MEM} (hf : f = 224 ∨ f = 234) (h : C_N M) : thR f M := by
  obtain ⟨h1, h2, h3, h4, h5, h6, h7⟩ := h
  refine ⟨?_, by omega, by omega, fun i hi => by omega⟩
  rcases hf with rfl | rfl
  · show M 225 4 = _; omega
  · show M 235 4 = _; omega
theorem sw0 {f : Nat} {M : MEM} (hf : f = 224 ∨ f = 234) (h : C_N M) : swR f M := by
  obtain ⟨h1, h2, h3, h4, h5, h6, h7⟩ := h
  rcases hf with rfl | rfl
  · exact Or.inl ⟨h1, h5⟩
  · exact Or.inl ⟨h2, h5⟩
-- ===== the reference's MINUTES to come =====
def thenAt (N : Nat) (ns : Nat → Int) (e : EN) (m0 : Int) (ss : Nat → DS) (j : Nat) (M : MEM) : Prop :=
  M 278 1 = (N : Int) ∧ (∀ d : Nat, d < N → M 280 d = ns d) ∧ envM M = e ∧ emOk M ∧ rlOk M ∧ M 292 165 = m0 + j ∧ ∀ d : Nat, d < N → eqD (ns d) (trajD e (ns d) d m0 (ss d) j) (dsM 292 (55 * d) M)
def thOk (N : Nat) (ns : Nat → Int) (m0 : Int) (ss : Nat → DS) : Prop := N ≤ 3 ∧ 0 ≤ m0 ∧ m0 ≤ 100000000 ∧ ∀ d : Nat, d < N → okD (ns d) (ss d) ∧ (ss d).2.2.1 ≤ 100000000
theorem then_step {N : Nat} {ns : Nat → Int} {e : EN} {m0 : Int} {ss : Nat → DS} {j : Nat} {M : MEM} (hok : thOk N ns m0 ss) (hj : j ≤ 600) (h : thenAt N ns e m0 ss j M) :
    ∃ M', mo_goMinute 292 M = some M' ∧ thenAt N ns e m0 ss (j + 1) M' ∧ offG 292 M M' ∧ (∀ d : Nat, d < N → M' 287 d = cnt (trajD e (ns d) d m0 (ss d)) (j + 1) - cnt (trajD e (ns d) d m0 (ss d)) j) ∧
    M' 278 26 = bitsI (fun d => (stepD e (ns d) d (m0 + j) (trajD e (ns d) d m0 (ss d) j)).2) N ∧ M' 278 27 = bitsI (fun d => decide (paceD e d (m0 + j) (trajD e (ns d) d m0 (ss d) j) = 0)) N ∧
    (∀ d : Nat, d < N → (stepD e (ns d) d (m0 + j) (trajD e (ns d) d m0 (ss d) j)).2 = true → (d : Int) = M 278 29 → M' 278 28 = (trajD e (ns d) d m0 (ss d) (j + 1)).1) := by
  obtain ⟨hN3, hm0, hm1, hss⟩ := hok
  obtain ⟨h1, h2, h3, h4, h5, h6, h7⟩ := h
  have hcl : clE e := by rw [← h3]; exact fun g => codeV_in _ _ _
  have hT : ∀ d : Nat, d < N → okD (ns d) (trajD e (ns d) d m0 (ss d) j) ∧ (ss d).2.2.1 ≤ (trajD e (ns d) d m0 (ss d) j).2.2.1 ∧ (trajD e (ns d) d m0 (ss d) j).2.2.1 ≤ (ss d).2.2.1 + j := fun d hd => traj_ok hcl (hss d hd).1 (by have := (hss d hd).2; omega) j (by omega)
  have hgo : goOk 292 M := by
    refine ⟨by omega, by omega, h5, h4, by omega, by omega, fun d hd => ?_⟩
    have hd : d < N := by omega
    rw [h2 d hd]
    refine ⟨okD_congr (h7 d hd) (hT d hd).1, ?_⟩
    have e1 : (trajD e (ns d) d m0 (ss d) j).2.2.1 = M 292 (55 * d + 2) := (h7 d hd).2.2.1
    have := (hT d hd).2.2
    have := (hss d hd).2
    omega
  obtain ⟨M', g1, g2, g3, g4, g5, g6, g7, g8, g9⟩ := mo_go (Or.inr rfl) hgo
  have hr : ∀ d : Nat, d < N → eqD (ns d) (stepD e (ns d) d (m0 + j) (trajD e (ns d) d m0 (ss d) j)).1 (rowR 292 (envM M) M d).1 ∧ (stepD e (ns d) d (m0 + j) (trajD e (ns d) d m0 (ss d) j)).2 = (rowR 292 (envM M) M d).2 := fun d hd => by
    unfold rowR
    rw [h2 d hd, h3, h6]
    exact stepD_congr (hT d hd).1 (h7 d hd)
  refine ⟨M', g1, ⟨?_, fun d hd => ?_, ?_, g2.em (Or.inr rfl) h4, g2.rl (Or.inr rfl) h5, ?_, fun d hd => ?_⟩, g2, fun d hd => ?_, ?_, ?_, fun d hd hat hof => ?_⟩
  · rw [g2.2 1 (by omega)]; exact h1
  · rw [g2.1 280 (by omega) (by omega) (by omega)]; exact h2 d hd
  · rw [g2.env (Or.inr rfl)]; exact h3
  · rw [g3, h6]; omega
  · rw [trajD_S]
    have := (g4 d (by omega)).1
    rw [h2 d hd] at this
    exact (hr d hd).1.tr this.sy
  · have z := (g4 d (by omega)).2.2.2
    rw [z]
    unfold rowK cnt
    have hk := (hr d hd).1.2.2.1
    have e1 : (trajD e (ns d) d m0 (ss d) j).2.2.1 = M 292 (55 * d + 2) := (h7 d hd).2.2.1
    have hs := stepD_k (d := (d : Int)) (m := m0 + j) hcl (hT d hd).1
    rw [trajD_S]
    by_cases hz : (rowR 292 (envM M) M d).1.2.2.1 = M 292 (55 * d + 2)
    · rw [if_pos hz]; omega
    · rw [if_neg hz]; omega
  · rw [g6, h1, toNat_c]
    exact bitsI_congr (fun d hd => (hr d hd).2.symm)
  · rw [g7, h1, toNat_c]
    refine bitsI_congr (fun d hd => ?_)
    unfold stoodB paceD
    rw [h3, h6, gvD_congr (hT d hd).1.2.2.1 (hT d hd).1.2.2.2.1 (h7 d hd)]
  · rw [(hr d hd).2] at hat
    rw [g9 d (by omega) hat hof, trajD_S]
    exact (hr d hd).1.1.symm
theorem begin_then {M : MEM} : ∃ M', mo_beginThen M = some M' ∧ (∀ c, c ≠ 292 → M' c = M c) ∧ ∀ k : Nat, k < 166 → M' 292 k = M 279 k := by
  have hl : Tc (iter (fun s => mo_beginThen_b2 s.1 s.2) FU (0, M)) (fun r => (∀ c, c ≠ 292 → r.2 c = M c) ∧ ∀ k : Nat, k < 166 → r.2 292 k = M 279 k) := by
    refine Tc_n (fun i s => s.1 = (i : Int) ∧ (∀ c, c ≠ 292 → s.2 c = M c) ∧ ∀ k : Nat, k < i → s.2 292 k = M 279 k) 166 ⟨rfl, fun _ _ => rfl, fun k hk => by omega⟩ (by omega) (fun i s hi hI => ?_) (fun s hI => ?_)
    · obtain ⟨x, M1⟩ := s
      obtain ⟨rfl, h1, h2⟩ := hI
      dsimp only at h1 h2 ⊢
      unfold mo_beginThen_b2
      refine Tc_f (by omega) (Tc_t (by omega) (Tc_t (by omega) (Tc_u (Tc_inl ⟨(wr_i (by omega) (by omega)).trans (by omega), fun c hc => ?_, fun k hk => ?_⟩))))
      · dsimp only; rw [up2_ne hc]; exact h1 c hc
      · dsimp only
        rw [toNat_c, h1 279 (by decide)]
        by_cases e : k = i
        · subst e; exact rd_same
        · rw [rd_k e]; exact h2 k (by omega)
    · obtain ⟨x, M1⟩ := s
      obtain ⟨rfl, h1, h2⟩ := hI
      unfold mo_beginThen_b2
      exact Tc_t (by show (166 : Int) ≤ ((166 : Nat) : Int); omega) (Tc_inr ⟨h1, h2⟩)
  obtain ⟨r, e1, h1, h2⟩ := hl
  refine ⟨r.2, ?_, h1, h2⟩
  unfold mo_beginThen
  rw [e1]
  rfl
/-- what the reference's questions change -/
def offQ (M M' : MEM) : Prop := (∀ c, c ≠ 278 → c ≠ 287 → c ≠ 292 → c ≠ 293 → M' c = M c) ∧ ∀ k, (k < 14 ∨ 28 < k ∨ (19 ≤ k ∧ k ≤ 21)) → k ≠ 38 → M' 278 k = M 278 k
theorem offQ.rf {M : MEM} : offQ M M := ⟨fun _ _ _ _ _ => rfl, fun _ _ _ => rfl⟩
theorem offQ.tr {M M1 M2 : MEM} (h : offQ M M1) (g : offQ M1 M2) : offQ M M2 := ⟨fun c a b d e => (g.1 c a b d e).trans (h.1 c a b d e), fun k a b => (g.2 k a b).trans (h.2 k a b)⟩
theorem offG.Q {M M' : MEM} (h : offG 292 M M') : offQ M M' := ⟨fun c a b d _ => h.1 c d a b, fun k a _ => h.2 k a⟩
theorem rg278 {k : Nat} (h : (14 ≤ k ∧ k ≤ 28 ∧ k ≠ 21) ∨ k = 38) : rg 278 k = 0 := by
  unfold rg
  rw [if_neg (by omega), if_neg (by omega), if_pos rfl]
  repeat rw [if_neg (by omega)]
theorem offQ.chg {M M' : MEM} (h : offQ M M') : chg [0] M M' := fun a k hn => by
  by_cases h1 : a = 278
  · subst h1
    by_cases h2 : (14 ≤ k ∧ k ≤ 28 ∧ k ≠ 21) ∨ k = 38
    · exact absurd (by rw [rg278 h2]; exact List.mem_singleton.mpr rfl) hn
    · exact h.2 k (by omega) (by omega)
  · by_cases h3 : a = 287 ∨ a = 292 ∨ a = 293
    · refine absurd ?_ hn
      rcases h3 with rfl | rfl | rfl <;> exact List.mem_singleton.mpr rfl
    · rw [h.1 a h1 (by omega) (by omega) (by omega)]
theorem offQ.env {M M' : MEM} (h : offQ M M') : envM M' = envM M := by
  have r : ∀ c, (c = 21 ∨ c = 22 ∨ c = 281 ∨ c = 282) → M' c = M c := fun c hc => h.1 c (by omega) (by omega) (by omega) (by omega)
  unfold envM flM hrM hrF
  rw [r 21 (by omega), r 22 (by omega), r 281 (by omega), r 282 (by omega), h.2 4 (by omega) (by omega), h.2 5 (by omega) (by omega), h.2 7 (by omega) (by omega), h.2 8 (by omega) (by omega)]
theorem offQ.em {M M' : MEM} (h : offQ M M') (g : emOk M) : emOk M' := by
  unfold emOk howOkM at *
  rw [h.1 282 (by omega) (by omega) (by omega) (by omega), h.2 4 (by omega) (by omega), h.2 7 (by omega) (by omega), h.2 8 (by omega) (by omega)]
  exact g
theorem offQ.rl {M M' : MEM} (h : offQ M M') (g : rlOk M) : rlOk M' := g.cg (fun a k hr => h.chg a k (by rw [hr]; decide))
theorem thenAt.cg {N : Nat} {ns : Nat → Int} {e : EN} {m0 : Int} {ss : Nat → DS} {j : Nat} {M M' : MEM} (o : offQ M M') (h292 : M' 292 = M 292) (h : thenAt N ns e m0 ss j M) : thenAt N ns e m0 ss j M' := by
  obtain ⟨h1, h2, h3, h4, h5, h6, h7⟩ := h
  refine ⟨by rw [o.2 1 (by omega) (by omega)]; exact h1, fun d hd => by rw [o.1 280 (by omega) (by omega) (by omega) (by omega)]; exact h2 d hd, by rw [o.env]; exact h3, o.em h4, o.rl h5, by rw [h292]; exact h6, fun d hd => ?_⟩
  unfold dsM
  rw [h292]
  exact h7 d hd
theorem thenAt.cells {N : Nat} {ns : Nat → Int} {e : EN} {m0 : Int} {ss : Nat → DS} {j : Nat} {M M' : MEM} (c : chg [0] M M') (c8 : M' 278 = M 278) (c2 : M' 282 = M 282) (c9 : M' 292 = M 292) (h : thenAt N ns e m0 ss j M) : thenAt N ns e m0 ss j M' := by
  obtain ⟨p1, p2, p3, p4, p5, p6, p7⟩ := h
  have e22 : M' 22 = M 22 := c.row (fun k => (by decide : 3 ∉ [0]))
  have e281 : M' 281 = M 281 := c.row (fun k => (by decide : 2 ∉ [0]))
  refine ⟨?_, fun d hd => ?_, ?_, ?_, p5.cg (fun a k hr => c a k (by rw [hr]; decide)), ?_, fun d hd => ?_⟩
  · rw [c8]; exact p1
  · rw [c 280 d (by decide : 12 ∉ [0])]; exact p2 d hd
  · rw [← p3]; unfold envM flM hrM hrF; rw [c8, e281, c2, c 21 3 (by decide), e22]
  · unfold emOk howOkM at *; rw [c8, c2]; exact p4
  · rw [c9]; exact p6
  · unfold dsM; rw [c9]; exact p7 d hd
/-- all STROKES of the DONKEY d in the next 600 MINUTES -/
theorem find_times {N : Nat} {ns : Nat → Int} {e : EN} {m0 : Int} {ss : Nat → DS} {M : MEM} {d : Nat} (hok : thOk N ns m0 ss) (hd : d < N) (h : thenAt N ns e m0 ss 0 M) :
    ∃ M', mo_findTimes d M = some M' ∧ offQ M M' ∧ M' 278 38 = cnt (trajD e (ns d) d m0 (ss d)) 600 ∧ ∀ i : Nat, (i : Int) < cnt (trajD e (ns d) d m0 (ss d)) 600 → isT (trajD e (ns d) d m0 (ss d)) (M' 293 i) i ∧ M' 293 i < 600 := by
  have hcl : clE e := by rw [← h.2.2.1]; exact fun g => codeV_in _ _ _
  have hst := traj_stk (d := (d : Int)) (m0 := m0) hcl (hok.2.2.2 d hd).1 (by have := (hok.2.2.2 d hd).2; omega)
  have hl : Tc (iter (fun s => mo_findTimes_b7 d s.1 s.2) FU (0, up2 M 278 38 0)) (fun r => offQ M r.2 ∧ r.2 278 38 = cnt (trajD e (ns d) d m0 (ss d)) 600 ∧ ∀ i : Nat, (i : Int) < cnt (trajD e (ns d) d m0 (ss d)) 600 → isT (trajD e (ns d) d m0 (ss d)) (r.2 293 i) i ∧ r.2 293 i < 600) := by
    refine Tc_n (fun j s => s.1 = (j : Int) ∧ thenAt N ns e m0 ss j s.2 ∧ offQ M s.2 ∧ s.2 278 38 = cnt (trajD e (ns d) d m0 (ss d)) j ∧ ∀ i : Nat, (i : Int) < cnt (trajD e (ns d) d m0 (ss d)) j → isT (trajD e (ns d) d m0 (ss d)) (s.2 293 i) i ∧ s.2 293 i < j) 600 ⟨rfl, ?_, ⟨fun c x _ _ _ => up2_ne x, fun k _ y => rd_k y⟩, ?_, fun i hi => ?_⟩ (by omega) (fun j s hj hI => ?_) (fun s hI => ?_)
    · exact h.cg ⟨fun c x _ _ _ => up2_ne x, fun k _ y => rd_k y⟩ (show up2 M 278 38 0 292 = M 292 from up2_ne (by omega))
    · show up2 M 278 38 0 278 38 = _
      rw [rd_same, cnt_0]
    · rw [cnt_0] at hi; omega
    · obtain ⟨x, M1⟩ := s
      obtain ⟨rfl, h1, h2, h3, h4⟩ := hI
      dsimp only at h1 h2 h3 h4 ⊢
      unfold mo_findTimes_b7
      obtain ⟨M2, e1, g1, g2, g3, -, -, -⟩ := then_step hok (by omega) h1
      refine Tc_f (by omega) (Tc_e e1 ?_)
      have hs := hst j (by omega)
      have h287 := g3 d hd
      have hcb := cnt_le hst (show j ≤ 1000000 by omega)
      have h38 : M2 278 38 = cnt (trajD e (ns d) d m0 (ss d)) j := by rw [g2.2 38 (by omega)]; exact h3
      have h293 : M2 293 = M1 293 := g2.1 293 (by omega) (by omega) (by omega)
      have hd3 : (d : Int) < 3 := by have := hok.1; omega
      generalize hT : trajD e (ns d) d m0 (ss d) = T at *
      obtain ⟨c, hc⟩ : ∃ c : Nat, cnt T j = (c : Int) := ⟨(cnt T j).toNat, by omega⟩
      have wj : wr ((j : Int) + 1) = ((j + 1 : Nat) : Int) := (wr_i (by omega) (by omega)).trans (by omega)
      rcases hs with hs | hs
      · have : iter (fun s => mo_findTimes_b24 d j s.1 s.2) FU (0, M2) = some (0, M2) := by
          apply iter_exit
          show mo_findTimes_b24 d j 0 M2 = _
          unfold mo_findTimes_b24
          rw [if_pos ⟨by omega, hd3⟩, toNat_c, if_pos (by omega)]
        refine Tc_e this (Tc_inl ⟨wj, g1, h2.tr g2.Q, by dsimp only; rw [h38, hs], fun i hi => ?_⟩)
        dsimp only
        rw [hs] at hi
        rw [h293]
        have := h4 i hi
        exact ⟨this.1, by omega⟩
      · have : iter (fun s => mo_findTimes_b24 d j s.1 s.2) FU (0, M2) = some (1, up2 (up2 M2 293 c j) 278 38 ((c : Int) + 1)) := by
          refine loop_traj (fun i => if i = 0 then (0, M2) else (1, up2 (up2 M2 293 c j) 278 38 ((c : Int) + 1))) 1 (by omega) (fun k hk => ?_) ?_
          · have : k = 0 := by omega
            subst this
            show mo_findTimes_b24 d j 0 M2 = some (.inl (1, up2 (up2 M2 293 c j) 278 38 ((c : Int) + 1)))
            unfold mo_findTimes_b24
            rw [if_pos ⟨by omega, hd3⟩, toNat_c, if_neg (by omega), if_pos (by omega), h38, hc, toNat_c, Option.bind_some, rd_a (by omega), h38, hc, wr_i (by omega) (by omega), Option.bind_some, wr_i (by omega) (by omega)]
            rfl
          · show mo_findTimes_b24 d j 1 (up2 (up2 M2 293 c j) 278 38 ((c : Int) + 1)) = some (.inr (1, _))
            unfold mo_findTimes_b24
            rw [if_pos ⟨by omega, hd3⟩, toNat_c, rd_a (by omega), rd_a (by omega), if_pos (by omega)]
        refine Tc_e this ?_
        dsimp only
        have oQ : offQ M2 (up2 (up2 M2 293 c j) 278 38 ((c : Int) + 1)) := ⟨fun c x y z w => by rw [up2_ne x, up2_ne w], fun k x y => by rw [rd_k y, rd_a (by omega)]⟩
        refine Tc_inl ⟨wj, g1.cg oQ (by dsimp only; rw [up2_ne (by omega), up2_ne (by omega)]), (h2.tr g2.Q).tr oQ, ?_, fun i hi => ?_⟩
        · dsimp only
          rw [rd_same, hs, hc]
        · dsimp only
          rw [hs] at hi
          rw [rd_a (by omega)]
          by_cases hic : i = c
          · subst hic
            rw [rd_same]
            exact ⟨⟨j, rfl, hc, by rw [hs, hc]⟩, by omega⟩
          · rw [rd_k hic, h293]
            have := h4 i (by omega)
            exact ⟨this.1, by omega⟩
    · obtain ⟨x, M1⟩ := s
      obtain ⟨rfl, h1, h2, h3, h4⟩ := hI
      unfold mo_findTimes_b7
      exact Tc_t (by show (600 : Int) ≤ ((600 : Nat) : Int); omega) (Tc_inr ⟨h2, h3, h4⟩)
  obtain ⟨r, e1, h1, h2, h3⟩ := hl
  refine ⟨r.2, ?_, h1, h2, h3⟩
  unfold mo_findTimes
  rw [Option.bind_some, e1]
  rfl
end
section
-- ===== questions: what they have in common =====
/-- class and reference answer alike, and are alike again -/
def Lk (B : Int) (o : Option (Int × MEM)) (f : MEM → Option (Int × MEM)) : Prop := Tc o (fun p => Tc (f p.2) (fun q => q.1 = p.1 ∧ Rel B q.2))
/-- the way of the DONKEY d from now on, as it is -/
noncomputable def qT (M : MEM) (d : Nat) : Nat → DS := trajD (envM M) (M 280 d) d (M 3 3) (dsC (10 + 3 * d) M)
theorem dnk {B : Int} {M : MEM} (h : Rel B M) (hB : B ≤ 100000000) {d : Nat} (hd : (d : Int) < M 3 2) : okD (M 280 d) (dsC (10 + 3 * d) M) ∧ (dsC (10 + 3 * d) M).2.2.1 ≤ 100000000 ∧ eqD (M 280 d) (dsC (10 + 3 * d) M) (dsM 279 (55 * d) M) ∧ M (10 + 3 * d) 2 = M 280 d := by
  obtain ⟨h1, h2, h3, h4⟩ := h.D
  obtain ⟨q1, q2, q3, -, q4, -⟩ := h4 d hd
  rw [Nat.zero_add] at q2
  have q4 : M (3 + 7 + 3 * d) 5 ≤ M 3 3 := q4
  refine ⟨q3, ?_, q2, q1⟩
  show M (3 + 7 + 3 * d) 5 ≤ _
  omega
theorem now_in {B : Int} {M : MEM} (h : Rel B M) : 0 ≤ M 3 3 ∧ M 3 3 ≤ B ∧ M 279 165 = M 3 3 := by
  obtain ⟨h1, h2, h3, h4⟩ := h.D
  exact ⟨h2, h3, h1.symm⟩
theorem chg_env {L : List Nat} {M M1 : MEM} (c : chg L M M1) (h2 : 2 ∉ L) (h3 : 3 ∉ L) (h5 : 5 ∉ L) (h11 : 11 ∉ L) (h8 : M 278 8 = 0) (h7 : M 278 7 ≤ 10) : envM M1 = envM M := by
  have e22 : M1 22 = M 22 := c.row (fun k => h3)
  have e281 : M1 281 = M 281 := c.row (fun k => h2)
  have e1 : flM M1 = flM M := by
    funext m
    unfold flM
    rw [c 278 5 h11, c 278 4 h2, e281]
  have e2 : hrM M1 = hrM M := by
    funext d m
    unfold hrM
    refine sumN_congr (fun i hi => ?_)
    unfold hrF
    rw [c 278 7 h5, c 278 8 h11]
    by_cases q : (i : Int) < M 278 7 ∨ (10 ≤ i ∧ (i : Int) < 10 + M 278 8)
    · rw [if_pos q, if_pos q]
      have q2 : i < 10 := by omega
      rw [c 282 _ (by rw [rg_car (by omega)]; exact h5), c 282 _ (by rw [rg_car (by omega)]; exact h5), c 282 _ (by rw [rg_car (by omega)]; exact h5), c 282 _ (by rw [rg_car (by omega)]; exact h5)]
    · rw [if_neg q, if_neg q]
  unfold envM
  rw [e1, e2, e22, c 21 3 h3]
theorem chg_em {L : List Nat} {M M1 : MEM} (c : chg L M M1) (h2 : 2 ∉ L) (h5 : 5 ∉ L) (h11 : 11 ∉ L) (h8 : M 278 8 = 0) (g : emOk M) : emOk M1 := by
  unfold emOk howOkM at *
  rw [c 278 4 h2, c 278 7 h5, c 278 8 h11]
  refine ⟨g.1, g.2.1, g.2.2.1, fun i hi => ?_⟩
  have q2 : i < 10 := by omega
  rw [c 282 _ (by rw [rg_car (by omega)]; exact h5)]
  exact g.2.2.2 i hi
theorem env_0 {B : Int} {M : MEM} (h : Rel B M) {f : Nat} (hf : f = 224 ∨ f = 234) : envC f M = envM M ∧ eOk f M := ⟨env_alike h.F h.C (th0 hf h.N) (sw0 hf h.N), eOk_of h.F h.C (th0 hf h.N) h.R⟩
/-- a future of the DONKEY d is begun as it is -/
theorem q_look {B : Int} {M M1 : MEM} (h : Rel B M) {f : Nat} (hf : f = 224 ∨ f = 234) {d : Nat} (hd : (d : Int) < M 3 2) (hB : B ≤ 100000000) (c : chg [0] M M1) (he : envC f M1 = envC f M) (heO : eOk f M1) : ∃ M', dh_look f d M1 = some M' ∧ offL f M1 M' ∧ futAt f (envM M) (M 280 d) d (M 3 3) (qT M d) 0 M' := by
  have h3 := h.S.2.2.1
  obtain ⟨d1, d2, d3, d4⟩ := dnk h hB hd
  have rD : ∀ a k, 10 ≤ a → a ≤ 18 → M1 a k = M a k := fun a k x y => c a k (by rcases rg_D12 (k := k) x y with q | q <;> rw [q] <;> decide)
  have e32 : M1 3 2 = M 3 2 := c 3 2 (by decide)
  have e33 : M1 3 3 = M 3 3 := c 3 3 (by decide)
  have eb : dsC (10 + 3 * d) M1 = dsC (10 + 3 * d) M := by
    unfold dsC
    rw [rD _ _ (by omega) (by omega), rD _ _ (by omega) (by omega), rD _ _ (by omega) (by omega)]
    congr 3
    funext p
    exact rD _ _ (by omega) (by omega)
  have e2 : M1 (10 + 3 * d) 2 = M 280 d := (rD _ _ (by omega) (by omega)).trans d4
  obtain ⟨M', g1, g2, g3, g4, g5, g6, g7, g8⟩ := look_eq (f := f) (d := (d : Int)) (M := M1) hf (by omega) (by omega) (by omega) (by rw [toNat_c, e2]; have := d1.1; have := d1.2.1; omega)
  rw [toNat_c, e2] at g3
  rw [toNat_c, e2, eb] at g4
  refine ⟨M', g1, g2, fut0 ?_ (g2.eOk hf heO) g3 g4 g5 (g6.trans e33) g7 g8⟩
  rw [g2.env hf, he]
  exact (env_0 h hf).1
theorem q_look0 {B : Int} {M : MEM} (h : Rel B M) {f : Nat} (hf : f = 224 ∨ f = 234) {d : Nat} (hd : (d : Int) < M 3 2) (hB : B ≤ 100000000) : ∃ M', dh_look f d M = some M' ∧ offL f M M' ∧ futAt f (envM M) (M 280 d) d (M 3 3) (qT M d) 0 M' :=
  q_look h hf hd hB chg.rf rfl (env_0 h hf).2
theorem q_stk {B : Int} {M : MEM} (h : Rel B M) {d : Nat} (hd : (d : Int) < M 3 2) (hB : B ≤ 100000000) : stk (qT M d) 1000000 := by
  obtain ⟨d1, d2, d3, d4⟩ := dnk h hB hd
  exact traj_stk (fun g => codeV_in _ _ _) d1 (by omega)
/-- the reference's row is laid aside -/
theorem q_then {B : Int} {M M1 : MEM} (h : Rel B M) (hB : B ≤ 100000000) (c : chg [0, 10] M M1) : ∃ M2, mo_beginThen M1 = some M2 ∧ offQ M1 M2 ∧ (∀ c, c ≠ 292 → M2 c = M1 c) ∧ (∀ k : Nat, k < 166 → M2 292 k = M 279 k) ∧ thOk (M 3 2).toNat (fun d => M 280 d) (M 3 3) (fun d => dsC (10 + 3 * d) M) ∧ thenAt (M 3 2).toNat (fun d => M 280 d) (envM M) (M 3 3) (fun d => dsC (10 + 3 * d) M) 0 M2 := by
  obtain ⟨s1, s2, s3, s4⟩ := h.S
  have nw := now_in h
  obtain ⟨M2, g1, g2, g3⟩ := begin_then (M := M1)
  have e279 : M1 279 = M 279 := c.row (fun k => by rw [rg_279]; decide)
  rw [e279] at g3
  have oQ : offQ M1 M2 := ⟨fun c _ _ x _ => g2 c x, fun k _ _ => by rw [g2 278 (by omega)]⟩
  have c7 : M 278 7 ≤ 10 := h.C.2.2.1
  have hem : emOk M := em_of h.F h.C (th0 (Or.inl rfl) h.N)
  refine ⟨M2, g1, oQ, g2, g3, ⟨by omega, nw.1, by omega, fun d hd => ?_⟩, ⟨?_, fun d hd => ?_, ?_, ?_, ?_, ?_, fun d hd => ?_⟩⟩
  · have := dnk h hB (show (d : Int) < M 3 2 by omega)
    exact ⟨this.1, this.2.1⟩
  · rw [g2 278 (by omega), c 278 1 (by decide)]; omega
  · rw [g2 280 (by omega), c 280 d (by decide : 12 ∉ [0, 10])]
  · rw [oQ.env, chg_env c (by decide) (by decide) (by decide) (by decide) h.N.2.2.2.2.2.1 c7]
  · exact oQ.em (chg_em c (by decide) (by decide) (by decide) h.N.2.2.2.2.2.1 hem)
  · exact oQ.rl (h.R.cg (fun a k hr => c a k (by rw [hr]; decide)))
  · rw [g3 165 (by omega), nw.2.2]; omega
  · have := dnk h hB (show (d : Int) < M 3 2 by omega)
    refine this.2.2.1.tr ⟨?_, ?_, ?_, fun p hp => ?_⟩
    · exact (g3 _ (by omega)).symm
    · exact (g3 _ (by omega)).symm
    · exact (g3 _ (by omega)).symm
    · have := this.1.2.1
      exact (g3 _ (by omega)).symm
/-- the MINUTES of all STROKES to come -/
theorem q_times {B : Int} {M M1 : MEM} (h : Rel B M) (hB : B ≤ 100000000) (c : chg [0, 10] M M1) {d : Nat} (hd : (d : Int) < M 3 2) : ∃ M2, mo_timesNow d M1 = some M2 ∧ offQ M1 M2 ∧ M2 278 38 = cnt (qT M d) 600 ∧ ∀ i : Nat, (i : Int) < cnt (qT M d) 600 → isT (qT M d) (M2 293 i) i ∧ M2 293 i < 600 := by
  obtain ⟨M2, g1, g2, -, -, g5, g6⟩ := q_then h hB c
  obtain ⟨M3, f1, f2, f3⟩ := find_times (d := d) g5 (by omega) g6
  refine ⟨M3, ?_, g2.tr f2, f3⟩
  unfold mo_timesNow
  rw [g1, Option.bind_some, f1, Option.bind_some]
theorem moDonkey_eq {M M1 : MEM} (h : C_S M) (h1 : M1 278 1 = M 278 1) (x : Int) : mo_isDonkey x M1 = if 0 ≤ x ∧ x < M 3 2 then 1 else 0 := by
  obtain ⟨s1, s2, s3, s4⟩ := h
  unfold mo_isDonkey
  rw [h1, s1, wr_i (by omega) (by omega), mo_in_eq]
  by_cases q : 0 ≤ x ∧ x < M 3 2
  · rw [if_pos q, if_pos (by omega)]
  · rw [if_neg q, if_neg (by omega)]
theorem moDonkey_y {M M1 : MEM} (h : C_S M) (h1 : M1 278 1 = M 278 1) {x : Int} (q : 0 ≤ x ∧ x < M 3 2) : mo_isDonkey x M1 = 1 := by rw [moDonkey_eq h h1, if_pos q]
theorem moDonkey_n {M M1 : MEM} (h : C_S M) (h1 : M1 278 1 = M 278 1) {x : Int} (q : ¬ (0 ≤ x ∧ x < M 3 2)) : mo_isDonkey x M1 = 0 := by rw [moDonkey_eq h h1, if_neg q]
theorem moIn_y {x a b : Int} (q : a ≤ x ∧ x ≤ b) : mo_in x a b = 1 := by rw [mo_in_eq, if_pos q]
theorem moIn_n {x a b : Int} (q : ¬ (a ≤ x ∧ x ≤ b)) : mo_in x a b = 0 := by rw [mo_in_eq, if_neg q]
theorem chg_13 {L : List Nat} {M M1 : MEM} {x : Int} (h : 0 ∈ L) (c : chg L M M1) : chg L M (up2 M1 278 13 x) := c.up h
-- ===== the ROW =====
def rowC (l : List Int) (M : MEM) : Prop := M 0 14 = (l.length : Int) ∧ ∀ (i : Nat) (x : Int), l[i]? = some x → M 245 i = x
def rowM (l : List Int) (M : MEM) : Prop := M 278 12 = (l.length : Int) ∧ ∀ (i : Nat) (x : Int), l[i]? = some x → M 284 i = x
def offC (M M' : MEM) : Prop := ∀ a k, (a ≠ 0 ∨ k ≠ 14) → a ≠ 245 → M' a k = M a k
def offX (M M' : MEM) : Prop := ∀ a k, (a ≠ 278 ∨ k ≠ 12) → a ≠ 284 → M' a k = M a k
theorem offC.tr {M M1 M2 : MEM} (h : offC M M1) (g : offC M1 M2) : offC M M2 := fun a k x y => (g a k x y).trans (h a k x y)
theorem offX.tr {M M1 M2 : MEM} (h : offX M M1) (g : offX M1 M2) : offX M M2 := fun a k x y => (g a k x y).trans (h a k x y)
theorem offC.chg {M M' : MEM} (h : offC M M') : chg [0, 10] M M' := fun a k n => by
  by_cases e : a = 245
  · subst e; exact absurd (show rg 245 k ∈ [0, 10] by rw [show rg 245 k = 10 from rfl]; decide) n
  · by_cases e2 : a = 0 ∧ k = 14
    · obtain ⟨rfl, rfl⟩ := e2; exact absurd (by decide) n
    · exact h a k (by omega) e
theorem offX.chg {M M' : MEM} (h : offX M M') : chg [0, 10] M M' := fun a k n => by
  by_cases e : a = 284
  · subst e; exact absurd (show rg 284 k ∈ [0, 10] by rw [show rg 284 k = 10 from rfl]; decide) n
  · by_cases e2 : a = 278 ∧ k = 12
    · obtain ⟨rfl, rfl⟩ := e2; exact absurd (by decide) n
    · exact h a k (by omega) e
theorem W_of {l : List Int} {M : MEM} (h : rowC l M) (g : rowM l M) (hl : l.length ≤ 4) : C_W M := by
  refine ⟨by rw [h.1, g.1], by rw [h.1]; omega, by rw [h.1]; omega, fun i hi => ?_⟩
  rw [h.1] at hi
  have hi : i < l.length := by omega
  rw [h.2 i l[i] (List.getElem?_eq_getElem hi), g.2 i l[i] (List.getElem?_eq_getElem hi)]
theorem newRow_eq (M : MEM) : ∃ M', dh_newRow M = some M' ∧ rowC [] M' ∧ offC M M' := by
  refine ⟨up2 M 0 14 0, rfl, ⟨rd_same, fun i x h => by cases h⟩, fun a k h1 h2 => ?_⟩
  rcases h1 with h1 | h1
  · exact rd_a h1
  · exact rd_k h1
theorem snoc_get {l : List Int} {x y : Int} {i : Nat} (h : (l ++ [x])[i]? = some y) : (i < l.length ∧ l[i]? = some y) ∨ (i = l.length ∧ x = y) := by
  by_cases hi : i < l.length
  · rw [List.getElem?_append_left hi] at h
    exact Or.inl ⟨hi, h⟩
  · rw [List.getElem?_append_right (by omega)] at h
    have hz : i - l.length < 1 := (List.getElem?_eq_some_iff.mp h).1
    have : i = l.length := by omega
    subst this
    rw [Nat.sub_self] at h
    exact Or.inr ⟨rfl, Option.some.inj h⟩
theorem tell_eq {l : List Int} {M : MEM} (x : Int) (h : rowC l M) (hl : l.length < 4) : ∃ M', dh_tell x M = some M' ∧ rowC (l ++ [x]) M' ∧ offC M M' := by
  obtain ⟨h1, h2⟩ := h
  unfold dh_tell
  have w : wr ((l.length : Int) + 1) = (l.length : Int) + 1 := wr_i (by omega) (by omega)
  rw [if_neg (by omega), if_pos (by omega), h1, toNat_c, Option.bind_some, rd_a (by omega), h1, w, Option.bind_some]
  refine ⟨_, rfl, ⟨?_, fun i y hy => ?_⟩, fun a k q1 q2 => ?_⟩
  · rw [rd_same, List.length_append]; rfl
  · rw [rd_a (by omega)]
    rcases snoc_get hy with ⟨hi, hy⟩ | ⟨rfl, rfl⟩
    · rw [rd_k (by omega)]; exact h2 i y hy
    · exact rd_same
  · rcases q1 with q1 | q1
    · rw [rd_a q1, rd_a q2]
    · rw [rd_k q1, rd_a q2]
theorem moRow0 (M : MEM) : rowM [] (up2 M 278 12 0) ∧ offX M (up2 M 278 12 0) := by
  refine ⟨⟨rd_same, fun i x h => by cases h⟩, fun a k h1 h2 => ?_⟩
  rcases h1 with h1 | h1
  · exact rd_a h1
  · exact rd_k h1
theorem moTell_eq {l : List Int} {M : MEM} (x : Int) (h : rowM l M) (hl : l.length < 16) : ∃ M', mo_tell x M = some M' ∧ rowM (l ++ [x]) M' ∧ offX M M' := by
  obtain ⟨h1, h2⟩ := h
  unfold mo_tell
  have w : wr ((l.length : Int) + 1) = (l.length : Int) + 1 := wr_i (by omega) (by omega)
  rw [if_pos (by omega), h1, toNat_c, Option.bind_some, rd_a (by omega), h1, w, Option.bind_some]
  refine ⟨_, rfl, ⟨?_, fun i y hy => ?_⟩, fun a k q1 q2 => ?_⟩
  · rw [rd_same, List.length_append]; rfl
  · rw [rd_a (by omega)]
    rcases snoc_get hy with ⟨hi, hy⟩ | ⟨rfl, rfl⟩
    · rw [rd_k (by omega)]; exact h2 i y hy
    · exact rd_same
  · rcases q1 with q1 | q1
    · rw [rd_a q1, rd_a q2]
    · rw [rd_k q1, rd_a q2]
theorem rowC.off {l : List Int} {M M' : MEM} (h : rowC l M) (e0 : M' 0 14 = M 0 14) (e1 : M' 245 = M 245) : rowC l M' := by
  unfold rowC
  rw [e0, e1]
  exact h
end
section
-- ===== ahead, when, strikes, stops =====
theorem asked_y {k : Int} (h : 1 ≤ k ∧ k ≤ 60) : dh_isAskedStroke k = 1 := by unfold dh_isAskedStroke; rw [if_neg (by omega), if_neg (by omega)]
theorem asked_n {k : Int} (h : ¬ (1 ≤ k ∧ k ≤ 60)) : dh_isAskedStroke k = 0 := by
  unfold dh_isAskedStroke
  by_cases q : k < 1
  · rw [if_pos q]
  · rw [if_neg q, if_pos (by omega)]
theorem far_y {k : Int} (h : 1 ≤ k ∧ k ≤ 600) : dh_isFar k = 1 := by unfold dh_isFar; rw [if_neg (by omega), if_neg (by omega)]
theorem far_n {k : Int} (h : ¬ (1 ≤ k ∧ k ≤ 600)) : dh_isFar k = 0 := by
  unfold dh_isFar
  by_cases q : k < 1
  · rw [if_pos q]
  · rw [if_neg q, if_pos (by omega)]
theorem road_y {k : Int} (h : 0 ≤ k ∧ k ≤ 99) : dh_isRoad k = 1 := by unfold dh_isRoad; rw [if_neg (by omega), if_neg (by omega)]
theorem road_n {k : Int} (h : ¬ (0 ≤ k ∧ k ≤ 99)) : dh_isRoad k = 0 := by
  unfold dh_isRoad
  by_cases q : k < 0
  · rw [if_pos q]
  · rw [if_neg q, if_pos (by omega)]
/-- the MINUTE of a STROKE that was come to -/
theorem stroke_eq {f : Nat} {e : EN} {n d m0 : Int} {T : Nat → DS} {j : Nat} {k : Int} {M : MEM} (h : futAt f e n d m0 T j M) (h1 : 1 ≤ k) (h2 : k ≤ cnt T j) (h3 : k ≤ 600) : fu_strokeMinute f k M = some (M (f + 9) (k - 1).toNat) ∧ isT T (M (f + 9) (k - 1).toNat) (k - 1).toNat ∧ M (f + 9) (k - 1).toNat < j ∧ 0 ≤ M (f + 9) (k - 1).toNat := by
  obtain ⟨-, -, -, -, -, -, -, h8, h9⟩ := h
  have q := h9 (k - 1).toNat (by omega)
  refine ⟨?_, q.1, q.2, ?_⟩
  · unfold fu_strokeMinute
    rw [if_neg (by omega), if_neg (by omega), if_neg (by omega), wr_i (by omega) (by omega), if_pos (by omega)]
  · obtain ⟨u, hu, -⟩ := q.1
    omega
theorem after_eq {f : Nat} {e : EN} {n d m0 k : Int} {s : DS} {j : Nat} {M : MEM} (hf : f = 224 ∨ f = 234) (hs : okD n s) (hks : s.2.2.1 ≤ 100000000) (hm0 : 0 ≤ m0) (hm1 : m0 ≤ 100000000) (hj : j ≤ 600) (hk : 1 ≤ k) (hk2 : k ≤ 600) (h : futAt f e n d m0 (trajD e n d m0 s) j M) :
    ∃ r M' j', fu_afterStroke f k M = some (r, M') ∧ offF f M M' ∧ futAt f e n d m0 (trajD e n d m0 s) j' M' ∧ j ≤ j' ∧ j' ≤ 600 ∧ ((k ≤ cnt (trajD e n d m0 s) 600 ∧ ∃ v, isT (trajD e n d m0 s) v (k - 1).toNat ∧ 0 ≤ v ∧ v < 600 ∧ r = v + 1) ∨ (cnt (trajD e n d m0 s) 600 < k ∧ r = -1)) := by
  have hcl : clE e := by rw [← h.1]; exact envC_cl f M
  have hst := traj_stk (d := d) (m0 := m0) hcl hs (by omega)
  obtain ⟨j', M', e1, h1, h2, h3, h4, h5, -⟩ := fut_run (most := k) hf hs hks hm0 hm1 (Int.le_refl 600) hj h
  have h10 : M' f 10 = cnt (trajD e n d m0 s) j' := h1.2.2.2.2.2.2.2.1
  have hj' : j' ≤ 600 := by omega
  unfold fu_afterStroke
  rw [e1, Option.bind_some, h10]
  by_cases q : cnt (trajD e n d m0 s) j' < k
  · rw [if_pos q]
    have : j' = 600 := by omega
    subst this
    exact ⟨-1, M', 600, rfl, h2, h1, h3, hj', Or.inr ⟨q, rfl⟩⟩
  · rw [if_neg q]
    obtain ⟨z1, z2, z3, z4⟩ := stroke_eq h1 hk (by omega) hk2
    have hmo := (cnt_mono hst hj' (by omega)).1
    refine ⟨M' (f + 9) (k - 1).toNat + 1, M', j', ?_, h2, h1, h3, hj', Or.inl ⟨by omega, _, z2, z4, by omega, rfl⟩⟩
    rw [z1, Option.bind_some, wr_i (by omega) (by omega)]
theorem c_when {B : Int} {M : MEM} (h : Rel B M) (hB : B ≤ 100000000) (x k : Int) : Lk B (dh_when x k M) (mo_when x k) := by
  have nw := now_in h
  unfold Lk dh_when
  by_cases hd : 0 ≤ x ∧ x < M 3 2
  · refine Tc_f (by rw [isDonkey_y h.S.2.2.1 hd.1 hd.2]; decide) ?_
    by_cases hk : 1 ≤ k ∧ k ≤ 60
    · refine Tc_f (by rw [asked_y hk]; decide) ?_
      obtain ⟨d, rfl⟩ : ∃ d : Nat, x = (d : Int) := ⟨x.toNat, by omega⟩
      obtain ⟨M1, e1, o1, f1⟩ := q_look0 h (Or.inl rfl) hd.2 hB
      obtain ⟨d1, d2, -, -⟩ := dnk h hB hd.2
      have hst := q_stk h hd.2 hB
      obtain ⟨r, M2, j', e2, o2, -, -, -, hr⟩ := after_eq (Or.inl rfl) d1 d2 nw.1 (by omega) (by omega) hk.1 (by omega) f1
      refine Tc_e e1 (Tc_e e2 ?_)
      have c2 : chg [0] M M2 := (o1.tr o2.L).chg (Or.inl rfl)
      have mo : Tc (mo_when d k M2) (fun q => q.1 = (if 0 ≤ r then r else -2) ∧ Rel B q.2) := by
        unfold mo_when
        have c3 : chg [0] M (up2 M2 278 13 0) := c2.up (by decide)
        refine Tc_u (Tc_f (by rw [moDonkey_y h.S (c3 278 1 (by decide)) hd]; decide) (Tc_f (by rw [moIn_y hk]; decide) ?_))
        obtain ⟨M4, g1, g2, g3, g4⟩ := q_times h hB (c3.sub (by decide)) hd.2
        refine Tc_e g1 ?_
        have c4 := c3.tr g2.chg
        rw [g3]
        rcases hr with ⟨h1, v, h2, h3, h4, rfl⟩ | ⟨h1, rfl⟩
        · obtain ⟨z1, z2⟩ := g4 (k - 1).toNat (by unfold qT; omega)
          have := isT_uniq hst h2 z1 (by omega) (by omega)
          refine Tc_t h1 ?_
          rw [wr_i (x := k - 1) (by omega) (by omega)]
          refine Tc_t (by omega) (Tc_some ⟨?_, h.go0 c4⟩)
          rw [if_pos (by omega), ← this, wr_i (by omega) (by omega)]
        · refine Tc_f (by unfold qT; omega) (Tc_some ⟨?_, h.go0 c4⟩)
          rw [if_neg (by omega)]
      refine Tc_i (fun q => Tc_some (Tc_m mo fun q' hq => ⟨?_, hq.2⟩)) (fun q => Tc_some (Tc_m mo fun q' hq => ⟨?_, hq.2⟩))
      · have q : 0 ≤ r := q
        rw [hq.1, if_pos q]
      · have q : ¬ 0 ≤ r := q
        rw [hq.1, if_neg q]
    · refine Tc_t (asked_n hk) (Tc_some ?_)
      unfold mo_when
      have c3 : chg [0] M (up2 M 278 13 0) := chg.rf.up (by decide)
      exact Tc_u (Tc_f (by rw [moDonkey_y h.S (c3 278 1 (by decide)) hd]; decide) (Tc_t (moIn_n hk) (Tc_some ⟨rfl, h.go0 c3⟩)))
  · refine Tc_t (isDonkey_n h.S.2.2.1 hd) (Tc_some ?_)
    unfold mo_when
    have c3 : chg [0] M (up2 M 278 13 0) := chg.rf.up (by decide)
    exact Tc_u (Tc_t (moDonkey_n h.S (c3 278 1 (by decide)) hd) (Tc_some ⟨rfl, h.go0 c3⟩))
/-- so many MINUTES of the reference, one behind another -/
theorem then_loop {N : Nat} {ns : Nat → Int} {e : EN} {m0 : Int} {ss : Nat → DS} {M : MEM} {n : Int} {body : Int × MEM → Option ((Int × MEM) ⊕ (Int × MEM))} (hb : ∀ k M, body (k, M) = if n ≤ k then some (.inr (k, M)) else (mo_goMinute 292 M).bind fun M1 => some (.inl (wr (k + 1), M1))) (hok : thOk N ns m0 ss) (h0 : 0 ≤ n) (h1 : n ≤ 600) (h : thenAt N ns e m0 ss 0 M) :
    ∃ M', iter body FU (0, M) = some (n, M') ∧ thenAt N ns e m0 ss n.toNat M' ∧ offQ M M' := by
  have hl : Tc (iter body FU (0, M)) (fun r => r.1 = n ∧ thenAt N ns e m0 ss n.toNat r.2 ∧ offQ M r.2) := by
    refine Tc_n (fun i s => s.1 = (i : Int) ∧ thenAt N ns e m0 ss i s.2 ∧ offQ M s.2) n.toNat ⟨rfl, h, offQ.rf⟩ (by omega) (fun i s hi hI => ?_) (fun s hI => ?_)
    · obtain ⟨x, M1⟩ := s
      obtain ⟨rfl, h2, h3⟩ := hI
      rw [hb]
      obtain ⟨M2, e1, g1, g2, -⟩ := then_step hok (by omega) h2
      exact Tc_f (by omega) (Tc_e e1 (Tc_inl ⟨(wr_i (by omega) (by omega)).trans (by omega), g1, h3.tr g2.Q⟩))
    · obtain ⟨x, M1⟩ := s
      obtain ⟨rfl, h2, h3⟩ := hI
      rw [hb]
      exact Tc_t (by omega) (Tc_inr ⟨show ((n.toNat : Nat) : Int) = n by omega, h2, h3⟩)
  obtain ⟨r, e1, h2, h3, h4⟩ := hl
  refine ⟨r.2, ?_, h3, h4⟩
  rw [e1, ← h2]
theorem w55 {d : Nat} (h : d < 3) : wr (55 * (d : Int)) = ((55 * d : Nat) : Int) := (wr_i (by omega) (by omega)).trans (by omega)
theorem w55k {o k : Nat} (h : o ≤ 1000) (hk : k ≤ 1000) : wr (((o : Nat) : Int) + (k : Int)) = ((o + k : Nat) : Int) := (wr_i (by omega) (by omega)).trans (by omega)
theorem offX.cell {M M' : MEM} (h : offX M M') {a : Nat} (h1 : a ≠ 278) (h2 : a ≠ 284) : M' a = M a := funext fun k => h a k (Or.inl h1) h2
theorem offC.cell {M M' : MEM} (h : offC M M') {a : Nat} (h1 : a ≠ 0) (h2 : a ≠ 245) : M' a = M a := funext fun k => h a k (Or.inl h1) h2
/-- the class's cells are left alone -/
def moF (M M' : MEM) : Prop := ∀ c, c < 278 → M' c = M c
theorem moF.rf {M : MEM} : moF M M := fun _ _ => rfl
theorem moF.tr {M M1 M2 : MEM} (h : moF M M1) (g : moF M1 M2) : moF M M2 := fun c x => (g c x).trans (h c x)
theorem moF.up {M : MEM} {a k : Nat} {x : Int} (h : 278 ≤ a) : moF M (up2 M a k x) := fun c hc => up2_ne (by omega)
theorem offQ.mo {M M' : MEM} (h : offQ M M') : moF M M' := fun c hc => h.1 c (by omega) (by omega) (by omega) (by omega)
theorem offX.mo {M M' : MEM} (h : offX M M') : moF M M' := fun c hc => h.cell (by omega) (by omega)
theorem rowC.fin {l : List Int} {M M' : MEM} (h : rowC l M) (f : moF M M') (g : rowM l M') (hl : l.length ≤ 4) : C_W M' :=
  W_of (h.off (by rw [f 0 (by decide)]) (f 245 (by decide))) g hl
theorem c_ahead {B : Int} {M : MEM} (h : Rel B M) (hB : B ≤ 100000000) (x k : Int) : Lk B (dh_ahead x k M) (mo_ahead x k) := by
  have nw := now_in h
  unfold Lk dh_ahead
  by_cases hd : 0 ≤ x ∧ x < M 3 2
  · refine Tc_f (by rw [isDonkey_y h.S.2.2.1 hd.1 hd.2]; decide) ?_
    have c3 : chg [0] M (up2 M 278 13 0) := chg.rf.up (by decide)
    by_cases hk : 0 ≤ k ∧ k ≤ 600
    · refine Tc_f (by omega) (Tc_t hk.2 ?_)
      obtain ⟨d, rfl⟩ : ∃ d : Nat, x = (d : Int) := ⟨x.toNat, by omega⟩
      have hd3 : d < 3 := by have := h.S.2.2.1; omega
      obtain ⟨M1, e1, o1, f1⟩ := q_look0 h (Or.inl rfl) hd.2 hB
      obtain ⟨d1, d2, d3, d4⟩ := dnk h hB hd.2
      have hst := q_stk h hd.2 hB
      obtain ⟨M2, e2, f2, o2⟩ := fut_run600 (till := k) (Or.inl rfl) d1 d2 nw.1 (by omega) hk.2 (by omega) f1
      rw [show max 0 k.toNat = k.toNat by omega] at f2
      have hcb := cnt_le hst (show k.toNat ≤ 1000000 by omega)
      refine Tc_e e1 (Tc_e e2 ?_)
      have c2 : chg [0] M M2 := (o1.tr o2.L).chg (Or.inl rfl)
      obtain ⟨M3, n1, n2, n3⟩ := newRow_eq M2
      refine Tc_e n1 ?_
      obtain ⟨M4, t1, t2, t3⟩ := tell_eq (M3 230 3) n2 (by decide)
      refine Tc_e t1 ?_
      obtain ⟨M5, u1, u2, u3⟩ := tell_eq (M4 230 4) t2 (by simp)
      refine Tc_e u1 (Tc_some ?_)
      have oC : offC M2 M5 := (n3.tr t3).tr u3
      have c5 : chg [0, 10] M M5 := (c2.sub (by decide)).tr oC.chg
      have r1 : M3 230 3 = (qT M d k.toNat).1 := by
        rw [n3.cell (by decide) (by decide)]
        exact f2.2.2.2.1.1.symm
      have r2 : M4 230 4 = (qT M d k.toNat).2.1 := by
        rw [t3.cell (by decide) (by decide), n3.cell (by decide) (by decide)]
        exact f2.2.2.2.1.2.1.symm
      rw [r1, r2] at u2
      have r3 : M5 224 10 = cnt (qT M d) k.toNat := by
        rw [oC.cell (by decide) (by decide)]
        exact f2.2.2.2.2.2.2.2.1
      dsimp only
      rw [r3]
      unfold mo_ahead
      have c6 : chg [0, 10] M (up2 M5 278 13 0) := c5.up (by decide)
      refine Tc_u (Tc_f (by rw [moDonkey_y h.S (c6 278 1 (by decide)) hd]; decide) (Tc_f (by rw [moIn_y hk]; decide) ?_))
      obtain ⟨M6, g1, g2, -, -, g5, g6⟩ := q_then h hB c6
      refine Tc_e g1 ?_
      obtain ⟨M7, i1, i2, i3⟩ := then_loop (body := fun s => mo_ahead_b32 d k s.1 s.2) (n := k) (fun _ _ => rfl) g5 hk.1 hk.2 g6
      refine Tc_e i1 (Tc_u ?_)
      dsimp only
      obtain ⟨x1, x2⟩ := moRow0 M7
      have i7 := i2.2.2.2.2.2.2 d (by omega)
      have w1 : wr (((55 * d : Nat) : Int) + 1) = ((55 * d + 1 : Nat) : Int) := (wr_i (by omega) (by omega)).trans (by omega)
      have w2 : wr (((55 * d : Nat) : Int) + 2) = ((55 * d + 2 : Nat) : Int) := (wr_i (by omega) (by omega)).trans (by omega)
      rw [w55 hd3, w1, w2]
      simp only [toNat_c]
      refine Tc_t (by omega) ?_
      obtain ⟨M8, y1, y2, y3⟩ := moTell_eq (up2 M7 278 12 0 292 (55 * d + 1)) x1 (by decide)
      refine Tc_e y1 (Tc_t (by omega) ?_)
      obtain ⟨M9, z1, z2, z3⟩ := moTell_eq (M8 292 (55 * d)) y2 (by simp)
      refine Tc_e z1 (Tc_t (by omega) ?_)
      have s1 : up2 M7 278 12 0 292 (55 * d + 1) = (qT M d k.toNat).1 := by
        rw [rd_a (by decide)]
        exact i7.1.symm
      have s2 : M8 292 (55 * d) = (qT M d k.toNat).2.1 := by
        rw [y3.cell (by decide) (by decide), rd_a (by decide)]
        exact i7.2.1.symm
      rw [s1, s2] at z2
      have oX : offX M7 M9 := (x2.tr y3).tr z3
      have c9 : chg [0, 10] M M9 := ((c6.tr (g2.chg.sub (by decide))).tr (i3.chg.sub (by decide))).tr oX.chg
      have s3 : M9 292 (55 * d + 2) = (qT M d k.toNat).2.2.1 := by
        rw [oX.cell (by decide) (by decide)]
        exact i7.2.2.1.symm
      have s4 : M9 279 (55 * d + 2) = (qT M d 0).2.2.1 := by
        rw [c9 279 _ (by rw [rg_279]; decide)]
        exact d3.2.2.1.symm
      have hst4 : mo_strokes d M9 = some (M9 279 (55 * d + 2)) := by
        unfold mo_strokes
        rw [w55 hd3, w2, if_pos (by omega), toNat_c]
      refine Tc_e hst4 (Tc_some ⟨?_, h.go10 c9 (u2.fin ((((moF.up (by decide)).tr g2.mo).tr i3.mo).tr oX.mo) z2 (by simp))⟩)
      dsimp only
      rw [s3, s4]
      exact wr_i (by unfold cnt at hcb; omega) (by unfold cnt at hcb; omega)
    · have mo : Tc (mo_ahead x k M) (fun q => q.1 = -1 ∧ Rel B q.2) := by
        unfold mo_ahead
        exact Tc_u (Tc_f (by rw [moDonkey_y h.S (c3 278 1 (by decide)) hd]; decide) (Tc_t (moIn_n hk) (Tc_some ⟨rfl, h.go0 c3⟩)))
      refine Tc_i (fun _ => Tc_some mo) (fun q => Tc_f (by omega) (Tc_some mo))
  · refine Tc_t (isDonkey_n h.S.2.2.1 hd) (Tc_some ?_)
    unfold mo_ahead
    have c3 : chg [0] M (up2 M 278 13 0) := chg.rf.up (by decide)
    exact Tc_u (Tc_t (moDonkey_n h.S (c3 278 1 (by decide)) hd) (Tc_some ⟨rfl, h.go0 c3⟩))
end
section
-- ===== strikes, stops =====
theorem after_times {T : Nat → DS} {k r : Int} {M : MEM} (hst : stk T 1000000) (hk : 1 ≤ k) (hr : (k ≤ cnt T 600 ∧ ∃ v, isT T v (k - 1).toNat ∧ 0 ≤ v ∧ v < 600 ∧ r = v + 1) ∨ (cnt T 600 < k ∧ r = -1)) (g3 : M 278 38 = cnt T 600) (g4 : ∀ i : Nat, (i : Int) < cnt T 600 → isT T (M 293 i) i ∧ M 293 i < 600) :
    (k ≤ M 278 38 ∧ r = M 293 (k - 1).toNat + 1 ∧ 0 ≤ M 293 (k - 1).toNat ∧ M 293 (k - 1).toNat < 600) ∨ (M 278 38 < k ∧ r = -1) := by
  rw [g3]
  rcases hr with ⟨h1, v, h2, h3, h4, rfl⟩ | h
  · obtain ⟨z1, z2⟩ := g4 (k - 1).toNat (by omega)
    have := isT_uniq hst h2 z1 (by omega) (by omega)
    exact Or.inl ⟨h1, by rw [this], by omega, by omega⟩
  · exact Or.inr h
theorem times_in {T : Nat → DS} {M : MEM} (g4 : ∀ i : Nat, (i : Int) < cnt T 600 → isT T (M 293 i) i ∧ M 293 i < 600) {i : Nat} (h : (i : Int) < cnt T 600) : 0 ≤ M 293 i ∧ M 293 i < 600 := by
  obtain ⟨⟨u, hu, -⟩, z2⟩ := g4 i h
  omega
theorem mo_strokes_eq {M : MEM} {d : Nat} (h : d < 3) : mo_strokes d M = some (M 279 (55 * d + 2)) := by
  unfold mo_strokes
  rw [w55 h, (wr_i (by omega) (by omega) : wr (((55 * d : Nat) : Int) + 2) = ((55 * d : Nat) : Int) + 2), if_pos (by omega), show (((55 * d : Nat) : Int) + 2).toNat = 55 * d + 2 by omega]
theorem c_strikes {B : Int} {M : MEM} (h : Rel B M) (hB : B ≤ 100000000) (x hour : Int) : Lk B (dh_strikes x hour M) (mo_strikes x hour) := by
  have nw := now_in h
  unfold Lk dh_strikes
  by_cases hd : 0 ≤ x ∧ x < M 3 2
  · refine Tc_f (by rw [isDonkey_y h.S.2.2.1 hd.1 hd.2]; decide) ?_
    by_cases hh : 0 ≤ hour ∧ hour ≤ 11
    · refine Tc_f (by omega) (Tc_t (by omega) ?_)
      obtain ⟨d, rfl⟩ : ∃ d : Nat, x = (d : Int) := ⟨x.toNat, by omega⟩
      have hd3 : d < 3 := by have := h.S.2.2.1; omega
      obtain ⟨M1, e1, o1, f1⟩ := q_look0 h (Or.inl rfl) hd.2 hB
      obtain ⟨d1, d2, d3, d4⟩ := dnk h hB hd.2
      have hst := q_stk h hd.2 hB
      have h5 : M1 230 5 = (dsC (10 + 3 * d) M).2.2.1 := f1.2.2.2.1.2.2.1.symm
      have hk0 : 0 ≤ (dsC (10 + 3 * d) M).2.2.1 := d1.2.2.2.2.2.2.1
      generalize hS : (dsC (10 + 3 * d) M).2.2.1 = S at *
      obtain ⟨k0, hkk⟩ : ∃ k0, (hour - S - 1) % 12 = k0 := ⟨_, rfl⟩
      have hm1 := Int.emod_nonneg (hour - S - 1) (show (12 : Int) ≠ 0 by decide)
      have hm2 := Int.emod_lt_of_pos (hour - S - 1) (show (0 : Int) < 12 by decide)
      refine Tc_e e1 ?_
      rw [h5, wr_i (x := hour - S) (by omega) (by omega), wr_i (x := hour - S - 1) (by omega) (by omega)]
      refine Tc_e (floorMod_eq (by unfold InR; omega) (by decide) (by decide)) ?_
      rw [hkk, wr_i (x := k0 + 1) (by omega) (by omega)]
      obtain ⟨r, M2, j', e2, o2, -, -, -, hr⟩ := after_eq (k := k0 + 1) (Or.inl rfl) d1 (by rw [hS]; exact d2) nw.1 (by omega) (by omega) (by omega) (by omega) f1
      refine Tc_e e2 ?_
      have c2 : chg [0] M M2 := (o1.tr o2.L).chg (Or.inl rfl)
      -- the reference
      have mo : ∀ M3 : MEM, chg [0, 10] M M3 → Tc (mo_strikes d hour M3) (fun q => (r = -1 ∧ q.1 = -2 ∧ chg [0] M3 q.2) ∨ (0 ≤ r ∧ q.1 = r ∧ rowM [k0 + 1] q.2 ∧ moF M3 q.2 ∧ chg [0, 10] M q.2)) := fun M3 c3 => by
        unfold mo_strikes
        have c4 : chg [0, 10] M (up2 M3 278 13 0) := c3.up (by decide)
        have c4' : chg [0] M3 (up2 M3 278 13 0) := chg.rf.up (by decide)
        refine Tc_u (Tc_f (by rw [moDonkey_y h.S (c4 278 1 (by decide)) hd]; decide) (Tc_f (by rw [moIn_y hh]; decide) ?_))
        obtain ⟨M4, g1, g2, g3, g4⟩ := q_times h hB c4 hd.2
        refine Tc_e g1 ?_
        have ht := after_times hst (by omega) hr g3 g4
        have hcb := cnt_le hst (show 600 ≤ 1000000 by omega)
        have hs4 : mo_strokes d M4 = some S := by
          rw [mo_strokes_eq hd3, g2.1 279 (by decide) (by decide) (by decide) (by decide), c4 279 _ (by rw [rg_279]; decide)]
          have : S = M 279 (55 * d + 2) := by rw [← hS]; exact d3.2.2.1
          rw [← this]
        have hl : Tc (iter (fun s => mo_strikes_b32 d hour s M4) FU 1) (fun e => (M4 278 38 < k0 + 1 ∧ ∃ w, e = .inr w) ∨ (k0 + 1 ≤ M4 278 38 ∧ ∃ M5, e = .inl (M4 293 k0.toNat + 1, M5) ∧ rowM [k0 + 1] M5 ∧ offX M4 M5)) := by
          refine Tc_l (fun i s => s = (i : Int) + 1) _ (min (M4 278 38).toNat k0.toNat) rfl (by omega) (fun i s hi hI => ?_) (fun s hI => ?_)
          · subst hI
            unfold mo_strikes_b32
            refine Tc_f (by omega) (Tc_e hs4 (Tc_f ?_ ?_))
            · rw [wr_i (by omega) (by omega), tmod_nn (by omega)]; omega
            · exact Tc_inlL ((wr_i (by omega) (by omega)).trans (by omega))
          · subst hI
            unfold mo_strikes_b32
            by_cases q : M4 278 38 < k0 + 1
            · exact Tc_t (by omega) (Tc_inr (Or.inl ⟨q, _, rfl⟩))
            · have : ((min (M4 278 38).toNat k0.toNat : Nat) : Int) = k0 := by omega
              rw [this]
              refine Tc_f (by omega) (Tc_e hs4 (Tc_t ?_ (Tc_u ?_)))
              · rw [wr_i (by omega) (by omega), tmod_nn (by omega)]; omega
              · obtain ⟨x1, x2⟩ := moRow0 M4
                obtain ⟨M5, y1, y2, y3⟩ := moTell_eq (k0 + 1) x1 (by simp)
                have w : wr (k0 + 1 - 1) = k0 := (wr_i (by omega) (by omega)).trans (by omega)
                rw [w]
                refine Tc_e y1 (Tc_t (by omega) (Tc_inr (Or.inr ⟨by omega, M5, ?_, y2, x2.tr y3⟩)))
                have e293 : M5 293 = M4 293 := (x2.tr y3).cell (by decide) (by decide)
                rw [e293, wr_i]
                · have := times_in g4 (i := k0.toNat) (by omega); omega
                · have := times_in g4 (i := k0.toNat) (by omega); omega
        refine Tc_c hl (fun e he => ?_)
        rcases he with ⟨q1, w, rfl⟩ | ⟨q1, M5, rfl, q2, q3⟩
        · refine Tc_some (Or.inl ⟨by omega, rfl, c4'.tr g2.chg⟩)
        · have z : k0 + 1 - 1 = k0 := by omega
          rw [z] at ht
          refine Tc_some (Or.inr ⟨by omega, ?_, q2, (moF.up (by decide)).tr (g2.mo.tr q3.mo), (c4.tr (g2.chg.sub (by decide))).tr q3.chg⟩)
          dsimp only
          omega
      refine Tc_i (fun q => ?_) (fun q => ?_)
      · have q : 0 ≤ r := q
        obtain ⟨M3, n1, n2, n3⟩ := newRow_eq M2
        obtain ⟨M4, t1, t2, t3⟩ := tell_eq (k0 + 1) n2 (by simp)
        refine Tc_e n1 (Tc_e t1 (Tc_some (Tc_m (mo M4 ((c2.sub (by decide)).tr (n3.tr t3).chg)) fun q' hq => ?_)))
        rcases hq with hq | ⟨z1, z2, z3, z4, z5⟩
        · omega
        · exact ⟨z2, h.go10 z5 (t2.fin z4 z3 (by simp))⟩
      · have q : ¬ 0 ≤ r := q
        refine Tc_some (Tc_m (mo M2 (c2.sub (by decide))) fun q' hq => ?_)
        rcases hq with ⟨z1, z2, z3⟩ | hq
        · exact ⟨z2, h.go0 (c2.tr z3)⟩
        · omega
    · have mo : Tc (mo_strikes x hour M) (fun q => q.1 = -1 ∧ Rel B q.2) := by
        unfold mo_strikes
        have c3 : chg [0] M (up2 M 278 13 0) := chg.rf.up (by decide)
        exact Tc_u (Tc_f (by rw [moDonkey_y h.S (c3 278 1 (by decide)) hd]; decide) (Tc_t (moIn_n hh) (Tc_some ⟨rfl, h.go0 c3⟩)))
      refine Tc_i (fun _ => Tc_some mo) (fun q => Tc_f (by omega) (Tc_some mo))
  · refine Tc_t (isDonkey_n h.S.2.2.1 hd) (Tc_some ?_)
    unfold mo_strikes
    have c3 : chg [0] M (up2 M 278 13 0) := chg.rf.up (by decide)
    exact Tc_u (Tc_t (moDonkey_n h.S (c3 278 1 (by decide)) hd) (Tc_some ⟨rfl, h.go0 c3⟩))
/-- behind the last MINUTE of j in which it isn't so -/
def stillN (P : Nat → Bool) : Nat → Int
  | 0 => 0
  | j + 1 => if P j = true then stillN P j else (j : Int) + 1
theorem stillN_S (P : Nat → Bool) (j : Nat) : stillN P (j + 1) = if P j = true then stillN P j else (j : Int) + 1 := rfl
theorem stillN_bd (P : Nat → Bool) : ∀ j, 0 ≤ stillN P j ∧ stillN P j ≤ j := by
  intro j
  induction j with
  | zero => exact ⟨Int.le_refl _, Int.le_refl _⟩
  | succ j ih =>
    unfold stillN
    split <;> omega
theorem c_stops {B : Int} {M : MEM} (h : Rel B M) (hB : B ≤ 100000000) (x : Int) : Lk B (dh_stops x M) (mo_stops x) := by
  have nw := now_in h
  unfold Lk dh_stops
  by_cases hd : 0 ≤ x ∧ x < M 3 2
  · refine Tc_f (by rw [isDonkey_y h.S.2.2.1 hd.1 hd.2]; decide) ?_
    obtain ⟨d, rfl⟩ : ∃ d : Nat, x = (d : Int) := ⟨x.toNat, by omega⟩
    have hd3 : d < 3 := by have := h.S.2.2.1; omega
    obtain ⟨M1, e1, o1, f1⟩ := q_look0 h (Or.inl rfl) hd.2 hB
    obtain ⟨d1, d2, d3, d4⟩ := dnk h hB hd.2
    refine Tc_e e1 ?_
    have hl : Tc (iter (fun s => dh_stops_b23 s.1 s.2.1 s.2.2) FU (0, 0, M1)) (fun r => r.1 = stillN (fun j => decide (paceD (envM M) d (M 3 3 + j) (qT M d j) = 0)) 600 ∧ offL 224 M1 r.2.2) := by
      refine Tc_n (fun i s => s.1 = stillN (fun j => decide (paceD (envM M) d (M 3 3 + j) (qT M d j) = 0)) i ∧ s.2.1 = (i : Int) ∧ futAt 224 (envM M) (M 280 d) d (M 3 3) (qT M d) i s.2.2 ∧ offL 224 M1 s.2.2) 600 ⟨rfl, rfl, f1, offL.rf⟩ (by omega) (fun i s hi hI => ?_) (fun s hI => ?_)
      · obtain ⟨y, z, M2⟩ := s
        obtain ⟨rfl, rfl, h3, h4⟩ := hI
        dsimp only at h3 h4 ⊢
        obtain ⟨did, M3, g1, g2, g3, g4, g5, -⟩ := fut_step (Or.inl rfl) d1 d2 nw.1 (by omega) hi h3
        unfold dh_stops_b23 dh_stops_j46_23
        have wi : wr ((i : Int) + 1) = ((i + 1 : Nat) : Int) := (wr_i (by omega) (by omega)).trans (by omega)
        refine Tc_f (by omega) (Tc_e g1 ?_)
        dsimp only
        by_cases q : ish i_and did 4 = 0
        · refine Tc_t q (Tc_inl ⟨?_, wi, g2, h4.tr g3.L⟩)
          dsimp only
          have this : paceD (envM M) d (M 3 3 + i) (qT M d i) ≠ 0 := g5.mp q
          rw [stillN_S, if_neg (by simpa using this), wi]
          omega
        · refine Tc_f q (Tc_inl ⟨?_, wi, g2, h4.tr g3.L⟩)
          dsimp only
          have q2 : ¬ paceD (envM M) d (M 3 3 + i) (qT M d i) ≠ 0 := fun z => q (g5.mpr z)
          rw [stillN_S, if_pos (by simpa using q2)]
      · obtain ⟨y, z, M2⟩ := s
        obtain ⟨rfl, rfl, h3, h4⟩ := hI
        unfold dh_stops_b23
        exact Tc_t (by show (600 : Int) ≤ ((600 : Nat) : Int); omega) (Tc_inr ⟨rfl, h4⟩)
    refine Tc_c hl (fun w hw => ?_)
    obtain ⟨y, z, M2⟩ := w
    obtain ⟨rfl, o2⟩ := hw
    dsimp only at o2 ⊢
    have c2 : chg [0] M M2 := (o1.tr o2).chg (Or.inl rfl)
    generalize hP : (fun j : Nat => decide (paceD (envM M) d (M 3 3 + j) (qT M d j) = 0)) = P
    have hb := stillN_bd P 600
    have mo : Tc (mo_stops d M2) (fun q => q.1 = (if stillN P 600 = 600 then -2 else stillN P 600) ∧ Rel B q.2) := by
      unfold mo_stops
      have c3 : chg [0] M (up2 M2 278 13 0) := c2.up (by decide)
      refine Tc_u (Tc_f (by rw [moDonkey_y h.S (c3 278 1 (by decide)) hd]; decide) ?_)
      obtain ⟨M4, g1, g2, -, -, g5, g6⟩ := q_then h hB (c3.sub (by decide))
      refine Tc_e g1 ?_
      have hl2 : Tc (iter (fun s => mo_stops_b23 d s.1 s.2.1 s.2.2) FU (0, 1, M4)) (fun r => r.1 = stillN P 600 ∧ offQ M4 r.2.2) := by
        refine Tc_n (fun i s => s.1 = stillN P i ∧ s.2.1 = (i : Int) + 1 ∧ thenAt (M 3 2).toNat (fun d => M 280 d) (envM M) (M 3 3) (fun d => dsC (10 + 3 * d) M) i s.2.2 ∧ offQ M4 s.2.2) 600 ⟨rfl, rfl, g6, offQ.rf⟩ (by omega) (fun i s hi hI => ?_) (fun s hI => ?_)
        · obtain ⟨y, z, M5⟩ := s
          obtain ⟨rfl, rfl, h3, h4⟩ := hI
          dsimp only at h3 h4 ⊢
          obtain ⟨M6, k1, k2, k3, -, -, k6, -⟩ := then_step g5 (by omega) h3
          unfold mo_stops_b23 mo_stops_j51_23
          have wi : wr ((i : Int) + 1 + 1) = ((i + 1 : Nat) : Int) + 1 := (wr_i (by omega) (by omega)).trans (by omega)
          have hN3 := h.S.2.2.1
          rw [show (bitsI (fun d => decide (paceD (envM M) d (M 3 3 + i) (trajD (envM M) (M 280 d) d (M 3 3) (dsC (10 + 3 * d) M) i) = 0)) (M 3 2).toNat) = bitsI (fun d => decide (paceD (envM M) d (M 3 3 + i) (qT M d i) = 0)) (M 3 2).toNat from rfl] at k6
          refine Tc_f (by omega) (Tc_e k1 ?_)
          rw [k6, has_bit (by omega) (by omega), wi]
          have ePi : P i = decide (paceD (envM M) d (M 3 3 + i) (qT M d i) = 0) := by rw [← hP]
          rw [← ePi]
          cases hPi : P i with
          | true =>
            refine Tc_f (by simp) (Tc_inl ⟨?_, rfl, k2, h4.tr k3.Q⟩)
            dsimp only
            rw [show stillN P (i + 1) = if P i = true then stillN P i else (i : Int) + 1 from rfl, hPi, if_pos rfl]
          | false =>
            refine Tc_t (by simp) (Tc_inl ⟨?_, rfl, k2, h4.tr k3.Q⟩)
            dsimp only
            rw [show stillN P (i + 1) = if P i = true then stillN P i else (i : Int) + 1 from rfl, hPi, if_neg (by decide)]
        · obtain ⟨y, z, M5⟩ := s
          obtain ⟨rfl, rfl, h3, h4⟩ := hI
          unfold mo_stops_b23
          exact Tc_t (by show (600 : Int) < ((600 : Nat) : Int) + 1; omega) (Tc_inr ⟨rfl, h4⟩)
      refine Tc_c hl2 (fun w hw => ?_)
      obtain ⟨y, z, M5⟩ := w
      obtain ⟨rfl, o5⟩ := hw
      have c5 := (c3.tr g2.chg).tr o5.chg
      refine Tc_i (fun q => Tc_some ⟨?_, h.go0 c5⟩) (fun q => Tc_some ⟨?_, h.go0 c5⟩)
      · have q : stillN P 600 = 600 := q
        rw [if_pos q]
      · have q : ¬ stillN P 600 = 600 := q
        rw [if_neg q]
    refine Tc_i (fun q => Tc_some (Tc_m mo fun q' hq => ⟨?_, hq.2⟩)) (fun q => Tc_some (Tc_m mo fun q' hq => ⟨?_, hq.2⟩))
    · rw [hq.1, if_pos (by omega)]
    · rw [hq.1, if_neg (by omega)]
  · refine Tc_t (isDonkey_n h.S.2.2.1 hd) (Tc_some ?_)
    unfold mo_stops
    have c3 : chg [0] M (up2 M 278 13 0) := chg.rf.up (by decide)
    exact Tc_u (Tc_t (moDonkey_n h.S (c3 278 1 (by decide)) hd) (Tc_some ⟨rfl, h.go0 c3⟩))
end
section
-- ===== two clocks =====
def LkT (B : Int) (o : Option (MEM ⊕ (Int × MEM))) (f : MEM → Option (Int × MEM)) : Prop :=
  Tc o (Sum.elim (fun M1 => Tc (f M1) (fun q => q.2 278 13 = 1 ∧ Rel B q.2)) (fun p => Tc (f p.2) (fun q => q.2 278 13 = 0 ∧ q.1 = p.1 ∧ Rel B q.2)))
def two (M : MEM) (x y : Int) : Prop := (0 ≤ x ∧ x < M 3 2) ∧ (0 ≤ y ∧ y < M 3 2) ∧ x ≠ y
theorem areTwo_y {M : MEM} (h : C_S M) {x y : Int} (q : two M x y) : dh_areTwo x y M = 1 := by
  unfold dh_areTwo
  rw [isDonkey_y h.2.2.1 q.1.1 q.1.2, isDonkey_y h.2.2.1 q.2.1.1 q.2.1.2, if_neg (by decide), if_neg (by decide), if_neg q.2.2]
theorem areTwo_n {M : MEM} (h : C_S M) {x y : Int} (q : ¬ two M x y) : dh_areTwo x y M = 0 := by
  unfold dh_areTwo
  by_cases q1 : 0 ≤ x ∧ x < M 3 2
  · rw [isDonkey_y h.2.2.1 q1.1 q1.2, if_neg (by decide)]
    by_cases q2 : 0 ≤ y ∧ y < M 3 2
    · rw [isDonkey_y h.2.2.1 q2.1 q2.2, if_neg (by decide), if_pos]
      by_cases q3 : x = y
      · exact q3
      · exact absurd ⟨q1, q2, q3⟩ q
    · rw [isDonkey_n h.2.2.1 q2, if_pos rfl]
  · rw [isDonkey_n h.2.2.1 q1, if_pos rfl]
theorem moTwo_y {M M1 : MEM} (h : C_S M) (h1 : M1 278 1 = M 278 1) {x y : Int} (q : two M x y) : mo_areTwo x y M1 = 1 := by
  unfold mo_areTwo
  rw [moDonkey_y h h1 q.1, moDonkey_y h h1 q.2.1, if_neg (by decide), if_neg (by decide), if_neg q.2.2]
theorem moTwo_n {M M1 : MEM} (h : C_S M) (h1 : M1 278 1 = M 278 1) {x y : Int} (q : ¬ two M x y) : mo_areTwo x y M1 = 0 := by
  unfold mo_areTwo
  by_cases q1 : 0 ≤ x ∧ x < M 3 2
  · rw [moDonkey_y h h1 q1, if_neg (by decide)]
    by_cases q2 : 0 ≤ y ∧ y < M 3 2
    · rw [moDonkey_y h h1 q2, if_neg (by decide), if_pos]
      by_cases q3 : x = y
      · exact q3
      · exact absurd ⟨q1, q2, q3⟩ q
    · rw [moDonkey_n h h1 q2, if_pos rfl]
  · rw [moDonkey_n h h1 q1, if_pos rfl]
/-- what a future rests on -/
theorem futAt.cells {f : Nat} {e : EN} {n d m0 : Int} {T : Nat → DS} {j : Nat} {M M' : MEM} (hc : ∀ c, (c = f ∨ c = f + 6 ∨ c = f + 7 ∨ c = f + 9 ∨ (f + 1 ≤ c ∧ c ≤ f + 5) ∨ (5 ≤ c ∧ c ≤ 20) ∨ c = 22) → M' c = M c) (e21 : M' 21 3 = M 21 3) (h : futAt f e n d m0 T j M) : futAt f e n d m0 T j M' := by
  obtain ⟨h1, h2, h3, h4, h5, h6, h7, h8, h9⟩ := h
  refine ⟨?_, ?_, ?_, ?_, ?_, ?_, ?_, ?_, fun i hi => ?_⟩
  · rw [← h1]
    unfold envC flC
    rw [plC_cg (c := 5) (fun q hq => hc _ (by omega)), plC_cg (c := f + 1) (fun q hq => hc _ (by omega)), hc f (by omega), e21, hc 19 (by omega), hc 20 (by omega), hc 22 (by omega)]
  · obtain ⟨g1, ⟨g2, g3, g4⟩, ⟨g5, g6, g7⟩, g8⟩ := h2
    refine ⟨?_, ⟨?_, ?_, howOk_cg (fun q hq => hc _ (by omega)) g4⟩, ⟨?_, ?_, howOk_cg (fun q hq => hc _ (by omega)) g7⟩, ?_⟩
    · rw [hc 19 (by omega)]; exact g1
    · rw [hc 5 (by omega)]; exact g2
    · rw [hc 5 (by omega)]; exact g3
    · rw [hc (f + 1) (by omega)]; exact g5
    · rw [hc (f + 1) (by omega)]; exact g6
    · rw [e21, hc 22 (by omega)]; exact g8
  · rw [hc (f + 6) (by omega)]; exact h3
  · have : dsC (f + 6) M' = dsC (f + 6) M := by
      unfold dsC
      rw [hc (f + 6) (by omega), show f + 6 + 1 = f + 7 by omega, hc (f + 7) (by omega)]
    rw [this]; exact h4
  · rw [hc f (by omega)]; exact h5
  · rw [hc f (by omega)]; exact h6
  · rw [hc f (by omega)]; exact h7
  · rw [hc f (by omega)]; exact h8
  · rw [hc (f + 9) (by omega)]; exact h9 i hi
/-- one future's MINUTES leave the other one alone -/
theorem futAt.other {f g : Nat} {e : EN} {n d m0 : Int} {T : Nat → DS} {j : Nat} {M M' : MEM} (hfg : (f = 224 ∧ g = 234) ∨ (f = 234 ∧ g = 224)) (o : offL g M M') (h : futAt f e n d m0 T j M) : futAt f e n d m0 T j M' :=
  h.cells (fun c hc => o.1 c (by omega) (by omega) (by omega) (by omega) (by omega) (by omega) (by omega)) (o.2.2 3 (by decide))
/-- two futures are begun -/
theorem q_both {B : Int} {M : MEM} (h : Rel B M) (hB : B ≤ 100000000) {a b : Nat} (ha : (a : Int) < M 3 2) (hb : (b : Int) < M 3 2) : ∃ M', dh_lookBoth a b M = some M' ∧ chg [0] M M' ∧ futAt 224 (envM M) (M 280 a) a (M 3 3) (qT M a) 0 M' ∧ futAt 234 (envM M) (M 280 b) b (M 3 3) (qT M b) 0 M' := by
  obtain ⟨M1, e1, o1, f1⟩ := q_look0 h (Or.inl rfl) ha hB
  have c1 := o1.chg (Or.inl rfl)
  have hc : ∀ c, (c ≤ 20 ∨ c = 22 ∨ (234 ≤ c ∧ c ≤ 243)) → M1 c = M c := fun c hc => o1.1 c (by omega) (by omega) (by omega) (by omega) (by omega) (by omega) (by omega)
  have e21 : M1 21 3 = M 21 3 := o1.2.2 3 (by decide)
  have he : envC 234 M1 = envC 234 M := by
    unfold envC flC
    rw [plC_cg (c := 5) (fun q hq => hc _ (by omega)), plC_cg (c := 234 + 1) (fun q hq => hc _ (by omega)), hc 234 (by omega), e21, hc 19 (by omega), hc 20 (by omega), hc 22 (by omega)]
  have heO : eOk 234 M1 := by
    obtain ⟨g1, ⟨g2, g3, g4⟩, ⟨g5, g6, g7⟩, g8⟩ := (env_0 h (f := 234) (Or.inr rfl)).2
    refine ⟨?_, ⟨?_, ?_, howOk_cg (fun q hq => hc _ (by omega)) g4⟩, ⟨?_, ?_, howOk_cg (fun q hq => hc _ (by omega)) g7⟩, ?_⟩
    · rw [hc 19 (by omega)]; exact g1
    · rw [hc 5 (by omega)]; exact g2
    · rw [hc 5 (by omega)]; exact g3
    · rw [hc (234 + 1) (by omega)]; exact g5
    · rw [hc (234 + 1) (by omega)]; exact g6
    · rw [e21, hc 22 (by omega)]; exact g8
  obtain ⟨M2, e2, o2, f2⟩ := q_look h (Or.inr rfl) hb hB c1 he heO
  refine ⟨M2, ?_, c1.tr (o2.chg (Or.inr rfl)), f1.other (Or.inl ⟨rfl, rfl⟩) o2, f2⟩
  unfold dh_lookBoth
  rw [e1, Option.bind_some, e2, Option.bind_some]
theorem thrown1 {B : Int} {M M1 : MEM} (h : Rel B M) (c : chg [0] M M1) : Tc (mo_lost M1) (fun q => q.2 278 13 = 1 ∧ Rel B q.2) := by
  unfold mo_lost
  exact Tc_u (Tc_some ⟨(rd_same : up2 M1 278 13 1 278 13 = 1), h.go0 (c.up (by decide))⟩)
theorem c_apart {B : Int} {M : MEM} (h : Rel B M) (hB : B ≤ 100000000) (x y n : Int) : LkT B (dh_apart x y n M) (mo_apart x y n) := by
  have nw := now_in h
  have c3 : chg [0] M (up2 M 278 13 0) := chg.rf.up (by decide)
  unfold LkT dh_apart
  by_cases ht : two M x y
  · refine Tc_f (by rw [areTwo_y h.S ht]; decide) ?_
    by_cases hn : 0 ≤ n ∧ n ≤ 600
    · refine Tc_f (by omega) (Tc_t hn.2 ?_)
      obtain ⟨a, rfl⟩ : ∃ a : Nat, x = (a : Int) := ⟨x.toNat, by have := ht.1; omega⟩
      obtain ⟨b, rfl⟩ : ∃ b : Nat, y = (b : Int) := ⟨y.toNat, by have := ht.2.1; omega⟩
      have hN := h.S.2.2.1
      have ha := ht.1
      have hb := ht.2.1
      obtain ⟨M1, e1, c1, f1, f2⟩ := q_both h hB ha.2 hb.2
      obtain ⟨a1, a2, -, -⟩ := dnk h hB ha.2
      obtain ⟨b1, b2, -, -⟩ := dnk h hB hb.2
      obtain ⟨M2, e2, g2, o2⟩ := fut_run600 (till := n) (Or.inl rfl) a1 a2 nw.1 (by omega) hn.2 (by omega) f1
      obtain ⟨M3, e3, g3, o3⟩ := fut_run600 (till := n) (Or.inr rfl) b1 b2 nw.1 (by omega) hn.2 (by omega) (f2.other (Or.inr ⟨rfl, rfl⟩) o2.L)
      have g2' := g2.other (Or.inl ⟨rfl, rfl⟩) o3.L
      refine Tc_e e1 (Tc_e e2 (Tc_e e3 (Tc_some ?_)))
      rw [show max 0 n.toNat = n.toNat by omega] at g2' g3
      have k1 : M3 230 5 = (qT M a n.toNat).2.2.1 := g2'.2.2.2.1.2.2.1.symm
      have k2 : M3 240 5 = (qT M b n.toNat).2.2.1 := g3.2.2.2.1.2.2.1.symm
      have c4 : chg [0] M M3 := (c1.tr (o2.L.chg (Or.inl rfl))).tr (o3.L.chg (Or.inr rfl))
      show Tc (mo_apart a b n M3) (fun q => q.2 278 13 = 0 ∧ q.1 = wr (M3 230 5 - M3 240 5) ∧ Rel B q.2)
      rw [k1, k2]
      unfold mo_apart
      have c5 : chg [0] M (up2 M3 278 13 0) := c4.up (by decide)
      refine Tc_u (Tc_f (by rw [moTwo_y h.S (c5 278 1 (by decide)) ht]; decide) (Tc_f (by rw [moIn_y hn]; decide) ?_))
      obtain ⟨M6, z1, z2, -, -, z5, z6⟩ := q_then h hB (c5.sub (by decide))
      refine Tc_e z1 ?_
      obtain ⟨M7, i1, i2, i3⟩ := then_loop (body := fun s => mo_apart_b37 a b n s.1 s.2) (n := n) (fun _ _ => rfl) z5 hn.1 hn.2 z6
      refine Tc_e i1 ?_
      have w1 : wr (((55 * a : Nat) : Int) + 2) = ((55 * a + 2 : Nat) : Int) := (wr_i (by omega) (by omega)).trans (by omega)
      have w2 : wr (((55 * b : Nat) : Int) + 2) = ((55 * b + 2 : Nat) : Int) := (wr_i (by omega) (by omega)).trans (by omega)
      rw [w55 (by omega), w55 (by omega), w1, w2]
      simp only [toNat_c]
      refine Tc_t (by omega) (Tc_t (by omega) (Tc_some ⟨?_, ?_, h.go0 ((c5.tr z2.chg).tr i3.chg)⟩))
      · dsimp only
        rw [i3.2 13 (by omega) (by omega), z2.2 13 (by omega) (by omega), rd_same]
      · have q1 := i2.2.2.2.2.2.2 a (by omega)
        have q2 := i2.2.2.2.2.2.2 b (by omega)
        have q1 : (qT M a n.toNat).2.2.1 = M7 292 (55 * a + 2) := q1.2.2.1
        have q2 : (qT M b n.toNat).2.2.1 = M7 292 (55 * b + 2) := q2.2.2.1
        rw [q1, q2]
    · have mo : Tc (mo_apart x y n M) (fun q => q.2 278 13 = 1 ∧ Rel B q.2) := by
        unfold mo_apart
        refine Tc_u (Tc_f (by rw [moTwo_y h.S (c3 278 1 (by decide)) ht]; decide) (Tc_t (moIn_n hn) ?_))
        unfold mo_apart_j25
        exact Tc_c (thrown1 h c3) (fun q hq => Tc_some hq)
      refine Tc_i (fun _ => Tc_some mo) (fun q => Tc_f (by omega) (Tc_some mo))
  · refine Tc_t (areTwo_n h.S ht) (Tc_some ?_)
    show Tc (mo_apart x y n M) _
    unfold mo_apart
    refine Tc_u (Tc_t (moTwo_n h.S (c3 278 1 (by decide)) ht) ?_)
    unfold mo_apart_j25
    exact Tc_c (thrown1 h c3) (fun q hq => Tc_some hq)
/-- the first MINUTE of 600 in which it is so, counted from 1; -2: none -/
def fstP (P : Nat → Prop) (r : Int) : Prop := (∃ j : Nat, j < 600 ∧ P j ∧ (∀ i, i < j → ¬ P i) ∧ r = (j : Int) + 1) ∨ ((∀ i : Nat, i < 600 → ¬ P i) ∧ r = -2)
theorem fstP_uniq {P : Nat → Prop} {r r' : Int} (h : fstP P r) (g : fstP P r') : r = r' := by
  rcases h with ⟨j, h1, h2, h3, h4⟩ | ⟨h1, h2⟩ <;> rcases g with ⟨i, g1, g2, g3, g4⟩ | ⟨g1, g2⟩
  · have : i = j := by
      rcases Nat.lt_trichotomy i j with q | q | q
      · exact absurd g2 (h3 i q)
      · exact q
      · exact absurd h2 (g3 j q)
    subst this
    omega
  · exact absurd h2 (g1 j h1)
  · exact absurd g2 (h1 i g1)
  · omega
theorem ish_both {a b : Int} (ha : a = 0 ∨ a = 1 ∨ a = 2 ∨ a = 3 ∨ a = 4) (hb : b = 0 ∨ b = 1 ∨ b = 2 ∨ b = 3 ∨ b = 4) : ish i_and (ish i_and a b) 1 = 0 ↔ (ish i_and a 1 = 0 ∨ ish i_and b 1 = 0) := by
  simp only [ish_def]
  rcases ha with rfl | rfl | rfl | rfl | rfl <;> rcases hb with rfl | rfl | rfl | rfl | rfl <;> decide
theorem c_together {B : Int} {M : MEM} (h : Rel B M) (hB : B ≤ 100000000) (x y : Int) : Lk B (dh_together x y M) (mo_together x y) := by
  have nw := now_in h
  have c3 : chg [0] M (up2 M 278 13 0) := chg.rf.up (by decide)
  unfold Lk dh_together
  by_cases ht : two M x y
  · refine Tc_f (by rw [areTwo_y h.S ht]; decide) ?_
    obtain ⟨a, rfl⟩ : ∃ a : Nat, x = (a : Int) := ⟨x.toNat, by have := ht.1; omega⟩
    obtain ⟨b, rfl⟩ : ∃ b : Nat, y = (b : Int) := ⟨y.toNat, by have := ht.2.1; omega⟩
    have hN := h.S.2.2.1
    have ha := ht.1
    have hb := ht.2.1
    obtain ⟨M1, e1, c1, f1, f2⟩ := q_both h hB ha.2 hb.2
    obtain ⟨a1, a2, -, -⟩ := dnk h hB ha.2
    obtain ⟨b1, b2, -, -⟩ := dnk h hB hb.2
    have sa := q_stk h ha.2 hB
    have sb := q_stk h hb.2 hB
    obtain ⟨P, hP⟩ : ∃ P : Nat → Prop, P = fun j => cnt (qT M a) (j + 1) ≠ cnt (qT M a) j ∧ cnt (qT M b) (j + 1) ≠ cnt (qT M b) j := ⟨_, rfl⟩
    refine Tc_e e1 ?_
    have hl : Tc (iter (fun s => dh_together_b19 s.1 s.2) FU (0, M1)) (fun e => ∃ r M2, fstP P r ∧ chg [0] M M2 ∧ (e = .inl (r, M2) ∨ (r = -2 ∧ ∃ w, e = .inr (w, M2)))) := by
      refine Tc_l (fun i s => s.1 = (i : Int) ∧ futAt 224 (envM M) (M 280 a) a (M 3 3) (qT M a) i s.2 ∧ futAt 234 (envM M) (M 280 b) b (M 3 3) (qT M b) i s.2 ∧ chg [0] M s.2 ∧ ∀ i', i' < i → ¬ P i') _ 600 ⟨rfl, f1, f2, c1, fun i' q => by omega⟩ (by omega) (fun i s hi hI => ?_) (fun s hI => ?_)
      · obtain ⟨z, M2⟩ := s
        obtain ⟨rfl, q1, q2, q3, q4⟩ := hI
        dsimp only at q1 q2 q3 ⊢
        obtain ⟨d1, M3, s1, s2, s3, s4, -, s6⟩ := fut_step (Or.inl rfl) a1 a2 nw.1 (by omega) hi q1
        obtain ⟨d2, M4, t1, t2, t3, t4, -, t6⟩ := fut_step (Or.inr rfl) b1 b2 nw.1 (by omega) hi (q2.other (Or.inr ⟨rfl, rfl⟩) s3.L)
        have c4 : chg [0] M M4 := (q3.tr (s3.L.chg (Or.inl rfl))).tr (t3.L.chg (Or.inr rfl))
        have wi : wr ((i : Int) + 1) = ((i + 1 : Nat) : Int) := (wr_i (by omega) (by omega)).trans (by omega)
        unfold dh_together_b19
        refine Tc_f (by omega) (Tc_e s1 (Tc_e t1 ?_))
        dsimp only
        have hPi : ish i_and (ish i_and d1 d2) 1 = 0 ↔ ¬ P i := by
          rw [ish_both s6 t6, s4, t4, hP]
          show _ ↔ ¬ (cnt (qT M a) (i + 1) ≠ cnt (qT M a) i ∧ cnt (qT M b) (i + 1) ≠ cnt (qT M b) i)
          unfold qT
          omega
        refine Tc_i (fun q => ?_) (fun q => ?_)
        · refine Tc_inlL ⟨wi, s2.other (Or.inl ⟨rfl, rfl⟩) t3.L, t2, c4, fun i' hi' => ?_⟩
          by_cases e : i' = i
          · subst e; exact hPi.mp q
          · exact q4 i' (by omega)
        · refine Tc_inrR ⟨_, M4, Or.inl ⟨i, hi, ?_, q4, ?_⟩, c4, Or.inl rfl⟩
          · by_cases z : P i
            · exact z
            · exact absurd (hPi.mpr z) q
          · rw [wi]; omega
      · obtain ⟨z, M2⟩ := s
        obtain ⟨rfl, q1, q2, q3, q4⟩ := hI
        unfold dh_together_b19
        exact Tc_t (by show (600 : Int) ≤ ((600 : Nat) : Int); omega) (Tc_inr ⟨-2, M2, Or.inr ⟨q4, rfl⟩, q3, Or.inr ⟨rfl, _, rfl⟩⟩)
    refine Tc_c hl (fun e he => ?_)
    obtain ⟨r, M2, hr, c2, he⟩ := he
    have mo : Tc (mo_together a b M2) (fun q => q.1 = r ∧ Rel B q.2) := by
      unfold mo_together
      have c5 : chg [0] M (up2 M2 278 13 0) := c2.up (by decide)
      refine Tc_u (Tc_f (by rw [moTwo_y h.S (c5 278 1 (by decide)) ht]; decide) ?_)
      obtain ⟨M6, z1, z2, -, -, z5, z6⟩ := q_then h hB (c5.sub (by decide))
      refine Tc_e z1 ?_
      have hl2 : Tc (iter (fun s => mo_together_b22 a b s.1 s.2) FU (1, M6)) (fun e => ∃ r M7, fstP P r ∧ offQ M6 M7 ∧ (e = .inl (r, M7) ∨ (r = -2 ∧ ∃ w, e = .inr (w, M7)))) := by
        refine Tc_l (fun i s => s.1 = (i : Int) + 1 ∧ thenAt (M 3 2).toNat (fun d => M 280 d) (envM M) (M 3 3) (fun d => dsC (10 + 3 * d) M) i s.2 ∧ offQ M6 s.2 ∧ ∀ i', i' < i → ¬ P i') _ 600 ⟨rfl, z6, offQ.rf, fun i' q => by omega⟩ (by omega) (fun i s hi hI => ?_) (fun s hI => ?_)
        · obtain ⟨z, M7⟩ := s
          obtain ⟨rfl, q1, q2, q4⟩ := hI
          dsimp only at q1 q2 ⊢
          obtain ⟨M8, k1, k2, k3, k4, -⟩ := then_step z5 (by omega) q1
          have ka : M8 287 a = cnt (qT M a) (i + 1) - cnt (qT M a) i := k4 a (by omega)
          have kb : M8 287 b = cnt (qT M b) (i + 1) - cnt (qT M b) i := k4 b (by omega)
          have xa := sa i (by omega)
          have xb := sb i (by omega)
          have wi : wr ((i : Int) + 1 + 1) = ((i + 1 : Nat) : Int) + 1 := (wr_i (by omega) (by omega)).trans (by omega)
          unfold mo_together_b22 mo_together_j57_22
          refine Tc_f (by omega) (Tc_e k1 (Tc_t (by omega) ?_))
          rw [wi]
          simp only [toNat_c]
          refine Tc_i (fun q => ?_) (fun q => Tc_t (by omega) (Tc_i (fun q' => ?_) (fun q' => ?_)))
          · refine Tc_inlL ⟨rfl, k2, q2.tr k3.Q, fun i' hi' => ?_⟩
            by_cases e : i' = i
            · subst e; rw [hP]; rintro ⟨y1, y2⟩; omega
            · exact q4 i' (by omega)
          · refine Tc_inlL ⟨rfl, k2, q2.tr k3.Q, fun i' hi' => ?_⟩
            by_cases e : i' = i
            · subst e; rw [hP]; rintro ⟨y1, y2⟩; omega
            · exact q4 i' (by omega)
          · exact Tc_inrR ⟨_, M8, Or.inl ⟨i, hi, by rw [hP]; constructor <;> omega, q4, rfl⟩, q2.tr k3.Q, Or.inl rfl⟩
        · obtain ⟨z, M7⟩ := s
          obtain ⟨rfl, q1, q2, q4⟩ := hI
          unfold mo_together_b22
          exact Tc_t (by show (600 : Int) < ((600 : Nat) : Int) + 1; omega) (Tc_inr ⟨-2, M7, Or.inr ⟨q4, rfl⟩, q2, Or.inr ⟨rfl, _, rfl⟩⟩)
      refine Tc_c hl2 (fun e he => ?_)
      obtain ⟨r', M7, hr', c7, he⟩ := he
      have := fstP_uniq hr hr'
      subst this
      rcases he with rfl | ⟨rfl, w, rfl⟩
      · exact Tc_some ⟨rfl, h.go0 ((c5.tr z2.chg).tr c7.chg)⟩
      · exact Tc_some ⟨rfl, h.go0 ((c5.tr z2.chg).tr c7.chg)⟩
    rcases he with rfl | ⟨rfl, w, rfl⟩
    · exact Tc_some mo
    · exact Tc_some mo
  · refine Tc_t (areTwo_n h.S ht) (Tc_some ?_)
    unfold mo_together
    exact Tc_u (Tc_t (moTwo_n h.S (c3 278 1 (by decide)) ht) (Tc_some ⟨rfl, h.go0 c3⟩))
end
section
-- ===== shows, join =====
theorem c_shows {B : Int} {M : MEM} (h : Rel B M) (hB : B ≤ 100000000) (x y k : Int) : Lk B (dh_shows x y k M) (mo_shows x y k) := by
  have nw := now_in h
  have c3 : chg [0] M (up2 M 278 13 0) := chg.rf.up (by decide)
  unfold Lk dh_shows
  by_cases ht : two M x y
  · refine Tc_f (by rw [areTwo_y h.S ht]; decide) ?_
    by_cases hk : 1 ≤ k ∧ k ≤ 60
    · refine Tc_f (by rw [asked_y hk]; decide) ?_
      obtain ⟨a, rfl⟩ : ∃ a : Nat, x = (a : Int) := ⟨x.toNat, by have := ht.1; omega⟩
      obtain ⟨b, rfl⟩ : ∃ b : Nat, y = (b : Int) := ⟨y.toNat, by have := ht.2.1; omega⟩
      have hN := h.S.2.2.1
      have ha := ht.1
      have hb := ht.2.1
      obtain ⟨M1, e1, c1, f1, f2⟩ := q_both h hB ha.2 hb.2
      obtain ⟨a1, a2, -, -⟩ := dnk h hB ha.2
      obtain ⟨b1, b2, -, -⟩ := dnk h hB hb.2
      have sa := q_stk h ha.2 hB
      have sb := q_stk h hb.2 hB
      refine Tc_e e1 ?_
      obtain ⟨r, M2, j', e2, o2, g2, -, -, hr⟩ := after_eq (k := k) (Or.inr rfl) b1 b2 nw.1 (by omega) (by omega) (by omega) (by omega) f2
      refine Tc_e e2 ?_
      have c2 : chg [0] M M2 := c1.tr (o2.L.chg (Or.inr rfl))
      have f1' := f1.other (Or.inl ⟨rfl, rfl⟩) o2.L
      -- the reference
      have mo : ∀ M3 : MEM, chg [0] M M3 → Tc (mo_shows a b k M3) (fun q => ((r = -1 ∧ q.1 = -2) ∨ (0 ≤ r ∧ q.1 = (qT M a r.toNat).2.2.1 % 12)) ∧ Rel B q.2) := fun M3 c3 => by
        unfold mo_shows
        have c4 : chg [0] M (up2 M3 278 13 0) := c3.up (by decide)
        refine Tc_u (Tc_f (by rw [moTwo_y h.S (c4 278 1 (by decide)) ht]; decide) (Tc_f (by rw [moIn_y hk]; decide) ?_))
        obtain ⟨M6, z1, z2, -, -, z5, z6⟩ := q_then h hB (c4.sub (by decide))
        refine Tc_e z1 ?_
        have hl2 : Tc (iter (fun s => mo_shows_b36 a b k s.1 s.2.1 s.2.2) FU (0, 0, M6)) (fun e => ∃ M7, offQ M6 M7 ∧ ((0 ≤ r ∧ e = .inl ((qT M a r.toNat).2.2.1 % 12, M7)) ∨ (r = -1 ∧ ∃ w w', e = .inr (w, w', M7)))) := by
          refine Tc_l (fun i s => s.1 = cnt (qT M b) i ∧ s.2.1 = (i : Int) ∧ thenAt (M 3 2).toNat (fun d => M 280 d) (envM M) (M 3 3) (fun d => dsC (10 + 3 * d) M) i s.2.2 ∧ offQ M6 s.2.2 ∧ cnt (qT M b) i < k) _ (if r = -1 then 600 else (r - 1).toNat) ⟨(cnt_0 _).symm, rfl, z6, offQ.rf, by rw [cnt_0]; omega⟩ (by split <;> omega) (fun i s hi hI => ?_) (fun s hI => ?_)
          · obtain ⟨z, z', M7⟩ := s
            obtain ⟨rfl, rfl, q1, q2, q4⟩ := hI
            dsimp only at q1 q2 q4 ⊢
            have hi6 : i < 600 := by
              by_cases e : r = -1
              · rw [if_pos e] at hi; exact hi
              · rw [if_neg e] at hi
                rcases hr with ⟨-, v, -, -, h4, h5⟩ | ⟨-, h5⟩ <;> omega
            obtain ⟨M8, k1, k2, k3, k4, -⟩ := then_step z5 (by omega) q1
            have kb : M8 287 b = cnt (qT M b) (i + 1) - cnt (qT M b) i := k4 b (by omega)
            have hcb := cnt_le sb (show i + 1 ≤ 1000000 by omega)
            have wi : wr ((i : Int) + 1) = ((i + 1 : Nat) : Int) := (wr_i (by omega) (by omega)).trans (by omega)
            have wc : wr (cnt (qT M b) i + M8 287 b) = cnt (qT M b) (i + 1) := (wr_i (by omega) (by omega)).trans (by omega)
            unfold mo_shows_b36
            refine Tc_f (by omega) (Tc_e k1 (Tc_t (by omega) ?_))
            rw [toNat_c, wc, wi]
            have hlt : cnt (qT M b) (i + 1) < k := by
              by_cases e : r = -1
              · rcases hr with ⟨-, v, -, h3, -, h5⟩ | ⟨h5, -⟩
                · omega
                · have := (cnt_mono sb (show i + 1 ≤ 600 by omega) (by omega)).1
                  unfold qT at this ⊢
                  omega
              · rw [if_neg e] at hi
                rcases hr with ⟨-, v, ⟨u, hu, u1, u2⟩, h3, h4, h5⟩ | ⟨-, h5⟩
                · have := (cnt_mono sb (show i + 1 ≤ u by omega) (by omega)).1
                  unfold qT at this ⊢
                  omega
                · omega
            exact Tc_t hlt (Tc_inlL ⟨rfl, rfl, k2, q2.tr k3.Q, hlt⟩)
          · obtain ⟨z, z', M7⟩ := s
            obtain ⟨rfl, rfl, q1, q2, q4⟩ := hI
            dsimp only at q1 q2 q4 ⊢
            unfold mo_shows_b36
            by_cases e : r = -1
            · rw [if_pos e]
              exact Tc_t (by omega) (Tc_inr ⟨M7, q2, Or.inr ⟨e, _, _, rfl⟩⟩)
            · rw [if_neg e] at q1 q4 ⊢
              rcases hr with ⟨-, v, ⟨u, hu, u1, u2⟩, h3, h4, h5⟩ | ⟨-, h5⟩
              · have er : (r - 1).toNat = u := by omega
                rw [er] at q1 q4 ⊢
                have er2 : r.toNat = u + 1 := by omega
                rw [er2]
                obtain ⟨M8, k1, k2, k3, k4, -⟩ := then_step z5 (by omega) q1
                have kb : M8 287 b = cnt (qT M b) (u + 1) - cnt (qT M b) u := k4 b (by omega)
                have wc : wr (cnt (qT M b) u + M8 287 b) = cnt (qT M b) (u + 1) := by unfold qT at kb ⊢; exact (wr_i (by omega) (by omega)).trans (by omega)
                have qa : (qT M a (u + 1)).2.2.1 = M8 292 (55 * a + 2) := (k2.2.2.2.2.2.2 a (by omega)).2.2.1
                have w1 : wr (((55 * a : Nat) : Int) + 2) = ((55 * a + 2 : Nat) : Int) := (wr_i (by omega) (by omega)).trans (by omega)
                refine Tc_f (by omega) (Tc_e k1 (Tc_t (by omega) ?_))
                rw [toNat_c, wc, w55 (by omega), w1, toNat_c, ← qa, tmod_nn]
                · refine Tc_f (by unfold qT; omega) (Tc_t (by omega) (Tc_inr ⟨M8, q2.tr k3.Q, Or.inl ⟨by omega, rfl⟩⟩))
                · have := traj_ok (e := envM M) (d := (a : Int)) (m0 := M 3 3) (fun g => codeV_in _ _ _) a1 (by omega) (u + 1) (by omega)
                  exact this.1.2.2.2.2.2.2.1
              · omega
        refine Tc_c hl2 (fun e he => ?_)
        obtain ⟨M7, c7, he⟩ := he
        rcases he with ⟨h0, rfl⟩ | ⟨h0, w, w', rfl⟩
        · exact Tc_some ⟨Or.inr ⟨h0, rfl⟩, h.go0 ((c4.tr z2.chg).tr c7.chg)⟩
        · exact Tc_some ⟨Or.inl ⟨h0, rfl⟩, h.go0 ((c4.tr z2.chg).tr c7.chg)⟩
      refine Tc_i (fun q => ?_) (fun q => ?_)
      · have q : 0 ≤ r := q
        have hr6 : r ≤ 600 := by rcases hr with ⟨-, v, -, -, h4, h5⟩ | ⟨-, h5⟩ <;> omega
        obtain ⟨M3, e3, g3, o3⟩ := fut_run600 (till := r) (Or.inl rfl) a1 a2 nw.1 (by omega) hr6 (by omega) f1'
        rw [show max 0 r.toNat = r.toNat by omega] at g3
        refine Tc_e e3 (Tc_some ?_)
        have k1 : M3 230 5 = (qT M a r.toNat).2.2.1 := g3.2.2.2.1.2.2.1.symm
        have hk0 : 0 ≤ M3 230 5 := by
          have := traj_ok (e := envM M) (d := (a : Int)) (m0 := M 3 3) (fun g => codeV_in _ _ _) a1 (by omega) r.toNat (by omega)
          rw [k1]
          exact this.1.2.2.2.2.2.2.1
        refine Tc_m (mo M3 (c2.tr (o3.L.chg (Or.inl rfl)))) (fun q' hq => ⟨?_, hq.2⟩)
        show q'.1 = Int.tmod (M3 230 5) 12
        rw [tmod_nn hk0, k1]
        rcases hq.1 with z | z
        · omega
        · exact z.2
      · have q : ¬ 0 ≤ r := q
        refine Tc_some (Tc_m (mo M2 c2) fun q' hq => ⟨?_, hq.2⟩)
        rcases hq.1 with z | z
        · exact z.2
        · omega
    · refine Tc_t (asked_n hk) (Tc_some ?_)
      unfold mo_shows
      exact Tc_u (Tc_f (by rw [moTwo_y h.S (c3 278 1 (by decide)) ht]; decide) (Tc_t (moIn_n hk) (Tc_some ⟨rfl, h.go0 c3⟩)))
  · refine Tc_t (areTwo_n h.S ht) (Tc_some ?_)
    unfold mo_shows
    exact Tc_u (Tc_t (moTwo_n h.S (c3 278 1 (by decide)) ht) (Tc_some ⟨rfl, h.go0 c3⟩))
/-- how often, in j MINUTES, the clocks are s apart -/
def tlN (T S : Nat → DS) (s : Nat) : Nat → Int
  | 0 => 0
  | j + 1 => tlN T S s j + (if ((T (j + 1)).2.2.1 - (S (j + 1)).2.2.1) % 12 = (s : Int) then 1 else 0)
theorem tlN_S (T S : Nat → DS) (s j : Nat) : tlN T S s (j + 1) = tlN T S s j + (if ((T (j + 1)).2.2.1 - (S (j + 1)).2.2.1) % 12 = (s : Int) then 1 else 0) := rfl
theorem tlN_bd (T S : Nat → DS) (s : Nat) : ∀ j, 0 ≤ tlN T S s j ∧ tlN T S s j ≤ j := by
  intro j
  induction j with
  | zero => exact ⟨Int.le_refl _, Int.le_refl _⟩
  | succ j ih => rw [tlN_S]; split <;> omega
/-- the first of the most -/
def bestN (f : Nat → Int) : Nat → Nat
  | 0 => 0
  | i + 1 => if f (i + 1) ≤ f (bestN f i) then bestN f i else i + 1
theorem bestN_S (f : Nat → Int) (i : Nat) : bestN f (i + 1) = if f (i + 1) ≤ f (bestN f i) then bestN f i else i + 1 := rfl
theorem bestN_le (f : Nat → Int) : ∀ i, bestN f i ≤ i := by
  intro i
  induction i with
  | zero => exact Nat.le_refl _
  | succ i ih => unfold bestN; split <;> omega
theorem c_join {B : Int} {M : MEM} (h : Rel B M) (hB : B ≤ 100000000) (x y n : Int) : Lk B (dh_join x y n M) (mo_join x y n) := by
  have nw := now_in h
  have c3 : chg [0] M (up2 M 278 13 0) := chg.rf.up (by decide)
  unfold Lk dh_join
  by_cases ht : two M x y
  · refine Tc_f (by rw [areTwo_y h.S ht]; decide) ?_
    by_cases hn : 1 ≤ n ∧ n ≤ 600
    · refine Tc_f (by rw [far_y hn]; decide) ?_
      obtain ⟨a, rfl⟩ : ∃ a : Nat, x = (a : Int) := ⟨x.toNat, by have := ht.1; omega⟩
      obtain ⟨b, rfl⟩ : ∃ b : Nat, y = (b : Int) := ⟨y.toNat, by have := ht.2.1; omega⟩
      have hN := h.S.2.2.1
      have ha := ht.1
      have hb := ht.2.1
      obtain ⟨M1, e1, c1, f1, f2⟩ := q_both h hB ha.2 hb.2
      obtain ⟨a1, a2, -, -⟩ := dnk h hB ha.2
      obtain ⟨b1, b2, -, -⟩ := dnk h hB hb.2
      have ta : ∀ j : Nat, j ≤ 600 → 0 ≤ (qT M a j).2.2.1 ∧ (qT M a j).2.2.1 ≤ 1000000000 := fun j hj => by
        have := traj_ok (e := envM M) (d := (a : Int)) (m0 := M 3 3) (fun g => codeV_in _ _ _) a1 (by omega) j (by omega)
        exact ⟨this.1.2.2.2.2.2.2.1, by have := this.2.2; unfold qT; omega⟩
      have tb : ∀ j : Nat, j ≤ 600 → 0 ≤ (qT M b j).2.2.1 ∧ (qT M b j).2.2.1 ≤ 1000000000 := fun j hj => by
        have := traj_ok (e := envM M) (d := (b : Int)) (m0 := M 3 3) (fun g => codeV_in _ _ _) b1 (by omega) j (by omega)
        exact ⟨this.1.2.2.2.2.2.2.1, by have := this.2.2; unfold qT; omega⟩
      refine Tc_e e1 ?_
      have l1 : Tc (iter (fun s => dh_join_b27 n s.1 s.2) FU (0, M1)) (fun r => (∀ c, c ≠ 244 → r.2 c = M1 c) ∧ ∀ s : Nat, s < 12 → r.2 244 s = 0) := by
        refine Tc_n (fun i s => s.1 = (i : Int) ∧ (∀ c, c ≠ 244 → s.2 c = M1 c) ∧ ∀ k : Nat, k < i → s.2 244 k = 0) 12 ⟨rfl, fun _ _ => rfl, fun k hk => by omega⟩ (by omega) (fun i s hi hI => ?_) (fun s hI => ?_)
        · obtain ⟨z, M2⟩ := s
          obtain ⟨rfl, q1, q2⟩ := hI
          dsimp only at q1 q2 ⊢
          unfold dh_join_b27
          refine Tc_f (by omega) (Tc_t (by omega) (Tc_u (Tc_inl ⟨(wr_i (by omega) (by omega)).trans (by omega), fun c hc => ?_, fun k hk => ?_⟩)))
          · dsimp only; rw [up2_ne hc]; exact q1 c hc
          · dsimp only
            rw [toNat_c]
            by_cases e : k = i
            · subst e; exact rd_same
            · rw [rd_k e]; exact q2 k (by omega)
        · obtain ⟨z, M2⟩ := s
          obtain ⟨rfl, q1, q2⟩ := hI
          unfold dh_join_b27
          exact Tc_t (by show (12 : Int) ≤ ((12 : Nat) : Int); omega) (Tc_inr ⟨q1, q2⟩)
      obtain ⟨w2, e2, y1, y2⟩ := l1
      obtain ⟨w, M2⟩ := w2
      dsimp only at y1 y2
      refine Tc_e e2 ?_
      have f1' := f1.cells (M' := M2) (fun c hc => y1 c (by omega)) (by rw [y1 21 (by decide)])
      have f2' := f2.cells (M' := M2) (fun c hc => y1 c (by omega)) (by rw [y1 21 (by decide)])
      have c2 : chg [0] M1 M2 := fun c k hn => by
        by_cases e : c = 244
        · subst e; exact absurd (show rg 244 k ∈ [0] from List.mem_singleton.mpr rfl) hn
        · rw [y1 c e]
      have l2 : Tc (iter (fun s => dh_join_b51 n s.1 s.2) FU (0, M2)) (fun r => chg [0] M2 r.2 ∧ ∀ s : Nat, s < 12 → r.2 244 s = tlN (qT M a) (qT M b) s n.toNat) := by
        refine Tc_n (fun i s => s.1 = (i : Int) ∧ futAt 224 (envM M) (M 280 a) a (M 3 3) (qT M a) i s.2 ∧ futAt 234 (envM M) (M 280 b) b (M 3 3) (qT M b) i s.2 ∧ chg [0] M2 s.2 ∧ ∀ q : Nat, q < 12 → s.2 244 q = tlN (qT M a) (qT M b) q i) n.toNat ⟨rfl, f1', f2', chg.rf, y2⟩ (by omega) (fun i s hi hI => ?_) (fun s hI => ?_)
        · obtain ⟨z, M3⟩ := s
          obtain ⟨rfl, q1, q2, q3, q4⟩ := hI
          dsimp only at q1 q2 q3 q4 ⊢
          obtain ⟨d1, M4, s1, s2, s3, -⟩ := fut_step (Or.inl rfl) a1 a2 nw.1 (by omega) (by omega) q1
          obtain ⟨d2, M5, t1, t2, t3, -⟩ := fut_step (Or.inr rfl) b1 b2 nw.1 (by omega) (by omega) (q2.other (Or.inr ⟨rfl, rfl⟩) s3.L)
          have s2' := s2.other (Or.inl ⟨rfl, rfl⟩) t3.L
          have wi : wr ((i : Int) + 1) = ((i + 1 : Nat) : Int) := (wr_i (by omega) (by omega)).trans (by omega)
          have k1 : M5 230 5 = (qT M a (i + 1)).2.2.1 := s2'.2.2.2.1.2.2.1.symm
          have k2 : M5 240 5 = (qT M b (i + 1)).2.2.1 := t2.2.2.2.1.2.2.1.symm
          have xa := ta (i + 1) (by omega)
          have xb := tb (i + 1) (by omega)
          have e244 : M5 244 = M3 244 := (t3.1 244 (by decide) (by decide) (by decide) (by decide) (by decide) (by decide) (by decide)).trans (s3.1 244 (by decide) (by decide) (by decide) (by decide) (by decide) (by decide) (by decide))
          unfold dh_join_b51
          refine Tc_f (by omega) (Tc_e s1 (Tc_e t1 ?_))
          dsimp only
          rw [k1, k2, wr_i (x := (qT M a (i + 1)).2.2.1 - (qT M b (i + 1)).2.2.1) (by omega) (by omega)]
          refine Tc_e (floorMod_eq (by unfold InR; omega) (by decide) (by decide)) ?_
          have hS : ∀ q, tlN (qT M a) (qT M b) q (i + 1) = tlN (qT M a) (qT M b) q i + (if ((qT M a (i + 1)).2.2.1 - (qT M b (i + 1)).2.2.1) % 12 = (q : Int) then 1 else 0) := fun q => rfl
          obtain ⟨u, hu⟩ : ∃ u : Nat, ((qT M a (i + 1)).2.2.1 - (qT M b (i + 1)).2.2.1) % 12 = (u : Int) := ⟨(((qT M a (i + 1)).2.2.1 - (qT M b (i + 1)).2.2.1) % 12).toNat, by omega⟩
          rw [hu] at hS ⊢
          have hu12 : u < 12 := by omega
          have hbd := tlN_bd (qT M a) (qT M b) u i
          refine Tc_t (by omega) (Tc_t (by omega) (Tc_u (Tc_inl ⟨wi, ?_, ?_, ?_, fun q hq => ?_⟩)))
          · refine s2'.cells (fun c hc => ?_) ?_
            · dsimp only; exact up2_ne (by omega)
            · dsimp only; exact rd_a (by omega)
          · refine t2.cells (fun c hc => ?_) ?_
            · dsimp only; exact up2_ne (by omega)
            · dsimp only; exact rd_a (by omega)
          · exact ((q3.tr (s3.L.chg (Or.inl rfl))).tr (t3.L.chg (Or.inr rfl))).up (List.mem_singleton.mpr rfl)
          · dsimp only
            rw [toNat_c, hS, e244, q4 u hu12, wr_i (x := tlN (qT M a) (qT M b) u i + 1) (by omega) (by omega)]
            by_cases e : q = u
            · subst e
              rw [rd_same, if_pos rfl]
            · rw [rd_k e, e244, q4 q hq, if_neg (by omega), Int.add_zero]
        · obtain ⟨z, M3⟩ := s
          obtain ⟨rfl, q1, q2, q3, q4⟩ := hI
          unfold dh_join_b51
          exact Tc_t (by show n ≤ ((n.toNat : Nat) : Int); omega) (Tc_inr ⟨q3, q4⟩)
      obtain ⟨w3, e3, q1, q2⟩ := l2
      obtain ⟨w', M3⟩ := w3
      dsimp only at q1 q2
      refine Tc_e e3 ?_
      dsimp only
      have best : ∀ (N : MEM) (c : Nat) (bd : Int → Int → MEM → Option ((Int × Int) ⊕ (Int × Int))), (∀ x4 x5, bd x4 x5 N = if 12 ≤ x5 then some (.inr (x4, x5)) else if 0 ≤ x5 ∧ x5 < 12 then (if 0 ≤ x4 ∧ x4 < 12 then (if N c x5.toNat ≤ N c x4.toNat then some (.inl (x4, wr (x5 + 1))) else some (.inl (x5, wr (x5 + 1)))) else none) else none) → (∀ s : Nat, s < 12 → N c s = tlN (qT M a) (qT M b) s n.toNat) →
          iter (fun s => bd s.1 s.2 N) FU (0, 1) = some ((((bestN (fun s => tlN (qT M a) (qT M b) s n.toNat) 11 : Nat) : Int), (12 : Int))) := fun N c bd hbd hN => by
        refine loop_traj (fun i => (((bestN (fun s => tlN (qT M a) (qT M b) s n.toNat) i : Nat) : Int), (i : Int) + 1)) 11 (by omega) (fun i hi => ?_) ?_
        · have hle := bestN_le (fun s => tlN (qT M a) (qT M b) s n.toNat) i
          dsimp only
          rw [hbd, if_neg (by omega), if_pos (by omega), if_pos (by omega), show ((i : Int) + 1).toNat = i + 1 by omega, toNat_c, hN _ (by omega), hN _ (by omega), wr_i (by omega) (by omega)]
          rw [bestN_S]
          by_cases z : tlN (qT M a) (qT M b) (i + 1) n.toNat ≤ tlN (qT M a) (qT M b) (bestN (fun s => tlN (qT M a) (qT M b) s n.toNat) i) n.toNat
          · rw [if_pos z, if_pos z]; congr 3
          · rw [if_neg z, if_neg z]; congr 3
        · dsimp only
          rw [hbd, if_pos (by omega)]
          rfl
      have hb11 := bestN_le (fun s => tlN (qT M a) (qT M b) s n.toNat) 11
      have eb := best M3 244 dh_join_b120 (fun x4 x5 => rfl) q2
      refine Tc_e eb ?_
      dsimp only
      generalize bestN (fun s => tlN (qT M a) (qT M b) s n.toNat) 11 = bst at *
      obtain ⟨M4, n1, n2, n3⟩ := newRow_eq M3
      obtain ⟨M5, t1, t2, t3⟩ := tell_eq (bst : Int) n2 (by simp)
      refine Tc_e n1 (Tc_e t1 (Tc_t (by omega) ?_))
      rw [toNat_c]
      obtain ⟨M6, u1, u2, u3⟩ := tell_eq (M5 244 bst) t2 (by simp)
      refine Tc_e u1 (Tc_some ?_)
      have oC : offC M3 M6 := (n3.tr t3).tr u3
      have e244 : M6 244 = M3 244 := oC.cell (by decide) (by decide)
      have e2445 : M5 244 = M3 244 := (n3.tr t3).cell (by decide) (by decide)
      rw [e2445, q2 bst (by omega)] at u2
      dsimp only
      rw [e244, q2 0 (by omega)]
      have c6 : chg [0, 10] M M6 := (((c1.tr c2).tr q1).sub (by decide)).tr oC.chg
      unfold mo_join
      have c7 : chg [0, 10] M (up2 M6 278 13 0) := c6.up (by decide)
      refine Tc_u (Tc_f (by rw [moTwo_y h.S (c7 278 1 (by decide)) ht]; decide) (Tc_f (by rw [show mo_isMore n = 1 from moIn_y hn]; decide) ?_))
      have m1 : Tc (iter (fun s => mo_join_b26 a b n s.1 s.2) FU (0, up2 M6 278 13 0)) (fun r => (∀ c, c ≠ 303 → r.2 c = up2 M6 278 13 0 c) ∧ ∀ s : Nat, s < 12 → r.2 303 s = 0) := by
        refine Tc_n (fun i s => s.1 = (i : Int) ∧ (∀ c, c ≠ 303 → s.2 c = up2 M6 278 13 0 c) ∧ ∀ k : Nat, k < i → s.2 303 k = 0) 12 ⟨rfl, fun _ _ => rfl, fun k hk => by omega⟩ (by omega) (fun i s hi hI => ?_) (fun s hI => ?_)
        · obtain ⟨z, M2⟩ := s
          obtain ⟨rfl, q1, q2⟩ := hI
          dsimp only at q1 q2 ⊢
          unfold mo_join_b26
          refine Tc_f (by omega) (Tc_t (by omega) (Tc_u (Tc_inl ⟨(wr_i (by omega) (by omega)).trans (by omega), fun c hc => ?_, fun k hk => ?_⟩)))
          · dsimp only; rw [up2_ne hc]; exact q1 c hc
          · dsimp only
            rw [toNat_c]
            by_cases e : k = i
            · subst e; exact rd_same
            · rw [rd_k e]; exact q2 k (by omega)
        · obtain ⟨z, M2⟩ := s
          obtain ⟨rfl, q1, q2⟩ := hI
          unfold mo_join_b26
          exact Tc_t (by show (12 : Int) ≤ ((12 : Nat) : Int); omega) (Tc_inr ⟨q1, q2⟩)
      obtain ⟨w8, e8, x1, x2⟩ := m1
      obtain ⟨w8, M8⟩ := w8
      dsimp only at x1 x2
      refine Tc_e e8 ?_
      dsimp only
      have c8 : chg [0, 10] M M8 := c7.tr (fun c k hn => by
        by_cases e : c = 303
        · subst e; exact absurd (show rg 303 k ∈ [0, 10] from List.mem_cons_self) hn
        · rw [x1 c e])
      obtain ⟨M9, z1, z2, z3, -, z5, z6⟩ := q_then h hB c8
      refine Tc_e z1 ?_
      have m2 : Tc (iter (fun s => mo_join_b54 a b n s.1 s.2) FU (0, M9)) (fun r => chg [0] M9 r.2 ∧ moF M9 r.2 ∧ ∀ s : Nat, s < 12 → r.2 303 s = tlN (qT M a) (qT M b) s n.toNat) := by
        refine Tc_n (fun i s => s.1 = (i : Int) ∧ thenAt (M 3 2).toNat (fun d => M 280 d) (envM M) (M 3 3) (fun d => dsC (10 + 3 * d) M) i s.2 ∧ chg [0] M9 s.2 ∧ moF M9 s.2 ∧ ∀ q : Nat, q < 12 → s.2 303 q = tlN (qT M a) (qT M b) q i) n.toNat ⟨rfl, z6, chg.rf, moF.rf, fun q hq => by dsimp only; rw [z3 303 (by decide)]; exact x2 q hq⟩ (by omega) (fun i s hi hI => ?_) (fun s hI => ?_)
        · obtain ⟨z, M10⟩ := s
          obtain ⟨rfl, q1, q3, q5, q4⟩ := hI
          dsimp only at q1 q3 q4 q5 ⊢
          obtain ⟨M11, k1, k2, k3, -⟩ := then_step z5 (by omega) q1
          have wi : wr ((i : Int) + 1) = ((i + 1 : Nat) : Int) := (wr_i (by omega) (by omega)).trans (by omega)
          have ka : (qT M a (i + 1)).2.2.1 = M11 292 (55 * a + 2) := (k2.2.2.2.2.2.2 a (by omega)).2.2.1
          have kb : (qT M b (i + 1)).2.2.1 = M11 292 (55 * b + 2) := (k2.2.2.2.2.2.2 b (by omega)).2.2.1
          have xa := ta (i + 1) (by omega)
          have xb := tb (i + 1) (by omega)
          have e303 : M11 303 = M10 303 := k3.1 303 (by decide) (by decide) (by decide)
          have w1 : wr (((55 * a : Nat) : Int) + 2) = ((55 * a + 2 : Nat) : Int) := (wr_i (by omega) (by omega)).trans (by omega)
          have w2 : wr (((55 * b : Nat) : Int) + 2) = ((55 * b + 2 : Nat) : Int) := (wr_i (by omega) (by omega)).trans (by omega)
          unfold mo_join_b54
          refine Tc_f (by omega) (Tc_e k1 ?_)
          rw [w55 (by omega), w55 (by omega), w1, w2]
          simp only [toNat_c]
          rw [← ka, ← kb, tmod_nn xa.1, tmod_nn xb.1, wr_i (x := (qT M a (i + 1)).2.2.1 % 12 + 12) (by omega) (by omega), wr_i (x := (qT M a (i + 1)).2.2.1 % 12 + 12 - (qT M b (i + 1)).2.2.1 % 12) (by omega) (by omega), tmod_nn (by omega)]
          have hS : ∀ q, tlN (qT M a) (qT M b) q (i + 1) = tlN (qT M a) (qT M b) q i + (if ((qT M a (i + 1)).2.2.1 - (qT M b (i + 1)).2.2.1) % 12 = (q : Int) then 1 else 0) := fun q => rfl
          have hmm : ((qT M a (i + 1)).2.2.1 % 12 + 12 - (qT M b (i + 1)).2.2.1 % 12) % 12 = ((qT M a (i + 1)).2.2.1 - (qT M b (i + 1)).2.2.1) % 12 := by omega
          rw [hmm]
          obtain ⟨u, hu⟩ : ∃ u : Nat, ((qT M a (i + 1)).2.2.1 - (qT M b (i + 1)).2.2.1) % 12 = (u : Int) := ⟨(((qT M a (i + 1)).2.2.1 - (qT M b (i + 1)).2.2.1) % 12).toNat, by omega⟩
          rw [hu] at hS ⊢
          have hu12 : u < 12 := by omega
          have hbd := tlN_bd (qT M a) (qT M b) u i
          refine Tc_t (by omega) (Tc_t (by omega) (Tc_t (by omega) (Tc_t (by omega) (Tc_u (Tc_inl ⟨wi, ?_, ?_, ?_, fun q hq => ?_⟩)))))
          · refine k2.cells ?_ ?_ ?_ ?_ <;> dsimp only
            · exact chg.rf.up (List.mem_singleton.mpr rfl)
            · exact up2_ne (by decide)
            · exact up2_ne (by decide)
            · exact up2_ne (by decide)
          · exact (q3.tr k3.Q.chg).up (List.mem_singleton.mpr rfl)
          · exact (q5.tr k3.Q.mo).tr (moF.up (by decide))
          · dsimp only
            rw [toNat_c, hS, e303, q4 u hu12, wr_i (x := tlN (qT M a) (qT M b) u i + 1) (by omega) (by omega)]
            by_cases e : q = u
            · subst e
              rw [rd_same, if_pos rfl]
            · rw [rd_k e, e303, q4 q hq, if_neg (by omega), Int.add_zero]
        · obtain ⟨z, M10⟩ := s
          obtain ⟨rfl, q1, q3, q5, q4⟩ := hI
          unfold mo_join_b54
          exact Tc_t (by show n ≤ ((n.toNat : Nat) : Int); omega) (Tc_inr ⟨q3, q5, q4⟩)
      obtain ⟨w10, e10, p1, p2, p3⟩ := m2
      obtain ⟨w10, M10⟩ := w10
      dsimp only at p1 p2 p3
      refine Tc_e e10 ?_
      dsimp only
      have eb2 := best M10 303 mo_join_b124 (fun x4 x5 => rfl) p3
      refine Tc_e eb2 (Tc_u ?_)
      dsimp only
      obtain ⟨r1, r2⟩ := moRow0 M10
      obtain ⟨M11, s1, s2, s3⟩ := moTell_eq (bst : Int) r1 (by simp)
      refine Tc_e s1 (Tc_t (by omega) ?_)
      rw [toNat_c]
      have e303 : M11 303 = M10 303 := (r2.tr s3).cell (by decide) (by decide)
      rw [e303, p3 bst (by omega)]
      obtain ⟨M12, v1, v2, v3⟩ := moTell_eq (tlN (qT M a) (qT M b) bst n.toNat) s2 (by simp)
      have oX : offX M10 M12 := (r2.tr s3).tr v3
      have e303' : M12 303 = M10 303 := oX.cell (by decide) (by decide)
      have f68 : moF M6 M8 := fun c hc => (x1 c (by omega)).trans (up2_ne (by omega))
      refine Tc_e v1 (Tc_some ⟨?_, h.go10 (((c8.tr (z2.chg.sub (by decide))).tr (p1.sub (by decide))).tr oX.chg) (u2.fin (((f68.tr z2.mo).tr p2).tr oX.mo) v2 (by simp))⟩)
      dsimp only
      rw [e303', p3 0 (by omega)]
    · refine Tc_t (far_n hn) (Tc_some ?_)
      unfold mo_join
      exact Tc_u (Tc_f (by rw [moTwo_y h.S (c3 278 1 (by decide)) ht]; decide) (Tc_t (moIn_n hn) (Tc_some ⟨rfl, h.go0 c3⟩)))
  · refine Tc_t (areTwo_n h.S ht) (Tc_some ?_)
    unfold mo_join
    exact Tc_u (Tc_t (moTwo_n h.S (c3 278 1 (by decide)) ht) (Tc_some ⟨rfl, h.go0 c3⟩))
end
section
-- ===== a DONKEY that is otherwise =====
noncomputable def qS (M : MEM) (d : Nat) (s : DS) : Nat → DS := trajD (envM M) (M 280 d) d (M 3 3) s
theorem qS_stk {M : MEM} {d : Nat} {s : DS} (h : okD (M 280 d) s) (hk : s.2.2.1 ≤ 100000000) : stk (qS M d s) 1000000 := traj_stk (fun g => codeV_in _ _ _) h (by omega)
theorem futAt.mod {f : Nat} {e : EN} {n d m0 : Int} {s s' : DS} {M M' : MEM} (hf : f = 224 ∨ f = 234) (h : futAt f e n d m0 (trajD e n d m0 s) 0 M) (hc : ∀ c, c ≠ f + 6 → c ≠ f + 7 → M' c = M c) (h2 : M' (f + 6) 2 = M (f + 6) 2) (hq : eqD n s' (dsC (f + 6) M')) : futAt f e n d m0 (trajD e n d m0 s') 0 M' := by
  obtain ⟨h1, ⟨g1, ⟨g2, g3, g4⟩, ⟨g5, g6, g7⟩, g8⟩, h3, h4, h5, h6, h7, h8, h9⟩ := h
  rw [cnt_0] at h8
  refine fut0 ?_ ⟨?_, ⟨?_, ?_, howOk_cg (fun q hq => hc _ (by omega) (by omega)) g4⟩, ⟨?_, ?_, howOk_cg (fun q hq => hc _ (by omega) (by omega)) g7⟩, ?_⟩ (h2.trans h3) hq ?_ ?_ ?_ ?_
  · rw [← h1]
    unfold envC flC
    rw [plC_cg (c := 5) (fun q hq => hc _ (by omega) (by omega)), plC_cg (c := f + 1) (fun q hq => hc _ (by omega) (by omega)), hc f (by omega) (by omega), hc 19 (by omega) (by omega), hc 20 (by omega) (by omega), hc 21 (by omega) (by omega), hc 22 (by omega) (by omega)]
  · rw [hc 19 (by omega) (by omega)]; exact g1
  · rw [hc 5 (by omega) (by omega)]; exact g2
  · rw [hc 5 (by omega) (by omega)]; exact g3
  · rw [hc (f + 1) (by omega) (by omega)]; exact g5
  · rw [hc (f + 1) (by omega) (by omega)]; exact g6
  · rw [hc 21 (by omega) (by omega), hc 22 (by omega) (by omega)]; exact g8
  · rw [hc f (by omega) (by omega)]; exact h5
  · rw [hc f (by omega) (by omega)]; exact h6
  · rw [hc f (by omega) (by omega)]; exact h7
  · rw [hc f (by omega) (by omega)]; exact h8
def updS (ss : Nat → DS) (d : Nat) (s : DS) : Nat → DS := fun d' => if d' = d then s else ss d'
theorem updS_same (ss : Nat → DS) (d : Nat) (s : DS) : updS ss d s d = s := if_pos rfl
theorem thenAt.mod {N : Nat} {ns : Nat → Int} {e : EN} {m0 : Int} {ss : Nat → DS} {M M' : MEM} {d : Nat} {s' : DS} (hN : N ≤ 3) (hn : ∀ d, d < N → ns d ≤ 12) (h : thenAt N ns e m0 ss 0 M) (hc : ∀ c, c ≠ 292 → M' c = M c) (h2 : ∀ k, (k < 55 * d ∨ 55 * d + 55 ≤ k) → M' 292 k = M 292 k) (hd : d < N) (hq : eqD (ns d) s' (dsM 292 (55 * d) M')) : thenAt N ns e m0 (updS ss d s') 0 M' := by
  obtain ⟨p1, p2, p3, p4, p5, p6, p7⟩ := h
  have o : offQ M M' := ⟨fun c _ _ x _ => hc c x, fun k _ _ => by rw [hc 278 (by decide)]⟩
  refine ⟨?_, fun d hd => ?_, ?_, o.em p4, o.rl p5, ?_, fun d' hd' => ?_⟩
  · rw [hc 278 (by decide)]; exact p1
  · rw [hc 280 (by decide)]; exact p2 d hd
  · rw [o.env]; exact p3
  · rw [h2 165 (by omega)]; exact p6
  · show eqD (ns d') (updS ss d s' d') (dsM 292 (55 * d') M')
    by_cases e : d' = d
    · subst e
      rw [updS_same]
      exact hq
    · unfold updS
      rw [if_neg e]
      have q := p7 d' hd'
      have q : eqD (ns d') (ss d') (dsM 292 (55 * d') M) := q
      have := hn d' hd'
      refine q.tr ⟨?_, ?_, ?_, fun p hp => ?_⟩
      · exact (h2 _ (by omega)).symm
      · exact (h2 _ (by omega)).symm
      · exact (h2 _ (by omega)).symm
      · exact (h2 _ (by omega)).symm
theorem thOk.mod {N : Nat} {ns : Nat → Int} {m0 : Int} {ss : Nat → DS} {d : Nat} {s : DS} (h : thOk N ns m0 ss) (h1 : okD (ns d) s) (h2 : s.2.2.1 ≤ 100000000) : thOk N ns m0 (updS ss d s) := by
  obtain ⟨a, b, c, g⟩ := h
  refine ⟨a, b, c, fun d' hd' => ?_⟩
  unfold updS
  by_cases e : d' = d
  · subst e
    rw [if_pos rfl]
    exact ⟨h1, h2⟩
  · rw [if_neg e]
    exact g d' hd'
-- ===== ferries =====
theorem fu_latest_eq {f : Nat} {e : EN} {n d m0 ferry w : Int} {s : DS} {M : MEM} (hf : f = 224 ∨ f = 234) (hs : okD n s) (hk : s.2.2.1 ≤ 100000000) (hm0 : 0 ≤ m0) (hm1 : m0 ≤ 100000000) (h1 : 1 ≤ ferry ∧ ferry ≤ 600) (h2 : 0 ≤ w) (h3 : w ≤ ferry) (h : futAt f e n d m0 (trajD e n d m0 s) 0 M) :
    ∃ M', fu_latestFor f ferry w M = some (cnt (trajD e n d m0 s) (ferry - w).toNat, M') ∧ futAt f e n d m0 (trajD e n d m0 s) (ferry - w).toNat M' ∧ offF f M M' := by
  obtain ⟨M', e1, g1, g2⟩ := fut_run600 (till := ferry - w) hf hs hk hm0 hm1 (by omega) (by omega) h
  rw [show max 0 (ferry - w).toNat = (ferry - w).toNat by omega] at g1
  refine ⟨M', ?_, g1, g2⟩
  unfold fu_latestFor
  rw [wr_i (by omega) (by omega), e1, Option.bind_some, g1.2.2.2.2.2.2.2.1]
theorem mo_latest_eq {T : Nat → DS} {ferry w : Int} {M : MEM} (hst : stk T 1000000) (h1 : 1 ≤ ferry ∧ ferry ≤ 600) (h2 : 0 ≤ w ∧ w ≤ 99) (g3 : M 278 38 = cnt T 600) (g4 : ∀ i : Nat, (i : Int) < cnt T 600 → isT T (M 293 i) i ∧ M 293 i < 600) :
    mo_latest ferry w M = some (if w ≤ ferry then cnt T (ferry - w).toNat else -1) := by
  have hC := cnt_le hst (show 600 ≤ 1000000 by omega)
  have hc := cnt_le hst (show (ferry - w).toNat ≤ 1000000 by omega)
  have hcC := (cnt_mono hst (show (ferry - w).toNat ≤ 600 by omega) (by omega)).1
  obtain ⟨C, eC⟩ : ∃ C : Nat, cnt T 600 = (C : Int) := ⟨(cnt T 600).toNat, by omega⟩
  have hl : Tc (iter (fun s => mo_latest_b5 ferry w s.1 s.2 M) FU (-1, 0)) (fun r => r.1 = (if w ≤ ferry then cnt T (ferry - w).toNat else -1)) := by
    refine Tc_n (fun i s => s.1 = (if w ≤ ferry then min ((i : Int) - 1) (cnt T (ferry - w).toNat) else -1) ∧ s.2 = (i : Int)) (C + 1) ⟨?_, rfl⟩ (by omega) (fun k s hk hI => ?_) (fun s hI => ?_)
    · dsimp only
      by_cases q : w ≤ ferry
      · rw [if_pos q]; omega
      · rw [if_neg q]
    · obtain ⟨y, z⟩ := s
      obtain ⟨rfl, rfl⟩ := hI
      unfold mo_latest_b5 mo_latest_j28_5 mo_there
      have wk : wr ((k : Int) + 1) = ((k + 1 : Nat) : Int) := (wr_i (by omega) (by omega)).trans (by omega)
      refine Tc_f (by omega) ?_
      rw [wk]
      by_cases k0 : k = 0
      · subst k0
        rw [if_pos (by omega), Option.bind_some]
        by_cases q : w ≤ ferry
        · refine Tc_f (by omega) (Tc_inl ⟨?_, rfl⟩)
          dsimp only
          rw [if_pos q]; omega
        · refine Tc_t (by omega) (Tc_inl ⟨?_, rfl⟩)
          dsimp only
          rw [if_neg q, if_neg q]
      · rw [if_neg (by omega), wr_i (x := (k : Int) - 1) (by omega) (by omega), if_pos (by omega), Option.bind_some]
        obtain ⟨k', rfl⟩ : ∃ k', k = k' + 1 := ⟨k - 1, by omega⟩
        rw [show (((k' + 1 : Nat) : Int) - 1).toNat = k' by omega]
        have ht := g4 k' (by omega)
        have ht0 := times_in g4 (i := k') (by omega)
        rw [wr_i (x := M 293 k' + w) (by omega) (by omega), wr_i (x := M 293 k' + w + 1) (by omega) (by omega)]
        by_cases q : w ≤ ferry
        · have hlt := isT_lt hst (j := (ferry - w).toNat) ht.1 (by omega) (by omega)
          refine Tc_i (fun z => Tc_inl ⟨?_, rfl⟩) (fun z => Tc_inl ⟨?_, rfl⟩)
          · dsimp only
            rw [if_pos q, if_pos q]; omega
          · dsimp only
            rw [if_pos q]; omega
        · refine Tc_t (by omega) (Tc_inl ⟨?_, rfl⟩)
          dsimp only
          rw [if_neg q, if_neg q]
    · obtain ⟨y, z⟩ := s
      obtain ⟨rfl, rfl⟩ := hI
      unfold mo_latest_b5
      refine Tc_t (by omega) (Tc_inr ?_)
      dsimp only
      by_cases q : w ≤ ferry
      · rw [if_pos q, if_pos q]; omega
      · rw [if_neg q, if_neg q]
  obtain ⟨r, hl, hr⟩ := hl
  unfold mo_latest
  rw [hl, Option.bind_some, hr]
theorem c_leave {B : Int} {M : MEM} (h : Rel B M) (hB : B ≤ 100000000) (x ferry w : Int) : Lk B (dh_leave x ferry w M) (mo_leave x ferry w) := by
  have nw := now_in h
  have c3 : chg [0] M (up2 M 278 13 0) := chg.rf.up (by decide)
  unfold Lk dh_leave
  by_cases hd : 0 ≤ x ∧ x < M 3 2
  · refine Tc_f (by rw [isDonkey_y h.S.2.2.1 hd.1 hd.2]; decide) ?_
    by_cases h1 : 1 ≤ ferry ∧ ferry ≤ 600
    · refine Tc_f (by rw [far_y h1]; decide) ?_
      by_cases h2 : 0 ≤ w ∧ w ≤ 99
      · refine Tc_f (by rw [road_y h2]; decide) ?_
        obtain ⟨d, rfl⟩ : ∃ d : Nat, x = (d : Int) := ⟨x.toNat, by omega⟩
        obtain ⟨d1, d2, -, -⟩ := dnk h hB hd.2
        have hst := q_stk h hd.2 hB
        have mo0 : ∀ M3 : MEM, chg [0, 10] M M3 → ∃ M4, chg [0, 10] M M4 ∧ chg [0] M3 M4 ∧ moF M3 M4 ∧ (∀ i : Nat, (i : Int) < cnt (qT M d) 600 → isT (qT M d) (M4 293 i) i ∧ M4 293 i < 600) ∧ mo_leave d ferry w M3 = (if (if w ≤ ferry then cnt (qT M d) (ferry - w).toNat else -1) = -1 then some (-2, M4) else (some (up2 M4 278 12 0)).bind fun M21 => (mo_there (if w ≤ ferry then cnt (qT M d) (ferry - w).toNat else -1) w M21).bind fun r23 => (mo_tell (wr (ferry - r23)) M21).bind fun M27 => some ((if w ≤ ferry then cnt (qT M d) (ferry - w).toNat else -1), M27)) := fun M3 c3 => by
          have c4 : chg [0, 10] M (up2 M3 278 13 0) := c3.up (by decide)
          obtain ⟨M4, g1, g2, g3, g4⟩ := q_times h hB c4 hd.2
          refine ⟨M4, c4.tr (g2.chg.sub (by decide)), (chg.rf.up (by decide) : chg [0] M3 (up2 M3 278 13 0)).tr g2.chg, (moF.up (by decide)).tr g2.mo, g4, ?_⟩
          unfold mo_leave
          rw [Option.bind_some, moDonkey_y h.S (c4 278 1 (by decide)) hd, if_neg (by decide), show mo_isMore ferry = 1 from moIn_y h1, if_neg (by decide), moIn_y h2, if_neg (by decide), g1, Option.bind_some, mo_latest_eq hst h1 h2 g3 g4, Option.bind_some]
        by_cases hw : w ≤ ferry
        · refine Tc_t hw ?_
          obtain ⟨M1, e1, o1, f1⟩ := q_look0 h (Or.inl rfl) hd.2 hB
          obtain ⟨M2, e2, f2, o2⟩ := fu_latest_eq (Or.inl rfl) d1 d2 nw.1 (by omega) h1 h2.1 hw f1
          refine Tc_e e1 (Tc_e e2 ?_)
          dsimp only
          have c2 : chg [0] M M2 := (o1.tr o2.L).chg (Or.inl rfl)
          have hcb := cnt_le hst (show (ferry - w).toNat ≤ 1000000 by omega)
          have hcC := (cnt_mono hst (show (ferry - w).toNat ≤ 600 by omega) (by omega)).1
          rw [show trajD (envM M) (M 280 d) (↑d) (M 3 3) (dsC (10 + 3 * d) M) = qT M d from rfl] at f2 ⊢
          obtain ⟨M3, n1, n2, n3⟩ := newRow_eq M2
          refine Tc_e n1 ?_
          have f3 := f2.cells (M' := M3) (fun c hc => n3.cell (by omega) (by omega)) (n3 21 3 (by decide) (by decide))
          have hth : ∃ v, fu_there 224 (cnt (qT M d) (ferry - w).toNat) w M3 = some (v + w + 1) ∧ ∀ M4 : MEM, (∀ i : Nat, (i : Int) < cnt (qT M d) 600 → isT (qT M d) (M4 293 i) i ∧ M4 293 i < 600) → mo_there (cnt (qT M d) (ferry - w).toNat) w M4 = some (v + w + 1) := by
            by_cases z : cnt (qT M d) (ferry - w).toNat = 0
            · refine ⟨-1, ?_, fun M4 q4 => ?_⟩
              · unfold fu_there fu_strokeMinute
                rw [if_pos (by omega), Option.bind_some, wr_i (x := -1 + w) (by omega) (by omega), wr_i (by omega) (by omega)]
              · unfold mo_there
                rw [if_pos z]
                congr 1; omega
            · obtain ⟨z1, z2, z3, z4⟩ := stroke_eq (k := cnt (qT M d) (ferry - w).toNat) f3 (by omega) (Int.le_refl _) (by omega)
              refine ⟨M3 (224 + 9) (cnt (qT M d) (ferry - w).toNat - 1).toNat, ?_, fun M4 q4 => ?_⟩
              · unfold fu_there
                rw [z1, Option.bind_some, wr_i (x := M3 (224 + 9) (cnt (qT M d) (ferry - w).toNat - 1).toNat + w) (by omega) (by omega), wr_i (by omega) (by omega)]
              · unfold mo_there
                have y := q4 (cnt (qT M d) (ferry - w).toNat - 1).toNat (by omega)
                have y0 := times_in q4 (i := (cnt (qT M d) (ferry - w).toNat - 1).toNat) (by omega)
                have := isT_uniq hst z2 y.1 (by omega) (by omega)
                rw [if_neg z, wr_i (x := cnt (qT M d) (ferry - w).toNat - 1) (by omega) (by omega), if_pos (by omega), wr_i (x := M4 293 (cnt (qT M d) (ferry - w).toNat - 1).toNat + w) (by omega) (by omega), wr_i (by omega) (by omega), this]
          obtain ⟨v, v1, v2⟩ := hth
          refine Tc_e v1 ?_
          obtain ⟨M5, t1, t2, t3⟩ := tell_eq (wr (ferry - (v + w + 1))) n2 (by simp)
          refine Tc_e t1 (Tc_some ?_)
          dsimp only
          obtain ⟨M4, q1, q2, q3, q4, q5⟩ := mo0 M5 ((c2.sub (by decide)).tr (n3.tr t3).chg)
          rw [q5, if_pos hw]
          refine Tc_f (by omega) (Tc_u ?_)
          obtain ⟨r1, r2⟩ := moRow0 M4
          have e293 : up2 M4 278 12 0 293 = M4 293 := r2.cell (by decide) (by decide)
          refine Tc_e (v2 _ (by rw [e293]; exact q4)) ?_
          obtain ⟨M6, s1, s2, s3⟩ := moTell_eq (wr (ferry - (v + w + 1))) r1 (by simp)
          exact Tc_e s1 (Tc_some ⟨rfl, h.go10 (q1.tr (r2.tr s3).chg) (t2.fin (q3.tr (r2.tr s3).mo) s2 (by simp))⟩)
        · refine Tc_f hw (Tc_some ?_)
          obtain ⟨M4, q1, q2, q3, q4, q5⟩ := mo0 M (chg.rf)
          dsimp only
          rw [q5, if_neg hw, if_pos rfl]
          exact Tc_some ⟨rfl, h.go0 q2⟩
      · refine Tc_t (road_n h2) (Tc_some ?_)
        unfold mo_leave
        exact Tc_u (Tc_f (by rw [moDonkey_y h.S (c3 278 1 (by decide)) hd]; decide) (Tc_f (by rw [show mo_isMore ferry = 1 from moIn_y h1]; decide) (Tc_t (moIn_n h2) (Tc_some ⟨rfl, h.go0 c3⟩))))
    · refine Tc_t (far_n h1) (Tc_some ?_)
      unfold mo_leave
      exact Tc_u (Tc_f (by rw [moDonkey_y h.S (c3 278 1 (by decide)) hd]; decide) (Tc_t (moIn_n h1) (Tc_some ⟨rfl, h.go0 c3⟩)))
  · refine Tc_t (isDonkey_n h.S.2.2.1 hd) (Tc_some ?_)
    unfold mo_leave
    exact Tc_u (Tc_t (moDonkey_n h.S (c3 278 1 (by decide)) hd) (Tc_some ⟨rfl, h.go0 c3⟩))
end
section
-- ===== sure =====
theorem envC_cells {f : Nat} {M M' : MEM} (hc : ∀ c, ((5 ≤ c ∧ c ≤ 9) ∨ c = 19 ∨ c = 20 ∨ c = 22 ∨ (f + 1 ≤ c ∧ c ≤ f + 5)) → M' c = M c) (h6 : M' f 6 = M f 6) (e21 : M' 21 3 = M 21 3) : envC f M' = envC f M := by
  unfold envC flC
  rw [plC_cg (c := 5) (fun q hq => hc _ (by omega)), plC_cg (c := f + 1) (fun q hq => hc _ (by omega)), h6, e21, hc 19 (by omega), hc 20 (by omega), hc 22 (by omega)]
theorem eOk_cells {f : Nat} {M M' : MEM} (hc : ∀ c, ((5 ≤ c ∧ c ≤ 9) ∨ c = 19 ∨ c = 20 ∨ c = 22 ∨ (f + 1 ≤ c ∧ c ≤ f + 5)) → M' c = M c) (e21 : M' 21 3 = M 21 3) (g : eOk f M) : eOk f M' := by
  obtain ⟨g1, ⟨g2, g3, g4⟩, ⟨g5, g6, g7⟩, g8⟩ := g
  refine ⟨?_, ⟨?_, ?_, howOk_cg (fun q hq => hc _ (by omega)) g4⟩, ⟨?_, ?_, howOk_cg (fun q hq => hc _ (by omega)) g7⟩, ?_⟩
  · rw [hc 19 (by omega)]; exact g1
  · rw [hc 5 (by omega)]; exact g2
  · rw [hc 5 (by omega)]; exact g3
  · rw [hc (f + 1) (by omega)]; exact g5
  · rw [hc (f + 1) (by omega)]; exact g6
  · rw [e21, hc 22 (by omega)]; exact g8
/-- what questions of the class change but for the ROW -/
def offT (M M' : MEM) : Prop := (∀ c, c ≠ 224 → c ≠ 230 → c ≠ 231 → c ≠ 233 → c ≠ 21 → c ≠ 23 → c ≠ 24 → c ≠ 244 → M' c = M c) ∧ (∀ k, (k < 7 ∨ 10 < k) → M' 224 k = M 224 k) ∧ (∀ k, k ≠ 4 → M' 21 k = M 21 k)
theorem offT.rf {M : MEM} : offT M M := ⟨fun _ _ _ _ _ _ _ _ _ => rfl, fun _ _ => rfl, fun _ _ => rfl⟩
theorem offT.tr {M M1 M2 : MEM} (h : offT M M1) (g : offT M1 M2) : offT M M2 :=
  ⟨fun c a1 a2 a3 a4 a5 a6 a7 a8 => (g.1 c a1 a2 a3 a4 a5 a6 a7 a8).trans (h.1 c a1 a2 a3 a4 a5 a6 a7 a8), fun k a1 => (g.2.1 k a1).trans (h.2.1 k a1), fun k a1 => (g.2.2 k a1).trans (h.2.2 k a1)⟩
theorem offL.T {M M' : MEM} (h : offL 224 M M') : offT M M' := ⟨fun c a1 a2 a3 a4 a5 a6 a7 _ => h.1 c a1 a2 a3 a4 a5 a6 a7, h.2.1, h.2.2⟩
theorem offT.env {M M' : MEM} (h : offT M M') : envC 224 M' = envC 224 M :=
  envC_cells (fun c hc => h.1 c (by omega) (by omega) (by omega) (by omega) (by omega) (by omega) (by omega) (by omega)) (h.2.1 6 (by omega)) (h.2.2 3 (by omega))
theorem offT.eOk {M M' : MEM} (h : offT M M') (g : eOk 224 M) : eOk 224 M' :=
  eOk_cells (fun c hc => h.1 c (by omega) (by omega) (by omega) (by omega) (by omega) (by omega) (by omega) (by omega)) (h.2.2 3 (by omega)) g
theorem offT.chg {M M' : MEM} (h : offT M M') : chg [0] M M' := fun a k hn => by
  by_cases h1 : a = 224
  · subst h1
    refine h.2.1 k ?_
    by_cases h6 : k = 6
    · omega
    · exact absurd (by unfold rg; simp [h6]) hn
  · by_cases h2 : a = 21
    · subst h2
      refine h.2.2 k (fun h4 => ?_)
      subst h4
      exact hn (by decide)
    · by_cases h3 : a = 230 ∨ a = 231 ∨ a = 233 ∨ a = 23 ∨ a = 24 ∨ a = 244
      · refine absurd ?_ hn
        rcases h3 with rfl | rfl | rfl | rfl | rfl | rfl <;> exact List.mem_singleton.mpr rfl
      · rw [h.1 a (by omega) (by omega) (by omega) (by omega) (by omega) (by omega) (by omega) (by omega)]
/-- with another HUNGER, another PLACE -/
def sHP (s : DS) (p h : Int) : DS := (p, h, s.2.2.1, s.2.2.2)
theorem sHP_ok {n p h : Int} {s : DS} (hs : okD n s) (h0 : 0 ≤ h) (h9 : h ≤ 9) (p0 : 0 ≤ p) (pn : p < n) : okD n (sHP s p h) := by
  obtain ⟨q1, q2, q3, q4, q5, q6, q7, q8, q9⟩ := hs
  exact ⟨q1, q2, p0, pn, h0, h9, q7, q8, q9⟩
/-- how many of ten are k or more -/
def nW (f : Nat → Int) (k : Int) : Int := sumN (fun h => if f h < k then 0 else 1) 10
theorem nW_bd (f : Nat → Int) (k : Int) (n : Nat) : 0 ≤ sumN (fun h => if f h < k then 0 else 1) n ∧ sumN (fun h => if f h < k then 0 else 1) n ≤ n := by
  have := sumN_bd (F := fun h => if f h < k then 0 else 1) (a := 0) (b := 1) (n := n) (fun i _ => by split <;> omega)
  omega
theorem nW_0 {f : Nat → Int} (h : ∀ i, i < 10 → 0 ≤ f i) : nW f 0 = 10 := by
  unfold nW
  rw [sumN_congr (G := fun _ => 1) (fun i hi => by rw [if_neg (by have := h i hi; omega)])]
  rfl
theorem nW_big {f : Nat → Int} {k : Int} (h : ∀ i, i < 10 → f i < k) : nW f k = 0 := by
  unfold nW
  rw [sumN_congr (G := fun _ => 0) (fun i hi => by rw [if_pos (h i hi)])]
  rfl
theorem nW_step {f : Nat → Int} {k : Int} (h : ∀ i, i < 10 → f i ≠ k) : nW f k = nW f (k + 1) := by
  unfold nW
  refine sumN_congr (fun i hi => ?_)
  try dsimp only
  have := h i hi
  by_cases q : f i < k
  · rw [if_pos q, if_pos (by omega)]
  · rw [if_neg q, if_neg (by omega)]
/-- beyond the best there are too few -/
theorem nW_top {f : Nat → Int} {t best : Int} (ht : 1 ≤ t) (hb : ∀ i, i < 10 → t ≤ nW f (f i) → f i ≤ best) (hf : ∀ i, i < 10 → f i ≤ 600) : ∀ (j : Nat) (k : Int), best < k → k + j = 601 → nW f k < t := by
  intro j
  induction j with
  | zero =>
    intro k _ hk
    rw [nW_big (fun i hi => by have := hf i hi; omega)]
    omega
  | succ j ih =>
    intro k h1 h2
    by_cases q : ∃ i, i < 10 ∧ f i = k
    · obtain ⟨i, hi, rfl⟩ := q
      by_cases z : t ≤ nW f (f i)
      · have := hb i hi z; omega
      · omega
    · rw [nW_step (fun i hi e => q ⟨i, hi, e⟩)]
      exact ih (k + 1) (by omega) (by omega)
theorem c_sure {B : Int} {M : MEM} (h : Rel B M) (hB : B ≤ 100000000) (x ferry w t : Int) : Lk B (dh_sure x ferry w t M) (mo_sure x ferry w t) := by
  have nw := now_in h
  have c3 : chg [0] M (up2 M 278 13 0) := chg.rf.up (by decide)
  unfold Lk dh_sure
  by_cases hd : 0 ≤ x ∧ x < M 3 2
  · refine Tc_f (by rw [isDonkey_y h.S.2.2.1 hd.1 hd.2]; decide) ?_
    by_cases h1 : 1 ≤ ferry ∧ ferry ≤ 600
    · refine Tc_f (by rw [far_y h1]; decide) ?_
      by_cases h2 : 0 ≤ w ∧ w ≤ 99
      · refine Tc_f (by rw [road_y h2]; decide) ?_
        by_cases h3 : 1 ≤ t ∧ t ≤ 10
        · refine Tc_f (by omega) (Tc_t h3.2 ?_)
          obtain ⟨d, rfl⟩ : ∃ d : Nat, x = (d : Int) := ⟨x.toNat, by omega⟩
          have hN := h.S.2.2.1
          obtain ⟨d1, d2, d3, d4⟩ := dnk h hB hd.2
          have hSo : ∀ hu : Nat, hu < 10 → okD (M 280 d) (sHP (dsC (10 + 3 * d) M) (dsC (10 + 3 * d) M).1 hu) := fun hu hh => sHP_ok d1 (by omega) (by omega) d1.2.2.1 d1.2.2.2.1
          obtain ⟨F, hF⟩ : ∃ F : Nat → Int, F = fun hu : Nat => cnt (qS M d (sHP (dsC (10 + 3 * d) M) (dsC (10 + 3 * d) M).1 hu)) (ferry - w).toNat := ⟨_, rfl⟩
          -- the reference's ten ways
          have mo0 : ∀ M3 : MEM, chg [0, 10] M M3 → Tc (iter (fun s => mo_sure_b46 d ferry w t s.1 s.2) FU (0, M3)) (fun r => chg [0] M3 r.2 ∧ moF M3 r.2 ∧ ∀ i : Nat, i < 10 → r.2 299 i = if w ≤ ferry then F i else -1) := fun M3 c3 => by
            refine Tc_n (fun i s => s.1 = (i : Int) ∧ chg [0] M3 s.2 ∧ moF M3 s.2 ∧ ∀ i' : Nat, i' < i → s.2 299 i' = if w ≤ ferry then F i' else -1) 10 ⟨rfl, chg.rf, moF.rf, fun i' hi' => by omega⟩ (by omega) (fun i s hi hI => ?_) (fun s hI => ?_)
            · obtain ⟨z, M4⟩ := s
              obtain ⟨rfl, q1, q2, q3⟩ := hI
              dsimp only at q1 q2 q3 ⊢
              have cM4 : chg [0, 10] M M4 := c3.tr (q1.sub (by decide))
              obtain ⟨M5, e5, o5, o5', o5'', tO, tA⟩ := q_then h hB cM4
              unfold mo_sure_b46
              refine Tc_f (by omega) (Tc_e e5 ?_)
              rw [w55 (by omega)]
              refine Tc_t (by omega) (Tc_u ?_)
              rw [toNat_c]
              have tA' := tA.mod (d := d) (s' := sHP (dsC (10 + 3 * d) M) (dsC (10 + 3 * d) M).1 (i : Int)) (M' := up2 M5 292 (55 * d) (i : Int)) tO.1 (fun d hd => (tO.2.2.2 d hd).1.2.1) (fun c hc => up2_ne hc) (fun k hk => rd_k (by omega)) (by omega) (by
                have q := tA.2.2.2.2.2.2 d (by omega)
                refine ⟨?_, ?_, ?_, fun p hp => ?_⟩
                · show _ = up2 M5 292 (55 * d) (i : Int) 292 (55 * d + 1)
                  rw [rd_k (by omega)]; exact q.1
                · show _ = up2 M5 292 (55 * d) (i : Int) 292 (55 * d)
                  rw [rd_same]; rfl
                · show _ = up2 M5 292 (55 * d) (i : Int) 292 (55 * d + 2)
                  rw [rd_k (by omega)]; exact q.2.2.1
                · show _ = up2 M5 292 (55 * d) (i : Int) 292 (55 * d + 3 + p)
                  rw [rd_k (by omega)]; exact q.2.2.2 p hp)
              obtain ⟨M6, e6, o6, f6, g6⟩ := find_times (d := d) (tO.mod (d := d) (hSo i hi) d2) (by omega) tA'
              rw [updS_same] at f6 g6
              refine Tc_e e6 ?_
              have hst := qS_stk (hSo i hi) d2
              refine Tc_e (mo_latest_eq (T := qS M d (sHP (dsC (10 + 3 * d) M) (dsC (10 + 3 * d) M).1 i)) hst h1 h2 f6 g6) (Tc_t (by omega) (Tc_u (Tc_inl ⟨(wr_i (by omega) (by omega)).trans (by omega), ?_, ?_, fun i' hi' => ?_⟩)))
              · exact ((q1.tr o5.chg).tr ((chg.rf.up (List.mem_singleton.mpr rfl) : chg [0] M5 (up2 M5 292 (55 * d) (i : Int))).tr o6.chg)).up (List.mem_singleton.mpr rfl)
              · exact ((q2.tr o5.mo).tr ((moF.up (by decide)).tr o6.mo)).tr (moF.up (by decide))
              · dsimp only
                rw [toNat_c]
                by_cases e : i' = i
                · subst e
                  rw [rd_same, hF]
                · rw [rd_k e, o6.1 299 (by decide) (by decide) (by decide) (by decide), up2_ne (by decide), o5' 299 (by decide)]
                  exact q3 i' (by omega)
            · obtain ⟨z, M4⟩ := s
              obtain ⟨rfl, q1, q2, q3⟩ := hI
              unfold mo_sure_b46
              exact Tc_t (by show (10 : Int) ≤ ((10 : Nat) : Int); omega) (Tc_inr ⟨q1, q2, q3⟩)
          have cntM : ∀ (M4 : MEM) (k : Int), iter (fun s => mo_sure_b119 t k 10 s.1 s.2 M4) FU (0, 0) = some (nW (fun i => M4 299 i) k, 10) := fun M4 k => by
            refine loop_traj (fun i => (sumN (fun h => if M4 299 h < k then 0 else 1) i, (i : Int))) 10 (by omega) (fun i hi => ?_) ?_
            · have hb := nW_bd (fun i => M4 299 i) k i
              dsimp only at hb ⊢
              unfold mo_sure_b119 mo_sure_j147_119
              rw [if_neg (by omega), if_pos (by omega), toNat_c, sumN_S, wr_i (x := (i : Int) + 1) (by omega) (by omega)]
              try dsimp only
              by_cases z : M4 299 i < k
              · rw [if_pos z, if_pos z, wr_i (by omega) (by omega)]; rfl
              · rw [if_neg z, if_neg z, wr_i (by omega) (by omega)]; rfl
            · unfold mo_sure_b119
              dsimp only
              rw [if_pos (by omega)]
              rfl
          by_cases hw : w ≤ ferry
          · refine Tc_t hw ?_
            have hFb : ∀ i, i < 10 → 0 ≤ F i ∧ F i ≤ 600 := fun i hi => by
              have hst := qS_stk (hSo i hi) d2
              have := cnt_le hst (show (ferry - w).toNat ≤ 1000000 by omega)
              rw [hF]; dsimp only; omega
            have l1 : Tc (iter (fun s => dh_sure_b48 d ferry w t s.1 s.2) FU (0, M)) (fun r => offT M r.2 ∧ ∀ i : Nat, i < 10 → r.2 244 i = F i) := by
              refine Tc_n (fun i s => s.1 = (i : Int) ∧ offT M s.2 ∧ ∀ i' : Nat, i' < i → s.2 244 i' = F i') 10 ⟨rfl, offT.rf, fun i' hi' => by omega⟩ (by omega) (fun i s hi hI => ?_) (fun s hI => ?_)
              · obtain ⟨z, M1⟩ := s
                obtain ⟨rfl, q1, q2⟩ := hI
                dsimp only at q1 q2 ⊢
                obtain ⟨M2, e2, o2, f2⟩ := q_look h (Or.inl rfl) hd.2 hB q1.chg q1.env (q1.eOk (env_0 h (Or.inl rfl)).2)
                unfold dh_sure_b48
                refine Tc_f (by omega) (Tc_e e2 (Tc_u ?_))
                have oh : offT M2 (up2 M2 230 4 (i : Int)) := ⟨fun c _ x _ _ _ _ _ _ => up2_ne x, fun k _ => rd_a (by decide), fun k _ => rd_a (by decide)⟩
                have f3 := f2.mod (s' := sHP (dsC (10 + 3 * d) M) (dsC (10 + 3 * d) M).1 (i : Int)) (M' := up2 M2 230 4 (i : Int)) (Or.inl rfl) (fun c hc _ => up2_ne hc) (rd_k (by decide)) (by
                  have q := f2.2.2.2.1
                  refine ⟨?_, ?_, ?_, fun p hp => ?_⟩
                  · show _ = up2 M2 230 4 (i : Int) 230 3
                    rw [rd_k (by decide)]; exact q.1
                  · show _ = up2 M2 230 4 (i : Int) 230 4
                    rw [rd_same]; rfl
                  · show _ = up2 M2 230 4 (i : Int) 230 5
                    rw [rd_k (by decide)]; exact q.2.2.1
                  · show _ = up2 M2 230 4 (i : Int) 231 p
                    rw [rd_a (by decide)]; exact q.2.2.2 p hp)
                obtain ⟨M3, e3, f4, o3⟩ := fu_latest_eq (Or.inl rfl) (hSo i hi) d2 nw.1 (by omega) h1 h2.1 hw f3
                refine Tc_e e3 (Tc_t (by omega) (Tc_u (Tc_inl ⟨(wr_i (by omega) (by omega)).trans (by omega), ?_, fun i' hi' => ?_⟩)))
                · refine ((q1.tr o2.T).tr (oh.tr o3.L.T)).tr ⟨fun c _ _ _ _ _ _ _ x => by dsimp only; exact up2_ne x, fun k _ => by dsimp only; exact rd_a (by decide), fun k _ => by dsimp only; exact rd_a (by decide)⟩
                · dsimp only
                  rw [toNat_c]
                  by_cases e : i' = i
                  · subst e
                    rw [rd_same, hF]
                    rfl
                  · rw [rd_k e, o3.1 244 (by decide) (by decide) (by decide) (by decide) (by decide) (by decide) (by decide), up2_ne (by decide), o2.1 244 (by decide) (by decide) (by decide) (by decide) (by decide) (by decide) (by decide)]
                    exact q2 i' (by omega)
              · obtain ⟨z, M1⟩ := s
                obtain ⟨rfl, q1, q2⟩ := hI
                unfold dh_sure_b48
                exact Tc_t (by show (10 : Int) ≤ ((10 : Nat) : Int); omega) (Tc_inr ⟨q1, q2⟩)
            obtain ⟨w1, e1, y1, y2⟩ := l1
            obtain ⟨w1, M1⟩ := w1
            dsimp only at y1 y2
            refine Tc_e e1 ?_
            dsimp only
            have cntC : ∀ (M4 : MEM) (k : Int), (∀ i : Nat, i < 10 → M4 244 i = F i) → dh_waysWithLatest k M4 = some (nW F k) := fun M4 k h4 => by
              have : iter (fun s => dh_waysWithLatest_b4 k s.1 s.2 M4) FU (0, 0) = some (nW F k, 10) := by
                refine loop_traj (fun i => (sumN (fun h => if F h < k then 0 else 1) i, (i : Int))) 10 (by omega) (fun i hi => ?_) ?_
                · have hb := nW_bd F k i
                  dsimp only at hb ⊢
                  unfold dh_waysWithLatest_b4 dh_waysWithLatest_j23_4
                  rw [if_neg (by omega), if_pos (by omega), toNat_c, h4 i hi, sumN_S, wr_i (x := (i : Int) + 1) (by omega) (by omega)]
                  try dsimp only
                  by_cases z : F i < k
                  · rw [if_pos z, if_pos z, Int.add_zero]; rfl
                  · rw [if_neg z, if_neg z, wr_i (by omega) (by omega)]; rfl
                · unfold dh_waysWithLatest_b4
                  dsimp only
                  rw [if_pos (by omega)]
                  rfl
              unfold dh_waysWithLatest
              rw [this]; rfl
            have l2 : Tc (iter (fun s => dh_sure_b104 t s.1 s.2 M1) FU (0, 0)) (fun r => t ≤ nW F r.1 ∧ 0 ≤ r.1 ∧ r.1 ≤ 600 ∧ ∀ i, i < 10 → t ≤ nW F (F i) → F i ≤ r.1) := by
              refine Tc_n (fun i s => s.2 = (i : Int) ∧ t ≤ nW F s.1 ∧ 0 ≤ s.1 ∧ s.1 ≤ 600 ∧ ∀ i', i' < i → t ≤ nW F (F i') → F i' ≤ s.1) 10 ⟨rfl, by rw [nW_0 (fun i hi => (hFb i hi).1)]; omega, Int.le_refl _, by decide, fun i' hi' => by omega⟩ (by omega) (fun i s hi hI => ?_) (fun s hI => ?_)
              · obtain ⟨y, z⟩ := s
                obtain ⟨rfl, q1, q2, q3, q4⟩ := hI
                dsimp only at q1 q2 q3 q4 ⊢
                have wi : wr ((i : Int) + 1) = ((i + 1 : Nat) : Int) := (wr_i (by omega) (by omega)).trans (by omega)
                have hb := hFb i hi
                unfold dh_sure_b104 dh_sure_j148_104
                refine Tc_f (by omega) (Tc_t (by omega) ?_)
                rw [toNat_c, y2 i hi, wi]
                refine Tc_i (fun c => Tc_inl ⟨rfl, q1, q2, q3, fun i' hi' ht' => ?_⟩) (fun c => Tc_t (by omega) (Tc_e (cntC M1 _ y2) (Tc_i (fun c2 => Tc_inl ⟨rfl, q1, q2, q3, fun i' hi' ht' => ?_⟩) (fun c2 => Tc_t (by omega) (Tc_inl ⟨rfl, ?_, hb.1, hb.2, fun i' hi' ht' => ?_⟩)))))
                · by_cases e : i' = i
                  · subst e; exact c
                  · exact q4 i' (by omega) ht'
                · by_cases e : i' = i
                  · subst e; omega
                  · exact q4 i' (by omega) ht'
                · dsimp only; omega
                · dsimp only
                  by_cases e : i' = i
                  · subst e; omega
                  · have := q4 i' (by omega) ht'; omega
              · obtain ⟨y, z⟩ := s
                obtain ⟨rfl, q1, q2, q3, q4⟩ := hI
                unfold dh_sure_b104
                exact Tc_t (by show (10 : Int) ≤ ((10 : Nat) : Int); omega) (Tc_inr ⟨q1, q2, q3, q4⟩)
            obtain ⟨w2, e2, b1, b2, b3, b4⟩ := l2
            obtain ⟨best, w2⟩ := w2
            dsimp only at b1 b2 b3 b4
            refine Tc_e e2 ?_
            dsimp only
            obtain ⟨M2, n1, n2, n3⟩ := newRow_eq M1
            refine Tc_e n1 ?_
            have e244 : M2 244 = M1 244 := n3.cell (by decide) (by decide)
            refine Tc_e (cntC M2 best (by rw [e244]; exact y2)) ?_
            obtain ⟨M3, t1, t2, t3⟩ := tell_eq (nW F best) n2 (by simp)
            refine Tc_e t1 (Tc_some ?_)
            dsimp only
            have c3' : chg [0, 10] M M3 := (y1.chg.sub (by decide)).tr (n3.tr t3).chg
            unfold mo_sure
            have c4 : chg [0, 10] M (up2 M3 278 13 0) := c3'.up (by decide)
            refine Tc_u (Tc_f (by rw [moDonkey_y h.S (c4 278 1 (by decide)) hd]; decide) (Tc_f (by rw [show mo_isMore ferry = 1 from moIn_y h1]; decide) (Tc_f (by rw [moIn_y h2]; decide) (Tc_f (by rw [moIn_y h3]; decide) ?_))))
            obtain ⟨w4, e4, x1, x2, x3⟩ := mo0 _ c4
            obtain ⟨w4, M4⟩ := w4
            dsimp only at x1 x2 x3
            refine Tc_e e4 ?_
            dsimp only
            have e299 : ∀ k, nW (fun i => M4 299 i) k = nW F k := fun k => by
              unfold nW
              refine sumN_congr (fun i hi => ?_)
              have e : M4 299 i = F i := by rw [x3 i hi, if_pos hw]
              simp only [e]
            have l3 : Tc (iter (fun s => mo_sure_b97 t s M4) FU 2400) (fun r => ∃ M5, r = .inl (best, M5) ∧ rowM [nW F best] M5 ∧ offX M4 M5) := by
              refine Tc_l (fun i s => s = 2400 - (i : Int)) _ (2400 - best).toNat (by omega) (by omega) (fun i s hi hI => ?_) (fun s hI => ?_)
              · subst hI
                unfold mo_sure_b97
                refine Tc_f (by omega) (Tc_e (cntM M4 _) (Tc_f ?_ (Tc_inlL ?_)))
                · rw [e299]
                  by_cases z : (2400 : Int) - i ≤ 601
                  · have := nW_top h3.1 b4 (fun i hi => (hFb i hi).2) (601 - (2400 - (i : Int))).toNat (2400 - (i : Int)) (by omega) (by omega)
                    omega
                  · rw [nW_big (fun i' hi' => by have := hFb i' hi'; omega)]; omega
                · show wr (2400 - (i : Int) + -1) = _
                  rw [wr_i (by omega) (by omega)]; omega
              · subst hI
                have eb : (2400 : Int) - ((2400 - best).toNat : Nat) = best := by omega
                rw [eb]
                unfold mo_sure_b97
                refine Tc_f (by omega) (Tc_e (cntM M4 _) (Tc_t ?_ (Tc_u ?_)))
                · rw [e299]; exact b1
                · obtain ⟨r1, r2⟩ := moRow0 M4
                  dsimp only
                  rw [e299]
                  obtain ⟨M5, s1, s2, s3⟩ := moTell_eq (nW F best) r1 (by simp)
                  exact Tc_e s1 (Tc_inr ⟨M5, rfl, s2, r2.tr s3⟩)
            refine Tc_c l3 (fun r hr => ?_)
            obtain ⟨M5, rfl, s2, s3⟩ := hr
            exact Tc_some ⟨rfl, h.go10 ((c4.tr (x1.sub (by decide))).tr s3.chg) (t2.fin (((moF.up (by decide)).tr x2).tr s3.mo) s2 (by simp))⟩
          · refine Tc_f hw (Tc_some ?_)
            dsimp only
            unfold mo_sure
            have c4 : chg [0] M (up2 M 278 13 0) := c3
            refine Tc_u (Tc_f (by rw [moDonkey_y h.S (c4 278 1 (by decide)) hd]; decide) (Tc_f (by rw [show mo_isMore ferry = 1 from moIn_y h1]; decide) (Tc_f (by rw [moIn_y h2]; decide) (Tc_f (by rw [moIn_y h3]; decide) ?_))))
            obtain ⟨w4, e4, x1, x2, x3⟩ := mo0 _ (c4.sub (by decide))
            obtain ⟨w4, M4⟩ := w4
            dsimp only at x1 x2 x3
            refine Tc_e e4 ?_
            dsimp only
            have l3 : Tc (iter (fun s => mo_sure_b97 t s M4) FU 2400) (fun r => ∃ z, r = .inr z) := by
              refine Tc_l (fun i s => s = 2400 - (i : Int)) _ 2401 (by omega) (by omega) (fun i s hi hI => ?_) (fun s hI => ?_)
              · subst hI
                unfold mo_sure_b97
                refine Tc_f (by omega) (Tc_e (cntM M4 _) (Tc_f ?_ (Tc_inlL ?_)))
                · rw [nW_big (fun i' hi' => by rw [x3 i' hi', if_neg hw]; omega)]; omega
                · show wr (2400 - (i : Int) + -1) = _
                  rw [wr_i (by omega) (by omega)]; omega
              · subst hI
                unfold mo_sure_b97
                exact Tc_t (by omega) (Tc_inr ⟨_, rfl⟩)
            refine Tc_c l3 (fun r hr => ?_)
            obtain ⟨z, rfl⟩ := hr
            exact Tc_some ⟨rfl, h.go0 (c4.tr x1)⟩
        · have mo : Tc (mo_sure x ferry w t M) (fun q => q.1 = -1 ∧ Rel B q.2) := by
            unfold mo_sure
            exact Tc_u (Tc_f (by rw [moDonkey_y h.S (c3 278 1 (by decide)) hd]; decide) (Tc_f (by rw [show mo_isMore ferry = 1 from moIn_y h1]; decide) (Tc_f (by rw [moIn_y h2]; decide) (Tc_t (moIn_n h3) (Tc_some ⟨rfl, h.go0 c3⟩)))))
          refine Tc_i (fun _ => Tc_some mo) (fun q => Tc_f (by omega) (Tc_some mo))
      · refine Tc_t (road_n h2) (Tc_some ?_)
        unfold mo_sure
        exact Tc_u (Tc_f (by rw [moDonkey_y h.S (c3 278 1 (by decide)) hd]; decide) (Tc_f (by rw [show mo_isMore ferry = 1 from moIn_y h1]; decide) (Tc_t (moIn_n h2) (Tc_some ⟨rfl, h.go0 c3⟩))))
    · refine Tc_t (far_n h1) (Tc_some ?_)
      unfold mo_sure
      exact Tc_u (Tc_f (by rw [moDonkey_y h.S (c3 278 1 (by decide)) hd]; decide) (Tc_t (moIn_n h1) (Tc_some ⟨rfl, h.go0 c3⟩)))
  · refine Tc_t (isDonkey_n h.S.2.2.1 hd) (Tc_some ?_)
    unfold mo_sure
    exact Tc_u (Tc_t (moDonkey_n h.S (c3 278 1 (by decide)) hd) (Tc_some ⟨rfl, h.go0 c3⟩))
end
section
-- ===== other surroundings =====
theorem q_lookE {B : Int} {M M1 : MEM} {e : EN} (h : Rel B M) {f : Nat} (hf : f = 224 ∨ f = 234) {d : Nat} (hd : (d : Int) < M 3 2) (hB : B ≤ 100000000) (c : chg [0, 10, 11] M M1) (he : envC f M1 = e) (heO : eOk f M1) : ∃ M', dh_look f d M1 = some M' ∧ offL f M1 M' ∧ futAt f e (M 280 d) d (M 3 3) (trajD e (M 280 d) d (M 3 3) (dsC (10 + 3 * d) M)) 0 M' := by
  have h3 := h.S.2.2.1
  obtain ⟨d1, d2, d3, d4⟩ := dnk h hB hd
  have rD : ∀ a k, 10 ≤ a → a ≤ 18 → M1 a k = M a k := fun a k x y => c a k (by rcases rg_D12 (k := k) x y with q | q <;> rw [q] <;> decide)
  have e32 : M1 3 2 = M 3 2 := c 3 2 (by decide)
  have e33 : M1 3 3 = M 3 3 := c 3 3 (by decide)
  have eb : dsC (10 + 3 * d) M1 = dsC (10 + 3 * d) M := by
    unfold dsC
    rw [rD _ _ (by omega) (by omega), rD _ _ (by omega) (by omega), rD _ _ (by omega) (by omega)]
    congr 3
    funext p
    exact rD _ _ (by omega) (by omega)
  have e2 : M1 (10 + 3 * d) 2 = M 280 d := (rD _ _ (by omega) (by omega)).trans d4
  obtain ⟨M', g1, g2, g3, g4, g5, g6, g7, g8⟩ := look_eq (f := f) (d := (d : Int)) (M := M1) hf (by omega) (by omega) (by omega) (by rw [toNat_c, e2]; have := d1.1; have := d1.2.1; omega)
  rw [toNat_c, e2] at g3
  rw [toNat_c, e2, eb] at g4
  refine ⟨M', g1, g2, fut0 ?_ (g2.eOk hf heO) g3 g4 g5 (g6.trans e33) g7 g8⟩
  rw [g2.env hf, he]
theorem q_thenE {B : Int} {M M1 : MEM} {e : EN} (h : Rel B M) (hB : B ≤ 100000000) (c : chg [0, 10, 11] M M1) (he : envM M1 = e) (hem : emOk M1) : ∃ M2, mo_beginThen M1 = some M2 ∧ offQ M1 M2 ∧ (∀ c, c ≠ 292 → M2 c = M1 c) ∧ (∀ k : Nat, k < 166 → M2 292 k = M 279 k) ∧ thOk (M 3 2).toNat (fun d => M 280 d) (M 3 3) (fun d => dsC (10 + 3 * d) M) ∧ thenAt (M 3 2).toNat (fun d => M 280 d) e (M 3 3) (fun d => dsC (10 + 3 * d) M) 0 M2 := by
  obtain ⟨s1, s2, s3, s4⟩ := h.S
  have nw := now_in h
  obtain ⟨M2, g1, g2, g3⟩ := begin_then (M := M1)
  have e279 : M1 279 = M 279 := c.row (fun k => by rw [rg_279]; decide)
  rw [e279] at g3
  have oQ : offQ M1 M2 := ⟨fun c _ _ x _ => g2 c x, fun k _ _ => by rw [g2 278 (by omega)]⟩
  refine ⟨M2, g1, oQ, g2, g3, ⟨by omega, nw.1, by omega, fun d hd => ?_⟩, ⟨?_, fun d hd => ?_, ?_, oQ.em hem, ?_, ?_, fun d hd => ?_⟩⟩
  · have := dnk h hB (show (d : Int) < M 3 2 by omega)
    exact ⟨this.1, this.2.1⟩
  · rw [g2 278 (by omega), c 278 1 (by decide)]; omega
  · rw [g2 280 (by omega), c 280 d (by decide : 12 ∉ [0, 10, 11])]
  · rw [oQ.env, he]
  · exact oQ.rl (h.R.cg (fun a k hr => c a k (by rw [hr]; decide)))
  · rw [g3 165 (by omega), nw.2.2]; omega
  · have := dnk h hB (show (d : Int) < M 3 2 by omega)
    refine this.2.2.1.tr ⟨?_, ?_, ?_, fun p hp => ?_⟩
    · exact (g3 _ (by omega)).symm
    · exact (g3 _ (by omega)).symm
    · exact (g3 _ (by omega)).symm
    · have := this.1.2.1
      exact (g3 _ (by omega)).symm
-- ===== what was heard =====
def allN (P : Nat → Bool) : Nat → Bool
  | 0 => true
  | n + 1 => allN P n && P n
theorem allN_S (P : Nat → Bool) (n : Nat) : allN P (n + 1) = (allN P n && P n) := rfl
theorem allN_f {P : Nat → Bool} {i : Nat} : ∀ {n : Nat}, i < n → P i = false → allN P n = false := by
  intro n
  induction n with
  | zero => intro h; omega
  | succ n ih =>
    intro h hp
    rw [allN_S]
    by_cases e : i = n
    · subst e; rw [hp, Bool.and_false]
    · rw [ih (by omega) hp, Bool.false_and]
/-- heard i of the DONKEY d is so on the way T -/
def hd1 (M : MEM) (d : Int) (T : Nat → DS) (i : Nat) : Bool := !(decide (M 42 i = d)) || decide (cnt T (M 44 i).toNat = M 43 i)
def hdB (M : MEM) (d : Int) (T : Nat → DS) : Bool := allN (hd1 M d T) (M 41 3).toNat
theorem within_eq {f : Nat} {e : EN} {n d m0 w : Int} {T : Nat → DS} {j : Nat} {M : MEM} (hst : stk T 1000000) (hj : j ≤ 600) (hw0 : 0 ≤ w) (hw : w ≤ j) (h : futAt f e n d m0 T j M) : fu_strokesWithin f w M = some (cnt T w.toNat) := by
  have hcb := cnt_le hst (show w.toNat ≤ 1000000 by omega)
  have hmo := (cnt_mono hst (show w.toNat ≤ j by omega) (by omega)).1
  have hcj := cnt_le hst (show j ≤ 1000000 by omega)
  have h10 : M f 10 = cnt T j := h.2.2.2.2.2.2.2.1
  have hl : Tc (iter (fun s => fu_strokesWithin_b2 f w s M) FU 0) (fun r => r = cnt T w.toNat) := by
    refine Tc_l (fun i s => s = (i : Int)) _ (cnt T w.toNat).toNat rfl (by omega) (fun i s hi hI => ?_) (fun s hI => ?_)
    · subst hI
      unfold fu_strokesWithin_b2
      have wi : wr ((i : Int) + 1) = (i : Int) + 1 := wr_i (by omega) (by omega)
      rw [wi]
      obtain ⟨z1, z2, z3, z4⟩ := stroke_eq (k := (i : Int) + 1) h (by omega) (by omega) (by omega)
      rw [show ((i : Int) + 1 - 1).toNat = i by omega] at z1 z2 z3 z4
      have hlt := isT_lt hst (j := w.toNat) z2 (by omega) (by omega)
      refine Tc_f (by omega) (Tc_e z1 (Tc_f (by omega) (Tc_inlL (by omega))))
    · subst hI
      unfold fu_strokesWithin_b2
      have wi : wr (((cnt T w.toNat).toNat : Int) + 1) = cnt T w.toNat + 1 := (wr_i (by omega) (by omega)).trans (by omega)
      by_cases q : M f 10 ≤ ((cnt T w.toNat).toNat : Int)
      · exact Tc_t q (Tc_inr (by omega))
      · rw [wi]
        obtain ⟨z1, z2, z3, z4⟩ := stroke_eq (k := cnt T w.toNat + 1) h (by omega) (by omega) (by omega)
        rw [show (cnt T w.toNat + 1 - 1).toNat = (cnt T w.toNat).toNat by omega] at z1 z2 z3 z4
        have hlt := isT_lt hst (j := w.toNat) z2 (by omega) (by omega)
        exact Tc_f q (Tc_e z1 (Tc_t (by omega) (Tc_inr (by omega))))
  obtain ⟨r, e1, rfl⟩ := hl
  unfold fu_strokesWithin
  rw [e1]; rfl
theorem fit_eq {M0 : MEM} {e : EN} {n m0 : Int} {d : Nat} {s : DS} {M : MEM} (hH : C_H M0) (hs : okD n s) (hks : s.2.2.1 ≤ 100000000) (hm0 : 0 ≤ m0) (hm1 : m0 ≤ 100000000) (h41 : ∀ M' : MEM, offF 224 M M' → M' 41 3 = M0 41 3 ∧ M' 42 = M0 42 ∧ M' 43 = M0 43 ∧ M' 44 = M0 44) (h : futAt 224 e n d m0 (trajD e n d m0 s) 0 M) :
    ∃ M' j', rm_fit 224 M = some ((if hdB M0 d (trajD e n d m0 s) = true then 1 else 0), M') ∧ offF 224 M M' ∧ j' ≤ 600 ∧ futAt 224 e n d m0 (trajD e n d m0 s) j' M' := by
  obtain ⟨H1, H2, H3, H4⟩ := hH
  have hcl : clE e := by rw [← h.1]; exact envC_cl 224 M
  have hst := traj_stk (d := (d : Int)) (m0 := m0) hcl hs (by omega)
  have hl : Tc (iter (fun s => rm_fit_b2 224 s.1 s.2) FU (0, M)) (fun r => ∃ M' j', offF 224 M M' ∧ j' ≤ 600 ∧ futAt 224 e n d m0 (trajD e n d m0 s) j' M' ∧ ((r = .inl (0, M') ∧ hdB M0 d (trajD e n d m0 s) = false) ∨ (∃ z, r = .inr (z, M') ∧ hdB M0 d (trajD e n d m0 s) = true))) := by
    refine Tc_l (fun i q => q.1 = (i : Int) ∧ (∃ j, j ≤ 600 ∧ futAt 224 e n d m0 (trajD e n d m0 s) j q.2) ∧ offF 224 M q.2 ∧ allN (hd1 M0 d (trajD e n d m0 s)) i = true) _ (M0 41 3).toNat ⟨rfl, ⟨0, by decide, h⟩, offF.rf, rfl⟩ (by omega) (fun i q hi hI => ?_) (fun q hI => ?_)
    · obtain ⟨z, M1⟩ := q
      obtain ⟨rfl, ⟨j, hj, h1⟩, h2, h3⟩ := hI
      dsimp only at h1 h2
      obtain ⟨k1, k2, k3, k4⟩ := h41 M1 h2
      obtain ⟨-, -, -, ⟨w1, w2⟩, w3, w4⟩ := H4 i (by omega)
      have h7 : M1 224 7 = (d : Int) := h1.2.2.2.2.1
      have wi : wr ((i : Int) + 1) = ((i + 1 : Nat) : Int) := (wr_i (by omega) (by omega)).trans (by omega)
      unfold rm_fit_b2 rm_fit_j63_2
      dsimp only
      refine Tc_f (by omega) (Tc_f (by omega) (Tc_t (by omega) ?_))
      simp only [toNat_c]
      rw [k2, h7, wi]
      by_cases hw : M0 42 i = (d : Int)
      · refine Tc_t hw (Tc_t (by omega) ?_)
        rw [k4]
        obtain ⟨M2, e2, g2, o2⟩ := fut_run600 (till := M0 44 i) (Or.inl rfl) hs hks hm0 hm1 w4 hj h1
        obtain ⟨l1, l2, l3, l4⟩ := h41 M2 (h2.tr o2)
        refine Tc_e e2 (Tc_t (by omega) ?_)
        rw [l4]
        have hjj : max j (M0 44 i).toNat ≤ 600 := by omega
        refine Tc_e (within_eq hst hjj (by omega) (by omega) g2) (Tc_t (by omega) ?_)
        rw [l3]
        by_cases hq : cnt (trajD e n d m0 s) (M0 44 i).toNat = M0 43 i
        · refine Tc_t hq (Tc_inlL ⟨rfl, ⟨_, hjj, g2⟩, h2.tr o2, ?_⟩)
          rw [allN_S, h3, Bool.true_and]
          unfold hd1
          simp [hq]
        · refine Tc_f hq (Tc_inrR ⟨M2, _, h2.tr o2, hjj, g2, Or.inl ⟨rfl, allN_f hi ?_⟩⟩)
          unfold hd1
          simp [hq, hw]
      · refine Tc_f hw (Tc_inlL ⟨rfl, ⟨j, hj, h1⟩, h2, ?_⟩)
        rw [allN_S, h3, Bool.true_and]
        unfold hd1
        simp [hw]
    · obtain ⟨z, M1⟩ := q
      obtain ⟨rfl, ⟨j, hj, h1⟩, h2, h3⟩ := hI
      dsimp only at h1 h2
      obtain ⟨k1, k2, k3, k4⟩ := h41 M1 h2
      unfold rm_fit_b2
      exact Tc_t (by show M1 41 3 ≤ (((M0 41 3).toNat : Nat) : Int); omega) (Tc_inr ⟨M1, j, h2, hj, h1, Or.inr ⟨_, rfl, h3⟩⟩)
  obtain ⟨r, e1, M', j', g1, g2, g3, g4⟩ := hl
  refine ⟨M', j', ?_, g1, g2, g3⟩
  unfold rm_fit
  rw [e1, Option.bind_some]
  rcases g4 with ⟨rfl, q⟩ | ⟨z, rfl, q⟩
  · rw [q]; rfl
  · rw [q]; rfl
theorem mo_isHeard_eq {M0 : MEM} {T : Nat → DS} {d : Nat} {M : MEM} (hH : C_H M0) (hst : stk T 1000000) (e49 : M 278 49 = M0 278 49) (e302 : M 302 = M0 302) (g3 : M 278 38 = cnt T 600) (g4 : ∀ i : Nat, (i : Int) < cnt T 600 → isT T (M 293 i) i ∧ M 293 i < 600) : mo_isHeard d M = some (if hdB M0 d T = true then 1 else 0) := by
  obtain ⟨H1, H2, H3, H4⟩ := hH
  have hC := cnt_le hst (show 600 ≤ 1000000 by omega)
  have hin : ∀ i : Nat, (i : Int) < M0 41 3 → iter (fun s => mo_isHeard_b27 d i s M) FU 0 = some (cnt T (M0 44 i).toNat) := fun i hi => by
    obtain ⟨q1, q2, q3, ⟨w1, w2⟩, w3, w4⟩ := H4 i hi
    have hcb := cnt_le hst (show (M0 44 i).toNat ≤ 1000000 by omega)
    have hmo := (cnt_mono hst (show (M0 44 i).toNat ≤ 600 by omega) (by omega)).1
    have w32 : wr (wr (3 * (i : Int)) + 2) = ((3 * i + 2 : Nat) : Int) := by rw [wr_i (x := 3 * (i : Int)) (by omega) (by omega), wr_i (by omega) (by omega)]; omega
    have hl : Tc (iter (fun s => mo_isHeard_b27 d i s M) FU 0) (fun r => r = cnt T (M0 44 i).toNat) := by
      refine Tc_l (fun k s => s = (k : Int)) _ (cnt T (M0 44 i).toNat).toNat rfl (by omega) (fun k s hk hI => ?_) (fun s hI => ?_)
      · subst hI
        unfold mo_isHeard_b27
        rw [w32, toNat_c, toNat_c, e302, q3]
        have z := g4 k (by omega)
        have z0 := times_in g4 (i := k) (by omega)
        have hlt := isT_lt hst (j := (M0 44 i).toNat) z.1 (by omega) (by omega)
        exact Tc_f (by omega) (Tc_t (by omega) (Tc_t (by omega) (Tc_f (by omega) (Tc_inlL ((wr_i (by omega) (by omega)).trans (by omega))))))
      · subst hI
        unfold mo_isHeard_b27
        rw [w32, toNat_c, toNat_c, e302, q3]
        by_cases q : M 278 38 ≤ ((cnt T (M0 44 i).toNat).toNat : Int)
        · exact Tc_t q (Tc_inr (by omega))
        · have z := g4 (cnt T (M0 44 i).toNat).toNat (by omega)
          have z0 := times_in g4 (i := (cnt T (M0 44 i).toNat).toNat) (by omega)
          have hlt := isT_lt hst (j := (M0 44 i).toNat) z.1 (by omega) (by omega)
          exact Tc_f q (Tc_t (by omega) (Tc_t (by omega) (Tc_t (by omega) (Tc_inr (by omega)))))
    obtain ⟨r, e1, rfl⟩ := hl
    exact e1
  have hl : Tc (iter (fun s => mo_isHeard_b2 d s M) FU 0) (fun r => (r = .inl 0 ∧ hdB M0 d T = false) ∨ (∃ z, r = .inr z ∧ hdB M0 d T = true)) := by
    refine Tc_l (fun i q => q = (i : Int) ∧ allN (hd1 M0 d T) i = true) _ (M0 41 3).toNat ⟨rfl, rfl⟩ (by omega) (fun i q hi hI => ?_) (fun q hI => ?_)
    · obtain ⟨rfl, h3⟩ := hI
      obtain ⟨q1, q2, q3, ⟨w1, w2⟩, w3, w4⟩ := H4 i (by omega)
      have wi : wr ((i : Int) + 1) = ((i + 1 : Nat) : Int) := (wr_i (by omega) (by omega)).trans (by omega)
      have w30 : wr (3 * (i : Int)) = ((3 * i : Nat) : Int) := (wr_i (by omega) (by omega)).trans (by omega)
      have w31 : wr (((3 * i : Nat) : Int) + 1) = ((3 * i + 1 : Nat) : Int) := (wr_i (by omega) (by omega)).trans (by omega)
      unfold mo_isHeard_b2 mo_isHeard_j76_2 mo_isHeard_j60_2 mo_isHeard_j76_2
      rw [wi, w30, w31]
      simp only [toNat_c]
      refine Tc_f (by omega) (Tc_t (by omega) ?_)
      rw [e302, q1, q2]
      by_cases hw : M0 42 i = (d : Int)
      · refine Tc_t hw (Tc_e (hin i (by omega)) (Tc_t (by omega) ?_))
        by_cases hq : cnt T (M0 44 i).toNat = M0 43 i
        · refine Tc_t hq (Tc_inlL ⟨rfl, ?_⟩)
          rw [allN_S, h3, Bool.true_and]
          unfold hd1
          simp [hq]
        · refine Tc_f hq (Tc_inrR (Or.inl ⟨rfl, allN_f hi ?_⟩))
          unfold hd1
          simp [hq, hw]
      · refine Tc_f hw (Tc_inlL ⟨rfl, ?_⟩)
        rw [allN_S, h3, Bool.true_and]
        unfold hd1
        simp [hw]
    · obtain ⟨rfl, h3⟩ := hI
      unfold mo_isHeard_b2
      exact Tc_t (by omega) (Tc_inr (Or.inr ⟨_, rfl, h3⟩))
  obtain ⟨r, e1, g4⟩ := hl
  unfold mo_isHeard
  rw [e1, Option.bind_some]
  rcases g4 with ⟨rfl, q⟩ | ⟨z, rfl, q⟩
  · rw [q]; rfl
  · rw [q]; rfl
/-- the way of HUNGER hu and PLACE pl -/
noncomputable def qW (M : MEM) (d : Nat) (hu pl : Int) : Nat → DS := qS M d (sHP (dsC (10 + 3 * d) M) pl hu)
theorem qW_ok {B : Int} {M : MEM} (h : Rel B M) (hB : B ≤ 100000000) {d : Nat} (hd : (d : Int) < M 3 2) {hu pl : Int} (h0 : 0 ≤ hu) (h9 : hu ≤ 9) (p0 : 0 ≤ pl) (p9 : pl < M 280 d) : okD (M 280 d) (sHP (dsC (10 + 3 * d) M) pl hu) ∧ (sHP (dsC (10 + 3 * d) M) pl hu).2.2.1 ≤ 100000000 ∧ stk (qW M d hu pl) 1000000 := by
  obtain ⟨d1, d2, d3, d4⟩ := dnk h hB hd
  have := sHP_ok d1 h0 h9 p0 p9
  exact ⟨this, d2, qS_stk this d2⟩
theorem way_eq {B : Int} {M M1 : MEM} (h : Rel B M) (hB : B ≤ 100000000) {d : Nat} (hd : (d : Int) < M 3 2) {hu pl : Int} (h0 : 0 ≤ hu) (h9 : hu ≤ 9) (p0 : 0 ≤ pl) (p9 : pl < M 280 d) (c : chg [0, 10] M M1) (he : envC 224 M1 = envC 224 M) (heO : eOk 224 M1) :
    ∃ M' j', dh_isWayHeard d hu pl M1 = some ((if hdB M d (qW M d hu pl) = true then 1 else 0), M') ∧ offL 224 M1 M' ∧ j' ≤ 600 ∧ futAt 224 (envM M) (M 280 d) d (M 3 3) (qW M d hu pl) j' M' := by
  have nw := now_in h
  obtain ⟨s1, s2, s3⟩ := qW_ok h hB hd h0 h9 p0 p9
  obtain ⟨M2, e2, o2, f2⟩ := q_lookE (e := envM M) h (Or.inl rfl) hd hB (c.sub (by decide)) (he.trans (env_0 h (Or.inl rfl)).1) heO
  have f3 := f2.mod (s' := sHP (dsC (10 + 3 * d) M) pl hu) (M' := up2 (up2 M2 230 4 hu) 230 3 pl) (Or.inl rfl) (fun c hc _ => by rw [up2_ne hc, up2_ne hc]) (by rw [rd_k (by decide), rd_k (by decide)]) (by
    have q := f2.2.2.2.1
    refine ⟨?_, ?_, ?_, fun p hp => ?_⟩
    · show _ = up2 (up2 M2 230 4 hu) 230 3 pl 230 3
      rw [rd_same]; rfl
    · show _ = up2 (up2 M2 230 4 hu) 230 3 pl 230 4
      rw [rd_k (by decide), rd_same]; rfl
    · show _ = up2 (up2 M2 230 4 hu) 230 3 pl 230 5
      rw [rd_k (by decide), rd_k (by decide)]; exact q.2.2.1
    · show _ = up2 (up2 M2 230 4 hu) 230 3 pl 231 p
      rw [rd_a (by decide), rd_a (by decide)]; exact q.2.2.2 p hp)
  have oh : offL 224 M2 (up2 (up2 M2 230 4 hu) 230 3 pl) := ⟨fun c _ x _ _ _ _ _ => by rw [up2_ne x, up2_ne x], fun k _ => by rw [rd_a (by decide), rd_a (by decide)], fun k _ => by rw [rd_a (by decide), rd_a (by decide)]⟩
  have oh2 := o2.tr oh
  obtain ⟨M3, j', e3, o3, hj, f4⟩ := fit_eq (M0 := M) h.H s1 s2 nw.1 (by omega) (fun M' o => by
    have cc : chg [0, 10] M M' := (c.tr ((oh2.chg (Or.inl rfl)).sub (by decide))).tr ((o.L.chg (Or.inl rfl)).sub (by decide))
    exact ⟨cc 41 3 (by decide), cc.row (fun k => (by decide : 7 ∉ [0, 10])), cc.row (fun k => (by decide : 7 ∉ [0, 10])), cc.row (fun k => (by decide : 7 ∉ [0, 10]))⟩) f3
  refine ⟨M3, j', ?_, oh2.tr o3.L, hj, f4⟩
  unfold dh_isWayHeard
  rw [e2, Option.bind_some, Option.bind_some, Option.bind_some, e3]
  rfl
theorem mo_way_eq {B : Int} {M M1 : MEM} (h : Rel B M) (hB : B ≤ 100000000) {d : Nat} (hd : (d : Int) < M 3 2) {hu pl : Int} (h0 : 0 ≤ hu) (h9 : hu ≤ 9) (p0 : 0 ≤ pl) (p9 : pl < M 280 d) (c : chg [0, 10] M M1) :
    ∃ M', mo_isHeardWith d hu pl M1 = some ((if hdB M d (qW M d hu pl) = true then 1 else 0), M') ∧ chg [0] M1 M' ∧ moF M1 M' ∧ M' 278 38 = cnt (qW M d hu pl) 600 ∧ ∀ i : Nat, (i : Int) < cnt (qW M d hu pl) 600 → isT (qW M d hu pl) (M' 293 i) i ∧ M' 293 i < 600 := by
  obtain ⟨s1, s2, s3⟩ := qW_ok h hB hd h0 h9 p0 p9
  have hN := h.S.2.2.1
  obtain ⟨M5, e5, o5, o5', o5'', tO, tA⟩ := q_then h hB c
  have tA' := tA.mod (d := d) (s' := sHP (dsC (10 + 3 * d) M) pl hu) (M' := up2 (up2 M5 292 (55 * d) hu) 292 (55 * d + 1) pl) tO.1 (fun d hd => (tO.2.2.2 d hd).1.2.1) (fun c hc => by rw [up2_ne hc, up2_ne hc]) (fun k hk => by rw [rd_k (by omega), rd_k (by omega)]) (by omega) (by
    have q := tA.2.2.2.2.2.2 d (by omega)
    refine ⟨?_, ?_, ?_, fun p hp => ?_⟩
    · show _ = up2 (up2 M5 292 (55 * d) hu) 292 (55 * d + 1) pl 292 (55 * d + 1)
      rw [rd_same]; rfl
    · show _ = up2 (up2 M5 292 (55 * d) hu) 292 (55 * d + 1) pl 292 (55 * d)
      rw [rd_k (by omega), rd_same]; rfl
    · show _ = up2 (up2 M5 292 (55 * d) hu) 292 (55 * d + 1) pl 292 (55 * d + 2)
      rw [rd_k (by omega), rd_k (by omega)]; exact q.2.2.1
    · show _ = up2 (up2 M5 292 (55 * d) hu) 292 (55 * d + 1) pl 292 (55 * d + 3 + p)
      rw [rd_k (by omega), rd_k (by omega)]; exact q.2.2.2 p hp)
  obtain ⟨M6, e6, o6, f6, g6⟩ := find_times (d := d) (tO.mod (d := d) s1 s2) (by omega) tA'
  rw [updS_same] at f6 g6
  have cu : chg [0] M5 (up2 (up2 M5 292 (55 * d) hu) 292 (55 * d + 1) pl) := chg.up (show rg 292 (55 * d + 1) ∈ [0] from List.mem_singleton.mpr rfl) (chg.up (show rg 292 (55 * d) ∈ [0] from List.mem_singleton.mpr rfl) chg.rf)
  have c6 : chg [0] M1 M6 := (o5.chg.tr cu).tr o6.chg
  have cc := c.tr (c6.sub (by decide))
  refine ⟨M6, ?_, c6, (o5.mo.tr ((moF.up (by decide)).tr (moF.up (by decide)))).tr o6.mo, f6, g6⟩
  unfold mo_isHeardWith
  have w1 : wr (((55 * d : Nat) : Int) + 1) = ((55 * d + 1 : Nat) : Int) := (wr_i (by omega) (by omega)).trans (by omega)
  rw [e5, Option.bind_some, w55 (by omega), w1, if_pos (by omega), Option.bind_some, if_pos (by omega), Option.bind_some]
  simp only [toNat_c]
  rw [e6, Option.bind_some, mo_isHeard_eq (M0 := M) (T := qW M d hu pl) h.H s3 (cc 278 49 (by decide)) (cc.row (fun k => (by decide : 7 ∉ [0, 10]))) f6 g6]
  rfl
end
section
-- ===== hungers, ways =====
/-- the future's surroundings are as they were -/
def cE (M M1 : MEM) : Prop := chg [0, 10] M M1 ∧ envC 224 M1 = envC 224 M ∧ eOk 224 M1
theorem cE.rf {B : Int} {M : MEM} (h : Rel B M) : cE M M := ⟨chg.rf, rfl, (env_0 h (Or.inl rfl)).2⟩
theorem cE.L {M M1 M2 : MEM} (h : cE M M1) (o : offL 224 M1 M2) : cE M M2 := ⟨h.1.tr ((o.chg (Or.inl rfl)).sub (by decide)), (o.env (Or.inl rfl)).trans h.2.1, o.eOk (Or.inl rfl) h.2.2⟩
theorem cE.C {M M1 M2 : MEM} (h : cE M M1) (o : offC M1 M2) : cE M M2 :=
  ⟨h.1.tr o.chg, (envC_cells (f := 224) (M := M1) (M' := M2) (fun c hc => o.cell (by omega) (by omega)) (o 224 6 (by decide) (by decide)) (o 21 3 (by decide) (by decide))).trans h.2.1, eOk_cells (f := 224) (M := M1) (M' := M2) (fun c hc => o.cell (by omega) (by omega)) (o 21 3 (by decide) (by decide)) h.2.2⟩
noncomputable def bitsO (P : Nat → Bool) : Nat → Int
  | 0 => 0
  | j + 1 => if P j = true then ish i_or (bitsO P j) (ish i_shl 1 (j : Int)) else bitsO P j
theorem bitsO_S (P : Nat → Bool) (j : Nat) : bitsO P (j + 1) = if P j = true then ish i_or (bitsO P j) (ish i_shl 1 (j : Int)) else bitsO P j := rfl
theorem bitsO_in (P : Nat → Bool) : ∀ j, InR (bitsO P j) := by
  intro j
  induction j with
  | zero => show InR 0; unfold InR; omega
  | succ j ih =>
    rw [bitsO_S]
    split
    · exact ish_in _ _ _
    · exact ih
theorem or_z {x : Int} (h : InR x) : ish i_or x 0 = x := by
  rw [ish_def]
  show (Int32.ofInt x ||| Int32.ofInt 0).toInt = x
  rw [iI_0, Int32.or_zero, iI_toInt h]
theorem bit_if (b : Bool) : (if b = true then (1 : Int) else 0) = 0 ↔ b = false := by cases b <;> simp
theorem c_hungers {B : Int} {M : MEM} (h : Rel B M) (hB : B ≤ 100000000) (x : Int) : Lk B (dh_hungers x M) (mo_hungers x) := by
  have nw := now_in h
  have c3 : chg [0] M (up2 M 278 13 0) := chg.rf.up (by decide)
  unfold Lk dh_hungers
  by_cases hd : 0 ≤ x ∧ x < M 3 2
  · have hN := h.S.2.2.1
    refine Tc_f (by rw [isDonkey_y h.S.2.2.1 hd.1 hd.2]; decide) (Tc_t (by omega) ?_)
    obtain ⟨d, rfl⟩ : ∃ d : Nat, x = (d : Int) := ⟨x.toNat, by omega⟩
    obtain ⟨d1, d2, d3, d4⟩ := dnk h hB hd.2
    obtain ⟨P, hP⟩ : ∃ P : Nat → Bool, P = fun hu : Nat => hdB M d (qW M d (hu : Int) (dsC (10 + 3 * d) M).1) := ⟨_, rfl⟩
    obtain ⟨Q, hQ⟩ : ∃ Q : Nat → Bool, Q = fun pl : Nat => hdB M d (qW M d (dsC (10 + 3 * d) M).2.1 (pl : Int)) := ⟨_, rfl⟩
    obtain ⟨np, hnp⟩ : ∃ np : Nat, M 280 d = (np : Int) := ⟨(M 280 d).toNat, by have := d1.1; omega⟩
    have hnp12 : np ≤ 12 := by have := d1.2.1; omega
    have rb : ∀ {M1 : MEM}, cE M M1 → ∀ k, M1 (10 + 3 * d) k = M (10 + 3 * d) k := fun {M1} c k => c.1 _ _ (by rcases rg_D12 (a := 10 + 3 * d) (k := k) (by omega) (by omega) with q | q <;> rw [q] <;> decide)
    rw [toNat_c]
    have l1 : Tc (iter (fun s => dh_hungers_b25 d (10 + 3 * d) s.1 s.2.1 s.2.2) FU (0, 0, M)) (fun r => r.1 = bitsO P 10 ∧ cE M r.2.2 ∧ offL 224 M r.2.2) := by
      refine Tc_n (fun i s => s.1 = bitsO P i ∧ s.2.1 = (i : Int) ∧ cE M s.2.2 ∧ offL 224 M s.2.2) 10 ⟨rfl, rfl, cE.rf h, offL.rf⟩ (by omega) (fun i s hi hI => ?_) (fun s hI => ?_)
      · obtain ⟨y, z, M1⟩ := s
        obtain ⟨rfl, rfl, q1, q2⟩ := hI
        dsimp only at q1 q2 ⊢
        have e3 : M1 (10 + 3 * d) 3 = (dsC (10 + 3 * d) M).1 := rb q1 3
        obtain ⟨M2, j', e2, o2, -, -⟩ := way_eq (hu := (i : Int)) (pl := (dsC (10 + 3 * d) M).1) h hB hd.2 (by omega) (by omega) d1.2.2.1 d1.2.2.2.1 q1.1 q1.2.1 q1.2.2
        have wi : wr ((i : Int) + 1) = ((i + 1 : Nat) : Int) := (wr_i (by omega) (by omega)).trans (by omega)
        unfold dh_hungers_b25 dh_hungers_j53_25
        refine Tc_f (by omega) ?_
        rw [e3, wi]
        refine Tc_e e2 ?_
        dsimp only
        have ePi : P i = hdB M d (qW M d i (dsC (10 + 3 * d) M).1) := by rw [hP]
        rw [bitsO_S, ← ePi]
        cases hh : P i with
        | true => exact Tc_f (by simp) (Tc_inl ⟨by rw [if_pos rfl], rfl, q1.L o2, q2.tr o2⟩)
        | false => exact Tc_t (by simp) (Tc_inl ⟨by rw [if_neg (by decide)], rfl, q1.L o2, q2.tr o2⟩)
      · obtain ⟨y, z, M1⟩ := s
        obtain ⟨rfl, rfl, q1, q2⟩ := hI
        unfold dh_hungers_b25
        exact Tc_t (by show (10 : Int) ≤ ((10 : Nat) : Int); omega) (Tc_inr ⟨rfl, q1, q2⟩)
    obtain ⟨w1, e1, rfl', y1, y2⟩ := l1
    obtain ⟨bt, w1, M1⟩ := w1
    dsimp only at rfl' y1 y2
    subst rfl'
    refine Tc_e e1 ?_
    dsimp only
    have l2 : Tc (iter (fun s => dh_hungers_b65 d (10 + 3 * d) (bitsO P 10) s.1 s.2.1 s.2.2) FU (0, 0, M1)) (fun r => r.1 = bitsO Q np ∧ offL 224 M r.2.2) := by
      refine Tc_n (fun i s => s.1 = bitsO Q i ∧ s.2.1 = (i : Int) ∧ cE M s.2.2 ∧ offL 224 M s.2.2) np ⟨rfl, rfl, y1, y2⟩ (by omega) (fun i s hi hI => ?_) (fun s hI => ?_)
      · obtain ⟨y, z, M1⟩ := s
        obtain ⟨rfl, rfl, q1, q2⟩ := hI
        dsimp only at q1 q2 ⊢
        have e4 : M1 (10 + 3 * d) 4 = (dsC (10 + 3 * d) M).2.1 := rb q1 4
        have e2' : M1 (10 + 3 * d) 2 = (np : Int) := (rb q1 2).trans (d4.trans hnp)
        obtain ⟨M2, j', e2, o2, -, -⟩ := way_eq (hu := (dsC (10 + 3 * d) M).2.1) (pl := (i : Int)) h hB hd.2 d1.2.2.2.2.1 d1.2.2.2.2.2.1 (by omega) (by omega) q1.1 q1.2.1 q1.2.2
        have wi : wr ((i : Int) + 1) = ((i + 1 : Nat) : Int) := (wr_i (by omega) (by omega)).trans (by omega)
        unfold dh_hungers_b65 dh_hungers_j97_65
        rw [e2']
        refine Tc_f (by omega) ?_
        rw [e4, wi]
        refine Tc_e e2 ?_
        dsimp only
        have ePi : Q i = hdB M d (qW M d (dsC (10 + 3 * d) M).2.1 i) := by rw [hQ]
        rw [bitsO_S, ← ePi]
        cases hh : Q i with
        | true => exact Tc_f (by simp) (Tc_inl ⟨by rw [if_pos rfl], rfl, q1.L o2, q2.tr o2⟩)
        | false => exact Tc_t (by simp) (Tc_inl ⟨by rw [if_neg (by decide)], rfl, q1.L o2, q2.tr o2⟩)
      · obtain ⟨y, z, M1⟩ := s
        obtain ⟨rfl, rfl, q1, q2⟩ := hI
        have e2' : M1 (10 + 3 * d) 2 = (np : Int) := (rb q1 2).trans (d4.trans hnp)
        unfold dh_hungers_b65
        exact Tc_t (by show M1 (10 + 3 * d) 2 ≤ ((np : Nat) : Int); omega) (Tc_inr ⟨rfl, q2⟩)
    obtain ⟨w2, e2, rfl', y3⟩ := l2
    obtain ⟨bt, w2, M2⟩ := w2
    dsimp only at rfl' y3
    subst rfl'
    refine Tc_e e2 ?_
    dsimp only
    obtain ⟨M3, n1, n2, n3⟩ := newRow_eq M2
    obtain ⟨M4, t1, t2, t3⟩ := tell_eq (bitsO Q np) n2 (by simp)
    refine Tc_e n1 (Tc_e t1 (Tc_some ?_))
    dsimp only
    have c4 : chg [0, 10] M M4 := ((y3.chg (Or.inl rfl)).sub (by decide)).tr (n3.tr t3).chg
    unfold mo_hungers
    have c5 : chg [0, 10] M (up2 M4 278 13 0) := c4.up (by decide)
    refine Tc_u (Tc_f (by rw [moDonkey_y h.S (c5 278 1 (by decide)) hd]; decide) ?_)
    have w55d := w55 (d := d) (by omega)
    have w1 : wr (((55 * d : Nat) : Int) + 1) = ((55 * d + 1 : Nat) : Int) := (wr_i (by omega) (by omega)).trans (by omega)
    have r1 : ∀ {M1 : MEM}, chg [0] (up2 M4 278 13 0) M1 → M1 279 (55 * d + 1) = (dsC (10 + 3 * d) M).1 := fun {M1} c => by
      rw [c 279 _ (by rw [rg_279]; decide), c5 279 _ (by rw [rg_279]; decide)]; exact d3.1.symm
    have r2 : ∀ {M1 : MEM}, chg [0] (up2 M4 278 13 0) M1 → M1 279 (55 * d) = (dsC (10 + 3 * d) M).2.1 := fun {M1} c => by
      rw [c 279 _ (by rw [rg_279]; decide), c5 279 _ (by rw [rg_279]; decide)]; exact d3.2.1.symm
    have l3 : Tc (iter (fun s => mo_hungers_b22 d 0 s.1 s.2.1 s.2.2) FU (0, 0, up2 M4 278 13 0)) (fun r => r.1 = bitsO P 10 ∧ chg [0] (up2 M4 278 13 0) r.2.2 ∧ moF (up2 M4 278 13 0) r.2.2) := by
      refine Tc_n (fun i s => s.1 = bitsO P i ∧ s.2.1 = (i : Int) ∧ chg [0] (up2 M4 278 13 0) s.2.2 ∧ moF (up2 M4 278 13 0) s.2.2) 10 ⟨rfl, rfl, chg.rf, moF.rf⟩ (by omega) (fun i s hi hI => ?_) (fun s hI => ?_)
      · obtain ⟨y, z, M5⟩ := s
        obtain ⟨rfl, rfl, q1, q2⟩ := hI
        dsimp only at q1 q2 ⊢
        obtain ⟨M6, e6, o6, o6', -⟩ := mo_way_eq (hu := (i : Int)) (pl := (dsC (10 + 3 * d) M).1) h hB hd.2 (by omega) (by omega) d1.2.2.1 d1.2.2.2.1 (c5.tr (q1.sub (by decide)))
        have wi : wr ((i : Int) + 1) = ((i + 1 : Nat) : Int) := (wr_i (by omega) (by omega)).trans (by omega)
        unfold mo_hungers_b22 mo_hungers_j59_22
        rw [w55d, w1, toNat_c, r1 q1, wi]
        refine Tc_f (by omega) (Tc_t (by omega) (Tc_e e6 ?_))
        dsimp only
        have ePi : P i = hdB M d (qW M d i (dsC (10 + 3 * d) M).1) := by rw [hP]
        rw [bitsO_S, ← ePi]
        cases hh : P i with
        | true => exact Tc_f (by simp) (Tc_inl ⟨by rw [if_pos rfl], rfl, q1.tr o6, q2.tr o6'⟩)
        | false => exact Tc_t (by simp) (Tc_inl ⟨by rw [if_neg (by decide)]; exact or_z (bitsO_in _ _), rfl, q1.tr o6, q2.tr o6'⟩)
      · obtain ⟨y, z, M5⟩ := s
        obtain ⟨rfl, rfl, q1, q2⟩ := hI
        unfold mo_hungers_b22
        exact Tc_t (by show (10 : Int) ≤ ((10 : Nat) : Int); omega) (Tc_inr ⟨rfl, q1, q2⟩)
    obtain ⟨w3, e3, rfl', y4, y5⟩ := l3
    obtain ⟨bt, w3, M5⟩ := w3
    dsimp only at rfl' y4 y5
    subst rfl'
    refine Tc_e e3 ?_
    dsimp only
    have l4 : Tc (iter (fun s => mo_hungers_b70 d (bitsO P 10) s.1 s.2.1 s.2.2) FU (0, 0, M5)) (fun r => r.1 = bitsO Q np ∧ chg [0] (up2 M4 278 13 0) r.2.2 ∧ moF (up2 M4 278 13 0) r.2.2) := by
      refine Tc_n (fun i s => s.1 = bitsO Q i ∧ s.2.1 = (i : Int) ∧ chg [0] (up2 M4 278 13 0) s.2.2 ∧ moF (up2 M4 278 13 0) s.2.2) np ⟨rfl, rfl, y4, y5⟩ (by omega) (fun i s hi hI => ?_) (fun s hI => ?_)
      · obtain ⟨y, z, M5⟩ := s
        obtain ⟨rfl, rfl, q1, q2⟩ := hI
        dsimp only at q1 q2 ⊢
        obtain ⟨M6, e6, o6, o6', -⟩ := mo_way_eq (hu := (dsC (10 + 3 * d) M).2.1) (pl := (i : Int)) h hB hd.2 d1.2.2.2.2.1 d1.2.2.2.2.2.1 (by omega) (by omega) (c5.tr (q1.sub (by decide)))
        have wi : wr ((i : Int) + 1) = ((i + 1 : Nat) : Int) := (wr_i (by omega) (by omega)).trans (by omega)
        have e280 : M5 280 d = (np : Int) := by rw [(c5.tr (q1.sub (by decide))) 280 d (by decide : 12 ∉ [0, 10])]; exact hnp
        unfold mo_hungers_b70 mo_hungers_j109_70
        rw [w55d, toNat_c, toNat_c, r2 q1, wi, e280]
        refine Tc_t (by omega) (Tc_f (by omega) (Tc_t (by omega) (Tc_e e6 ?_)))
        dsimp only
        have ePi : Q i = hdB M d (qW M d (dsC (10 + 3 * d) M).2.1 i) := by rw [hQ]
        rw [bitsO_S, ← ePi]
        cases hh : Q i with
        | true => exact Tc_f (by simp) (Tc_inl ⟨by rw [if_pos rfl], rfl, q1.tr o6, q2.tr o6'⟩)
        | false => exact Tc_t (by simp) (Tc_inl ⟨by rw [if_neg (by decide)]; exact or_z (bitsO_in _ _), rfl, q1.tr o6, q2.tr o6'⟩)
      · obtain ⟨y, z, M5⟩ := s
        obtain ⟨rfl, rfl, q1, q2⟩ := hI
        dsimp only at q1 q2
        have e280 : M5 280 d = (np : Int) := by rw [(c5.tr (q1.sub (by decide))) 280 d (by decide : 12 ∉ [0, 10])]; exact hnp
        unfold mo_hungers_b70
        dsimp only
        rw [toNat_c]
        exact Tc_t (by omega) (Tc_t (by omega) (Tc_inr ⟨rfl, q1, q2⟩))
    obtain ⟨w4, e4, rfl', y6, y7⟩ := l4
    obtain ⟨bt, w4, M6⟩ := w4
    dsimp only at rfl' y6 y7
    subst rfl'
    refine Tc_e e4 (Tc_u ?_)
    dsimp only
    obtain ⟨r1, r2⟩ := moRow0 M6
    obtain ⟨M7, s1, s2, s3⟩ := moTell_eq (bitsO Q np) r1 (by simp)
    exact Tc_e s1 (Tc_some ⟨rfl, h.go10 ((c5.tr (y6.sub (by decide))).tr (r2.tr s3).chg) (t2.fin (((moF.up (by decide)).tr y7).tr (r2.tr s3).mo) s2 (by simp))⟩)
  · refine Tc_t (isDonkey_n h.S.2.2.1 hd) (Tc_some ?_)
    unfold mo_hungers
    exact Tc_u (Tc_t (moDonkey_n h.S (c3 278 1 (by decide)) hd) (Tc_some ⟨rfl, h.go0 c3⟩))
/-- one way more: how many, the first -/
def wyS (P : Nat → Nat → Bool) (hu pl : Nat) (s : Int × Int) : Int × Int := if P hu pl = true then (s.1 + 1, if s.1 = 0 then 12 * (hu : Int) + pl else s.2) else s
def wyI (P : Nat → Nat → Bool) (hu : Nat) : Nat → Int × Int → Int × Int
  | 0, s => s
  | p + 1, s => wyS P hu p (wyI P hu p s)
def wyO (P : Nat → Nat → Bool) (np : Nat) : Nat → Int × Int
  | 0 => (0, 0)
  | hu + 1 => wyI P hu np (wyO P np hu)
def wyOk (b : Int) (s : Int × Int) : Prop := 0 ≤ s.1 ∧ s.1 ≤ b ∧ 0 ≤ s.2 ∧ s.2 < 120
theorem wyS_ok {P : Nat → Nat → Bool} {hu pl : Nat} {s : Int × Int} {b : Int} (h1 : hu < 10) (h2 : pl < 12) (h : wyOk b s) : wyOk (b + 1) (wyS P hu pl s) := by
  obtain ⟨q1, q2, q3, q4⟩ := h
  unfold wyS
  split
  · refine ⟨?_, ?_, ?_, ?_⟩ <;> dsimp only
    · omega
    · omega
    · split <;> omega
    · split <;> omega
  · exact ⟨q1, by omega, q3, q4⟩
theorem wyI_ok {P : Nat → Nat → Bool} {hu : Nat} {s : Int × Int} {b : Int} (h1 : hu < 10) (h : wyOk b s) : ∀ p : Nat, p ≤ 12 → wyOk (b + p) (wyI P hu p s) := by
  intro p
  induction p with
  | zero => intro _; rw [show b + ((0 : Nat) : Int) = b by omega]; exact h
  | succ p ih =>
    intro hp
    have := wyS_ok (P := P) h1 (show p < 12 by omega) (ih (by omega))
    rw [show b + ((p + 1 : Nat) : Int) = b + p + 1 by omega]
    exact this
theorem wyO_ok {P : Nat → Nat → Bool} {np : Nat} (hnp : np ≤ 12) : ∀ hu : Nat, hu ≤ 10 → wyOk (12 * hu) (wyO P np hu) := by
  intro hu
  induction hu with
  | zero => intro _; exact ⟨Int.le_refl _, Int.le_refl _, Int.le_refl _, (by decide : (0 : Int) < 120)⟩
  | succ hu ih =>
    intro h
    have := wyI_ok (P := P) (show hu < 10 by omega) (ih (by omega)) np hnp
    obtain ⟨q1, q2, q3, q4⟩ := this
    exact ⟨q1, by show (wyI P hu np (wyO P np hu)).1 ≤ _; omega, q3, q4⟩
/-- the ROW of the ways -/
def wyR (s : Int × Int) : List Int := if s.1 = 0 then [] else [s.2 / 12, s.2 % 12]
theorem c_ways {B : Int} {M : MEM} (h : Rel B M) (hB : B ≤ 100000000) (x : Int) : Lk B (dh_ways x M) (mo_ways x) := by
  have nw := now_in h
  have c3 : chg [0] M (up2 M 278 13 0) := chg.rf.up (by decide)
  unfold Lk dh_ways
  by_cases hd : 0 ≤ x ∧ x < M 3 2
  · have hN := h.S.2.2.1
    refine Tc_f (by rw [isDonkey_y h.S.2.2.1 hd.1 hd.2]; decide) ?_
    obtain ⟨d, rfl⟩ : ∃ d : Nat, x = (d : Int) := ⟨x.toNat, by omega⟩
    obtain ⟨d1, d2, d3, d4⟩ := dnk h hB hd.2
    obtain ⟨P, hP⟩ : ∃ P : Nat → Nat → Bool, P = fun hu pl : Nat => hdB M d (qW M d (hu : Int) (pl : Int)) := ⟨_, rfl⟩
    obtain ⟨np, hnp⟩ : ∃ np : Nat, M 280 d = (np : Int) := ⟨(M 280 d).toNat, by have := d1.1; omega⟩
    have hnp12 : np ≤ 12 := by have := d1.2.1; omega
    have rb : ∀ {M1 : MEM}, cE M M1 → ∀ k, M1 (10 + 3 * d) k = M (10 + 3 * d) k := fun {M1} c k => c.1 _ _ (by rcases rg_D12 (a := 10 + 3 * d) (k := k) (by omega) (by omega) with q | q <;> rw [q] <;> decide)
    obtain ⟨M0, n1, n2, n3⟩ := newRow_eq M
    refine Tc_e n1 ?_
    have inner : ∀ (i : Nat) (s0 : Int × Int) (M1 : MEM), i < 10 → wyOk (12 * i) s0 → cE M M1 → rowC (wyR s0) M1 → Tc (iter (fun s => dh_ways_b27 d i s.1 s.2.1 s.2.2) FU (s0.1, 0, M1)) (fun r => r.1 = (wyI P i np s0).1 ∧ cE M r.2.2 ∧ rowC (wyR (wyI P i np s0)) r.2.2) := fun i s0 M1 hi hs0 hc hr => by
      refine Tc_n (fun p s => s.1 = (wyI P i p s0).1 ∧ s.2.1 = (p : Int) ∧ cE M s.2.2 ∧ rowC (wyR (wyI P i p s0)) s.2.2) np ⟨rfl, rfl, hc, hr⟩ (by omega) (fun p s hp hI => ?_) (fun s hI => ?_)
      · obtain ⟨y, z, M2⟩ := s
        obtain ⟨rfl, rfl, q1, q2⟩ := hI
        dsimp only at q1 q2 ⊢
        have hok := wyI_ok (P := P) hi hs0 p (by omega)
        obtain ⟨k1, k2, k3, k4⟩ := hok
        have e2' : M2 (10 + 3 * d) 2 = (np : Int) := (rb q1 2).trans (d4.trans hnp)
        obtain ⟨M3, j', e3, o3, -, -⟩ := way_eq (hu := (i : Int)) (pl := (p : Int)) h hB hd.2 (by omega) (by omega) (by omega) (by omega) q1.1 q1.2.1 q1.2.2
        have wp : wr ((p : Int) + 1) = ((p + 1 : Nat) : Int) := (wr_i (by omega) (by omega)).trans (by omega)
        have hS : wyI P i (p + 1) s0 = wyS P i p (wyI P i p s0) := rfl
        have q2' : rowC (wyR (wyI P i p s0)) M3 := q2.off (by rw [o3.1 0 (by decide) (by decide) (by decide) (by decide) (by decide) (by decide) (by decide)]) (o3.1 245 (by decide) (by decide) (by decide) (by decide) (by decide) (by decide) (by decide))
        have q1' := q1.L o3
        unfold dh_ways_b27 dh_ways_j70_27 dh_ways_j73_27
        rw [toNat_c, e2', wp, hS]
        refine Tc_t (by omega) (Tc_f (by omega) (Tc_e e3 ?_))
        dsimp only
        have ePi : P i p = hdB M d (qW M d i p) := by rw [hP]
        unfold wyS
        rw [← ePi]
        generalize wyI P i p s0 = s1 at *
        cases hh : P i p with
        | false =>
          refine Tc_t (by simp) (Tc_inl ⟨?_, rfl, q1', ?_⟩)
          · rw [if_neg (by decide)]
          · rw [if_neg (by decide)]; exact q2'
        | true =>
          refine Tc_f (by simp) ?_
          rw [if_pos rfl, wr_i (x := s1.1 + 1) (by omega) (by omega)]
          by_cases z : s1.1 = 0
          · refine Tc_t z ?_
            have el : wyR s1 = [] := by unfold wyR; rw [if_pos z]
            rw [el] at q2'
            obtain ⟨M4, t1, t2, t3⟩ := tell_eq (i : Int) q2' (by simp)
            obtain ⟨M5, u1, u2, u3⟩ := tell_eq (p : Int) t2 (by simp)
            refine Tc_e t1 (Tc_e u1 (Tc_inl ⟨rfl, rfl, (q1'.C t3).C u3, ?_⟩))
            dsimp only
            have : wyR (s1.1 + 1, if s1.1 = 0 then 12 * (i : Int) + (p : Int) else s1.2) = [] ++ [(i : Int)] ++ [(p : Int)] := by
              unfold wyR
              dsimp only
              rw [if_neg (by omega), if_pos z, show (12 * (i : Int) + p) / 12 = i by omega, show (12 * (i : Int) + p) % 12 = p by omega]
              rfl
            rw [this]
            exact u2
          · refine Tc_f z (Tc_inl ⟨rfl, rfl, q1', ?_⟩)
            dsimp only
            have : wyR (s1.1 + 1, if s1.1 = 0 then 12 * (i : Int) + (p : Int) else s1.2) = wyR s1 := by
              unfold wyR
              dsimp only
              rw [if_neg (by omega), if_neg z, if_neg z]
            rw [this]
            exact q2'
      · obtain ⟨y, z, M2⟩ := s
        obtain ⟨rfl, rfl, q1, q2⟩ := hI
        have e2' : M2 (10 + 3 * d) 2 = (np : Int) := (rb q1 2).trans (d4.trans hnp)
        unfold dh_ways_b27
        dsimp only
        rw [toNat_c]
        exact Tc_t (by omega) (Tc_t (by omega) (Tc_inr ⟨rfl, q1, q2⟩))
    have l1 : Tc (iter (fun s => dh_ways_b18 d s.1 s.2.1 s.2.2) FU (0, 0, M0)) (fun r => r.1 = (wyO P np 10).1 ∧ cE M r.2.2 ∧ rowC (wyR (wyO P np 10)) r.2.2) := by
      refine Tc_n (fun i s => s.1 = (wyO P np i).1 ∧ s.2.1 = (i : Int) ∧ cE M s.2.2 ∧ rowC (wyR (wyO P np i)) s.2.2) 10 ⟨rfl, rfl, (cE.rf h).C n3, n2⟩ (by omega) (fun i s hi hI => ?_) (fun s hI => ?_)
      · obtain ⟨y, z, M1⟩ := s
        obtain ⟨rfl, rfl, q1, q2⟩ := hI
        dsimp only at q1 q2 ⊢
        have wi : wr ((i : Int) + 1) = ((i + 1 : Nat) : Int) := (wr_i (by omega) (by omega)).trans (by omega)
        unfold dh_ways_b18
        refine Tc_f (by omega) (Tc_c (inner i _ M1 hi (wyO_ok hnp12 i (by omega)) q1 q2) (fun r hr => ?_))
        rw [wi]
        exact Tc_inl ⟨hr.1, rfl, hr.2.1, hr.2.2⟩
      · obtain ⟨y, z, M1⟩ := s
        obtain ⟨rfl, rfl, q1, q2⟩ := hI
        unfold dh_ways_b18
        exact Tc_t (by show (10 : Int) ≤ ((10 : Nat) : Int); omega) (Tc_inr ⟨rfl, q1, q2⟩)
    obtain ⟨w1, e1, rfl', y1, y2⟩ := l1
    obtain ⟨bt, w1, M1⟩ := w1
    dsimp only at rfl' y1 y2
    subst rfl'
    refine Tc_e e1 (Tc_some ?_)
    dsimp only
    have c4 := y1.1
    unfold mo_ways
    have c5 : chg [0, 10] M (up2 M1 278 13 0) := c4.up (by decide)
    refine Tc_u (Tc_f (by rw [moDonkey_y h.S (c5 278 1 (by decide)) hd]; decide) ?_)
    have inner2 : ∀ (i : Nat) (s0 : Int × Int) (M2 : MEM), i < 10 → wyOk (12 * i) s0 → chg [0] (up2 M1 278 13 0) M2 → moF (up2 M1 278 13 0) M2 → Tc (iter (fun s => mo_ways_b32 d i s.1 s.2.1 s.2.2.1 s.2.2.2) FU (s0.1, s0.2, 0, M2)) (fun r => r.1 = (wyI P i np s0).1 ∧ r.2.1 = (wyI P i np s0).2 ∧ chg [0] (up2 M1 278 13 0) r.2.2.2 ∧ moF (up2 M1 278 13 0) r.2.2.2) := fun i s0 M2 hi hs0 hc hm => by
      refine Tc_n (fun p s => s.1 = (wyI P i p s0).1 ∧ s.2.1 = (wyI P i p s0).2 ∧ s.2.2.1 = (p : Int) ∧ chg [0] (up2 M1 278 13 0) s.2.2.2 ∧ moF (up2 M1 278 13 0) s.2.2.2) np ⟨rfl, rfl, rfl, hc, hm⟩ (by omega) (fun p s hp hI => ?_) (fun s hI => ?_)
      · obtain ⟨y, y', z, M3⟩ := s
        obtain ⟨rfl, rfl, rfl, q1, q2⟩ := hI
        dsimp only at q1 q2 ⊢
        have hok := wyI_ok (P := P) hi hs0 p (by omega)
        obtain ⟨k1, k2, k3, k4⟩ := hok
        have cc := c5.tr (q1.sub (by decide))
        have e280 : M3 280 d = (np : Int) := by rw [cc 280 d (by decide : 12 ∉ [0, 10])]; exact hnp
        obtain ⟨M4, e4, o4, o4', -⟩ := mo_way_eq (hu := (i : Int)) (pl := (p : Int)) h hB hd.2 (by omega) (by omega) (by omega) (by omega) cc
        have wp : wr ((p : Int) + 1) = ((p + 1 : Nat) : Int) := (wr_i (by omega) (by omega)).trans (by omega)
        have hS : wyI P i (p + 1) s0 = wyS P i p (wyI P i p s0) := rfl
        unfold mo_ways_b32 mo_ways_j71_32 mo_ways_j74_32
        rw [toNat_c, e280, wp, hS]
        refine Tc_t (by omega) (Tc_f (by omega) (Tc_e e4 ?_))
        dsimp only
        have ePi : P i p = hdB M d (qW M d i p) := by rw [hP]
        unfold wyS
        rw [← ePi]
        generalize wyI P i p s0 = s1 at *
        cases hh : P i p with
        | false =>
          refine Tc_t (by simp) (Tc_inl ⟨?_, ?_, rfl, q1.tr o4, q2.tr o4'⟩)
          · rw [if_neg (by decide)]
          · rw [if_neg (by decide)]
        | true =>
          refine Tc_f (by simp) ?_
          rw [if_pos rfl, wr_i (x := s1.1 + 1) (by omega) (by omega), wr_i (x := 12 * (i : Int)) (by omega) (by omega), wr_i (x := 12 * (i : Int) + p) (by omega) (by omega)]
          by_cases z : s1.1 = 0
          · refine Tc_t z (Tc_inl ⟨rfl, ?_, rfl, q1.tr o4, q2.tr o4'⟩)
            dsimp only
            rw [if_pos z]
          · refine Tc_f z (Tc_inl ⟨rfl, ?_, rfl, q1.tr o4, q2.tr o4'⟩)
            dsimp only
            rw [if_neg z]
      · obtain ⟨y, y', z, M3⟩ := s
        obtain ⟨rfl, rfl, rfl, q1, q2⟩ := hI
        dsimp only at q1 q2
        have e280 : M3 280 d = (np : Int) := by rw [(c5.tr (q1.sub (by decide))) 280 d (by decide : 12 ∉ [0, 10])]; exact hnp
        unfold mo_ways_b32
        dsimp only
        rw [toNat_c]
        exact Tc_t (by omega) (Tc_t (by omega) (Tc_inr ⟨rfl, rfl, q1, q2⟩))
    have l2 : Tc (iter (fun s => mo_ways_b22 d s.1 s.2.1 s.2.2.1 s.2.2.2) FU (0, 0, 0, up2 M1 278 13 0)) (fun r => r.1 = (wyO P np 10).1 ∧ r.2.1 = (wyO P np 10).2 ∧ chg [0] (up2 M1 278 13 0) r.2.2.2 ∧ moF (up2 M1 278 13 0) r.2.2.2) := by
      refine Tc_n (fun i s => s.1 = (wyO P np i).1 ∧ s.2.1 = (wyO P np i).2 ∧ s.2.2.1 = (i : Int) ∧ chg [0] (up2 M1 278 13 0) s.2.2.2 ∧ moF (up2 M1 278 13 0) s.2.2.2) 10 ⟨rfl, rfl, rfl, chg.rf, moF.rf⟩ (by omega) (fun i s hi hI => ?_) (fun s hI => ?_)
      · obtain ⟨y, y', z, M2⟩ := s
        obtain ⟨rfl, rfl, rfl, q1, q2⟩ := hI
        dsimp only at q1 q2 ⊢
        have wi : wr ((i : Int) + 1) = ((i + 1 : Nat) : Int) := (wr_i (by omega) (by omega)).trans (by omega)
        unfold mo_ways_b22
        refine Tc_f (by omega) (Tc_c (inner2 i _ M2 hi (wyO_ok hnp12 i (by omega)) q1 q2) (fun r hr => ?_))
        rw [wi]
        exact Tc_inl ⟨hr.1, hr.2.1, rfl, hr.2.2.1, hr.2.2.2⟩
      · obtain ⟨y, y', z, M2⟩ := s
        obtain ⟨rfl, rfl, rfl, q1, q2⟩ := hI
        unfold mo_ways_b22
        exact Tc_t (by show (10 : Int) ≤ ((10 : Nat) : Int); omega) (Tc_inr ⟨rfl, rfl, q1, q2⟩)
    obtain ⟨w2, e2, rfl', rfl'', y3, y4⟩ := l2
    obtain ⟨bt, bo, w2, M2⟩ := w2
    dsimp only at rfl' rfl'' y3 y4
    subst rfl' rfl''
    refine Tc_e e2 (Tc_u ?_)
    dsimp only
    obtain ⟨r1, r2⟩ := moRow0 M2
    obtain ⟨k1, k2, k3, k4⟩ := wyO_ok (P := P) hnp12 10 (Nat.le_refl _)
    generalize wyO P np 10 = s1 at *
    have cc := c5.tr (y3.sub (by decide))
    have mm : moF M1 M2 := (moF.up (by decide)).tr y4
    by_cases z : s1.1 = 0
    · refine Tc_t (by omega) (Tc_some ⟨rfl, h.go10 (cc.tr r2.chg) (y2.fin (mm.tr r2.mo) ?_ ?_)⟩)
      · unfold wyR; rw [if_pos z]; exact r1
      · unfold wyR; rw [if_pos z]; simp
    · have w12 : wr (Int.tdiv s1.2 12) = s1.2 / 12 := by rw [Int.tdiv_eq_ediv_of_nonneg k3]; exact wr_i (by omega) (by omega)
      rw [w12, tmod_nn k3]
      obtain ⟨M3, t1, t2, t3⟩ := moTell_eq (s1.2 / 12) r1 (by simp)
      obtain ⟨M4, u1, u2, u3⟩ := moTell_eq (s1.2 % 12) t2 (by simp)
      refine Tc_f (by omega) (Tc_e t1 (Tc_e u1 (Tc_some ⟨rfl, h.go10 (cc.tr ((r2.tr t3).tr u3).chg) (y2.fin (mm.tr ((r2.tr t3).tr u3).mo) ?_ ?_)⟩)))
      · unfold wyR; rw [if_neg z]; exact u2
      · unfold wyR; rw [if_neg z]; simp
  · refine Tc_t (isDonkey_n h.S.2.2.1 hd) (Tc_some ?_)
    unfold mo_ways
    exact Tc_u (Tc_t (moDonkey_n h.S (c3 278 1 (by decide)) hd) (Tc_some ⟨rfl, h.go0 c3⟩))
end
section
-- ===== span, swarms =====
/-- behind which MINUTE the k-th STROKE has come, of J; -1: in none -/
def tmN (T : Nat → DS) (k : Int) : Nat → Int
  | 0 => -1
  | j + 1 => if 0 ≤ tmN T k j then tmN T k j else if k ≤ cnt T (j + 1) then (j : Int) + 1 else -1
theorem tmN_S (T : Nat → DS) (k : Int) (j : Nat) : tmN T k (j + 1) = if 0 ≤ tmN T k j then tmN T k j else if k ≤ cnt T (j + 1) then (j : Int) + 1 else -1 := rfl
theorem tmN_none {T : Nat → DS} {k : Int} {J : Nat} (hst : stk T J) : ∀ j, j ≤ J → cnt T j < k → tmN T k j = -1 := by
  intro j
  induction j with
  | zero => intro _ _; rfl
  | succ j ih =>
    intro hj hk
    have := (cnt_mono hst (show j ≤ j + 1 by omega) hj).1
    rw [tmN_S, ih (by omega) (by omega), if_neg (by decide), if_neg (by omega)]
theorem tmN_at {T : Nat → DS} {k : Int} {J : Nat} {u : Nat} (hst : stk T J) (h1 : cnt T u < k) (h2 : k ≤ cnt T (u + 1)) : ∀ j, u < j → j ≤ J → tmN T k j = (u : Int) + 1 := by
  intro j
  induction j with
  | zero => intro h; omega
  | succ j ih =>
    intro h hj
    rw [tmN_S]
    by_cases e : u = j
    · subst e
      rw [tmN_none hst u (by omega) h1, if_neg (by decide), if_pos h2]
    · rw [ih (by omega) (by omega), if_pos (by omega)]
theorem tmN_eq {T : Nat → DS} {k r : Int} (hst : stk T 1000000) (hk : 1 ≤ k) (hr : (k ≤ cnt T 600 ∧ ∃ v, isT T v (k - 1).toNat ∧ 0 ≤ v ∧ v < 600 ∧ r = v + 1) ∨ (cnt T 600 < k ∧ r = -1)) : r = tmN T k 600 := by
  rcases hr with ⟨h1, v, ⟨u, rfl, u1, u2⟩, h3, h4, rfl⟩ | ⟨h1, rfl⟩
  · rw [tmN_at (u := u) hst (by omega) (by omega) 600 (by omega) (by omega)]
  · rw [tmN_none hst 600 (by omega) h1]
/-- by the MINUTES of the reference -/
theorem tmN_times {T : Nat → DS} {k : Int} {M : MEM} (hst : stk T 1000000) (hk : 1 ≤ k) (g3 : M 278 38 = cnt T 600) (g4 : ∀ i : Nat, (i : Int) < cnt T 600 → isT T (M 293 i) i ∧ M 293 i < 600) : (k ≤ M 278 38 ∧ tmN T k 600 = M 293 (k - 1).toNat + 1 ∧ 0 ≤ M 293 (k - 1).toNat ∧ M 293 (k - 1).toNat < 600) ∨ (M 278 38 < k ∧ tmN T k 600 = -1) := by
  rw [g3]
  by_cases h : k ≤ cnt T 600
  · obtain ⟨z1, z2⟩ := g4 (k - 1).toNat (by omega)
    have z0 := times_in g4 (i := (k - 1).toNat) (by omega)
    refine Or.inl ⟨h, (tmN_eq hst hk (Or.inl ⟨h, _, z1, z0.1, z2, rfl⟩)).symm, z0⟩
  · exact Or.inr ⟨by omega, tmN_none hst 600 (by omega) (by omega)⟩
/-- the earliest, the latest, how many -/
def spS (V : Nat → Nat → Int) (hu pl : Nat) (s : Int × Int × Int) : Int × Int × Int := if V hu pl < 0 then s else (min s.1 (V hu pl), max s.2.1 (V hu pl), s.2.2 + 1)
def spI (V : Nat → Nat → Int) (hu : Nat) : Nat → Int × Int × Int → Int × Int × Int
  | 0, s => s
  | p + 1, s => spS V hu p (spI V hu p s)
def spO (V : Nat → Nat → Int) (np : Nat) : Nat → Int × Int × Int
  | 0 => (1000000, 0, 0)
  | hu + 1 => spI V hu np (spO V np hu)
def spOk (b : Int) (s : Int × Int × Int) : Prop := 0 ≤ s.2.2 ∧ s.2.2 ≤ b ∧ (s.2.2 = 0 → s = (1000000, 0, 0)) ∧ 0 ≤ s.1 ∧ s.1 ≤ 1000000 ∧ 0 ≤ s.2.1 ∧ s.2.1 ≤ 600
theorem spS_ok {V : Nat → Nat → Int} {hu pl : Nat} {s : Int × Int × Int} {b : Int} (hV : V hu pl ≤ 600) (h : spOk b s) : spOk (b + 1) (spS V hu pl s) := by
  obtain ⟨q1, q2, q3, q4, q5, q6, q7⟩ := h
  unfold spS
  split
  · exact ⟨q1, by omega, q3, q4, q5, q6, q7⟩
  · refine ⟨?_, ?_, ?_, ?_, ?_, ?_, ?_⟩ <;> dsimp only <;> omega
theorem spI_ok {V : Nat → Nat → Int} (hV : ∀ a b, V a b ≤ 600) {hu : Nat} {s : Int × Int × Int} {b : Int} (h : spOk b s) : ∀ p : Nat, spOk (b + p) (spI V hu p s) := by
  intro p
  induction p with
  | zero => rw [show b + ((0 : Nat) : Int) = b by omega]; exact h
  | succ p ih =>
    have := spS_ok (hV hu p) ih
    rw [show b + ((p + 1 : Nat) : Int) = b + p + 1 by omega]
    exact this
theorem spO_ok {V : Nat → Nat → Int} (hV : ∀ a b, V a b ≤ 600) {np : Nat} (hnp : np ≤ 12) : ∀ hu : Nat, spOk (12 * hu) (spO V np hu) := by
  intro hu
  induction hu with
  | zero => exact ⟨Int.le_refl _, Int.le_refl _, fun _ => rfl, (by decide : (0 : Int) ≤ 1000000), (by decide : (1000000 : Int) ≤ 1000000), (by decide : (0 : Int) ≤ 0), (by decide : (0 : Int) ≤ 600)⟩
  | succ hu ih =>
    have := spI_ok hV (hu := hu) ih np
    obtain ⟨q1, q2, q3⟩ := this
    exact ⟨q1, by show (spI V hu np (spO V np hu)).2.2 ≤ _; omega, q3⟩
theorem tmN_le (T : Nat → DS) (k : Int) : ∀ j, -1 ≤ tmN T k j ∧ tmN T k j ≤ j := by
  intro j
  induction j with
  | zero => exact ⟨Int.le_refl _, by show (-1 : Int) ≤ _; omega⟩
  | succ j ih =>
    rw [tmN_S]
    split
    · omega
    · split <;> omega
/-- how the class holds it -/
def spC (s : Int × Int × Int) : Int × Int := if s.2.2 = 0 then (-1, -1) else (s.1, s.2.1)
theorem c_span {B : Int} {M : MEM} (h : Rel B M) (hB : B ≤ 100000000) (x k : Int) : Lk B (dh_span x k M) (mo_span x k) := by
  have nw := now_in h
  have c3 : chg [0] M (up2 M 278 13 0) := chg.rf.up (by decide)
  unfold Lk dh_span
  by_cases hd : 0 ≤ x ∧ x < M 3 2
  · have hN := h.S.2.2.1
    refine Tc_f (by rw [isDonkey_y h.S.2.2.1 hd.1 hd.2]; decide) ?_
    by_cases hk : 1 ≤ k ∧ k ≤ 60
    · refine Tc_f (by rw [asked_y hk]; decide) ?_
      obtain ⟨d, rfl⟩ : ∃ d : Nat, x = (d : Int) := ⟨x.toNat, by omega⟩
      obtain ⟨d1, d2, d3, d4⟩ := dnk h hB hd.2
      obtain ⟨V, hV⟩ : ∃ V : Nat → Nat → Int, V = fun hu pl : Nat => if hdB M d (qW M d (hu : Int) (pl : Int)) = true then tmN (qW M d (hu : Int) (pl : Int)) k 600 else -1 := ⟨_, rfl⟩
      have hVb : ∀ a b, -1 ≤ V a b ∧ V a b ≤ 600 := fun a b => by
        rw [hV]; dsimp only
        have := tmN_le (qW M d a b) k 600
        split <;> omega
      obtain ⟨np, hnp⟩ : ∃ np : Nat, M 280 d = (np : Int) := ⟨(M 280 d).toNat, by have := d1.1; omega⟩
      have hnp12 : np ≤ 12 := by have := d1.2.1; omega
      have rb : ∀ {M1 : MEM}, cE M M1 → ∀ k, M1 (10 + 3 * d) k = M (10 + 3 * d) k := fun {M1} c k => c.1 _ _ (by rcases rg_D12 (a := 10 + 3 * d) (k := k) (by omega) (by omega) with q | q <;> rw [q] <;> decide)
      have inner : ∀ (i : Nat) (s0 : Int × Int × Int) (M1 : MEM), i < 10 → spOk (12 * i) s0 → cE M M1 → offL 224 M M1 → Tc (iter (fun s => dh_span_b38 d k i s.1 s.2.1 s.2.2.1 s.2.2.2.1 s.2.2.2.2) FU ((spC s0).1, (spC s0).2, s0.2.2, 0, M1)) (fun r => r.1 = (spC (spI V i np s0)).1 ∧ r.2.1 = (spC (spI V i np s0)).2 ∧ r.2.2.1 = (spI V i np s0).2.2 ∧ cE M r.2.2.2.2 ∧ offL 224 M r.2.2.2.2) := fun i s0 M1 hi hs0 hc ho => by
        refine Tc_n (fun p s => s.1 = (spC (spI V i p s0)).1 ∧ s.2.1 = (spC (spI V i p s0)).2 ∧ s.2.2.1 = (spI V i p s0).2.2 ∧ s.2.2.2.1 = (p : Int) ∧ cE M s.2.2.2.2 ∧ offL 224 M s.2.2.2.2) np ⟨rfl, rfl, rfl, rfl, hc, ho⟩ (by omega) (fun p s hp hI => ?_) (fun s hI => ?_)
        · obtain ⟨y, y', y'', z, M2⟩ := s
          obtain ⟨rfl, rfl, rfl, rfl, q1, q2⟩ := hI
          dsimp only at q1 q2 ⊢
          have hok := spI_ok (fun a b => (hVb a b).2) (hu := i) hs0 p
          have e2' : M2 (10 + 3 * d) 2 = (np : Int) := (rb q1 2).trans (d4.trans hnp)
          obtain ⟨s1, s2, s3⟩ := qW_ok (hu := (i : Int)) (pl := (p : Int)) h hB hd.2 (by omega) (by omega) (by omega) (by omega)
          obtain ⟨M3, j', e3, o3, hj, f3⟩ := way_eq (hu := (i : Int)) (pl := (p : Int)) h hB hd.2 (by omega) (by omega) (by omega) (by omega) q1.1 q1.2.1 q1.2.2
          have wp : wr ((p : Int) + 1) = ((p + 1 : Nat) : Int) := (wr_i (by omega) (by omega)).trans (by omega)
          have hS : spI V i (p + 1) s0 = spS V i p (spI V i p s0) := rfl
          have eV : V i p = if hdB M d (qW M d i p) = true then tmN (qW M d i p) k 600 else -1 := by rw [hV]
          have hVp := hVb i p
          unfold dh_span_b38
          rw [toNat_c, e2', hS]
          refine Tc_t (by omega) (Tc_f (by omega) (Tc_e e3 ?_))
          dsimp only
          generalize spI V i p s0 = t1 at *
          obtain ⟨k1, k2, k3, k4, k5, k6, k7⟩ := hok
          have tail : ∀ M4 : MEM, offL 224 M3 M4 → Tc (dh_span_j79_38 d k (spC t1).1 (spC t1).2 t1.2.2 i p (V i p) M4) (fun r => ∃ s', r = .inl s' ∧ (s'.1 = (spC (spS V i p t1)).1 ∧ s'.2.1 = (spC (spS V i p t1)).2 ∧ s'.2.2.1 = (spS V i p t1).2.2 ∧ s'.2.2.2.1 = ((p + 1 : Nat) : Int) ∧ cE M s'.2.2.2.2 ∧ offL 224 M s'.2.2.2.2)) := fun M4 o4 => by
            unfold dh_span_j79_38 dh_span_j102_38 dh_span_j115_38 spS
            rw [wp]
            by_cases v : V i p < 0
            · refine Tc_t v (Tc_inl ⟨?_, ?_, ?_, rfl, (q1.L o3).L o4, (q2.tr o3).tr o4⟩) <;> dsimp only <;> rw [if_pos v]
            · rw [wr_i (x := t1.2.2 + 1) (by omega) (by omega)]
              refine Tc_f v ?_
              by_cases z : t1.2.2 = 0
              · have e1 := k3 z
                refine Tc_t z (Tc_inl ⟨?_, ?_, ?_, rfl, (q1.L o3).L o4, (q2.tr o3).tr o4⟩)
                · dsimp only
                  rw [if_neg v]
                  unfold spC
                  dsimp only
                  rw [if_neg (by omega), e1]
                  dsimp only
                  omega
                · dsimp only
                  rw [if_neg v]
                  unfold spC
                  dsimp only
                  rw [if_pos z, if_neg (by omega), e1]
                  dsimp only
                  omega
                · dsimp only
                  rw [if_neg v]
              · refine Tc_f z (Tc_inl ⟨?_, ?_, ?_, rfl, (q1.L o3).L o4, (q2.tr o3).tr o4⟩)
                · dsimp only
                  rw [if_neg v]
                  unfold spC
                  dsimp only
                  rw [if_neg z, if_neg (by omega)]
                · dsimp only
                  rw [if_neg v]
                  unfold spC
                  dsimp only
                  rw [if_neg z, if_neg (by omega)]
                · dsimp only
                  rw [if_neg v]
          cases hh : hdB M d (qW M d i p) with
          | false =>
            rw [hh, if_neg (by decide)] at eV
            refine Tc_t (by simp) ?_
            rw [← eV]
            exact tail M3 offL.rf
          | true =>
            rw [hh, if_pos rfl] at eV
            obtain ⟨r, M4, j'', e4, o4, -, -, -, hr⟩ := after_eq (Or.inl rfl) s1 s2 nw.1 (by omega) hj hk.1 (by omega) f3
            have er : r = V i p := (tmN_eq s3 hk.1 hr).trans eV.symm
            refine Tc_f (by simp) (Tc_e e4 ?_)
            dsimp only
            rw [er]
            exact tail M4 o4.L
        · obtain ⟨y, y', y'', z, M2⟩ := s
          obtain ⟨rfl, rfl, rfl, rfl, q1, q2⟩ := hI
          have e2' : M2 (10 + 3 * d) 2 = (np : Int) := (rb q1 2).trans (d4.trans hnp)
          unfold dh_span_b38
          dsimp only
          rw [toNat_c]
          exact Tc_t (by omega) (Tc_t (by omega) (Tc_inr ⟨rfl, rfl, rfl, q1, q2⟩))
      have l1 : Tc (iter (fun s => dh_span_b28 d k s.1 s.2.1 s.2.2.1 s.2.2.2.1 s.2.2.2.2) FU (-1, -1, 0, 0, M)) (fun r => r.1 = (spC (spO V np 10)).1 ∧ r.2.1 = (spC (spO V np 10)).2 ∧ r.2.2.1 = (spO V np 10).2.2 ∧ offL 224 M r.2.2.2.2) := by
        refine Tc_n (fun i s => s.1 = (spC (spO V np i)).1 ∧ s.2.1 = (spC (spO V np i)).2 ∧ s.2.2.1 = (spO V np i).2.2 ∧ s.2.2.2.1 = (i : Int) ∧ cE M s.2.2.2.2 ∧ offL 224 M s.2.2.2.2) 10 ⟨rfl, rfl, rfl, rfl, cE.rf h, offL.rf⟩ (by omega) (fun i s hi hI => ?_) (fun s hI => ?_)
        · obtain ⟨y, y', y'', z, M1⟩ := s
          obtain ⟨rfl, rfl, rfl, rfl, q1, q2⟩ := hI
          dsimp only at q1 q2 ⊢
          have wi : wr ((i : Int) + 1) = ((i + 1 : Nat) : Int) := (wr_i (by omega) (by omega)).trans (by omega)
          unfold dh_span_b28
          refine Tc_f (by omega) (Tc_c (inner i _ M1 hi (spO_ok (fun a b => (hVb a b).2) hnp12 i) q1 q2) (fun r hr => ?_))
          rw [wi]
          exact Tc_inl ⟨hr.1, hr.2.1, hr.2.2.1, rfl, hr.2.2.2.1, hr.2.2.2.2⟩
        · obtain ⟨y, y', y'', z, M1⟩ := s
          obtain ⟨rfl, rfl, rfl, rfl, q1, q2⟩ := hI
          unfold dh_span_b28
          exact Tc_t (by show (10 : Int) ≤ ((10 : Nat) : Int); omega) (Tc_inr ⟨rfl, rfl, rfl, q2⟩)
      -- the reference
      have mo : ∀ M1 : MEM, chg [0, 10] M M1 → Tc (iter (fun s => mo_span_b38 d k s.1 s.2.1 s.2.2.1 s.2.2.2.1 s.2.2.2.2) FU (1000000, 0, 0, 0, M1)) (fun r => r.1 = (spO V np 10).1 ∧ r.2.1 = (spO V np 10).2.1 ∧ r.2.2.1 = (spO V np 10).2.2 ∧ chg [0] M1 r.2.2.2.2 ∧ moF M1 r.2.2.2.2) := fun M1 c1 => by
        have inner2 : ∀ (i : Nat) (s0 : Int × Int × Int) (M2 : MEM), i < 10 → spOk (12 * i) s0 → chg [0] M1 M2 → moF M1 M2 → Tc (iter (fun s => mo_span_b48 d k i s.1 s.2.1 s.2.2.1 s.2.2.2.1 s.2.2.2.2) FU (s0.1, s0.2.1, s0.2.2, 0, M2)) (fun r => r.1 = (spI V i np s0).1 ∧ r.2.1 = (spI V i np s0).2.1 ∧ r.2.2.1 = (spI V i np s0).2.2 ∧ chg [0] M1 r.2.2.2.2 ∧ moF M1 r.2.2.2.2) := fun i s0 M2 hi hs0 hc hm => by
          refine Tc_n (fun p s => s.1 = (spI V i p s0).1 ∧ s.2.1 = (spI V i p s0).2.1 ∧ s.2.2.1 = (spI V i p s0).2.2 ∧ s.2.2.2.1 = (p : Int) ∧ chg [0] M1 s.2.2.2.2 ∧ moF M1 s.2.2.2.2) np ⟨rfl, rfl, rfl, rfl, hc, hm⟩ (by omega) (fun p s hp hI => ?_) (fun s hI => ?_)
          · obtain ⟨y, y', y'', z, M3⟩ := s
            obtain ⟨rfl, rfl, rfl, rfl, q1, q2⟩ := hI
            dsimp only at q1 q2 ⊢
            have hok := spI_ok (fun a b => (hVb a b).2) (hu := i) hs0 p
            have cc := c1.tr (q1.sub (by decide))
            have e280 : M3 280 d = (np : Int) := by rw [cc 280 d (by decide : 12 ∉ [0, 10])]; exact hnp
            obtain ⟨s1, s2, s3⟩ := qW_ok (hu := (i : Int)) (pl := (p : Int)) h hB hd.2 (by omega) (by omega) (by omega) (by omega)
            obtain ⟨M4, e4, o4, o4', g3, g4⟩ := mo_way_eq (hu := (i : Int)) (pl := (p : Int)) h hB hd.2 (by omega) (by omega) (by omega) (by omega) cc
            have wp : wr ((p : Int) + 1) = ((p + 1 : Nat) : Int) := (wr_i (by omega) (by omega)).trans (by omega)
            have hS : spI V i (p + 1) s0 = spS V i p (spI V i p s0) := rfl
            have eV : V i p = if hdB M d (qW M d i p) = true then tmN (qW M d i p) k 600 else -1 := by rw [hV]
            have ht := tmN_times s3 hk.1 g3 g4
            unfold mo_span_b48 mo_span_j117_48
            rw [toNat_c, wp, hS]
            refine Tc_t (by omega) (Tc_f (by omega) (Tc_e e4 ?_))
            dsimp only
            generalize spI V i p s0 = t1 at *
            obtain ⟨k1, k2, k3, k4, k5, k6, k7⟩ := hok
            unfold spS
            cases hh : hdB M d (qW M d i p) with
            | false =>
              rw [hh, if_neg (by decide)] at eV
              refine Tc_t (by simp) (Tc_inl ⟨?_, ?_, ?_, rfl, q1.tr o4, q2.tr o4'⟩) <;> dsimp only <;> rw [if_pos (by omega)]
            | true =>
              rw [hh, if_pos rfl] at eV
              refine Tc_f (by simp) ?_
              rcases ht with ⟨z1, z2, z3, z4⟩ | ⟨z1, z2⟩
              · rw [wr_i (x := k - 1) (by omega) (by omega), wr_i (x := M4 293 (k - 1).toNat + 1) (by omega) (by omega), wr_i (x := t1.2.2 + 1) (by omega) (by omega), ← z2, ← eV]
                refine Tc_t z1 (Tc_t (by omega) (Tc_t (by omega) (Tc_inl ⟨?_, ?_, ?_, rfl, q1.tr o4, q2.tr o4'⟩))) <;> dsimp only <;> rw [if_neg (by omega)]
              · refine Tc_f (by omega) (Tc_inl ⟨?_, ?_, ?_, rfl, q1.tr o4, q2.tr o4'⟩) <;> dsimp only <;> rw [if_pos (by omega)]
          · obtain ⟨y, y', y'', z, M3⟩ := s
            obtain ⟨rfl, rfl, rfl, rfl, q1, q2⟩ := hI
            dsimp only at q1 q2
            have e280 : M3 280 d = (np : Int) := by rw [(c1.tr (q1.sub (by decide))) 280 d (by decide : 12 ∉ [0, 10])]; exact hnp
            unfold mo_span_b48
            dsimp only
            rw [toNat_c]
            exact Tc_t (by omega) (Tc_t (by omega) (Tc_inr ⟨rfl, rfl, rfl, q1, q2⟩))
        refine Tc_n (fun i s => s.1 = (spO V np i).1 ∧ s.2.1 = (spO V np i).2.1 ∧ s.2.2.1 = (spO V np i).2.2 ∧ s.2.2.2.1 = (i : Int) ∧ chg [0] M1 s.2.2.2.2 ∧ moF M1 s.2.2.2.2) 10 ⟨rfl, rfl, rfl, rfl, chg.rf, moF.rf⟩ (by omega) (fun i s hi hI => ?_) (fun s hI => ?_)
        · obtain ⟨y, y', y'', z, M2⟩ := s
          obtain ⟨rfl, rfl, rfl, rfl, q1, q2⟩ := hI
          dsimp only at q1 q2 ⊢
          have wi : wr ((i : Int) + 1) = ((i + 1 : Nat) : Int) := (wr_i (by omega) (by omega)).trans (by omega)
          unfold mo_span_b38
          refine Tc_f (by omega) (Tc_c (inner2 i _ M2 hi (spO_ok (fun a b => (hVb a b).2) hnp12 i) q1 q2) (fun r hr => ?_))
          rw [wi]
          exact Tc_inl ⟨hr.1, hr.2.1, hr.2.2.1, rfl, hr.2.2.2.1, hr.2.2.2.2⟩
        · obtain ⟨y, y', y'', z, M2⟩ := s
          obtain ⟨rfl, rfl, rfl, rfl, q1, q2⟩ := hI
          unfold mo_span_b38
          exact Tc_t (by show (10 : Int) ≤ ((10 : Nat) : Int); omega) (Tc_inr ⟨rfl, rfl, rfl, q1, q2⟩)
      obtain ⟨w1, e1, a1, a2, a3, y1⟩ := l1
      obtain ⟨b1, b2, b3, w1, M1⟩ := w1
      dsimp only at a1 a2 a3 y1
      subst a1 a2 a3
      refine Tc_e e1 ?_
      dsimp only
      have hok := spO_ok (fun a b => (hVb a b).2) hnp12 10
      obtain ⟨k1, k2, k3, k4, k5, k6, k7⟩ := hok
      by_cases z : (spO V np 10).2.2 = 0
      · refine Tc_t z (Tc_some ?_)
        dsimp only
        unfold mo_span
        have c4 : chg [0] M (up2 M1 278 13 0) := (y1.chg (Or.inl rfl)).up (by decide)
        refine Tc_u (Tc_f (by rw [moDonkey_y h.S (c4 278 1 (by decide)) hd]; decide) (Tc_f (by rw [moIn_y hk]; decide) ?_))
        rw [show (1000000 : Int) - 0 = 1000000 from rfl]
        refine Tc_c (mo _ (c4.sub (by decide))) (fun r hr => ?_)
        obtain ⟨r1, r2, r3, r4, r5⟩ := hr
        exact Tc_t (by omega) (Tc_some ⟨rfl, h.go0 (c4.tr r4)⟩)
      · refine Tc_f z ?_
        have eC : spC (spO V np 10) = ((spO V np 10).1, (spO V np 10).2.1) := by unfold spC; rw [if_neg z]
        rw [eC]
        obtain ⟨M2, n1, n2, n3⟩ := newRow_eq M1
        obtain ⟨M3, t1, t2, t3⟩ := tell_eq (spO V np 10).2.1 n2 (by simp)
        obtain ⟨M4, u1, u2, u3⟩ := tell_eq (spO V np 10).2.2 t2 (by simp)
        refine Tc_e n1 (Tc_e t1 (Tc_e u1 (Tc_some ?_)))
        dsimp only
        unfold mo_span
        have c4 : chg [0, 10] M (up2 M4 278 13 0) := (((y1.chg (Or.inl rfl)).sub (by decide)).tr ((n3.tr t3).tr u3).chg).up (by decide)
        refine Tc_u (Tc_f (by rw [moDonkey_y h.S (c4 278 1 (by decide)) hd]; decide) (Tc_f (by rw [moIn_y hk]; decide) ?_))
        rw [show (1000000 : Int) - 0 = 1000000 from rfl]
        refine Tc_c (mo _ c4) (fun r hr => ?_)
        obtain ⟨g1, g2, g3, g4, M5⟩ := r
        obtain ⟨r1, r2, r3, r4, r5⟩ := hr
        dsimp only at r1 r2 r3 r4 r5
        subst r1 r2 r3
        refine Tc_f z (Tc_u ?_)
        dsimp only
        obtain ⟨x1, x2⟩ := moRow0 M5
        obtain ⟨M6, v1, v2, v3⟩ := moTell_eq (spO V np 10).2.1 x1 (by simp)
        obtain ⟨M7, w1, w2, w3⟩ := moTell_eq (spO V np 10).2.2 v2 (by simp)
        exact Tc_e v1 (Tc_e w1 (Tc_some ⟨rfl, h.go10 ((c4.tr (r4.sub (by decide))).tr ((x2.tr v3).tr w3).chg) (u2.fin (((moF.up (by decide)).tr r5).tr ((x2.tr v3).tr w3).mo) w2 (by simp))⟩))
    · refine Tc_t (asked_n hk) (Tc_some ?_)
      unfold mo_span
      exact Tc_u (Tc_f (by rw [moDonkey_y h.S (c3 278 1 (by decide)) hd]; decide) (Tc_t (moIn_n hk) (Tc_some ⟨rfl, h.go0 c3⟩)))
  · refine Tc_t (isDonkey_n h.S.2.2.1 hd) (Tc_some ?_)
    unfold mo_span
    exact Tc_u (Tc_t (moDonkey_n h.S (c3 278 1 (by decide)) hd) (Tc_some ⟨rfl, h.go0 c3⟩))
end
section
-- ===== swarms =====
theorem envC_sw {M : MEM} {f : Int} (hf : 0 ≤ f) : envC 224 (up2 M 224 6 f) = (fun _ => f, (envC 224 M).2) := by
  have e1 : plC 5 (up2 M 224 6 f) = plC 5 M := plC_cg (fun q hq => up2_ne (by omega))
  have e2 : plC (224 + 1) (up2 M 224 6 f) = plC (224 + 1) M := plC_cg (fun q hq => up2_ne (by omega))
  unfold envC
  rw [e1, e2, rd_same, up2_ne (show (21 : Nat) ≠ 224 by decide), up2_ne (show (22 : Nat) ≠ 224 by decide)]
  congr 1
  funext m
  rw [if_pos hf]
theorem envM_sw {M : MEM} {f : Int} (hf : 0 ≤ f) : envM (up2 M 278 5 f) = (fun _ => f, (envM M).2) := by
  unfold envM
  have e1 : flM (up2 M 278 5 f) = fun _ => f := by
    funext m
    unfold flM
    rw [rd_same, if_neg (by omega)]
  have e2 : hrM (up2 M 278 5 f) = hrM M := by
    unfold hrM hrF
    rw [rd_k (by decide), rd_k (by decide), up2_ne (show (282 : Nat) ≠ 278 by decide)]
  rw [e1, e2, up2_ne (show (21 : Nat) ≠ 278 by decide), up2_ne (show (22 : Nat) ≠ 278 by decide)]
/-- all is as it was but for scratch and the FLIES that are asked for -/
def offA (M M1 : MEM) : Prop := ∀ a k, rg a k ≠ 0 → (a ≠ 278 ∨ k ≠ 5) → M1 a k = M a k
theorem offA.tr {M M1 M2 : MEM} (h : offA M M1) (g : chg [0] M1 M2) : offA M M2 := fun a k x y => (g a k (by simpa using x)).trans (h a k x y)
theorem offA.chg {M M1 : MEM} (h : offA M M1) : chg [0, 11] M M1 := fun a k n => by
  refine h a k (fun e => n (by rw [e]; decide)) ?_
  by_cases e : a = 278
  · subst e
    by_cases e2 : k = 5
    · subst e2; exact absurd (by decide) n
    · exact Or.inr e2
  · exact Or.inl e
theorem c_swarms {B : Int} {M : MEM} (h : Rel B M) (hB : B ≤ 100000000) : Lk B (dh_swarms M) mo_swarms := by
  have nw := now_in h
  have hN := h.S.2.2.1
  have hN0 := h.S.2.1
  obtain ⟨e0, e0O⟩ := env_0 h (f := 224) (Or.inl rfl)
  obtain ⟨W, hW⟩ : ∃ W : Nat → Nat → Nat → DS, W = fun f i : Nat => trajD (fun _ => (f : Int), (envM M).2) (M 280 i) i (M 3 3) (dsC (10 + 3 * i) M) := ⟨_, rfl⟩
  obtain ⟨P, hP⟩ : ∃ P : Nat → Bool, P = fun f => allN (fun i => hdB M i (W f i)) (M 3 2).toNat := ⟨_, rfl⟩
  unfold Lk dh_swarms
  have l1 : Tc (iter (fun s => dh_swarms_b4 s.1 s.2.1 s.2.2) FU (0, 0, M)) (fun r => r.1 = bitsO P 10 ∧ offL 224 M r.2.2) := by
    refine Tc_n (fun f s => s.1 = bitsO P f ∧ s.2.1 = (f : Int) ∧ offL 224 M s.2.2) 10 ⟨rfl, rfl, offL.rf⟩ (by omega) (fun f s hf hI => ?_) (fun s hI => ?_)
    · obtain ⟨y, z, M1⟩ := s
      obtain ⟨rfl, rfl, q1⟩ := hI
      dsimp only at q1 ⊢
      have wf : wr ((f : Int) + 1) = ((f + 1 : Nat) : Int) := (wr_i (by omega) (by omega)).trans (by omega)
      have eF : envC 224 (up2 M1 224 6 (f : Int)) = (fun _ => (f : Int), (envM M).2) := by rw [envC_sw (by omega), q1.env (Or.inl rfl), e0]
      have eFO : eOk 224 (up2 M1 224 6 (f : Int)) := eOk_cells (fun c hc => up2_ne (by omega)) (rd_a (by decide)) (q1.eOk (Or.inl rfl) e0O)
      have cF : chg [0, 10, 11] M (up2 M1 224 6 (f : Int)) := ((q1.chg (Or.inl rfl)).sub (by decide) : chg [0, 10, 11] M M1).up (by decide)
      have inner : Tc (iter (fun s => dh_swarms_b23 (bitsO P f) f s.1 s.2.1 s.2.2) FU (1, 0, up2 M1 224 6 (f : Int))) (fun r => r.1 = (if P f = true then 1 else 0) ∧ offL 224 (up2 M1 224 6 (f : Int)) r.2.2) := by
        refine Tc_l (fun i s => s.1 = (if allN (fun i => hdB M i (W f i)) i = true then 1 else 0) ∧ s.2.1 = (i : Int) ∧ offL 224 (up2 M1 224 6 (f : Int)) s.2.2) _ (M 3 2).toNat ⟨rfl, rfl, offL.rf⟩ (by omega) (fun i s hi hI => ?_) (fun s hI => ?_)
        · obtain ⟨y, z, M2⟩ := s
          obtain ⟨rfl, rfl, q2⟩ := hI
          dsimp only at q2 ⊢
          have cc : chg [0, 10, 11] M M2 := cF.tr ((q2.chg (Or.inl rfl)).sub (by decide))
          have e32 : M2 3 2 = M 3 2 := cc 3 2 (by decide)
          have wi : wr ((i : Int) + 1) = ((i + 1 : Nat) : Int) := (wr_i (by omega) (by omega)).trans (by omega)
          unfold dh_swarms_b23
          refine Tc_f (by omega) ?_
          cases hA : allN (fun i => hdB M i (W f i)) i with
          | false =>
            refine Tc_t (by simp) (Tc_inrR ⟨?_, q2⟩)
            have : P f = false := by
              rw [hP]
              dsimp only
              have mono : ∀ n, i ≤ n → allN (fun i => hdB M i (W f i)) n = false := by
                intro n hn
                induction n with
                | zero => have : i = 0 := by omega
                          subst this; exact hA
                | succ n ih =>
                  by_cases e : i = n + 1
                  · subst e; exact hA
                  · rw [allN_S, ih (by omega), Bool.false_and]
              exact mono _ (by omega)
            rw [this]
            try rfl
          | true =>
            refine Tc_f (by simp) ?_
            obtain ⟨d1, d2, -, -⟩ := dnk h hB (show (i : Int) < M 3 2 by omega)
            obtain ⟨M3, e3, o3, f3⟩ := q_lookE (d := i) h (Or.inl rfl) (by omega) hB cc ((q2.env (Or.inl rfl)).trans eF) (q2.eOk (Or.inl rfl) eFO)
            obtain ⟨M4, j', e4, o4, -, -⟩ := fit_eq (M0 := M) h.H d1 d2 nw.1 (by omega) (fun M' o => by
              have c4 : chg [0, 10, 11] M M' := (cc.tr ((o3.chg (Or.inl rfl)).sub (by decide))).tr ((o.L.chg (Or.inl rfl)).sub (by decide))
              exact ⟨c4 41 3 (by decide), c4.row (fun k => (by decide : 7 ∉ [0, 10, 11])), c4.row (fun k => (by decide : 7 ∉ [0, 10, 11])), c4.row (fun k => (by decide : 7 ∉ [0, 10, 11]))⟩) f3
            refine Tc_e e3 (Tc_e e4 (Tc_inlL ⟨?_, wi, (q2.tr o3).tr o4.L⟩))
            dsimp only
            rw [allN_S, hA, Bool.true_and, hW]
        · obtain ⟨y, z, M2⟩ := s
          obtain ⟨rfl, rfl, q2⟩ := hI
          dsimp only at q2
          have cc : chg [0, 10, 11] M M2 := cF.tr ((q2.chg (Or.inl rfl)).sub (by decide))
          have e32 : M2 3 2 = M 3 2 := cc 3 2 (by decide)
          unfold dh_swarms_b23
          refine Tc_t (by show M2 3 2 ≤ (((M 3 2).toNat : Nat) : Int); omega) (Tc_inr ⟨?_, q2⟩)
          rw [hP]
      unfold dh_swarms_b4
      refine Tc_f (by omega) (Tc_u (Tc_c inner (fun r hr => ?_)))
      obtain ⟨v, w, M2⟩ := r
      obtain ⟨rfl, q2⟩ := hr
      dsimp only at q2 ⊢
      unfold dh_swarms_j67_4 dh_swarms_j85_4
      rw [wf, Option.bind_some]
      have oE : offL 224 M (up2 M2 224 6 (-1)) := by
        refine ⟨fun c a1 a2 a3 a4 a5 a6 a7 => ?_, fun k hk => ?_, fun k hk => ?_⟩
        · rw [up2_ne a1, q2.1 c a1 a2 a3 a4 a5 a6 a7, up2_ne a1]; exact q1.1 c a1 a2 a3 a4 a5 a6 a7
        · by_cases e : k = 6
          · subst e
            rw [rd_same]; exact h.N.1.symm
          · rw [rd_k e, q2.2.1 k hk, rd_k e]; exact q1.2.1 k hk
        · rw [rd_a (by decide), q2.2.2 k hk, rd_a (by decide)]; exact q1.2.2 k hk
      rw [bitsO_S]
      cases hPf : P f with
      | true => exact Tc_f (by simp) (Tc_inl ⟨by rw [if_pos rfl], rfl, oE⟩)
      | false => exact Tc_t (by simp) (Tc_inl ⟨by rw [if_neg (by decide)], rfl, oE⟩)
    · obtain ⟨y, z, M1⟩ := s
      obtain ⟨rfl, rfl, q1⟩ := hI
      unfold dh_swarms_b4
      exact Tc_t (by show (10 : Int) ≤ ((10 : Nat) : Int); omega) (Tc_inr ⟨rfl, q1⟩)
  refine Tc_c l1 (fun r hr => ?_)
  obtain ⟨bt, v, M1⟩ := r
  obtain ⟨rfl, o1⟩ := hr
  dsimp only at o1 ⊢
  refine Tc_some ?_
  dsimp only
  have c1 : chg [0] M (up2 M1 278 13 0) := (o1.chg (Or.inl rfl)).up (by decide)
  unfold mo_swarms
  refine Tc_u ?_
  generalize hM2 : up2 M1 278 13 0 = M2 at *
  have hC7 := h.C.2.2.1
  have h8 := h.N.2.2.2.2.2.1
  have hem : emOk M := em_of h.F h.C (th0 (Or.inl rfl) h.N)
  have l2 : Tc (iter (fun s => mo_swarms_b9 s.1 s.2.1 s.2.2) FU (0, 0, M2)) (fun r => r.1 = bitsO P 10 ∧ offA M2 r.2.2) := by
    refine Tc_n (fun f s => s.1 = bitsO P f ∧ s.2.1 = (f : Int) ∧ offA M2 s.2.2) 10 ⟨rfl, rfl, fun _ _ _ _ => rfl⟩ (by omega) (fun f s hf hI => ?_) (fun s hI => ?_)
    · obtain ⟨y, z, M3⟩ := s
      obtain ⟨rfl, rfl, q1⟩ := hI
      dsimp only at q1 ⊢
      have wf : wr ((f : Int) + 1) = ((f + 1 : Nat) : Int) := (wr_i (by omega) (by omega)).trans (by omega)
      have c3 : chg [0, 11] M M3 := (c1.sub (by decide)).tr q1.chg
      -- pull and rule are as in M
      have e2M : (envM M3).2 = (envM M).2 := by
        have hb : envM (up2 M3 278 5 (-1)) = envM M := chg_env (L := [0]) (M := M) (fun a k hn => by
          by_cases e : a = 278 ∧ k = 5
          · obtain ⟨rfl, rfl⟩ := e
            rw [rd_same]; exact h.N.2.2.2.2.1.symm
          · have hne : a ≠ 278 ∨ k ≠ 5 := by omega
            have : up2 M3 278 5 (-1) a k = M3 a k := by
              rcases hne with z | z
              · exact rd_a z
              · exact rd_k z
            rw [this, q1 a k (by simpa using hn) hne]
            exact c1 a k hn) (by decide) (by decide) (by decide) (by decide) h8 hC7
        have : (envM (up2 M3 278 5 (-1))).2 = (envM M3).2 := by
          unfold envM
          have e2 : hrM (up2 M3 278 5 (-1)) = hrM M3 := by
            unfold hrM hrF
            rw [rd_k (by decide), rd_k (by decide), up2_ne (show (282 : Nat) ≠ 278 by decide)]
          rw [e2, up2_ne (show (21 : Nat) ≠ 278 by decide), up2_ne (show (22 : Nat) ≠ 278 by decide)]
        rw [← this, hb]
      have eF : envM (up2 M3 278 5 (f : Int)) = (fun _ => (f : Int), (envM M).2) := by rw [envM_sw (by omega), e2M]
      have hemF : emOk (up2 M3 278 5 (f : Int)) := by
        have g8 : M3 278 8 = M 278 8 := (q1 278 8 (by decide) (Or.inr (by decide))).trans (c1 278 8 (by decide))
        have g7 : M3 278 7 = M 278 7 := (q1 278 7 (by decide) (Or.inr (by decide))).trans (c1 278 7 (by decide))
        have g4 : M3 278 4 = M 278 4 := (q1 278 4 (by decide) (Or.inr (by decide))).trans (c1 278 4 (by decide))
        unfold emOk howOkM at *
        rw [rd_k (by decide), rd_k (by decide), rd_k (by decide), up2_ne (show (282 : Nat) ≠ 278 by decide), g8, g7, g4]
        refine ⟨hem.1, hem.2.1, hem.2.2.1, fun i hi => ?_⟩
        rw [c3 282 _ (by rw [rg_car (by omega)]; decide)]
        exact hem.2.2.2 i hi
      have cF : chg [0, 10, 11] M (up2 M3 278 5 (f : Int)) := (c3.sub (by decide) : chg [0, 10, 11] M M3).up (by decide)
      have inner : Tc (iter (fun s => mo_swarms_b25 (bitsO P f) f s.1 s.2.1 s.2.2) FU (1, 0, up2 M3 278 5 (f : Int))) (fun r => r.1 = (if P f = true then 1 else 0) ∧ offQ (up2 M3 278 5 (f : Int)) r.2.2) := by
        refine Tc_l (fun i s => s.1 = (if allN (fun i => hdB M i (W f i)) i = true then 1 else 0) ∧ s.2.1 = (i : Int) ∧ offQ (up2 M3 278 5 (f : Int)) s.2.2) _ (M 3 2).toNat ⟨rfl, rfl, offQ.rf⟩ (by omega) (fun i s hi hI => ?_) (fun s hI => ?_)
        · obtain ⟨y, z, M4⟩ := s
          obtain ⟨rfl, rfl, q2⟩ := hI
          dsimp only at q2 ⊢
          have cc : chg [0, 10, 11] M M4 := cF.tr (q2.chg.sub (by decide))
          have e1 : M4 278 1 = M 3 2 := (cc 278 1 (by decide)).trans h.S.1
          have wi : wr ((i : Int) + 1) = ((i + 1 : Nat) : Int) := (wr_i (by omega) (by omega)).trans (by omega)
          unfold mo_swarms_b25
          refine Tc_f (by omega) ?_
          cases hA : allN (fun i => hdB M i (W f i)) i with
          | false =>
            refine Tc_t (by simp) (Tc_inrR ⟨?_, q2⟩)
            have : P f = false := by
              rw [hP]
              dsimp only
              have mono : ∀ n, i ≤ n → allN (fun i => hdB M i (W f i)) n = false := by
                intro n hn
                induction n with
                | zero => have : i = 0 := by omega
                          subst this; exact hA
                | succ n ih =>
                  by_cases e : i = n + 1
                  · subst e; exact hA
                  · rw [allN_S, ih (by omega), Bool.false_and]
              exact mono _ (by omega)
            rw [this]
            try rfl
          | true =>
            refine Tc_f (by simp) ?_
            obtain ⟨d1, d2, -, -⟩ := dnk h hB (show (i : Int) < M 3 2 by omega)
            obtain ⟨M5, e5, o5, -, -, tO, tA⟩ := q_thenE h hB cc (q2.env.trans eF) (q2.em hemF)
            obtain ⟨M6, e6, o6, f6, g6⟩ := find_times (d := i) tO (by omega) tA
            have hst : stk (W f i) 1000000 := by rw [hW]; exact traj_stk (fun g => codeV_in _ _ _) d1 (by omega)
            have eW : trajD (fun _ => (f : Int), (envM M).2) (M 280 i) i (M 3 3) (dsC (10 + 3 * i) M) = W f i := by rw [hW]
            rw [eW] at f6 g6
            have c6 : chg [0, 10, 11] M M6 := cc.tr ((o5.tr o6).chg.sub (by decide))
            have et : mo_timesNow i M4 = some M6 := by
              unfold mo_timesNow
              rw [e5, Option.bind_some, e6, Option.bind_some]
            refine Tc_e et (Tc_e (mo_isHeard_eq (M0 := M) h.H hst (c6 278 49 (by decide)) (c6.row (fun k => (by decide : 7 ∉ [0, 10, 11]))) f6 g6) (Tc_inlL ⟨?_, wi, (q2.tr o5).tr o6⟩))
            dsimp only
            rw [allN_S, hA, Bool.true_and]
        · obtain ⟨y, z, M4⟩ := s
          obtain ⟨rfl, rfl, q2⟩ := hI
          dsimp only at q2
          have cc : chg [0, 10, 11] M M4 := cF.tr (q2.chg.sub (by decide))
          have e1 : M4 278 1 = M 3 2 := (cc 278 1 (by decide)).trans h.S.1
          unfold mo_swarms_b25
          refine Tc_t (by show M4 278 1 ≤ (((M 3 2).toNat : Nat) : Int); omega) (Tc_inr ⟨?_, q2⟩)
          rw [hP]
      unfold mo_swarms_b9
      refine Tc_f (by omega) (Tc_u (Tc_c inner (fun r hr => ?_)))
      obtain ⟨v, w, M4⟩ := r
      obtain ⟨rfl, q2⟩ := hr
      dsimp only at q2 ⊢
      unfold mo_swarms_j57_9 mo_swarms_j69_9
      rw [wf]
      have oF : offA M2 (up2 M3 278 5 (f : Int)) := fun a k x y => by
        have : up2 M3 278 5 (f : Int) a k = M3 a k := by
          rcases y with z | z
          · exact rd_a z
          · exact rd_k z
        rw [this]
        exact q1 a k x y
      have oE : offA M2 M4 := oF.tr q2.chg
      rw [bitsO_S]
      cases hPf : P f with
      | true => exact Tc_f (by simp) (Tc_inl ⟨by rw [if_pos rfl], rfl, oE⟩)
      | false => exact Tc_t (by simp) (Tc_inl ⟨by rw [if_neg (by decide)]; exact or_z (bitsO_in _ _), rfl, oE⟩)
    · obtain ⟨y, z, M3⟩ := s
      obtain ⟨rfl, rfl, q1⟩ := hI
      unfold mo_swarms_b9
      exact Tc_t (by show (10 : Int) ≤ ((10 : Nat) : Int); omega) (Tc_inr ⟨rfl, q1⟩)
  refine Tc_c l2 (fun r hr => ?_)
  obtain ⟨bt, v, M3⟩ := r
  obtain ⟨rfl, o3⟩ := hr
  dsimp only at o3 ⊢
  refine Tc_u (Tc_some ⟨rfl, h.go0 (fun a k hn => ?_)⟩)
  dsimp only
  by_cases e : a = 278 ∧ k = 5
  · obtain ⟨rfl, rfl⟩ := e
    rw [rd_same]; exact h.N.2.2.2.2.1.symm
  · have hne : a ≠ 278 ∨ k ≠ 5 := by omega
    have : up2 M3 278 5 (-1) a k = M3 a k := by
      rcases hne with z | z
      · exact rd_a z
      · exact rd_k z
    rw [this, o3 a k (by simpa using hn) hne]
    exact c1 a k hn
end
section
-- ===== plant, egg =====
def sTh (s : DS) (p : Nat) (v : Int) : DS := (s.1, s.2.1, s.2.2.1, up1 s.2.2.2 p v)
theorem sTh_ok {n v : Int} {p : Nat} {s : DS} (hs : okD n s) (h0 : 0 ≤ v) (h9 : v ≤ 9) : okD n (sTh s p v) := by
  obtain ⟨q1, q2, q3, q4, q5, q6, q7, q8, q9⟩ := hs
  refine ⟨q1, q2, q3, q4, q5, q6, q7, q8, fun q hq => ?_⟩
  show 0 ≤ up1 s.2.2.2 p v q ∧ up1 s.2.2.2 p v q ≤ 9
  rw [up1_at]
  split
  · exact ⟨h0, h9⟩
  · exact q9 q hq
/-- the place of the latest, and how late -/
def pnN (V : Nat → Int) : Nat → Int × Int
  | 0 => (0, -1)
  | i + 1 => if V i ≤ (pnN V i).2 then pnN V i else ((i : Int), V i)
theorem pnN_S (V : Nat → Int) (i : Nat) : pnN V (i + 1) = if V i ≤ (pnN V i).2 then pnN V i else ((i : Int), V i) := rfl
theorem c_plant {B : Int} {M : MEM} (h : Rel B M) (hB : B ≤ 100000000) (x n k : Int) : Lk B (dh_plant x n k M) (mo_plant x n k) := by
  have nw := now_in h
  have c3 : chg [0] M (up2 M 278 13 0) := chg.rf.up (by decide)
  unfold Lk dh_plant
  by_cases hd : 0 ≤ x ∧ x < M 3 2
  · have hN := h.S.2.2.1
    refine Tc_f (by rw [isDonkey_y h.S.2.2.1 hd.1 hd.2]; decide) ?_
    by_cases hn : 1 ≤ n ∧ n ≤ 9
    · refine Tc_f (by omega) (Tc_f (by omega) ?_)
      by_cases hk : 1 ≤ k ∧ k ≤ 60
      · refine Tc_f (by rw [asked_y hk]; decide) ?_
        obtain ⟨d, rfl⟩ : ∃ d : Nat, x = (d : Int) := ⟨x.toNat, by omega⟩
        obtain ⟨d1, d2, d3, d4⟩ := dnk h hB hd.2
        obtain ⟨np, hnp⟩ : ∃ np : Nat, M 280 d = (np : Int) := ⟨(M 280 d).toNat, by have := d1.1; omega⟩
        have hnp12 : np ≤ 12 := by have := d1.2.1; omega
        have hnp4 : 4 ≤ np := by have := d1.1; omega
        have hth : ∀ p : Nat, p < np → 0 ≤ (dsC (10 + 3 * d) M).2.2.2 p ∧ (dsC (10 + 3 * d) M).2.2.2 p ≤ 9 := fun p hp => d1.2.2.2.2.2.2.2.2 p (by omega)
        obtain ⟨S, hS⟩ : ∃ S : Nat → DS, S = fun p => sTh (dsC (10 + 3 * d) M) p (min 9 ((dsC (10 + 3 * d) M).2.2.2 p + n)) := ⟨_, rfl⟩
        have hSo : ∀ p, p < np → okD (M 280 d) (S p) := fun p hp => by
          have := hth p hp
          rw [hS]; exact sTh_ok d1 (by omega) (by omega)
        have hSk : ∀ p, (S p).2.2.1 ≤ 100000000 := fun p => by rw [hS]; exact d2
        obtain ⟨V, hV⟩ : ∃ V : Nat → Int, V = fun p => if 0 ≤ tmN (qS M d (S p)) k 600 then tmN (qS M d (S p)) k 600 else 601 := ⟨_, rfl⟩
        have rb : ∀ {M1 : MEM}, cE M M1 → ∀ k, M1 (10 + 3 * d) k = M (10 + 3 * d) k := fun {M1} c k => c.1 _ _ (by rcases rg_D12 (a := 10 + 3 * d) (k := k) (by omega) (by omega) with q | q <;> rw [q] <;> decide)
        have hV0 : ∀ p, 0 ≤ V p ∧ V p ≤ 601 := fun p => by
          have := tmN_le (qS M d (S p)) k 600
          rw [hV]; dsimp only; split <;> omega
        have l1 : Tc (iter (fun s => dh_plant_b37 d n k s.1 s.2.1 s.2.2.1 s.2.2.2) FU (0, -1, 0, M)) (fun r => r.1 = (pnN V np).1 ∧ r.2.1 = (pnN V np).2 ∧ offL 224 M r.2.2.2) := by
          refine Tc_n (fun p s => s.1 = (pnN V p).1 ∧ s.2.1 = (pnN V p).2 ∧ s.2.2.1 = (p : Int) ∧ cE M s.2.2.2 ∧ offL 224 M s.2.2.2) np ⟨rfl, rfl, rfl, cE.rf h, offL.rf⟩ (by omega) (fun p s hp hI => ?_) (fun s hI => ?_)
          · obtain ⟨y, y', z, M1⟩ := s
            obtain ⟨rfl, rfl, rfl, q1, q2⟩ := hI
            dsimp only at q1 q2 ⊢
            have e2' : M1 (10 + 3 * d) 2 = (np : Int) := (rb q1 2).trans (d4.trans hnp)
            have wp : wr ((p : Int) + 1) = ((p + 1 : Nat) : Int) := (wr_i (by omega) (by omega)).trans (by omega)
            obtain ⟨M2, e2, o2, f2⟩ := q_lookE (e := envM M) h (Or.inl rfl) hd.2 hB (q1.1.sub (by decide)) (q1.2.1.trans (env_0 h (Or.inl rfl)).1) q1.2.2
            have hthp := hth p hp
            have e231 : M2 231 p = (dsC (10 + 3 * d) M).2.2.2 p := (f2.2.2.2.1.2.2.2 p (by omega)).symm
            have et : be_thistlesOn 230 (p : Int) M2 = some ((dsC (10 + 3 * d) M).2.2.2 p) := by
              unfold be_thistlesOn
              rw [if_neg (by omega), if_neg (by omega), if_pos (by omega), toNat_c, ← e231]
            have ep : be_put 230 (p : Int) (min 9 ((dsC (10 + 3 * d) M).2.2.2 p + n)) M2 = some (up2 M2 231 p (min 9 ((dsC (10 + 3 * d) M).2.2.2 p + n))) := by
              unfold be_put
              rw [if_neg (by omega), if_neg (by omega), if_pos (by omega), toNat_c]
              rfl
            have f3 := f2.mod (s' := S p) (M' := up2 M2 231 p (min 9 ((dsC (10 + 3 * d) M).2.2.2 p + n))) (Or.inl rfl) (fun c _ hc => up2_ne hc) (rd_a (by decide)) (by
              have q := f2.2.2.2.1
              rw [hS]
              refine ⟨?_, ?_, ?_, fun p' hp' => ?_⟩
              · show _ = up2 M2 231 p (min 9 ((dsC (10 + 3 * d) M).2.2.2 p + n)) 230 3
                rw [rd_a (by decide)]; exact q.1
              · show _ = up2 M2 231 p (min 9 ((dsC (10 + 3 * d) M).2.2.2 p + n)) 230 4
                rw [rd_a (by decide)]; exact q.2.1
              · show _ = up2 M2 231 p (min 9 ((dsC (10 + 3 * d) M).2.2.2 p + n)) 230 5
                rw [rd_a (by decide)]; exact q.2.2.1
              · show up1 (dsC (10 + 3 * d) M).2.2.2 p (min 9 ((dsC (10 + 3 * d) M).2.2.2 p + n)) p' = up2 M2 231 p (min 9 ((dsC (10 + 3 * d) M).2.2.2 p + n)) 231 p'
                rw [up1_at]
                by_cases e : p' = p
                · subst e
                  rw [if_pos rfl, rd_same]
                · rw [if_neg e, rd_k e]
                  exact q.2.2.2 p' hp')
            obtain ⟨r, M3, j', e3, o3, -, -, -, hr⟩ := after_eq (Or.inl rfl) (hSo p hp) (hSk p) nw.1 (by omega) (by omega) hk.1 (by omega) f3
            have er : r = tmN (qS M d (S p)) k 600 := tmN_eq (qS_stk (hSo p hp) (hSk p)) hk.1 hr
            have oh : offL 224 M2 (up2 M2 231 p (min 9 ((dsC (10 + 3 * d) M).2.2.2 p + n))) := ⟨fun c _ _ x _ _ _ _ => up2_ne x, fun k _ => rd_a (by decide), fun k _ => rd_a (by decide)⟩
            unfold dh_plant_b37
            rw [toNat_c]
            refine Tc_t (by omega) (Tc_f (by omega) (Tc_e e2 (Tc_e et ?_)))
            rw [wr_i (x := (dsC (10 + 3 * d) M).2.2.2 p + n) (by omega) (by omega)]
            refine Tc_e ep (Tc_e e3 ?_)
            dsimp only
            have tail : Tc (dh_plant_j117_37 d n k (pnN V p).1 (pnN V p).2 p (V p) M3) (fun r => ∃ s', r = .inl s' ∧ s'.1 = (pnN V (p + 1)).1 ∧ s'.2.1 = (pnN V (p + 1)).2 ∧ s'.2.2.1 = ((p + 1 : Nat) : Int) ∧ cE M s'.2.2.2 ∧ offL 224 M s'.2.2.2) := by
              unfold dh_plant_j117_37 dh_plant_j134_37
              rw [wp, pnN_S]
              have cM := ((q1.L o2).L oh).L o3.L
              have oM := ((q2.tr o2).tr oh).tr o3.L
              refine Tc_i (fun c => Tc_inl ⟨?_, ?_, rfl, cM, oM⟩) (fun c => Tc_inl ⟨?_, ?_, rfl, cM, oM⟩) <;> dsimp only
              · rw [if_pos c]
              · rw [if_pos c]
              · rw [if_neg c]
              · rw [if_neg c]
            have eVp : V p = if 0 ≤ tmN (qS M d (S p)) k 600 then tmN (qS M d (S p)) k 600 else 601 := by rw [hV]
            rw [← er] at eVp
            by_cases c : 0 ≤ r
            · refine Tc_t c ?_
              rw [if_pos c] at eVp
              rw [← eVp]; exact tail
            · refine Tc_f c ?_
              rw [if_neg c] at eVp
              rw [← eVp]; exact tail
          · obtain ⟨y, y', z, M1⟩ := s
            obtain ⟨rfl, rfl, rfl, q1, q2⟩ := hI
            have e2' : M1 (10 + 3 * d) 2 = (np : Int) := (rb q1 2).trans (d4.trans hnp)
            unfold dh_plant_b37
            dsimp only
            rw [toNat_c]
            exact Tc_t (by omega) (Tc_t (by omega) (Tc_inr ⟨rfl, rfl, q2⟩))
        obtain ⟨w1, e1, a1, a2, y1⟩ := l1
        obtain ⟨b1, b2, w1, M1⟩ := w1
        dsimp only at a1 a2 y1
        subst a1 a2
        refine Tc_e e1 ?_
        dsimp only
        obtain ⟨M2, n1, n2, n3⟩ := newRow_eq M1
        refine Tc_e n1 ?_
        have mo : ∀ M3 : MEM, chg [0, 10] M M3 → Tc (mo_plant d n k M3) (fun q => q.1 = (pnN V np).1 ∧ rowM [if (pnN V np).2 = 601 then -1 else (pnN V np).2] q.2 ∧ moF M3 q.2 ∧ chg [0, 10] M q.2) := fun M3 c3 => by
          unfold mo_plant
          have c4 : chg [0, 10] M (up2 M3 278 13 0) := c3.up (by decide)
          refine Tc_u (Tc_f (by rw [moDonkey_y h.S (c4 278 1 (by decide)) hd]; decide) (Tc_f (by rw [moIn_y hn]; decide) (Tc_f (by rw [moIn_y hk]; decide) ?_)))
          have l2 : Tc (iter (fun s => mo_plant_b44 d n k s.1 s.2.1 s.2.2.1 s.2.2.2) FU (-1, 0, 0, up2 M3 278 13 0)) (fun r => r.1 = (pnN V np).1 ∧ r.2.1 = (pnN V np).2 ∧ chg [0] (up2 M3 278 13 0) r.2.2.2 ∧ moF (up2 M3 278 13 0) r.2.2.2) := by
            refine Tc_n (fun p s => s.1 = (if p = 0 then -1 else (pnN V p).1) ∧ s.2.1 = (if p = 0 then 0 else (pnN V p).2) ∧ s.2.2.1 = (p : Int) ∧ chg [0] (up2 M3 278 13 0) s.2.2.2 ∧ moF (up2 M3 278 13 0) s.2.2.2 ∧ (p ≠ 0 → 0 ≤ (pnN V p).1)) np ⟨rfl, rfl, rfl, chg.rf, moF.rf, fun q => absurd rfl q⟩ (by omega) (fun p s hp hI => ?_) (fun s hI => ?_)
            · obtain ⟨y, y', z, M4⟩ := s
              obtain ⟨rfl, rfl, rfl, q1, q2, q3⟩ := hI
              dsimp only at q1 q2 ⊢
              have cM4 := c4.tr (q1.sub (by decide))
              have e280 : M4 280 d = (np : Int) := by rw [cM4 280 d (by decide : 12 ∉ [0, 10])]; exact hnp
              have wp : wr ((p : Int) + 1) = ((p + 1 : Nat) : Int) := (wr_i (by omega) (by omega)).trans (by omega)
              obtain ⟨M5, e5, o5, o5', o5'', tO, tA⟩ := q_then h hB cM4
              have hthp := hth p hp
              have eth : M5 292 (55 * d + 3 + p) = (dsC (10 + 3 * d) M).2.2.2 p := ((tA.2.2.2.2.2.2 d (by omega)).2.2.2 p (by show (p : Int) < M 280 d; omega)).symm
              have wi : wr (wr (wr (55 * (d : Int)) + 3) + (p : Int)) = ((55 * d + 3 + p : Nat) : Int) := by rw [w55 (by omega), wr_i (x := ((55 * d : Nat) : Int) + 3) (by omega) (by omega), wr_i (by omega) (by omega)]; omega
              have tA' := tA.mod (d := d) (s' := S p) (M' := up2 M5 292 (55 * d + 3 + p) (min 9 ((dsC (10 + 3 * d) M).2.2.2 p + n))) tO.1 (fun d hd => (tO.2.2.2 d hd).1.2.1) (fun c hc => up2_ne hc) (fun k hk => rd_k (by omega)) (by omega) (by
                have q := tA.2.2.2.2.2.2 d (by omega)
                rw [hS]
                refine ⟨?_, ?_, ?_, fun p' hp' => ?_⟩
                · show _ = up2 M5 292 (55 * d + 3 + p) (min 9 ((dsC (10 + 3 * d) M).2.2.2 p + n)) 292 (55 * d + 1)
                  rw [rd_k (by omega)]; exact q.1
                · show _ = up2 M5 292 (55 * d + 3 + p) (min 9 ((dsC (10 + 3 * d) M).2.2.2 p + n)) 292 (55 * d)
                  rw [rd_k (by omega)]; exact q.2.1
                · show _ = up2 M5 292 (55 * d + 3 + p) (min 9 ((dsC (10 + 3 * d) M).2.2.2 p + n)) 292 (55 * d + 2)
                  rw [rd_k (by omega)]; exact q.2.2.1
                · show up1 (dsC (10 + 3 * d) M).2.2.2 p (min 9 ((dsC (10 + 3 * d) M).2.2.2 p + n)) p' = up2 M5 292 (55 * d + 3 + p) (min 9 ((dsC (10 + 3 * d) M).2.2.2 p + n)) 292 (55 * d + 3 + p')
                  rw [up1_at]
                  by_cases e : p' = p
                  · subst e
                    rw [if_pos rfl, rd_same]
                  · rw [if_neg e, rd_k (by omega)]
                    exact q.2.2.2 p' hp')
              obtain ⟨M6, e6, o6, f6, g6⟩ := find_times (d := d) (tO.mod (d := d) (hSo p hp) (hSk p)) (by omega) tA'
              rw [updS_same] at f6 g6
              have ht := tmN_times (T := qS M d (S p)) (qS_stk (hSo p hp) (hSk p)) hk.1 f6 g6
              have cu : chg [0] M5 (up2 M5 292 (55 * d + 3 + p) (min 9 ((dsC (10 + 3 * d) M).2.2.2 p + n))) := chg.up (show rg 292 _ ∈ [0] from List.mem_singleton.mpr rfl) chg.rf
              have cM6 : chg [0] (up2 M3 278 13 0) M6 := (q1.tr o5.chg).tr (cu.tr o6.chg)
              have mM6 : moF (up2 M3 278 13 0) M6 := (q2.tr o5.mo).tr ((moF.up (by decide)).tr o6.mo)
              have eVp : V p = if 0 ≤ tmN (qS M d (S p)) k 600 then tmN (qS M d (S p)) k 600 else 601 := by rw [hV]
              have tail : Tc (mo_plant_j120_44 d n k (if p = 0 then -1 else (pnN V p).1) (if p = 0 then 0 else (pnN V p).2) p (V p) M6) (fun r => ∃ s', r = .inl s' ∧ s'.1 = (if p + 1 = 0 then -1 else (pnN V (p + 1)).1) ∧ s'.2.1 = (if p + 1 = 0 then 0 else (pnN V (p + 1)).2) ∧ s'.2.2.1 = ((p + 1 : Nat) : Int) ∧ chg [0] (up2 M3 278 13 0) s'.2.2.2 ∧ moF (up2 M3 278 13 0) s'.2.2.2 ∧ (p + 1 ≠ 0 → 0 ≤ (pnN V (p + 1)).1)) := by
                have hv := hV0 p
                unfold mo_plant_j120_44 mo_plant_j138_44 mo_plant_j146_44
                rw [wp, if_neg (show ¬ p + 1 = 0 by omega), if_neg (show ¬ p + 1 = 0 by omega), pnN_S]
                by_cases p0 : p = 0
                · subst p0
                  simp only [if_true]
                  have hcond : ¬ V 0 ≤ (pnN V 0).2 := by show ¬ V 0 ≤ -1; omega
                  rw [if_neg hcond]
                  refine Tc_inl ?_
                  exact ⟨rfl, rfl, rfl, cM6, mM6, fun _ => by dsimp only; omega⟩
                · rw [if_neg p0, if_neg p0]
                  have := q3 p0
                  refine Tc_f (by omega) (Tc_i (fun c => ?_) (fun c => ?_))
                  · rw [if_neg (by omega)]
                    exact Tc_inl ⟨rfl, rfl, rfl, cM6, mM6, fun _ => by dsimp only; omega⟩
                  · rw [if_pos (by omega)]
                    exact Tc_inl ⟨rfl, rfl, rfl, cM6, mM6, fun _ => this⟩
              unfold mo_plant_b44
              rw [wi]
              simp only [toNat_c]
              refine Tc_t (by omega) (Tc_f (by omega) (Tc_e e5 (Tc_t (by omega) (Tc_t (by omega) (Tc_u ?_)))))
              rw [eth, wr_i (x := (dsC (10 + 3 * d) M).2.2.2 p + n) (by omega) (by omega)]
              refine Tc_e e6 ?_
              rcases ht with ⟨z1, z2, z3, z4⟩ | ⟨z1, z2⟩
              · rw [if_pos (by omega)] at eVp
                rw [wr_i (x := k - 1) (by omega) (by omega), wr_i (x := M6 293 (k - 1).toNat + 1) (by omega) (by omega), ← z2, ← eVp]
                exact Tc_t z1 (Tc_t (by omega) tail)
              · rw [if_neg (by omega)] at eVp
                rw [← eVp]
                exact Tc_f (by omega) tail
            · obtain ⟨y, y', z, M4⟩ := s
              obtain ⟨rfl, rfl, rfl, q1, q2, q3⟩ := hI
              dsimp only at q1 q2 ⊢
              have e280 : M4 280 d = (np : Int) := by rw [(c4.tr (q1.sub (by decide))) 280 d (by decide : 12 ∉ [0, 10])]; exact hnp
              unfold mo_plant_b44
              rw [toNat_c, if_neg (show ¬ np = 0 by omega), if_neg (show ¬ np = 0 by omega)]
              exact Tc_t (by omega) (Tc_t (by omega) (Tc_inr ⟨rfl, rfl, q1, q2⟩))
          refine Tc_c l2 (fun r hr => ?_)
          obtain ⟨b1, b2, v, M4⟩ := r
          obtain ⟨rfl, rfl, q1, q2⟩ := hr
          dsimp only at q1 q2 ⊢
          obtain ⟨x1, x2⟩ := moRow0 M4
          refine Tc_u ?_
          unfold mo_plant_j172
          by_cases z : (pnN V np).2 = 601
          · refine Tc_t z ?_
            rw [if_pos z]
            obtain ⟨M5, t1, t2, t3⟩ := moTell_eq (-1) x1 (by simp)
            refine Tc_e t1 (Tc_some ?_)
            exact ⟨rfl, t2, ((moF.up (by decide)).tr q2).tr (x2.tr t3).mo, (c4.tr (q1.sub (by decide))).tr (x2.tr t3).chg⟩
          · refine Tc_f z ?_
            rw [if_neg z]
            obtain ⟨M5, t1, t2, t3⟩ := moTell_eq (pnN V np).2 x1 (by simp)
            refine Tc_e t1 (Tc_some ?_)
            exact ⟨rfl, t2, ((moF.up (by decide)).tr q2).tr (x2.tr t3).mo, (c4.tr (q1.sub (by decide))).tr (x2.tr t3).chg⟩
        unfold dh_plant_j159
        have c2 : chg [0, 10] M M2 := ((y1.chg (Or.inl rfl)).sub (by decide)).tr n3.chg
        by_cases z : (pnN V np).2 = 601
        · obtain ⟨M3, t1, t2, t3⟩ := tell_eq (-1) n2 (by simp)
          refine Tc_t z (Tc_e t1 (Tc_some (Tc_m (mo M3 (c2.tr t3.chg)) fun q hq => ?_)))
          rw [if_pos z] at hq
          exact ⟨hq.1, h.go10 hq.2.2.2 (t2.fin hq.2.2.1 hq.2.1 (by simp))⟩
        · obtain ⟨M3, t1, t2, t3⟩ := tell_eq (pnN V np).2 n2 (by simp)
          refine Tc_f z (Tc_e t1 (Tc_some (Tc_m (mo M3 (c2.tr t3.chg)) fun q hq => ?_)))
          rw [if_neg z] at hq
          exact ⟨hq.1, h.go10 hq.2.2.2 (t2.fin hq.2.2.1 hq.2.1 (by simp))⟩
      · refine Tc_t (asked_n hk) (Tc_some ?_)
        unfold mo_plant
        exact Tc_u (Tc_f (by rw [moDonkey_y h.S (c3 278 1 (by decide)) hd]; decide) (Tc_f (by rw [moIn_y hn]; decide) (Tc_t (moIn_n hk) (Tc_some ⟨rfl, h.go0 c3⟩))))
    · have mo : Tc (mo_plant x n k M) (fun q => q.1 = -1 ∧ Rel B q.2) := by
        unfold mo_plant
        exact Tc_u (Tc_f (by rw [moDonkey_y h.S (c3 278 1 (by decide)) hd]; decide) (Tc_t (moIn_n hn) (Tc_some ⟨rfl, h.go0 c3⟩)))
      exact Tc_i (fun _ => Tc_some mo) (fun q => Tc_t (by omega) (Tc_some mo))
  · refine Tc_t (isDonkey_n h.S.2.2.1 hd) (Tc_some ?_)
    unfold mo_plant
    exact Tc_u (Tc_t (moDonkey_n h.S (c3 278 1 (by decide)) hd) (Tc_some ⟨rfl, h.go0 c3⟩))
end
section
-- ===== CARROTS that are thought of =====
/-- whose, from, to, how -/
abbrev CA := Int × Int × Int × Int
def plL (d m : Int) : List CA → Int
  | [] => 0
  | c :: l => plT d m c.1 c.2.1 c.2.2.1 c.2.2.2 + plL d m l
def okL (l : List CA) : Prop := l.length ≤ 2 ∧ ∀ c ∈ l, c.2.2.2 = 1 ∨ c.2.2.2 = -1
def thC (l : List CA) (M : MEM) : Prop := M 225 4 = (l.length : Int) ∧ ∀ (i : Nat) (c : CA), l[i]? = some c → M 226 i = c.1 ∧ M 227 i = c.2.1 ∧ M 228 i = c.2.2.1 ∧ M 229 i = c.2.2.2
def thM (l : List CA) (M : MEM) : Prop := M 278 8 = (l.length : Int) ∧ ∀ (i : Nat) (c : CA), l[i]? = some c → M 282 (40 + 4 * i) = c.1 ∧ M 282 (40 + 4 * i + 1) = c.2.1 ∧ M 282 (40 + 4 * i + 2) = c.2.2.1 ∧ M 282 (40 + 4 * i + 3) = c.2.2.2
/-- the surroundings with what is thought of -/
noncomputable def envL (M : MEM) (l : List CA) : EN := ((envM M).1, fun d m => (envM M).2.1 d m + plL d m l, (envM M).2.2)
noncomputable def qL (M : MEM) (d : Nat) (l : List CA) : Nat → DS := trajD (envL M l) (M 280 d) d (M 3 3) (dsC (10 + 3 * d) M)
theorem sum10 {F : Nat → Int} (h : ∀ i, 2 ≤ i → F i = 0) : sumN F 10 = F 0 + F 1 := by
  have tail : ∀ k, sumN F (2 + k) = F 0 + F 1 := by
    intro k
    induction k with
    | zero => show (0 : Int) + F 0 + F 1 = _; rw [Int.zero_add]
    | succ k ih => rw [show 2 + (k + 1) = (2 + k) + 1 by omega, sumN_S, ih, h (2 + k) (by omega), Int.add_zero]
  exact tail 8
theorem plC_thC {l : List CA} {M : MEM} (hl : l.length ≤ 2) (h : thC l M) (d m : Int) : plC 225 M d m = plL d m l := by
  obtain ⟨h1, h2⟩ := h
  have z : ∀ i, l.length ≤ i → plF 225 M d m i = 0 := fun i hi => by unfold plF; rw [if_neg (by omega)]
  have v : ∀ i c, l[i]? = some c → plF 225 M d m i = plT d m c.1 c.2.1 c.2.2.1 c.2.2.2 := fun i c hc => by
    have hi := (List.getElem?_eq_some_iff.mp hc).1
    obtain ⟨q1, q2, q3, q4⟩ := h2 i c hc
    unfold plF
    rw [if_pos (by omega), q1, q2, q3, q4]
  unfold plC
  rw [sum10 (fun i hi => z i (by omega))]
  match l, hl, z, v with
  | [], _, z, v => rw [z 0 (Nat.zero_le _), z 1 (Nat.zero_le _)]; rfl
  | [a], _, z, v => rw [v 0 a rfl, z 1 (Nat.le_refl _)]; rfl
  | [a, b], _, z, v => rw [v 0 a rfl, v 1 b rfl]; unfold plL plL plL; omega
/-- only scratch, the ROW and what is thought of have changed -/
def offTh (M M1 : MEM) : Prop := ∀ a k, rg a k ≠ 0 → rg a k ≠ 10 → (a ≠ 225 ∨ k ≠ 4) → M1 a k = M a k
theorem offTh.tr {M M1 M2 : MEM} (h : offTh M M1) (g : chg [0] M1 M2) : offTh M M2 := fun a k x y z => (g a k (by simpa using x)).trans (h a k x y z)
theorem offTh.cc {M M1 : MEM} (h : offTh M M1) : chg [0, 10, 11] M M1 := fun a k n => by
  refine h a k (fun e => n (by rw [e]; decide)) (fun e => n (by rw [e]; decide)) ?_
  by_cases e : a = 225
  · subst e
    by_cases e2 : k = 4
    · subst e2; exact absurd (by decide) n
    · exact Or.inr e2
  · exact Or.inl e
theorem offTh.fin {B : Int} {M M1 : MEM} (h : offTh M M1) (hR : Rel B M) (h0 : thC [] M1) : chg [0, 10] M M1 := fun a k n => by
  by_cases e : a = 225 ∧ k = 4
  · obtain ⟨rfl, rfl⟩ := e
    rw [h0.1]; exact hR.N.2.2.1.symm
  · exact h a k (fun e => n (by rw [e]; decide)) (fun e => n (by rw [e]; decide)) (by omega)
theorem envC_th {B : Int} {M M1 : MEM} {l : List CA} (hR : Rel B M) (h : offTh M M1) (hl : okL l) (ht : thC l M1) : envC 224 M1 = envL M l ∧ eOk 224 M1 := by
  have c : chg [0, 10, 11] M M1 := h.cc
  have e6 : M1 224 6 = M 224 6 := h 224 6 (by decide) (by decide) (Or.inl (by decide))
  have e19 : M1 19 = M 19 := c.row (fun k => (by decide : 2 ∉ [0, 10, 11]))
  have e20 : M1 20 = M 20 := c.row (fun k => (by decide : 2 ∉ [0, 10, 11]))
  have e22 : M1 22 = M 22 := c.row (fun k => (by decide : 3 ∉ [0, 10, 11]))
  have e21 : M1 21 3 = M 21 3 := c 21 3 (by decide)
  have e54 : M1 5 4 = M 5 4 := c 5 4 (by decide)
  have er : ∀ q, 6 ≤ q → q ≤ 9 → M1 q = M q := fun q q1 q2 => c.row (fun k => by
    have : q = 6 ∨ q = 7 ∨ q = 8 ∨ q = 9 := by omega
    rcases this with rfl | rfl | rfl | rfl <;> exact (by decide : 5 ∉ [0, 10, 11]))
  have ep : plC 5 M1 = plC 5 M := by
    funext d m
    unfold plC plF
    rw [e54, er 6 (by omega) (by omega), er 7 (by omega) (by omega), er 8 (by omega) (by omega), er 9 (by omega) (by omega)]
  obtain ⟨e0, e0O⟩ := env_0 hR (f := 224) (Or.inl rfl)
  have e225 : ∀ d m, plC 225 M d m = 0 := fun d m => by
    unfold plC
    have hz : ∀ i, plF 225 M d m i = 0 := fun i => by unfold plF; rw [if_neg (by have := hR.N.2.2.1; omega)]
    rw [sum10 (fun i _ => hz i), hz, hz]; rfl
  refine ⟨?_, ?_⟩
  · unfold envL
    rw [← e0]
    unfold envC flC
    dsimp only
    rw [e6, e19, e20, e21, e22, ep]
    congr 2
    funext d m
    rw [show 224 + 1 = 225 from rfl, plC_thC hl.1 ht, e225]
    omega
  · obtain ⟨g1, ⟨g2, g3, g4⟩, -, g8⟩ := e0O
    refine ⟨?_, ⟨?_, ?_, fun i hi => ?_⟩, ⟨?_, ?_, fun i hi => ?_⟩, ?_⟩
    · rw [e19]; exact g1
    · rw [e54]; exact g2
    · rw [e54]; exact g3
    · rw [e54] at hi
      rw [er (5 + 4) (by omega) (by omega)]; exact g4 i hi
    · show 0 ≤ M1 225 4; rw [ht.1]; omega
    · show M1 225 4 ≤ 10; rw [ht.1]; have := hl.1; omega
    · have hi : (i : Int) < M1 225 4 := hi
      rw [ht.1] at hi
      have hi : i < l.length := by omega
      have := (ht.2 i l[i] (List.getElem?_eq_getElem hi)).2.2.2
      show M1 229 i = 1 ∨ M1 229 i = -1
      rw [this]
      exact hl.2 _ (List.getElem_mem hi)
    · rw [e21, e22]; exact g8
/-- the same of the reference -/
def offThM (M M1 : MEM) : Prop := ∀ a k, rg a k ≠ 0 → (a ≠ 278 ∨ k ≠ 8) → M1 a k = M a k
theorem offThM.tr {M M1 M2 : MEM} (h : offThM M M1) (g : chg [0] M1 M2) : offThM M M2 := fun a k x z => (g a k (by simpa using x)).trans (h a k x z)
theorem offThM.cc {M M1 : MEM} (h : offThM M M1) : chg [0, 11] M M1 := fun a k n => by
  refine h a k (fun e => n (by rw [e]; decide)) ?_
  by_cases e : a = 278
  · subst e
    by_cases e2 : k = 8
    · subst e2; exact absurd (by decide) n
    · exact Or.inr e2
  · exact Or.inl e
theorem offThM.fin {M M1 : MEM} (h : offThM M M1) (h8 : M 278 8 = 0) (h0 : thM [] M1) : chg [0] M M1 := fun a k n => by
  by_cases e : a = 278 ∧ k = 8
  · obtain ⟨rfl, rfl⟩ := e
    rw [h0.1, h8]; rfl
  · exact h a k (by simpa using n) (by omega)
theorem envM_th {B : Int} {M M0 M1 : MEM} {l : List CA} (hR : Rel B M) (c0 : chg [0, 10] M M0) (h : offThM M0 M1) (hl : okL l) (ht : thM l M1) : envM M1 = envL M l ∧ emOk M1 := by
  have c : ∀ a k, rg a k ≠ 0 → rg a k ≠ 10 → (a ≠ 278 ∨ k ≠ 8) → M1 a k = M a k := fun a k x y z => (h a k x z).trans (c0 a k (by simp [x, y]))
  have h8 := hR.N.2.2.2.2.2.1
  have h7 : M 278 7 ≤ 10 := hR.C.2.2.1
  have e7 : M1 278 7 = M 278 7 := c 278 7 (by decide) (by decide) (Or.inr (by decide))
  have e4 : M1 278 4 = M 278 4 := c 278 4 (by decide) (by decide) (Or.inr (by decide))
  have e5 : M1 278 5 = M 278 5 := c 278 5 (by decide) (by decide) (Or.inr (by decide))
  have e281 : M1 281 = M 281 := funext fun k => c 281 k (by decide : (2 : Nat) ≠ 0) (by decide : (2 : Nat) ≠ 10) (Or.inl (by decide))
  have e22 : M1 22 = M 22 := funext fun k => c 22 k (by decide : (3 : Nat) ≠ 0) (by decide : (3 : Nat) ≠ 10) (Or.inl (by decide))
  have e21 : M1 21 3 = M 21 3 := c 21 3 (by decide) (by decide) (Or.inl (by decide))
  have e282 : ∀ k, k < 40 → M1 282 k = M 282 k := fun k hk => c 282 k (by rw [rg_car hk]; decide) (by rw [rg_car hk]; decide) (Or.inl (by decide))
  obtain ⟨f1, f2, f3, -⟩ := hR.F
  obtain ⟨k1, k2, k3, k4⟩ := hR.C
  have e8 := ht.1
  refine ⟨?_, ⟨by omega, by omega⟩, ⟨by omega, by omega⟩, ⟨by omega, by have := hl.1; omega⟩, fun i hi => ?_⟩
  · have q1 : flM M1 = flM M := by
      funext m
      unfold flM
      rw [e4, e5, e281]
    have q2 : ∀ d m, hrM M1 d m = hrM M d m + plL d m l := fun d m => by
      unfold hrM
      rw [sumN_split, sumN_split]
      have s10 : sumN (hrF M1 d m) 10 = sumN (hrF M d m) 10 := sumN_congr (fun i hi => by
        unfold hrF
        by_cases q : (i : Int) < M 278 7
        · rw [if_pos (by omega), if_pos (by omega), e282 _ (by omega), e282 _ (by omega), e282 _ (by omega), e282 _ (by omega)]
        · rw [if_neg (by omega), if_neg (by omega)])
      have z : ∀ i, 10 ≤ i → hrF M d m i = 0 := fun i hi => by unfold hrF; rw [if_neg (by omega)]
      have z1 : ∀ i, l.length ≤ i → hrF M1 d m (10 + i) = 0 := fun i hi => by unfold hrF; rw [if_neg (by omega)]
      have v : ∀ i c, l[i]? = some c → hrF M1 d m (10 + i) = plT d m c.1 c.2.1 c.2.2.1 c.2.2.2 := fun i c hc => by
        have hi := (List.getElem?_eq_some_iff.mp hc).1
        obtain ⟨q1, q2, q3, q4⟩ := ht.2 i c hc
        unfold hrF
        rw [if_pos (by omega), show 4 * (10 + i) = 40 + 4 * i by omega, q1, q2, q3, q4]
      rw [s10, z 10 (by omega), z 11 (by omega)]
      have : hrF M1 d m 10 + hrF M1 d m 11 = plL d m l := by
        match l, hl.1, z1, v with
        | [], _, z1, v => rw [z1 0 (Nat.zero_le _), z1 1 (Nat.zero_le _)]; rfl
        | [a], _, z1, v => rw [v 0 a rfl, z1 1 (Nat.le_refl _)]; rfl
        | [a, b], _, z1, v => rw [v 0 a rfl, v 1 b rfl]; unfold plL plL plL; omega
      omega
    unfold envL envM
    dsimp only
    rw [q1, e21, e22]
    congr 2
    funext d m
    exact q2 d m
  · rcases hi with hi | ⟨hi1, hi2⟩
    · rw [e7] at hi
      have := k4 i (by omega)
      rw [e282 _ (by omega), ← this.2.2.2.1]
      exact this.2.2.2.2
    · rw [e8] at hi2
      obtain ⟨j, rfl⟩ : ∃ j, i = 10 + j := ⟨i - 10, by omega⟩
      have hj : j < l.length := by omega
      have := (ht.2 j l[j] (List.getElem?_eq_getElem hj)).2.2.2
      rw [show 4 * (10 + j) + 3 = 40 + 4 * j + 3 by omega, this]
      exact hl.2 _ (List.getElem_mem hj)
theorem snocL_get {l : List CA} {x y : CA} {i : Nat} (h : (l ++ [x])[i]? = some y) : (i < l.length ∧ l[i]? = some y) ∨ (i = l.length ∧ x = y) := by
  by_cases hi : i < l.length
  · rw [List.getElem?_append_left hi] at h
    exact Or.inl ⟨hi, h⟩
  · rw [List.getElem?_append_right (by omega)] at h
    have hz : i - l.length < 1 := (List.getElem?_eq_some_iff.mp h).1
    have : i = l.length := by omega
    subst this
    rw [Nat.sub_self] at h
    exact Or.inr ⟨rfl, Option.some.inj h⟩
/-- a CARROT from a MINUTE (counted from now) on -/
def mkC (M : MEM) (d : Nat) (fr n how : Int) : CA := ((d : Int), M 3 3 + fr, M 3 3 + fr + n - 1, how)
theorem think_eq {B : Int} {M M1 : MEM} {l : List CA} {d : Nat} {fr n how : Int} (hR : Rel B M) (hB : B ≤ 100000000) (h : offTh M M1) (hl : l.length ≤ 1) (ht : thC l M1) (f0 : 0 ≤ fr ∧ fr ≤ 60) (n0 : 0 ≤ n ∧ n ≤ 60) :
    ∃ M2, dh_think d fr n how M1 = some M2 ∧ offTh M M2 ∧ thC (l ++ [mkC M d fr n how]) M2 ∧ ∀ a k, rg a k ≠ 0 → (a ≠ 225 ∨ k ≠ 4) → M2 a k = M1 a k := by
  have nw := now_in hR
  have e33 : M1 3 3 = M 3 3 := h 3 3 (by decide) (by decide) (Or.inl (by decide))
  obtain ⟨h1, h2⟩ := ht
  unfold dh_think ca_add
  rw [e33, wr_i (x := M 3 3 + fr) (by omega) (by omega), wr_i (x := M 3 3 + fr + n) (by omega) (by omega), wr_i (x := M 3 3 + fr + n - 1) (by omega) (by omega), if_neg (by omega), if_pos (by omega), if_pos (by omega), h1, toNat_c, Option.bind_some]
  have a1 : ∀ N : MEM, ∀ c k x, c ≠ 225 → up2 N c k x 225 4 = N 225 4 := fun N c k x hc => rd_a (by omega)
  simp only [a1 _ (225 + 1) _ _ (by decide), a1 _ (225 + 2) _ _ (by decide), a1 _ (225 + 3) _ _ (by decide), a1 _ (225 + 4) _ _ (by decide), h1, toNat_c, Option.bind_some]
  rw [if_pos (by omega), if_pos (by omega), if_pos (by omega), Option.bind_some, wr_i (x := (l.length : Int) + 1) (by omega) (by omega)]
  have same : ∀ a k, rg a k ≠ 0 → (a ≠ 225 ∨ k ≠ 4) → up2 (up2 (up2 (up2 (up2 M1 (225 + 1) l.length (d : Int)) (225 + 2) l.length (M 3 3 + fr)) (225 + 3) l.length (M 3 3 + fr + n - 1)) (225 + 4) l.length how) 225 4 ((l.length : Int) + 1) a k = M1 a k := fun a k x z => by
    have hz : ∀ b, b = 225 + 1 ∨ b = 225 + 2 ∨ b = 225 + 3 ∨ b = 225 + 4 → a ≠ b := fun b hb e => by
      subst e
      rcases hb with rfl | rfl | rfl | rfl <;> exact x rfl
    have e4 : ∀ N : MEM, up2 N 225 4 ((l.length : Int) + 1) a k = N a k := fun N => by
      rcases z with z | z
      · exact rd_a z
      · exact rd_k z
    rw [e4, rd_a (hz _ (by omega)), rd_a (hz _ (by omega)), rd_a (hz _ (by omega)), rd_a (hz _ (by omega))]
  refine ⟨_, rfl, fun a k x y z => (same a k x z).trans (h a k x y z), ⟨?_, fun i c hc => ?_⟩, same⟩
  · dsimp only
    rw [rd_same, List.length_append]; rfl
  · dsimp only
    rcases snocL_get hc with ⟨hi, hc⟩ | ⟨rfl, rfl⟩
    · obtain ⟨q1, q2, q3, q4⟩ := h2 i c hc
      refine ⟨?_, ?_, ?_, ?_⟩
      · simp (disch := omega) only [rd_a, rd_k]; exact q1
      · simp (disch := omega) only [rd_a, rd_k]; exact q2
      · simp (disch := omega) only [rd_a, rd_k]; exact q3
      · simp (disch := omega) only [rd_a, rd_k]; exact q4
    · refine ⟨?_, ?_, ?_, ?_⟩ <;> simp (disch := omega) only [rd_a, rd_same] <;> rfl
theorem moThink_eq {B : Int} {M M0 M1 : MEM} {l : List CA} {d : Nat} {fr n how : Int} (hR : Rel B M) (hB : B ≤ 100000000) (c0 : chg [0, 10] M M0) (h : offThM M0 M1) (hl : l.length ≤ 1) (ht : thM l M1) (f0 : 0 ≤ fr ∧ fr ≤ 60) (n0 : 0 ≤ n ∧ n ≤ 60) :
    ∃ M2, mo_think (l.length : Int) d fr n how M1 = some M2 ∧ offThM M0 M2 ∧ moF M1 M2 ∧ thM (l ++ [mkC M d fr n how]) M2 ∧ M2 301 = M1 301 := by
  have nw := now_in hR
  have e165 : M1 279 165 = M 3 3 := by rw [h 279 165 (by decide) (Or.inl (by decide)), c0 279 165 (by decide)]; exact nw.2.2
  obtain ⟨h1, h2⟩ := ht
  unfold mo_think mo_layCarrot
  have w4 : wr (4 * (10 + (l.length : Int))) = ((40 + 4 * l.length : Nat) : Int) := (wr_i (by omega) (by omega)).trans (by omega)
  have w1 : wr (((40 + 4 * l.length : Nat) : Int) + 1) = ((40 + 4 * l.length + 1 : Nat) : Int) := (wr_i (by omega) (by omega)).trans (by omega)
  have w2 : wr (((40 + 4 * l.length : Nat) : Int) + 2) = ((40 + 4 * l.length + 2 : Nat) : Int) := (wr_i (by omega) (by omega)).trans (by omega)
  have w3 : wr (((40 + 4 * l.length : Nat) : Int) + 3) = ((40 + 4 * l.length + 3 : Nat) : Int) := (wr_i (by omega) (by omega)).trans (by omega)
  rw [e165, wr_i (x := M 3 3 + fr) (by omega) (by omega), wr_i (x := M 3 3 + fr + n) (by omega) (by omega), wr_i (x := M 3 3 + fr + n - 1) (by omega) (by omega), wr_i (x := 10 + (l.length : Int)) (by omega) (by omega), w4, w1, w2, w3]
  simp only [toNat_c]
  rw [if_pos (by omega), Option.bind_some, if_pos (by omega), Option.bind_some, if_pos (by omega), Option.bind_some, if_pos (by omega), Option.bind_some, Option.bind_some, Option.bind_some]
  have e8 : ∀ k x (N : MEM), up2 N 282 k x 278 8 = N 278 8 := fun k x N => rd_a (by decide)
  rw [e8, e8, e8, e8, h1, wr_i (x := (l.length : Int) + 1) (by omega) (by omega), show max (l.length : Int) ((l.length : Int) + 1) = (l.length : Int) + 1 by omega]
  refine ⟨_, rfl, fun a k x z => ?_, fun c hc => ?_, ⟨?_, fun i c hc => ?_⟩, ?_⟩
  · have e8' : ∀ N : MEM, up2 N 278 8 ((l.length : Int) + 1) a k = N a k := fun N => by
      rcases z with z | z
      · exact rd_a z
      · exact rd_k z
    have e282 : ∀ q v (N : MEM), 40 ≤ q → up2 N 282 q v a k = N a k := fun q v N hq => by
      by_cases e : a = 282
      · subst e
        refine rd_k (fun e => x ?_)
        subst e
        unfold rg
        rw [if_neg (by omega), if_neg (by omega), if_neg (by omega), if_neg (by omega), if_neg (by omega), if_neg (by omega), if_pos rfl, if_neg (by omega)]
      · exact rd_a e
    rw [e8', e282 _ _ _ (by omega), e282 _ _ _ (by omega), e282 _ _ _ (by omega), e282 _ _ _ (by omega)]
    exact h a k x z
  · rw [up2_ne (by omega), up2_ne (by omega), up2_ne (by omega), up2_ne (by omega), up2_ne (by omega)]
  · rw [rd_same, List.length_append]; rfl
  · rcases snocL_get hc with ⟨hi, hc⟩ | ⟨rfl, rfl⟩
    · obtain ⟨q1, q2, q3, q4⟩ := h2 i c hc
      refine ⟨?_, ?_, ?_, ?_⟩
      · simp (disch := omega) only [rd_a, rd_k]; exact q1
      · simp (disch := omega) only [rd_a, rd_k]; exact q2
      · simp (disch := omega) only [rd_a, rd_k]; exact q3
      · simp (disch := omega) only [rd_a, rd_k]; exact q4
    · refine ⟨?_, ?_, ?_, ?_⟩ <;> simp (disch := omega) only [rd_a, rd_k, rd_same] <;> rfl
  · rw [up2_ne (by omega), up2_ne (by omega), up2_ne (by omega), up2_ne (by omega), up2_ne (by omega)]
end
section
-- ===== bribe, bid =====
def hrN (T : Nat → DS) : Int := if 2 ≤ cnt T 600 then tmN T 2 600 - tmN T 1 600 else 601
theorem qL_ok {B : Int} {M : MEM} (h : Rel B M) (hB : B ≤ 100000000) {d : Nat} (hd : (d : Int) < M 3 2) (l : List CA) : stk (qL M d l) 1000000 := by
  obtain ⟨d1, d2, -, -⟩ := dnk h hB hd
  exact traj_stk (fun g => codeV_in _ _ _) d1 (by omega)
theorem run2 {B : Int} {M M1 : MEM} {l : List CA} {d : Nat} (hR : Rel B M) (hB : B ≤ 100000000) (hd : (d : Int) < M 3 2) (h : offTh M M1) (hl : okL l) (ht : thC l M1) :
    ∃ M2 M3, dh_look 224 d M1 = some M2 ∧ fu_run 224 600 2 M2 = some M3 ∧ offTh M M3 ∧ thC l M3 ∧ chg [0] M1 M3 ∧ ∀ M4 : MEM, M4 224 = M3 224 → M4 233 = M3 233 → fu_hour 224 M4 = some (hrN (qL M d l)) := by
  have nw := now_in hR
  obtain ⟨d1, d2, -, -⟩ := dnk hR hB hd
  have hst := qL_ok hR hB hd l
  obtain ⟨eE, eO⟩ := envC_th hR h hl ht
  obtain ⟨M2, e2, o2, f2⟩ := q_lookE hR (Or.inl rfl) hd hB h.cc eE eO
  obtain ⟨j', M3, e3, f3, o3, -, hj, hq, -⟩ := fut_run (till := 600) (most := 2) (Or.inl rfl) d1 d2 nw.1 (by omega) (Int.le_refl _) (by omega) f2
  have oL := o2.tr o3.L
  refine ⟨M2, M3, e2, e3, h.tr (oL.chg (Or.inl rfl)), ⟨?_, fun i c hc => ?_⟩, oL.chg (Or.inl rfl), fun M4 m1 m2 => ?_⟩
  · rw [oL.1 225 (by decide) (by decide) (by decide) (by decide) (by decide) (by decide) (by decide)]; exact ht.1
  · rw [oL.1 226 (by decide) (by decide) (by decide) (by decide) (by decide) (by decide) (by decide), oL.1 227 (by decide) (by decide) (by decide) (by decide) (by decide) (by decide) (by decide), oL.1 228 (by decide) (by decide) (by decide) (by decide) (by decide) (by decide) (by decide), oL.1 229 (by decide) (by decide) (by decide) (by decide) (by decide) (by decide) (by decide)]
    exact ht.2 i c hc
  · have f3 : futAt 224 (envL M l) (M 280 d) d (M 3 3) (qL M d l) j' M3 := f3
    have hq : (600 : Int) ≤ j' ∨ 2 ≤ cnt (qL M d l) j' := hq
    have h10 : M3 224 10 = cnt (qL M d l) j' := f3.2.2.2.2.2.2.2.1
    have hj6 : j' ≤ 600 := by omega
    have hmo := (cnt_mono hst hj6 (by omega)).1
    have hb : ∀ k, fu_strokeMinute 224 k M4 = fu_strokeMinute 224 k M3 := fun k => by unfold fu_strokeMinute; rw [m1, show 224 + 9 = 233 from rfl, m2]
    unfold fu_hour fu_boiled hrN
    rw [m1, h10]
    by_cases z : 2 ≤ cnt (qL M d l) j'
    · obtain ⟨a1, a2, a3, a4⟩ := stroke_eq (k := 2) f3 (by decide) z (by decide)
      obtain ⟨b1, b2, b3, b4⟩ := stroke_eq (k := 1) f3 (by decide) (by omega) (by decide)
      have t2 := tmN_eq (k := 2) hst (by decide) (Or.inl ⟨by omega, _, a2, a4, by omega, rfl⟩)
      have t1 := tmN_eq (k := 1) hst (by decide) (Or.inl ⟨by omega, _, b2, b4, by omega, rfl⟩)
      rw [if_pos z, if_pos (by omega), wr_i (x := (1 : Int) + 1) (by omega) (by omega), hb, hb, show (1 : Int) + 1 = 2 from rfl, a1, Option.bind_some, b1, Option.bind_some, Option.bind_some, ← t2, ← t1, wr_i (by omega) (by omega)]
      congr 1
      omega
    · have : j' = 600 := by omega
      subst this
      rw [if_neg z, if_neg z]
theorem hour_eq {B : Int} {M M1 : MEM} {l : List CA} {d : Nat} (hR : Rel B M) (hB : B ≤ 100000000) (hd : (d : Int) < M 3 2) (h : offTh M M1) (hl : okL l) (ht : thC l M1) :
    ∃ M2, dh_nextHour d M1 = some (hrN (qL M d l), M2) ∧ offTh M M2 ∧ thC l M2 := by
  obtain ⟨M2, M3, e2, e3, g1, g2, -, g3⟩ := run2 hR hB hd h hl ht
  refine ⟨M3, ?_, g1, g2⟩
  unfold dh_nextHour
  rw [e2, Option.bind_some, e3, Option.bind_some, g3 M3 rfl rfl, Option.bind_some]
theorem times_E {B : Int} {M M0 M1 : MEM} {l : List CA} {d : Nat} (hR : Rel B M) (hB : B ≤ 100000000) (hd : (d : Int) < M 3 2) (c0 : chg [0, 10] M M0) (h : offThM M0 M1) (hl : okL l) (ht : thM l M1) :
    ∃ M2, mo_timesNow d M1 = some M2 ∧ offThM M0 M2 ∧ thM l M2 ∧ moF M1 M2 ∧ M2 301 = M1 301 ∧ M2 278 38 = cnt (qL M d l) 600 ∧ ∀ i : Nat, (i : Int) < cnt (qL M d l) 600 → isT (qL M d l) (M2 293 i) i ∧ M2 293 i < 600 := by
  obtain ⟨eE, eO⟩ := envM_th hR c0 h hl ht
  have cc : chg [0, 10, 11] M M1 := (c0.sub (by decide)).tr (h.cc.sub (by decide))
  obtain ⟨M2, e2, o2, -, -, tO, tA⟩ := q_thenE hR hB cc eE eO
  obtain ⟨M3, e3, o3, f3, g3⟩ := find_times (d := d) tO (by omega) tA
  have oQ := o2.tr o3
  refine ⟨M3, ?_, h.tr oQ.chg, ⟨?_, fun i c hc => ?_⟩, oQ.mo, oQ.1 301 (by decide) (by decide) (by decide) (by decide), f3, g3⟩
  · unfold mo_timesNow
    rw [e2, Option.bind_some, e3, Option.bind_some]
  · rw [oQ.2 8 (by omega) (by omega)]; exact ht.1
  · rw [oQ.1 282 (by decide) (by decide) (by decide) (by decide)]
    exact ht.2 i c hc
theorem moHour_eq {B : Int} {M M0 M1 : MEM} {l : List CA} {d : Nat} (hR : Rel B M) (hB : B ≤ 100000000) (hd : (d : Int) < M 3 2) (c0 : chg [0, 10] M M0) (h : offThM M0 M1) (hl : okL l) (ht : thM l M1) :
    ∃ M2, mo_hour d M1 = some (hrN (qL M d l), M2) ∧ offThM M0 M2 ∧ thM l M2 ∧ moF M1 M2 ∧ M2 301 = M1 301 := by
  obtain ⟨M2, e2, g1, g2, g3, g4, g5, g6⟩ := times_E hR hB hd c0 h hl ht
  have hst := qL_ok hR hB hd l
  refine ⟨M2, ?_, g1, g2, g3, g4⟩
  unfold mo_hour hrN
  rw [e2, Option.bind_some, g5]
  by_cases z : 2 ≤ cnt (qL M d l) 600
  · have t2 := tmN_times (k := 2) hst (by decide) g5 g6
    have t1 := tmN_times (k := 1) hst (by decide) g5 g6
    rcases t2 with ⟨-, t2, t2', t2''⟩ | ⟨t2, -⟩
    · rcases t1 with ⟨-, t1, t1', t1''⟩ | ⟨t1, -⟩
      · rw [if_pos z, if_pos z, t2, t1]
        rw [show ((2 : Int) - 1).toNat = 1 from rfl] at *
        rw [show ((1 : Int) - 1).toNat = 0 from rfl] at *
        clear t1 t2
        rw [wr_i (by omega) (by omega)]
        congr 2
        omega
      · omega
    · omega
  · rw [if_neg z, if_neg z]
theorem isWay_y {how : Int} (h : how = 1 ∨ how = -1) : dh_isWay how = 1 := by
  unfold dh_isWay
  rcases h with rfl | rfl
  · rw [if_pos rfl]
  · rw [if_neg (by decide), if_pos rfl]
theorem isWay_n {how : Int} (h : ¬ (how = 1 ∨ how = -1)) : dh_isWay how = 0 := by
  unfold dh_isWay
  rw [if_neg (by omega), if_neg (by omega)]
theorem better_eq (how h t : Int) : dh_isBetter how h t = if (if how < 0 then t < h else h < t) then 1 else 0 := by
  unfold dh_isBetter
  by_cases q : how < 0
  · rw [if_neg (by omega)]
    simp only [q, if_true]
    by_cases z : t < h
    · rw [if_neg (by omega), if_pos z]
    · rw [if_pos (by omega), if_neg z]
  · rw [if_pos (by omega)]
    simp only [q, if_false]
    by_cases z : h < t
    · rw [if_neg (by omega), if_pos z]
    · rw [if_pos (by omega), if_neg z]
def brN (H : Nat → Int) (how : Int) : Nat → Int × Int
  | 0 => (0, 0)
  | i + 1 => if i = 0 ∨ (if how < 0 then (brN H how i).2 < H i else H i < (brN H how i).2) then ((i : Int), H i) else brN H how i
theorem brN_S (H : Nat → Int) (how : Int) (i : Nat) : brN H how (i + 1) = if i = 0 ∨ (if how < 0 then (brN H how i).2 < H i else H i < (brN H how i).2) then ((i : Int), H i) else brN H how i := rfl
theorem okL_1 {M : MEM} {d : Nat} {fr n how : Int} (h : how = 1 ∨ how = -1) : okL ([] ++ [mkC M d fr n how]) := ⟨by simp, fun c hc => by
  have : c = mkC M d fr n how := by simpa using hc
  subst this; exact h⟩
theorem okL_0 : okL [] := ⟨by simp, fun c hc => by cases hc⟩
theorem th_0 {B : Int} {M : MEM} (h : Rel B M) : offTh M M ∧ thC [] M := ⟨fun _ _ _ _ _ => rfl, by rw [h.N.2.2.1]; rfl, fun i c hc => by cases hc⟩
theorem thM_0 {M : MEM} (h : M 278 8 = 0) : offThM M M ∧ thM [] M := ⟨fun _ _ _ _ => rfl, by rw [h]; rfl, fun i c hc => by cases hc⟩
theorem th_clr {M M1 : MEM} (h : offTh M M1) : offTh M (up2 M1 225 4 0) ∧ thC [] (up2 M1 225 4 0) := ⟨fun a k x y z => by
  rcases z with z' | z'
  · rw [rd_a z']; exact h a k x y (Or.inl z')
  · rw [rd_k z']; exact h a k x y (Or.inr z'), rd_same, fun i c hc => by cases hc⟩
theorem thM_clr {M M1 : MEM} (h : offThM M M1) : offThM M (up2 M1 278 8 0) ∧ thM [] (up2 M1 278 8 0) := ⟨fun a k x z => by
  rcases z with z' | z'
  · rw [rd_a z']; exact h a k x (Or.inl z')
  · rw [rd_k z']; exact h a k x (Or.inr z'), rd_same, fun i c hc => by cases hc⟩
theorem c_bribe {B : Int} {M : MEM} (h : Rel B M) (hB : B ≤ 100000000) (x n how : Int) : Lk B (dh_bribe x n how M) (mo_bribe x n how) := by
  have nw := now_in h
  have c3 : chg [0] M (up2 M 278 13 0) := chg.rf.up (by decide)
  unfold Lk dh_bribe
  by_cases hd : 0 ≤ x ∧ x < M 3 2
  · have hN := h.S.2.2.1
    refine Tc_f (by rw [isDonkey_y h.S.2.2.1 hd.1 hd.2]; decide) ?_
    by_cases hn : 1 ≤ n ∧ n ≤ 20
    · refine Tc_f (by omega) (Tc_f (by omega) ?_)
      by_cases hw : how = 1 ∨ how = -1
      · refine Tc_f (by rw [isWay_y hw]; decide) ?_
        obtain ⟨d, rfl⟩ : ∃ d : Nat, x = (d : Int) := ⟨x.toNat, by omega⟩
        obtain ⟨H, hH⟩ : ∃ H : Nat → Int, H = fun fr : Nat => hrN (qL M d ([] ++ [mkC M d fr n how])) := ⟨_, rfl⟩
        obtain ⟨M1, e1, g1, g2⟩ := hour_eq h hB hd.2 (th_0 h).1 okL_0 (th_0 h).2
        refine Tc_e e1 ?_
        dsimp only
        have l1 : Tc (iter (fun s => dh_bribe_b44 d n how (hrN (qL M d [])) s.1 s.2.1 s.2.2.1 s.2.2.2) FU (0, 0, 0, M1)) (fun r => r.1 = (brN H how 61).1 ∧ r.2.1 = (brN H how 61).2 ∧ offTh M r.2.2.2 ∧ thC [] r.2.2.2) := by
          refine Tc_n (fun i s => s.1 = (brN H how i).1 ∧ s.2.1 = (brN H how i).2 ∧ s.2.2.1 = (i : Int) ∧ offTh M s.2.2.2 ∧ thC [] s.2.2.2) 61 ⟨rfl, rfl, rfl, g1, g2⟩ (by omega) (fun i s hi hI => ?_) (fun s hI => ?_)
          · obtain ⟨y, y', z, M2⟩ := s
            obtain ⟨rfl, rfl, rfl, q1, q2⟩ := hI
            dsimp only at q1 q2 ⊢
            have wi : wr ((i : Int) + 1) = ((i + 1 : Nat) : Int) := (wr_i (by omega) (by omega)).trans (by omega)
            obtain ⟨M3, e3, k1, k2, -⟩ := think_eq (d := d) (fr := (i : Int)) (n := n) (how := how) h hB q1 (by simp) q2 (by omega) (by omega)
            obtain ⟨M4, e4, k3, k4⟩ := hour_eq h hB hd.2 k1 (okL_1 hw) k2
            obtain ⟨k5, k6⟩ := th_clr k3
            have eH : hrN (qL M d ([] ++ [mkC M d i n how])) = H i := by rw [hH]
            rw [eH] at e4
            unfold dh_bribe_b44 dh_bribe_j94_44 dh_bribe_j102_44
            rw [wi, brN_S]
            refine Tc_f (by omega) (Tc_e e3 (Tc_e e4 (Tc_u ?_)))
            dsimp only
            have hbt := better_eq how (H i) (brN H how i).2
            by_cases z : i = 0
            · rw [if_pos (Or.inl z)]
              exact Tc_t (by omega) (Tc_inl ⟨rfl, rfl, rfl, k5, k6⟩)
            · refine Tc_f (by omega) ?_
              by_cases y : (if how < 0 then (brN H how i).2 < H i else H i < (brN H how i).2)
              · rw [if_pos y] at hbt
                rw [if_pos (Or.inr y)]
                exact Tc_f (by rw [hbt]; decide) (Tc_inl ⟨rfl, rfl, rfl, k5, k6⟩)
              · rw [if_neg y] at hbt
                have hc : ¬ (i = 0 ∨ (if how < 0 then (brN H how i).2 < H i else H i < (brN H how i).2)) := fun q => q.elim z y
                rw [if_neg hc]
                exact Tc_t hbt (Tc_inl ⟨rfl, rfl, rfl, k5, k6⟩)
          · obtain ⟨y, y', z, M2⟩ := s
            obtain ⟨rfl, rfl, rfl, q1, q2⟩ := hI
            unfold dh_bribe_b44
            exact Tc_t (by show (60 : Int) < ((61 : Nat) : Int); omega) (Tc_inr ⟨rfl, rfl, q1, q2⟩)
        refine Tc_c l1 (fun r hr => ?_)
        obtain ⟨b1, b2, v, M2⟩ := r
        obtain ⟨rfl, rfl, q1, q2⟩ := hr
        dsimp only at q1 q2 ⊢
        have c2 := q1.fin h q2
        obtain ⟨M3, n1, n2, n3⟩ := newRow_eq M2
        obtain ⟨M4, t1, t2, t3⟩ := tell_eq (brN H how 61).2 n2 (by simp)
        obtain ⟨M5, u1, u2, u3⟩ := tell_eq (hrN (qL M d [])) t2 (by simp)
        refine Tc_e n1 (Tc_e t1 (Tc_e u1 (Tc_some ?_)))
        dsimp only
        have c5 : chg [0, 10] M M5 := c2.tr ((n3.tr t3).tr u3).chg
        have c6 : chg [0, 10] M (up2 M5 278 13 0) := c5.up (by decide)
        have hbr : mo_bribe d n how M5 = mo_bribe_j35 d n how (up2 M5 278 13 0) := by
          unfold mo_bribe
          rw [Option.bind_some, moDonkey_y h.S (c6 278 1 (by decide)) hd, if_neg (by decide), moIn_y hn, if_neg (by decide)]
          by_cases q : how = 1
          · rw [if_pos q]
          · rw [if_neg q, if_pos (by omega)]
        rw [hbr]
        generalize hM6 : up2 M5 278 13 0 = M6 at *
        have h8 : M6 278 8 = 0 := (c6 278 8 (by decide)).trans h.N.2.2.2.2.2.1
        unfold mo_bribe_j35
        obtain ⟨M7, e7, m1, m2, m3, -⟩ := moHour_eq h hB hd.2 c6 (thM_0 h8).1 okL_0 (thM_0 h8).2
        refine Tc_e e7 ?_
        dsimp only
        have l2 : Tc (iter (fun s => mo_bribe_b51 d n how (hrN (qL M d [])) s.1 s.2.1 s.2.2.1 s.2.2.2) FU (0, 0, 0, M7)) (fun r => r.1 = (brN H how 61).1 ∧ r.2.1 = (brN H how 61).2 ∧ offThM M6 r.2.2.2 ∧ thM [] r.2.2.2 ∧ moF M6 r.2.2.2) := by
          refine Tc_n (fun i s => s.1 = (brN H how i).1 ∧ s.2.1 = (brN H how i).2 ∧ s.2.2.1 = (i : Int) ∧ offThM M6 s.2.2.2 ∧ thM [] s.2.2.2 ∧ moF M6 s.2.2.2) 61 ⟨rfl, rfl, rfl, m1, m2, m3⟩ (by omega) (fun i s hi hI => ?_) (fun s hI => ?_)
          · obtain ⟨y, y', z, M8⟩ := s
            obtain ⟨rfl, rfl, rfl, q1, q2, q3⟩ := hI
            dsimp only at q1 q2 q3 ⊢
            have wi : wr ((i : Int) + 1) = ((i + 1 : Nat) : Int) := (wr_i (by omega) (by omega)).trans (by omega)
            obtain ⟨M9, e9, k1, k1', k2, -⟩ := moThink_eq (l := []) (d := d) (fr := (i : Int)) (n := n) (how := how) h hB c6 q1 (by simp) q2 (by omega) (by omega)
            obtain ⟨M10, e10, k3, k4, k4', -⟩ := moHour_eq h hB hd.2 c6 k1 (okL_1 hw) k2
            obtain ⟨k5, k6⟩ := thM_clr k3
            have k7 : moF M6 (up2 M10 278 8 0) := ((q3.tr k1').tr k4').tr (moF.up (by decide))
            have eH : hrN (qL M d ([] ++ [mkC M d i n how])) = H i := by rw [hH]
            rw [eH] at e10
            have e9 : mo_think 0 d i n how M8 = some M9 := e9
            unfold mo_bribe_b51 mo_bribe_j110_51 mo_bribe_j118_51
            rw [wi, brN_S]
            refine Tc_f (by omega) (Tc_e e9 (Tc_e e10 (Tc_u ?_)))
            dsimp only
            by_cases z : i = 0
            · rw [if_pos (Or.inl z)]
              exact Tc_t (by omega) (Tc_inl ⟨rfl, rfl, rfl, k5, k6, k7⟩)
            · refine Tc_f (by omega) ?_
              rcases hw with rfl | rfl
              · refine Tc_t rfl ?_
                by_cases y : H i < (brN H 1 i).2
                · rw [if_pos (Or.inr (by rw [if_neg (by decide)]; exact y))]
                  exact Tc_t y (Tc_inl ⟨rfl, rfl, rfl, k5, k6, k7⟩)
                · have hc : ¬ (i = 0 ∨ (if (1 : Int) < 0 then (brN H 1 i).2 < H i else H i < (brN H 1 i).2)) := fun q => q.elim z (fun q => y (by rwa [if_neg (by decide)] at q))
                  rw [if_neg hc]
                  exact Tc_f y (Tc_inl ⟨rfl, rfl, rfl, k5, k6, k7⟩)
              · refine Tc_f (by decide) ?_
                by_cases y : (brN H (-1) i).2 < H i
                · rw [if_pos (Or.inr (by rw [if_pos (by decide)]; exact y))]
                  exact Tc_t y (Tc_inl ⟨rfl, rfl, rfl, k5, k6, k7⟩)
                · have hc : ¬ (i = 0 ∨ (if (-1 : Int) < 0 then (brN H (-1) i).2 < H i else H i < (brN H (-1) i).2)) := fun q => q.elim z (fun q => y (by rwa [if_pos (by decide)] at q))
                  rw [if_neg hc]
                  exact Tc_f y (Tc_inl ⟨rfl, rfl, rfl, k5, k6, k7⟩)
          · obtain ⟨y, y', z, M8⟩ := s
            obtain ⟨rfl, rfl, rfl, q1, q2, q3⟩ := hI
            unfold mo_bribe_b51
            exact Tc_t (by show (60 : Int) < ((61 : Nat) : Int); omega) (Tc_inr ⟨rfl, rfl, q1, q2, q3⟩)
        refine Tc_c l2 (fun r hr => ?_)
        obtain ⟨b1, b2, v, M8⟩ := r
        obtain ⟨rfl, rfl, q3, q4, q5⟩ := hr
        dsimp only at q3 q4 q5 ⊢
        have c8 := c6.tr ((q3.fin h8 q4).sub (by decide))
        obtain ⟨r1, r2⟩ := moRow0 M8
        obtain ⟨M9, s1, s2, s3⟩ := moTell_eq (brN H how 61).2 r1 (by simp)
        obtain ⟨M10, v1, v2, v3⟩ := moTell_eq (hrN (qL M d [])) s2 (by simp)
        have m56 : moF M5 M6 := by rw [← hM6]; exact moF.up (by decide)
        refine Tc_u (Tc_e s1 (Tc_e v1 (Tc_some ⟨rfl, h.go10 (c8.tr ((r2.tr s3).tr v3).chg) (u2.fin ((m56.tr q5).tr ((r2.tr s3).tr v3).mo) v2 (by simp))⟩)))
      · refine Tc_t (isWay_n hw) (Tc_some ?_)
        unfold mo_bribe
        exact Tc_u (Tc_f (by rw [moDonkey_y h.S (c3 278 1 (by decide)) hd]; decide) (Tc_f (by rw [moIn_y hn]; decide) (Tc_f (by omega) (Tc_f (by omega) (Tc_some ⟨rfl, h.go0 c3⟩)))))
    · have mo : Tc (mo_bribe x n how M) (fun q => q.1 = -1 ∧ Rel B q.2) := by
        unfold mo_bribe
        exact Tc_u (Tc_f (by rw [moDonkey_y h.S (c3 278 1 (by decide)) hd]; decide) (Tc_t (moIn_n hn) (Tc_some ⟨rfl, h.go0 c3⟩)))
      exact Tc_i (fun _ => Tc_some mo) (fun q => Tc_t (by omega) (Tc_some mo))
  · refine Tc_t (isDonkey_n h.S.2.2.1 hd) (Tc_some ?_)
    unfold mo_bribe
    exact Tc_u (Tc_t (moDonkey_n h.S (c3 278 1 (by decide)) hd) (Tc_some ⟨rfl, h.go0 c3⟩))
end
section
-- ===== bid =====
def fstB (P : Nat → Prop) (r : Int) : Prop := (∃ j : Nat, j < 61 ∧ P j ∧ (∀ i, i < j → ¬ P i) ∧ r = (j : Int)) ∨ ((∀ i : Nat, i < 61 → ¬ P i) ∧ r = -2)
theorem fstB_uniq {P : Nat → Prop} {r r' : Int} (h : fstB P r) (g : fstB P r') : r = r' := by
  rcases h with ⟨j, h1, h2, h3, h4⟩ | ⟨h1, h2⟩ <;> rcases g with ⟨i, g1, g2, g3, g4⟩ | ⟨g1, g2⟩
  · have : i = j := by
      rcases Nat.lt_trichotomy i j with q | q | q
      · exact absurd g2 (h3 i q)
      · exact q
      · exact absurd h2 (g3 j q)
    subst this
    omega
  · exact absurd h2 (g1 j h1)
  · exact absurd g2 (h1 i g1)
  · omega
theorem after1 {B : Int} {M M1 : MEM} {l : List CA} {d : Nat} (hR : Rel B M) (hB : B ≤ 100000000) (hd : (d : Int) < M 3 2) (h : offTh M M1) (hl : okL l) (ht : thC l M1) :
    ∃ M2 M3, dh_look 224 d M1 = some M2 ∧ fu_afterStroke 224 1 M2 = some (tmN (qL M d l) 1 600, M3) ∧ offTh M M3 ∧ chg [0] M1 M3 := by
  have nw := now_in hR
  obtain ⟨d1, d2, -, -⟩ := dnk hR hB hd
  have hst := qL_ok hR hB hd l
  obtain ⟨eE, eO⟩ := envC_th hR h hl ht
  obtain ⟨M2, e2, o2, f2⟩ := q_lookE hR (Or.inl rfl) hd hB h.cc eE eO
  obtain ⟨r, M3, j', e3, o3, -, -, -, hr⟩ := after_eq (k := 1) (Or.inl rfl) d1 d2 nw.1 (by omega) (by omega) (by decide) (by decide) f2
  have er : r = tmN (qL M d l) 1 600 := tmN_eq hst (by decide) hr
  rw [er] at e3
  exact ⟨M2, M3, e2, e3, h.tr ((o2.tr o3.L).chg (Or.inl rfl)), (o2.tr o3.L).chg (Or.inl rfl)⟩
def offT0 (M M1 : MEM) : Prop := ∀ a k, rg a k ≠ 0 → (a ≠ 225 ∨ k ≠ 4) → M1 a k = M a k
theorem offT0.fin {B : Int} {M M1 : MEM} (h : offT0 M M1) (hR : Rel B M) (h0 : thC [] M1) : chg [0] M M1 := fun a k n => by
  by_cases e : a = 225 ∧ k = 4
  · obtain ⟨rfl, rfl⟩ := e
    rw [h0.1]; exact hR.N.2.2.1.symm
  · exact h a k (by simpa using n) (by omega)
theorem c_bid {B : Int} {M : MEM} (h : Rel B M) (hB : B ≤ 100000000) (x how v : Int) : Lk B (dh_bid x how v M) (mo_bid x how v) := by
  have nw := now_in h
  have c3 : chg [0] M (up2 M 278 13 0) := chg.rf.up (by decide)
  unfold Lk dh_bid
  by_cases hd : 0 ≤ x ∧ x < M 3 2
  · have hN := h.S.2.2.1
    refine Tc_f (by rw [isDonkey_y h.S.2.2.1 hd.1 hd.2]; decide) ?_
    by_cases hw : how = 1 ∨ how = -1
    · refine Tc_f (by rw [isWay_y hw]; decide) ?_
      have hbid : ∀ N : MEM, chg [0] M (up2 N 278 13 0) → mo_bid x how v N = mo_bid_j23 x how v (up2 N 278 13 0) := fun N c => by
        unfold mo_bid
        rw [Option.bind_some, moDonkey_y h.S (c 278 1 (by decide)) hd, if_neg (by decide)]
        by_cases q : how = 1
        · rw [if_pos q]
        · rw [if_neg q, if_pos (by omega)]
      by_cases hv : 1 ≤ v ∧ v ≤ 600
      · refine Tc_f (by rw [far_y hv]; decide) ?_
        obtain ⟨d, rfl⟩ : ∃ d : Nat, x = (d : Int) := ⟨x.toNat, by omega⟩
        obtain ⟨L, hL⟩ : ∃ L : Nat → List CA, L = fun n : Nat => if n = 0 then [] else [] ++ [mkC M d 0 n how] := ⟨_, rfl⟩
        have hLo : ∀ n, okL (L n) := fun n => by
          rw [hL]; dsimp only
          by_cases z : n = 0
          · rw [if_pos z]; exact okL_0
          · rw [if_neg z]; exact okL_1 hw
        obtain ⟨A, hA⟩ : ∃ A : Nat → Int, A = fun n => tmN (qL M d (L n)) 1 600 := ⟨_, rfl⟩
        have hAb : ∀ n, -1 ≤ A n ∧ A n ≤ 600 := fun n => by rw [hA]; exact tmN_le (qL M d (L n)) 1 600
        obtain ⟨P, hP⟩ : ∃ P : Nat → Prop, P = fun n => if how < 0 then (A n < 0 ∨ v ≤ A n) else (0 ≤ A n ∧ A n ≤ v) := ⟨_, rfl⟩
        have hPn : ∀ n, P n ↔ ((how = -1 ∧ (A n < 0 ∨ v ≤ A n)) ∨ (how = 1 ∧ 0 ≤ A n ∧ A n ≤ v)) := fun n => by
          rw [hP]; dsimp only
          rcases hw with rfl | rfl
          · rw [if_neg (by decide)]; omega
          · rw [if_pos (by decide)]; omega
        have l1 : Tc (iter (fun s => dh_bid_b27 d how v s.1 s.2) FU (0, M)) (fun e => ∃ r M2, fstB P r ∧ chg [0] M M2 ∧ (e = .inl (r, M2) ∨ (r = -2 ∧ ∃ w, e = .inr (w, M2)))) := by
          refine Tc_l (fun i s => s.1 = (i : Int) ∧ offTh M s.2 ∧ thC [] s.2 ∧ (∀ i', i' < i → ¬ P i') ∧ offT0 M s.2) _ 61 ⟨rfl, (th_0 h).1, (th_0 h).2, fun i' q => by omega, fun _ _ _ _ => rfl⟩ (by omega) (fun i s hi hI => ?_) (fun s hI => ?_)
          · obtain ⟨z, M1⟩ := s
            obtain ⟨rfl, q1, q2, q3, q4⟩ := hI
            dsimp only at q1 q2 q4 ⊢
            have wi : wr ((i : Int) + 1) = ((i + 1 : Nat) : Int) := (wr_i (by omega) (by omega)).trans (by omega)
            have run : ∀ M2 : MEM, offTh M M2 → thC (L i) M2 → offT0 M M2 → Tc (dh_bid_j48_27 d how v i M2) (fun r => (∃ s', r = .inl s' ∧ (s'.1 = ((i + 1 : Nat) : Int) ∧ offTh M s'.2 ∧ thC [] s'.2 ∧ (∀ i', i' < i + 1 → ¬ P i') ∧ offT0 M s'.2)) ∨ ∃ e, r = .inr e ∧ ∃ r M2, fstB P r ∧ chg [0] M M2 ∧ (e = .inl (r, M2) ∨ (r = -2 ∧ ∃ w, e = .inr (w, M2)))) := fun M2 k1 k2 k3 => by
              obtain ⟨M3, M4, e3, e4, k4, k4'⟩ := after1 h hB hd.2 k1 (hLo i) k2
              have eA : tmN (qL M d (L i)) 1 600 = A i := by rw [hA]
              rw [eA] at e4
              obtain ⟨k5, k6⟩ := th_clr k4
              have k8 : offT0 M (up2 M4 225 4 0) := fun a k x z => by
                have : up2 M4 225 4 0 a k = M4 a k := by
                  rcases z with z | z
                  · exact rd_a z
                  · exact rd_k z
                rw [this, k4' a k (by simpa using x)]
                exact k3 a k x z
              have k7 : chg [0] M (up2 M4 225 4 0) := k8.fin h k6
              have hb := hAb i
              have hPi := hPn i
              have yes : P i → Tc (some (.inr (.inl ((i : Int), up2 M4 225 4 0))) : Option ((Int × MEM) ⊕ ((Int × MEM) ⊕ (Int × MEM)))) (fun r => (∃ s', r = .inl s' ∧ (s'.1 = ((i + 1 : Nat) : Int) ∧ offTh M s'.2 ∧ thC [] s'.2 ∧ (∀ i', i' < i + 1 → ¬ P i') ∧ offT0 M s'.2)) ∨ ∃ e, r = .inr e ∧ ∃ r M2, fstB P r ∧ chg [0] M M2 ∧ (e = .inl (r, M2) ∨ (r = -2 ∧ ∃ w, e = .inr (w, M2)))) := fun p => Tc_inrR ⟨_, _, Or.inl ⟨i, hi, p, q3, rfl⟩, k7, Or.inl rfl⟩
              have no : ¬ P i → Tc (some (.inl (wr ((i : Int) + 1), up2 M4 225 4 0)) : Option ((Int × MEM) ⊕ ((Int × MEM) ⊕ (Int × MEM)))) (fun r => (∃ s', r = .inl s' ∧ (s'.1 = ((i + 1 : Nat) : Int) ∧ offTh M s'.2 ∧ thC [] s'.2 ∧ (∀ i', i' < i + 1 → ¬ P i') ∧ offT0 M s'.2)) ∨ ∃ e, r = .inr e ∧ ∃ r M2, fstB P r ∧ chg [0] M M2 ∧ (e = .inl (r, M2) ∨ (r = -2 ∧ ∃ w, e = .inr (w, M2)))) := fun p => Tc_inlL ⟨wi, k5, k6, fun i' hi' => by
                by_cases e : i' = i
                · subst e; exact p
                · exact q3 i' (by omega), k8⟩
              unfold dh_bid_j48_27 dh_bid_j89_27 dh_bid_j94_27 dh_bid_j111_27 dh_bid_j112_27 dh_bid_j134_27
              refine Tc_e e3 (Tc_e e4 (Tc_u ?_))
              dsimp only
              generalize A i = a at *
              rcases hw with rfl | rfl
              · by_cases a0 : a < 0
                · exact Tc_t a0 (Tc_t a0 (Tc_t (by decide) (Tc_t rfl (no (fun p => by have := hPi.mp p; omega)))))
                · refine Tc_f a0 (Tc_i (fun c => Tc_f a0 (Tc_i (fun c2 => Tc_t (by decide) (Tc_t rfl (no (fun p => by have := hPi.mp p; omega)))) (fun c2 => Tc_t (by decide) (Tc_f (by decide) (yes (hPi.mpr (by omega))))))) (fun c => Tc_f a0 (Tc_i (fun c2 => Tc_t (by decide) (Tc_t rfl (no (fun p => by have := hPi.mp p; omega)))) (fun c2 => Tc_t (by decide) (Tc_f (by decide) (yes (hPi.mpr (by omega))))))))
              · by_cases a0 : a < 0
                · exact Tc_t a0 (Tc_t a0 (Tc_f (by decide) (Tc_f (by decide) (yes (hPi.mpr (by omega))))))
                · refine Tc_f a0 (Tc_i (fun c => Tc_f a0 (Tc_i (fun c2 => Tc_f (by decide) (Tc_t rfl (no (fun p => by have := hPi.mp p; omega)))) (fun c2 => Tc_f (by decide) (Tc_t rfl (no (fun p => by have := hPi.mp p; omega)))))) (fun c => Tc_f a0 (Tc_i (fun c2 => Tc_f (by decide) (Tc_f (by decide) (yes (hPi.mpr (by omega))))) (fun c2 => Tc_f (by decide) (Tc_f (by decide) (yes (hPi.mpr (by omega))))))))
            unfold dh_bid_b27
            refine Tc_f (by omega) ?_
            by_cases z : i = 0
            · refine Tc_t (by omega) (run M1 q1 ?_ q4)
              rw [hL]; dsimp only; rw [if_pos z]; exact q2
            · obtain ⟨M2, e2, k1, k2, k3⟩ := think_eq (d := d) (fr := 0) (n := (i : Int)) (how := how) h hB q1 (by simp) q2 (by omega) (by omega)
              refine Tc_f (by omega) (Tc_e e2 (run M2 k1 ?_ ?_))
              · rw [hL]; dsimp only; rw [if_neg z]; exact k2
              · exact fun a k x z => (k3 a k x z).trans (q4 a k x z)
          · obtain ⟨z, M1⟩ := s
            obtain ⟨rfl, q1, q2, q3, q4⟩ := hI
            unfold dh_bid_b27
            exact Tc_t (by show (60 : Int) < ((61 : Nat) : Int); omega) (Tc_inr ⟨-2, M1, Or.inr ⟨q3, rfl⟩, q4.fin h q2, Or.inr ⟨rfl, _, rfl⟩⟩)
        refine Tc_c l1 (fun e he => ?_)
        obtain ⟨r, M2, hr, c2, he⟩ := he
        have mo : Tc (mo_bid d how v M2) (fun q => q.1 = r ∧ Rel B q.2) := by
          have c4 : chg [0] M (up2 M2 278 13 0) := c2.up (by decide)
          rw [hbid M2 c4]
          generalize up2 M2 278 13 0 = M3 at *
          have h8 : M3 278 8 = 0 := (c4 278 8 (by decide)).trans h.N.2.2.2.2.2.1
          unfold mo_bid_j23
          refine Tc_f (by rw [show mo_isMore v = 1 from moIn_y hv]; decide) ?_
          have l2 : Tc (iter (fun s => mo_bid_b39 d how v s.1 s.2.1 s.2.2) FU (-2, 0, M3)) (fun e => fstB P e.1 ∧ offThM M3 e.2.2 ∧ thM [] e.2.2) := by
            refine Tc_l (fun i s => s.2.1 = (i : Int) ∧ offThM M3 s.2.2 ∧ thM [] s.2.2 ∧ ((s.1 = -2 ∧ ∀ i', i' < i → ¬ P i') ∨ ∃ j : Nat, j < i ∧ j < 61 ∧ P j ∧ (∀ i, i < j → ¬ P i) ∧ s.1 = (j : Int))) _ 61 ⟨rfl, (thM_0 h8).1, (thM_0 h8).2, Or.inl ⟨rfl, fun i' q => by omega⟩⟩ (by omega) (fun i s hi hI => ?_) (fun s hI => ?_)
            · obtain ⟨y, z, M4⟩ := s
              obtain ⟨rfl, q1, q2, q3⟩ := hI
              dsimp only at q1 q2 q3 ⊢
              have wi : wr ((i : Int) + 1) = ((i + 1 : Nat) : Int) := (wr_i (by omega) (by omega)).trans (by omega)
              unfold mo_bid_b39
              refine Tc_f (by omega) ?_
              rcases q3 with ⟨rfl, q3⟩ | ⟨j, j1, j2, j3, j4, rfl⟩
              · refine Tc_f (by decide) ?_
                have run : ∀ M5 : MEM, offThM M3 M5 → thM (L i) M5 → Tc (mo_bid_j66_39 d how v (-2) i M5) (fun r => (∃ s', r = .inl s' ∧ (s'.2.1 = ((i + 1 : Nat) : Int) ∧ offThM M3 s'.2.2 ∧ thM [] s'.2.2 ∧ ((s'.1 = -2 ∧ ∀ i', i' < i + 1 → ¬ P i') ∨ ∃ j : Nat, j < i + 1 ∧ j < 61 ∧ P j ∧ (∀ i, i < j → ¬ P i) ∧ s'.1 = (j : Int)))) ∨ ∃ e, r = .inr e ∧ (fstB P e.1 ∧ offThM M3 e.2.2 ∧ thM [] e.2.2)) := fun M5 k1 k2 => by
                  obtain ⟨M6, e6, k3, k4, -, -, g3, g4⟩ := times_E h hB hd.2 (c4.sub (by decide)) k1 (hLo i) k2
                  obtain ⟨k5, k6⟩ := thM_clr k3
                  have hst := qL_ok h hB hd.2 (L i)
                  have ht := tmN_times (k := 1) hst (by decide) g3 g4
                  have eA : tmN (qL M d (L i)) 1 600 = A i := by rw [hA]
                  rw [eA] at ht
                  have hC := cnt_le hst (show 600 ≤ 1000000 by omega)
                  have hb := hAb i
                  have hPi := hPn i
                  have e38 : up2 M6 278 8 0 278 38 = M6 278 38 := rd_k (by decide)
                  have e293 : up2 M6 278 8 0 293 0 = M6 293 0 := rd_a (by decide)
                  have yes : P i → Tc (some (.inl ((i : Int), wr ((i : Int) + 1), up2 M6 278 8 0)) : Option ((Int × Int × MEM) ⊕ (Int × Int × MEM))) (fun r => (∃ s', r = .inl s' ∧ (s'.2.1 = ((i + 1 : Nat) : Int) ∧ offThM M3 s'.2.2 ∧ thM [] s'.2.2 ∧ ((s'.1 = -2 ∧ ∀ i', i' < i + 1 → ¬ P i') ∨ ∃ j : Nat, j < i + 1 ∧ j < 61 ∧ P j ∧ (∀ i, i < j → ¬ P i) ∧ s'.1 = (j : Int)))) ∨ ∃ e, r = .inr e ∧ (fstB P e.1 ∧ offThM M3 e.2.2 ∧ thM [] e.2.2)) := fun p => Tc_inlL ⟨wi, k5, k6, Or.inr ⟨i, by omega, hi, p, q3, rfl⟩⟩
                  have no : ¬ P i → Tc (some (.inl (-2, wr ((i : Int) + 1), up2 M6 278 8 0)) : Option ((Int × Int × MEM) ⊕ (Int × Int × MEM))) (fun r => (∃ s', r = .inl s' ∧ (s'.2.1 = ((i + 1 : Nat) : Int) ∧ offThM M3 s'.2.2 ∧ thM [] s'.2.2 ∧ ((s'.1 = -2 ∧ ∀ i', i' < i + 1 → ¬ P i') ∨ ∃ j : Nat, j < i + 1 ∧ j < 61 ∧ P j ∧ (∀ i, i < j → ¬ P i) ∧ s'.1 = (j : Int)))) ∨ ∃ e, r = .inr e ∧ (fstB P e.1 ∧ offThM M3 e.2.2 ∧ thM [] e.2.2)) := fun p => Tc_inlL ⟨wi, k5, k6, Or.inl ⟨rfl, fun i' hi' => by
                    by_cases e : i' = i
                    · subst e; exact p
                    · exact q3 i' (by omega)⟩⟩
                  have fin : ∀ nx, nx = (if A i < 0 then 601 else A i) → Tc (mo_bid_j97_39 d how v (-2) i nx (up2 M6 278 8 0)) (fun r => (∃ s', r = .inl s' ∧ (s'.2.1 = ((i + 1 : Nat) : Int) ∧ offThM M3 s'.2.2 ∧ thM [] s'.2.2 ∧ ((s'.1 = -2 ∧ ∀ i', i' < i + 1 → ¬ P i') ∨ ∃ j : Nat, j < i + 1 ∧ j < 61 ∧ P j ∧ (∀ i, i < j → ¬ P i) ∧ s'.1 = (j : Int)))) ∨ ∃ e, r = .inr e ∧ (fstB P e.1 ∧ offThM M3 e.2.2 ∧ thM [] e.2.2)) := fun nx hnx => by
                    unfold mo_bid_j97_39 mo_bid_j119_39 mo_bid_j123_39
                    generalize A i = a at *
                    rcases hw with rfl | rfl
                    · refine Tc_t rfl (Tc_i (fun c => no (fun p => ?_)) (fun c => yes (hPi.mpr ?_)))
                      · have := hPi.mp p
                        split at hnx <;> omega
                      · split at hnx <;> omega
                    · refine Tc_f (by decide) (Tc_i (fun c => no (fun p => ?_)) (fun c => yes (hPi.mpr ?_)))
                      · have := hPi.mp p
                        split at hnx <;> omega
                      · split at hnx <;> omega
                  unfold mo_bid_j66_39
                  refine Tc_e e6 (Tc_u ?_)
                  rw [e38, e293]
                  rw [show ((1 : Int) - 1).toNat = 0 from rfl] at ht
                  rcases ht with ⟨t1, t2, t3, t4⟩ | ⟨t1, t2⟩
                  · rw [wr_i (x := M6 293 0 + 1) (by omega) (by omega)]
                    refine Tc_f (by omega) (fin _ ?_)
                    rw [if_neg (by omega)]; omega
                  · refine Tc_t (by omega) (fin _ ?_)
                    rw [if_pos (by omega)]
                by_cases z : i = 0
                · refine Tc_t (by omega) (run M4 q1 ?_)
                  rw [hL]; dsimp only; rw [if_pos z]; exact q2
                · obtain ⟨M5, e5, k1, -, k2, -⟩ := moThink_eq (l := []) (d := d) (fr := 0) (n := (i : Int)) (how := how) h hB (c4.sub (by decide)) q1 (by simp) q2 (by omega) (by omega)
                  have e5 : mo_think 0 d 0 i how M4 = some M5 := e5
                  refine Tc_f (by omega) (Tc_e e5 (run M5 k1 ?_))
                  rw [hL]; dsimp only; rw [if_neg z]; exact k2
              · exact Tc_t (by omega) (Tc_inrR ⟨Or.inl ⟨j, j2, j3, j4, rfl⟩, q1, q2⟩)
            · obtain ⟨y, z, M4⟩ := s
              obtain ⟨rfl, q1, q2, q3⟩ := hI
              dsimp only at q1 q2 q3 ⊢
              unfold mo_bid_b39
              refine Tc_t (by omega) (Tc_inr ⟨?_, q1, q2⟩)
              rcases q3 with ⟨rfl, q3⟩ | ⟨j, j1, j2, j3, j4, rfl⟩
              · exact Or.inr ⟨q3, rfl⟩
              · exact Or.inl ⟨j, j2, j3, j4, rfl⟩
          refine Tc_c l2 (fun e he => Tc_some ⟨fstB_uniq he.1 hr, h.go0 (c4.tr (he.2.1.fin h8 he.2.2))⟩)
        rcases he with rfl | ⟨rfl, w, rfl⟩
        · exact Tc_some mo
        · exact Tc_some mo
      · refine Tc_t (far_n hv) (Tc_some ?_)
        dsimp only
        rw [hbid M c3]
        unfold mo_bid_j23
        exact Tc_t (moIn_n hv) (Tc_some ⟨rfl, h.go0 c3⟩)
    · refine Tc_t (isWay_n hw) (Tc_some ?_)
      unfold mo_bid
      exact Tc_u (Tc_f (by rw [moDonkey_y h.S (c3 278 1 (by decide)) hd]; decide) (Tc_f (by omega) (Tc_f (by omega) (Tc_some ⟨rfl, h.go0 c3⟩))))
  · refine Tc_t (isDonkey_n h.S.2.2.1 hd) (Tc_some ?_)
    unfold mo_bid
    exact Tc_u (Tc_t (moDonkey_n h.S (c3 278 1 (by decide)) hd) (Tc_some ⟨rfl, h.go0 c3⟩))
end
section
-- ===== rests =====
noncomputable def hbN (M : MEM) (d : Nat) (n a b : Int) : Int := hrN (qL M d ([] ++ [mkC M d a n (-1)] ++ [mkC M d b n 1]))
theorem okL_2 {M : MEM} {d : Nat} {a b n : Int} : okL ([] ++ [mkC M d a n (-1)] ++ [mkC M d b n 1]) := ⟨by simp, fun c hc => by
  have : c = mkC M d a n (-1) ∨ c = mkC M d b n 1 := by simpa using hc
  rcases this with rfl | rfl
  · exact Or.inr rfl
  · exact Or.inl rfl⟩
theorem boys_eq {B : Int} {M M1 : MEM} {d : Nat} {n a b : Int} (hR : Rel B M) (hB : B ≤ 100000000) (hd : (d : Int) < M 3 2) (h : offTh M M1) (ht : thC [] M1) (hn : 1 ≤ n ∧ n ≤ 10) (ha : 0 ≤ a ∧ a ≤ 30) (hb : 0 ≤ b ∧ b ≤ 30) :
    ∃ M2, dh_hourOfBoys d n a b M1 = some (hbN M d n a b, M2) ∧ offTh M M2 ∧ thC [] M2 ∧ offT0 M1 M2 := by
  obtain ⟨M2, e2, k1, k2, k3⟩ := think_eq (d := d) (fr := a) (n := n) (how := -1) hR hB h (by simp) ht (by omega) (by omega)
  obtain ⟨M3, e3, k4, k5, k6⟩ := think_eq (d := d) (fr := b) (n := n) (how := 1) hR hB k1 (by simp) k2 (by omega) (by omega)
  obtain ⟨M4, M5, e4, e5, k7, k8, k9, k10⟩ := run2 hR hB hd k4 okL_2 k5
  obtain ⟨g1, g2⟩ := th_clr k7
  refine ⟨up2 M5 225 4 0, ?_, g1, g2, fun a k x z => ?_⟩
  · unfold dh_hourOfBoys
    rw [e2, Option.bind_some, e3, Option.bind_some, e4, Option.bind_some, e5, Option.bind_some, Option.bind_some, k10 _ (up2_ne (by decide)) (up2_ne (by decide)), Option.bind_some]
    rfl
  · have : up2 M5 225 4 0 a k = M5 a k := by
      rcases z with z | z
      · exact rd_a z
      · exact rd_k z
    rw [this, k9 a k (by simpa using x), k6 a k x z, k3 a k x z]
theorem moBoys_eq {B : Int} {M M0 M1 : MEM} {d : Nat} {n a b : Int} (hR : Rel B M) (hB : B ≤ 100000000) (hd : (d : Int) < M 3 2) (c0 : chg [0, 10] M M0) (h : offThM M0 M1) (ht : thM [] M1) (hn : 1 ≤ n ∧ n ≤ 10) (ha : 0 ≤ a ∧ a ≤ 30) (hb : 0 ≤ b ∧ b ≤ 30) (h0 : M1 301 0 = a) (h1 : M1 301 1 = b) :
    ∃ M2, mo_hourBy d n M1 = some (hbN M d n a b, M2) ∧ offThM M0 M2 ∧ thM [] M2 ∧ moF M1 M2 ∧ M2 301 = M1 301 := by
  obtain ⟨M2, e2, k1, k1', k2, k3⟩ := moThink_eq (l := []) (d := d) (fr := a) (n := n) (how := -1) hR hB c0 h (by simp) ht (by omega) (by omega)
  obtain ⟨M3, e3, k4, k4', k5, k6⟩ := moThink_eq (l := [] ++ [mkC M d a n (-1)]) (d := d) (fr := b) (n := n) (how := 1) hR hB c0 k1 (by simp) k2 (by omega) (by omega)
  obtain ⟨M4, e4, k7, k8, k9, k10⟩ := moHour_eq hR hB hd c0 k4 okL_2 k5
  obtain ⟨g1, g2⟩ := thM_clr k7
  have e2 : mo_think 0 d a n (-1) M1 = some M2 := e2
  have e3 : mo_think 1 d b n 1 M2 = some M3 := e3
  refine ⟨up2 M4 278 8 0, ?_, g1, g2, ((k1'.tr k4').tr k9).tr (moF.up (by decide)), ?_⟩
  · unfold mo_hourBy
    rw [h0, e2, Option.bind_some, k3, h1, e3, Option.bind_some, e4, Option.bind_some, Option.bind_some]
    rfl
  · rw [up2_ne (by decide), k10, k6, k3]
/-- the best of 31, by how long -/
def boN (V : Nat → Int) (gt : Bool) (s0 : Int × Int) : Nat → Int × Int
  | 0 => s0
  | i + 1 => if (if gt = true then (boN V gt s0 i).2 < V i else V i < (boN V gt s0 i).2) then ((i : Int), V i) else boN V gt s0 i
theorem boN_S (V : Nat → Int) (gt : Bool) (s0 : Int × Int) (i : Nat) : boN V gt s0 (i + 1) = if (if gt = true then (boN V gt s0 i).2 < V i else V i < (boN V gt s0 i).2) then ((i : Int), V i) else boN V gt s0 i := rfl
theorem boN_in {V : Nat → Int} {gt : Bool} {s0 : Int × Int} (h : 0 ≤ s0.1 ∧ s0.1 ≤ 30) : ∀ i, i ≤ 31 → 0 ≤ (boN V gt s0 i).1 ∧ (boN V gt s0 i).1 ≤ 30 := by
  intro i
  induction i with
  | zero => intro _; exact h
  | succ i ih =>
    intro hi
    rw [boN_S]
    by_cases c : (if gt = true then (boN V gt s0 i).2 < V i else V i < (boN V gt s0 i).2)
    · rw [if_pos c]; dsimp only; omega
    · rw [if_neg c]; exact ih (by omega)
noncomputable def boV (M : MEM) (d : Nat) (n a b : Int) (gt : Bool) : Nat → Int := fun i => if gt = true then hbN M d n i b else hbN M d n a i
theorem boB_ex : ∃ f : MEM → Nat → Int → Int → Int → Bool → Int, ∀ M d n a b gt, f M d n a b gt = (boN (boV M d n a b gt) gt (if gt = true then a else b, hbN M d n a b) 31).1 := ⟨fun M d n a b gt => (boN (boV M d n a b gt) gt (if gt = true then a else b, hbN M d n a b) 31).1, fun _ _ _ _ _ _ => rfl⟩
/-- kept closed -/
noncomputable def boB : MEM → Nat → Int → Int → Int → Bool → Int := Classical.choose boB_ex
theorem boB_def (M : MEM) (d : Nat) (n a b : Int) (gt : Bool) : boB M d n a b gt = (boN (boV M d n a b gt) gt (if gt = true then a else b, hbN M d n a b) 31).1 := Classical.choose_spec boB_ex M d n a b gt
theorem boB_in {M : MEM} {d : Nat} {n a b : Int} {gt : Bool} (ha : 0 ≤ a ∧ a ≤ 30) (hb : 0 ≤ b ∧ b ≤ 30) : 0 ≤ boB M d n a b gt ∧ boB M d n a b gt ≤ 30 := by
  rw [boB_def]
  exact boN_in (by dsimp only; split <;> omega) 31 (Nat.le_refl _)
theorem better_m (v t : Int) : dh_isBetter (-1) v t = if t < v then 1 else 0 := by
  unfold dh_isBetter
  rw [if_neg (by decide)]
  by_cases c : t < v
  · rw [if_neg (by omega), if_pos c]
  · rw [if_pos (by omega), if_neg c]
theorem better_p (v t : Int) : dh_isBetter 1 v t = if v < t then 1 else 0 := by
  unfold dh_isBetter
  rw [if_pos (by decide)]
  by_cases c : v < t
  · rw [if_neg (by omega), if_pos c]
  · rw [if_pos (by omega), if_neg c]
theorem best_eq {B : Int} {M M1 : MEM} {d : Nat} {n a b boy : Int} {gt : Bool} (hR : Rel B M) (hB : B ≤ 100000000) (hd : (d : Int) < M 3 2) (h : offTh M M1) (ht : thC [] M1) (hn : 1 ≤ n ∧ n ≤ 10) (ha : 0 ≤ a ∧ a ≤ 30) (hb : 0 ≤ b ∧ b ≤ 30) (hboy : (boy = 0 ∧ gt = true) ∨ (boy = 1 ∧ gt = false)) :
    ∃ M2, dh_bestOfBoy d n boy a b M1 = some (boB M d n a b gt, M2) ∧ offTh M M2 ∧ thC [] M2 := by
  obtain ⟨M2, e2, k1, k2, -⟩ := boys_eq hR hB hd h ht hn ha hb
  have l1 : Tc (iter (fun s => dh_bestOfBoy_b28 d n boy a b s.1 s.2.1 s.2.2.1 s.2.2.2) FU ((if gt = true then a else b), hbN M d n a b, 0, M2)) (fun r => r.1 = boB M d n a b gt ∧ offTh M r.2.2.2 ∧ thC [] r.2.2.2) := by
    refine Tc_n (fun i s => s.1 = (boN (boV M d n a b gt) gt (if gt = true then a else b, hbN M d n a b) i).1 ∧ s.2.1 = (boN (boV M d n a b gt) gt (if gt = true then a else b, hbN M d n a b) i).2 ∧ s.2.2.1 = (i : Int) ∧ offTh M s.2.2.2 ∧ thC [] s.2.2.2) 31 ⟨rfl, rfl, rfl, k1, k2⟩ (by omega) (fun i s hi hI => ?_) (fun s hI => ?_)
    · obtain ⟨y, y', z, M3⟩ := s
      obtain ⟨rfl, rfl, rfl, q1, q2⟩ := hI
      dsimp only at q1 q2 ⊢
      have wi : wr ((i : Int) + 1) = ((i + 1 : Nat) : Int) := (wr_i (by omega) (by omega)).trans (by omega)
      generalize hs : boN (boV M d n a b gt) gt (if gt = true then a else b, hbN M d n a b) i = s1 at *
      have hS := boN_S (boV M d n a b gt) gt (if gt = true then a else b, hbN M d n a b) i
      rw [hs] at hS
      unfold dh_bestOfBoy_b28
      refine Tc_f (by omega) ?_
      have fin : ∀ (v : Int) (M4 : MEM), v = boV M d n a b gt i → offTh M M4 → thC [] M4 → Tc (dh_bestOfBoy_j62_28 d n boy a b s1.1 s1.2 i v M4) (fun r => ∃ s', r = .inl s' ∧ s'.1 = (boN (boV M d n a b gt) gt (if gt = true then a else b, hbN M d n a b) (i + 1)).1 ∧ s'.2.1 = (boN (boV M d n a b gt) gt (if gt = true then a else b, hbN M d n a b) (i + 1)).2 ∧ s'.2.2.1 = ((i + 1 : Nat) : Int) ∧ offTh M s'.2.2.2 ∧ thC [] s'.2.2.2) := fun v M4 hv g1 g2 => by
        unfold dh_bestOfBoy_j62_28 dh_bestOfBoy_j73_28 dh_bestOfBoy_j91_28
        rw [wi, hS, ← hv]
        rcases hboy with ⟨rfl, rfl⟩ | ⟨rfl, rfl⟩
        · refine Tc_t rfl ?_
          have hbt := better_m v s1.2
          by_cases c : s1.2 < v
          · rw [if_pos c] at hbt
            have hc : (if (true : Bool) = true then s1.2 < v else v < s1.2) := c
            rw [if_pos hc]
            exact Tc_f (by rw [hbt]; decide) (Tc_inl ⟨rfl, rfl, rfl, g1, g2⟩)
          · rw [if_neg c] at hbt
            have hc : ¬ (if (true : Bool) = true then s1.2 < v else v < s1.2) := c
            rw [if_neg hc]
            exact Tc_t hbt (Tc_inl ⟨rfl, rfl, rfl, g1, g2⟩)
        · refine Tc_f (by decide) ?_
          have hbt := better_p v s1.2
          by_cases c : v < s1.2
          · rw [if_pos c] at hbt
            have hc : (if (false : Bool) = true then s1.2 < v else v < s1.2) := c
            rw [if_pos hc]
            exact Tc_f (by rw [hbt]; decide) (Tc_inl ⟨rfl, rfl, rfl, g1, g2⟩)
          · rw [if_neg c] at hbt
            have hc : ¬ (if (false : Bool) = true then s1.2 < v else v < s1.2) := c
            rw [if_neg hc]
            exact Tc_t hbt (Tc_inl ⟨rfl, rfl, rfl, g1, g2⟩)
      rcases hboy with ⟨rfl, rfl⟩ | ⟨rfl, rfl⟩
      · obtain ⟨M4, e4, g1, g2, -⟩ := boys_eq (a := (i : Int)) (b := b) hR hB hd q1 q2 hn (by omega) hb
        exact Tc_t rfl (Tc_e e4 (fin _ _ rfl g1 g2))
      · obtain ⟨M4, e4, g1, g2, -⟩ := boys_eq (a := a) (b := (i : Int)) hR hB hd q1 q2 hn ha (by omega)
        exact Tc_f (by decide) (Tc_e e4 (fin _ _ rfl g1 g2))
    · obtain ⟨y, y', z, M3⟩ := s
      obtain ⟨rfl, rfl, rfl, q1, q2⟩ := hI
      unfold dh_bestOfBoy_b28
      exact Tc_t (by show (30 : Int) < ((31 : Nat) : Int); omega) (Tc_inr ⟨(boB_def _ _ _ _ _ _).symm, q1, q2⟩)
  obtain ⟨r, e3, g1, g2, g3⟩ := l1
  refine ⟨r.2.2.2, ?_, g2, g3⟩
  unfold dh_bestOfBoy dh_bestOfBoy_j11
  rcases hboy with ⟨rfl, rfl⟩ | ⟨rfl, rfl⟩
  · rw [if_pos rfl, e2, Option.bind_some]
    rw [if_pos rfl] at e3
    rw [e3, Option.bind_some, g1]
  · rw [if_neg (by decide), e2, Option.bind_some]
    rw [if_neg (by decide)] at e3
    rw [e3, Option.bind_some, g1]
/-- behind j turns: both MINUTES, how many changed nothing -/
noncomputable def rsN (M : MEM) (d : Nat) (n : Int) : Nat → Int × Int × Int
  | 0 => (0, 0, 0)
  | j + 1 => if j % 2 = 0 then (boB M d n (rsN M d n j).1 (rsN M d n j).2.1 true, (rsN M d n j).2.1, if boB M d n (rsN M d n j).1 (rsN M d n j).2.1 true = (rsN M d n j).1 then (rsN M d n j).2.2 + 1 else 0)
    else ((rsN M d n j).1, boB M d n (rsN M d n j).1 (rsN M d n j).2.1 false, if boB M d n (rsN M d n j).1 (rsN M d n j).2.1 false = (rsN M d n j).2.1 then (rsN M d n j).2.2 + 1 else 0)
theorem rsN_S (M : MEM) (d : Nat) (n : Int) (j : Nat) : rsN M d n (j + 1) = if j % 2 = 0 then (boB M d n (rsN M d n j).1 (rsN M d n j).2.1 true, (rsN M d n j).2.1, if boB M d n (rsN M d n j).1 (rsN M d n j).2.1 true = (rsN M d n j).1 then (rsN M d n j).2.2 + 1 else 0)
    else ((rsN M d n j).1, boB M d n (rsN M d n j).1 (rsN M d n j).2.1 false, if boB M d n (rsN M d n j).1 (rsN M d n j).2.1 false = (rsN M d n j).2.1 then (rsN M d n j).2.2 + 1 else 0) := rfl
theorem rsN_in (M : MEM) (d : Nat) (n : Int) : ∀ j : Nat, (0 ≤ (rsN M d n j).1 ∧ (rsN M d n j).1 ≤ 30) ∧ (0 ≤ (rsN M d n j).2.1 ∧ (rsN M d n j).2.1 ≤ 30) ∧ 0 ≤ (rsN M d n j).2.2 ∧ (rsN M d n j).2.2 ≤ j := by
  intro j
  induction j with
  | zero => exact ⟨⟨Int.le_refl _, (by decide : (0 : Int) ≤ 30)⟩, ⟨Int.le_refl _, (by decide : (0 : Int) ≤ 30)⟩, Int.le_refl _, Int.le_refl _⟩
  | succ j ih =>
    obtain ⟨h1, h2, h3, h4⟩ := ih
    rw [rsN_S]
    split
    · refine ⟨boB_in h1 h2, h2, ?_, ?_⟩ <;> dsimp only <;> split <;> omega
    · refine ⟨h1, boB_in h1 h2, ?_, ?_⟩ <;> dsimp only <;> split <;> omega
/-- so many turns it takes -/
def rsE (M : MEM) (d : Nat) (n m : Int) (J : Nat) : Prop := (J : Int) ≤ m ∧ ((J : Int) = m ∨ 2 ≤ (rsN M d n J).2.2) ∧ ∀ j, j < J → (rsN M d n j).2.2 < 2
theorem rsE_uniq {M : MEM} {d : Nat} {n m : Int} {J K : Nat} (h : rsE M d n m J) (g : rsE M d n m K) : J = K := by
  obtain ⟨h1, h2, h3⟩ := h
  obtain ⟨g1, g2, g3⟩ := g
  rcases Nat.lt_trichotomy J K with q | q | q
  · have := g3 J q
    omega
  · exact q
  · have := h3 K q
    omega
theorem c_rests {B : Int} {M : MEM} (h : Rel B M) (hB : B ≤ 100000000) (x n m : Int) : Lk B (dh_rests x n m M) (mo_rests x n m) := by
  have nw := now_in h
  have c3 : chg [0] M (up2 M 278 13 0) := chg.rf.up (by decide)
  unfold Lk dh_rests
  by_cases hd : 0 ≤ x ∧ x < M 3 2
  · have hN := h.S.2.2.1
    refine Tc_f (by rw [isDonkey_y h.S.2.2.1 hd.1 hd.2]; decide) ?_
    by_cases hn : 1 ≤ n ∧ n ≤ 10
    · refine Tc_f (by omega) (Tc_f (by omega) ?_)
      by_cases hm : 0 ≤ m ∧ m ≤ 20
      · refine Tc_f (by omega) (Tc_t hm.2 ?_)
        obtain ⟨d, rfl⟩ : ∃ d : Nat, x = (d : Int) := ⟨x.toNat, by omega⟩
        have l1 : Tc (iter (fun s => dh_rests_b43 d n m s.1 s.2.1 s.2.2.1 s.2.2.2.1 s.2.2.2.2) FU (0, 0, 0, 0, M)) (fun r => ∃ J : Nat, rsE M d n m J ∧ r.1 = (rsN M d n J).1 ∧ r.2.1 = (rsN M d n J).2.1 ∧ r.2.2.1 = (J : Int) ∧ r.2.2.2.1 = (rsN M d n J).2.2 ∧ offTh M r.2.2.2.2 ∧ thC [] r.2.2.2.2) := by
          refine Tc_l (fun j s => s.1 = (rsN M d n j).1 ∧ s.2.1 = (rsN M d n j).2.1 ∧ s.2.2.1 = (j : Int) ∧ s.2.2.2.1 = (rsN M d n j).2.2 ∧ offTh M s.2.2.2.2 ∧ thC [] s.2.2.2.2 ∧ ∀ j', j' < j → (rsN M d n j').2.2 < 2) _ m.toNat ⟨rfl, rfl, rfl, rfl, (th_0 h).1, (th_0 h).2, fun j' q => by omega⟩ (by omega) (fun j s hj hI => ?_) (fun s hI => ?_)
          · obtain ⟨y1, y2, y3, y4, M1⟩ := s
            obtain ⟨rfl, rfl, rfl, rfl, q1, q2, q3⟩ := hI
            dsimp only at q1 q2 q3 ⊢
            have wj : wr ((j : Int) + 1) = ((j + 1 : Nat) : Int) := (wr_i (by omega) (by omega)).trans (by omega)
            obtain ⟨i1, i2, i3, i4⟩ := rsN_in M d n j
            have hS := rsN_S M d n j
            have htm : Int.tmod (j : Int) 2 = ((j % 2 : Nat) : Int) := by rw [tmod_nn (by omega)]; omega
            unfold dh_rests_b43
            refine Tc_f (by omega) (Tc_i (fun c => Tc_inrR ⟨j, ⟨by omega, Or.inr c, q3⟩, rfl, rfl, rfl, rfl, q1, q2⟩) (fun c => ?_))
            rw [htm]
            have q3' : ∀ j', j' < j + 1 → (rsN M d n j').2.2 < 2 := fun j' hj' => by
              by_cases e : j' = j
              · subst e; omega
              · exact q3 j' (by omega)
            unfold dh_rests_j73_43 dh_rests_j101_43 dh_rests_j116_43 dh_rests_j133_43
            rw [wj]
            by_cases p : j % 2 = 0
            · rw [p]
              rw [if_pos p] at hS
              obtain ⟨M2, e2, k1, k2⟩ := best_eq (boy := 0) (gt := true) h hB hd.2 q1 q2 hn i1 i2 (Or.inl ⟨rfl, rfl⟩)
              refine Tc_t rfl (Tc_e e2 (Tc_t rfl (Tc_f (by decide) ?_)))
              dsimp only
              refine Tc_i (fun z => Tc_inlL ⟨by rw [hS], by rw [hS], rfl, ?_, k1, k2, q3'⟩) (fun z => Tc_inlL ⟨by rw [hS], by rw [hS], rfl, ?_, k1, k2, q3'⟩)
              · dsimp only; rw [hS]; dsimp only; rw [if_pos z]; exact wr_i (by omega) (by omega)
              · dsimp only; rw [hS]; dsimp only; rw [if_neg z]
            · have p1 : j % 2 = 1 := by omega
              rw [p1]
              rw [if_neg p] at hS
              obtain ⟨M2, e2, k1, k2⟩ := best_eq (boy := 1) (gt := false) h hB hd.2 q1 q2 hn i1 i2 (Or.inr ⟨rfl, rfl⟩)
              refine Tc_f (by decide) (Tc_e e2 (Tc_f (by decide) (Tc_t rfl ?_)))
              dsimp only
              refine Tc_i (fun z => Tc_inlL ⟨by rw [hS], by rw [hS], rfl, ?_, k1, k2, q3'⟩) (fun z => Tc_inlL ⟨by rw [hS], by rw [hS], rfl, ?_, k1, k2, q3'⟩)
              · dsimp only; rw [hS]; dsimp only; rw [if_pos z]; exact wr_i (by omega) (by omega)
              · dsimp only; rw [hS]; dsimp only; rw [if_neg z]
          · obtain ⟨y1, y2, y3, y4, M1⟩ := s
            obtain ⟨rfl, rfl, rfl, rfl, q1, q2, q3⟩ := hI
            unfold dh_rests_b43
            exact Tc_t (by show m ≤ ((m.toNat : Nat) : Int); omega) (Tc_inr ⟨m.toNat, ⟨by omega, Or.inl (by omega), q3⟩, rfl, rfl, rfl, rfl, q1, q2⟩)
        refine Tc_c l1 (fun r hr => ?_)
        obtain ⟨y1, y2, y3, y4, M1⟩ := r
        obtain ⟨J, hJ, rfl, rfl, rfl, rfl, q1, q2⟩ := hr
        dsimp only at q1 q2 ⊢
        obtain ⟨i1, i2, i3, i4⟩ := rsN_in M d n J
        -- the reference
        have mo : ∀ M2 : MEM, chg [0, 10] M M2 → Tc (mo_rests d n m M2) (fun q => q.1 = (J : Int) ∧ rowM [if (rsN M d n J).2.2 = 2 then 1 else 0, (rsN M d n J).1, (rsN M d n J).2.1, hbN M d n (rsN M d n J).1 (rsN M d n J).2.1] q.2 ∧ moF M2 q.2 ∧ chg [0, 10] M q.2) := fun M2 c2 => by
          unfold mo_rests
          have c4 : chg [0, 10] M (up2 M2 278 13 0) := c2.up (by decide)
          refine Tc_u (Tc_f (by rw [moDonkey_y h.S (c4 278 1 (by decide)) hd]; decide) (Tc_f (by rw [moIn_y hn]; decide) (Tc_f (by rw [moIn_y hm]; decide) (Tc_u (Tc_u ?_)))))
          have c5 : chg [0, 10] M (up2 (up2 (up2 M2 278 13 0) 301 0 0) 301 1 0) := (c4.up (by decide)).up (by decide)
          have m5 : moF M2 (up2 (up2 (up2 M2 278 13 0) 301 0 0) 301 1 0) := ((moF.up (by decide)).tr (moF.up (by decide))).tr (moF.up (by decide))
          have b0 : up2 (up2 (up2 M2 278 13 0) 301 0 0) 301 1 0 301 0 = 0 := by rw [rd_k (by decide), rd_same]
          have b1 : up2 (up2 (up2 M2 278 13 0) 301 0 0) 301 1 0 301 1 = 0 := rd_same
          generalize up2 (up2 (up2 M2 278 13 0) 301 0 0) 301 1 0 = M3 at *
          have h8 : M3 278 8 = 0 := (c5 278 8 (by decide)).trans h.N.2.2.2.2.2.1
          have l2 : Tc (iter (fun s => mo_rests_b55 d n m s.1 s.2.1 s.2.2) FU (0, 0, M3)) (fun r => ∃ K : Nat, rsE M d n m K ∧ r.1 = (K : Int) ∧ r.2.1 = (rsN M d n K).2.2 ∧ r.2.2 301 0 = (rsN M d n K).1 ∧ r.2.2 301 1 = (rsN M d n K).2.1 ∧ offThM M3 r.2.2 ∧ thM [] r.2.2 ∧ moF M3 r.2.2) := by
            refine Tc_l (fun j s => s.1 = (j : Int) ∧ s.2.1 = (rsN M d n j).2.2 ∧ s.2.2 301 0 = (rsN M d n j).1 ∧ s.2.2 301 1 = (rsN M d n j).2.1 ∧ offThM M3 s.2.2 ∧ thM [] s.2.2 ∧ moF M3 s.2.2 ∧ ∀ j', j' < j → (rsN M d n j').2.2 < 2) _ m.toNat ⟨rfl, rfl, b0, b1, (thM_0 h8).1, (thM_0 h8).2, moF.rf, fun j' q => by omega⟩ (by omega) (fun j s hj hI => ?_) (fun s hI => ?_)
            · obtain ⟨y1, y2, M4⟩ := s
              obtain ⟨rfl, rfl, q1, q2, q3, q4, q5, q6⟩ := hI
              dsimp only at q1 q2 q3 q4 q5 q6 ⊢
              have wj : wr ((j : Int) + 1) = ((j + 1 : Nat) : Int) := (wr_i (by omega) (by omega)).trans (by omega)
              obtain ⟨i1, i2, i3, i4⟩ := rsN_in M d n j
              have hS := rsN_S M d n j
              have htm : Int.tmod (j : Int) 2 = ((j % 2 : Nat) : Int) := by rw [tmod_nn (by omega)]; omega
              have q6' : (rsN M d n j).2.2 < 2 → ∀ j', j' < j + 1 → (rsN M d n j').2.2 < 2 := fun c j' hj' => by
                by_cases e : j' = j
                · subst e; exact c
                · exact q6 j' (by omega)
              unfold mo_rests_b55
              refine Tc_f (by omega) (Tc_i (fun c => Tc_inrR ⟨j, ⟨by omega, Or.inr c, q6⟩, rfl, rfl, q1, q2, q3, q4, q5⟩) (fun c => ?_))
              rw [htm]
              simp only [toNat_c]
              have c : (rsN M d n j).2.2 < 2 := by omega
              obtain ⟨M5, e5, g1, g2, g3, g4⟩ := moBoys_eq h hB hd.2 c5 q3 q4 hn i1 i2 q1 q2
              refine Tc_t (by omega) (Tc_e e5 ?_)
              dsimp only
              generalize hA : (rsN M d n j).1 = A at *
              generalize hC : (rsN M d n j).2.1 = C at *
              -- the best of one boy
              have inner : ∀ (by' : Nat) (gt : Bool) (had : Int), ((by' = 0 ∧ gt = true ∧ had = A) ∨ (by' = 1 ∧ gt = false ∧ had = C)) → Tc (iter (fun s => mo_rests_b97 d n m j (rsN M d n j).2.2 by' had s.1 s.2.1 s.2.2.1 s.2.2.2) FU (had, hbN M d n A C, 0, M5)) (fun r => r.1 = boB M d n A C gt ∧ offThM M3 r.2.2.2 ∧ thM [] r.2.2.2 ∧ moF M3 r.2.2.2 ∧ r.2.2.2 301 (1 - by') = (if gt = true then C else A)) := fun by' gt had hby => by
                have hini : (had, hbN M d n A C) = ((if gt = true then A else C), hbN M d n A C) := by
                  rcases hby with ⟨-, rfl, rfl⟩ | ⟨-, rfl, rfl⟩ <;> rfl
                refine Tc_n (fun i s => s.1 = (boN (boV M d n A C gt) gt (had, hbN M d n A C) i).1 ∧ s.2.1 = (boN (boV M d n A C gt) gt (had, hbN M d n A C) i).2 ∧ s.2.2.1 = (i : Int) ∧ offThM M3 s.2.2.2 ∧ thM [] s.2.2.2 ∧ moF M3 s.2.2.2 ∧ s.2.2.2 301 (1 - by') = (if gt = true then C else A)) 31 ⟨rfl, rfl, rfl, g1, g2, q5.tr g3, ?_⟩ (by omega) (fun i s hi hI => ?_) (fun s hI => ?_)
                · dsimp only
                  rw [g4]
                  rcases hby with ⟨rfl, rfl, rfl⟩ | ⟨rfl, rfl, rfl⟩
                  · exact q2
                  · exact q1
                · obtain ⟨y, y', z, M6⟩ := s
                  obtain ⟨rfl, rfl, rfl, k1, k2, k3, k4⟩ := hI
                  dsimp only at k1 k2 k3 k4 ⊢
                  have wi : wr ((i : Int) + 1) = ((i + 1 : Nat) : Int) := (wr_i (by omega) (by omega)).trans (by omega)
                  generalize hs : boN (boV M d n A C gt) gt (had, hbN M d n A C) i = s1 at *
                  have hS1 := boN_S (boV M d n A C gt) gt (had, hbN M d n A C) i
                  rw [hs] at hS1
                  have k1' : offThM M3 (up2 M6 301 by' (i : Int)) := k1.tr (chg.rf.up (show rg 301 by' ∈ [0] from List.mem_singleton.mpr rfl))
                  have k2' : thM [] (up2 M6 301 by' (i : Int)) := ⟨by rw [rd_a (by decide)]; exact k2.1, fun i c hc => by cases hc⟩
                  have hv : ∃ M7, mo_hourBy d n (up2 M6 301 by' (i : Int)) = some (boV M d n A C gt i, M7) ∧ offThM M3 M7 ∧ thM [] M7 ∧ moF (up2 M6 301 by' (i : Int)) M7 ∧ M7 301 = up2 M6 301 by' (i : Int) 301 := by
                    rcases hby with ⟨rfl, rfl, rfl⟩ | ⟨rfl, rfl, rfl⟩
                    · exact moBoys_eq h hB hd.2 c5 k1' k2' hn (by omega) i2 rd_same ((rd_k (by decide)).trans k4)
                    · exact moBoys_eq h hB hd.2 c5 k1' k2' hn i1 (by omega) ((rd_k (by decide)).trans k4) rd_same
                  obtain ⟨M7, e7, v1, v2, v3, v4⟩ := hv
                  have k5 : moF M3 M7 := (k3.tr (moF.up (by decide))).tr v3
                  have k6 : M7 301 (1 - by') = (if gt = true then C else A) := by
                    rw [v4, rd_k (by rcases hby with ⟨rfl, -⟩ | ⟨rfl, -⟩ <;> decide)]; exact k4
                  unfold mo_rests_b97 mo_rests_j146_97 mo_rests_j154_97
                  rw [toNat_c, wi, hS1]
                  refine Tc_f (by omega) (Tc_t (by rcases hby with ⟨rfl, -⟩ | ⟨rfl, -⟩ <;> decide) (Tc_u (Tc_e e7 ?_)))
                  dsimp only
                  generalize boV M d n A C gt i = v at *
                  rcases hby with ⟨rfl, rfl, rfl⟩ | ⟨rfl, rfl, rfl⟩
                  · refine Tc_t rfl ?_
                    by_cases z : s1.2 < v
                    · have hc : (if (true : Bool) = true then s1.2 < v else v < s1.2) := z
                      rw [if_pos hc]
                      exact Tc_t z (Tc_inl ⟨rfl, rfl, rfl, v1, v2, k5, k6⟩)
                    · have hc : ¬ (if (true : Bool) = true then s1.2 < v else v < s1.2) := z
                      rw [if_neg hc]
                      exact Tc_f z (Tc_inl ⟨rfl, rfl, rfl, v1, v2, k5, k6⟩)
                  · refine Tc_f (by decide) ?_
                    by_cases z : v < s1.2
                    · have hc : (if (false : Bool) = true then s1.2 < v else v < s1.2) := z
                      rw [if_pos hc]
                      exact Tc_t z (Tc_inl ⟨rfl, rfl, rfl, v1, v2, k5, k6⟩)
                    · have hc : ¬ (if (false : Bool) = true then s1.2 < v else v < s1.2) := z
                      rw [if_neg hc]
                      exact Tc_f z (Tc_inl ⟨rfl, rfl, rfl, v1, v2, k5, k6⟩)
                · obtain ⟨y, y', z, M6⟩ := s
                  obtain ⟨rfl, rfl, rfl, k1, k2, k3, k4⟩ := hI
                  unfold mo_rests_b97
                  refine Tc_t (by show (30 : Int) < ((31 : Nat) : Int); omega) (Tc_inr ⟨?_, k1, k2, k3, k4⟩)
                  dsimp only
                  rw [hini, boB_def]
              have close : ∀ (by' : Nat) (bst had : Int) (M6 : MEM), by' < 2 → offThM M3 M6 → thM [] M6 → moF M3 M6 → (rsN M d n (j + 1)).2.2 = (if bst = had then (rsN M d n j).2.2 + 1 else 0) → (rsN M d n (j + 1)).1 = (if by' = 0 then bst else M6 301 0) → (rsN M d n (j + 1)).2.1 = (if by' = 1 then bst else M6 301 1) → Tc (if 0 ≤ (by' : Int) ∧ (by' : Int) < 2 then (some (up2 M6 301 by' bst)).bind fun M34 => if bst = had then mo_rests_j184_55 d n m j (wr ((rsN M d n j).2.2 + 1)) M34 else mo_rests_j184_55 d n m j 0 M34 else none) (fun r => (∃ s', r = .inl s' ∧ (s'.1 = ((j + 1 : Nat) : Int) ∧ s'.2.1 = (rsN M d n (j + 1)).2.2 ∧ s'.2.2 301 0 = (rsN M d n (j + 1)).1 ∧ s'.2.2 301 1 = (rsN M d n (j + 1)).2.1 ∧ offThM M3 s'.2.2 ∧ thM [] s'.2.2 ∧ moF M3 s'.2.2 ∧ ∀ j', j' < j + 1 → (rsN M d n j').2.2 < 2)) ∨ ∃ e, r = .inr e ∧ ∃ K : Nat, rsE M d n m K ∧ e.1 = (K : Int) ∧ e.2.1 = (rsN M d n K).2.2 ∧ e.2.2 301 0 = (rsN M d n K).1 ∧ e.2.2 301 1 = (rsN M d n K).2.1 ∧ offThM M3 e.2.2 ∧ thM [] e.2.2 ∧ moF M3 e.2.2) := fun by' bst had M6 hb2 k1 k2 k3 k4 k5 k6 => by
                have k1' : offThM M3 (up2 M6 301 by' bst) := k1.tr (chg.rf.up (show rg 301 by' ∈ [0] from List.mem_singleton.mpr rfl))
                have k2' : thM [] (up2 M6 301 by' bst) := ⟨by rw [rd_a (by decide)]; exact k2.1, fun i c hc => by cases hc⟩
                have k3' : moF M3 (up2 M6 301 by' bst) := k3.tr (moF.up (by decide))
                have a0 : up2 M6 301 by' bst 301 0 = (rsN M d n (j + 1)).1 := by
                  rw [k5]
                  by_cases e : by' = 0
                  · subst e; rw [if_pos rfl, rd_same]
                  · rw [if_neg e, rd_k (by omega)]
                have a1 : up2 M6 301 by' bst 301 1 = (rsN M d n (j + 1)).2.1 := by
                  rw [k6]
                  by_cases e : by' = 1
                  · subst e; rw [if_pos rfl, rd_same]
                  · rw [if_neg e, rd_k (by omega)]
                unfold mo_rests_j184_55
                rw [wj]
                refine Tc_t (by omega) (Tc_u (Tc_i (fun z => Tc_inlL ⟨rfl, ?_, a0, a1, k1', k2', k3', q6' c⟩) (fun z => Tc_inlL ⟨rfl, ?_, a0, a1, k1', k2', k3', q6' c⟩)))
                · dsimp only; rw [k4, if_pos z]; exact wr_i (by omega) (by omega)
                · dsimp only; rw [k4, if_neg z]
              by_cases p : j % 2 = 0
              · rw [p, q1]
                rw [if_pos p] at hS
                refine Tc_c (inner 0 true A (Or.inl ⟨rfl, rfl, rfl⟩)) (fun r hr => ?_)
                obtain ⟨r1, r2, r3, r4, r5⟩ := hr
                rw [r1]
                refine close 0 _ A r.2.2.2 (by decide) r2 r3 r4 ?_ ?_ ?_
                · rw [hS]
                · rw [hS, if_pos rfl]
                · rw [hS, if_neg (show ¬ (0 : Nat) = 1 by decide)]; exact r5.symm
              · have p1 : j % 2 = 1 := by omega
                rw [p1, q2]
                rw [if_neg p] at hS
                refine Tc_c (inner 1 false C (Or.inr ⟨rfl, rfl, rfl⟩)) (fun r hr => ?_)
                obtain ⟨r1, r2, r3, r4, r5⟩ := hr
                rw [r1]
                refine close 1 _ C r.2.2.2 (by decide) r2 r3 r4 ?_ ?_ ?_
                · rw [hS]
                · rw [hS, if_neg (show ¬ (1 : Nat) = 0 by decide)]; exact r5.symm
                · rw [hS, if_pos rfl]
            · obtain ⟨y1, y2, M4⟩ := s
              obtain ⟨rfl, rfl, q1, q2, q3, q4, q5, q6⟩ := hI
              unfold mo_rests_b55
              exact Tc_t (by show m ≤ ((m.toNat : Nat) : Int); omega) (Tc_inr ⟨m.toNat, ⟨by omega, Or.inl (by omega), q6⟩, rfl, rfl, q1, q2, q3, q4, q5⟩)
          refine Tc_c l2 (fun r hr => ?_)
          obtain ⟨y1, y2, M4⟩ := r
          obtain ⟨K, hK, rfl, rfl, q1, q2, q3, q4, q5⟩ := hr
          dsimp only at q1 q2 q3 q4 q5 ⊢
          have := rsE_uniq hK hJ
          subst this
          obtain ⟨M5, e5, g1, g2, g3, g4⟩ := moBoys_eq h hB hd.2 c5 q3 q4 hn i1 i2 q1 q2
          unfold mo_rests_j192 mo_rests_j217
          refine Tc_e e5 (Tc_u ?_)
          dsimp only
          obtain ⟨x1, x2⟩ := moRow0 M5
          have c6 : chg [0, 10] M M5 := c5.tr ((g1.fin h8 g2).sub (by decide))
          have fin : ∀ u : Int, u = (if (rsN M d n K).2.2 = 2 then 1 else 0) → Tc ((mo_tell u (up2 M5 278 12 0)).bind fun M45 => (mo_tell (M45 301 0) M45).bind fun M47 => (mo_tell (M47 301 1) M47).bind fun M49 => (mo_tell (hbN M d n (rsN M d n K).1 (rsN M d n K).2.1) M49).bind fun M51 => some ((K : Int), M51)) (fun q => q.1 = (K : Int) ∧ rowM [if (rsN M d n K).2.2 = 2 then 1 else 0, (rsN M d n K).1, (rsN M d n K).2.1, hbN M d n (rsN M d n K).1 (rsN M d n K).2.1] q.2 ∧ moF M2 q.2 ∧ chg [0, 10] M q.2) := fun u hu => by
            obtain ⟨M6, t1, t2, t3⟩ := moTell_eq u x1 (by simp)
            have b0 : M6 301 0 = (rsN M d n K).1 := by rw [(x2.tr t3).cell (by decide) (by decide), g4]; exact q1
            obtain ⟨M7, u1, u2, u3⟩ := moTell_eq (rsN M d n K).1 t2 (by simp)
            have b1 : M7 301 1 = (rsN M d n K).2.1 := by rw [((x2.tr t3).tr u3).cell (by decide) (by decide), g4]; exact q2
            obtain ⟨M8, v1, v2, v3⟩ := moTell_eq (rsN M d n K).2.1 u2 (by simp)
            obtain ⟨M9, w1, w2, w3⟩ := moTell_eq (hbN M d n (rsN M d n K).1 (rsN M d n K).2.1) v2 (by simp)
            refine Tc_e t1 ?_
            rw [b0]
            refine Tc_e u1 ?_
            rw [b1]
            refine Tc_e v1 (Tc_e w1 (Tc_some ⟨rfl, ?_, ?_, ?_⟩))
            · rw [← hu]; exact w2
            · exact ((m5.tr q5).tr g3).tr (((x2.tr t3).tr u3).tr (v3.tr w3)).mo
            · exact c6.tr (((x2.tr t3).tr u3).tr (v3.tr w3)).chg
          by_cases z : (rsN M d n K).2.2 = 2
          · exact Tc_t z (fin 1 (by rw [if_pos z]))
          · exact Tc_f z (fin 0 (by rw [if_neg z]))
        unfold dh_rests_j141 dh_rests_j157
        obtain ⟨M2, n1, n2, n3⟩ := newRow_eq M1
        refine Tc_e n1 ?_
        have offTh_C : ∀ {N N' : MEM}, offTh M N → thC [] N → offC N N' → offTh M N' ∧ thC [] N' := fun {N N'} a b o => ⟨fun c k x y z => (o c k (by
            by_cases e : c = 0
            · subst e
              refine Or.inr (fun e => y ?_)
              subst e; rfl
            · exact Or.inl e) (fun e => y (by subst e; rfl))).trans (a c k x y z), by rw [o 225 4 (by decide) (by decide)]; exact b.1, fun i c hc => by cases hc⟩
        have fin : ∀ u : Int, u = (if (rsN M d n J).2.2 = 2 then 1 else 0) → Tc ((dh_tell u M2).bind fun M24 => (dh_tell (rsN M d n J).1 M24).bind fun M26 => (dh_tell (rsN M d n J).2.1 M26).bind fun M28 => (dh_hourOfBoys d n (rsN M d n J).1 (rsN M d n J).2.1 M28).bind fun p30 => (dh_tell p30.1 p30.2).bind fun M34 => some ((J : Int), M34)) (fun p => Tc (mo_rests d n m p.2) (fun q => q.1 = p.1 ∧ Rel B q.2)) := fun u hu => by
          obtain ⟨M3, t1, t2, t3⟩ := tell_eq u n2 (by simp)
          obtain ⟨M4, u1, u2, u3⟩ := tell_eq (rsN M d n J).1 t2 (by simp)
          obtain ⟨M5, v1, v2, v3⟩ := tell_eq (rsN M d n J).2.1 u2 (by simp)
          have oC : offC M1 M5 := ((n3.tr t3).tr u3).tr v3
          obtain ⟨o5, o5'⟩ := offTh_C q1 q2 oC
          obtain ⟨M6, e6, k1, k2, k3⟩ := boys_eq h hB hd.2 o5 o5' hn i1 i2
          have v2' : rowC ([] ++ [u] ++ [(rsN M d n J).1] ++ [(rsN M d n J).2.1]) M6 := v2.off (k3 0 14 (by decide) (Or.inl (by decide))) (funext fun k => k3 245 k (by decide : (10 : Nat) ≠ 0) (Or.inl (by decide)))
          obtain ⟨M7, w1, w2, w3⟩ := tell_eq (hbN M d n (rsN M d n J).1 (rsN M d n J).2.1) v2' (by simp)
          obtain ⟨o7, o7'⟩ := offTh_C k1 k2 w3
          refine Tc_e t1 (Tc_e u1 (Tc_e v1 (Tc_e e6 (Tc_e w1 (Tc_some (Tc_m (mo M7 (o7.fin h o7')) fun q hq => ?_))))))
          rw [← hu] at hq
          exact ⟨hq.1, h.go10 hq.2.2.2 (w2.fin hq.2.2.1 hq.2.1 (by simp))⟩
        by_cases z : (rsN M d n J).2.2 = 2
        · exact Tc_t z (fin 1 (by rw [if_pos z]))
        · exact Tc_f z (fin 0 (by rw [if_neg z]))
      · have mo : Tc (mo_rests x n m M) (fun q => q.1 = -1 ∧ Rel B q.2) := by
          unfold mo_rests
          exact Tc_u (Tc_f (by rw [moDonkey_y h.S (c3 278 1 (by decide)) hd]; decide) (Tc_f (by rw [moIn_y hn]; decide) (Tc_t (moIn_n hm) (Tc_some ⟨rfl, h.go0 c3⟩))))
        exact Tc_i (fun _ => Tc_some mo) (fun q => Tc_f (by omega) (Tc_some mo))
    · have mo : Tc (mo_rests x n m M) (fun q => q.1 = -1 ∧ Rel B q.2) := by
        unfold mo_rests
        exact Tc_u (Tc_f (by rw [moDonkey_y h.S (c3 278 1 (by decide)) hd]; decide) (Tc_t (moIn_n hn) (Tc_some ⟨rfl, h.go0 c3⟩)))
      exact Tc_i (fun _ => Tc_some mo) (fun q => Tc_t (by omega) (Tc_some mo))
  · refine Tc_t (isDonkey_n h.S.2.2.1 hd) (Tc_some ?_)
    unfold mo_rests
    exact Tc_u (Tc_t (moDonkey_n h.S (c3 278 1 (by decide)) hd) (Tc_some ⟨rfl, h.go0 c3⟩))
end
section
-- ===== a CONTRACT's HOUR in a DAY: how often, first, last =====
def hit (T : Nat → DS) (hr : Int) (u : Nat) : Bool := decide (cnt T (u + 1) ≠ cnt T u) && decide ((T (u + 1)).2.2.1 % 12 = hr)
def ofN (T : Nat → DS) (hr : Int) : Nat → Int
  | 0 => 0
  | u + 1 => ofN T hr u + (if hit T hr u = true then 1 else 0)
def fiN (T : Nat → DS) (hr : Int) : Nat → Int
  | 0 => -1
  | u + 1 => if fiN T hr u = -1 ∧ hit T hr u = true then (u : Int) else fiN T hr u
def laN (T : Nat → DS) (hr : Int) : Nat → Int
  | 0 => -1
  | u + 1 => if hit T hr u = true then (u : Int) else laN T hr u
theorem ofN_S (T : Nat → DS) (hr : Int) (u : Nat) : ofN T hr (u + 1) = ofN T hr u + (if hit T hr u = true then 1 else 0) := rfl
theorem fiN_S (T : Nat → DS) (hr : Int) (u : Nat) : fiN T hr (u + 1) = if fiN T hr u = -1 ∧ hit T hr u = true then (u : Int) else fiN T hr u := rfl
theorem laN_S (T : Nat → DS) (hr : Int) (u : Nat) : laN T hr (u + 1) = if hit T hr u = true then (u : Int) else laN T hr u := rfl
theorem ofN_bd (T : Nat → DS) (hr : Int) : ∀ n, 0 ≤ ofN T hr n ∧ ofN T hr n ≤ n := by
  intro n
  induction n with
  | zero => exact ⟨Int.le_refl _, Int.le_refl _⟩
  | succ n ih => rw [ofN_S]; split <;> omega
theorem fiN_none {T : Nat → DS} {hr : Int} : ∀ {n : Nat}, (∀ u, u < n → hit T hr u = false) → fiN T hr n = -1 := by
  intro n
  induction n with
  | zero => intro _; rfl
  | succ n ih =>
    intro h
    rw [fiN_S, h n (by omega), if_neg (fun q => Bool.false_ne_true q.2)]
    exact ih (fun u hu => h u (by omega))
theorem fiN_at {T : Nat → DS} {hr : Int} {v : Nat} (h1 : hit T hr v = true) (h2 : ∀ u, u < v → hit T hr u = false) : ∀ n, v < n → fiN T hr n = (v : Int) := by
  intro n
  induction n with
  | zero => intro h; omega
  | succ n ih =>
    intro h
    rw [fiN_S]
    by_cases e : v = n
    · subst e
      rw [if_pos ⟨fiN_none h2, h1⟩]
    · rw [ih (by omega), if_neg (by omega)]
theorem laN_at {T : Nat → DS} {hr : Int} {v : Nat} (h1 : hit T hr v = true) : ∀ n, v < n → (∀ u, v < u → u < n → hit T hr u = false) → laN T hr n = (v : Int) := by
  intro n
  induction n with
  | zero => intro h; omega
  | succ n ih =>
    intro h h2
    rw [laN_S]
    by_cases e : v = n
    · subst e
      rw [if_pos h1]
    · rw [h2 n (by omega) (by omega), if_neg (by decide)]
      exact ih (by omega) (fun u a b => h2 u a (by omega))
/-- by STROKES: how many of c come on the HOUR -/
def ocN (K hr : Int) : Nat → Int
  | 0 => 0
  | c + 1 => ocN K hr c + (if (K + (c : Int) + 1) % 12 = hr then 1 else 0)
theorem ocN_S (K hr : Int) (c : Nat) : ocN K hr (c + 1) = ocN K hr c + (if (K + (c : Int) + 1) % 12 = hr then 1 else 0) := rfl
theorem ocN_bd (K hr : Int) : ∀ n, 0 ≤ ocN K hr n ∧ ocN K hr n ≤ n := by
  intro n
  induction n with
  | zero => exact ⟨Int.le_refl _, Int.le_refl _⟩
  | succ n ih => rw [ocN_S]; split <;> omega
theorem hit_eq {T : Nat → DS} {hr : Int} {u : Nat} : hit T hr u = true ↔ (cnt T (u + 1) ≠ cnt T u ∧ ((T 0).2.2.1 + cnt T (u + 1)) % 12 = hr) := by
  unfold hit
  rw [Bool.and_eq_true, decide_eq_true_eq, decide_eq_true_eq]
  have : (T (u + 1)).2.2.1 = (T 0).2.2.1 + cnt T (u + 1) := by unfold cnt; omega
  rw [this]
theorem of_oc {T : Nat → DS} {hr : Int} (hst : stk T 1000000) : ∀ n : Nat, n ≤ 600 → ofN T hr n = ocN (T 0).2.2.1 hr (cnt T n).toNat := by
  intro n
  induction n with
  | zero => intro _; rw [cnt_0]; rfl
  | succ n ih =>
    intro hn
    have hb := cnt_le hst (show n ≤ 1000000 by omega)
    rw [ofN_S, ih (by omega)]
    rcases hst n (by omega) with q | q
    · have : ¬ hit T hr n = true := by rw [hit_eq]; exact fun z => z.1 q
      rw [if_neg this, q, Int.add_zero]
    · rw [show (cnt T (n + 1)).toNat = (cnt T n).toNat + 1 by omega, ocN_S]
      congr 1
      have e1 : (T 0).2.2.1 + (((cnt T n).toNat : Nat) : Int) + 1 = (T 0).2.2.1 + cnt T (n + 1) := by omega
      rw [e1]
      by_cases z : ((T 0).2.2.1 + cnt T (n + 1)) % 12 = hr
      · rw [if_pos z, if_pos (hit_eq.mpr ⟨by omega, z⟩)]
      · rw [if_neg z, if_neg (fun y => z (hit_eq.mp y).2)]
section CLASS
variable {e : EN} {n d m0 hr : Int} {T : Nat → DS} {j : Nat} {M : MEM}
theorem isHour_eq {k : Int} (h : futAt 224 e n d m0 T j M) (hk0 : 0 ≤ (T 0).2.2.1) (hk1 : (T 0).2.2.1 ≤ 100000000) (k0 : 0 ≤ k) (k1 : k ≤ 600) (hst : stk T 1000000) (hj : j ≤ 600) : fu_isHour 224 k hr M = some (if ((T 0).2.2.1 + k) % 12 = hr then 1 else 0) := by
  obtain ⟨-, -, -, h4, -, -, -, h8, -⟩ := h
  have hc := cnt_le hst (show j ≤ 1000000 by omega)
  have e5 : M (224 + 6) 5 = (T 0).2.2.1 + cnt T j := by
    have : (T j).2.2.1 = M (224 + 6) 5 := h4.2.2.1
    unfold cnt; omega
  unfold fu_isHour
  rw [e5, h8, wr_i (x := (T 0).2.2.1 + cnt T j - cnt T j) (by omega) (by omega), wr_i (x := (T 0).2.2.1 + cnt T j - cnt T j + k) (by omega) (by omega), floorMod_eq (by unfold InR; omega) (by decide) (by decide), Option.bind_some, show (T 0).2.2.1 + cnt T j - cnt T j + k = (T 0).2.2.1 + k by omega]
  split <;> rfl
theorem timesStruck_eq (h : futAt 224 e n d m0 T j M) (hk0 : 0 ≤ (T 0).2.2.1) (hk1 : (T 0).2.2.1 ≤ 100000000) (hst : stk T 1000000) (hj : j ≤ 600) : fu_timesStruck 224 hr M = some (ofN T hr j) := by
  have hc := cnt_le hst (show j ≤ 1000000 by omega)
  have h10 : M 224 10 = cnt T j := h.2.2.2.2.2.2.2.1
  have hl : iter (fun s => fu_timesStruck_b4 224 hr s.1 s.2 M) FU (0, 1) = some (ocN (T 0).2.2.1 hr (cnt T j).toNat, ((cnt T j).toNat : Int) + 1) := by
    refine loop_traj (fun i => (ocN (T 0).2.2.1 hr i, (i : Int) + 1)) (cnt T j).toNat (by omega) (fun k hk => ?_) ?_
    · have hb := ocN_bd (T 0).2.2.1 hr k
      dsimp only
      unfold fu_timesStruck_b4 fu_timesStruck_j24_4
      rw [if_neg (by omega), isHour_eq h hk0 hk1 (by omega) (by omega) hst hj, Option.bind_some, ocN_S, wr_i (x := (k : Int) + 1 + 1) (by omega) (by omega), show (T 0).2.2.1 + ((k : Int) + 1) = (T 0).2.2.1 + (k : Int) + 1 by omega]
      by_cases z : ((T 0).2.2.1 + (k : Int) + 1) % 12 = hr
      · rw [if_pos z, if_neg (by decide), wr_i (by omega) (by omega)]
        rfl
      · rw [if_neg z, if_pos rfl, Int.add_zero]
        rfl
    · dsimp only
      unfold fu_timesStruck_b4
      rw [if_pos (by omega)]
  unfold fu_timesStruck
  rw [hl, Option.bind_some, of_oc hst j hj]
theorem stroke_hit {k : Int} (h : futAt 224 e n d m0 T j M) (hst : stk T 1000000) (hj : j ≤ 600) (k1 : 1 ≤ k) (k2 : k ≤ cnt T j) (hk : ((T 0).2.2.1 + k) % 12 = hr) : ∃ v : Nat, fu_strokeMinute 224 k M = some (v : Int) ∧ v < j ∧ hit T hr v = true ∧ cnt T v = k - 1 ∧ cnt T (v + 1) = k := by
  have hc := cnt_le hst (show j ≤ 1000000 by omega)
  obtain ⟨z1, z2, z3, z4⟩ := stroke_eq h k1 k2 (by omega)
  obtain ⟨u, hu, u1, u2⟩ := z2
  have e1 : cnt T u = k - 1 := by omega
  have e2 : cnt T (u + 1) = k := by omega
  exact ⟨u, by rw [z1, hu], by omega, hit_eq.mpr ⟨by omega, by rw [e2]; exact hk⟩, e1, e2⟩
theorem firstStruck_eq (h : futAt 224 e n d m0 T j M) (hk0 : 0 ≤ (T 0).2.2.1) (hk1 : (T 0).2.2.1 ≤ 100000000) (hst : stk T 1000000) (hj : j ≤ 600) (ho : 0 < ofN T hr j) : fu_firstStruck 224 hr M = some (fiN T hr j) := by
  have hc := cnt_le hst (show j ≤ 1000000 by omega)
  have h10 : M 224 10 = cnt T j := h.2.2.2.2.2.2.2.1
  have hl : Tc (iter (fun s => fu_firstStruck_b2 224 hr s M) FU 1) (fun r => r = .inl (fiN T hr j)) := by
    refine Tc_l (fun i s => s = (i : Int) + 1 ∧ ocN (T 0).2.2.1 hr i = 0) _ (cnt T j).toNat ⟨rfl, rfl⟩ (by omega) (fun i s hi hI => ?_) (fun s hI => ?_)
    · obtain ⟨rfl, h0⟩ := hI
      unfold fu_firstStruck_b2
      refine Tc_f (by omega) ?_
      by_cases z : ((T 0).2.2.1 + ((i : Int) + 1)) % 12 = hr
      · obtain ⟨v, v1, v2, v3, v4, v5⟩ := stroke_hit (k := (i : Int) + 1) h hst hj (by omega) (by omega) z
        refine Tc_e (isHour_eq h hk0 hk1 (by omega) (by omega) hst hj) ?_
        rw [if_pos z]
        refine Tc_f (by decide) (Tc_e v1 (Tc_inrR ?_))
        rw [fiN_at v3 (fun u hu => ?_) j v2]
        -- no stroke before
        cases hh : hit T hr u with
        | false => rfl
        | true =>
          exfalso
          have hm := (cnt_mono hst (show u + 1 ≤ v by omega) (by omega)).1
          have ho : 0 < ofN T hr (u + 1) := by
            have := ofN_bd T hr u
            rw [ofN_S, hh, if_pos rfl]; omega
          rw [of_oc hst (u + 1) (by omega)] at ho
          have hmono : ∀ a b : Nat, a ≤ b → ocN (T 0).2.2.1 hr a ≤ ocN (T 0).2.2.1 hr b := by
            intro a b hab
            induction b with
            | zero => have : a = 0 := by omega
                      subst this; exact Int.le_refl _
            | succ b ih =>
              by_cases e : a = b + 1
              · subst e; exact Int.le_refl _
              · have := ih (by omega)
                rw [ocN_S]; split <;> omega
          have := hmono (cnt T (u + 1)).toNat i (by omega)
          omega
      · refine Tc_e (isHour_eq h hk0 hk1 (by omega) (by omega) hst hj) ?_
        rw [if_neg z]
        refine Tc_t rfl (Tc_inlL ⟨(wr_i (by omega) (by omega)).trans (by omega), ?_⟩)
        rw [ocN_S, h0, show (T 0).2.2.1 + (i : Int) + 1 = (T 0).2.2.1 + ((i : Int) + 1) by omega, if_neg z]
        rfl
    · obtain ⟨rfl, h0⟩ := hI
      rw [of_oc hst j hj, h0] at ho
      omega
  obtain ⟨r, e1, rfl⟩ := hl
  unfold fu_firstStruck
  rw [e1]; rfl
theorem lastStruck_eq (h : futAt 224 e n d m0 T j M) (hk0 : 0 ≤ (T 0).2.2.1) (hk1 : (T 0).2.2.1 ≤ 100000000) (hst : stk T 1000000) (hj : j ≤ 600) (ho : 0 < ofN T hr j) : fu_lastStruck 224 hr M = some (laN T hr j) := by
  have hc := cnt_le hst (show j ≤ 1000000 by omega)
  have h10 : M 224 10 = cnt T j := h.2.2.2.2.2.2.2.1
  have hl : Tc (iter (fun s => fu_lastStruck_b5 224 hr s M) FU (M 224 10)) (fun r => r = .inl (laN T hr j)) := by
    refine Tc_l (fun i s => s = cnt T j - (i : Int) ∧ ∀ k : Int, cnt T j - (i : Int) < k → k ≤ cnt T j → ¬ ((T 0).2.2.1 + k) % 12 = hr) _ (cnt T j).toNat ⟨by rw [h10]; omega, fun k a b => by omega⟩ (by omega) (fun i s hi hI => ?_) (fun s hI => ?_)
    · obtain ⟨rfl, h0⟩ := hI
      unfold fu_lastStruck_b5
      refine Tc_f (by omega) ?_
      by_cases z : ((T 0).2.2.1 + (cnt T j - (i : Int))) % 12 = hr
      · obtain ⟨v, v1, v2, v3, v4, v5⟩ := stroke_hit (k := cnt T j - (i : Int)) h hst hj (by omega) (by omega) z
        refine Tc_e (isHour_eq h hk0 hk1 (by omega) (by omega) hst hj) ?_
        rw [if_pos z]
        refine Tc_f (by decide) (Tc_e v1 (Tc_inrR ?_))
        rw [laN_at v3 j v2 (fun u hu1 hu2 => ?_)]
        cases hh : hit T hr u with
        | false => rfl
        | true =>
          exfalso
          obtain ⟨y1, y2⟩ := hit_eq.mp hh
          have hm := (cnt_mono hst (show v + 1 ≤ u by omega) (by omega)).1
          have hm2 := (cnt_mono hst (show u + 1 ≤ j by omega) (by omega)).1
          have hs := hst u (by omega)
          exact h0 (cnt T (u + 1)) (by omega) hm2 y2
      · refine Tc_e (isHour_eq h hk0 hk1 (by omega) (by omega) hst hj) ?_
        rw [if_neg z]
        refine Tc_t rfl (Tc_inlL ⟨?_, fun k a b => ?_⟩)
        · show wr (cnt T j - (i : Int) + -1) = _
          rw [wr_i (by omega) (by omega)]; omega
        · by_cases e : k = cnt T j - (i : Int)
          · rw [e]; exact z
          · exact h0 k (by omega) b
    · obtain ⟨rfl, h0⟩ := hI
      exfalso
      have zero : ∀ c : Nat, (c : Int) ≤ cnt T j → ocN (T 0).2.2.1 hr c = 0 := by
        intro c
        induction c with
        | zero => intro _; rfl
        | succ c ih =>
          intro hc2
          rw [ocN_S, ih (by omega), show (T 0).2.2.1 + (c : Int) + 1 = (T 0).2.2.1 + ((c : Int) + 1) by omega, if_neg (h0 ((c : Int) + 1) (by omega) (by omega))]
          rfl
      rw [of_oc hst j hj, zero _ (by omega)] at ho
      omega
  obtain ⟨r, e1, rfl⟩ := hl
  unfold fu_lastStruck
  rw [e1]; rfl
end CLASS
/-- the way of the clock of CONTRACT i -/
noncomputable def coT (M : MEM) (i : Nat) : Nat → DS := qT M (M 38 i).toNat
noncomputable def coO (M : MEM) (n : Int) (i : Nat) : Int := ofN (coT M i) (M 39 i) n.toNat
theorem find_hours {B : Int} {M M1 : MEM} {n : Int} (h : Rel B M) (hB : B ≤ 100000000) (c : chg [0, 10] M M1) (hn : 1 ≤ n ∧ n ≤ 600) :
    ∃ M2, mo_findHours n M1 = some M2 ∧ chg [0] M1 M2 ∧ moF M1 M2 ∧ ∀ i : Nat, (i : Int) < M 34 6 → M2 296 i = coO M n i ∧ (0 < coO M n i → M2 297 i = fiN (coT M i) (M 39 i) n.toNat ∧ M2 298 i = laN (coT M i) (M 39 i) n.toNat) := by
  obtain ⟨o1, o2, o3, o4⟩ := h.O
  have hN := h.S.2.2.1
  obtain ⟨sz, hsz⟩ : ∃ sz : Nat, M 34 6 = (sz : Int) := ⟨(M 34 6).toNat, by omega⟩
  have e41 : ∀ {M' : MEM}, chg [0, 10] M M' → M' 278 41 = (sz : Int) := fun {M'} c => by rw [c 278 41 (by decide)]; omega
  have e295 : ∀ {M' : MEM}, chg [0, 10] M M' → M' 295 = M 295 := fun {M'} c => c.row (fun k => (by decide : 6 ∉ [0, 10]))
  have l1 : Tc (iter (fun s => mo_findHours_b2 n s.1 s.2) FU (0, M1)) (fun r => (∀ c, c ≠ 296 → r.2 c = M1 c) ∧ ∀ i, i < sz → r.2 296 i = 0) := by
    refine Tc_n (fun i s => s.1 = (i : Int) ∧ (∀ c, c ≠ 296 → s.2 c = M1 c) ∧ ∀ k : Nat, k < i → s.2 296 k = 0) sz ⟨rfl, fun _ _ => rfl, fun k hk => by omega⟩ (by omega) (fun i s hi hI => ?_) (fun s hI => ?_)
    · obtain ⟨z, M2⟩ := s
      obtain ⟨rfl, q1, q2⟩ := hI
      dsimp only at q1 q2 ⊢
      have : M2 278 41 = (sz : Int) := by rw [q1 278 (by decide)]; exact e41 c
      unfold mo_findHours_b2
      refine Tc_f (by omega) (Tc_t (by omega) (Tc_u (Tc_inl ⟨(wr_i (by omega) (by omega)).trans (by omega), fun c hc => ?_, fun k hk => ?_⟩)))
      · dsimp only; rw [up2_ne hc]; exact q1 c hc
      · dsimp only
        rw [toNat_c]
        by_cases e : k = i
        · subst e; exact rd_same
        · rw [rd_k e]; exact q2 k (by omega)
    · obtain ⟨z, M2⟩ := s
      obtain ⟨rfl, q1, q2⟩ := hI
      dsimp only at q1 q2
      have : M2 278 41 = (sz : Int) := by rw [q1 278 (by decide)]; exact e41 c
      unfold mo_findHours_b2
      exact Tc_t (by show M2 278 41 ≤ _; omega) (Tc_inr ⟨q1, q2⟩)
  obtain ⟨w1, e1, y1, y2⟩ := l1
  obtain ⟨w1, M2⟩ := w1
  dsimp only at y1 y2
  have c2 : chg [0] M1 M2 := fun c k hn => by
    by_cases e : c = 296
    · subst e; exact absurd (show rg 296 k ∈ [0] from List.mem_singleton.mpr rfl) hn
    · rw [y1 c e]
  obtain ⟨M3, e3, o5, o5', -, tO, tA⟩ := q_then h hB (c.tr (c2.sub (by decide)))
  have l2 : Tc (iter (fun s => mo_findHours_b29 n s.1 s.2) FU (0, M3)) (fun r => chg [0] M3 r.2 ∧ moF M3 r.2 ∧ ∀ i : Nat, i < sz → r.2 296 i = coO M n i ∧ (0 < coO M n i → r.2 297 i = fiN (coT M i) (M 39 i) n.toNat ∧ r.2 298 i = laN (coT M i) (M 39 i) n.toNat)) := by
    refine Tc_n (fun u s => s.1 = (u : Int) ∧ thenAt (M 3 2).toNat (fun d => M 280 d) (envM M) (M 3 3) (fun d => dsC (10 + 3 * d) M) u s.2 ∧ chg [0] M3 s.2 ∧ moF M3 s.2 ∧ ∀ i : Nat, i < sz → s.2 296 i = ofN (coT M i) (M 39 i) u ∧ (0 < ofN (coT M i) (M 39 i) u → s.2 297 i = fiN (coT M i) (M 39 i) u ∧ s.2 298 i = laN (coT M i) (M 39 i) u)) n.toNat ⟨rfl, tA, chg.rf, moF.rf, fun i hi => ⟨by dsimp only; rw [o5' 296 (by decide), y2 i hi]; rfl, fun q => absurd q (Int.lt_irrefl 0)⟩⟩ (by omega) (fun u s hu hI => ?_) (fun s hI => ?_)
    · obtain ⟨z, M4⟩ := s
      obtain ⟨rfl, q1, q2, q3, q4⟩ := hI
      dsimp only at q1 q2 q3 q4 ⊢
      obtain ⟨M5, k1, k2, k3, k4, -⟩ := then_step tO (by omega) q1
      have wu : wr ((u : Int) + 1) = ((u + 1 : Nat) : Int) := (wr_i (by omega) (by omega)).trans (by omega)
      have cM5 : chg [0] M3 M5 := q2.tr k3.Q.chg
      have mM5 : moF M3 M5 := q3.tr k3.Q.mo
      have cc0 : chg [0, 10] M M3 := (c.tr (c2.sub (by decide))).tr (o5.chg.sub (by decide))
      have inner : Tc (iter (fun s => mo_findHours_b44 n u s.1 s.2) FU (0, M5)) (fun r => (∀ c, c ≠ 296 → c ≠ 297 → c ≠ 298 → r.2 c = M5 c) ∧ ∀ i : Nat, i < sz → r.2 296 i = ofN (coT M i) (M 39 i) (u + 1) ∧ (0 < ofN (coT M i) (M 39 i) (u + 1) → r.2 297 i = fiN (coT M i) (M 39 i) (u + 1) ∧ r.2 298 i = laN (coT M i) (M 39 i) (u + 1))) := by
        refine Tc_n (fun i s => s.1 = (i : Int) ∧ (∀ c, c ≠ 296 → c ≠ 297 → c ≠ 298 → s.2 c = M5 c) ∧ (∀ i' : Nat, i' < i → s.2 296 i' = ofN (coT M i') (M 39 i') (u + 1) ∧ (0 < ofN (coT M i') (M 39 i') (u + 1) → s.2 297 i' = fiN (coT M i') (M 39 i') (u + 1) ∧ s.2 298 i' = laN (coT M i') (M 39 i') (u + 1))) ∧ ∀ i' : Nat, i ≤ i' → s.2 296 i' = M4 296 i' ∧ s.2 297 i' = M4 297 i' ∧ s.2 298 i' = M4 298 i') sz ⟨rfl, fun _ _ _ _ => rfl, fun i' hi' => by omega, fun i' _ => ⟨by dsimp only; rw [k3.1 296 (by decide) (by decide) (by decide)], by dsimp only; rw [k3.1 297 (by decide) (by decide) (by decide)], by dsimp only; rw [k3.1 298 (by decide) (by decide) (by decide)]⟩⟩ (by omega) (fun i s hi hI => ?_) (fun s hI => ?_)
        · obtain ⟨z, M6⟩ := s
          obtain ⟨rfl, p1, p2, p3⟩ := hI
          dsimp only at p1 p2 p3 ⊢
          obtain ⟨z1, z2, z3, z4, z5, z6, z7, z8⟩ := o4 i (by omega)
          have wi : wr ((i : Int) + 1) = ((i + 1 : Nat) : Int) := (wr_i (by omega) (by omega)).trans (by omega)
          have w5 : wr (5 * (i : Int)) = ((5 * i : Nat) : Int) := (wr_i (by omega) (by omega)).trans (by omega)
          have w53 : wr (((5 * i : Nat) : Int) + 3) = ((5 * i + 3 : Nat) : Int) := (wr_i (by omega) (by omega)).trans (by omega)
          have w54 : wr (((5 * i : Nat) : Int) + 4) = ((5 * i + 4 : Nat) : Int) := (wr_i (by omega) (by omega)).trans (by omega)
          have e41' : M6 278 41 = (sz : Int) := by rw [p1 278 (by decide) (by decide) (by decide)]; exact e41 (cc0.tr (cM5.sub (by decide)))
          have e295' : M6 295 = M 295 := by rw [p1 295 (by decide) (by decide) (by decide)]; exact e295 (cc0.tr (cM5.sub (by decide)))
          obtain ⟨d, hd⟩ : ∃ d : Nat, M 38 i = (d : Int) := ⟨(M 38 i).toNat, by omega⟩
          have hdl : (d : Int) < M 3 2 := by omega
          have eT : coT M i = qT M d := by unfold coT; rw [hd, toNat_c]
          have hst := q_stk h hdl hB
          have hs := hst u (by omega)
          have e287 : M6 287 d = cnt (qT M d) (u + 1) - cnt (qT M d) u := by rw [p1 287 (by decide) (by decide) (by decide)]; exact k4 d (by omega)
          have e292 : (qT M d (u + 1)).2.2.1 = M6 292 (55 * d + 2) := by rw [p1 292 (by decide) (by decide) (by decide)]; exact (k2.2.2.2.2.2.2 d (by omega)).2.2.1
          have hk0 : 0 ≤ (qT M d (u + 1)).2.2.1 ∧ (qT M d (u + 1)).2.2.1 ≤ 1000000000 := by
            obtain ⟨d1, d2, -, -⟩ := dnk h hB hdl
            have := traj_ok (e := envM M) (d := (d : Int)) (m0 := M 3 3) (fun g => codeV_in _ _ _) d1 (by omega) (u + 1) (by omega)
            exact ⟨this.1.2.2.2.2.2.2.1, by have := this.2.2; unfold qT; omega⟩
          have w55d := w55 (d := d) (by omega)
          have w552 : wr (((55 * d : Nat) : Int) + 2) = ((55 * d + 2 : Nat) : Int) := (wr_i (by omega) (by omega)).trans (by omega)
          obtain ⟨a1, a2, a3⟩ := p3 i (Nat.le_refl _)
          obtain ⟨b1, b2⟩ := q4 i hi
          have hob := ofN_bd (coT M i) (M 39 i) u
          have hfin : ∀ M7 : MEM, (∀ c, c ≠ 296 → c ≠ 297 → c ≠ 298 → M7 c = M6 c) → (∀ i', i' ≠ i → M7 296 i' = M6 296 i' ∧ M7 297 i' = M6 297 i' ∧ M7 298 i' = M6 298 i') → (M7 296 i = ofN (coT M i) (M 39 i) (u + 1) ∧ (0 < ofN (coT M i) (M 39 i) (u + 1) → M7 297 i = fiN (coT M i) (M 39 i) (u + 1) ∧ M7 298 i = laN (coT M i) (M 39 i) (u + 1))) → (∀ c, c ≠ 296 → c ≠ 297 → c ≠ 298 → M7 c = M5 c) ∧ (∀ i' : Nat, i' < i + 1 → M7 296 i' = ofN (coT M i') (M 39 i') (u + 1) ∧ (0 < ofN (coT M i') (M 39 i') (u + 1) → M7 297 i' = fiN (coT M i') (M 39 i') (u + 1) ∧ M7 298 i' = laN (coT M i') (M 39 i') (u + 1))) ∧ ∀ i' : Nat, i + 1 ≤ i' → M7 296 i' = M4 296 i' ∧ M7 297 i' = M4 297 i' ∧ M7 298 i' = M4 298 i' := fun M7 f1 f2 f3 => by
            refine ⟨fun c x1 x2 x3 => (f1 c x1 x2 x3).trans (p1 c x1 x2 x3), fun i' hi' => ?_, fun i' hi' => ?_⟩
            · by_cases e : i' = i
              · subst e; exact f3
              · obtain ⟨g1, g2, g3⟩ := f2 i' e
                rw [g1, g2, g3]; exact p2 i' (by omega)
            · obtain ⟨g1, g2, g3⟩ := f2 i' (by omega)
              rw [g1, g2, g3]; exact p3 i' (by omega)
          unfold mo_findHours_b44
          rw [w5, w53, e295', toNat_c, z4, hd, wi]
          refine Tc_f (by omega) (Tc_t (by omega) ?_)
          rcases hs with hs | hs
          · have hnh : hit (coT M i) (M 39 i) u = false := by
              cases hh : hit (coT M i) (M 39 i) u with
              | false => rfl
              | true => rw [eT] at hh; exact absurd hs (hit_eq.mp hh).1
            have : iter (fun s => mo_findHours_b67 n u i d s.1 s.2) FU (0, M6) = some (0, M6) := by
              apply iter_exit
              show mo_findHours_b67 n u i d 0 M6 = _
              unfold mo_findHours_b67
              rw [if_pos (by omega), toNat_c, if_pos (by omega)]
            refine Tc_e this (Tc_inl ⟨rfl, hfin M6 (fun _ _ _ _ => rfl) (fun _ _ => ⟨rfl, rfl, rfl⟩) ⟨?_, fun hp => ?_⟩⟩)
            · rw [ofN_S, hnh, if_neg (by decide), Int.add_zero, a1]; exact b1
            · rw [ofN_S, hnh, if_neg (by decide), Int.add_zero] at hp
              rw [fiN_S, laN_S, hnh, if_neg (fun q => Bool.false_ne_true q.2), if_neg (by decide), a2, a3]
              exact b2 hp
          · by_cases hm : (qT M d (u + 1)).2.2.1 % 12 = M 39 i
            · have hyh : hit (coT M i) (M 39 i) u = true := by
                rw [eT]; unfold hit
                rw [Bool.and_eq_true, decide_eq_true_eq, decide_eq_true_eq]
                exact ⟨by omega, hm⟩
              have hrun : ∃ M7, iter (fun s => mo_findHours_b67 n u i d s.1 s.2) FU (0, M6) = some (1, M7) ∧ (∀ c, c ≠ 296 → c ≠ 297 → c ≠ 298 → M7 c = M6 c) ∧ (∀ i', i' ≠ i → M7 296 i' = M6 296 i' ∧ M7 297 i' = M6 297 i' ∧ M7 298 i' = M6 298 i') ∧ M7 296 i = M6 296 i + 1 ∧ M7 298 i = (u : Int) ∧ M7 297 i = (if M6 296 i = 0 then (u : Int) else M6 297 i) := by
                have tl : ∀ M7 : MEM, M7 287 d = 1 → mo_findHours_b67 n u i d 1 M7 = some (.inr (1, M7)) := fun M7 h7 => by
                  unfold mo_findHours_b67
                  rw [if_pos (by omega), toNat_c, if_pos (by omega)]
                have s1 : wr ((0 : Int) + 1) = 1 := wr_i (by omega) (by omega)
                by_cases z0 : M6 296 i = 0
                · refine ⟨up2 (up2 (up2 M6 297 i u) 298 i u) 296 i (M6 296 i + 1), ?_, fun c x1 x2 x3 => ?_, fun i' hi' => ⟨?_, ?_, ?_⟩, ?_, ?_, ?_⟩
                  · refine loop_traj (fun k => if k = 0 then (0, M6) else (1, up2 (up2 (up2 M6 297 i u) 298 i u) 296 i (M6 296 i + 1))) 1 (by omega) (fun k hk => ?_) ?_
                    · have : k = 0 := by omega
                      subst this
                      show mo_findHours_b67 n u i d 0 M6 = some (.inl (1, _))
                      unfold mo_findHours_b67 mo_findHours_j129_67 mo_findHours_j146_67
                      rw [w55d, w552, w5, w54, s1]
                      simp only [toNat_c]
                      rw [if_pos (by omega), if_neg (by omega), if_pos (by omega), if_pos (by omega), e295', z5, ← e292, wr_i (x := (qT M d (u + 1)).2.2.1 - 0) (by omega) (by omega), show (qT M d (u + 1)).2.2.1 - 0 = (qT M d (u + 1)).2.2.1 by omega, tmod_nn hk0.1, if_pos hm, if_pos (by omega), if_pos z0, if_pos (by omega), Option.bind_some, if_pos (by omega), Option.bind_some, if_pos (by omega), if_pos (by omega), Option.bind_some]
                      have r : up2 (up2 M6 297 i u) 298 i u 296 i = M6 296 i := by rw [rd_a (by decide), rd_a (by decide)]
                      rw [r, wr_i (by omega) (by omega)]
                      try rfl
                    · show mo_findHours_b67 n u i d 1 _ = some (.inr (1, _))
                      exact tl (up2 (up2 (up2 M6 297 i u) 298 i u) 296 i (M6 296 i + 1)) (by rw [rd_a (by decide), rd_a (by decide), rd_a (by decide)]; omega)
                  · rw [up2_ne x1, up2_ne x3, up2_ne x2]
                  · rw [rd_k hi', rd_a (by decide), rd_a (by decide)]
                  · rw [rd_a (by decide), rd_a (by decide), rd_k hi']
                  · rw [rd_a (by decide), rd_k hi', rd_a (by decide)]
                  · rw [rd_same]
                  · rw [rd_a (by decide), rd_same]
                  · rw [rd_a (by decide), rd_a (by decide), rd_same, if_pos z0]
                · refine ⟨up2 (up2 M6 298 i u) 296 i (M6 296 i + 1), ?_, fun c x1 x2 x3 => ?_, fun i' hi' => ⟨?_, ?_, ?_⟩, ?_, ?_, ?_⟩
                  · refine loop_traj (fun k => if k = 0 then (0, M6) else (1, up2 (up2 M6 298 i u) 296 i (M6 296 i + 1))) 1 (by omega) (fun k hk => ?_) ?_
                    · have : k = 0 := by omega
                      subst this
                      show mo_findHours_b67 n u i d 0 M6 = some (.inl (1, _))
                      unfold mo_findHours_b67 mo_findHours_j129_67 mo_findHours_j146_67
                      rw [w55d, w552, w5, w54, s1]
                      simp only [toNat_c]
                      rw [if_pos (by omega), if_neg (by omega), if_pos (by omega), if_pos (by omega), e295', z5, ← e292, wr_i (x := (qT M d (u + 1)).2.2.1 - 0) (by omega) (by omega), show (qT M d (u + 1)).2.2.1 - 0 = (qT M d (u + 1)).2.2.1 by omega, tmod_nn hk0.1, if_pos hm, if_pos (by omega), if_neg z0, if_pos (by omega), Option.bind_some, if_pos (by omega), if_pos (by omega), Option.bind_some]
                      have r : up2 M6 298 i u 296 i = M6 296 i := by rw [rd_a (by decide)]
                      rw [r, wr_i (by omega) (by omega)]
                      try rfl
                    · show mo_findHours_b67 n u i d 1 _ = some (.inr (1, _))
                      exact tl (up2 (up2 M6 298 i u) 296 i (M6 296 i + 1)) (by rw [rd_a (by decide), rd_a (by decide)]; omega)
                  · rw [up2_ne x1, up2_ne x3]
                  · rw [rd_k hi', rd_a (by decide)]
                  · rw [rd_a (by decide), rd_a (by decide)]
                  · rw [rd_a (by decide), rd_k hi']
                  · rw [rd_same]
                  · rw [rd_a (by decide), rd_same]
                  · rw [rd_a (by decide), rd_a (by decide), if_neg z0]
              obtain ⟨M7, e7, f1, f2, f3, f4, f5⟩ := hrun
              refine Tc_e e7 (Tc_inl ⟨rfl, hfin M7 f1 f2 ⟨?_, fun _ => ⟨?_, ?_⟩⟩⟩)
              · rw [ofN_S, hyh, if_pos rfl, f3, a1, b1]
              · rw [f5, fiN_S, hyh, a1, b1, a2]
                by_cases z0 : ofN (coT M i) (M 39 i) u = 0
                · have hno : ∀ v, v < u → hit (coT M i) (M 39 i) v = false := fun v hv => by
                    cases hh : hit (coT M i) (M 39 i) v with
                    | false => rfl
                    | true =>
                      exfalso
                      have mono : ∀ b : Nat, v + 1 ≤ b → 0 < ofN (coT M i) (M 39 i) b := by
                        intro b hb
                        induction b with
                        | zero => omega
                        | succ b ih =>
                          have hbb := ofN_bd (coT M i) (M 39 i) b
                          rw [ofN_S]
                          by_cases e : v = b
                          · subst e; rw [hh, if_pos rfl]; omega
                          · have := ih (by omega)
                            split <;> omega
                      have := mono u (by omega)
                      omega
                  rw [if_pos z0, if_pos ⟨fiN_none hno, rfl⟩]
                · have hb3 := b2 (by omega)
                  have hfi : fiN (coT M i) (M 39 i) u ≠ -1 := by
                    intro hneg
                    have hno : ∀ b : Nat, fiN (coT M i) (M 39 i) b = -1 → ofN (coT M i) (M 39 i) b = 0 := by
                      intro b
                      induction b with
                      | zero => intro _; rfl
                      | succ b ih =>
                        rw [fiN_S, ofN_S]
                        by_cases e : fiN (coT M i) (M 39 i) b = -1 ∧ hit (coT M i) (M 39 i) b = true
                        · rw [if_pos e]; intro q; omega
                        · rw [if_neg e]
                          intro q
                          have : ¬ hit (coT M i) (M 39 i) b = true := fun y => e ⟨q, y⟩
                          rw [ih q, if_neg this]; rfl
                    exact z0 (hno u hneg)
                  rw [if_neg z0, if_neg (fun q => hfi q.1)]
                  exact hb3.1
              · rw [f4, laN_S, hyh, if_pos rfl]
            · have hnh : hit (coT M i) (M 39 i) u = false := by
                cases hh : hit (coT M i) (M 39 i) u with
                | false => rfl
                | true =>
                  rw [eT] at hh; unfold hit at hh
                  rw [Bool.and_eq_true, decide_eq_true_eq, decide_eq_true_eq] at hh
                  exact absurd hh.2 hm
              have : iter (fun s => mo_findHours_b67 n u i d s.1 s.2) FU (0, M6) = some (1, M6) := by
                refine loop_traj (fun k => ((k : Int), M6)) 1 (by omega) (fun k hk => ?_) ?_
                · have : k = 0 := by omega
                  subst this
                  show mo_findHours_b67 n u i d 0 M6 = some (.inl (1, M6))
                  unfold mo_findHours_b67 mo_findHours_j146_67
                  have s1 : wr ((0 : Int) + 1) = 1 := wr_i (by omega) (by omega)
                  rw [w55d, w552, w5, w54, s1]
                  simp only [toNat_c]
                  rw [if_pos (by omega), if_neg (by omega), if_pos (by omega), if_pos (by omega), e295', z5, ← e292, wr_i (x := (qT M d (u + 1)).2.2.1 - 0) (by omega) (by omega), show (qT M d (u + 1)).2.2.1 - 0 = (qT M d (u + 1)).2.2.1 by omega, tmod_nn hk0.1, if_neg hm]
                · show mo_findHours_b67 n u i d 1 M6 = some (.inr (1, M6))
                  unfold mo_findHours_b67
                  rw [if_pos (by omega), toNat_c, if_pos (by omega)]
              refine Tc_e this (Tc_inl ⟨rfl, hfin M6 (fun _ _ _ _ => rfl) (fun _ _ => ⟨rfl, rfl, rfl⟩) ⟨?_, fun hp => ?_⟩⟩)
              · rw [ofN_S, hnh, if_neg (by decide), Int.add_zero, a1]; exact b1
              · rw [ofN_S, hnh, if_neg (by decide), Int.add_zero] at hp
                rw [fiN_S, laN_S, hnh, if_neg (fun q => Bool.false_ne_true q.2), if_neg (by decide), a2, a3]
                exact b2 hp
        · obtain ⟨z, M6⟩ := s
          obtain ⟨rfl, p1, p2, p3⟩ := hI
          dsimp only at p1 p2 p3
          have e41' : M6 278 41 = (sz : Int) := by rw [p1 278 (by decide) (by decide) (by decide)]; exact e41 (cc0.tr (cM5.sub (by decide)))
          unfold mo_findHours_b44
          exact Tc_t (by show M6 278 41 ≤ _; omega) (Tc_inr ⟨p1, p2⟩)
      unfold mo_findHours_b29
      refine Tc_f (by omega) (Tc_e k1 (Tc_c inner (fun r hr => ?_)))
      obtain ⟨w, M6⟩ := r
      obtain ⟨p1, p2⟩ := hr
      dsimp only at p1 p2 ⊢
      rw [wu]
      have c56 : chg [0] M5 M6 := fun c k hn => by
        by_cases x1 : c = 296
        · subst x1; exact absurd (show rg 296 k ∈ [0] from List.mem_singleton.mpr rfl) hn
        · by_cases x2 : c = 297
          · subst x2; exact absurd (show rg 297 k ∈ [0] from List.mem_singleton.mpr rfl) hn
          · by_cases x3 : c = 298
            · subst x3; exact absurd (show rg 298 k ∈ [0] from List.mem_singleton.mpr rfl) hn
            · rw [p1 c x1 x2 x3]
      exact Tc_inl ⟨rfl, k2.cells c56 (p1 278 (by decide) (by decide) (by decide)) (p1 282 (by decide) (by decide) (by decide)) (p1 292 (by decide) (by decide) (by decide)), cM5.tr c56, mM5.tr (fun c hc => p1 c (by omega) (by omega) (by omega)), p2⟩
    · obtain ⟨z, M4⟩ := s
      obtain ⟨rfl, q1, q2, q3, q4⟩ := hI
      unfold mo_findHours_b29
      exact Tc_t (by show n ≤ ((n.toNat : Nat) : Int); omega) (Tc_inr ⟨q2, q3, q4⟩)
  obtain ⟨w2, e4, g1, g2, g3⟩ := l2
  have m12 : moF M1 M2 := fun c hc => y1 c (by omega)
  refine ⟨w2.2, ?_, (c2.tr o5.chg).tr g1, (m12.tr o5.mo).tr g2, fun i hi => g3 i (by omega)⟩
  unfold mo_findHours
  rw [e1, Option.bind_some, e3, Option.bind_some, e4]
  rfl
end
section
-- ===== due, owes, reading, mildest =====
theorem person_y {k : Int} (h : 0 ≤ k ∧ k ≤ 5) : dh_isPerson k = 1 := by unfold dh_isPerson; rw [if_neg (by omega), if_neg (by omega)]
theorem person_n {k : Int} (h : ¬ (0 ≤ k ∧ k ≤ 5)) : dh_isPerson k = 0 := by
  unfold dh_isPerson
  by_cases q : k < 0
  · rw [if_pos q]
  · rw [if_neg q, if_pos (by omega)]
theorem law_y {k : Int} (h : 0 ≤ k ∧ k ≤ 3) : dh_isLaw k = 1 := by unfold dh_isLaw; rw [if_neg (by omega), if_neg (by omega)]
theorem law_n {k : Int} (h : ¬ (0 ≤ k ∧ k ≤ 3)) : dh_isLaw k = 0 := by
  unfold dh_isLaw
  by_cases q : k < 0
  · rw [if_pos q]
  · rw [if_neg q, if_pos (by omega)]
theorem has_y {M : MEM} {i : Int} (h3 : M 34 6 ≤ 10) (h : 0 ≤ i ∧ i < M 34 6) : co_has i M = 1 := by unfold co_has; rw [if_neg (by omega), if_neg (by omega), if_neg (by omega)]
theorem has_n {M : MEM} {i : Int} (h : ¬ (0 ≤ i ∧ i < M 34 6)) : co_has i M = 0 := by
  unfold co_has
  by_cases q : i < 0
  · rw [if_pos q]
  · rw [if_neg q, if_pos (by omega)]
/-- the clock of a CONTRACT in its future -/
theorem co_look {B : Int} {M M1 : MEM} {n : Int} {i : Nat} (h : Rel B M) (hB : B ≤ 100000000) (c : cE M M1) (hi : (i : Int) < M 34 6) (hn : 1 ≤ n ∧ n ≤ 600) : ∃ M2 M3, dh_look 224 (M1 38 i) M1 = some M2 ∧ fu_run 224 n 600 M2 = some M3 ∧ offL 224 M1 M3 ∧ fu_timesStruck 224 (M3 39 i) M3 = some (coO M n i) ∧ (0 < coO M n i → fu_firstStruck 224 (M3 39 i) M3 = some (fiN (coT M i) (M 39 i) n.toNat) ∧ fu_lastStruck 224 (M3 39 i) M3 = some (laN (coT M i) (M 39 i) n.toNat)) := by
  have nw := now_in h
  obtain ⟨o1, o2, o3, o4⟩ := h.O
  obtain ⟨z1, z2, z3, z4, z5, z6, z7, z8⟩ := o4 i hi
  obtain ⟨d, hd⟩ : ∃ d : Nat, M 38 i = (d : Int) := ⟨(M 38 i).toNat, by omega⟩
  have hdl : (d : Int) < M 3 2 := by omega
  obtain ⟨d1, d2, -, -⟩ := dnk h hB hdl
  have hst := q_stk h hdl hB
  have eT : coT M i = qT M d := by unfold coT; rw [hd, toNat_c]
  have e38 : M1 38 i = (d : Int) := (c.1 38 i (by decide : 6 ∉ [0, 10])).trans hd
  obtain ⟨M2, e2, o5, f2⟩ := q_lookE (e := envM M) h (Or.inl rfl) hdl hB (c.1.sub (by decide)) (c.2.1.trans (env_0 h (Or.inl rfl)).1) c.2.2
  obtain ⟨M3, e3, f3, o6⟩ := fut_run600 (till := n) (Or.inl rfl) d1 d2 nw.1 (by omega) hn.2 (by omega) f2
  rw [show max 0 n.toNat = n.toNat by omega] at f3
  have oL := o5.tr o6.L
  have e39 : M3 39 i = M 39 i := by rw [oL.1 39 (by decide) (by decide) (by decide) (by decide) (by decide) (by decide) (by decide)]; exact c.1 39 i (by decide : 6 ∉ [0, 10])
  have k0 : 0 ≤ (qT M d 0).2.2.1 ∧ (qT M d 0).2.2.1 ≤ 100000000 := ⟨d1.2.2.2.2.2.2.1, d2⟩
  refine ⟨M2, M3, by rw [e38]; exact e2, e3, oL, ?_, fun ho => ⟨?_, ?_⟩⟩
  · rw [e39]; unfold coO; rw [eT]
    exact timesStruck_eq (T := qT M d) f3 k0.1 k0.2 hst (by omega)
  · rw [e39, eT]
    unfold coO at ho; rw [eT] at ho
    exact firstStruck_eq (T := qT M d) f3 k0.1 k0.2 hst (by omega) ho
  · rw [e39, eT]
    unfold coO at ho; rw [eT] at ho
    exact lastStruck_eq (T := qT M d) f3 k0.1 k0.2 hst (by omega) ho
def tdN (law o : Int) : Int := if law = 2 then o else if law = 3 then (if o = 1 then 1 else 0) else min 1 o
theorem td_eq (law o : Int) : dh_timesDue law o = tdN law o := rfl
theorem coO_bd (M : MEM) {n : Int} (hn : n ≤ 600) (i : Nat) : 0 ≤ coO M n i ∧ coO M n i ≤ 600 := by
  have := ofN_bd (coT M i) (M 39 i) n.toNat
  unfold coO
  omega
theorem isDue_eq {M1 : MEM} {i : Nat} {law o : Int} (hi : i < 10) (h : M1 296 i = o) (h0 : 0 ≤ o) : mo_isDue i law M1 = some (if tdN law o = 0 then 0 else 1) := by
  unfold mo_isDue tdN
  rw [toNat_c, h]
  by_cases l3 : law = 3
  · have l2 : ¬ law = 2 := by omega
    rw [if_pos l3, if_pos (by omega), if_neg l2, if_pos l3]
    by_cases z : o = 1
    · rw [if_pos z, if_pos z]; rfl
    · rw [if_neg z, if_neg z]; rfl
  · rw [if_neg l3, if_pos (by omega)]
    by_cases l2 : law = 2
    · rw [if_pos l2]
      by_cases z : o ≤ 0
      · rw [if_pos z, if_pos (by omega)]
      · rw [if_neg z, if_neg (by omega)]
    · rw [if_neg l2, if_neg l3]
      by_cases z : o ≤ 0
      · rw [if_pos z, if_pos (by omega)]
      · rw [if_neg z, if_neg (by omega)]
theorem c_due {B : Int} {M : MEM} (h : Rel B M) (hB : B ≤ 100000000) (x law n : Int) : Lk B (dh_due x law n M) (mo_due x law n) := by
  have nw := now_in h
  have c3 : chg [0] M (up2 M 278 13 0) := chg.rf.up (by decide)
  obtain ⟨o1, o2, o3, o4⟩ := h.O
  unfold Lk dh_due
  have w1 : ∀ M1 : MEM, M1 278 41 = M 278 41 → mo_in x 0 (wr (M1 278 41 - 1)) = if 0 ≤ x ∧ x < M 34 6 then 1 else 0 := fun M1 e => by
    rw [e, o1, wr_i (by omega) (by omega), mo_in_eq]
    by_cases q : 0 ≤ x ∧ x < M 34 6
    · rw [if_pos q, if_pos (by omega)]
    · rw [if_neg q, if_neg (by omega)]
  by_cases hx : 0 ≤ x ∧ x < M 34 6
  · refine Tc_f (by rw [has_y o3 hx]; decide) ?_
    by_cases hl : 0 ≤ law ∧ law ≤ 3
    · refine Tc_f (by rw [law_y hl]; decide) ?_
      by_cases hn : 1 ≤ n ∧ n ≤ 600
      · refine Tc_f (by rw [far_y hn]; decide) (Tc_t (by omega) ?_)
        obtain ⟨i, rfl⟩ : ∃ i : Nat, x = (i : Int) := ⟨x.toNat, by omega⟩
        rw [toNat_c]
        obtain ⟨M2, M3, e2, e3, oL, e4, e5⟩ := co_look (i := i) h hB (cE.rf h) hx.2 hn
        have hob := coO_bd M hn.2 i
        refine Tc_e e2 (Tc_e e3 (Tc_t (by omega) (Tc_e e4 ?_)))
        rw [td_eq]
        have c4 : chg [0] M (up2 M3 278 13 0) := (oL.chg (Or.inl rfl)).up (by decide)
        have mo : Tc (mo_due i law n M3) (fun q => q.1 = (if tdN law (coO M n i) = 0 then -2 else if law = 1 then laN (coT M i) (M 39 i) n.toNat else fiN (coT M i) (M 39 i) n.toNat) ∧ Rel B q.2) := by
          unfold mo_due
          refine Tc_u (Tc_f (by rw [w1 _ (c4 278 41 (by decide)), if_pos hx]; decide) (Tc_f (by rw [moIn_y hl]; decide) (Tc_f (by rw [show mo_isMore n = 1 from moIn_y hn]; decide) ?_)))
          obtain ⟨M5, g1, g2, g3, g4⟩ := find_hours h hB (c4.sub (by decide)) hn
          obtain ⟨g5, g6⟩ := g4 i hx.2
          refine Tc_e g1 (Tc_e (isDue_eq (by omega) g5 hob.1) ?_)
          have hR := h.go0 (c4.tr g2)
          by_cases z : tdN law (coO M n i) = 0
          · rw [if_pos z, if_pos z]
            exact Tc_t rfl (Tc_some ⟨rfl, hR⟩)
          · rw [if_neg z, if_neg z]
            have ho : 0 < coO M n i := by
              unfold tdN at z
              by_cases y : coO M n i = 0
              · exfalso; apply z; rw [y]; split
                · rfl
                · split
                  · rfl
                  · rfl
              · omega
            obtain ⟨g7, g8⟩ := g6 ho
            refine Tc_f (by decide) ?_
            by_cases l1 : law = 1
            · refine Tc_t l1 ?_
              rw [if_pos l1]
              refine Tc_t (by omega) (Tc_some ⟨?_, hR⟩)
              dsimp only
              rw [toNat_c]; exact g8
            · refine Tc_f l1 ?_
              rw [if_neg l1]
              refine Tc_t (by omega) (Tc_some ⟨?_, hR⟩)
              dsimp only
              rw [toNat_c]; exact g7
        by_cases z : tdN law (coO M n i) = 0
        · rw [if_pos z] at mo
          exact Tc_t z (Tc_some mo)
        · rw [if_neg z] at mo
          have ho : 0 < coO M n i := by
            unfold tdN at z
            by_cases y : coO M n i = 0
            · exfalso; apply z; rw [y]; split
              · rfl
              · split
                · rfl
                · rfl
            · omega
          obtain ⟨e6, e7⟩ := e5 ho
          refine Tc_f z ?_
          by_cases l1 : law = 1
          · rw [if_pos l1] at mo
            exact Tc_t l1 (Tc_e e7 (Tc_some mo))
          · rw [if_neg l1] at mo
            exact Tc_f l1 (Tc_e e6 (Tc_some mo))
      · refine Tc_t (far_n hn) (Tc_some ?_)
        unfold mo_due
        exact Tc_u (Tc_f (by rw [w1 _ (c3 278 41 (by decide)), if_pos hx]; decide) (Tc_f (by rw [moIn_y hl]; decide) (Tc_t (moIn_n hn) (Tc_some ⟨rfl, h.go0 c3⟩))))
    · refine Tc_t (law_n hl) (Tc_some ?_)
      unfold mo_due
      exact Tc_u (Tc_f (by rw [w1 _ (c3 278 41 (by decide)), if_pos hx]; decide) (Tc_t (moIn_n hl) (Tc_some ⟨rfl, h.go0 c3⟩)))
  · refine Tc_t (has_n hx) (Tc_some ?_)
    unfold mo_due
    exact Tc_u (Tc_t (by rw [w1 _ (c3 278 41 (by decide)), if_neg hx]) (Tc_some ⟨rfl, h.go0 c3⟩))
theorem cE.up40 {M M1 : MEM} {k : Nat} {x : Int} (h : cE M M1) : cE M (up2 M1 40 k x) :=
  ⟨h.1.up (show rg 40 k ∈ [0, 10] from List.mem_cons_self), (envC_cells (f := 224) (M := M1) (M' := up2 M1 40 k x) (fun c hc => up2_ne (by omega)) (rd_a (by decide)) (rd_a (by decide))).trans h.2.1, eOk_cells (f := 224) (M := M1) (M' := up2 M1 40 k x) (fun c hc => up2_ne (by omega)) (rd_a (by decide)) h.2.2⟩
theorem count_due {B : Int} {M : MEM} {n : Int} (h : Rel B M) (hB : B ≤ 100000000) (hn : 1 ≤ n ∧ n ≤ 600) : ∃ M2, dh_countDue n M = some M2 ∧ chg [0] M M2 ∧ ∀ i : Nat, (i : Int) < M 34 6 → M2 40 i = coO M n i := by
  obtain ⟨o1, o2, o3, o4⟩ := h.O
  obtain ⟨sz, hsz⟩ : ∃ sz : Nat, M 34 6 = (sz : Int) := ⟨(M 34 6).toNat, by omega⟩
  have l1 : Tc (iter (fun s => dh_countDue_b2 n s.1 s.2) FU (0, M)) (fun r => chg [0] M r.2 ∧ ∀ i : Nat, i < sz → r.2 40 i = coO M n i) := by
    refine Tc_n (fun i s => s.1 = (i : Int) ∧ cE M s.2 ∧ chg [0] M s.2 ∧ ∀ i' : Nat, i' < i → s.2 40 i' = coO M n i') sz ⟨rfl, cE.rf h, chg.rf, fun i' hi' => by omega⟩ (by omega) (fun i s hi hI => ?_) (fun s hI => ?_)
    · obtain ⟨z, M1⟩ := s
      obtain ⟨rfl, q1, q2, q3⟩ := hI
      dsimp only at q1 q2 q3 ⊢
      have e346 : M1 34 6 = (sz : Int) := (q2 34 6 (by decide)).trans hsz
      obtain ⟨M2, M3, e2, e3, oL, e4, -⟩ := co_look (i := i) h hB q1 (by omega) hn
      unfold dh_countDue_b2
      rw [has_y (by omega) (by omega)]
      simp only [toNat_c]
      refine Tc_f (by decide) (Tc_f (by omega) (Tc_t (by omega) (Tc_e e2 (Tc_e e3 (Tc_t (by omega) (Tc_e e4 (Tc_t (by omega) (Tc_u (Tc_inl ⟨(wr_i (by omega) (by omega)).trans (by omega), (q1.L oL).up40, ?_, fun i' hi' => ?_⟩)))))))))
      · exact (q2.tr (oL.chg (Or.inl rfl))).up (show rg 40 i ∈ [0] from List.mem_singleton.mpr rfl)
      · dsimp only
        by_cases e : i' = i
        · subst e; exact rd_same
        · rw [rd_k e, oL.1 40 (by decide) (by decide) (by decide) (by decide) (by decide) (by decide) (by decide)]; exact q3 i' (by omega)
    · obtain ⟨z, M1⟩ := s
      obtain ⟨rfl, q1, q2, q3⟩ := hI
      dsimp only at q1 q2 q3
      have e346 : M1 34 6 = (sz : Int) := (q2 34 6 (by decide)).trans hsz
      unfold dh_countDue_b2
      exact Tc_t (has_n (show ¬ (0 ≤ ((sz : Nat) : Int) ∧ ((sz : Nat) : Int) < M1 34 6) by omega)) (Tc_inr ⟨q2, q3⟩)
  obtain ⟨r, e1, g1, g2⟩ := l1
  refine ⟨r.2, ?_, g1, fun i hi => g2 i (by omega)⟩
  unfold dh_countDue
  rw [e1]
  rfl
/-- FROGS of one side -/
noncomputable def frF (M : MEM) (n p law : Int) (side : Nat) (i : Nat) : Int := if M side i = p then M 37 i * tdN law (coO M n i) else 0
noncomputable def frN (M : MEM) (n p law : Int) (side : Nat) (k : Nat) : Int := sumN (frF M n p law side) k
theorem td_bd {law o : Int} (h0 : 0 ≤ o) (h1 : o ≤ 600) : 0 ≤ tdN law o ∧ tdN law o ≤ 600 := by
  unfold tdN
  split
  · omega
  · split
    · split <;> omega
    · omega
theorem mul_bd {a b : Int} (h1 : 1 ≤ a) (h2 : a ≤ 99) (h3 : 0 ≤ b) (h4 : b ≤ 600) : 0 ≤ a * b ∧ a * b ≤ 59400 := by
  refine ⟨Int.mul_nonneg (by omega) h3, ?_⟩
  have := Int.mul_le_mul h2 h4 h3 (by decide : (0 : Int) ≤ 99)
  omega
theorem frN_bd {B : Int} {M : MEM} {n p law : Int} {side : Nat} (h : Rel B M) (hn : n ≤ 600) : ∀ k : Nat, (k : Int) ≤ M 34 6 → 0 ≤ frN M n p law side k ∧ frN M n p law side k ≤ 59400 * k := by
  obtain ⟨o1, o2, o3, o4⟩ := h.O
  intro k
  induction k with
  | zero => intro _; exact ⟨Int.le_refl _, by show (0 : Int) ≤ 59400 * ((0 : Nat) : Int); omega⟩
  | succ k ih =>
    intro hk
    have ih := ih (by omega)
    obtain ⟨-, -, -, -, -, z6, -, -⟩ := o4 k (by omega)
    have hc := coO_bd M hn k
    have ht := td_bd (law := law) hc.1 hc.2
    have hm := mul_bd z6.1 z6.2 ht.1 ht.2
    have e : frN M n p law side (k + 1) = frN M n p law side k + frF M n p law side k := rfl
    rw [e]
    unfold frF
    split <;> omega
theorem sumOf_eq {B : Int} {M M1 : MEM} {n p law : Int} {side : Nat} (h : Rel B M) (hs : side = 35 ∨ side = 36) (hn : n ≤ 600) (c : chg [0, 10] M M1) (h40 : ∀ i : Nat, (i : Int) < M 34 6 → M1 40 i = coO M n i) : co_sumOf side p law M1 = some (frN M n p law side (M 34 6).toNat) := by
  obtain ⟨o1, o2, o3, o4⟩ := h.O
  obtain ⟨sz, hsz⟩ : ∃ sz : Nat, M 34 6 = (sz : Int) := ⟨(M 34 6).toNat, by omega⟩
  have e346 : M1 34 6 = (sz : Int) := (c 34 6 (by decide)).trans hsz
  have es : M1 side = M side := c.row (fun k => by rcases hs with rfl | rfl <;> exact (by decide : 6 ∉ [0, 10]))
  have e37 : M1 37 = M 37 := c.row (fun k => (by decide : 6 ∉ [0, 10]))
  have hlen : ((lenA side : Nat) : Int) = 10 := by rcases hs with rfl | rfl <;> rfl
  have hl : iter (fun s => co_sumOf_b6 side p law s.1 s.2 M1) FU (0, 0) = some (frN M n p law side sz, (sz : Int)) := by
    refine loop_traj (fun i => (frN M n p law side i, (i : Int))) sz (by omega) (fun i hi => ?_) ?_
    · dsimp only
      obtain ⟨-, -, -, -, -, z6, -, -⟩ := o4 i (by omega)
      have hc := coO_bd M hn i
      have ht := td_bd (law := law) hc.1 hc.2
      have hm := mul_bd z6.1 z6.2 ht.1 ht.2
      have hb := frN_bd (p := p) (law := law) (side := side) h hn i (by omega)
      have eS : frN M n p law side (i + 1) = frN M n p law side i + frF M n p law side i := rfl
      unfold co_sumOf_b6 co_sumOf_j61_6
      rw [hlen]
      simp only [toNat_c]
      rw [if_neg (by omega), if_neg (by omega), if_neg (by omega), if_pos (by omega), es, e37, h40 i (by omega), td_eq, wr_i (x := (i : Int) + 1) (by omega) (by omega), eS]
      unfold frF
      by_cases z : M side i = p
      · rw [if_pos z, if_pos (by omega), if_pos (by omega), if_pos z, wr_i (x := M 37 i * tdN law (coO M n i)) (by omega) (by omega), wr_i (by omega) (by omega)]
        rfl
      · rw [if_neg z, if_neg z, Int.add_zero]
        rfl
    · dsimp only
      unfold co_sumOf_b6
      rw [if_pos (by omega)]
  unfold co_sumOf
  rw [hl, Option.bind_some, hsz, toNat_c]
theorem frogsOf_eq {B : Int} {M M1 : MEM} {n p law : Int} {s : Nat} (h : Rel B M) (hs : s = 0 ∨ s = 1) (hn : n ≤ 600) (c : chg [0, 10] M M1) (h296 : ∀ i : Nat, (i : Int) < M 34 6 → M1 296 i = coO M n i) : mo_frogsOf p law s M1 = some (frN M n p law (35 + s) (M 34 6).toNat) := by
  obtain ⟨o1, o2, o3, o4⟩ := h.O
  obtain ⟨sz, hsz⟩ : ∃ sz : Nat, M 34 6 = (sz : Int) := ⟨(M 34 6).toNat, by omega⟩
  have e41 : M1 278 41 = (sz : Int) := (c 278 41 (by decide)).trans (o1.trans hsz)
  have e295 : M1 295 = M 295 := c.row (fun k => (by decide : 6 ∉ [0, 10]))
  have hl : iter (fun q => mo_frogsOf_b6 p law s q.1 q.2 M1) FU (0, 0) = some (frN M n p law (35 + s) sz, (sz : Int)) := by
    refine loop_traj (fun i => (frN M n p law (35 + s) i, (i : Int))) sz (by omega) (fun i hi => ?_) ?_
    · dsimp only
      obtain ⟨z1, z2, z3, -, -, z6, -, -⟩ := o4 i (by omega)
      have hc := coO_bd M hn i
      have ht := td_bd (law := law) hc.1 hc.2
      have hm := mul_bd z6.1 z6.2 ht.1 ht.2
      have hb := frN_bd (p := p) (law := law) (side := 35 + s) h hn i (by omega)
      have eS : frN M n p law (35 + s) (i + 1) = frN M n p law (35 + s) i + frF M n p law (35 + s) i := rfl
      have w5 : wr (5 * (i : Int)) = ((5 * i : Nat) : Int) := (wr_i (by omega) (by omega)).trans (by omega)
      have w5s : wr (((5 * i : Nat) : Int) + (s : Int)) = ((5 * i + s : Nat) : Int) := (wr_i (by omega) (by omega)).trans (by omega)
      have w52 : wr (((5 * i : Nat) : Int) + 2) = ((5 * i + 2 : Nat) : Int) := (wr_i (by omega) (by omega)).trans (by omega)
      have zs : M 295 (5 * i + s) = M (35 + s) i := by rcases hs with rfl | rfl; exact z1; exact z2
      unfold mo_frogsOf_b6 mo_frogsOf_j69_6 mo_frogsOf_j73_6
      rw [w5, w5s, w52]
      simp only [toNat_c]
      rw [if_neg (by omega), if_pos (by omega), e295, zs, z3, h296 i (by omega), wr_i (x := (i : Int) + 1) (by omega) (by omega), eS]
      unfold frF
      by_cases z : M (35 + s) i = p
      · rw [if_pos z, isDue_eq (by omega) (h296 i (by omega)) hc.1, Option.bind_some, if_pos z]
        by_cases y : tdN law (coO M n i) = 0
        · rw [if_pos y, if_pos rfl, y, Int.mul_zero, Int.add_zero]
          rfl
        · rw [if_neg y, if_neg (by decide), if_pos (by omega)]
          by_cases l2 : law = 2
          · have e1 : tdN law (coO M n i) = coO M n i := by unfold tdN; rw [if_pos l2]
            rw [e1] at hm
            rw [if_pos l2, if_pos (by omega), e1, wr_i (x := M 37 i * coO M n i) (by omega) (by omega), wr_i (by omega) (by omega)]
            rfl
          · have e1 : tdN law (coO M n i) = 1 := by
              unfold tdN at y ⊢
              rw [if_neg l2] at y ⊢
              split at y
              · split at y
                · rw [if_pos (by assumption), if_pos (by assumption)]
                · exact absurd rfl y
              · rw [if_neg (by assumption)]
                omega
            rw [e1] at hm
            rw [if_neg l2, e1, wr_i (x := M 37 i * 1) (by omega) (by omega), wr_i (by omega) (by omega)]
            rfl
      · rw [if_neg z, if_neg z, Int.add_zero]
        rfl
    · dsimp only
      unfold mo_frogsOf_b6
      rw [if_pos (by omega)]
  unfold mo_frogsOf
  rw [hl, Option.bind_some, hsz, toNat_c]
noncomputable def netN (M : MEM) (n p law : Int) : Int := frN M n p law 35 (M 34 6).toNat - frN M n p law 36 (M 34 6).toNat
theorem netN_bd {B : Int} {M : MEM} {n p law : Int} (h : Rel B M) (hn : n ≤ 600) : -594000 ≤ netN M n p law ∧ netN M n p law ≤ 594000 := by
  obtain ⟨o1, o2, o3, o4⟩ := h.O
  have h1 := frN_bd (p := p) (law := law) (side := 35) h hn (M 34 6).toNat (by omega)
  have h2 := frN_bd (p := p) (law := law) (side := 36) h hn (M 34 6).toNat (by omega)
  unfold netN
  omega
theorem less_eq {B : Int} {M M1 : MEM} {n p law : Int} (h : Rel B M) (hn : n ≤ 600) (c : chg [0, 10] M M1) (h40 : ∀ i : Nat, (i : Int) < M 34 6 → M1 40 i = coO M n i) : co_less p law M1 = some (netN M n p law) := by
  have hb := netN_bd (p := p) (law := law) h hn
  unfold co_less co_owedBy co_owedTo
  rw [sumOf_eq h (Or.inl rfl) hn c h40, Option.bind_some, Option.bind_some, sumOf_eq h (Or.inr rfl) hn c h40, Option.bind_some, Option.bind_some]
  unfold netN at hb ⊢
  rw [wr_i (by omega) (by omega)]
theorem netOf_eq {B : Int} {M M1 : MEM} {n p law : Int} (h : Rel B M) (hn : n ≤ 600) (c : chg [0, 10] M M1) (h296 : ∀ i : Nat, (i : Int) < M 34 6 → M1 296 i = coO M n i) : mo_netOf p law M1 = some (netN M n p law) := by
  have hb := netN_bd (p := p) (law := law) h hn
  have e0 : mo_frogsOf p law 0 M1 = some (frN M n p law 35 (M 34 6).toNat) := frogsOf_eq (s := 0) h (Or.inl rfl) hn c h296
  have e1 : mo_frogsOf p law 1 M1 = some (frN M n p law 36 (M 34 6).toNat) := frogsOf_eq (s := 1) h (Or.inr rfl) hn c h296
  unfold mo_netOf
  rw [e0, Option.bind_some, e1, Option.bind_some]
  unfold netN at hb ⊢
  rw [wr_i (by omega) (by omega)]
theorem c_owes {B : Int} {M : MEM} (h : Rel B M) (hB : B ≤ 100000000) (p law n : Int) : Lk B (dh_owes p law n M) (mo_owes p law n) := by
  have c3 : chg [0] M (up2 M 278 13 0) := chg.rf.up (by decide)
  unfold Lk dh_owes
  by_cases hp : 0 ≤ p ∧ p ≤ 5
  · refine Tc_f (by rw [person_y hp]; decide) ?_
    by_cases hl : 0 ≤ law ∧ law ≤ 3
    · refine Tc_f (by rw [law_y hl]; decide) ?_
      by_cases hn : 1 ≤ n ∧ n ≤ 600
      · refine Tc_f (by rw [far_y hn]; decide) ?_
        obtain ⟨M1, e1, c1, k1⟩ := count_due h hB hn
        obtain ⟨M2, n1, n2, n3⟩ := newRow_eq M1
        have c2 : chg [0, 10] M M2 := (c1.sub (by decide)).tr n3.chg
        have k2 : ∀ i : Nat, (i : Int) < M 34 6 → M2 40 i = coO M n i := fun i hi => by rw [n3.cell (by decide) (by decide)]; exact k1 i hi
        have s1 : co_owedTo p law M2 = some (frN M n p law 36 (M 34 6).toNat) := by unfold co_owedTo; rw [sumOf_eq h (Or.inr rfl) hn.2 c2 k2]; rfl
        obtain ⟨M3, t1, t2, t3⟩ := tell_eq (frN M n p law 36 (M 34 6).toNat) n2 (by simp)
        have c4 : chg [0, 10] M M3 := c2.tr t3.chg
        have k3 : ∀ i : Nat, (i : Int) < M 34 6 → M3 40 i = coO M n i := fun i hi => by rw [t3.cell (by decide) (by decide)]; exact k2 i hi
        have s2 : co_owedBy p law M3 = some (frN M n p law 35 (M 34 6).toNat) := by unfold co_owedBy; rw [sumOf_eq h (Or.inl rfl) hn.2 c4 k3]; rfl
        refine Tc_e e1 (Tc_e n1 (Tc_e s1 (Tc_e t1 (Tc_e s2 (Tc_some ?_)))))
        dsimp only
        unfold mo_owes
        have c5 : chg [0, 10] M (up2 M3 278 13 0) := c4.up (by decide)
        refine Tc_u (Tc_f (by rw [moIn_y hp]; decide) (Tc_f (by rw [moIn_y hl]; decide) (Tc_f (by rw [show mo_isMore n = 1 from moIn_y hn]; decide) ?_)))
        obtain ⟨M5, g1, g2, g3, g4⟩ := find_hours h hB c5 hn
        obtain ⟨x1, x2⟩ := moRow0 M5
        have c6 : chg [0, 10] M (up2 M5 278 12 0) := (c5.tr (g2.sub (by decide))).tr x2.chg
        have q1 : ∀ i : Nat, (i : Int) < M 34 6 → up2 M5 278 12 0 296 i = coO M n i := fun i hi => by rw [rd_a (by decide)]; exact (g4 i hi).1
        have f1 : mo_frogsOf p law 1 (up2 M5 278 12 0) = some (frN M n p law 36 (M 34 6).toNat) := frogsOf_eq (s := 1) h (Or.inr rfl) hn.2 c6 q1
        obtain ⟨M6, u1, u2, u3⟩ := moTell_eq (frN M n p law 36 (M 34 6).toNat) x1 (by simp)
        have c7 : chg [0, 10] M M6 := c6.tr u3.chg
        have q2 : ∀ i : Nat, (i : Int) < M 34 6 → M6 296 i = coO M n i := fun i hi => by rw [u3.cell (by decide) (by decide)]; exact q1 i hi
        have f2 : mo_frogsOf p law 0 M6 = some (frN M n p law 35 (M 34 6).toNat) := frogsOf_eq (s := 0) h (Or.inl rfl) hn.2 c7 q2
        refine Tc_e g1 (Tc_u (Tc_e f1 (Tc_e u1 (Tc_e f2 (Tc_some ⟨rfl, h.go10 c7 (t2.fin (((moF.up (by decide)).tr g3).tr (x2.tr u3).mo) u2 (by simp))⟩)))))
      · refine Tc_t (far_n hn) (Tc_some ?_)
        unfold mo_owes
        exact Tc_u (Tc_f (by rw [moIn_y hp]; decide) (Tc_f (by rw [moIn_y hl]; decide) (Tc_t (moIn_n hn) (Tc_some ⟨rfl, h.go0 c3⟩))))
    · refine Tc_t (law_n hl) (Tc_some ?_)
      unfold mo_owes
      exact Tc_u (Tc_f (by rw [moIn_y hp]; decide) (Tc_t (moIn_n hl) (Tc_some ⟨rfl, h.go0 c3⟩)))
  · refine Tc_t (person_n hp) (Tc_some ?_)
    unfold mo_owes
    exact Tc_u (Tc_t (moIn_n hp) (Tc_some ⟨rfl, h.go0 c3⟩))
/-- the first of the least -/
def rdN (N : Nat → Int) : Nat → Nat
  | 0 => 0
  | i + 1 => if N i < N (rdN N i) then i else rdN N i
theorem rdN_S (N : Nat → Int) (i : Nat) : rdN N (i + 1) = if N i < N (rdN N i) then i else rdN N i := rfl
theorem rdN_le (N : Nat → Int) : ∀ i, rdN N i ≤ i := by
  intro i
  induction i with
  | zero => exact Nat.le_refl _
  | succ i ih => rw [rdN_S]; split <;> omega
def rdR (N : Nat → Int) : Nat → List Int
  | 0 => []
  | i + 1 => rdR N i ++ [N i]
theorem rdR_len (N : Nat → Int) : ∀ i, (rdR N i).length = i := by
  intro i
  induction i with
  | zero => rfl
  | succ i ih => show (rdR N i ++ [N i]).length = _; rw [List.length_append, ih]; rfl
theorem c_reading {B : Int} {M : MEM} (h : Rel B M) (hB : B ≤ 100000000) (p n : Int) : Lk B (dh_reading p n M) (mo_reading p n) := by
  have c3 : chg [0] M (up2 M 278 13 0) := chg.rf.up (by decide)
  unfold Lk dh_reading
  by_cases hp : 0 ≤ p ∧ p ≤ 5
  · refine Tc_f (by rw [person_y hp]; decide) ?_
    by_cases hn : 1 ≤ n ∧ n ≤ 600
    · refine Tc_f (by rw [far_y hn]; decide) ?_
      obtain ⟨N, hNe⟩ : ∃ N : Nat → Int, N = fun law : Nat => netN M n p law := ⟨_, rfl⟩
      have hN : ∀ law : Nat, netN M n p law = N law := fun law => by rw [hNe]
      obtain ⟨M1, e1, c1, k1⟩ := count_due h hB hn
      obtain ⟨M2, n1, n2, n3⟩ := newRow_eq M1
      have c2 : chg [0, 10] M M2 := (c1.sub (by decide)).tr n3.chg
      have k2 : ∀ i : Nat, (i : Int) < M 34 6 → M2 40 i = coO M n i := fun i hi => by rw [n3.cell (by decide) (by decide)]; exact k1 i hi
      have s0 : co_less p 0 M2 = some (N 0) := by rw [← hN 0]; exact less_eq h hn.2 c2 k2
      refine Tc_e e1 (Tc_e n1 (Tc_e s0 ?_))
      have l1 : Tc (iter (fun s => dh_reading_b41 p s.1 s.2.1 s.2.2.1 s.2.2.2) FU (0, N 0, 0, M2)) (fun r => r.1 = (rdN N 4 : Nat) ∧ chg [0, 10] M r.2.2.2 ∧ rowC (rdR N 4) r.2.2.2) := by
        refine Tc_n (fun i s => s.1 = (rdN N i : Nat) ∧ s.2.1 = N (rdN N i) ∧ s.2.2.1 = (i : Int) ∧ chg [0, 10] M s.2.2.2 ∧ rowC (rdR N i) s.2.2.2 ∧ ∀ i : Nat, (i : Int) < M 34 6 → s.2.2.2 40 i = coO M n i) 4 ⟨rfl, rfl, rfl, c2, n2, k2⟩ (by omega) (fun i s hi hI => ?_) (fun s hI => ?_)
        · obtain ⟨y, y', z, M3⟩ := s
          obtain ⟨rfl, rfl, rfl, q1, q2, q3⟩ := hI
          dsimp only at q1 q2 q3 ⊢
          have wi : wr ((i : Int) + 1) = ((i + 1 : Nat) : Int) := (wr_i (by omega) (by omega)).trans (by omega)
          have s1 : co_less p i M3 = some (N i) := by rw [← hN i]; exact less_eq h hn.2 q1 q3
          obtain ⟨M4, t1, t2, t3⟩ := tell_eq (N i) q2 (by rw [rdR_len]; omega)
          have q3' : ∀ i : Nat, (i : Int) < M 34 6 → M4 40 i = coO M n i := fun i hi => by rw [t3.cell (by decide) (by decide)]; exact q3 i hi
          unfold dh_reading_b41 dh_reading_j79_41
          rw [wi, rdN_S]
          refine Tc_f (by omega) (Tc_e s1 (Tc_e t1 ?_))
          by_cases z : N i < N (rdN N i)
          · rw [if_pos z]
            exact Tc_f (by omega) (Tc_inl ⟨rfl, rfl, rfl, q1.tr t3.chg, t2, q3'⟩)
          · rw [if_neg z]
            exact Tc_t (by omega) (Tc_inl ⟨rfl, rfl, rfl, q1.tr t3.chg, t2, q3'⟩)
        · obtain ⟨y, y', z, M3⟩ := s
          obtain ⟨rfl, rfl, rfl, q1, q2, q3⟩ := hI
          unfold dh_reading_b41
          exact Tc_t (by show (4 : Int) ≤ ((4 : Nat) : Int); omega) (Tc_inr ⟨rfl, q1, q2⟩)
      refine Tc_c l1 (fun r hr => ?_)
      obtain ⟨y, y', z, M3⟩ := r
      obtain ⟨rfl, q1, q2⟩ := hr
      dsimp only at q1 q2 ⊢
      refine Tc_some ?_
      dsimp only
      unfold mo_reading
      have c5 : chg [0, 10] M (up2 M3 278 13 0) := q1.up (by decide)
      refine Tc_u (Tc_f (by rw [moIn_y hp]; decide) (Tc_f (by rw [show mo_isMore n = 1 from moIn_y hn]; decide) ?_))
      obtain ⟨M5, g1, g2, g3, g4⟩ := find_hours h hB c5 hn
      obtain ⟨x1, x2⟩ := moRow0 M5
      have c6 : chg [0, 10] M (up2 M5 278 12 0) := (c5.tr (g2.sub (by decide))).tr x2.chg
      have p1 : ∀ i : Nat, (i : Int) < M 34 6 → up2 M5 278 12 0 296 i = coO M n i := fun i hi => by rw [rd_a (by decide)]; exact (g4 i hi).1
      have m6 : moF M3 (up2 M5 278 12 0) := ((moF.up (by decide)).tr g3).tr x2.mo
      refine Tc_e g1 (Tc_u ?_)
      have l2 : Tc (iter (fun s => mo_reading_b38 p s.1 s.2.1 s.2.2) FU (0, 0, up2 M5 278 12 0)) (fun r => r.1 = (rdN N 4 : Nat) ∧ chg [0, 10] M r.2.2 ∧ rowM (rdR N 4) r.2.2 ∧ moF M3 r.2.2) := by
        refine Tc_n (fun i s => s.1 = (rdN N i : Nat) ∧ s.2.1 = (i : Int) ∧ chg [0, 10] M s.2.2 ∧ rowM (rdR N i) s.2.2 ∧ moF M3 s.2.2 ∧ ∀ i : Nat, (i : Int) < M 34 6 → s.2.2 296 i = coO M n i) 4 ⟨rfl, rfl, c6, x1, m6, p1⟩ (by omega) (fun i s hi hI => ?_) (fun s hI => ?_)
        · obtain ⟨y, z, M6⟩ := s
          obtain ⟨rfl, rfl, v1, v2, v3, v4⟩ := hI
          dsimp only at v1 v2 v3 v4 ⊢
          have wi : wr ((i : Int) + 1) = ((i + 1 : Nat) : Int) := (wr_i (by omega) (by omega)).trans (by omega)
          have s1 : mo_netOf p i M6 = some (N i) := by rw [← hN i]; exact netOf_eq h hn.2 v1 v4
          obtain ⟨M7, t1, t2, t3⟩ := moTell_eq (N i) v2 (by rw [rdR_len]; omega)
          have v4' : ∀ i : Nat, (i : Int) < M 34 6 → M7 296 i = coO M n i := fun i hi => by rw [t3.cell (by decide) (by decide)]; exact v4 i hi
          have v1' := v1.tr t3.chg
          have s2 : mo_netOf p i M7 = some (N i) := by rw [← hN i]; exact netOf_eq h hn.2 v1' v4'
          have s3 : mo_netOf p (rdN N i : Nat) M7 = some (N (rdN N i)) := by rw [← hN]; exact netOf_eq h hn.2 v1' v4'
          unfold mo_reading_b38 mo_reading_j74_38
          rw [wi, rdN_S]
          refine Tc_f (by omega) (Tc_e s1 (Tc_e t1 (Tc_e s2 (Tc_e s3 ?_))))
          by_cases z : N i < N (rdN N i)
          · rw [if_pos z]
            exact Tc_f (by omega) (Tc_inl ⟨rfl, rfl, v1', t2, v3.tr t3.mo, v4'⟩)
          · rw [if_neg z]
            exact Tc_t (by omega) (Tc_inl ⟨rfl, rfl, v1', t2, v3.tr t3.mo, v4'⟩)
        · obtain ⟨y, z, M6⟩ := s
          obtain ⟨rfl, rfl, v1, v2, v3, v4⟩ := hI
          unfold mo_reading_b38
          exact Tc_t (by show (4 : Int) ≤ ((4 : Nat) : Int); omega) (Tc_inr ⟨rfl, v1, v2, v3⟩)
      refine Tc_c l2 (fun r hr => ?_)
      obtain ⟨y, z, M6⟩ := r
      obtain ⟨rfl, v1, v2, v3⟩ := hr
      exact Tc_some ⟨rfl, h.go10 v1 (q2.fin v3 v2 (by rw [rdR_len]; omega))⟩
    · refine Tc_t (far_n hn) (Tc_some ?_)
      unfold mo_reading
      exact Tc_u (Tc_f (by rw [moIn_y hp]; decide) (Tc_t (moIn_n hn) (Tc_some ⟨rfl, h.go0 c3⟩)))
  · refine Tc_t (person_n hp) (Tc_some ?_)
    unfold mo_reading
    exact Tc_u (Tc_t (moIn_n hp) (Tc_some ⟨rfl, h.go0 c3⟩))
end
section
-- ===== mildest =====
def mxN (F : Nat → Int) : Nat → Int
  | 0 => -1000000
  | i + 1 => max (mxN F i) (F i)
def mlN (W : Nat → Int) : Nat → Int × Int
  | 0 => (0, 1000000)
  | i + 1 => if W i < (mlN W i).2 then ((i : Int), W i) else mlN W i
theorem mxN_bd {F : Nat → Int} (h : ∀ i, -594000 ≤ F i ∧ F i ≤ 594000) : ∀ i, mxN F i ≤ 594000 := by
  intro i
  induction i with
  | zero => show (-1000000 : Int) ≤ _; decide
  | succ i ih => show max (mxN F i) (F i) ≤ _; have := h i; omega
theorem mlN_S (W : Nat → Int) (i : Nat) : mlN W (i + 1) = if W i < (mlN W i).2 then ((i : Int), W i) else mlN W i := rfl
theorem mxN_S (F : Nat → Int) (i : Nat) : mxN F (i + 1) = max (mxN F i) (F i) := rfl
theorem c_mildest {B : Int} {M : MEM} (h : Rel B M) (hB : B ≤ 100000000) (n : Int) : Lk B (dh_mildest n M) (mo_mildest n) := by
  have c3 : chg [0] M (up2 M 278 13 0) := chg.rf.up (by decide)
  unfold Lk dh_mildest
  by_cases hn : 1 ≤ n ∧ n ≤ 600
  · refine Tc_f (by rw [far_y hn]; decide) ?_
    obtain ⟨F, hFe⟩ : ∃ F : Nat → Nat → Int, F = fun law p : Nat => netN M n p law := ⟨_, rfl⟩
    have hF : ∀ law p : Nat, netN M n p law = F law p := fun law p => by rw [hFe]
    have hFb : ∀ law p, -594000 ≤ F law p ∧ F law p ≤ 594000 := fun law p => by rw [← hF]; exact netN_bd h hn.2
    obtain ⟨W, hWe⟩ : ∃ W : Nat → Int, W = fun law => mxN (F law) 6 := ⟨_, rfl⟩
    have hW : ∀ law, mxN (F law) 6 = W law := fun law => by rw [hWe]
    have hWb : ∀ law, W law ≤ 594000 := fun law => by rw [← hW]; exact mxN_bd (hFb law) 6
    obtain ⟨M1, e1, c1, k1⟩ := count_due h hB hn
    have cc1 : chg [0, 10] M M1 := c1.sub (by decide)
    have most : ∀ law : Nat, co_most law M1 = some (W law) := fun law => by
      have s0 : co_less 0 law M1 = some (F law 0) := by rw [← hF law 0]; exact less_eq h hn.2 cc1 k1
      have hl : iter (fun s => co_most_b9 law s.1 s.2 M1) FU (F law 0, 1) = some (W law, 6) := by
        have := loop_traj (body := fun s => co_most_b9 law s.1 s.2 M1) (e := (W law, 6)) (fun i => (mxN (F law) (i + 1), (i : Int) + 1)) 5 (by omega) (fun i hi => by
          dsimp only
          have s1 : co_less ((i : Int) + 1) law M1 = some (F law (i + 1)) := by
            rw [← hF law (i + 1), show (((i + 1 : Nat) : Int)) = (i : Int) + 1 by omega]; exact less_eq h hn.2 cc1 k1
          unfold co_most_b9
          rw [if_neg (by omega), s1, Option.bind_some, wr_i (by omega) (by omega)]
          rfl) (by
          dsimp only
          unfold co_most_b9
          rw [if_pos (by omega), ← hW]
          rfl)
        have e0 : mxN (F law) (0 + 1) = F law 0 := by
          show max (-1000000) (F law 0) = F law 0
          have := hFb law 0
          omega
        rw [e0] at this
        exact this
      unfold co_most
      rw [s0, Option.bind_some, hl, Option.bind_some]
    refine Tc_e e1 (Tc_e (most 0) ?_)
    have hl : iter (fun s => dh_mildest_b28 s.1 s.2.1 s.2.2 M1) FU (0, W 0, 1) = some ((mlN W 4).1, (mlN W 4).2, 4) := by
      have := loop_traj (body := fun s => dh_mildest_b28 s.1 s.2.1 s.2.2 M1) (e := ((mlN W 4).1, (mlN W 4).2, 4)) (fun i => ((mlN W (i + 1)).1, (mlN W (i + 1)).2, (i : Int) + 1)) 3 (by omega) (fun i hi => by
        dsimp only
        have m1 : co_most ((i : Int) + 1) M1 = some (W (i + 1)) := by rw [show (i : Int) + 1 = ((i + 1 : Nat) : Int) by omega]; exact most (i + 1)
        unfold dh_mildest_b28 dh_mildest_j57_28
        rw [if_neg (by omega), m1, Option.bind_some, wr_i (by omega) (by omega), mlN_S W (i + 1)]
        by_cases z : W (i + 1) < (mlN W (i + 1)).2
        · rw [if_neg (by omega), if_pos z]
          rfl
        · rw [if_pos (by omega), if_neg z]
          rfl) (by
        dsimp only
        unfold dh_mildest_b28
        rw [if_pos (by omega)]
        rfl)
      have e0 : mlN W (0 + 1) = (0, W 0) := by
        rw [mlN_S, if_pos (by have := hWb 0; show W 0 < 1000000; omega)]
        rfl
      rw [e0] at this
      exact this
    refine Tc_e hl ?_
    dsimp only
    obtain ⟨M2, n1, n2, n3⟩ := newRow_eq M1
    obtain ⟨M3, t1, t2, t3⟩ := tell_eq (mlN W 4).2 n2 (by simp)
    refine Tc_e n1 (Tc_e t1 (Tc_some ?_))
    dsimp only
    have c4 : chg [0, 10] M M3 := cc1.tr (n3.tr t3).chg
    unfold mo_mildest
    have c5 : chg [0, 10] M (up2 M3 278 13 0) := c4.up (by decide)
    refine Tc_u (Tc_f (by rw [show mo_isMore n = 1 from moIn_y hn]; decide) ?_)
    obtain ⟨M5, g1, g2, g3, g4⟩ := find_hours h hB c5 hn
    have c6 : chg [0, 10] M M5 := c5.tr (g2.sub (by decide))
    have q1 : ∀ i : Nat, (i : Int) < M 34 6 → M5 296 i = coO M n i := fun i hi => (g4 i hi).1
    refine Tc_e g1 ?_
    rw [show (1000000 : Int) - 0 = 1000000 from rfl]
    have inner : ∀ (law : Nat) (a b : Int), iter (fun s => mo_mildest_b42 a b law s.1 s.2 M5) FU (-1000000, 0) = some (W law, 6) := fun law a b => by
      have := loop_traj (body := fun s => mo_mildest_b42 a b law s.1 s.2 M5) (e := (W law, 6)) (fun i => (mxN (F law) i, (i : Int))) 6 (by omega) (fun i hi => by
        dsimp only
        have s1 : mo_netOf (i : Int) law M5 = some (F law i) := by rw [← hF law i]; exact netOf_eq h hn.2 c6 q1
        unfold mo_mildest_b42
        rw [if_neg (by omega), s1, Option.bind_some, wr_i (by omega) (by omega)]
        rfl) (by
        dsimp only
        unfold mo_mildest_b42
        rw [if_pos (by omega), ← hW]
        rfl)
      exact this
    have hl2 : iter (fun s => mo_mildest_b28 s.1 s.2.1 s.2.2 M5) FU (0, 1000000, 0) = some ((mlN W 4).1, (mlN W 4).2, 4) := by
      have := loop_traj (body := fun s => mo_mildest_b28 s.1 s.2.1 s.2.2 M5) (e := ((mlN W 4).1, (mlN W 4).2, 4)) (fun i => ((mlN W i).1, (mlN W i).2, (i : Int))) 4 (by omega) (fun i hi => by
        dsimp only
        unfold mo_mildest_b28 mo_mildest_j85_28
        rw [if_neg (by omega), show (0 : Int) - 1000000 = -1000000 from rfl, inner i, Option.bind_some, wr_i (by omega) (by omega), mlN_S W i]
        dsimp only
        by_cases z : W i < (mlN W i).2
        · rw [if_pos z, if_pos z]
          rfl
        · rw [if_neg z, if_neg z]
          rfl) (by
        dsimp only
        unfold mo_mildest_b28
        rw [if_pos (by omega)]
        rfl)
      exact this
    refine Tc_e hl2 (Tc_u ?_)
    dsimp only
    obtain ⟨x1, x2⟩ := moRow0 M5
    obtain ⟨M6, u1, u2, u3⟩ := moTell_eq (mlN W 4).2 x1 (by simp)
    exact Tc_e u1 (Tc_some ⟨rfl, h.go10 (c6.tr (x2.tr u3).chg) (t2.fin (((moF.up (by decide)).tr g3).tr (x2.tr u3).mo) u2 (by simp))⟩)
  · refine Tc_t (far_n hn) (Tc_some ?_)
    unfold mo_mildest
    exact Tc_u (Tc_t (moIn_n hn) (Tc_some ⟨rfl, h.go0 c3⟩))
end
section
-- ===== egg =====
noncomputable def blN (T : Nat → DS) (j : Nat) : Int := tmN T ((j : Int) + 1) 600 - tmN T 1 600
theorem blN_ex : ∃ f : (Nat → DS) → Nat → Int, ∀ T j, f T j = blN T j := ⟨blN, fun _ _ => rfl⟩
/-- kept closed -/
noncomputable def blC : (Nat → DS) → Nat → Int := Classical.choose blN_ex
theorem blC_def (T : Nat → DS) (j : Nat) : blC T j = tmN T ((j : Int) + 1) 600 - tmN T 1 600 := Classical.choose_spec blN_ex T j
/-- the nearest of the first -/
noncomputable def egN (E : Nat → Int) : Nat → Nat
  | 0 => 1
  | i + 1 => if E (egN E i) ≤ E (i + 2) then egN E i else i + 2
theorem egN_S (E : Nat → Int) (i : Nat) : egN E (i + 1) = if E (egN E i) ≤ E (i + 2) then egN E i else i + 2 := rfl
theorem egN_in (E : Nat → Int) : ∀ i, 1 ≤ egN E i ∧ egN E i ≤ i + 1 := by
  intro i
  induction i with
  | zero => exact ⟨Nat.le_refl _, Nat.le_refl _⟩
  | succ i ih => rw [egN_S]; split <;> omega
theorem c_egg {B : Int} {M : MEM} (h : Rel B M) (hB : B ≤ 100000000) (x k v : Int) : Lk B (dh_egg x k v M) (mo_egg x k v) := by
  have nw := now_in h
  have c3 : chg [0] M (up2 M 278 13 0) := chg.rf.up (by decide)
  unfold Lk dh_egg
  by_cases hd : 0 ≤ x ∧ x < M 3 2
  · refine Tc_f (by rw [isDonkey_y h.S.2.2.1 hd.1 hd.2]; decide) ?_
    by_cases hk : 1 ≤ k ∧ k ≤ 12
    · refine Tc_f (by omega) (Tc_f (by omega) ?_)
      by_cases hv : 1 ≤ v ∧ v ≤ 600
      · refine Tc_f (by rw [far_y hv]; decide) ?_
        obtain ⟨d, rfl⟩ : ∃ d : Nat, x = (d : Int) := ⟨x.toNat, by omega⟩
        obtain ⟨k, rfl⟩ : ∃ k' : Nat, k = (k' : Int) := ⟨k.toNat, by omega⟩
        obtain ⟨d1, d2, -, -⟩ := dnk h hB hd.2
        have hst := q_stk h hd.2 hB
        obtain ⟨M1, e1, o1, f1⟩ := q_look0 h (Or.inl rfl) hd.2 hB
        obtain ⟨j', M2, e2, f2, o2, -, hj, hq, -⟩ := fut_run (till := 600) (most := 13) (Or.inl rfl) d1 d2 nw.1 (by omega) (Int.le_refl _) (by omega) f1
        have f2 : futAt 224 (envM M) (M 280 d) d (M 3 3) (qT M d) j' M2 := f2
        have hq : (600 : Int) ≤ j' ∨ 13 ≤ cnt (qT M d) j' := hq
        have h10 : M2 224 10 = cnt (qT M d) j' := f2.2.2.2.2.2.2.2.1
        have hj6 : j' ≤ 600 := by omega
        have hmo := (cnt_mono hst hj6 (by omega)).1
        have hC := cnt_le hst (show 600 ≤ 1000000 by omega)
        have hS := cnt_le hst (show j' ≤ 1000000 by omega)
        have hSC : cnt (qT M d) j' = cnt (qT M d) 600 ∨ 13 ≤ cnt (qT M d) j' := by
          rcases hq with q | q
          · have : j' = 600 := by omega
            subst this; exact Or.inl rfl
          · exact Or.inr q
        refine Tc_e e1 (Tc_e e2 ?_)
        have hboil : ∀ (M4 : MEM) (j : Nat), M4 224 = M2 224 → M4 233 = M2 233 → (j : Int) < cnt (qT M d) j' → fu_boiled 224 j M4 = some (blC (qT M d) j) ∧ -600 ≤ blC (qT M d) j ∧ blC (qT M d) j ≤ 600 := fun M4 j m1 m2 hj => by
          have hb : ∀ k, fu_strokeMinute 224 k M4 = fu_strokeMinute 224 k M2 := fun k => by unfold fu_strokeMinute; rw [m1, show 224 + 9 = 233 from rfl, m2]
          obtain ⟨a1, a2, a3, a4⟩ := stroke_eq (k := (j : Int) + 1) f2 (by omega) (by omega) (by omega)
          obtain ⟨b1, b2, b3, b4⟩ := stroke_eq (k := 1) f2 (by decide) (by omega) (by decide)
          have t2 := tmN_eq (k := (j : Int) + 1) hst (by omega) (Or.inl ⟨by omega, _, a2, a4, by omega, rfl⟩)
          have t1 := tmN_eq (k := 1) hst (by decide) (Or.inl ⟨by omega, _, b2, b4, by omega, rfl⟩)
          have e : blC (qT M d) j = M2 (224 + 9) ((j : Int) + 1 - 1).toNat - M2 (224 + 9) ((1 : Int) - 1).toNat := by rw [blC_def, ← t2, ← t1]; omega
          clear t1 t2
          refine ⟨?_, by omega, by omega⟩
          unfold fu_boiled
          rw [hb, hb, wr_i (x := (j : Int) + 1) (by omega) (by omega), a1, Option.bind_some, b1, Option.bind_some, wr_i (by omega) (by omega), e]
        obtain ⟨E, hE⟩ : ∃ E : Nat → Int, E = fun j => iabs (wr (blC (qT M d) j - v)) := ⟨_, rfl⟩
        have c2 : chg [0] M M2 := (o1.tr o2.L).chg (Or.inl rfl)
        -- the reference, up to the row
        have mo0 : ∀ M3 : MEM, chg [0, 10] M M3 → ∃ M5, mo_timesNow d (up2 M3 278 13 0) = some M5 ∧ chg [0] M3 M5 ∧ moF M3 M5 ∧ chg [0, 10] M M5 ∧ M5 278 38 = cnt (qT M d) 600 ∧ (∀ M6 : MEM, M6 293 = M5 293 → ∀ j : Nat, (j : Int) < cnt (qT M d) 600 → mo_boils j M6 = some (blC (qT M d) j)) ∧ mo_isDonkey d (up2 M3 278 13 0) = 1 := fun M3 c3 => by
          have c4 : chg [0, 10] M (up2 M3 278 13 0) := c3.up (by decide)
          obtain ⟨M5, g1, g2, g3, g4⟩ := q_times h hB c4 hd.2
          refine ⟨M5, g1, (chg.rf.up (by decide) : chg [0] M3 (up2 M3 278 13 0)).tr g2.chg, (moF.up (by decide)).tr g2.mo, c4.tr (g2.chg.sub (by decide)), g3, fun M6 e6 j hj => ?_, moDonkey_y h.S (c4 278 1 (by decide)) hd⟩
          have t2 := tmN_times (k := (j : Int) + 1) hst (by omega) g3 g4
          have t1 := tmN_times (k := 1) hst (by decide) g3 g4
          rw [g3] at t1 t2
          rcases t2 with ⟨-, t2, y2, y3⟩ | ⟨t2, -⟩
          · rcases t1 with ⟨-, t1, x2, x3⟩ | ⟨t1, -⟩
            · have e : blC (qT M d) j = M5 293 j - M5 293 0 := by
                rw [blC_def, t2, t1, show ((j : Int) + 1 - 1).toNat = j by omega, show ((1 : Int) - 1).toNat = 0 from rfl]
                omega
              rw [show ((j : Int) + 1 - 1).toNat = j by omega] at y2 y3
              rw [show ((1 : Int) - 1).toNat = 0 from rfl] at x2 x3
              clear t1 t2
              unfold mo_boils
              rw [if_pos (by omega), toNat_c, e6, e, wr_i (by omega) (by omega)]
            · omega
          · omega
        have wk1 : wr ((k : Int) + 1) = (k : Int) + 1 := wr_i (by omega) (by omega)
        rw [wk1]
        by_cases hc : (k : Int) + 1 ≤ cnt (qT M d) j'
        · refine Tc_t (by omega) ?_
          obtain ⟨N, hN⟩ : ∃ N : Nat, N = (min (cnt (qT M d) 600) 13 - 2).toNat := ⟨_, rfl⟩
          have eb := egN_in E
          have l1 : iter (fun s => dh_egg_b71 k v s.1 s.2 M2) FU (1, 2) = some (((egN E N : Nat) : Int), (N : Int) + 2) := by
            have := loop_traj (body := fun s => dh_egg_b71 k v s.1 s.2 M2) (e := (((egN E N : Nat) : Int), (N : Int) + 2)) (fun i => (((egN E i : Nat) : Int), (i : Int) + 2)) N (by omega) (fun i hi => by
              dsimp only
              have := eb i
              obtain ⟨a1, a2, a3⟩ := hboil M2 (i + 2) rfl rfl (by omega)
              obtain ⟨b1, b2, b3⟩ := hboil M2 (egN E i) rfl rfl (by omega)
              unfold dh_egg_b71 dh_egg_j125_71
              rw [if_neg (by omega), if_neg (by omega), show (i : Int) + 2 = ((i + 2 : Nat) : Int) by omega, a1, Option.bind_some, b1, Option.bind_some, wr_i (x := ((i + 2 : Nat) : Int) + 1) (by omega) (by omega), egN_S]
              have e1 : iabs (wr (blC (qT M d) (egN E i) - v)) = E (egN E i) := by rw [hE]
              have e2 : iabs (wr (blC (qT M d) (i + 2) - v)) = E (i + 2) := by rw [hE]
              rw [e1, e2]
              by_cases z : E (egN E i) ≤ E (i + 2)
              · rw [if_pos z, if_pos z]; congr 3
              · rw [if_neg z, if_neg z]; congr 3) (by
              dsimp only
              unfold dh_egg_b71
              by_cases z : M2 224 10 ≤ (N : Int) + 2
              · rw [if_pos z]
              · rw [if_neg z, if_pos (by omega)])
            exact this
          have hbN := eb N
          have hbS : ((egN E N : Nat) : Int) < cnt (qT M d) j' := by omega
          refine Tc_e l1 ?_
          dsimp only
          generalize hbst : egN E N = bst at *
          unfold dh_egg_j131
          obtain ⟨M3, n1, n2, n3⟩ := newRow_eq M2
          obtain ⟨M4, t1, t2, t3⟩ := tell_eq (bst : Int) n2 (by simp)
          have oC := n3.tr t3
          obtain ⟨a1, -⟩ := hboil M4 bst (oC.cell (by decide) (by decide)) (oC.cell (by decide) (by decide)) hbS
          obtain ⟨M5, u1, u2, u3⟩ := tell_eq (blC (qT M d) bst) t2 (by simp)
          have oC2 := oC.tr u3
          obtain ⟨b1, -⟩ := hboil M5 k (oC2.cell (by decide) (by decide)) (oC2.cell (by decide) (by decide)) (by omega)
          refine Tc_e n1 (Tc_e t1 (Tc_e a1 (Tc_e u1 (Tc_e b1 (Tc_some ?_)))))
          dsimp only
          obtain ⟨M6, g1, g2, g3, g4, g5, g6, g7⟩ := mo0 M5 ((c2.sub (by decide)).tr oC2.chg)
          unfold mo_egg
          refine Tc_u (Tc_f (by rw [g7]; decide) (Tc_f (by rw [moIn_y hk]; decide) (Tc_f (by rw [show mo_isMore v = 1 from moIn_y hv]; decide) (Tc_e g1 (Tc_t (by omega) ?_)))))
          have l2 : iter (fun s => mo_egg_b54 k v s.1 s.2 M6) FU (1, 2) = some ((bst : Int), (N : Int) + 2) := by
            have := loop_traj (body := fun s => mo_egg_b54 k v s.1 s.2 M6) (e := (((egN E N : Nat) : Int), (N : Int) + 2)) (fun i => (((egN E i : Nat) : Int), (i : Int) + 2)) N (by omega) (fun i hi => by
              dsimp only
              have := eb i
              have a1 := g6 M6 rfl (i + 2) (by omega)
              have b1 := g6 M6 rfl (egN E i) (by omega)
              unfold mo_egg_b54 mo_egg_j99_54
              rw [if_neg (by omega), if_neg (by omega), show (i : Int) + 2 = ((i + 2 : Nat) : Int) by omega, a1, Option.bind_some, b1, Option.bind_some, wr_i (x := ((i + 2 : Nat) : Int) + 1) (by omega) (by omega), egN_S]
              have e1 : iabs (wr (blC (qT M d) (egN E i) - v)) = E (egN E i) := by rw [hE]
              have e2 : iabs (wr (blC (qT M d) (i + 2) - v)) = E (i + 2) := by rw [hE]
              rw [e1, e2]
              by_cases z : E (egN E i) ≤ E (i + 2)
              · rw [if_pos z, if_pos z]; congr 3
              · rw [if_neg z, if_neg z]; congr 3) (by
              dsimp only
              unfold mo_egg_b54
              by_cases z : 12 < (N : Int) + 2
              · rw [if_pos z]
              · rw [if_neg z, if_pos (by omega)])
            rw [hbst] at this
            exact this
          refine Tc_e l2 ?_
          dsimp only
          unfold mo_egg_j105
          obtain ⟨x1, x2⟩ := moRow0 M6
          obtain ⟨M7, v1, v2, v3⟩ := moTell_eq (bst : Int) x1 (by simp)
          have oX := x2.tr v3
          have a2 := g6 M7 (oX.cell (by decide) (by decide)) bst (by omega)
          obtain ⟨M8, w1, w2, w3⟩ := moTell_eq (blC (qT M d) bst) v2 (by simp)
          have oX2 := oX.tr w3
          have b2 := g6 M8 (oX2.cell (by decide) (by decide)) k (by omega)
          exact Tc_u (Tc_e v1 (Tc_e a2 (Tc_e w1 (Tc_e b2 (Tc_some ⟨rfl, h.go10 (g4.tr oX2.chg) (u2.fin (g3.tr oX2.mo) w2 (by simp))⟩)))))
        · refine Tc_f (by omega) (Tc_some ?_)
          dsimp only
          obtain ⟨M6, g1, g2, g3, g4, g5, g6, g7⟩ := mo0 M2 (c2.sub (by decide))
          unfold mo_egg
          refine Tc_u (Tc_f (by rw [g7]; decide) (Tc_f (by rw [moIn_y hk]; decide) (Tc_f (by rw [show mo_isMore v = 1 from moIn_y hv]; decide) (Tc_e g1 (Tc_f (by omega) (Tc_some ⟨rfl, h.go0 (c2.tr g2)⟩))))))
      · refine Tc_t (far_n hv) (Tc_some ?_)
        unfold mo_egg
        exact Tc_u (Tc_f (by rw [moDonkey_y h.S (c3 278 1 (by decide)) hd]; decide) (Tc_f (by rw [moIn_y hk]; decide) (Tc_t (moIn_n hv) (Tc_some ⟨rfl, h.go0 c3⟩))))
    · have mo : Tc (mo_egg x k v M) (fun q => q.1 = -1 ∧ Rel B q.2) := by
        unfold mo_egg
        exact Tc_u (Tc_f (by rw [moDonkey_y h.S (c3 278 1 (by decide)) hd]; decide) (Tc_t (moIn_n hk) (Tc_some ⟨rfl, h.go0 c3⟩)))
      exact Tc_i (fun _ => Tc_some mo) (fun q => Tc_t (by omega) (Tc_some mo))
  · refine Tc_t (isDonkey_n h.S.2.2.1 hd) (Tc_some ?_)
    unfold mo_egg
    exact Tc_u (Tc_t (moDonkey_n h.S (c3 278 1 (by decide)) hd) (Tc_some ⟨rfl, h.go0 c3⟩))
end
section
-- ===== scenes copied =====
def copyS (s' s : Nat) (M' M : MEM) : Prop := M' s' 2 = M s 2 ∧ M' s' 3 = M s 3 ∧ ∀ d : Nat, (d : Int) < M s 2 → (∀ k, 2 ≤ k → k ≤ 5 → M' (s' + 7 + 3 * d) k = M (s + 7 + 3 * d) k) ∧ (∀ p, p < 12 → M' (s' + 7 + 3 * d + 1) p = M (s + 7 + 3 * d + 1) p) ∧ ∀ q, q < 40 → M' (s' + 7 + 3 * d + 2) q = M (s + 7 + 3 * d + 2) q
def copyC (c' c : Nat) (M' M : MEM) : Prop := M' c' 4 = M c 4 ∧ ∀ q i, 1 ≤ q → q ≤ 4 → i < 10 → M' (c' + q) i = M (c + q) i
theorem be_copy_eq {a0 a1 : Nat} {M : MEM} (h : a0 + 3 ≤ a1 ∨ a1 + 3 ≤ a0) : ∃ M', be_copy a0 a1 M = some M' ∧ (∀ k, 2 ≤ k → k ≤ 5 → M' a0 k = M a1 k) ∧ (∀ k, (k < 2 ∨ 5 < k) → M' a0 k = M a0 k) ∧ (∀ p, p < 12 → M' (a0 + 1) p = M (a1 + 1) p) ∧ (∀ q, q < 40 → M' (a0 + 2) q = M (a1 + 2) q) ∧ ∀ c, c ≠ a0 → c ≠ a0 + 1 → c ≠ a0 + 2 → M' c = M c := by
  have n1 : a1 ≠ a0 := by omega
  unfold be_copy be_copyButBook
  simp only [Option.bind_some]
  have r1 : up2 M a0 2 (M a1 2) a1 3 = M a1 3 := rd_a n1
  have r2 : up2 (up2 M a0 2 (M a1 2)) a0 3 (M a1 3) a1 4 = M a1 4 := by rw [rd_a n1, rd_a n1]
  have r3 : up2 (up2 (up2 M a0 2 (M a1 2)) a0 3 (M a1 3)) a0 4 (M a1 4) a1 5 = M a1 5 := by rw [rd_a n1, rd_a n1, rd_a n1]
  rw [r1, r2, r3]
  generalize hX : up2 (up2 (up2 (up2 M a0 2 (M a1 2)) a0 3 (M a1 3)) a0 4 (M a1 4)) a0 5 (M a1 5) = X
  have hXc : ∀ c, c ≠ a0 → X c = M c := fun c hc => by rw [← hX, up2_ne hc, up2_ne hc, up2_ne hc, up2_ne hc]
  refine ⟨_, rfl, fun k k1 k2 => ?_, fun k hk => ?_, fun p hp => ?_, fun q hq => ?_, fun c c0 c1 c2 => ?_⟩
  · rw [cpy_ne (by omega), cpy_ne (by omega), ← hX]
    have : k = 2 ∨ k = 3 ∨ k = 4 ∨ k = 5 := by omega
    rcases this with rfl | rfl | rfl | rfl <;> simp (disch := omega) only [rd_same, rd_k]
  · rw [cpy_ne (by omega), cpy_ne (by omega), ← hX]
    simp (disch := omega) only [rd_k]
  · rw [cpy_ne (by omega), cpy_row p hp, hXc _ (by omega)]
  · rw [cpy_row q hq, cpy_ne (by omega), hXc _ (by omega)]
  · rw [cpy_ne c2, cpy_ne c1, hXc c c0]
theorem copyWalk_eq {s' s : Nat} {M : MEM} (h : s' + 16 ≤ s ∨ s + 16 ≤ s') (h0 : 0 ≤ M s 2) (h3 : M s 2 ≤ 3) : ∃ M', sc_copyWalk s' s M = some M' ∧ copyS s' s M' M ∧ (∀ c, c ≠ s' → (c < s' + 7 ∨ (s' : Int) + 7 + 3 * M s 2 ≤ c) → M' c = M c) ∧ (∀ k, k ≠ 2 → k ≠ 3 → M' s' k = M s' k) ∧ (∀ d k : Nat, (d : Int) < M s 2 → (k < 2 ∨ 5 < k) → M' (s' + 7 + 3 * d) k = M (s' + 7 + 3 * d) k) := by
  obtain ⟨N, hN⟩ : ∃ N : Nat, M s 2 = (N : Int) := ⟨(M s 2).toNat, by omega⟩
  have r1 : up2 M s' 2 (M s 2) s 3 = M s 3 := rd_a (by omega)
  have hl : Tc (iter (fun q => sc_copyWalk_b18 s' s q.1 q.2) FU (0, up2 (up2 M s' 2 (M s 2)) s' 3 (M s 3))) (fun r => r.2 s' 2 = M s 2 ∧ r.2 s' 3 = M s 3 ∧ (∀ k, k ≠ 2 → k ≠ 3 → r.2 s' k = M s' k) ∧ (∀ c, c ≠ s' → (c < s' + 7 ∨ s' + 7 + 3 * N ≤ c) → r.2 c = M c) ∧ ∀ d : Nat, d < N → (∀ k, 2 ≤ k → k ≤ 5 → r.2 (s' + 7 + 3 * d) k = M (s + 7 + 3 * d) k) ∧ (∀ k, (k < 2 ∨ 5 < k) → r.2 (s' + 7 + 3 * d) k = M (s' + 7 + 3 * d) k) ∧ (∀ p, p < 12 → r.2 (s' + 7 + 3 * d + 1) p = M (s + 7 + 3 * d + 1) p) ∧ ∀ q, q < 40 → r.2 (s' + 7 + 3 * d + 2) q = M (s + 7 + 3 * d + 2) q) := by
    refine Tc_n (fun i q => q.1 = (i : Int) ∧ q.2 s' 2 = M s 2 ∧ q.2 s' 3 = M s 3 ∧ (∀ k, k ≠ 2 → k ≠ 3 → q.2 s' k = M s' k) ∧ (∀ c, c ≠ s' → (c < s' + 7 ∨ s' + 7 + 3 * i ≤ c) → q.2 c = M c) ∧ ∀ d : Nat, d < i → (∀ k, 2 ≤ k → k ≤ 5 → q.2 (s' + 7 + 3 * d) k = M (s + 7 + 3 * d) k) ∧ (∀ k, (k < 2 ∨ 5 < k) → q.2 (s' + 7 + 3 * d) k = M (s' + 7 + 3 * d) k) ∧ (∀ p, p < 12 → q.2 (s' + 7 + 3 * d + 1) p = M (s + 7 + 3 * d + 1) p) ∧ ∀ r, r < 40 → q.2 (s' + 7 + 3 * d + 2) r = M (s + 7 + 3 * d + 2) r) N ⟨rfl, ?_, ?_, fun k k2 k3 => ?_, fun c hc _ => ?_, fun d hd => by omega⟩ (by omega) (fun i q hi hI => ?_) (fun q hI => ?_)
    · dsimp only; rw [rd_k (by omega), rd_same]
    · dsimp only; rw [rd_same]
    · dsimp only; rw [rd_k k3, rd_k k2]
    · dsimp only; rw [up2_ne hc, up2_ne hc]
    · obtain ⟨z, M1⟩ := q
      obtain ⟨rfl, q1, q2, q3, q4, q5⟩ := hI
      dsimp only at q1 q2 q3 q4 q5 ⊢
      obtain ⟨M2, e2, g1, g1', g2, g3, g4⟩ := be_copy_eq (a0 := s' + 7 + 3 * i) (a1 := s + 7 + 3 * i) (M := M1) (by omega)
      have src : ∀ c, s + 7 ≤ c → c < s + 16 → M1 c = M c := fun c a b => q4 c (by omega) (by omega)
      unfold sc_copyWalk_b18
      rw [toNat_c]
      refine Tc_f (by omega) (Tc_f (by omega) (Tc_t (by omega) (Tc_t (by omega) (Tc_e e2 (Tc_inl ⟨(wr_i (by omega) (by omega)).trans (by omega), ?_, ?_, fun k k2 k3 => ?_, fun c hc hc2 => ?_, fun d hd => ?_⟩)))))
      · dsimp only; rw [g4 s' (by omega) (by omega) (by omega)]; exact q1
      · dsimp only; rw [g4 s' (by omega) (by omega) (by omega)]; exact q2
      · dsimp only; rw [g4 s' (by omega) (by omega) (by omega)]; exact q3 k k2 k3
      · dsimp only; rw [g4 c (by omega) (by omega) (by omega)]; exact q4 c hc (by omega)
      · dsimp only
        by_cases e : d = i
        · subst e
          refine ⟨fun k a b => ?_, fun k hk => ?_, fun p hp => ?_, fun r hr => ?_⟩
          · rw [g1 k a b, src _ (by omega) (by omega)]
          · rw [g1' k hk, q4 _ (by omega) (by omega)]
          · rw [g2 p hp, src _ (by omega) (by omega)]
          · rw [g3 r hr, src _ (by omega) (by omega)]
        · rw [g4 (s' + 7 + 3 * d) (by omega) (by omega) (by omega), g4 (s' + 7 + 3 * d + 1) (by omega) (by omega) (by omega), g4 (s' + 7 + 3 * d + 2) (by omega) (by omega) (by omega)]
          exact q5 d (by omega)
    · obtain ⟨z, M1⟩ := q
      obtain ⟨rfl, q1, q2, q3, q4, q5⟩ := hI
      dsimp only at q1
      unfold sc_copyWalk_b18
      exact Tc_t (by show M1 s' 2 ≤ ((N : Nat) : Int); omega) (Tc_inr ⟨q1, q2, q3, q4, q5⟩)
  obtain ⟨r, e1, q1, q2, q3, q4, q5⟩ := hl
  refine ⟨r.2, ?_, ⟨q1, q2, fun d hd => ?_⟩, fun c hc hc2 => q4 c hc (by omega), q3, fun d k hd hk => (q5 d (by omega)).2.1 k hk⟩
  · unfold sc_copyWalk
    rw [Option.bind_some, r1, Option.bind_some, e1]
    rfl
  · have := q5 d (by omega)
    exact ⟨this.1, this.2.2.1, this.2.2.2⟩
theorem ca_copy_eq {c' c : Nat} {M : MEM} (h : c' + 5 ≤ c ∨ c + 5 ≤ c') : ∃ M', ca_copy c' c M = some M' ∧ copyC c' c M' M ∧ (∀ a, (a < c' ∨ c' + 5 ≤ a) → M' a = M a) ∧ (∀ k, k ≠ 4 → M' c' k = M c' k) := by
  unfold ca_copy
  simp only [Option.bind_some]
  refine ⟨_, rfl, ⟨?_, fun q i h1 h4 hi => ?_⟩, fun a ha => ?_, fun k hk => ?_⟩
  · rw [cpy_ne (by omega), cpy_ne (by omega), cpy_ne (by omega), cpy_ne (by omega), rd_same]
  · have : q = 1 ∨ q = 2 ∨ q = 3 ∨ q = 4 := by omega
    rcases this with rfl | rfl | rfl | rfl
    · rw [cpy_ne (by omega), cpy_ne (by omega), cpy_ne (by omega), cpy_row i hi, up2_ne (by omega)]
    · rw [cpy_ne (by omega), cpy_ne (by omega), cpy_row i hi, cpy_ne (by omega), up2_ne (by omega)]
    · rw [cpy_ne (by omega), cpy_row i hi, cpy_ne (by omega), cpy_ne (by omega), up2_ne (by omega)]
    · rw [cpy_row i hi, cpy_ne (by omega), cpy_ne (by omega), cpy_ne (by omega), up2_ne (by omega)]
  · rw [cpy_ne (by omega), cpy_ne (by omega), cpy_ne (by omega), cpy_ne (by omega), up2_ne (by omega)]
  · rw [cpy_ne (by omega), cpy_ne (by omega), cpy_ne (by omega), cpy_ne (by omega), rd_k hk]
theorem snD.move {b b' a a' o o' : Nat} {n t : Int} {M M' : MEM} (h3 : ∀ k, 3 ≤ k → k ≤ 5 → M' b' k = M b k) (h1 : ∀ p, p < 12 → M' (b' + 1) p = M (b + 1) p) (h2 : ∀ q, q < 40 → M' (b' + 2) q = M (b + 2) q) (h4 : ∀ k, k < 55 → M' a' (o' + k) = M a (o + k)) (g : snD b a o n t M) : snD b' a' o' n t M' := by
  obtain ⟨g1, g2, g3, g4, g5⟩ := g
  have n12 := g2.2.1
  have e1 : eqD n (dsC b M) (dsC b' M') := ⟨(h3 3 (by omega) (by omega)).symm, (h3 4 (by omega) (by omega)).symm, (h3 5 (by omega) (by omega)).symm, fun p hp => (h1 p (by omega)).symm⟩
  have e2 : eqD n (dsM a o M) (dsM a' o' M') := by
    refine ⟨(h4 1 (by omega)).symm, (h4 0 (by omega)).symm, (h4 2 (by omega)).symm, fun p hp => ?_⟩
    have := h4 (3 + p) (by omega)
    rw [← Nat.add_assoc, ← Nat.add_assoc] at this
    exact this.symm
  refine ⟨(e1.sy.tr g1).tr e2, okD_congr e1 g2, fun p hp hp2 => ?_, ?_, fun j hj1 hj2 hj3 => ?_⟩
  · have := h4 (3 + p) (by omega)
    rw [← Nat.add_assoc, ← Nat.add_assoc] at this
    rw [this]; exact g3 p hp hp2
  · rw [h3 5 (by omega) (by omega)]; exact g4
  · rw [h3 5 (by omega) (by omega)] at hj2 hj3
    have := h4 (15 + (j - 1) % 40) (by omega)
    rw [← Nat.add_assoc, ← Nat.add_assoc] at this
    rw [this, h2 _ (by omega)]
    exact g5 j hj1 hj2 hj3
theorem snS.move {s s' a a' k k' : Nat} {N B : Int} {M M' : MEM} (hN : N ≤ 3) (h3 : M' s' 3 = M s 3) (hb : ∀ d : Nat, (d : Int) < N → (∀ q, 2 ≤ q → q ≤ 5 → M' (s' + 7 + 3 * d) q = M (s + 7 + 3 * d) q) ∧ (∀ p, p < 12 → M' (s' + 7 + 3 * d + 1) p = M (s + 7 + 3 * d + 1) p) ∧ ∀ q, q < 40 → M' (s' + 7 + 3 * d + 2) q = M (s + 7 + 3 * d + 2) q) (ha : ∀ i, i < 166 → M' a' (k' + i) = M a (k + i)) (h280 : ∀ d : Nat, (d : Int) < N → M' 280 d = M 280 d) (g : snS s a k N B M) : snS s' a' k' N B M' := by
  obtain ⟨g1, g2, g3, g4⟩ := g
  unfold snS
  rw [h3, ha 165 (by omega)]
  refine ⟨g1, g2, g3, fun d hd => ?_⟩
  obtain ⟨b1, b2, b3⟩ := hb d hd
  rw [h280 d hd, b1 2 (by omega) (by omega)]
  refine ⟨(g4 d hd).1, (g4 d hd).2.move (fun q x y => b1 q (by omega) y) b2 b3 (fun q hq => ?_)⟩
  rw [Nat.add_assoc, Nat.add_assoc]
  exact ha _ (by omega)
theorem snC.move {c c' : Nat} {mm mm' : Int} {cf cf' : Nat → Int} {M M' : MEM} (h : copyC c' c M' M) (hm : mm' = mm) (hf : ∀ k, k < 40 → cf' k = cf k) (g : snC c mm cf M) : snC c' mm' cf' M' := by
  obtain ⟨g1, g2, g3, g4⟩ := g
  subst hm
  refine ⟨h.1.trans g1, g2, g3, fun i hi => ?_⟩
  rw [h.2 1 i (by omega) (by omega) (by omega), h.2 2 i (by omega) (by omega) (by omega), h.2 3 i (by omega) (by omega) (by omega), h.2 4 i (by omega) (by omega) (by omega), hf _ (by omega), hf _ (by omega), hf _ (by omega), hf _ (by omega)]
  exact g4 i hi
-- ===== the reference's pictures =====
/-- all that is kept of now lies in a, from k on -/
def layd (a k : Nat) (M' M : MEM) : Prop := (∀ i, i < 166 → M' a (k + i) = M 279 i) ∧ M' a (k + 166) = M 278 7 ∧ ∀ i, i < 40 → M' a (k + 167 + i) = M 282 i
theorem layAll_eq {a k : Nat} {M : MEM} (ha : a = 289 ∨ a = 304) (hk : k + 207 ≤ lenA a) : ∃ M', mo_layAll a k M = some M' ∧ layd a k M' M ∧ (∀ c, c ≠ a → M' c = M c) ∧ ∀ q, (q < k ∨ k + 207 ≤ q) → M' a q = M a q := by
  have hlen : lenA a ≤ 500 := by rcases ha with rfl | rfl <;> decide
  have l1 : Tc (iter (fun s => mo_layAll_b2 a k s.1 s.2) FU (0, M)) (fun r => (∀ c, c ≠ a → r.2 c = M c) ∧ (∀ i, i < 166 → r.2 a (k + i) = M 279 i) ∧ ∀ q, (q < k ∨ k + 166 ≤ q) → r.2 a q = M a q) := by
    refine Tc_n (fun i s => s.1 = (i : Int) ∧ (∀ c, c ≠ a → s.2 c = M c) ∧ (∀ j, j < i → s.2 a (k + j) = M 279 j) ∧ ∀ q, (q < k ∨ k + i ≤ q) → s.2 a q = M a q) 166 ⟨rfl, fun _ _ => rfl, fun j hj => by omega, fun q _ => rfl⟩ (by omega) (fun i s hi hI => ?_) (fun s hI => ?_)
    · obtain ⟨z, M1⟩ := s
      obtain ⟨rfl, q1, q2, q3⟩ := hI
      dsimp only at q1 q2 q3 ⊢
      have w : wr ((k : Int) + (i : Int)) = ((k + i : Nat) : Int) := (wr_i (by omega) (by omega)).trans (by omega)
      unfold mo_layAll_b2
      rw [w]
      simp only [toNat_c]
      refine Tc_f (by omega) (Tc_t (by omega) (Tc_t (by omega) (Tc_u (Tc_inl ⟨(wr_i (by omega) (by omega)).trans (by omega), fun c hc => ?_, fun j hj => ?_, fun q hq => ?_⟩))))
      · dsimp only; rw [up2_ne hc]; exact q1 c hc
      · dsimp only
        rw [q1 279 (by omega)]
        by_cases e : j = i
        · subst e; exact rd_same
        · rw [rd_k (by omega)]; exact q2 j (by omega)
      · dsimp only; rw [rd_k (by omega)]; exact q3 q (by omega)
    · obtain ⟨z, M1⟩ := s
      obtain ⟨rfl, q1, q2, q3⟩ := hI
      unfold mo_layAll_b2
      exact Tc_t (by show (166 : Int) ≤ ((166 : Nat) : Int); omega) (Tc_inr ⟨q1, q2, q3⟩)
  obtain ⟨w1, e1, y1, y2, y3⟩ := l1
  obtain ⟨w1, M1⟩ := w1
  dsimp only at y1 y2 y3
  have w166 : wr ((k : Int) + 166) = ((k + 166 : Nat) : Int) := (wr_i (by omega) (by omega)).trans (by omega)
  have w167 : wr (((k + 166 : Nat) : Int) + 1) = ((k + 167 : Nat) : Int) := (wr_i (by omega) (by omega)).trans (by omega)
  have l2 : Tc (iter (fun s => mo_layAll_b39 a k s.1 s.2) FU (0, up2 M1 a (k + 166) (M1 278 7))) (fun r => (∀ c, c ≠ a → r.2 c = M c) ∧ (∀ i, i < 40 → r.2 a (k + 167 + i) = M 282 i) ∧ ∀ q, (q < k + 167 ∨ k + 207 ≤ q) → r.2 a q = up2 M1 a (k + 166) (M1 278 7) a q) := by
    refine Tc_n (fun i s => s.1 = (i : Int) ∧ (∀ c, c ≠ a → s.2 c = M c) ∧ (∀ j, j < i → s.2 a (k + 167 + j) = M 282 j) ∧ ∀ q, (q < k + 167 ∨ k + 167 + i ≤ q) → s.2 a q = up2 M1 a (k + 166) (M1 278 7) a q) 40 ⟨rfl, fun c hc => by dsimp only; rw [up2_ne hc]; exact y1 c hc, fun j hj => by omega, fun q _ => rfl⟩ (by omega) (fun i s hi hI => ?_) (fun s hI => ?_)
    · obtain ⟨z, M2⟩ := s
      obtain ⟨rfl, q1, q2, q3⟩ := hI
      dsimp only at q1 q2 q3 ⊢
      have w : wr (((k + 167 : Nat) : Int) + (i : Int)) = ((k + 167 + i : Nat) : Int) := (wr_i (by omega) (by omega)).trans (by omega)
      unfold mo_layAll_b39
      rw [w166, w167, w]
      simp only [toNat_c]
      refine Tc_f (by omega) (Tc_t (by omega) (Tc_t (by omega) (Tc_u (Tc_inl ⟨(wr_i (by omega) (by omega)).trans (by omega), fun c hc => ?_, fun j hj => ?_, fun q hq => ?_⟩))))
      · dsimp only; rw [up2_ne hc]; exact q1 c hc
      · dsimp only
        rw [q1 282 (by omega)]
        by_cases e : j = i
        · subst e; exact rd_same
        · rw [rd_k (by omega)]; exact q2 j (by omega)
      · dsimp only; rw [rd_k (by omega)]; exact q3 q (by omega)
    · obtain ⟨z, M2⟩ := s
      obtain ⟨rfl, q1, q2, q3⟩ := hI
      unfold mo_layAll_b39
      exact Tc_t (by show (40 : Int) ≤ ((40 : Nat) : Int); omega) (Tc_inr ⟨q1, q2, q3⟩)
  obtain ⟨w2, e2, z1, z2, z3⟩ := l2
  refine ⟨w2.2, ?_, ⟨fun i hi => ?_, ?_, z2⟩, z1, fun q hq => ?_⟩
  · unfold mo_layAll
    rw [e1, Option.bind_some, w166, if_pos (by omega), toNat_c, Option.bind_some, e2]
    rfl
  · rw [z3 _ (by omega), rd_k (by omega)]; exact y2 i hi
  · rw [z3 _ (by omega), rd_same, y1 278 (by omega)]
  · rw [z3 q (by omega), rd_k (by omega)]; exact y3 q (by omega)
theorem takeCarrots_eq {a k : Nat} {M : MEM} (ha : a = 288 ∨ a = 304) (hk : k + 207 ≤ lenA a) : ∃ M', mo_takeCarrots a k M = some M' ∧ M' 278 7 = M a (k + 166) ∧ (∀ i, i < 40 → M' 282 i = M a (k + 167 + i)) ∧ (∀ c, c ≠ 278 → c ≠ 282 → M' c = M c) ∧ (∀ q, q ≠ 7 → M' 278 q = M 278 q) ∧ ∀ q, 40 ≤ q → M' 282 q = M 282 q := by
  have hlen : lenA a ≤ 2080 := by rcases ha with rfl | rfl <;> decide
  have w166 : wr ((k : Int) + 166) = ((k + 166 : Nat) : Int) := (wr_i (by omega) (by omega)).trans (by omega)
  have w167 : wr (((k + 166 : Nat) : Int) + 1) = ((k + 167 : Nat) : Int) := (wr_i (by omega) (by omega)).trans (by omega)
  have l2 : Tc (iter (fun s => mo_takeCarrots_b13 a k s.1 s.2) FU (0, up2 M 278 7 (M a (k + 166)))) (fun r => (∀ c, c ≠ 282 → r.2 c = up2 M 278 7 (M a (k + 166)) c) ∧ (∀ i, i < 40 → r.2 282 i = M a (k + 167 + i)) ∧ ∀ q, 40 ≤ q → r.2 282 q = M 282 q) := by
    refine Tc_n (fun i s => s.1 = (i : Int) ∧ (∀ c, c ≠ 282 → s.2 c = up2 M 278 7 (M a (k + 166)) c) ∧ (∀ j, j < i → s.2 282 j = M a (k + 167 + j)) ∧ ∀ q, 40 ≤ q → s.2 282 q = M 282 q) 40 ⟨rfl, fun c hc => rfl, fun j hj => by omega, fun q _ => by dsimp only; rw [up2_ne (by decide)]⟩ (by omega) (fun i s hi hI => ?_) (fun s hI => ?_)
    · obtain ⟨z, M2⟩ := s
      obtain ⟨rfl, q1, q2, q3⟩ := hI
      dsimp only at q1 q2 q3 ⊢
      have w : wr (((k + 167 : Nat) : Int) + (i : Int)) = ((k + 167 + i : Nat) : Int) := (wr_i (by omega) (by omega)).trans (by omega)
      unfold mo_takeCarrots_b13
      rw [w166, w167, w]
      simp only [toNat_c]
      refine Tc_f (by omega) (Tc_t (by omega) (Tc_t (by omega) (Tc_u (Tc_inl ⟨(wr_i (by omega) (by omega)).trans (by omega), fun c hc => ?_, fun j hj => ?_, fun q hq => ?_⟩))))
      · dsimp only; rw [up2_ne hc]; exact q1 c hc
      · dsimp only
        have ea : M2 a = M a := by rw [q1 a (by omega), up2_ne (by omega)]
        rw [ea]
        by_cases e : j = i
        · subst e; exact rd_same
        · rw [rd_k (by omega)]; exact q2 j (by omega)
      · dsimp only; rw [rd_k (by omega)]; exact q3 q hq
    · obtain ⟨z, M2⟩ := s
      obtain ⟨rfl, q1, q2, q3⟩ := hI
      unfold mo_takeCarrots_b13
      exact Tc_t (by show (40 : Int) ≤ ((40 : Nat) : Int); omega) (Tc_inr ⟨q1, q2, q3⟩)
  obtain ⟨w2, e2, z1, z2, z3⟩ := l2
  refine ⟨w2.2, ?_, ?_, z2, fun c c1 c2 => ?_, fun q hq => ?_, z3⟩
  · unfold mo_takeCarrots
    rw [w166, if_pos (by omega), toNat_c, Option.bind_some, e2]
    rfl
  · rw [z1 278 (by decide), rd_same]
  · rw [z1 c c2, up2_ne c1]
  · rw [z1 278 (by decide), rd_k hq]
end
section
-- ===== what can be undone =====
theorem remember_eq {M : MEM} (h0 : 0 ≤ M 278 31) (h1 : M 278 31 ≤ 10) : ∃ M', mo_remember M = some M' ∧ M' 278 31 = (if M 278 31 = 10 then 10 else M 278 31 + 1) ∧ (∀ c, c ≠ 278 → c ≠ 288 → M' c = M c) ∧ (∀ k, k ≠ 31 → M' 278 k = M 278 k) ∧
    ∀ j : Nat, (j : Int) = (if M 278 31 = 10 then 9 else M 278 31) → (∀ i, i < 208 → M' 288 (208 * j + i) = M 289 i) ∧ ∀ i' : Nat, i' < j → ∀ q, q < 208 → M' 288 (208 * i' + q) = M 288 (208 * (if M 278 31 = 10 then i' + 1 else i') + q) := by
  -- from many of them on
  have tail : ∀ (M1 : MEM) (j : Nat), M1 278 31 = (j : Int) → j ≤ 9 → ∃ M', mo_remember_j53 208 M1 = some M' ∧ M' 278 31 = (j : Int) + 1 ∧ (∀ c, c ≠ 278 → c ≠ 288 → M' c = M1 c) ∧ (∀ k, k ≠ 31 → M' 278 k = M1 278 k) ∧ (∀ i, i < 208 → M' 288 (208 * j + i) = M1 289 i) ∧ ∀ q, (q < 208 * j) → M' 288 q = M1 288 q := fun M1 j hj hj9 => by
    have l1 : Tc (iter (fun s => mo_remember_b55 208 s.1 s.2) FU (0, M1)) (fun r => (∀ c, c ≠ 288 → r.2 c = M1 c) ∧ (∀ i, i < 208 → r.2 288 (208 * j + i) = M1 289 i) ∧ ∀ q, q < 208 * j → r.2 288 q = M1 288 q) := by
      refine Tc_n (fun i s => s.1 = (i : Int) ∧ (∀ c, c ≠ 288 → s.2 c = M1 c) ∧ (∀ i', i' < i → s.2 288 (208 * j + i') = M1 289 i') ∧ ∀ q, q < 208 * j → s.2 288 q = M1 288 q) 208 ⟨rfl, fun _ _ => rfl, fun i' hi' => by omega, fun _ _ => rfl⟩ (by omega) (fun i s hi hI => ?_) (fun s hI => ?_)
      · obtain ⟨z, M2⟩ := s
        obtain ⟨rfl, q1, q2, q3⟩ := hI
        dsimp only at q1 q2 q3 ⊢
        have e31 : M2 278 31 = (j : Int) := by rw [q1 278 (by decide)]; exact hj
        have w : wr (wr (208 * (j : Int)) + (i : Int)) = ((208 * j + i : Nat) : Int) := by rw [wr_i (x := 208 * (j : Int)) (by omega) (by omega), wr_i (by omega) (by omega)]; omega
        unfold mo_remember_b55
        rw [e31, w]
        simp only [toNat_c]
        refine Tc_f (by omega) (Tc_t (by omega) (Tc_t (by omega) (Tc_u (Tc_inl ⟨(wr_i (by omega) (by omega)).trans (by omega), fun c hc => ?_, fun i' hi' => ?_, fun q hq => ?_⟩))))
        · dsimp only; rw [up2_ne hc]; exact q1 c hc
        · dsimp only
          rw [q1 289 (by decide)]
          by_cases e : i' = i
          · subst e; exact rd_same
          · rw [rd_k (by omega)]; exact q2 i' (by omega)
        · dsimp only; rw [rd_k (by omega)]; exact q3 q hq
      · obtain ⟨z, M2⟩ := s
        obtain ⟨rfl, q1, q2, q3⟩ := hI
        unfold mo_remember_b55
        exact Tc_t (by show (208 : Int) ≤ ((208 : Nat) : Int); omega) (Tc_inr ⟨q1, q2, q3⟩)
    obtain ⟨w1, e1, y1, y2, y3⟩ := l1
    have e31 : w1.2 278 31 = (j : Int) := by rw [y1 278 (by decide)]; exact hj
    refine ⟨up2 w1.2 278 31 ((j : Int) + 1), ?_, rd_same, fun c c1 c2 => ?_, fun k hk => ?_, fun i hi => ?_, fun q hq => ?_⟩
    · unfold mo_remember_j53
      rw [e1, Option.bind_some, e31, wr_i (by omega) (by omega), Option.bind_some]
    · rw [up2_ne c1]; exact y1 c c2
    · rw [rd_k hk, y1 278 (by decide)]
    · rw [rd_a (by decide)]; exact y2 i hi
    · rw [rd_a (by decide)]; exact y3 q hq
  unfold mo_remember
  by_cases h10 : M 278 31 = 10
  · rw [if_pos h10, if_pos h10]
    have l1 : Tc (iter (fun s => mo_remember_b15 208 s.1 s.2) FU (0, M)) (fun r => (∀ c, c ≠ 288 → r.2 c = M c) ∧ (∀ q, q < 1872 → r.2 288 q = M 288 (q + 208))) := by
      refine Tc_n (fun i s => s.1 = (i : Int) ∧ (∀ c, c ≠ 288 → s.2 c = M c) ∧ (∀ q, q < i → s.2 288 q = M 288 (q + 208)) ∧ ∀ q, i ≤ q → s.2 288 q = M 288 q) 1872 ⟨rfl, fun _ _ => rfl, fun i' hi' => by omega, fun _ _ => rfl⟩ (by omega) (fun i s hi hI => ?_) (fun s hI => ?_)
      · obtain ⟨z, M2⟩ := s
        obtain ⟨rfl, q1, q2, q3⟩ := hI
        dsimp only at q1 q2 q3 ⊢
        have w9 : wr ((208 : Int) * 9) = 1872 := wr_i (by omega) (by omega)
        have w : wr ((i : Int) + 208) = ((i + 208 : Nat) : Int) := (wr_i (by omega) (by omega)).trans (by omega)
        unfold mo_remember_b15
        rw [w9, w]
        simp only [toNat_c]
        refine Tc_f (by omega) (Tc_t (by omega) (Tc_t (by omega) (Tc_u (Tc_inl ⟨(wr_i (by omega) (by omega)).trans (by omega), fun c hc => ?_, fun q hq => ?_, fun q hq => ?_⟩))))
        · dsimp only; rw [up2_ne hc]; exact q1 c hc
        · dsimp only
          rw [q3 (i + 208) (by omega)]
          by_cases e : q = i
          · subst e; exact rd_same
          · rw [rd_k (by omega)]; exact q2 q (by omega)
        · dsimp only; rw [rd_k (by omega)]; exact q3 q (by omega)
      · obtain ⟨z, M2⟩ := s
        obtain ⟨rfl, q1, q2, q3⟩ := hI
        have w9 : wr ((208 : Int) * 9) = 1872 := wr_i (by omega) (by omega)
        unfold mo_remember_b15
        rw [w9]
        exact Tc_t (by show (1872 : Int) ≤ ((1872 : Nat) : Int); omega) (Tc_inr ⟨q1, q2⟩)
    obtain ⟨w1, e1, y1, y2⟩ := l1
    have e31 : w1.2 278 31 = 10 := by rw [y1 278 (by decide)]; exact h10
    obtain ⟨M', f1, f2, f3, f4, f5, f6⟩ := tail (up2 w1.2 278 31 9) 9 rd_same (by omega)
    refine ⟨M', ?_, f2, fun c c1 c2 => ?_, fun k hk => ?_, fun j hj => ?_⟩
    · rw [e1, Option.bind_some, e31, show wr ((10 : Int) - 1) = 9 from wr_i (by omega) (by omega), Option.bind_some]
      exact f1
    · rw [f3 c c1 c2, up2_ne c1]; exact y1 c c2
    · rw [f4 k hk, rd_k hk, y1 278 (by decide)]
    · rw [if_pos h10] at hj
      have : j = 9 := by omega
      subst this
      refine ⟨fun i hi => ?_, fun i' hi' q hq => ?_⟩
      · rw [f5 i hi, up2_ne (by decide), y1 289 (by decide)]
      · rw [f6 _ (by omega), up2_ne (by decide), y2 _ (by omega), if_pos h10, show 208 * i' + q + 208 = 208 * (i' + 1) + q by omega]
  · rw [if_neg h10, if_neg h10]
    obtain ⟨j, hj⟩ : ∃ j : Nat, M 278 31 = (j : Int) := ⟨(M 278 31).toNat, by omega⟩
    obtain ⟨M', f1, f2, f3, f4, f5, f6⟩ := tail M j hj (by omega)
    refine ⟨M', f1, by rw [f2, hj], f3, f4, fun j' hj' => ?_⟩
    rw [if_neg h10] at hj'
    have : j' = j := by omega
    subst this
    exact ⟨f5, fun i' hi' q hq => by rw [f6 _ (by omega), if_neg h10]⟩
theorem prepare_eq {M : MEM} {wc : Int} (h0 : 0 ≤ M 45 1) (h1 : M 45 1 < 11) (h2 : 0 ≤ M 45 2) (h3 : M 45 2 ≤ 10) (h4 : 0 ≤ M 3 2) (h5 : M 3 2 ≤ 3) (hw : wc = 0 ∨ wc = 1) :
    ∃ M', hi_prepare 3 wc M = some M' ∧ copyS (usc M (M 45 2).toNat) 3 M' M ∧ copyC (usc M (M 45 2).toNat + 2) 5 M' M ∧ M' (usc M (M 45 2).toNat) 5 = wc ∧ (∀ c, (c < usc M (M 45 2).toNat ∨ usc M (M 45 2).toNat + 16 ≤ c) → M' c = M c) := by
  have hu := usc_in (i := (M 45 2).toNat) h0 h1 (by omega)
  have er : 47 + 16 * ((M 45 1 + M 45 2) % 11).toNat = usc M (M 45 2).toNat := by unfold usc; split <;> omega
  have hm1 := Int.emod_nonneg (M 45 1 + M 45 2) (show (11 : Int) ≠ 0 by decide)
  have hm2 := Int.emod_lt_of_pos (M 45 1 + M 45 2) (show (0 : Int) < 11 by decide)
  unfold hi_prepare
  rw [wr_i (x := M 45 1 + M 45 2) (by omega) (by omega), floorMod_eq (by unfold InR; omega) (by decide) (by decide), Option.bind_some, if_pos (by omega), er]
  generalize usc M (M 45 2).toNat = F at *
  obtain ⟨M1, e1, g1, g2, g3, g3'⟩ := copyWalk_eq (s' := F) (s := 3) (M := M) (by omega) h4 h5
  obtain ⟨M2, e2, k1, k2, k3⟩ := ca_copy_eq (c' := F + 2) (c := 5) (M := M1) (by omega)
  refine ⟨up2 M2 F 5 wc, ?_, ?_, ?_, rd_same, fun c hc => ?_⟩
  · rw [e1, Option.bind_some, e2, Option.bind_some, if_pos hw, Option.bind_some]
  · obtain ⟨q1, q2, q3⟩ := g1
    refine ⟨?_, ?_, fun d hd => ?_⟩
    · rw [rd_k (by decide), k2 F (by omega)]; exact q1
    · rw [rd_k (by decide), k2 F (by omega)]; exact q2
    · rw [up2_ne (by omega), up2_ne (by omega), up2_ne (by omega), k2 _ (by omega), k2 _ (by omega), k2 _ (by omega)]
      exact q3 d hd
  · refine ⟨?_, fun q i x1 x2 hi => ?_⟩
    · rw [up2_ne (by omega), k1.1, g2 5 (by omega) (by omega)]
    · rw [up2_ne (by omega), k1.2 q i x1 x2 hi, g2 _ (by omega) (by omega)]
  · rw [up2_ne (by omega), k2 c (by omega), g2 c (by omega) (by omega)]
theorem commit_eq {M : MEM} (h0 : 0 ≤ M 45 1) (h1 : M 45 1 < 11) (h2 : 0 ≤ M 45 2) (h3 : M 45 2 ≤ 10) : ∃ M', hi_commit M = some M' ∧ M' 45 2 = (if M 45 2 = 10 then 10 else M 45 2 + 1) ∧ M' 45 1 = (if M 45 2 = 10 then (M 45 1 + 1) % 11 else M 45 1) ∧ (∀ c, c ≠ 45 → M' c = M c) := by
  unfold hi_commit
  by_cases h10 : M 45 2 = 10
  · rw [if_pos (by omega), wr_i (by omega) (by omega), floorMod_eq (by unfold InR; omega) (by decide) (by decide), Option.bind_some, Option.bind_some]
    refine ⟨_, rfl, ?_, ?_, fun c hc => up2_ne hc⟩
    · rw [rd_k (by decide), if_pos h10, h10]
    · rw [rd_same, if_pos h10]
  · rw [if_neg (by omega), wr_i (by omega) (by omega), Option.bind_some]
    refine ⟨_, rfl, ?_, ?_, fun c hc => up2_ne hc⟩
    · rw [rd_same, if_neg h10]
    · rw [rd_k (by decide), if_neg h10]
theorem usc_next {M M' : MEM} {i : Nat} (h0 : 0 ≤ M 45 1) (h1 : M 45 1 < 11) (hi : i ≤ 9) (h : M' 45 1 = (M 45 1 + 1) % 11) : usc M' i = usc M (i + 1) := by
  obtain ⟨o, ho⟩ : ∃ o : Nat, M 45 1 = (o : Int) := ⟨(M 45 1).toNat, by omega⟩
  have h' : M' 45 1 = (((o + 1) % 11 : Nat) : Int) := by rw [h, ho]; omega
  unfold usc
  rw [h', ho, toNat_c, toNat_c]
  by_cases e : o = 10
  · subst e
    rw [if_pos (by omega), if_neg (by omega)]; omega
  · rw [show (o + 1) % 11 = o + 1 by omega]
    by_cases z : o + 1 + i < 11
    · rw [if_pos z, if_pos (by omega)]; omega
    · rw [if_neg z, if_neg (by omega)]; omega
theorem usc_same {M M' : MEM} {i : Nat} (h : M' 45 1 = M 45 1) : usc M' i = usc M i := by
  unfold usc
  rw [h]
theorem usc_dis {M : MEM} {i j : Nat} (h0 : 0 ≤ M 45 1) (h1 : M 45 1 < 11) (hi : i ≤ 10) (hj : j ≤ 10) (hij : i ≠ j) : usc M i + 16 ≤ usc M j ∨ usc M j + 16 ≤ usc M i := by
  obtain ⟨o, ho⟩ : ∃ o : Nat, M 45 1 = (o : Int) := ⟨(M 45 1).toNat, by omega⟩
  unfold usc
  rw [ho, toNat_c]
  by_cases z : o + i < 11
  · rw [if_pos z]
    by_cases y : o + j < 11
    · rw [if_pos y]; omega
    · rw [if_neg y]; omega
  · rw [if_neg z]
    by_cases y : o + j < 11
    · rw [if_pos y]; omega
    · rw [if_neg y]; omega
/-- one more can be undone -/
theorem U_more {B : Int} {M M' : MEM} {wc : Int} (hU : C_U B M) (hD : C_D B M) (hC : C_C M) (hN : M 3 2 ≤ 3) (hw : wc = 0 ∨ wc = 1) (k1 : copyS (usc M (M 45 2).toNat) 3 M' M) (k2 : copyC (usc M (M 45 2).toNat + 2) 5 M' M) (k3 : M' (usc M (M 45 2).toNat) 5 = wc)
    (k4 : ∀ c, 47 ≤ c → c ≤ 222 → (c < usc M (M 45 2).toNat ∨ usc M (M 45 2).toNat + 16 ≤ c) → M' c = M c) (k5 : M' 45 2 = (if M 45 2 = 10 then 10 else M 45 2 + 1)) (k6 : M' 45 1 = (if M 45 2 = 10 then (M 45 1 + 1) % 11 else M 45 1)) (k7 : M' 3 2 = M 3 2) (k8 : M' 280 = M 280)
    (m1 : M' 278 31 = (if M 278 31 = 10 then 10 else M 278 31 + 1)) (m2 : ∀ j : Nat, (j : Int) = (if M 278 31 = 10 then 9 else M 278 31) → ((∀ i, i < 166 → M' 288 (208 * j + i) = M 279 i) ∧ M' 288 (208 * j + 166) = M 278 7 ∧ (∀ i, i < 40 → M' 288 (208 * j + 167 + i) = M 282 i) ∧ M' 288 (208 * j + 207) = wc) ∧ ∀ i' : Nat, i' < j → ∀ q, q < 208 → M' 288 (208 * i' + q) = M 288 (208 * (if M 278 31 = 10 then i' + 1 else i') + q)) : C_U B M' := by
  obtain ⟨u1, u2, u3, u4, u5, u6⟩ := hU
  refine ⟨?_, ?_, ?_, ?_, ?_, fun i hi => ?_⟩
  · rw [k6]; split <;> omega
  · rw [k6]; split <;> omega
  · rw [k5, m1, u3]
  · rw [k5]; split <;> omega
  · rw [k5]; split <;> omega
  · rw [u3] at m1 m2
    have hlt := usc_in (i := (M 45 2).toNat) u1 u2 (by omega)
    obtain ⟨j, hj, sh, hj9, eNew, hOld⟩ : ∃ (j : Nat), (j : Int) = (if M 45 2 = 10 then 9 else M 45 2) ∧ ∃ sh : Nat → Nat, j ≤ 9 ∧ usc M' j = usc M (M 45 2).toNat ∧ ∀ i', i' < j → sh i' = (if M 45 2 = 10 then i' + 1 else i') ∧ usc M' i' = usc M (sh i') ∧ (sh i' : Int) < M 45 2 := by
      by_cases h10 : M 45 2 = 10
      · rw [if_pos h10] at k6
        refine ⟨9, by rw [if_pos h10]; rfl, fun i' => i' + 1, Nat.le_refl _, ?_, fun i' hi' => ⟨by rw [if_pos h10], usc_next u1 u2 (by omega) k6, by dsimp only; omega⟩⟩
        rw [usc_next u1 u2 (Nat.le_refl _) k6, h10]; rfl
      · rw [if_neg h10] at k6
        refine ⟨(M 45 2).toNat, by rw [if_neg h10]; omega, fun i' => i', by omega, usc_same k6, fun i' hi' => ⟨by rw [if_neg h10], usc_same k6, by dsimp only; omega⟩⟩
    obtain ⟨⟨n1, n2, n3, n4⟩, n5⟩ := m2 j hj
    have hij : i ≤ j := by
      by_cases h10 : M 45 2 = 10
      · rw [k5, if_pos h10] at hi; rw [if_pos h10] at hj; omega
      · rw [k5, if_neg h10] at hi; rw [if_neg h10] at hj; omega
    by_cases e : i = j
    · subst e
      rw [eNew, k7]
      obtain ⟨c1, c2, c3⟩ := k1
      refine ⟨c1, snS.move (s := 3) (a := 279) (k := 0) hN c2 (fun d hd => c3 d hd) (fun q hq => by rw [n1 q hq, Nat.zero_add]) (fun d _ => by rw [k8]) hD, ?_, by rw [k3, n4], by rw [k3]; exact hw⟩
      exact snC.move (c := 5) k2 n2 (fun q hq => n3 q hq) hC
    · have hij' : i < j := by omega
      obtain ⟨hi2, eu, hi2l⟩ := hOld i hij'
      have n5' := n5 i hij'
      rw [← hi2] at n5'
      generalize sh i = i2 at *
      obtain ⟨r1, r2, r3, r4, r5⟩ := u6 i2 hi2l
      have hui := usc_in (i := i2) u1 u2 (by omega)
      have dis : usc M i2 + 16 ≤ usc M (M 45 2).toNat ∨ usc M (M 45 2).toNat + 16 ≤ usc M i2 := usc_dis u1 u2 (by omega) (by omega) (by omega)
      have same : ∀ c, usc M i2 ≤ c → c < usc M i2 + 16 → M' c = M c := fun c a b => k4 c (by omega) (by omega) (by omega)
      rw [eu, k7, same _ (Nat.le_refl _) (by omega)]
      refine ⟨r1, r2.move hN (by rw [same _ (Nat.le_refl _) (by omega)]) (fun d hd => ⟨fun q _ _ => by rw [same _ (by omega) (by omega)], fun p _ => by rw [same _ (by omega) (by omega)], fun q _ => by rw [same _ (by omega) (by omega)]⟩) (fun q hq => n5' q (by omega)) (fun d _ => by rw [k8]), ?_, ?_, r5⟩
      · refine r3.move ⟨by rw [same _ (by omega) (by omega)], fun q k x1 x2 _ => by rw [same _ (by omega) (by omega)]⟩ (n5' 166 (by omega)) (fun q hq => ?_)
        have := n5' (167 + q) (by omega)
        rw [← Nat.add_assoc, ← Nat.add_assoc] at this
        exact this
      · rw [n5' 207 (by omega)]; exact r4
end
section
-- ===== keep, again, undo =====
theorem chg_K {L : List Nat} {M M1 : MEM} (h : 9 ∈ L) (hc : ∀ c, (c < 246 ∨ 277 < c) → M1 c = M c) : chg L M M1 := fun a k n => by
  by_cases e : 246 ≤ a ∧ a ≤ 277
  · exact absurd (by rw [rg_K e.1 e.2]; exact h) n
  · rw [hc a (by omega)]
theorem c_keep {B : Int} {M : MEM} (h : Rel B M) (x : Int) : Lk B (dh_keep x M) (mo_keep x) := by
  have c3 : chg [0] M (up2 M 278 13 0) := chg.rf.up (by decide)
  obtain ⟨s1, s2, s3, s3a, s3b, s4⟩ := h.S
  unfold Lk dh_keep
  by_cases hx : 0 ≤ x ∧ x < 2
  · obtain ⟨i, rfl⟩ : ∃ i : Nat, x = (i : Int) := ⟨x.toNat, by omega⟩
    have hi : i < 2 := by omega
    rw [toNat_c]
    obtain ⟨M1, e1, g1, g2, g3, g3'⟩ := copyWalk_eq (s' := 246 + 16 * i) (s := 3) (M := M) (by omega) s2 s3
    obtain ⟨M2, e2, k1, k2, k3⟩ := ca_copy_eq (c' := 246 + 16 * i + 2) (c := 5) (M := M1) (by omega)
    refine Tc_f (by omega) (Tc_t (by omega) (Tc_t (by omega) (Tc_e e1 (Tc_t (by omega) (Tc_e e2 (Tc_t (by omega) (Tc_u (Tc_some ?_))))))))
    dsimp only
    generalize hM3 : up2 M2 (246 + 16 * i) 4 1 = M3
    have f1 : ∀ c, (c < 246 + 16 * i ∨ 246 + 16 * i + 16 ≤ c) → M3 c = M c := fun c hc => by rw [← hM3, up2_ne (by omega), k2 c (by omega), g2 c (by omega) (by omega)]
    have f2 : M3 (246 + 16 * i) 2 = M 3 2 := by rw [← hM3, rd_k (by decide), k2 _ (by omega)]; exact g1.1
    have f3 : M3 (246 + 16 * i) 3 = M 3 3 := by rw [← hM3, rd_k (by decide), k2 _ (by omega)]; exact g1.2.1
    have f4 : M3 (246 + 16 * i) 4 = 1 := by rw [← hM3]; exact rd_same
    have f5 : ∀ c, 246 + 16 * i + 7 ≤ c → M3 c = M1 c := fun c hc => by rw [← hM3, up2_ne (by omega), k2 c (by omega)]
    have f6 : copyC (246 + 16 * i + 2) 5 M3 M := by
      refine ⟨?_, fun q j x1 x2 hj => ?_⟩
      · rw [← hM3, up2_ne (by omega), k1.1, g2 5 (by omega) (by omega)]
      · rw [← hM3, up2_ne (by omega), k1.2 q j x1 x2 hj, g2 _ (by omega) (by omega)]
    unfold mo_keep
    have wk : wr (207 * (i : Int)) = ((207 * i : Nat) : Int) := (wr_i (by omega) (by omega)).trans (by omega)
    have hl : lenA 304 = 414 := rfl
    have e51 : ∀ v, up2 (up2 M3 278 13 0) 305 i v 278 51 = M 278 51 := fun v => by rw [rd_a (by decide), rd_k (by decide), f1 278 (by omega)]
    refine Tc_u (Tc_f (by rw [moIn_y (by omega)]; decide) (Tc_t (by omega) (Tc_u (Tc_t (by omega) (Tc_u ?_)))))
    rw [wk]
    simp only [toNat_c, e51]
    obtain ⟨M5, e5, l1, l2, l3⟩ := layAll_eq (a := 304) (k := 207 * i) (M := up2 (up2 (up2 M3 278 13 0) 305 i 1) 306 i (M 278 51)) (Or.inr rfl) (by omega)
    refine Tc_e e5 (Tc_some ⟨rfl, ?_⟩)
    dsimp only
    have h0 : ∀ c, c ≠ 278 → c ≠ 304 → c ≠ 305 → c ≠ 306 → M5 c = M3 c := fun c c1 c2 c3 c4 => by rw [l2 c c2, up2_ne c4, up2_ne c3, up2_ne c1]
    have h278 : ∀ k, k ≠ 13 → M5 278 k = M 278 k := fun k hk => by rw [l2 278 (by decide), rd_a (by decide), rd_a (by decide), rd_k hk, f1 278 (by omega)]
    have h305 : ∀ k, M5 305 k = if k = i then 1 else M 305 k := fun k => by
      rw [l2 305 (by decide), rd_a (by decide)]
      by_cases e : k = i
      · subst e; rw [rd_same, if_pos rfl]
      · rw [rd_k e, if_neg e, rd_a (by decide), f1 305 (by omega)]
    have h306 : ∀ k, M5 306 k = if k = i then M 278 51 else M 306 k := fun k => by
      rw [l2 306 (by decide)]
      by_cases e : k = i
      · subst e; rw [rd_same, if_pos rfl]
      · rw [rd_k e, if_neg e, rd_a (by decide), rd_a (by decide), f1 306 (by omega)]
    have h304 : ∀ q, (q < 207 * i ∨ 207 * i + 207 ≤ q) → M5 304 q = M 304 q := fun q hq => by rw [l3 q hq, rd_a (by decide), rd_a (by decide), rd_a (by decide), f1 304 (by omega)]
    have src : ∀ c, c = 279 ∨ c = 282 → up2 (up2 (up2 M3 278 13 0) 305 i 1) 306 i (M 278 51) c = M c := fun c hc => by rw [up2_ne (by omega), up2_ne (by omega), up2_ne (by omega), f1 c (by omega)]
    have src7 : up2 (up2 (up2 M3 278 13 0) 305 i 1) 306 i (M 278 51) 278 7 = M 278 7 := by rw [rd_a (by decide), rd_a (by decide), rd_k (by decide), f1 278 (by omega)]
    obtain ⟨l1a, l1b, l1c⟩ := l1
    rw [src 279 (Or.inl rfl)] at l1a
    rw [src 282 (Or.inr rfl)] at l1c
    rw [src7] at l1b
    have c5 : chg [0, 9] M M5 := fun a k n => by
      by_cases e1 : a = 278
      · subst e1
        refine h278 k (fun e => n ?_)
        subst e; decide
      · by_cases e2 : a = 304 ∨ a = 305 ∨ a = 306
        · refine absurd ?_ n
          rcases e2 with rfl | rfl | rfl <;> exact (by decide : (9 : Nat) ∈ [0, 9])
        · rw [h0 a e1 (by omega) (by omega) (by omega)]
          by_cases e3 : 246 ≤ a ∧ a ≤ 277
          · exact absurd (by rw [rg_K e3.1 e3.2]; decide) n
          · rw [f1 a (by omega)]
    refine h.go (Int.le_refl _) c5 (by decide) (fun q => absurd q (by decide)) (fun q => absurd q (by decide)) (fun q => absurd q (by decide)) (fun q => absurd q (by decide)) (fun q => absurd q (by decide)) (fun q => absurd q (by decide)) (fun q => absurd q (by decide)) (fun q => absurd q (by decide)) (fun _ => ?_) (fun q => absurd q (by decide)) (fun q => absurd q (by decide))
    intro i' hi'
    have e32 : M5 3 2 = M 3 2 := c5 3 2 (by decide)
    have e51' : M5 278 51 = M 278 51 := h278 51 (by decide)
    have e280 : M5 280 = M 280 := c5.row (fun k => (by decide : 12 ∉ [0, 9]))
    rw [h305, h306, e32, e51']
    by_cases e : i' = i
    · subst e
      rw [if_pos rfl, if_pos rfl]
      have k4 : M5 (246 + 16 * i') = M3 (246 + 16 * i') := h0 _ (by omega) (by omega) (by omega) (by omega)
      rw [k4, f4, f2]
      refine ⟨rfl, Or.inr rfl, fun _ => ⟨Int.le_refl _, Int.le_refl _, ⟨fun _ => rfl, fun _ => rfl⟩, fun _ => ⟨?_, ?_⟩⟩⟩
      · refine snS.move (s := 3) (a := 279) (k := 0) s3 (by rw [k4]; exact f3) (fun d hd => ?_) (fun q hq => by rw [l1a q hq, Nat.zero_add]) (fun d _ => by rw [e280]) h.D
        obtain ⟨b1, b2, b3⟩ := g1.2.2 d hd
        rw [h0 _ (by omega) (by omega) (by omega) (by omega), h0 _ (by omega) (by omega) (by omega) (by omega), h0 _ (by omega) (by omega) (by omega) (by omega), f5 _ (by omega), f5 _ (by omega), f5 _ (by omega)]
        exact ⟨b1, b2, b3⟩
      · refine snC.move (c := 5) ⟨?_, fun q j x1 x2 hj => ?_⟩ l1b (fun q hq => l1c q hq) h.C
        · rw [h0 _ (by omega) (by omega) (by omega) (by omega)]; exact f6.1
        · rw [h0 _ (by omega) (by omega) (by omega) (by omega)]; exact f6.2 q j x1 x2 hj
    · rw [if_neg e, if_neg e]
      obtain ⟨q1, q2, q3⟩ := h.K i' hi'
      have sm : ∀ c, 246 + 16 * i' ≤ c → c < 246 + 16 * i' + 16 → M5 c = M c := fun c a b => by rw [h0 c (by omega) (by omega) (by omega) (by omega), f1 c (by omega)]
      rw [sm _ (Nat.le_refl _) (by omega)]
      refine ⟨q1, q2, fun y => ?_⟩
      obtain ⟨q4, q5, q6, q7⟩ := q3 y
      refine ⟨q4, q5, q6, fun y2 => ?_⟩
      obtain ⟨q8, q9⟩ := q7 y2
      refine ⟨q8.move s3 (by rw [sm _ (Nat.le_refl _) (by omega)]) (fun d hd => ⟨fun q _ _ => by rw [sm _ (by omega) (by omega)], fun q _ => by rw [sm _ (by omega) (by omega)], fun q _ => by rw [sm _ (by omega) (by omega)]⟩) (fun q hq => h304 _ (by omega)) (fun d _ => by rw [e280]), q9.move ⟨by rw [sm _ (by omega) (by omega)], fun q j x1 x2 _ => by rw [sm _ (by omega) (by omega)]⟩ (h304 _ (by omega)) (fun q hq => h304 _ (by omega))⟩
  · have mo : Tc (mo_keep x M) (fun q => q.1 = 0 ∧ Rel B q.2) := by
      unfold mo_keep
      exact Tc_u (Tc_t (moIn_n (by omega)) (Tc_some ⟨rfl, h.go0 c3⟩))
    exact Tc_i (fun _ => Tc_some mo) (fun q => Tc_f (by omega) (Tc_some mo))
/-- all rows of now are taken out of a, from k on -/
theorem takeNow_eq {a k n : Nat} {M : MEM} (body : Int × MEM → Option ((Int × MEM) ⊕ (Int × MEM))) (ha : a ≠ 279) (hb : ∀ (i : Nat) (M1 : MEM), i < 166 → body ((i : Int), M1) = some (.inl (((i + 1 : Nat) : Int), up2 M1 279 i (M1 a (k + i))))) (he : ∀ M1 : MEM, body (166, M1) = some (.inr (166, M1))) :
    ∃ M', iter body FU (0, M) = some (166, M') ∧ (∀ c, c ≠ 279 → M' c = M c) ∧ ∀ i, i < 166 → M' 279 i = M a (k + i) := by
  have l1 : Tc (iter body FU (0, M)) (fun r => r.1 = 166 ∧ (∀ c, c ≠ 279 → r.2 c = M c) ∧ ∀ i, i < 166 → r.2 279 i = M a (k + i)) := by
    refine Tc_n (fun i s => s.1 = (i : Int) ∧ (∀ c, c ≠ 279 → s.2 c = M c) ∧ ∀ j, j < i → s.2 279 j = M a (k + j)) 166 ⟨rfl, fun _ _ => rfl, fun j hj => by omega⟩ (by omega) (fun i s hi hI => ?_) (fun s hI => ?_)
    · obtain ⟨z, M1⟩ := s
      obtain ⟨rfl, q1, q2⟩ := hI
      dsimp only at q1 q2 ⊢
      rw [hb i M1 hi]
      refine Tc_inl ⟨rfl, fun c hc => ?_, fun j hj => ?_⟩
      · dsimp only; rw [up2_ne hc]; exact q1 c hc
      · dsimp only
        rw [q1 a ha]
        by_cases e : j = i
        · subst e; exact rd_same
        · rw [rd_k e]; exact q2 j (by omega)
    · obtain ⟨z, M1⟩ := s
      obtain ⟨rfl, q1, q2⟩ := hI
      rw [show ((166 : Nat) : Int) = 166 from rfl, he]
      exact Tc_inr ⟨rfl, q1, q2⟩
  obtain ⟨r, e1, h1, h2, h3⟩ := l1
  exact ⟨r.2, by rw [e1, ← h1], h2, h3⟩
theorem ite_ne {c : Prop} [Decidable c] {x y v : Nat} (hx : c → x ≠ v) (hy : ¬ c → y ≠ v) : (if c then x else y) ≠ v := by
  by_cases h : c
  · rw [if_pos h]; exact hx h
  · rw [if_neg h]; exact hy h
theorem rg_12 {a k : Nat} (h : rg a k = 12) : (a = 3 ∧ k = 2) ∨ (a = 278 ∧ (k = 1 ∨ k = 51)) ∨ a = 280 ∨ ((a = 10 ∨ a = 13 ∨ a = 16) ∧ k = 2) := by
  apply Classical.byContradiction
  intro n
  refine absurd h ?_
  unfold rg
  repeat' (refine ite_ne (fun _ => ?_) (fun _ => ?_))
  all_goals first | decide | (exfalso; omega)
/-- behind taking back: scene 3 out of s, the rows out of a, from k on; CARROTS too, or as they were -/
theorem Rel.back {B : Int} {M M5 : MEM} {s a k : Nat} (h : Rel B M) (hs : snS s a k (M 3 2) B M) (hs2 : M s 2 = M 3 2) (cl : copyS 3 s M5 M) (cl2 : ∀ c : Nat, 10 ≤ c → c ≤ 18 → (10 : Int) + 3 * M 3 2 ≤ (c : Int) → M5 c = M c) (ro : ∀ i, i < 166 → M5 279 i = M a (k + i)) (c : chg [0, 4, 5, 8, 12] M M5) (h1 : M5 278 1 = M 278 1) (h51 : M5 278 51 = M 278 51) (h280 : M5 280 = M 280) (hC : C_C M5) (hU : C_S M5 → C_U B M5) : Rel B M5 := by
  obtain ⟨s1, s2, s3, s3a, s3b, s4⟩ := h.S
  have e32 : M5 3 2 = M 3 2 := cl.1.trans hs2
  have hbp : ∀ d : Nat, (d : Int) < 3 → M5 (10 + 3 * d) 2 = M (10 + 3 * d) 2 := fun d hd => by
    by_cases z : (d : Int) < M 3 2
    · have := (cl.2.2 d (by omega)).1 2 (by omega) (by omega)
      rw [show 3 + 7 + 3 * d = 10 + 3 * d by omega] at this
      rw [this, (hs.2.2.2 d z).1]
      exact ((s4 d z).1)
    · rw [cl2 _ (by omega) (by omega) (by omega)]
  have c12 : chg [0, 4, 5, 8] M M5 := fun q w n => by
    by_cases e : rg q w = 12
    · rcases rg_12 e with ⟨rfl, rfl⟩ | ⟨rfl, rfl | rfl⟩ | rfl | ⟨q1, rfl⟩
      · exact e32
      · exact h1
      · exact h51
      · rw [h280]
      · rcases q1 with rfl | rfl | rfl
        · exact hbp 0 (by decide)
        · exact hbp 1 (by decide)
        · exact hbp 2 (by decide)
    · exact c q w (by simp only [List.mem_cons, List.not_mem_nil, or_false] at n ⊢; omega)
  have hS5 : C_S M5 := h.S.cg (c12.same fun x hx => by rw [hx]; decide)
  refine h.go (Int.le_refl _) c12 (by decide) (fun q => absurd q (by decide)) (fun q => absurd q (by decide)) (fun q => absurd q (by decide)) (fun _ => ?_) (fun _ => hC) (fun q => absurd q (by decide)) (fun q => absurd q (by decide)) (fun _ => hU hS5) (fun q => absurd q (by decide)) (fun q => absurd q (by decide)) (fun q => absurd q (by decide))
  unfold C_D
  rw [e32]
  exact hs.move s3 cl.2.1 (fun d hd => cl.2.2 d (by omega)) (fun q hq => by rw [Nat.zero_add]; exact ro q hq) (fun d _ => by rw [h280])
end
section
-- ===== again, undo =====
theorem chg_back {M M5 : MEM} (h1 : ∀ c, c ≠ 3 → (c < 5 ∨ 18 < c) → c ≠ 45 → c ≠ 278 → c ≠ 279 → c ≠ 282 → M5 c = M c) (h2 : ∀ k, k ≠ 7 → k ≠ 13 → k ≠ 31 → M5 278 k = M 278 k) : chg [0, 4, 5, 8, 12] M M5 := fun a k n => by
  by_cases e3 : a = 3
  · subst e3
    refine absurd ?_ n
    by_cases z : k = 2
    · subst z; decide
    · by_cases z3 : k = 3
      · subst z3; decide
      · rw [show rg 3 k = (if k = 2 then 12 else if k = 3 then 4 else 0) from rfl, if_neg z, if_neg z3]; decide
  · by_cases e5 : 5 ≤ a ∧ a ≤ 9
    · refine absurd ?_ n
      have : a = 5 ∨ a = 6 ∨ a = 7 ∨ a = 8 ∨ a = 9 := by omega
      rcases this with rfl | rfl | rfl | rfl | rfl
      · by_cases z : k = 4
        · subst z; decide
        · rw [show rg 5 k = (if k = 4 then 5 else 0) from rfl, if_neg z]; decide
      all_goals exact (by decide : (5 : Nat) ∈ [0, 4, 5, 8, 12])
    · by_cases e10 : 10 ≤ a ∧ a ≤ 18
      · refine absurd ?_ n
        rcases rg_D12 (k := k) e10.1 e10.2 with e | e <;> rw [e] <;> decide
      · by_cases e45 : a = 45
        · subst e45; exact absurd (by rw [rg_U (by decide) (by decide)]; decide) n
        · by_cases e279 : a = 279
          · subst e279; exact absurd (by rw [rg_279]; decide) n
          · by_cases e282 : a = 282
            · subst e282
              refine absurd ?_ n
              by_cases z : k < 40
              · rw [rg_car z]; decide
              · rw [show rg 282 k = (if k < 40 then 5 else 0) from rfl, if_neg z]; decide
            · by_cases e278 : a = 278
              · subst e278
                refine h2 k (fun e => n ?_) (fun e => n ?_) (fun e => n ?_) <;> subst e <;> decide
              · rw [h1 a e3 (by omega) e45 e278 e279 e282]
theorem c_again {B : Int} {M : MEM} (h : Rel B M) (x : Int) : Lk B (dh_again x M) (mo_again x) := by
  have c3 : chg [0] M (up2 M 278 13 0) := chg.rf.up (by decide)
  obtain ⟨s1, s2, s3, s3a, s3b, s4⟩ := h.S
  unfold Lk dh_again
  by_cases hx : 0 ≤ x ∧ x < 2
  · obtain ⟨i, rfl⟩ : ∃ i : Nat, x = (i : Int) := ⟨x.toNat, by omega⟩
    have hi : i < 2 := by omega
    rw [toNat_c]
    obtain ⟨q1, q2, q3⟩ := h.K i hi
    have hin : mo_in (i : Int) 0 1 ≠ 0 := by rw [moIn_y (by omega)]; decide
    have r5 : up2 M 278 13 0 305 i = M 305 i := rd_a (by decide)
    have r6 : up2 M 278 13 0 306 i = M 306 i := rd_a (by decide)
    have r1 : up2 M 278 13 0 278 51 = M 278 51 := rd_k (by decide)
    refine Tc_f (by omega) (Tc_f (by omega) (Tc_t (by omega) ?_))
    by_cases z : M (246 + 16 * i) 4 = 0
    · refine Tc_t z (Tc_some ?_)
      unfold mo_again
      rw [toNat_c]
      exact Tc_u (Tc_f hin (Tc_t (by omega) (Tc_t (by rw [r5, q1]; exact z) (Tc_some ⟨rfl, h.go0 c3⟩))))
    · have y : M 305 i = 1 := by omega
      obtain ⟨w1, w2, w3, w4⟩ := q3 y
      refine Tc_f z (Tc_t (by omega) ?_)
      by_cases z2 : M (246 + 16 * i) 2 = M 3 2
      · obtain ⟨w5, w6⟩ := w4 z2
        obtain ⟨M1, e1, g1, g2, g3, g3'⟩ := copyWalk_eq (s' := 3) (s := 246 + 16 * i) (M := M) (by omega) (by omega) (by omega)
        obtain ⟨M2, e2, k1, k2, k3⟩ := ca_copy_eq (c' := 5) (c := 246 + 16 * i + 2) (M := M1) (by omega)
        refine Tc_t z2 (Tc_t (by omega) (Tc_e e1 (Tc_t (by omega) (Tc_e e2 (Tc_e (b := up2 M2 45 2 0) rfl ?_)))))
        refine Tc_some ?_
        dsimp only
        unfold mo_again
        have wk : wr (207 * (i : Int)) = ((207 * i : Nat) : Int) := (wr_i (by omega) (by omega)).trans (by omega)
        have f0 : ∀ c, c ≠ 3 → (c < 5 ∨ 18 < c) → c ≠ 45 → up2 M2 45 2 0 c = M c := fun c a b d => by rw [up2_ne d, k2 c (by omega), g2 c a (by omega)]
        have f1 : copyS 3 (246 + 16 * i) (up2 M2 45 2 0) M := by
          obtain ⟨a1, a2, a3⟩ := g1
          have hh : ∀ c, (c < 5 ∨ 10 ≤ c) → c ≠ 45 → up2 M2 45 2 0 c = M1 c := fun c a b => by rw [up2_ne b, k2 c (by omega)]
          refine ⟨by rw [hh 3 (by omega) (by omega)]; exact a1, by rw [hh 3 (by omega) (by omega)]; exact a2, fun d hd => ?_⟩
          rw [hh _ (by omega) (by omega), hh _ (by omega) (by omega), hh _ (by omega) (by omega)]
          exact a3 d hd
        have f2 : ∀ c : Nat, 10 ≤ c → c ≤ 18 → (10 : Int) + 3 * M 3 2 ≤ (c : Int) → up2 M2 45 2 0 c = M c := fun c a b d => by rw [up2_ne (by omega), k2 c (by omega), g2 c (by omega) (by omega)]
        have f4 : copyC 5 (246 + 16 * i + 2) (up2 M2 45 2 0) M := by
          refine ⟨?_, fun q j x1 x2 hj => ?_⟩
          · rw [up2_ne (by omega), k1.1, g2 _ (by omega) (by omega)]
          · rw [up2_ne (by omega), k1.2 q j x1 x2 hj, g2 _ (by omega) (by omega)]
        have f5 : up2 M2 45 2 0 45 2 = 0 := rd_same
        have f6 : up2 M2 45 2 0 45 1 = M 45 1 := by rw [rd_k (by decide), k2 45 (by omega), g2 45 (by omega) (by omega)]
        generalize up2 M2 45 2 0 = M3 at *
        have r5 : up2 M3 278 13 0 305 i = 1 := by rw [rd_a (by decide), f0 305 (by omega) (by omega) (by omega)]; exact y
        have r6 : up2 M3 278 13 0 306 i = up2 M3 278 13 0 278 51 := by rw [rd_a (by decide), rd_k (by decide), f0 306 (by omega) (by omega) (by omega), f0 278 (by omega) (by omega) (by omega)]; exact w3.2 z2
        have e40 : ∀ (j : Nat) (M9 : MEM), j < 166 → mo_again_b40 (i : Int) (j : Int) M9 = some (.inl (((j + 1 : Nat) : Int), up2 M9 279 j (M9 304 (207 * i + j)))) := fun j M9 hj => by
          unfold mo_again_b40
          have wj : wr (wr (207 * (i : Int)) + (j : Int)) = ((207 * i + j : Nat) : Int) := by rw [wk, wr_i (by omega) (by omega)]; omega
          rw [wj, if_neg (by omega), if_pos (by omega), if_pos (by omega), Option.bind_some, toNat_c, toNat_c, wr_i (x := (j : Int) + 1) (by omega) (by omega)]
          rfl
        obtain ⟨M4, e4, l1, l2⟩ := takeNow_eq (a := 304) (k := 207 * i) (n := 166) (M := up2 M3 278 13 0) (fun s => mo_again_b40 (i : Int) s.1 s.2) (by decide) e40 (fun M9 => by show mo_again_b40 (i : Int) 166 M9 = _; unfold mo_again_b40; rw [if_pos (Int.le_refl _)])
        obtain ⟨M5, e5, t1, t2, t3, t4, t5⟩ := takeCarrots_eq (a := 304) (k := 207 * i) (M := M4) (Or.inr rfl) (show 207 * i + 207 ≤ 414 by omega)
        rw [toNat_c]
        refine Tc_u (Tc_f hin (Tc_t (by omega) (Tc_f (by rw [r5]; decide) (Tc_t (by omega) (Tc_t r6 (Tc_e e4 ?_))))))
        rw [wk]
        refine Tc_e e5 (Tc_u (Tc_some ⟨rfl, ?_⟩))
        dsimp only
        have h0 : ∀ c, c ≠ 278 → c ≠ 279 → c ≠ 282 → up2 M5 278 31 0 c = M3 c := fun c c1 c2 c3 => by rw [up2_ne c1, t3 c c1 c3, l1 c c2, up2_ne c1]
        have h278 : ∀ k, k ≠ 7 → k ≠ 13 → k ≠ 31 → up2 M5 278 31 0 278 k = M 278 k := fun k a b d => by rw [rd_k d, t4 k a, l1 278 (by decide), rd_k b, f0 278 (by omega) (by omega) (by omega)]
        have h304 : ∀ q, M4 304 q = M 304 q := fun q => by rw [l1 304 (by decide), rd_a (by decide), f0 304 (by omega) (by omega) (by omega)]
        have g31 : up2 M5 278 31 0 278 31 = 0 := rd_same
        have hc : chg [0, 4, 5, 8, 12] M (up2 M5 278 31 0) := chg_back (fun c a1 a2 a3 a4 a5 a6 => by rw [h0 c a4 a5 a6, f0 c a1 a2 a3]) h278
        refine Rel.back (s := 246 + 16 * i) (a := 304) (k := 207 * i) h w5 z2 ?_ (fun c a b d => by rw [h0 c (by omega) (by omega) (by omega)]; exact f2 c a b d) (fun j hj => ?_) hc (h278 1 (by decide) (by decide) (by decide)) (h278 51 (by decide) (by decide) (by decide)) ?_ ?_ (fun hS => ?_)
        · obtain ⟨a1, a2, a3⟩ := f1
          refine ⟨by rw [h0 3 (by decide) (by decide) (by decide)]; exact a1, by rw [h0 3 (by decide) (by decide) (by decide)]; exact a2, fun d hd => ?_⟩
          rw [h0 _ (by omega) (by omega) (by omega), h0 _ (by omega) (by omega) (by omega), h0 _ (by omega) (by omega) (by omega)]
          exact a3 d hd
        · rw [rd_a (by decide), t3 279 (by decide) (by decide), l2 j hj, rd_a (by decide), f0 304 (by omega) (by omega) (by omega)]
        · rw [h0 280 (by decide) (by decide) (by decide), f0 280 (by omega) (by omega) (by omega)]
        · unfold C_C
          rw [show up2 M5 278 31 0 278 7 = M 304 (207 * i + 166) by rw [rd_k (by decide), t1, h304]]
          refine snC.move (c := 246 + 16 * i + 2) ⟨?_, fun q j x1 x2 hj => ?_⟩ rfl (fun q hq => ?_) w6
          · rw [h0 5 (by decide) (by decide) (by decide)]; exact f4.1
          · rw [h0 _ (by omega) (by omega) (by omega)]; exact f4.2 q j x1 x2 hj
          · rw [rd_a (by decide), t2 q hq, h304]
        · obtain ⟨u1, u2, u3, u4, u5, u6⟩ := h.U
          have e45 : up2 M5 278 31 0 45 = M3 45 := h0 45 (by decide) (by decide) (by decide)
          refine ⟨by rw [e45, f6]; exact u1, by rw [e45, f6]; exact u2, by rw [e45, g31, f5], by rw [e45, f5]; decide, by rw [e45, f5]; decide, fun j hj => ?_⟩
          rw [e45, f5] at hj
          omega
      · refine Tc_f z2 (Tc_some ?_)
        unfold mo_again
        rw [toNat_c]
        exact Tc_u (Tc_f hin (Tc_t (by omega) (Tc_f (by rw [r5, y]; decide) (Tc_t (by omega) (Tc_f (by rw [r6, r1]; exact fun e => z2 (w3.1 e)) (Tc_some ⟨rfl, h.go0 c3⟩))))))
  · have mo : Tc (mo_again x M) (fun q => q.1 = 0 ∧ Rel B q.2) := by
      unfold mo_again
      exact Tc_u (Tc_t (moIn_n (by omega)) (Tc_some ⟨rfl, h.go0 c3⟩))
    exact Tc_i (fun _ => Tc_some mo) (fun q => Tc_t (by omega) (Tc_some mo))
theorem rg_5 {a k : Nat} (h1 : ¬ (5 ≤ a ∧ a ≤ 9)) (h2 : a ≠ 278) (h3 : a ≠ 282) : rg a k ≠ 5 := by
  unfold rg
  repeat' (refine ite_ne (fun _ => ?_) (fun _ => ?_))
  all_goals first | decide | (exfalso; omega)
theorem c_undo {B : Int} {M : MEM} (h : Rel B M) : Lk B (dh_undo M) mo_undo := by
  have c3 : chg [0] M (up2 M 278 13 0) := chg.rf.up (by decide)
  obtain ⟨s1, s2, s3, s3a, s3b, s4⟩ := h.S
  obtain ⟨u1, u2, u3, u4, u5, u6⟩ := h.U
  have m31 : up2 M 278 13 0 278 31 = M 45 2 := by rw [rd_k (by decide)]; exact u3
  unfold Lk dh_undo hi_takeBack
  by_cases z : 1 ≤ M 45 2
  · obtain ⟨n, hn⟩ : ∃ n : Nat, M 45 2 = (n : Int) + 1 := ⟨(M 45 2).toNat - 1, by omega⟩
    obtain ⟨v1, v2, v3, v4, v5⟩ := u6 n (by omega)
    have hu := usc_in (i := n) u1 u2 (by omega)
    have p1 : up2 M 45 2 (wr (M 45 2 - 1)) 45 1 = M 45 1 := rd_k (by decide)
    have p2 : up2 M 45 2 (wr (M 45 2 - 1)) 45 2 = (n : Int) := by rw [rd_same, wr_i (by omega) (by omega)]; omega
    have p3 : ∀ c, c ≠ 45 → up2 M 45 2 (wr (M 45 2 - 1)) c = M c := fun c hc => up2_ne hc
    rw [show (if 1 ≤ M 45 2 then _ else _) = _ from if_pos z, Option.bind_some]
    generalize up2 M 45 2 (wr (M 45 2 - 1)) = M0 at *
    have hm1 := Int.emod_nonneg (M 45 1 + (n : Int)) (show (11 : Int) ≠ 0 by decide)
    have hm2 := Int.emod_lt_of_pos (M 45 1 + (n : Int)) (show (0 : Int) < 11 by decide)
    have er : 47 + 16 * ((M 45 1 + (n : Int)) % 11).toNat = usc M n := by unfold usc; split <;> omega
    rw [p1, p2, wr_i (x := M 45 1 + (n : Int)) (by omega) (by omega), floorMod_eq (by unfold InR; omega) (by decide) (by decide), Option.bind_some, if_pos (by omega), er]
    generalize hF : usc M n = F at *
    obtain ⟨M1, e1, g1, g2, g3, g3'⟩ := copyWalk_eq (s' := 3) (s := F) (M := M0) (by omega) (by rw [p3 F (by omega)]; omega) (by rw [p3 F (by omega)]; omega)
    rw [e1, Option.bind_some]
    have a5 : M1 F 5 = M F 5 := by rw [g2 F (by omega) (by rw [p3 F (by omega)]; omega), p3 F (by omega)]
    -- what both ways have alike
    have f0 : ∀ c, c ≠ 3 → (c < 10 ∨ 18 < c) → c ≠ 45 → M1 c = M c := fun c a b d => by rw [g2 c a (by rw [p3 F (by omega)]; omega), p3 c d]
    have f1 : copyS 3 F M1 M := by
      obtain ⟨a1, a2, a3⟩ := g1
      rw [p3 F (by omega)] at a1 a2 a3
      refine ⟨a1, a2, fun d hd => ?_⟩
      have := a3 d hd
      rw [p3 _ (by omega), p3 _ (by omega), p3 _ (by omega)] at this
      exact this
    have f2 : ∀ c : Nat, 10 ≤ c → c ≤ 18 → (10 : Int) + 3 * M 3 2 ≤ (c : Int) → M1 c = M c := fun c a b d => by rw [g2 c (by omega) (by rw [p3 F (by omega)]; omega), p3 c (by omega)]
    have f45 : M1 45 = M0 45 := g2 45 (by omega) (by rw [p3 F (by omega)]; omega)
    -- what the reference does, from any memory the class left
    have mo : ∀ M3 : MEM, (∀ c, c ≠ 3 → (c < 5 ∨ 18 < c) → c ≠ 45 → M3 c = M c) → M3 45 = M0 45 → copyS 3 F M3 M → (∀ c : Nat, 10 ≤ c → c ≤ 18 → (10 : Int) + 3 * M 3 2 ≤ (c : Int) → M3 c = M c) →
        (M F 5 = 1 → copyC 5 (F + 2) M3 M) → (M F 5 ≠ 1 → ∀ c, 5 ≤ c → c ≤ 9 → M3 c = M c) → Tc (mo_undo M3) (fun q => q.1 = (n : Int) ∧ Rel B q.2) := by
      intro M3 f0 f45 f1 f2 f4 f4'
      have r31 : up2 M3 278 13 0 278 31 = (n : Int) + 1 := by rw [rd_k (by decide), f0 278 (by omega) (by omega) (by omega)]; omega
      unfold mo_undo
      refine Tc_u (Tc_f (by rw [r31]; omega) (Tc_u ?_))
      rw [r31, wr_i (x := (n : Int) + 1 - 1) (by omega) (by omega), show (n : Int) + 1 - 1 = (n : Int) by omega]
      have q31 : up2 (up2 M3 278 13 0) 278 31 (n : Int) 278 31 = (n : Int) := rd_same
      rw [q31]
      have wk : wr (208 * (n : Int)) = ((208 * n : Nat) : Int) := (wr_i (by omega) (by omega)).trans (by omega)
      have w207 : wr (((208 * n : Nat) : Int) + 207) = ((208 * n + 207 : Nat) : Int) := (wr_i (by omega) (by omega)).trans (by omega)
      rw [wk, w207]
      have e35 : ∀ (j : Nat) (M9 : MEM), j < 166 → mo_undo_b35 ((208 * n : Nat) : Int) (j : Int) M9 = some (.inl (((j + 1 : Nat) : Int), up2 M9 279 j (M9 288 (208 * n + j)))) := fun j M9 hj => by
        unfold mo_undo_b35
        have wj : wr (((208 * n : Nat) : Int) + (j : Int)) = ((208 * n + j : Nat) : Int) := (wr_i (by omega) (by omega)).trans (by omega)
        rw [wj, if_neg (by omega), if_pos (by omega), if_pos (by omega), Option.bind_some, toNat_c, toNat_c, wr_i (x := (j : Int) + 1) (by omega) (by omega)]
        rfl
      obtain ⟨M4, e4, l1, l2⟩ := takeNow_eq (a := 288) (k := 208 * n) (n := 166) (M := up2 (up2 M3 278 13 0) 278 31 (n : Int)) (fun s => mo_undo_b35 ((208 * n : Nat) : Int) s.1 s.2) (by decide) e35 (fun M9 => by show mo_undo_b35 _ 166 M9 = _; unfold mo_undo_b35; rw [if_pos (Int.le_refl _)])
      have h288 : ∀ q, M4 288 q = M 288 q := fun q => by rw [l1 288 (by decide), rd_a (by decide), rd_a (by decide), f0 288 (by omega) (by omega) (by omega)]
      refine Tc_e e4 (Tc_t (by omega) ?_)
      dsimp only
      rw [toNat_c]
      -- behind it, alike
      have fin : ∀ M5 : MEM, (∀ c, c ≠ 278 → c ≠ 282 → M5 c = M4 c) → (∀ k, k ≠ 7 → M5 278 k = M4 278 k) → C_C M5 → Rel B M5 := by
        intro M5 t3 t4 hC
        have h0 : ∀ c, c ≠ 278 → c ≠ 279 → c ≠ 282 → M5 c = M3 c := fun c c1 c2 c3 => by rw [t3 c c1 c3, l1 c c2, up2_ne c1, up2_ne c1]
        have h278 : ∀ k, k ≠ 7 → k ≠ 13 → k ≠ 31 → M5 278 k = M 278 k := fun k a b d => by rw [t4 k a, l1 278 (by decide), rd_k d, rd_k b, f0 278 (by omega) (by omega) (by omega)]
        have g31 : M5 278 31 = (n : Int) := by rw [t4 31 (by decide), l1 278 (by decide), rd_same]
        have hc : chg [0, 4, 5, 8, 12] M M5 := chg_back (fun c a1 a2 a3 a4 a5 a6 => by rw [h0 c a4 a5 a6, f0 c a1 a2 a3]) h278
        have e280 : M5 280 = M 280 := by rw [h0 280 (by decide) (by decide) (by decide), f0 280 (by omega) (by omega) (by omega)]
        refine Rel.back (s := F) (a := 288) (k := 208 * n) h v2 v1 ?_ (fun c a b d => by rw [h0 c (by omega) (by omega) (by omega)]; exact f2 c a b d) (fun j hj => ?_) hc (h278 1 (by decide) (by decide) (by decide)) (h278 51 (by decide) (by decide) (by decide)) e280 hC (fun hS => ?_)
        · obtain ⟨a1, a2, a3⟩ := f1
          refine ⟨by rw [h0 3 (by decide) (by decide) (by decide)]; exact a1, by rw [h0 3 (by decide) (by decide) (by decide)]; exact a2, fun d hd => ?_⟩
          rw [h0 _ (by omega) (by omega) (by omega), h0 _ (by omega) (by omega) (by omega), h0 _ (by omega) (by omega) (by omega)]
          exact a3 d hd
        · rw [t3 279 (by decide) (by decide), l2 j hj, rd_a (by decide), rd_a (by decide), f0 288 (by omega) (by omega) (by omega)]
        · have e45 : M5 45 = M0 45 := by rw [h0 45 (by decide) (by decide) (by decide), f45]
          have e32 : M5 3 2 = M 3 2 := by rw [h0 3 (by decide) (by decide) (by decide), f1.1]; exact v1
          have e288 : M5 288 = M 288 := by rw [h0 288 (by decide) (by decide) (by decide), f0 288 (by omega) (by omega) (by omega)]
          refine ⟨by rw [e45, p1]; exact u1, by rw [e45, p1]; exact u2, by rw [e45, g31, p2], by rw [e45, p2]; omega, by rw [e45, p2]; omega, fun j hj => ?_⟩
          rw [e45, p2] at hj
          have hus : usc M5 j = usc M j := usc_same (by rw [e45, p1])
          have huj := usc_in (i := j) u1 u2 (by omega)
          obtain ⟨w1, w2, w3, w4, w5⟩ := u6 j (by omega)
          have hcell : ∀ c, 47 ≤ c → c ≤ 222 → M5 c = M c := fun c a b => by rw [h0 c (by omega) (by omega) (by omega), f0 c (by omega) (by omega) (by omega)]
          rw [hus, e32, e288, hcell _ (by omega) (by omega)]
          refine ⟨w1, ?_, ?_, w4, w5⟩
          · exact w2.cg s3 (by rw [hcell _ (by omega) (by omega)]) (fun c q a b => by rw [hcell c (by omega) (by omega)]) (fun q _ _ => by rw [e288]) (fun d _ => by rw [e280])
          · exact w3.cg (fun q k a b => by rw [hcell _ (by omega) (by omega)]) (fun k _ => rfl)
      by_cases y : M F 5 = 1
      · have y' : M 288 (208 * n + 207) = 1 := by rw [← v4]; exact y
        obtain ⟨M5, e5, t1, t2, t3, t4, t5⟩ := takeCarrots_eq (a := 288) (k := 208 * n) (M := M4) (Or.inl rfl) (show 208 * n + 207 ≤ 2080 by omega)
        have k4 := f4 y
        refine Tc_t (by rw [h288]; exact y') (Tc_e e5 (Tc_some ⟨?_, fin M5 t3 t4 ?_⟩))
        · show M5 278 31 = _
          rw [t4 31 (by decide), l1 278 (by decide), rd_same]
        · have hh : ∀ c, 5 ≤ c → c ≤ 9 → M5 c = M3 c := fun c a b => by rw [t3 c (by omega) (by omega), l1 c (by omega), up2_ne (by omega), up2_ne (by omega)]
          unfold C_C
          rw [show M5 278 7 = M 288 (208 * n + 166) by rw [t1, h288]]
          refine snC.move (c := F + 2) ⟨?_, fun q j x1 x2 hj => ?_⟩ rfl (fun q hq => ?_) v3
          · rw [hh 5 (by decide) (by decide)]; exact k4.1
          · rw [hh _ (by omega) (by omega)]; exact k4.2 q j x1 x2 hj
          · rw [t2 q hq, h288]
      · have y' : ¬ M 288 (208 * n + 207) = 1 := by rw [← v4]; exact y
        refine Tc_f (by rw [h288]; exact y') (Tc_some ⟨?_, fin M4 (fun c _ _ => rfl) (fun k _ => rfl) ?_⟩)
        · show M4 278 31 = _
          rw [l1 278 (by decide), rd_same]
        · refine h.C.cg (fun a k e => ?_)
          have e' : rg a k = 5 := e
          by_cases e1 : 5 ≤ a ∧ a ≤ 9
          · rw [l1 a (by omega), up2_ne (by omega), up2_ne (by omega), f4' y a e1.1 e1.2]
          · by_cases e2 : a = 278
            · subst e2
              rw [l1 278 (by decide), rd_k (fun w => by subst w; revert e'; decide), rd_k (fun w => by subst w; revert e'; decide), f0 278 (by omega) (by omega) (by omega)]
            · by_cases e3 : a = 282
              · subst e3
                rw [l1 282 (by decide), rd_a (by decide), rd_a (by decide), f0 282 (by omega) (by omega) (by omega)]
              · exact absurd e' (rg_5 e1 e2 e3)
    by_cases y : M F 5 = 0
    · refine Tc_e (b := (1, M1)) (if_pos (a5.trans y)) (Tc_f (by show ¬ (1 : Int) = 0; decide) (Tc_some ?_))
      have := mo M1 (fun c a b d => f0 c a (by omega) d) f45 f1 f2 (fun e => by omega) (fun _ c a b => f0 c (by omega) (by omega) (by omega))
      dsimp only
      rw [f45, p2]
      exact this
    · obtain ⟨M2, e2, k1, k2, k3⟩ := ca_copy_eq (c' := 5) (c := F + 2) (M := M1) (by omega)
      refine Tc_e (b := (1, M2)) (by rw [a5, if_neg y, e2, Option.bind_some]) (Tc_f (by show ¬ (1 : Int) = 0; decide) (Tc_some ?_))
      have hh : ∀ c, (c < 5 ∨ 10 ≤ c) → M2 c = M1 c := fun c a => k2 c (by omega)
      have := mo M2 (fun c a b d => by rw [hh c (by omega)]; exact f0 c a (by omega) d) (by rw [hh 45 (by omega), f45]) ?_ (fun c a b d => by rw [hh c (by omega)]; exact f2 c a b d) (fun _ => ?_) (fun e => by omega)
      · dsimp only
        rw [hh 45 (by omega), f45, p2]
        exact this
      · obtain ⟨a1, a2, a3⟩ := f1
        refine ⟨by rw [hh 3 (by omega)]; exact a1, by rw [hh 3 (by omega)]; exact a2, fun d hd => ?_⟩
        rw [hh _ (by omega), hh _ (by omega), hh _ (by omega)]
        exact a3 d hd
      · refine ⟨?_, fun q j x1 x2 hj => ?_⟩
        · rw [k1.1, f0 _ (by omega) (by omega) (by omega)]
        · rw [k1.2 q j x1 x2 hj, f0 _ (by omega) (by omega) (by omega)]
  · have z' : M 45 2 = 0 := by omega
    rw [show (if 1 ≤ M 45 2 then _ else _) = _ from if_neg z, Option.bind_some]
    refine Tc_t rfl (Tc_some ?_)
    unfold mo_undo
    exact Tc_u (Tc_t (by rw [m31]; exact z') (Tc_some ⟨rfl, h.go0 c3⟩))
end
section
-- ===== a MINUTE of the class =====
noncomputable def passE (M : MEM) : EN := (flC M, plC 5 M, codeV (M 21 3) (M 22))
theorem passE_cl (M : MEM) : clE (passE M) := fun g => codeV_in _ _ _
theorem passE_alike {M : MEM} (hF : C_F M) (hC : C_C M) (hN : C_N M) (hR : rlOk M) : passE M = envM M := by
  rw [← env_alike hF hC (th0 (Or.inl rfl) hN) (sw0 (Or.inl rfl) hN)]
  obtain ⟨n1, n2, n3, n4, n5, n6, n7⟩ := hN
  have z : ∀ d m, plC 225 M d m = 0 := fun d m => by
    unfold plC
    rw [sumN_congr (G := fun _ => 0) (fun i hi => by unfold plF; rw [if_neg (by omega)])]
    rfl
  unfold passE envC
  have e1 : (fun m => if 0 ≤ M 224 6 then M 224 6 else flC M m) = flC M := by
    funext m
    rw [if_neg (by omega)]
  have e2 : (fun d m => plC 5 M d m + plC (224 + 1) M d m) = plC 5 M := by
    funext d m
    rw [z d m, Int.add_zero]
  rw [e1, e2]
def pOk (M : MEM) : Prop := (0 ≤ M 19 1 ∧ M 19 1 ≤ 40) ∧ (0 ≤ M 5 4 ∧ M 5 4 ≤ 10 ∧ howOk 5 M) ∧ codeOk (M 21 3) (M 22)
theorem paceNow_eq {b : Nat} {d n : Int} {M : MEM} (hp : pOk M) (hb : b ≠ 24) (hb1 : b + 1 ≠ 24) (hd : okD n (dsC b M)) (h3 : InR (M 3 3)) :
    ∃ M', dh_paceNow b d M = some (paceD (passE M) d (M 3 3) (dsC b M), M') ∧ (∀ c, c ≠ 21 → c ≠ 23 → c ≠ 24 → M' c = M c) ∧ ∀ k, k ≠ 4 → M' 21 k = M 21 k := by
  obtain ⟨⟨g1, g1'⟩, ⟨g2, g3, g4⟩, g8⟩ := hp
  obtain ⟨M1, M2, e1, e2, o1, o2⟩ := pace_of (b := b) (d := d) (m := M 3 3) (e := passE M) (M := M) hb hb1 hd g8 rfl
  refine ⟨M2, ?_, o1, o2⟩
  unfold dh_paceNow
  rw [fl_in_eq h3 g1 g1', Option.bind_some, ca_pull_eq g2 g3 g4, Option.bind_some]
  rw [show flC M (M 3 3) = (passE M).1 (M 3 3) from rfl, show plC 5 M d (M 3 3) = (passE M).2.1 d (M 3 3) from rfl, e1, Option.bind_some, e2, Option.bind_some]
/-- the bits of who ate, and of who stood, eight times -/
def bitsP (A S : Nat → Bool) (i : Nat) : Int := bitsI A i + 8 * bitsI S i
theorem bits_ate {A S : Nat → Bool} {i : Nat} (h : i < 3) : ish i_or (bitsP A S i) (ish i_shl 1 (i : Int)) = bitsP A S i + w2 i := by
  have h3 : i = 0 ∨ i = 1 ∨ i = 2 := by omega
  unfold bitsP
  rcases h3 with rfl | rfl | rfl <;> simp only [ish_def, bitsI, sumN, w2] <;> cases A 0 <;> cases S 0 <;> cases A 1 <;> cases S 1 <;> decide
theorem bits_stood {A S : Nat → Bool} {i : Nat} (h : i < 3) : ish i_or (bitsI A (i + 1) + 8 * bitsI S i) (ish i_shl 1 ((i : Int) + 3)) = bitsI A (i + 1) + 8 * (bitsI S i + w2 i) := by
  have h3 : i = 0 ∨ i = 1 ∨ i = 2 := by omega
  rcases h3 with rfl | rfl | rfl <;> simp only [ish_def, bitsI, sumN, w2] <;> cases A 0 <;> cases S 0 <;> cases A 1 <;> cases S 1 <;> cases A 2 <;> decide
theorem bits_end {A S : Nat → Bool} {i : Nat} (h : i ≤ 3) : ish i_and (bitsP A S i) 7 = bitsI A i ∧ ish i_shr (bitsP A S i) 3 = bitsI S i := by
  have h3 : i = 0 ∨ i = 1 ∨ i = 2 ∨ i = 3 := by omega
  unfold bitsP
  rcases h3 with rfl | rfl | rfl | rfl <;> simp only [ish_def, bitsI, sumN, w2] <;> cases A 0 <;> cases S 0 <;> cases A 1 <;> cases S 1 <;> cases A 2 <;> cases S 2 <;> decide
/-- what a MINUTE of the class changes -/
def offW (M M' : MEM) : Prop := (∀ c, c ≠ 3 → (c < 10 ∨ 18 < c) → c ≠ 21 → c ≠ 23 → c ≠ 24 → M' c = M c) ∧ (∀ k, k ≠ 4 → M' 21 k = M 21 k) ∧ (∀ k, k ≠ 3 → M' 3 k = M 3 k) ∧ ∀ d k : Nat, d < 3 → k ≠ 3 → k ≠ 4 → k ≠ 5 → M' (10 + 3 * d) k = M (10 + 3 * d) k
theorem offW.rf {M : MEM} : offW M M := ⟨fun _ _ _ _ _ _ => rfl, fun _ _ => rfl, fun _ _ => rfl, fun _ _ _ _ _ _ => rfl⟩
theorem offW.tr {M M1 M2 : MEM} (h : offW M M1) (g : offW M1 M2) : offW M M2 :=
  ⟨fun c a1 a2 a3 a4 a5 => (g.1 c a1 a2 a3 a4 a5).trans (h.1 c a1 a2 a3 a4 a5), fun k a => (g.2.1 k a).trans (h.2.1 k a), fun k a => (g.2.2.1 k a).trans (h.2.2.1 k a), fun d k a1 a2 a3 a4 => (g.2.2.2 d k a1 a2 a3 a4).trans (h.2.2.2 d k a1 a2 a3 a4)⟩
theorem offW.env {M M' : MEM} (h : offW M M') : passE M' = passE M := by
  have r : ∀ c, (c = 5 ∨ c = 6 ∨ c = 7 ∨ c = 8 ∨ c = 9 ∨ c = 19 ∨ c = 20 ∨ c = 22) → M' c = M c := fun c hc => h.1 c (by omega) (by omega) (by omega) (by omega) (by omega)
  unfold passE flC
  rw [plC_cg (c := 5) (fun q hq => r _ (by omega)), h.2.1 3 (by omega), r 19 (by omega), r 20 (by omega), r 22 (by omega)]
theorem offW.pOk {M M' : MEM} (h : offW M M') (g : pOk M) : pOk M' := by
  have r : ∀ c, (c = 5 ∨ c = 6 ∨ c = 7 ∨ c = 8 ∨ c = 9 ∨ c = 19 ∨ c = 20 ∨ c = 22) → M' c = M c := fun c hc => h.1 c (by omega) (by omega) (by omega) (by omega) (by omega)
  obtain ⟨g1, ⟨g2, g3, g4⟩, g8⟩ := g
  refine ⟨?_, ⟨?_, ?_, howOk_cg (fun q hq => r _ (by omega)) g4⟩, ?_⟩
  · rw [r 19 (by omega)]; exact g1
  · rw [r 5 (by omega)]; exact g2
  · rw [r 5 (by omega)]; exact g3
  · rw [h.2.1 3 (by omega), r 22 (by omega)]; exact g8
/-- a DONKEY's step in this MINUTE -/
noncomputable def stepW (M : MEM) (d : Nat) : DS × Bool := stepD (passE M) (M (10 + 3 * d) 2) d (M 3 3) (dsC (10 + 3 * d) M)
noncomputable def stoodW (M : MEM) (d : Nat) : Bool := decide (paceD (passE M) d (M 3 3) (dsC (10 + 3 * d) M) = 0)
/-- a DONKEY's cells behind it -/
def beW (M M' : MEM) (d : Nat) : Prop := dsC (10 + 3 * d) M' = (stepW M d).1 ∧ ∀ q, q < 40 → M' (10 + 3 * d + 2) q = if (stepW M d).1.2.2.1 ≠ M (10 + 3 * d) 5 ∧ (q : Int) = (stepW M d).1.2.2.1 % 40 then M 3 3 else M (10 + 3 * d + 2) q
def passOk (M : MEM) : Prop := 0 ≤ M 3 2 ∧ M 3 2 ≤ 3 ∧ pOk M ∧ 0 ≤ M 3 3 ∧ M 3 3 ≤ 1000000000 ∧ ∀ d : Nat, (d : Int) < M 3 2 → okD (M (10 + 3 * d) 2) (dsC (10 + 3 * d) M) ∧ M (10 + 3 * d) 5 ≤ 1000000000
theorem pass_eq {M : MEM} (h : passOk M) : ∃ M', dh_pass M = some (bitsP (fun d => (stepW M d).2) (stoodW M) (M 3 2).toNat, M') ∧ offW M M' ∧ M' 3 3 = M 3 3 + 1 ∧ ∀ d : Nat, (d : Int) < M 3 2 → beW M M' d := by
  obtain ⟨h0, h1, hp, t0, t1, hd⟩ := h
  obtain ⟨N, hN⟩ : ∃ N : Nat, M 3 2 = (N : Int) := ⟨(M 3 2).toNat, by omega⟩
  have hl : Tc (iter (fun s => dh_pass_b4 s.1 s.2.1 s.2.2) FU (0, 0, M)) (fun r => r.1 = bitsP (fun d => (stepW M d).2) (stoodW M) N ∧ offW M r.2.2 ∧ r.2.2 3 3 = M 3 3 ∧ ∀ d : Nat, d < N → beW M r.2.2 d) := by
    refine Tc_n (fun i s => s.1 = bitsP (fun d => (stepW M d).2) (stoodW M) i ∧ s.2.1 = (i : Int) ∧ offW M s.2.2 ∧ s.2.2 3 3 = M 3 3 ∧ (∀ d : Nat, d < i → beW M s.2.2 d) ∧ ∀ c : Nat, 10 + 3 * i ≤ c → c ≤ 18 → s.2.2 c = M c) N ⟨rfl, rfl, offW.rf, rfl, fun d hd => by omega, fun _ _ _ => rfl⟩ (by omega) (fun i s hi hI => ?_) (fun s hI => ?_)
    · obtain ⟨x1, z, M1⟩ := s
      obtain ⟨rfl, rfl, q1, q2, q3, q4⟩ := hI
      dsimp only at q1 q2 q3 q4 ⊢
      have e32 : M1 3 2 = (N : Int) := by rw [q1.2.2.1 2 (by decide)]; exact hN
      have hb := q4 (10 + 3 * i) (by omega) (by omega)
      have hb1 := q4 (10 + 3 * i + 1) (by omega) (by omega)
      have hb2 := q4 (10 + 3 * i + 2) (by omega) (by omega)
      have eds : dsC (10 + 3 * i) M1 = dsC (10 + 3 * i) M := by unfold dsC; rw [hb, hb1]
      obtain ⟨hdi, hk⟩ := hd i (by omega)
      obtain ⟨M2, e2, o1, o2⟩ := paceNow_eq (b := 10 + 3 * i) (d := (i : Int)) (n := M (10 + 3 * i) 2) (M := M1) (q1.pOk hp) (by omega) (by omega) (by rw [eds]; exact hdi) (by rw [q2]; unfold InR; omega)
      rw [q1.env, q2, eds] at e2
      have hpb := passE_cl M (gvD (passE M) i (M 3 3) (dsC (10 + 3 * i) M))
      generalize hP : paceD (passE M) i (M 3 3) (dsC (10 + 3 * i) M) = P at *
      have hp0 : 0 ≤ P := by rw [← hP]; exact hpb.1
      have hp4 : P ≤ 4 := by rw [← hP]; exact hpb.2
      have eds2 : dsC (10 + 3 * i) M2 = dsC (10 + 3 * i) M := by rw [← eds]; unfold dsC; rw [o1 _ (by omega) (by omega) (by omega), o1 _ (by omega) (by omega) (by omega)]
      have b2 : M2 (10 + 3 * i) = M (10 + 3 * i) := by rw [o1 _ (by omega) (by omega) (by omega), hb]
      obtain ⟨M3, e3, d3, n3, o3⟩ := be_walk_eq (b := 10 + 3 * i) (n := M (10 + 3 * i) 2) (pace := P) (M := M2) hp0 hp4 (by rw [b2]) (by rw [eds2]; exact hdi) (by rw [b2]; omega)
      rw [eds2, b2] at e3
      rw [eds2] at d3
      have hst : stepW M i = walkD (M (10 + 3 * i) 2) P.toNat (dsC (10 + 3 * i) M) := by unfold stepW stepD; rw [hP]
      rw [← hst] at e3 d3
      have hd1 : ish i_and (didD (M (10 + 3 * i) 5) P (stepW M i)) 1 = 0 ↔ (stepW M i).1.2.2.1 = M (10 + 3 * i) 5 := by rw [hst]; exact did_1 hp0 rfl
      have hd2 : ish i_and (didD (M (10 + 3 * i) 5) P (stepW M i)) 2 = 0 ↔ (stepW M i).2 = false := by rw [hst]; exact did_2 hp0
      have hd4 := did_4 (k := M (10 + 3 * i) 5) (r := stepW M i) hp0
      have k3 : M3 (10 + 3 * i) 5 = (stepW M i).1.2.2.1 := by rw [← d3]; rfl
      have t3 : M3 3 = M1 3 := by rw [o3.1 3 (by omega) (by omega), o1 3 (by omega) (by omega) (by omega)]
      have hkb : (stepW M i).1.2.2.1 = M (10 + 3 * i) 5 ∨ (stepW M i).1.2.2.1 = M (10 + 3 * i) 5 + 1 := stepD_k (passE_cl M) hdi
      have hk0 : 0 ≤ M (10 + 3 * i) 5 := hdi.2.2.2.2.2.2.1
      generalize didD (M (10 + 3 * i) 5) P (stepW M i) = did at *
      have hoff3 : offW M M3 := by
        refine ⟨fun c a1 a2 a3 a4 a5 => ?_, fun k hk => ?_, fun k hk => ?_, fun d k a1 a2 a3 a4 => ?_⟩
        · rw [o3.1 c (by omega) (by omega), o1 c a3 a4 a5]; exact q1.1 c a1 a2 a3 a4 a5
        · rw [o3.1 21 (by omega) (by omega), o2 k hk]; exact q1.2.1 k hk
        · rw [t3]; exact q1.2.2.1 k hk
        · by_cases e : d = i
          · subst e; rw [o3.2 k a2 a3 a4, b2]
          · rw [o3.1 _ (by omega) (by omega), o1 _ (by omega) (by omega) (by omega)]; exact q1.2.2.2 d k a1 a2 a3 a4
      have hother : ∀ c, 10 ≤ c → c ≤ 18 → c ≠ 10 + 3 * i → c ≠ 10 + 3 * i + 1 → M3 c = M1 c := fun c a b d e => by rw [o3.1 c d e, o1 c (by omega) (by omega) (by omega)]
      -- behind the flags
      have fin : ∀ M4 : MEM, offW M M4 → M4 3 3 = M 3 3 → beW M M4 i → (∀ c, 10 ≤ c → c ≤ 18 → (c < 10 + 3 * i ∨ 10 + 3 * i + 3 ≤ c) → M4 c = M1 c) →
          Tc (dh_pass_j60_4 (bitsP (fun d => (stepW M d).2) (stoodW M) i) i did M4) (fun r => ∃ s', r = .inl s' ∧ s'.1 = bitsP (fun d => (stepW M d).2) (stoodW M) (i + 1) ∧ s'.2.1 = ((i + 1 : Nat) : Int) ∧ offW M s'.2.2 ∧ s'.2.2 3 3 = M 3 3 ∧ (∀ d : Nat, d < i + 1 → beW M s'.2.2 d) ∧ ∀ c : Nat, 10 + 3 * (i + 1) ≤ c → c ≤ 18 → s'.2.2 c = M c) := by
        intro M4 f1 f2 f3 f4
        have w1 : wr ((i : Int) + 1) = ((i + 1 : Nat) : Int) := (wr_i (by omega) (by omega)).trans (by omega)
        have w3 : wr ((i : Int) + 3) = (i : Int) + 3 := wr_i (by omega) (by omega)
        have good : ∀ x, x = bitsP (fun d => (stepW M d).2) (stoodW M) (i + 1) → Tc (dh_pass_j88_4 x i M4) (fun r => ∃ s', r = .inl s' ∧ s'.1 = bitsP (fun d => (stepW M d).2) (stoodW M) (i + 1) ∧ s'.2.1 = ((i + 1 : Nat) : Int) ∧ offW M s'.2.2 ∧ s'.2.2 3 3 = M 3 3 ∧ (∀ d : Nat, d < i + 1 → beW M s'.2.2 d) ∧ ∀ c : Nat, 10 + 3 * (i + 1) ≤ c → c ≤ 18 → s'.2.2 c = M c) := fun x hx => by
          unfold dh_pass_j88_4
          refine Tc_inl ⟨hx, w1, f1, f2, fun d hdd => ?_, fun c a b => ?_⟩
          · by_cases e : d = i
            · subst e; exact f3
            · obtain ⟨p1, p2⟩ := q3 d (by omega)
              dsimp only
              refine ⟨?_, fun q hq => ?_⟩
              · rw [← p1]; unfold dsC; rw [f4 _ (by omega) (by omega) (by omega), f4 _ (by omega) (by omega) (by omega)]
              · rw [f4 _ (by omega) (by omega) (by omega)]; exact p2 q hq
          · dsimp only
            rw [f4 c (by omega) b (by omega)]; exact q4 c (by omega) b
        have hA : bitsI (fun d => (stepW M d).2) (i + 1) = bitsI (fun d => (stepW M d).2) i + (if (stepW M i).2 = true then w2 i else 0) := bitsI_S _ _
        have hS : bitsI (stoodW M) (i + 1) = bitsI (stoodW M) i + (if stoodW M i = true then w2 i else 0) := bitsI_S _ _
        have hSt : stoodW M i = true ↔ P = 0 := by unfold stoodW; rw [hP]; exact decide_eq_true_iff
        have h73 : ∀ x, x = bitsI (fun d => (stepW M d).2) (i + 1) + 8 * bitsI (stoodW M) i → Tc (dh_pass_j73_4 x i did M4) (fun r => ∃ s', r = .inl s' ∧ s'.1 = bitsP (fun d => (stepW M d).2) (stoodW M) (i + 1) ∧ s'.2.1 = ((i + 1 : Nat) : Int) ∧ offW M s'.2.2 ∧ s'.2.2 3 3 = M 3 3 ∧ (∀ d : Nat, d < i + 1 → beW M s'.2.2 d) ∧ ∀ c : Nat, 10 + 3 * (i + 1) ≤ c → c ≤ 18 → s'.2.2 c = M c) := fun x hx => by
          unfold dh_pass_j73_4
          refine Tc_i (fun e => good _ ?_) (fun e => good _ ?_)
          · rw [hx]; unfold bitsP; rw [hS, if_neg (fun y => hd4.1 e (hSt.1 y)), Int.add_zero]
          · have : P = 0 := Classical.byContradiction fun y => e (hd4.2 y)
            rw [w3, hx, bits_stood (by omega)]; unfold bitsP; rw [hS, if_pos (hSt.2 this)]
        unfold dh_pass_j60_4
        refine Tc_i (fun e => h73 _ ?_) (fun e => h73 _ ?_)
        · unfold bitsP; rw [hA, if_neg (by rw [hd2.1 e]; decide), Int.add_zero]
        · have : (stepW M i).2 = true := by
            cases y : (stepW M i).2
            · exact absurd (hd2.2 y) e
            · rfl
          rw [bits_ate (by omega)]; unfold bitsP; rw [hA, if_pos this]; omega
      unfold dh_pass_b4
      rw [toNat_c]
      refine Tc_f (by rw [e32]; omega) (Tc_f (by omega) (Tc_t (by omega) (Tc_e e2 (Tc_e e3 ?_))))
      dsimp only
      refine Tc_i (fun e => ?_) (fun e => ?_)
      · have ek := hd1.1 e
        refine fin M3 hoff3 (by rw [t3]; exact q2) ⟨d3, fun q hq => ?_⟩ (fun c a b d => hother c a b (by omega) (by omega))
        rw [if_neg (fun y => y.1 ek), hother _ (by omega) (by omega) (by omega) (by omega), hb2]
      · have ek : (stepW M i).1.2.2.1 ≠ M (10 + 3 * i) 5 := fun y => e (hd1.2 y)
        have m1 := Int.emod_nonneg (stepW M i).1.2.2.1 (show (40 : Int) ≠ 0 by decide)
        have m2 := Int.emod_lt_of_pos (stepW M i).1.2.2.1 (show (0 : Int) < 40 by decide)
        have en : be_enter (10 + 3 * i) (M3 3 3) M3 = some (up2 M3 (10 + 3 * i + 2) ((stepW M i).1.2.2.1 % 40).toNat (M 3 3)) := by
          unfold be_enter
          rw [k3, floorMod_eq (by unfold InR; omega) (by decide) (by decide), Option.bind_some, if_pos ⟨m1, m2⟩, t3, q2]
          rfl
        refine Tc_e en (fin _ ?_ ?_ ⟨?_, fun q hq => ?_⟩ (fun c a b d => ?_))
        · refine hoff3.tr ⟨fun c a1 a2 _ _ _ => up2_ne (by omega), fun k _ => rd_a (by omega), fun k _ => rd_a (by omega), fun d k _ _ _ _ => rd_a (by omega)⟩
        · rw [rd_a (by omega), t3]; exact q2
        · rw [← d3]; unfold dsC; rw [up2_ne (by omega), up2_ne (by omega)]
        · by_cases y : q = ((stepW M i).1.2.2.1 % 40).toNat
          · rw [if_pos ⟨ek, by omega⟩, y, rd_same]
          · rw [if_neg (fun z => y (by omega)), rd_k y, hother _ (by omega) (by omega) (by omega) (by omega), hb2]
        · rw [up2_ne (by omega)]; exact hother c a b (by omega) (by omega)
    · obtain ⟨x1, z, M1⟩ := s
      obtain ⟨rfl, rfl, q1, q2, q3, q4⟩ := hI
      unfold dh_pass_b4
      exact Tc_t (by rw [q1.2.2.1 2 (by decide), hN]; exact Int.le_refl _) (Tc_inr ⟨rfl, q1, q2, q3⟩)
  obtain ⟨r, e, w1, w2, w3, w4⟩ := hl
  refine ⟨up2 r.2.2 3 3 (M 3 3 + 1), ?_, ?_, rd_same, fun d hdd => ?_⟩
  · unfold dh_pass dh_pass_j94
    rw [e, Option.bind_some, w3, wr_i (by omega) (by omega), w1, hN]
    rfl
  · exact w2.tr ⟨fun c a1 _ _ _ _ => up2_ne a1, fun k _ => rd_a (by omega), fun k a => rd_k a, fun d k _ _ _ _ => rd_a (by omega)⟩
  · obtain ⟨p1, p2⟩ := w4 d (by omega)
    refine ⟨?_, fun q hq => ?_⟩
    · rw [← p1]; unfold dsC; rw [up2_ne (by omega), up2_ne (by omega)]
    · rw [up2_ne (by omega)]; exact p2 q hq
end
section
-- ===== MINUTES of both, side by side =====
/-- the class's cells out of M, the reference's out of N -/
def mrg (M N : MEM) : MEM := fun c => if c ≤ 277 then M c else N c
theorem mrg_lo {M N : MEM} {c : Nat} (h : c ≤ 277) : mrg M N c = M c := if_pos h
theorem mrg_hi {M N : MEM} {c : Nat} (h : 277 < c) : mrg M N c = N c := if_neg (by omega)
theorem snD.step {b d : Nat} {n t : Int} {e : EN} {M M' : MEM} (h : snD b 279 (55 * d) n t M) (he : clE e) (ht : 0 ≤ t) (ht1 : t ≤ 1000000000)
    (c1 : dsC b M' = (stepD e n d t (dsC b M)).1) (c2 : ∀ q : Nat, q < 40 → M' (b + 2) q = if (stepD e n d t (dsC b M)).1.2.2.1 ≠ M b 5 ∧ (q : Int) = (stepD e n d t (dsC b M)).1.2.2.1 % 40 then t else M (b + 2) q)
    (m1 : eqD n (dsM 279 (55 * d) M') (stepD e n d t (dsM 279 (55 * d) M)).1) (m2 : ∀ p : Nat, n ≤ (p : Int) → p < 12 → M' 279 (55 * d + 3 + p) = M 279 (55 * d + 3 + p))
    (m3 : ∀ q : Nat, q < 40 → M' 279 (55 * d + 15 + q) = if (stepD e n d t (dsM 279 (55 * d) M)).1.2.2.1 ≠ M 279 (55 * d + 2) ∧ (q : Int) = M 279 (55 * d + 2) % 40 then t else M 279 (55 * d + 15 + q)) :
    snD b 279 (55 * d) n (t + 1) M' := by
  obtain ⟨g1, g2, g3, g4, g5⟩ := h
  have hk0 : 0 ≤ M b 5 := g2.2.2.2.2.2.2.1
  have hcg := stepD_congr (e := e) (d := (d : Int)) (m := t) g2 g1
  have hok := stepD_ok (d := (d : Int)) (m := t) he g2 (by show M b 5 + 4 < _; omega)
  have hkk : (stepD e n d t (dsC b M)).1.2.2.1 = M b 5 ∨ (stepD e n d t (dsC b M)).1.2.2.1 = M b 5 + 1 := stepD_k he g2
  have ek : M b 5 = M 279 (55 * d + 2) := g1.2.2.1
  have ek' : (stepD e n d t (dsC b M)).1.2.2.1 = (stepD e n d t (dsM 279 (55 * d) M)).1.2.2.1 := hcg.1.2.2.1
  have k' : M' b 5 = (stepD e n d t (dsC b M)).1.2.2.1 := by rw [← c1]; rfl
  rw [← ek', ← ek] at m3
  refine ⟨?_, by rw [c1]; exact hok, fun p h1 h2 => by rw [m2 p h1 h2]; exact g3 p h1 h2, ?_, fun j hj1 hj2 hj3 => ?_⟩
  · rw [c1]
    obtain ⟨a1, a2, a3, a4⟩ := hcg.1
    obtain ⟨b1, b2, b3, b4⟩ := m1
    exact ⟨a1.trans b1.symm, a2.trans b2.symm, a3.trans b3.symm, fun p hp => (a4 p hp).trans (b4 p hp).symm⟩
  · rw [k']; omega
  · rw [k'] at hj2 hj3
    generalize (stepD e n d t (dsC b M)).1.2.2.1 = K at *
    rw [c2 (j % 40) (by omega), m3 ((j - 1) % 40) (by omega)]
    by_cases eq : K = M b 5
    · rw [if_neg (fun y => y.1 eq), if_neg (fun y => y.1 eq)]
      obtain ⟨q1, q2, q3⟩ := g5 j hj1 (by omega) (by omega)
      exact ⟨q1, q2, by omega⟩
    · by_cases ej : (j : Int) = K
      · rw [if_pos ⟨eq, by omega⟩, if_pos ⟨eq, by omega⟩]
        exact ⟨rfl, ht, by omega⟩
      · rw [if_neg (fun y => by have := y.2; omega), if_neg (fun y => by have := y.2; omega)]
        obtain ⟨q1, q2, q3⟩ := g5 j hj1 (by omega) (by omega)
        exact ⟨q1, q2, by omega⟩
/-- thistles left -/
def leftN (f : Nat → Int) (n : Int) : Int := sumN f n.toNat
theorem sumN_up1 {f : Nat → Int} {p : Nat} {x : Int} : ∀ {n : Nat}, p < n → sumN (up1 f p x) n = sumN f n + (x - f p) := by
  intro n
  induction n with
  | zero => intro h; omega
  | succ n ih =>
    intro h
    rw [sumN_S, sumN_S]
    by_cases e : p = n
    · subst e
      rw [sumN_congr (G := f) (fun i hi => by unfold up1; rw [if_neg (by omega)])]
      have : up1 f p x p = x := by unfold up1; rw [if_pos rfl]
      omega
    · rw [ih (by omega)]
      have : up1 f p x n = f n := by unfold up1; rw [if_neg (by omega)]
      omega
theorem oneD_left {n : Int} {s : DS} (h : okD n s) : leftN (oneD n s).1.2.2.2 n = leftN s.2.2.2 n - (if (oneD n s).2 = true then 1 else 0) := by
  have hx := nxt_in (n := n) (by have := h.1; omega) h.2.2.1 (p := s.1)
  rw [oneD_th, oneD_ate]
  unfold leftN
  by_cases e : 0 < s.2.2.2 (nxt n s.1).toNat
  · rw [if_pos e, if_pos (decide_eq_true e), sumN_up1 (by omega)]; omega
  · rw [if_neg e, if_neg (by simpa using e)]; omega
theorem walkD_left {n : Int} : ∀ (j : Nat) (s : DS), okD n s → s.2.2.1 + j < 1073741824 → leftN (walkD n j s).1.2.2.2 n = leftN s.2.2.2 n - (if (walkD n j s).2 = true then 1 else 0) := by
  intro j
  induction j with
  | zero => intro s _ _; show leftN s.2.2.2 n = leftN s.2.2.2 n - (if false = true then 1 else 0); rw [if_neg (by decide)]; omega
  | succ j ih =>
    intro s h hk
    have o := oneD_left h
    have hok := oneD_ok h (by omega)
    have hks := oneD_strokes n s
    rw [walkD_S]
    by_cases e : (oneD n s).2 = true
    · rw [if_pos e, o, if_pos e]
    · rw [if_neg e] at o
      rw [if_neg e, ih _ hok (by rw [hks]; split <;> omega), o]; omega
/-- both at the same MINUTE -/
def lock (B : Int) (M N : MEM) : Prop := pOk M ∧ rlOk N ∧ emOk N ∧ passE M = envM N ∧ C_D B (mrg M N) ∧ C_S (mrg M N)
theorem lock.pass {B : Int} {M N : MEM} (h : lock B M N) (hB : B ≤ 200000000) : passOk M ∧ goOk 279 N ∧ N 278 1 = M 3 2 ∧ N 279 165 = M 3 3 ∧ ∀ d : Nat, (d : Int) < M 3 2 → N 280 d = M (10 + 3 * d) 2 ∧ eqD (N 280 d) (dsC (10 + 3 * d) M) (dsM 279 (55 * d) N) ∧ okD (N 280 d) (dsC (10 + 3 * d) M) ∧ M (10 + 3 * d) 5 ≤ B := by
  obtain ⟨h1, h2, h3, h4, h5, h6⟩ := h
  obtain ⟨s1, s2, s3, s4, s5, s6⟩ := h6
  unfold C_D snS at h5
  rw [mrg_lo (c := 3) (by decide), mrg_hi (c := 279) (by decide), mrg_hi (c := 280) (by decide)] at h5
  rw [mrg_lo (c := 3) (by decide), mrg_hi (c := 278) (by decide)] at s1
  rw [mrg_lo (c := 3) (by decide)] at s2 s3 s6
  rw [mrg_hi (c := 280) (by decide)] at s6
  obtain ⟨t1, t2, t3, t4⟩ := h5
  rw [Nat.zero_add] at t1
  have all : ∀ d : Nat, (d : Int) < M 3 2 → N 280 d = M (10 + 3 * d) 2 ∧ eqD (N 280 d) (dsC (10 + 3 * d) M) (dsM 279 (55 * d) N) ∧ okD (N 280 d) (dsC (10 + 3 * d) M) ∧ M (10 + 3 * d) 5 ≤ B := fun d hd => by
    have hs := (s6 d hd).1
    rw [mrg_lo (by omega)] at hs
    obtain ⟨t5, t6⟩ := t4 d hd
    obtain ⟨g1, g2, g3, g4, g5⟩ := t6
    rw [show 3 + 7 + 3 * d = 10 + 3 * d by omega] at g1 g2 g4
    rw [Nat.zero_add] at g1
    have e1 : dsC (10 + 3 * d) (mrg M N) = dsC (10 + 3 * d) M := by unfold dsC; rw [mrg_lo (by omega), mrg_lo (by omega)]
    have e2 : dsM 279 (55 * d) (mrg M N) = dsM 279 (55 * d) N := by unfold dsM; rw [mrg_hi (by decide)]
    rw [e1, e2] at g1
    rw [e1] at g2
    rw [mrg_lo (by omega)] at g4
    exact ⟨hs, g1, g2, by omega⟩
  refine ⟨⟨s2, s3, h1, t2, by omega, fun d hd => ?_⟩, ⟨by omega, by omega, h2, h3, by omega, by omega, fun d hd => ?_⟩, s1, t1.symm, all⟩
  · obtain ⟨a1, a2, a3, a4⟩ := all d hd
    rw [← a1]
    exact ⟨a3, by omega⟩
  · obtain ⟨a1, a2, a3, a4⟩ := all d (by omega)
    refine ⟨okD_congr a2 a3, ?_⟩
    have : M (10 + 3 * d) 5 = N 279 (55 * d + 2) := a2.2.2.1
    omega
theorem lock.step {B : Int} {M N : MEM} (h : lock B M N) (hB : B ≤ 200000000) : ∃ (M' N' : MEM) (A S : Nat → Bool) (K : Nat → Int), dh_pass M = some (bitsP A S (M 3 2).toNat, M') ∧ mo_goMinute 279 N = some N' ∧ lock (B + 1) M' N' ∧ offW M M' ∧ offG 279 N N' ∧
    N' 278 26 = bitsI A (M 3 2).toNat ∧ N' 278 27 = bitsI S (M 3 2).toNat ∧ N' 278 24 = sumN K (M 3 2).toNat ∧ M' 3 3 = M 3 3 + 1 ∧
    ∀ d : Nat, (d : Int) < M 3 2 → N' 287 d = K d ∧ M' (10 + 3 * d) 5 = M (10 + 3 * d) 5 + K d ∧ 0 ≤ K d ∧ K d ≤ 1 ∧ leftN (M' (10 + 3 * d + 1)) (M (10 + 3 * d) 2) = leftN (M (10 + 3 * d + 1)) (M (10 + 3 * d) 2) - (if A d = true then 1 else 0) := by
  obtain ⟨p1, p2, p3, p4, hall⟩ := h.pass hB
  obtain ⟨M', e1, o1, t1, w1⟩ := pass_eq p1
  obtain ⟨N', e2, o2, t2, w2, w3, b26, b27, b24, -⟩ := mo_go (Or.inl rfl) p2
  obtain ⟨l1, l2, l3, l4, l5, l6⟩ := h
  obtain ⟨q1, q2, q3, q4, q5, q6⟩ := p1
  obtain ⟨s1, s2, s3, s4, s5, s6⟩ := l6
  have M32 : M' 3 2 = M 3 2 := o1.2.2.1 2 (by decide)
  have N280 : N' 280 = N 280 := o2.1 280 (by decide) (by decide) (by decide)
  -- both take the same step
  have same : ∀ d : Nat, (d : Int) < M 3 2 → eqD (N 280 d) (stepW M d).1 (rowR 279 (envM N) N d).1 ∧ (stepW M d).2 = (rowR 279 (envM N) N d).2 ∧ stoodW M d = stoodB 279 (envM N) N d ∧ ((stepW M d).1.2.2.1 = M (10 + 3 * d) 5 ∨ (stepW M d).1.2.2.1 = M (10 + 3 * d) 5 + 1) := fun d hd => by
    obtain ⟨a1, a2, a3, a4⟩ := hall d hd
    have hc := stepD_congr (e := passE M) (d := (d : Int)) (m := M 3 3) a3 a2
    have hk := stepD_k (e := passE M) (d := (d : Int)) (m := M 3 3) (passE_cl M) a3
    unfold stepW rowR stoodW stoodB
    rw [← a1, p4, ← l4]
    refine ⟨hc.1, hc.2, ?_, hk⟩
    unfold paceD
    rw [gvD_congr a3.2.2.1 a3.2.2.2.1 a2]
  have mk : ∀ d : Nat, (d : Int) < M 3 2 → M (10 + 3 * d) 5 = N 279 (55 * d + 2) := fun d hd => (hall d hd).2.1.2.2.1
  have M2 : ∀ d : Nat, (d : Int) < M 3 2 → M' (10 + 3 * d) 2 = M (10 + 3 * d) 2 := fun d hd => o1.2.2.2 d 2 (by omega) (by decide) (by decide) (by decide)
  refine ⟨M', N', fun d => (stepW M d).2, stoodW M, rowK 279 (envM N) N, e1, e2, ⟨o1.pOk l1, o2.rl (Or.inl rfl) l2, o2.em (Or.inl rfl) l3, by rw [o1.env, o2.env (Or.inl rfl)]; exact l4, ?_, ?_⟩, o1, o2, ?_, ?_, ?_, t1, fun d hd => ?_⟩
  · -- the DONKEYS
    unfold C_D snS at l5 ⊢
    rw [mrg_lo (c := 3) (by decide), mrg_hi (c := 279) (by decide), mrg_hi (c := 280) (by decide)] at l5 ⊢
    obtain ⟨c1, c2, c3, c4⟩ := l5
    rw [M32, N280, t1]
    rw [Nat.zero_add] at c1 ⊢
    refine ⟨by rw [t2, p4], by omega, by omega, fun d hd => ?_⟩
    obtain ⟨c5, c6⟩ := c4 d hd
    obtain ⟨r1, r2, r3, r4⟩ := w2 d (by omega)
    obtain ⟨v1, v2⟩ := w1 d hd
    obtain ⟨a1, a2, a3, a4⟩ := hall d hd
    rw [show 3 + 7 + 3 * d = 10 + 3 * d by omega] at c5 c6 ⊢
    rw [Nat.zero_add] at c6 ⊢
    rw [mrg_lo (by omega)] at c5 ⊢
    refine ⟨by rw [M2 d hd]; exact c5, ?_⟩
    have f1 : dsC (10 + 3 * d) (mrg M N) = dsC (10 + 3 * d) M := by unfold dsC; rw [mrg_lo (by omega), mrg_lo (by omega)]
    have f1' : dsC (10 + 3 * d) (mrg M' N') = dsC (10 + 3 * d) M' := by unfold dsC; rw [mrg_lo (by omega), mrg_lo (by omega)]
    have f2 : dsM 279 (55 * d) (mrg M N) = dsM 279 (55 * d) N := by unfold dsM; rw [mrg_hi (by decide)]
    have f2' : dsM 279 (55 * d) (mrg M' N') = dsM 279 (55 * d) N' := by unfold dsM; rw [mrg_hi (by decide)]
    have eW : stepD (passE M) (N 280 d) d (M 3 3) (dsC (10 + 3 * d) M) = stepW M d := by unfold stepW; rw [← a1]
    have eR : stepD (passE M) (N 280 d) d (M 3 3) (dsM 279 (55 * d) N) = rowR 279 (envM N) N d := by unfold rowR; rw [p4, l4]
    refine snD.step c6 (passE_cl M) c2 (by omega) ?_ (fun q hq => ?_) ?_ (fun p hp1 hp2 => ?_) (fun q hq => ?_)
    · rw [f1, f1', eW]; exact v1
    · rw [f1, eW, mrg_lo (by omega), mrg_lo (by omega), mrg_lo (by omega)]; exact v2 q hq
    · rw [f2, f2', eR]; exact r1
    · rw [mrg_hi (by decide), mrg_hi (by decide)]; exact r2 p hp1 hp2
    · rw [f2, eR, mrg_hi (by decide), mrg_hi (by decide), ← p4]; exact r3 q hq
  · unfold C_S
    rw [mrg_lo (c := 3) (by decide), mrg_hi (c := 278) (by decide)] at s1 ⊢
    rw [mrg_hi (c := 278) (by decide)] at s4 s5
    rw [mrg_lo (c := 3) (by decide)] at s2 s3 s5 s6
    rw [mrg_hi (c := 280) (by decide)] at s6 ⊢
    rw [o2.2 1 (by omega), o2.2 51 (by omega), M32, N280]
    refine ⟨s1, s2, s3, s4, s5, fun d hd => ?_⟩
    obtain ⟨a1, a2, a3⟩ := s6 d hd
    rw [mrg_lo (by omega)] at a1 ⊢
    rw [M2 d hd]
    exact ⟨a1, a2, a3⟩
  · rw [b26, p3]; exact (bitsI_congr (fun i hi => (same i (by omega)).2.1)).symm
  · rw [b27, p3]; exact (bitsI_congr (fun i hi => (same i (by omega)).2.2.1)).symm
  · rw [b24, p3]
  · obtain ⟨r1, r2, r3, r4⟩ := w2 d (by omega)
    obtain ⟨v1, v2⟩ := w1 d hd
    obtain ⟨y1, y2, y3, y4⟩ := same d hd
    obtain ⟨a1, a2, a3, a4⟩ := hall d hd
    have k5 : M' (10 + 3 * d) 5 = (stepW M d).1.2.2.1 := by rw [← v1]; rfl
    have kR : (stepW M d).1.2.2.1 = (rowR 279 (envM N) N d).1.2.2.1 := y1.2.2.1
    have hK : rowK 279 (envM N) N d = (stepW M d).1.2.2.1 - M (10 + 3 * d) 5 := by
      unfold rowK
      rw [← kR, ← mk d hd]
      split <;> omega
    refine ⟨r4, by rw [k5, hK]; omega, by rw [hK]; omega, by rw [hK]; omega, ?_⟩
    have hb := passE_cl M (gvD (passE M) d (M 3 3) (dsC (10 + 3 * d) M))
    have hb' : (paceD (passE M) d (M 3 3) (dsC (10 + 3 * d) M)) ≤ 4 := hb.2
    have := walkD_left (n := N 280 d) (paceD (passE M) d (M 3 3) (dsC (10 + 3 * d) M)).toNat (dsC (10 + 3 * d) M) a3 (by show M (10 + 3 * d) 5 + _ < _; omega)
    have e5 : M' (10 + 3 * d + 1) = (stepW M d).1.2.2.2 := by rw [← v1]; rfl
    rw [e5]
    have key : ∀ n, N 280 d = n → leftN (stepD (passE M) n d (M 3 3) (dsC (10 + 3 * d) M)).1.2.2.2 n = leftN (M (10 + 3 * d + 1)) n - (if (stepD (passE M) n d (M 3 3) (dsC (10 + 3 * d) M)).2 = true then 1 else 0) := by
      rintro _ rfl
      exact this
    exact key _ a1
end
section
-- ===== minute =====
theorem sumN_add {F G K : Nat → Int} : ∀ {n : Nat}, (∀ i, i < n → G i = F i + K i) → sumN G n = sumN F n + sumN K n := by
  intro n
  induction n with
  | zero => intro _; rfl
  | succ n ih =>
    intro h
    rw [sumN_S, sumN_S, sumN_S, ih (fun i hi => h i (by omega)), h n (by omega)]
    omega
theorem strokes_eq {M : MEM} (h0 : 0 ≤ M 3 2) (h1 : M 3 2 ≤ 3) (hb : ∀ d : Nat, (d : Int) < M 3 2 → 0 ≤ M (10 + 3 * d) 5 ∧ M (10 + 3 * d) 5 ≤ 300000000) :
    sc_allStrokes 3 M = some (sumN (fun d => M (10 + 3 * d) 5) (M 3 2).toNat) := by
  obtain ⟨N, hN⟩ : ∃ N : Nat, M 3 2 = (N : Int) := ⟨(M 3 2).toNat, by omega⟩
  have hl : Tc (iter (fun s => sc_allStrokes_b4 3 s.1 s.2 M) FU (0, 0)) (fun r => r.1 = sumN (fun d => M (10 + 3 * d) 5) N) := by
    refine Tc_n (fun i s => s.1 = sumN (fun d => M (10 + 3 * d) 5) i ∧ s.2 = (i : Int)) N ⟨rfl, rfl⟩ (by omega) (fun i s hi hI => ?_) (fun s hI => ?_)
    · obtain ⟨x, z⟩ := s
      obtain ⟨rfl, rfl⟩ := hI
      dsimp only
      have b := sumN_bd (F := fun d => M (10 + 3 * d) 5) (a := 0) (b := 300000000) (n := i) (fun j hj => hb j (by omega))
      have b1 := hb i (by omega)
      have w : wr (sumN (fun d => M (10 + 3 * d) 5) i + M (10 + 3 * i) 5) = sumN (fun d => M (10 + 3 * d) 5) (i + 1) := by rw [sumN_S]; exact wr_i (by omega) (by omega)
      unfold sc_allStrokes_b4
      rw [toNat_c, show 3 + 7 + 3 * i = 10 + 3 * i by omega, w]
      exact Tc_f (by omega) (Tc_f (by omega) (Tc_t (by omega) (Tc_inl ⟨rfl, (wr_i (by omega) (by omega)).trans (by omega)⟩)))
    · obtain ⟨x, z⟩ := s
      obtain ⟨rfl, rfl⟩ := hI
      unfold sc_allStrokes_b4
      exact Tc_t (by rw [hN]; exact Int.le_refl _) (Tc_inr rfl)
  obtain ⟨r, e, h⟩ := hl
  unfold sc_allStrokes
  rw [e, Option.bind_some, h, hN]
  rfl
/-- what can be undone, laid by: class -/
def hC (wc : Int) (M M8 : MEM) : Prop := copyS (usc M (M 45 2).toNat) 3 M8 M ∧ copyC (usc M (M 45 2).toNat + 2) 5 M8 M ∧ M8 (usc M (M 45 2).toNat) 5 = wc ∧
  (∀ c, c ≠ 45 → (c < usc M (M 45 2).toNat ∨ usc M (M 45 2).toNat + 16 ≤ c) → M8 c = M c) ∧ M8 45 2 = (if M 45 2 = 10 then 10 else M 45 2 + 1) ∧ M8 45 1 = (if M 45 2 = 10 then (M 45 1 + 1) % 11 else M 45 1)
theorem hist_class {B : Int} {M : MEM} {wc : Int} (h : Rel B M) (hw : wc = 0 ∨ wc = 1) : ∃ M6 M8, hi_prepare 3 wc M = some M6 ∧ hi_commit M6 = some M8 ∧ hC wc M M8 := by
  obtain ⟨s1, s2, s3, s3a, s3b, s4⟩ := h.S
  obtain ⟨u1, u2, u3, u4, u5, u6⟩ := h.U
  have hu := usc_in (i := (M 45 2).toNat) u1 u2 (by omega)
  obtain ⟨M6, e6, k1, k2, k3, k4⟩ := prepare_eq (wc := wc) u1 u2 u4 u5 s2 s3 hw
  have e45 : M6 45 = M 45 := k4 45 (by omega)
  obtain ⟨M8, e8, g1, g2, g3⟩ := commit_eq (M := M6) (by rw [e45]; exact u1) (by rw [e45]; exact u2) (by rw [e45]; exact u4) (by rw [e45]; exact u5)
  rw [e45] at g1 g2
  refine ⟨M6, M8, e6, e8, ?_, ?_, ?_, fun c c1 c2 => by rw [g3 c c1, k4 c c2], g1, g2⟩
  · refine ⟨by rw [g3 _ (by omega)]; exact k1.1, by rw [g3 _ (by omega)]; exact k1.2.1, fun d hd => ?_⟩
    rw [g3 _ (by omega), g3 _ (by omega), g3 _ (by omega)]
    exact k1.2.2 d hd
  · refine ⟨by rw [g3 _ (by omega)]; exact k2.1, fun q i x1 x2 hi => ?_⟩
    rw [g3 _ (by omega)]
    exact k2.2 q i x1 x2 hi
  · rw [g3 _ (by omega)]; exact k3
theorem hC.chg {wc : Int} {M M8 : MEM} (h : hC wc M M8) (u1 : 0 ≤ M 45 1) (u2 : M 45 1 < 11) (u4 : M 45 2 ≤ 10) : chg [8] M M8 := fun a k n => by
  have hu := usc_in (i := (M 45 2).toNat) u1 u2 (by omega)
  by_cases e : 45 ≤ a ∧ a ≤ 222
  · exact absurd (by rw [rg_U e.1 e.2]; decide) n
  · rw [h.2.2.2.1 a (by omega) (by omega)]
/-- the same: reference -/
def hM (wc : Int) (N N5 : MEM) : Prop := N5 278 31 = (if N 278 31 = 10 then 10 else N 278 31 + 1) ∧ (∀ c, c ≠ 278 → c ≠ 288 → c ≠ 289 → N5 c = N c) ∧ (∀ k, k ≠ 31 → N5 278 k = N 278 k) ∧
  ∀ j : Nat, (j : Int) = (if N 278 31 = 10 then 9 else N 278 31) → ((∀ i, i < 166 → N5 288 (208 * j + i) = N 279 i) ∧ N5 288 (208 * j + 166) = N 278 7 ∧ (∀ i, i < 40 → N5 288 (208 * j + 167 + i) = N 282 i) ∧ N5 288 (208 * j + 207) = wc) ∧
    ∀ i' : Nat, i' < j → ∀ q, q < 208 → N5 288 (208 * i' + q) = N 288 (208 * (if N 278 31 = 10 then i' + 1 else i') + q)
theorem aside_eq {N : MEM} {wc : Int} (hw : wc = 0 ∨ wc = 1) : ∃ N3, mo_layAside wc N = some N3 ∧ (∀ c, c ≠ 289 → N3 c = N c) ∧ (∀ i, i < 166 → N3 289 i = N 279 i) ∧ N3 289 166 = N 278 7 ∧ (∀ i, i < 40 → N3 289 (167 + i) = N 282 i) ∧ N3 289 207 = wc := by
  obtain ⟨N2, e2, ⟨l1, l2, l3⟩, l4, l5⟩ := layAll_eq (a := 289) (k := 0) (M := N) (Or.inl rfl) (by show 0 + 207 ≤ 208; decide)
  have e2' : mo_layAll 289 0 N = some N2 := e2
  have go : mo_layAside wc N = some (up2 N2 289 207 wc) := by
    unfold mo_layAside mo_layAside_j25
    rw [e2', Option.bind_some]
    rcases hw with rfl | rfl
    · rw [if_pos rfl, if_pos (by decide)]; rfl
    · rw [if_neg (by decide), if_pos (by decide)]; rfl
  refine ⟨_, go, fun c hc => by rw [up2_ne hc]; exact l4 c hc, fun i hi => ?_, ?_, fun i hi => ?_, rd_same⟩
  · rw [rd_k (by omega)]; have := l1 i hi; rw [Nat.zero_add] at this; exact this
  · rw [rd_k (by omega)]; exact l2
  · rw [rd_k (by omega)]; have := l3 i hi; rw [Nat.zero_add] at this; exact this
theorem hM_of {wc : Int} {N N3 : MEM} (h0 : 0 ≤ N 278 31) (h1 : N 278 31 ≤ 10) (a1 : ∀ c, c ≠ 278 → c ≠ 289 → N3 c = N c) (a1' : ∀ k, N3 278 k = N 278 k) (a2 : ∀ i, i < 166 → N3 289 i = N 279 i) (a3 : N3 289 166 = N 278 7) (a4 : ∀ i, i < 40 → N3 289 (167 + i) = N 282 i) (a5 : N3 289 207 = wc) : ∃ N5, mo_remember N3 = some N5 ∧ hM wc N N5 := by
  obtain ⟨N5, e5, r1, r2, r3, r4⟩ := remember_eq (M := N3) (by rw [a1']; exact h0) (by rw [a1']; exact h1)
  rw [a1'] at r1 r4
  refine ⟨N5, e5, r1, fun c c1 c2 c3 => by rw [r2 c c1 c2, a1 c c1 c3], fun k hk => by rw [r3 k hk, a1'], fun j hj => ?_⟩
  obtain ⟨q1, q2⟩ := r4 j hj
  refine ⟨⟨fun i hi => by rw [q1 i (by omega), a2 i hi], by rw [q1 166 (by omega), a3], fun i hi => ?_, by rw [q1 207 (by omega), a5]⟩, fun i' hi' q hq => by rw [q2 i' hi' q hq, a1 288 (by decide) (by decide)]⟩
  rw [Nat.add_assoc, q1 _ (by omega), a4 i hi]
theorem hist_mo {wc : Int} {N : MEM} (h0 : 0 ≤ N 278 31) (h1 : N 278 31 ≤ 10) (hw : wc = 0 ∨ wc = 1) : ∃ N3 N5, mo_layAside wc N = some N3 ∧ mo_remember N3 = some N5 ∧ hM wc N N5 := by
  obtain ⟨N3, e3, a1, a2, a3, a4, a5⟩ := aside_eq (N := N) hw
  obtain ⟨N5, e5, h⟩ := hM_of (N3 := N3) h0 h1 (fun c _ c2 => a1 c c2) (fun k => by rw [a1 278 (by decide)]) a2 a3 a4 a5
  exact ⟨N3, N5, e3, e5, h⟩
theorem rg_288 (k : Nat) : rg 288 k = 8 := rfl
theorem rg_289 (k : Nat) : rg 289 k = 0 := rfl
theorem hM.chg {wc : Int} {N N5 : MEM} (h : hM wc N N5) : chg [0, 8] N N5 := fun a k n => by
  by_cases e1 : a = 288
  · subst e1; exact absurd (by rw [rg_288]; decide) n
  · by_cases e2 : a = 289
    · subst e2; exact absurd (by rw [rg_289]; decide) n
    · by_cases e3 : a = 278
      · subst e3
        refine h.2.2.1 k (fun e => n ?_)
        subst e; decide
      · rw [h.2.1 a e3 e1 e2]
theorem hist_U {B : Int} {M M8 N N5 M' : MEM} {wc : Int} (h : Rel B M) (hw : wc = 0 ∨ wc = 1) (hc : hC wc M M8) (hm : hM wc N N5) (n1 : N 279 = M 279) (n2 : N 282 = M 282) (n3 : N 278 7 = M 278 7) (n4 : N 278 31 = M 278 31) (n5 : N 288 = M 288)
    (f1 : M' 45 = M8 45) (f2 : ∀ c, 47 ≤ c → c ≤ 222 → M' c = M8 c) (f3 : M' 288 = N5 288) (f4 : M' 278 31 = N5 278 31) (f5 : M' 3 2 = M 3 2) (f6 : M' 280 = M 280) : C_U B M' := by
  obtain ⟨s1, s2, s3, s3a, s3b, s4⟩ := h.S
  obtain ⟨u1, u2, u3, u4, u5, u6⟩ := h.U
  have hu := usc_in (i := (M 45 2).toNat) u1 u2 (by omega)
  obtain ⟨c1, c2, c3, c4, c5, c6⟩ := hc
  obtain ⟨m1, m2, m3, m4⟩ := hm
  rw [n4] at m1 m4
  refine U_more (wc := wc) h.U h.D h.C s3 hw ?_ ?_ ?_ (fun c a b d => by rw [f2 c a b, c4 c (by omega) d]) (by rw [f1]; exact c5) (by rw [f1]; exact c6) f5 f6 (by rw [f4]; exact m1) (fun j hj => ?_)
  · refine ⟨by rw [f2 _ (by omega) (by omega)]; exact c1.1, by rw [f2 _ (by omega) (by omega)]; exact c1.2.1, fun d hd => ?_⟩
    rw [f2 _ (by omega) (by omega), f2 _ (by omega) (by omega), f2 _ (by omega) (by omega)]
    exact c1.2.2 d hd
  · refine ⟨by rw [f2 _ (by omega) (by omega)]; exact c2.1, fun q i x1 x2 hi => ?_⟩
    rw [f2 _ (by omega) (by omega)]
    exact c2.2 q i x1 x2 hi
  · rw [f2 _ (by omega) (by omega)]; exact c3
  · rw [f3]
    have := m4 j hj
    rw [n1, n2, n3, n5] at this
    exact this
theorem lock_of {B : Int} {M M1 N : MEM} (h : Rel B M) (c1 : chg [0, 8, 10] M M1) (c2 : chg [0, 4, 8, 10] M N) (c3 : ∀ a k, 277 < a → rg a k = 4 → N a k = M a k) : lock B M1 N := by
  have nC : ∀ {M2 : MEM}, chg [0, 4, 8, 10] M M2 → C_F M2 ∧ C_C M2 ∧ C_N M2 ∧ rlOk M2 := fun {M2} c => ⟨h.F.cg (c.same fun x hx => by rw [hx]; decide), h.C.cg (c.same fun x hx => by rw [hx]; decide), h.N.cg (c.same fun x hx => by rw [hx]; decide), h.R.cg (fun a k hr => c a k (by rw [hr]; decide))⟩
  obtain ⟨a1, a2, a3, a4⟩ := nC (c1.sub (by decide))
  obtain ⟨b1, b2, b3, b4⟩ := nC c2
  obtain ⟨d1, d2, d3, d4⟩ := eOk_of (f := 224) a1 a2 (th0 (Or.inl rfl) a3) a4
  have m8 : M 278 8 = 0 := h.N.2.2.2.2.2.1
  have m7 : M 278 7 ≤ 10 := h.C.2.2.1
  have hs : ∀ a k, (rg a k = 4 ∨ rg a k = 12) → mrg M1 N a k = M a k := fun a k hr => by
    have hn : rg a k ∉ [0, 8, 10] := by rcases hr with e | e <;> rw [e] <;> decide
    by_cases e : a ≤ 277
    · rw [mrg_lo e]; exact c1 a k hn
    · rw [mrg_hi (by omega)]
      rcases hr with e' | e'
      · exact c3 a k (by omega) e'
      · exact c2 a k (by rw [e']; decide)
  refine ⟨⟨d1, d2, d4⟩, b4, em_of (f := 224) b1 b2 (th0 (Or.inl rfl) b3), ?_, h.D.cg h.S.2.2.1 hs, h.S.cg (fun a k e => hs a k (Or.inr e))⟩
  rw [passE_alike a1 a2 a3 a4, chg_env c1 (by decide) (by decide) (by decide) (by decide) m8 m7, chg_env c2 (by decide) (by decide) (by decide) (by decide) m8 m7]
theorem offW.chg {M M' : MEM} (h : offW M M') : chg [0, 4] M M' := fun a k n => by
  by_cases e3 : a = 3
  · subst e3
    refine h.2.2.1 k (fun e => n ?_)
    subst e; decide
  · by_cases e10 : 10 ≤ a ∧ a ≤ 18
    · by_cases e2 : k ≠ 2 ∨ (a ≠ 10 ∧ a ≠ 13 ∧ a ≠ 16)
      · exact absurd (by rw [rg_D e10.1 e10.2 e2]; decide) n
      · have : k = 2 := by omega
        subst this
        obtain ⟨d, rfl⟩ : ∃ d, a = 10 + 3 * d := ⟨(a - 10) / 3, by omega⟩
        exact h.2.2.2 d 2 (by omega) (by decide) (by decide) (by decide)
    · by_cases e21 : a = 21
      · subst e21
        refine h.2.1 k (fun e => n ?_)
        subst e; decide
      · by_cases e23 : a = 23
        · subst e23; exact absurd (by decide : (0 : Nat) ∈ [0, 4]) n
        · by_cases e24 : a = 24
          · subst e24; exact absurd (by decide : (0 : Nat) ∈ [0, 4]) n
          · rw [h.1 a e3 (by omega) e21 e23 e24]
theorem offG.chg {M M' : MEM} (h : offG 279 M M') : chg [0, 4] M M' := fun a k n => by
  by_cases e1 : a = 279
  · subst e1; exact absurd (by rw [rg_279]; decide) n
  · by_cases e2 : a = 278
    · subst e2
      by_cases z : (14 ≤ k ∧ k ≤ 28 ∧ k ≠ 21) ∨ k = 38
      · exact absurd (by rw [rg278 z]; decide) n
      · exact h.2 k (by omega)
    · by_cases e3 : a = 287
      · subst e3; exact absurd (by decide : (0 : Nat) ∈ [0, 4]) n
      · rw [h.1 a e1 e2 e3]
/-- what stands in lock is alike, behind the row too -/
theorem lock.out {B : Int} {M N M' : MEM} (h : lock B M N) (h1 : ∀ a k, a ≤ 277 → (rg a k = 4 ∨ rg a k = 12) → M' a k = M a k) (h2 : ∀ a k, 277 < a → (rg a k = 4 ∨ rg a k = 12) → M' a k = N a k) : C_D B M' := by
  obtain ⟨l1, l2, l3, l4, l5, l6⟩ := h
  refine l5.cg l6.2.2.1 (fun a k hr => ?_)
  by_cases e : a ≤ 277
  · rw [mrg_lo e]; exact h1 a k e hr
  · rw [mrg_hi (by omega)]; exact h2 a k (by omega) hr
theorem Rel.up {B B' : Int} {M : MEM} (h : Rel B M) (hB : B ≤ B') : Rel B' M := h.go hB (L := []) chg.rf (by decide) (fun q => absurd q (by decide)) (fun q => absurd q (by decide)) (fun q => absurd q (by decide)) (fun q => absurd q (by decide)) (fun q => absurd q (by decide)) (fun q => absurd q (by decide)) (fun q => absurd q (by decide)) (fun q => absurd q (by decide)) (fun q => absurd q (by decide)) (fun q => absurd q (by decide)) (fun q => absurd q (by decide))
theorem rgW {a k b j : Nat} (h : rg a k = 4 ∨ rg a k = 12) (g : ¬ (rg b j = 4 ∨ rg b j = 12)) : a ≠ b ∨ k ≠ j := by
  by_cases e : a = b
  · by_cases e2 : k = j
    · subst e e2; exact absurd h g
    · exact Or.inr e2
  · exact Or.inl e
theorem c_minute {B : Int} {M : MEM} (h : Rel B M) (hB : B ≤ 100000000) : Lk (B + 1) (dh_minute M) mo_minute := by
  obtain ⟨s1, s2, s3, s3a, s3b, s4⟩ := h.S
  obtain ⟨u1, u2, u3, u4, u5, u6⟩ := h.U
  have hu := usc_in (i := (M 45 2).toNat) u1 u2 (by omega)
  obtain ⟨M6, M8, e6, e8, hc⟩ := hist_class (wc := 0) h (Or.inl rfl)
  have cC := hc.chg u1 u2 u5
  have M8c : ∀ c, (c < 45 ∨ 222 < c) → M8 c = M c := fun c hcc => hc.2.2.2.1 c (by omega) (by omega)
  have lk0 : lock B M8 M := lock_of h (cC.sub (by decide)) chg.rf (fun _ _ _ _ => rfl)
  obtain ⟨p0, -, -, -, hall⟩ := lk0.pass (by omega)
  have M832 : M8 3 = M 3 := M8c 3 (by omega)
  have hB0 : ∀ d : Nat, (d : Int) < M 3 2 → 0 ≤ M (10 + 3 * d) 5 ∧ M (10 + 3 * d) 5 ≤ 200000000 := fun d hd => by
    obtain ⟨a1, a2, a3, a4⟩ := hall d (by rw [M832]; exact hd)
    have e : M8 (10 + 3 * d) = M (10 + 3 * d) := M8c _ (by omega)
    rw [e] at a4
    have : 0 ≤ M8 (10 + 3 * d) 5 := a3.2.2.2.2.2.2.1
    rw [e] at this
    omega
  obtain ⟨M9, N9, A, S, K, p1, -, lk1, p4, -, -, -, -, p9, p10⟩ := lk0.step (by omega)
  rw [M832] at p1 p10
  have M932 : M9 3 2 = M 3 2 := by rw [p4.2.2.1 2 (by decide), M832]
  have hN3 : (M 3 2).toNat ≤ 3 := by omega
  have hbe := bits_end (A := A) (S := S) hN3
  obtain ⟨M14, e14, w14, o14⟩ := newRow_eq M9
  obtain ⟨M16, e16, w16, o16⟩ := tell_eq (bitsI A (M 3 2).toNat) w14 (by decide)
  obtain ⟨M18, e18, w18, o18⟩ := tell_eq (bitsI S (M 3 2).toNat) w16 (by simp)
  have o9 : offC M9 M18 := (o14.tr o16).tr o18
  have M18c : ∀ c, c ≠ 0 → c ≠ 245 → M18 c = M9 c := fun c c1 c2 => o9.cell c1 c2
  have hk : ∀ d : Nat, (d : Int) < M 3 2 → M18 (10 + 3 * d) 5 = M (10 + 3 * d) 5 + K d ∧ 0 ≤ K d ∧ K d ≤ 1 := fun d hd => by
    obtain ⟨a1, a2, a3, a4, a5⟩ := p10 d hd
    rw [M18c _ (by omega) (by omega), a2, M8c _ (by omega)]
    exact ⟨rfl, a3, a4⟩
  unfold Lk dh_minute
  have r2 := strokes_eq s2 s3 (fun d hd => by have := hB0 d hd; omega)
  have r20 : sc_allStrokes 3 M18 = some (sumN (fun d => M18 (10 + 3 * d) 5) (M 3 2).toNat) := by
    have e3 : M18 3 2 = M 3 2 := by rw [M18c 3 (by decide) (by decide)]; exact M932
    have := strokes_eq (M := M18) (by rw [e3]; exact s2) (by rw [e3]; exact s3) (fun d hd => by rw [e3] at hd; have := hB0 d hd; have := hk d hd; omega)
    rw [e3] at this
    exact this
  refine Tc_e r2 (Tc_e e6 (Tc_e e8 (Tc_e p1 (Tc_e e14 ?_))))
  dsimp only
  rw [hbe.1, hbe.2]
  refine Tc_e e16 (Tc_e e18 (Tc_e r20 (Tc_some ?_)))
  dsimp only
  -- the reference
  have Mhi : ∀ c, 277 < c → M18 c = M c := fun c hcc => by rw [M18c c (by omega) (by omega), p4.1 c (by omega) (by omega) (by omega) (by omega) (by omega), M8c c (by omega)]
  have e31 : up2 M18 278 13 0 278 31 = M 278 31 := by rw [rd_k (by decide), Mhi 278 (by omega)]
  obtain ⟨N3, N5, f3, f5, hm⟩ := hist_mo (wc := 0) (N := up2 M18 278 13 0) (by rw [e31]; omega) (by rw [e31]; omega) (Or.inl rfl)
  have cN : chg [0, 4, 8, 10] M N5 := ((((cC.sub (by decide)).tr (p4.chg.sub (by decide))).tr (o9.chg.sub (by decide))).up (by decide)).tr (hm.chg.sub (by decide))
  have N5hi : ∀ c, 277 < c → c ≠ 278 → c ≠ 288 → c ≠ 289 → N5 c = M c := fun c a1 a2 a3 a4 => by rw [hm.2.1 c a2 a3 a4, up2_ne a2, Mhi c a1]
  have lkr : lock B M8 N5 := lock_of h (cC.sub (by decide)) cN (fun a k ha hr => by
    by_cases e : a = 278
    · subst e
      rw [hm.2.2.1 k (fun z => by subst z; revert hr; decide), rd_k (fun z => by subst z; revert hr; decide), Mhi 278 ha]
    · rw [N5hi a ha e (fun z => by subst z; revert hr; rw [rg_288]; decide) (fun z => by subst z; revert hr; rw [rg_289]; decide)])
  obtain ⟨M9', N7, A', S', K', y1, y2, lk2, y4, y5, y6, y7, y8, y9, y10⟩ := lkr.step (by omega)
  rw [M832] at y1 y6 y7 y8 y10
  have eqp : (bitsP A S (M 3 2).toNat, M9) = (bitsP A' S' (M 3 2).toNat, M9') := Option.some.inj (p1.symm.trans y1)
  have eM9 : M9 = M9' := congrArg Prod.snd eqp
  have eb : bitsP A S (M 3 2).toNat = bitsP A' S' (M 3 2).toNat := congrArg Prod.fst eqp
  subst eM9
  have hbe' := bits_end (A := A') (S := S') hN3
  rw [← eb, hbe.1, hbe.2] at hbe'
  rw [← hbe'.1] at y6
  rw [← hbe'.2] at y7
  have eK : ∀ d, d < (M 3 2).toNat → K' d = K d := fun d hd => by
    have a := (p10 d (by omega)).2.1
    have b := (y10 d (by omega)).2.1
    omega
  rw [sumN_congr eK] at y8
  obtain ⟨x8, o8⟩ := moRow0 N7
  have r26 : up2 N7 278 12 0 278 26 = bitsI A (M 3 2).toNat := by rw [rd_k (by decide)]; exact y6
  obtain ⟨N10, e10, x10, o10⟩ := moTell_eq (bitsI A (M 3 2).toNat) x8 (by decide)
  have r27 : N10 278 27 = bitsI S (M 3 2).toNat := by rw [o10 278 27 (Or.inr (by decide)) (by decide), rd_k (by decide)]; exact y7
  obtain ⟨N12, e12, x12, o12⟩ := moTell_eq (bitsI S (M 3 2).toNat) x10 (by simp)
  have oN : offX N7 N12 := (o8.tr o10).tr o12
  have r24 : N12 278 24 = sumN K (M 3 2).toNat := by rw [oN 278 24 (Or.inr (by decide)) (by decide)]; exact y8
  unfold mo_minute
  refine Tc_u (Tc_e f3 (Tc_e f5 (Tc_e y2 (Tc_u ?_))))
  rw [r26]
  refine Tc_e e10 ?_
  rw [r27]
  refine Tc_e e12 (Tc_some ⟨?_, ?_⟩)
  · dsimp only
    have b1 := sumN_bd (F := fun d => M (10 + 3 * d) 5) (a := 0) (b := 200000000) (n := (M 3 2).toNat) (fun j hj => hB0 j (by omega))
    have b2 := sumN_bd (F := K) (a := 0) (b := 1) (n := (M 3 2).toNat) (fun j hj => by have := hk j (by omega); omega)
    rw [r24, sumN_add (F := fun d => M (10 + 3 * d) 5) (K := K) (fun d hd => (hk d (by omega)).1)]
    rw [wr_i (by omega) (by omega)]
    omega
  · dsimp only
    have cF : chg [0, 4, 8, 10] M N12 := (cN.tr (y5.chg.sub (by decide))).tr (oN.chg.sub (by decide))
    have lo : ∀ c, c ≤ 277 → N12 c = M18 c := fun c hcc => by rw [oN.cell (by omega) (by omega), y5.1 c (by omega) (by omega) (by omega), hm.2.1 c (by omega) (by omega) (by omega), up2_ne (by omega)]
    refine h.go (by omega) cF (by decide) (fun q => absurd q (by decide)) (fun q => absurd q (by decide)) (fun q => absurd q (by decide)) (fun _ => ?_) (fun q => absurd q (by decide)) (fun q => absurd q (by decide)) (fun q => absurd q (by decide)) (fun _ => ?_) (fun q => absurd q (by decide)) (fun _ => ?_) (fun q => absurd q (by decide))
    · refine lk2.out (fun a k ha hr => ?_) (fun a k ha hr => ?_)
      · rw [lo a ha]
        exact o9 a k (rgW hr (by decide)) (fun z => by subst z; revert hr; rw [show rg 245 k = 10 from rfl]; decide)
      · refine oN a k (rgW hr (by decide)) (fun z => by subst z; revert hr; rw [show rg 284 k = 10 from rfl]; decide)
    · have hU : C_U B N12 := hist_U h (Or.inl rfl) hc hm (by rw [up2_ne (by decide), Mhi 279 (by decide)]) (by rw [up2_ne (by decide), Mhi 282 (by decide)]) (by rw [rd_k (by decide), Mhi 278 (by decide)]) e31 (by rw [up2_ne (by decide), Mhi 288 (by decide)])
        (by rw [lo 45 (by decide), M18c 45 (by decide) (by decide), p4.1 45 (by decide) (by decide) (by decide) (by decide) (by decide)]) (fun c a b => by rw [lo c (by omega), M18c c (by omega) (by omega), p4.1 c (by omega) (by omega) (by omega) (by omega) (by omega)])
        (by rw [oN.cell (by decide) (by decide), y5.1 288 (by decide) (by decide) (by decide)]) (by rw [oN 278 31 (Or.inr (by decide)) (by decide), y5.2 31 (by omega)]) (by rw [cF 3 2 (by decide)]) (cF.row (fun k => (by decide : 12 ∉ [0, 4, 8, 10])))
      exact hU.cg (by omega) (by rw [cF 3 2 (by decide)]; exact s3) (fun _ _ _ => rfl)
    · exact W_of (w18.off (by rw [lo 0 (by decide)]) (lo 245 (by decide))) x12 (by simp)
end
section
-- ===== minutes =====
theorem allTh_eq {b : Nat} {M : MEM} {n : Int} (hn : M b 2 = n) (h0 : 0 ≤ n) (h1 : n ≤ 12) (hb : ∀ p : Nat, (p : Int) < n → 0 ≤ M (b + 1) p ∧ M (b + 1) p ≤ 9) : be_allThistles b M = some (leftN (M (b + 1)) n) := by
  obtain ⟨N, rfl⟩ : ∃ N : Nat, n = (N : Int) := ⟨n.toNat, by omega⟩
  have hl : Tc (iter (fun s => be_allThistles_b4 b s.1 s.2 M) FU (0, 0)) (fun r => r.1 = sumN (M (b + 1)) N) := by
    refine Tc_n (fun i s => s.1 = sumN (M (b + 1)) i ∧ s.2 = (i : Int)) N ⟨rfl, rfl⟩ (by omega) (fun i s hi hI => ?_) (fun s hI => ?_)
    · obtain ⟨x, z⟩ := s
      obtain ⟨rfl, rfl⟩ := hI
      dsimp only
      have b0 := sumN_bd (F := M (b + 1)) (a := 0) (b := 9) (n := i) (fun j hj => hb j (by omega))
      have b1 := hb i (by omega)
      have w : wr (sumN (M (b + 1)) i + M (b + 1) i) = sumN (M (b + 1)) (i + 1) := by rw [sumN_S]; exact wr_i (by omega) (by omega)
      have e : be_thistlesOn b (i : Int) M = some (M (b + 1) i) := by
        unfold be_thistlesOn
        rw [if_neg (by omega), if_neg (by omega), if_pos (by omega), toNat_c]
      unfold be_allThistles_b4
      refine Tc_f (by omega) (Tc_e e ?_)
      rw [w]
      exact Tc_inl ⟨rfl, (wr_i (by omega) (by omega)).trans (by omega)⟩
    · obtain ⟨x, z⟩ := s
      obtain ⟨rfl, rfl⟩ := hI
      unfold be_allThistles_b4
      exact Tc_t (by rw [hn]; exact Int.le_refl _) (Tc_inr rfl)
  obtain ⟨r, e, h⟩ := hl
  unfold be_allThistles leftN
  rw [e, Option.bind_some, h]
  rfl
/-- all thistles left -/
def allL (M : MEM) (N : Nat) : Int := sumN (fun d => leftN (M (10 + 3 * d + 1)) (M (10 + 3 * d) 2)) N
theorem leftN_bd {f : Nat → Int} {n : Int} (h0 : 0 ≤ n) (h1 : n ≤ 12) (hb : ∀ p : Nat, (p : Int) < n → 0 ≤ f p ∧ f p ≤ 9) : 0 ≤ leftN f n ∧ leftN f n ≤ 108 := by
  have b0 := sumN_bd (F := f) (a := 0) (b := 9) (n := n.toNat) (fun j hj => hb j (by omega))
  unfold leftN
  omega
theorem thistles_eq {M : MEM} (h0 : 0 ≤ M 3 2) (h1 : M 3 2 ≤ 3) (hb : ∀ d : Nat, (d : Int) < M 3 2 → okD (M (10 + 3 * d) 2) (dsC (10 + 3 * d) M)) : sc_allThistles 3 M = some (allL M (M 3 2).toNat) ∧ 0 ≤ allL M (M 3 2).toNat ∧ allL M (M 3 2).toNat ≤ 324 := by
  obtain ⟨N, hN⟩ : ∃ N : Nat, M 3 2 = (N : Int) := ⟨(M 3 2).toNat, by omega⟩
  have one : ∀ d : Nat, d < N → 0 ≤ leftN (M (10 + 3 * d + 1)) (M (10 + 3 * d) 2) ∧ leftN (M (10 + 3 * d + 1)) (M (10 + 3 * d) 2) ≤ 108 := fun d hd => by
    have q := hb d (by omega)
    exact leftN_bd (by have := q.1; omega) q.2.1 q.2.2.2.2.2.2.2.2
  have hl : Tc (iter (fun s => sc_allThistles_b4 3 s.1 s.2 M) FU (0, 0)) (fun r => r.1 = allL M N) := by
    refine Tc_n (fun i s => s.1 = allL M i ∧ s.2 = (i : Int)) N ⟨rfl, rfl⟩ (by omega) (fun i s hi hI => ?_) (fun s hI => ?_)
    · obtain ⟨x, z⟩ := s
      obtain ⟨rfl, rfl⟩ := hI
      dsimp only
      have b0 := sumN_bd (F := fun d => leftN (M (10 + 3 * d + 1)) (M (10 + 3 * d) 2)) (a := 0) (b := 108) (n := i) (fun j hj => one j (by omega))
      have b1 := one i hi
      have w : wr (allL M i + leftN (M (10 + 3 * i + 1)) (M (10 + 3 * i) 2)) = allL M (i + 1) := by unfold allL; rw [sumN_S]; exact wr_i (by omega) (by omega)
      have q := hb i (by omega)
      have e := allTh_eq (b := 10 + 3 * i) (M := M) rfl (by have := q.1; omega) q.2.1 q.2.2.2.2.2.2.2.2
      unfold sc_allThistles_b4
      rw [toNat_c, show 3 + 7 + 3 * i = 10 + 3 * i by omega]
      refine Tc_f (by omega) (Tc_f (by omega) (Tc_t (by omega) (Tc_e e ?_)))
      rw [w]
      exact Tc_inl ⟨rfl, (wr_i (by omega) (by omega)).trans (by omega)⟩
    · obtain ⟨x, z⟩ := s
      obtain ⟨rfl, rfl⟩ := hI
      unfold sc_allThistles_b4
      exact Tc_t (by rw [hN]; exact Int.le_refl _) (Tc_inr rfl)
  obtain ⟨r, e, h⟩ := hl
  have b0 := sumN_bd (F := fun d => leftN (M (10 + 3 * d + 1)) (M (10 + 3 * d) 2)) (a := 0) (b := 108) (n := N) (fun j hj => one j (by omega))
  refine ⟨?_, ?_, ?_⟩
  · unfold sc_allThistles
    rw [e, Option.bind_some, h, hN]
    rfl
  · rw [hN]; show 0 ≤ sumN _ N; omega
  · rw [hN]; show sumN _ N ≤ 324; omega
theorem bitCount_eq {A : Nat → Bool} {n : Nat} (h : n ≤ 3) : ji_bitCount (bitsI A n) = sumN (fun d => if A d = true then 1 else 0) n := by
  have h3 : n = 0 ∨ n = 1 ∨ n = 2 ∨ n = 3 := by omega
  have v : ∀ x : Int, (x = 0 ∨ x = 1 ∨ x = 2 ∨ x = 3 ∨ x = 4 ∨ x = 5 ∨ x = 6 ∨ x = 7) → ji_bitCount x = (if x = 0 then 0 else if x = 1 ∨ x = 2 ∨ x = 4 then 1 else if x = 7 then 3 else 2) := fun x hx => by
    unfold ji_bitCount
    simp only [ish_def, wr_def]
    rcases hx with rfl | rfl | rfl | rfl | rfl | rfl | rfl | rfl <;> decide
  rcases h3 with rfl | rfl | rfl | rfl
  · simp only [bitsI, sumN]; rw [v 0 (by decide)]; decide
  · simp only [bitsI, sumN, w2]
    cases A 0 <;> (rw [v _ (by decide)]; decide)
  · simp only [bitsI, sumN, w2]
    cases A 0 <;> cases A 1 <;> (rw [v _ (by decide)]; decide)
  · simp only [bitsI, sumN, w2]
    cases A 0 <;> cases A 1 <;> cases A 2 <;> (rw [v _ (by decide)]; decide)
theorem lock.cgN {B : Int} {M N N' : MEM} (h : lock B M N) (c : ∀ a, a ≠ 290 → N' a = N a) : lock B M N' := by
  obtain ⟨l1, l2, l3, l4, l5, l6⟩ := h
  have g : offG 279 N N' ∨ True := Or.inr trivial
  have c290 : ∀ a k, rg a k ≠ 0 → N' a k = N a k := fun a k hr => by rw [c a (fun e => by subst e; exact hr rfl)]
  have hs : ∀ a k, rg a k ≠ 0 → mrg M N' a k = mrg M N a k := fun a k hr => by
    by_cases e : a ≤ 277
    · rw [mrg_lo e, mrg_lo e]
    · rw [mrg_hi (by omega), mrg_hi (by omega)]; exact c290 a k hr
  refine ⟨l1, l2.cg (fun a k hr => c290 a k (by rw [hr]; decide)), ?_, ?_, l5.cg l6.2.2.1 (fun a k hr => hs a k (by rcases hr with e | e <;> rw [e] <;> decide)), l6.cg (fun a k hr => hs a k (by rw [hr]; decide))⟩
  · unfold emOk howOkM at *
    rw [c 282 (by decide), c 278 (by decide)]
    exact l3
  · rw [l4]
    unfold envM flM hrM hrF
    rw [c 21 (by decide), c 22 (by decide), c 281 (by decide), c 282 (by decide), c 278 (by decide)]
noncomputable def passN (M : MEM) : Nat → MEM
  | 0 => M
  | j + 1 => match dh_pass (passN M j) with
    | some p => p.2
    | none => passN M j
theorem passN_S {M M' : MEM} {j : Nat} {x : Int} (h : dh_pass (passN M j) = some (x, M')) : passN M (j + 1) = M' := by
  show (match dh_pass (passN M j) with | some p => p.2 | none => passN M j) = M'
  rw [h]
theorem lock.seq {B : Int} {M N : MEM} {x : Nat} (h : lock B M N) (hB : B + x ≤ 200000000) : ∀ j : Nat, j ≤ x → (∃ Nj, lock (B + j) (passN M j) Nj) ∧ offW M (passN M j) ∧ (∃ b, dh_pass (passN M j) = some (b, passN M (j + 1))) := by
  intro j
  induction j with
  | zero =>
    intro _
    obtain ⟨M', N', A, S, K, p1, p2, p3, p4, -⟩ := h.step (by omega)
    refine ⟨⟨N, by rw [show (B + ((0 : Nat) : Int)) = B by omega]; exact h⟩, offW.rf, ?_⟩
    rw [passN_S (M := M) (j := 0) p1]
    exact ⟨_, p1⟩
  | succ j ih =>
    intro hj
    obtain ⟨⟨Nj, hl⟩, ho, ⟨b, hb⟩⟩ := ih (by omega)
    obtain ⟨M', N', A, S, K, p1, p2, p3, p4, -⟩ := hl.step (by omega)
    have e := passN_S p1
    rw [← e] at p3 p4
    have p3' : lock (B + ((j + 1 : Nat) : Int)) (passN M (j + 1)) N' := by rw [show B + ((j + 1 : Nat) : Int) = B + j + 1 by omega]; exact p3
    obtain ⟨M2, N2, A2, S2, K2, r1, -⟩ := p3'.step (by omega)
    refine ⟨⟨N', p3'⟩, ho.tr p4, ?_⟩
    rw [passN_S r1]
    exact ⟨_, r1⟩
theorem passMany_eq {B : Int} {M N : MEM} {x : Nat} (h : lock B M N) (hB : B + x ≤ 200000000) (hx : x < 1000000) : dh_passMany (x : Int) M = some (passN M x) := by
  have hl : Tc (iter (fun s => dh_passMany_b2 (x : Int) s.1 s.2) FU (0, M)) (fun r => r.2 = passN M x) := by
    refine Tc_n (fun i s => s.1 = (i : Int) ∧ s.2 = passN M i) x ⟨rfl, rfl⟩ hx (fun i s hi hI => ?_) (fun s hI => ?_)
    · obtain ⟨z, M1⟩ := s
      obtain ⟨rfl, rfl⟩ := hI
      obtain ⟨-, -, ⟨b, hb⟩⟩ := h.seq hB i (by omega)
      unfold dh_passMany_b2
      exact Tc_f (by omega) (Tc_e hb (Tc_inl ⟨(wr_i (by omega) (by omega)).trans (by omega), rfl⟩))
    · obtain ⟨z, M1⟩ := s
      obtain ⟨rfl, rfl⟩ := hI
      unfold dh_passMany_b2
      exact Tc_t (Int.le_refl _) (Tc_inr rfl)
  obtain ⟨r, e, h⟩ := hl
  unfold dh_passMany
  rw [e, Option.bind_some, h]
/-- how many STROKES since -/
noncomputable def dif (M : MEM) (j d : Nat) : Int := passN M j (10 + 3 * d) 5 - M (10 + 3 * d) 5
theorem dif_S {M M' : MEM} {K : Nat → Int} {j : Nat} (e : passN M (j + 1) = M') {d : Nat} (h : M' (10 + 3 * d) 5 = passN M j (10 + 3 * d) 5 + K d) : dif M (j + 1) d = dif M j d + K d := by
  unfold dif
  rw [e, h]; omega
def offO (N N' : MEM) : Prop := (∀ c, c ≠ 279 → c ≠ 278 → c ≠ 287 → c ≠ 290 → N' c = N c) ∧ ∀ k, (k < 14 ∨ 28 < k ∨ (19 ≤ k ∧ k ≤ 21)) → N' 278 k = N 278 k
theorem offO.rf {M : MEM} : offO M M := ⟨fun _ _ _ _ _ => rfl, fun _ _ => rfl⟩
theorem offO.tr {M M1 M2 : MEM} (h : offO M M1) (g : offO M1 M2) : offO M M2 := ⟨fun c a b d e => (g.1 c a b d e).trans (h.1 c a b d e), fun k a => (g.2 k a).trans (h.2 k a)⟩
theorem offG.O {M M' : MEM} (h : offG 279 M M') : offO M M' := ⟨fun c a b d _ => h.1 c a b d, fun k a => h.2 k a⟩
theorem off290 {M M' : MEM} (h : ∀ c, c ≠ 290 → M' c = M c) : offO M M' := ⟨fun c _ _ _ d => h c d, fun k _ => by rw [h 278 (by decide)]⟩
theorem offO.chg {M M' : MEM} (h : offO M M') : chg [0, 4] M M' := fun a k n => by
  by_cases e1 : a = 279
  · subst e1; exact absurd (by rw [rg_279]; decide) n
  · by_cases e2 : a = 278
    · subst e2
      by_cases z : (14 ≤ k ∧ k ≤ 28 ∧ k ≠ 21) ∨ k = 38
      · exact absurd (by rw [rg278 z]; decide) n
      · exact h.2 k (by omega)
    · by_cases e3 : a = 287
      · subst e3; exact absurd (by decide : (0 : Nat) ∈ [0, 4]) n
      · by_cases e4 : a = 290
        · subst e4; exact absurd (by decide : (0 : Nat) ∈ [0, 4]) n
        · rw [h.1 a e1 e2 e3 e4]
theorem sums_eq {N : MEM} {n : Nat} {x1 x2 x3 x4 : Int} (hn : N 278 1 = (n : Int)) (h3 : n ≤ 3) (hb : ∀ d, d < n → 0 ≤ N 290 d ∧ N 290 d ≤ 1000000 ∧ 0 ≤ N 287 d ∧ N 287 d ≤ 1) :
    ∃ N' z, iter (fun s => mo_minutes_b95 x1 x2 x3 x4 s.1 s.2) FU (0, N) = some (z, N') ∧ (∀ c, c ≠ 290 → N' c = N c) ∧ ∀ d, d < n → N' 290 d = N 290 d + N 287 d := by
  have hl : Tc (iter (fun s => mo_minutes_b95 x1 x2 x3 x4 s.1 s.2) FU (0, N)) (fun r => (∀ c, c ≠ 290 → r.2 c = N c) ∧ ∀ d, d < n → r.2 290 d = N 290 d + N 287 d) := by
    refine Tc_n (fun i s => s.1 = (i : Int) ∧ (∀ c, c ≠ 290 → s.2 c = N c) ∧ (∀ d, d < i → s.2 290 d = N 290 d + N 287 d) ∧ ∀ d, i ≤ d → s.2 290 d = N 290 d) n ⟨rfl, fun _ _ => rfl, fun d hd => by omega, fun _ _ => rfl⟩ (by omega) (fun i s hi hI => ?_) (fun s hI => ?_)
    · obtain ⟨z, M1⟩ := s
      obtain ⟨rfl, q1, q2, q3⟩ := hI
      dsimp only at q1 q2 q3 ⊢
      have e1 : M1 278 1 = (n : Int) := by rw [q1 278 (by decide)]; exact hn
      have e7 : M1 287 i = N 287 i := by rw [q1 287 (by decide)]
      obtain ⟨b1, b2, b3, b4⟩ := hb i hi
      have w : wr (M1 290 i + M1 287 i) = N 290 i + N 287 i := by rw [q3 i (by omega), e7]; exact wr_i (by omega) (by omega)
      unfold mo_minutes_b95
      rw [toNat_c, w]
      refine Tc_f (by omega) (Tc_t (by omega) (Tc_t (by omega) (Tc_t (by omega) (Tc_u (Tc_inl ⟨(wr_i (by omega) (by omega)).trans (by omega), fun c hc => ?_, fun d hd => ?_, fun d hd => ?_⟩)))))
      · dsimp only; rw [up2_ne hc]; exact q1 c hc
      · dsimp only
        by_cases e : d = i
        · subst e; exact rd_same
        · rw [rd_k e]; exact q2 d (by omega)
      · dsimp only; rw [rd_k (by omega)]; exact q3 d (by omega)
    · obtain ⟨z, M1⟩ := s
      obtain ⟨rfl, q1, q2, q3⟩ := hI
      dsimp only at q1 q2
      unfold mo_minutes_b95
      exact Tc_t (by show M1 278 1 ≤ (n : Int); rw [q1 278 (by decide), hn]; exact Int.le_refl _) (Tc_inr ⟨q1, q2⟩)
  obtain ⟨r, e, q1, q2⟩ := hl
  exact ⟨r.2, r.1, e, q1, q2⟩
/-- the reference's MINUTES: behind j of them -/
def minsAt (B : Int) (M N0 : MEM) (n : Nat) (j : Nat) (x2 x3 : Int) (N : MEM) : Prop := lock (B + j) (passN M j) N ∧ offO N0 N ∧ x2 = sumN (dif M j) n ∧ x3 = allL M n - allL (passN M j) n ∧ ∀ d, d < n → N 290 d = dif M j d ∧ 0 ≤ dif M j d ∧ dif M j d ≤ j
theorem mins_step {B : Int} {M N0 N : MEM} {n j : Nat} {x x2 x3 : Int} (hn : M 3 2 = (n : Int)) (h3 : n ≤ 3) (hB : B + j ≤ 199000000) (hj : j < 600) (hx : (j : Int) < x) (ho : offW M (passN M j)) (hT : 0 ≤ allL M n ∧ allL M n ≤ 324) (h : minsAt B M N0 n j x2 x3 N) :
    ∃ x2' x3' N', mo_minutes_b61 x x2 x3 j N = some (.inl (x2', x3', ((j + 1 : Nat) : Int), N')) ∧ minsAt B M N0 n (j + 1) x2' x3' N' := by
  obtain ⟨h1, h2, rfl, rfl, h5⟩ := h
  have hnj : passN M j 3 2 = (n : Int) := by rw [ho.2.2.1 2 (by decide)]; exact hn
  have hpl : ∀ d, d < n → passN M j (10 + 3 * d) 2 = M (10 + 3 * d) 2 := fun d hd => ho.2.2.2 d 2 (by omega) (by decide) (by decide) (by decide)
  obtain ⟨M', N', A, S, K, p1, p2, p3, p4, p5, p6, p7, p8, p9, p10⟩ := h1.step (by omega)
  rw [hnj, show ((n : Nat) : Int).toNat = n from Int.toNat_natCast n] at p6 p8
  have ep := passN_S p1
  rw [← ep] at p3 p4 p9 p10
  have e278 : N' 278 1 = (n : Int) := by
    obtain ⟨l1, l2, l3, l4, l5, l6⟩ := p3
    have := l6.1
    rw [mrg_hi (by decide), mrg_lo (by decide)] at this
    rw [this, p4.2.2.1 2 (by decide)]; exact hnj
  have e290 : ∀ d, N' 290 d = N 290 d := fun d => by rw [p5.1 290 (by decide) (by decide) (by decide)]
  have hd' : ∀ d, d < n → dif M (j + 1) d = dif M j d + K d := fun d hd => dif_S rfl (p10 d (by omega)).2.1
  obtain ⟨N2, z, e2, q1, q2⟩ := sums_eq (N := N') (n := n) (x1 := x) (x2 := wr (sumN (dif M j) n + N' 278 24)) (x3 := wr (allL M n - allL (passN M j) n + ji_bitCount (N' 278 26))) (x4 := (j : Int)) e278 h3 (fun d hd => by
    obtain ⟨a1, a2, a3⟩ := h5 d hd
    obtain ⟨b1, b2, b3, b4, b5⟩ := p10 d (by omega)
    rw [e290, b1, a1]
    omega)
  have s1 := sumN_bd (F := dif M j) (a := 0) (b := (j : Int)) (n := n) (fun d hd => ⟨(h5 d hd).2.1, (h5 d hd).2.2⟩)
  have s2 := sumN_bd (F := K) (a := 0) (b := 1) (n := n) (fun d hd => by have := p10 d (by omega); omega)
  have s2' : (j : Int) * (n : Int) ≤ (j : Int) * 3 := Int.mul_le_mul_of_nonneg_left (by omega) (by omega)
  have eAll : allL (passN M j) n = allL (passN M (j + 1)) n + sumN (fun d => if A d = true then 1 else 0) n := by
    unfold allL
    refine sumN_add (fun d hd => ?_)
    obtain ⟨b1, b2, b3, b4, b5⟩ := p10 d (by omega)
    have e : passN M (j + 1) (10 + 3 * d) 2 = passN M j (10 + 3 * d) 2 := p4.2.2.2 d 2 (by omega) (by decide) (by decide) (by decide)
    rw [e, b5]; omega
  have tj := (thistles_eq (M := passN M j) (by omega) (by omega) (fun d hd => ((h1.pass (by omega)).1.2.2.2.2.2 d hd).1)).2
  have tj1 := (thistles_eq (M := passN M (j + 1)) (by rw [p4.2.2.1 2 (by decide)]; omega) (by rw [p4.2.2.1 2 (by decide)]; omega) (fun d hd => ((p3.pass (by omega)).1.2.2.2.2.2 d hd).1)).2
  rw [hnj, show ((n : Nat) : Int).toNat = n from Int.toNat_natCast n] at tj
  rw [p4.2.2.1 2 (by decide), hnj, show ((n : Nat) : Int).toNat = n from Int.toNat_natCast n] at tj1
  have w2 : wr (sumN (dif M j) n + N' 278 24) = sumN (dif M (j + 1)) n := by
    rw [p8, sumN_add (F := dif M j) (K := K) hd']
    exact wr_i (by omega) (by omega)
  have w3 : wr (allL M n - allL (passN M j) n + ji_bitCount (N' 278 26)) = allL M n - allL (passN M (j + 1)) n := by
    rw [p6, bitCount_eq h3]
    rw [wr_i (by omega) (by omega)]
    omega
  refine ⟨_, _, N2, ?_, ?_, ?_, rfl, rfl, fun d hd => ?_⟩
  · unfold mo_minutes_b61
    rw [if_neg (by omega), p2, Option.bind_some, e2, Option.bind_some, w2, w3, wr_i (x := (j : Int) + 1) (by omega) (by omega)]
    rfl
  · rw [show B + ((j + 1 : Nat) : Int) = B + j + 1 by omega]
    exact p3.cgN q1
  · exact (h2.tr p5.O).tr (off290 q1)
  · obtain ⟨a1, a2, a3⟩ := h5 d hd
    obtain ⟨b1, b2, b3, b4, b5⟩ := p10 d (by omega)
    rw [q2 d hd, e290, b1, a1, hd' d hd]
    exact ⟨rfl, by omega, by omega⟩
end
section
-- ===== minutes, the call =====
def lstN (e : Int) (f : Nat → Int) (i : Nat) : List Int := e :: (List.range i).map f
theorem lstN_S (e : Int) (f : Nat → Int) (i : Nat) : lstN e f i ++ [f i] = lstN e f (i + 1) := by simp [lstN, List.range_succ]
theorem lstN_len (e : Int) (f : Nat → Int) (i : Nat) : (lstN e f i).length = i + 1 := by simp [lstN]
theorem tally_eq {M : MEM} {n : Nat} {x1 x2 x3 : Int} (hn : M 3 2 = (n : Int)) (h3 : n ≤ 3) : ∃ M' z, iter (fun s => dh_minutes_b55 x1 x2 x3 s.1 s.2) FU (0, M) = some (z, M') ∧ (∀ c, c ≠ 244 → M' c = M c) ∧ ∀ d, d < n → M' 244 d = M (10 + 3 * d) 5 := by
  have hl : Tc (iter (fun s => dh_minutes_b55 x1 x2 x3 s.1 s.2) FU (0, M)) (fun r => (∀ c, c ≠ 244 → r.2 c = M c) ∧ ∀ d, d < n → r.2 244 d = M (10 + 3 * d) 5) := by
    refine Tc_n (fun i s => s.1 = (i : Int) ∧ (∀ c, c ≠ 244 → s.2 c = M c) ∧ ∀ d, d < i → s.2 244 d = M (10 + 3 * d) 5) n ⟨rfl, fun _ _ => rfl, fun d hd => by omega⟩ (by omega) (fun i s hi hI => ?_) (fun s hI => ?_)
    · obtain ⟨z, M1⟩ := s
      obtain ⟨rfl, q1, q2⟩ := hI
      dsimp only at q1 q2 ⊢
      have e32 : M1 3 2 = (n : Int) := by rw [q1 3 (by decide)]; exact hn
      unfold dh_minutes_b55
      rw [toNat_c]
      refine Tc_f (by omega) (Tc_f (by omega) (Tc_t (by omega) (Tc_t (by omega) (Tc_u (Tc_inl ⟨(wr_i (by omega) (by omega)).trans (by omega), fun c hc => ?_, fun d hd => ?_⟩)))))
      · dsimp only; rw [up2_ne hc]; exact q1 c hc
      · dsimp only
        rw [q1 (10 + 3 * i) (by omega)]
        by_cases e : d = i
        · subst e; exact rd_same
        · rw [rd_k e]; exact q2 d (by omega)
    · obtain ⟨z, M1⟩ := s
      obtain ⟨rfl, q1, q2⟩ := hI
      dsimp only at q1 q2
      unfold dh_minutes_b55
      exact Tc_t (by show M1 3 2 ≤ (n : Int); rw [q1 3 (by decide), hn]; exact Int.le_refl _) (Tc_inr ⟨q1, q2⟩)
  obtain ⟨r, e, q1, q2⟩ := hl
  exact ⟨r.2, r.1, e, q1, q2⟩
theorem tells_eq {M : MEM} {n : Nat} {x2 e : Int} {f : Nat → Int} (hn : M 3 2 = (n : Int)) (h3 : n ≤ 3) (hw : rowC [e] M) (hf : ∀ d, d < n → wr (M (10 + 3 * d) 5 - M 244 d) = f d) : ∃ M' z, iter (fun s => dh_minutes_b124 x2 s.1 s.2) FU (0, M) = some (z, M') ∧ rowC (lstN e f n) M' ∧ offC M M' := by
  have hl : Tc (iter (fun s => dh_minutes_b124 x2 s.1 s.2) FU (0, M)) (fun r => rowC (lstN e f n) r.2 ∧ offC M r.2) := by
    refine Tc_n (fun i s => s.1 = (i : Int) ∧ rowC (lstN e f i) s.2 ∧ offC M s.2) n ⟨rfl, hw, fun _ _ _ _ => rfl⟩ (by omega) (fun i s hi hI => ?_) (fun s hI => ?_)
    · obtain ⟨z, M1⟩ := s
      obtain ⟨rfl, q1, q2⟩ := hI
      dsimp only at q1 q2 ⊢
      have e32 : M1 3 2 = (n : Int) := by rw [q2.cell (by decide) (by decide)]; exact hn
      obtain ⟨M2, e2, w2, o2⟩ := tell_eq (f i) q1 (by rw [lstN_len]; omega)
      unfold dh_minutes_b124
      rw [toNat_c, q2.cell (a := 10 + 3 * i) (by omega) (by omega), q2.cell (a := 244) (by decide) (by decide), hf i hi]
      exact Tc_f (by omega) (Tc_f (by omega) (Tc_t (by omega) (Tc_t (by omega) (Tc_e e2 (Tc_inl ⟨(wr_i (by omega) (by omega)).trans (by omega), by rw [← lstN_S]; exact w2, q2.tr o2⟩)))))
    · obtain ⟨z, M1⟩ := s
      obtain ⟨rfl, q1, q2⟩ := hI
      dsimp only at q1 q2
      unfold dh_minutes_b124
      exact Tc_t (by show M1 3 2 ≤ (n : Int); rw [q2.cell (by decide) (by decide), hn]; exact Int.le_refl _) (Tc_inr ⟨q1, q2⟩)
  obtain ⟨r, e, q1, q2⟩ := hl
  exact ⟨r.2, r.1, e, q1, q2⟩
theorem moTells_eq {N : MEM} {n : Nat} {x2 e : Int} {f : Nat → Int} (hn : N 278 1 = (n : Int)) (h3 : n ≤ 3) (hw : rowM [e] N) (hf : ∀ d, d < n → N 290 d = f d) : ∃ M' z, iter (fun s => mo_minutes_b146 x2 s.1 s.2) FU (0, N) = some (z, M') ∧ rowM (lstN e f n) M' ∧ offX N M' := by
  have hl : Tc (iter (fun s => mo_minutes_b146 x2 s.1 s.2) FU (0, N)) (fun r => rowM (lstN e f n) r.2 ∧ offX N r.2) := by
    refine Tc_n (fun i s => s.1 = (i : Int) ∧ rowM (lstN e f i) s.2 ∧ offX N s.2) n ⟨rfl, hw, fun _ _ _ _ => rfl⟩ (by omega) (fun i s hi hI => ?_) (fun s hI => ?_)
    · obtain ⟨z, M1⟩ := s
      obtain ⟨rfl, q1, q2⟩ := hI
      dsimp only at q1 q2 ⊢
      have e1 : M1 278 1 = (n : Int) := by rw [q2 278 1 (Or.inr (by decide)) (by decide)]; exact hn
      obtain ⟨M2, e2, w2, o2⟩ := moTell_eq (f i) q1 (by rw [lstN_len]; omega)
      unfold mo_minutes_b146
      rw [toNat_c, q2.cell (a := 290) (by decide) (by decide), hf i hi]
      exact Tc_f (by omega) (Tc_t (by omega) (Tc_e e2 (Tc_inl ⟨(wr_i (by omega) (by omega)).trans (by omega), by rw [← lstN_S]; exact w2, q2.tr o2⟩)))
    · obtain ⟨z, M1⟩ := s
      obtain ⟨rfl, q1, q2⟩ := hI
      dsimp only at q1 q2
      unfold mo_minutes_b146
      exact Tc_t (by show M1 278 1 ≤ (n : Int); rw [q2 278 1 (Or.inr (by decide)) (by decide), hn]; exact Int.le_refl _) (Tc_inr ⟨q1, q2⟩)
  obtain ⟨r, e, q1, q2⟩ := hl
  exact ⟨r.2, r.1, e, q1, q2⟩
theorem clear290 {N : MEM} {x1 x2 x3 : Int} : ∃ N' z, iter (fun s => mo_minutes_b38 x1 x2 x3 s.1 s.2) FU (0, N) = some (z, N') ∧ (∀ c, c ≠ 290 → N' c = N c) ∧ ∀ d, d < 3 → N' 290 d = 0 := by
  have hl : Tc (iter (fun s => mo_minutes_b38 x1 x2 x3 s.1 s.2) FU (0, N)) (fun r => (∀ c, c ≠ 290 → r.2 c = N c) ∧ ∀ d, d < 3 → r.2 290 d = 0) := by
    refine Tc_n (fun i s => s.1 = (i : Int) ∧ (∀ c, c ≠ 290 → s.2 c = N c) ∧ ∀ d, d < i → s.2 290 d = 0) 3 ⟨rfl, fun _ _ => rfl, fun d hd => by omega⟩ (by omega) (fun i s hi hI => ?_) (fun s hI => ?_)
    · obtain ⟨z, M1⟩ := s
      obtain ⟨rfl, q1, q2⟩ := hI
      dsimp only at q1 q2 ⊢
      unfold mo_minutes_b38
      rw [toNat_c]
      refine Tc_f (by omega) (Tc_t (by omega) (Tc_u (Tc_inl ⟨(wr_i (by omega) (by omega)).trans (by omega), fun c hc => ?_, fun d hd => ?_⟩)))
      · dsimp only; rw [up2_ne hc]; exact q1 c hc
      · dsimp only
        by_cases e : d = i
        · subst e; exact rd_same
        · rw [rd_k e]; exact q2 d (by omega)
    · obtain ⟨z, M1⟩ := s
      obtain ⟨rfl, q1, q2⟩ := hI
      unfold mo_minutes_b38
      exact Tc_t (by show (3 : Int) ≤ ((3 : Nat) : Int); decide) (Tc_inr ⟨q1, q2⟩)
  obtain ⟨r, e, q1, q2⟩ := hl
  exact ⟨r.2, r.1, e, q1, q2⟩
theorem mins_core {B : Int} {M M1 : MEM} {x : Nat} (h : Rel B M) (hB : B ≤ 100000000) (hx : x ≤ 600) (c1 : chg [0, 8, 10] M M1) (M1c : ∀ c, (c < 45 ∨ 222 < c) → M1 c = M c) :
    ∃ (rs : Int) (M18 : MEM), dh_minutes_j36 x M1 = some (rs, M18) ∧ (∀ c, 277 < c → M18 c = M c) ∧ chg [0, 4, 8, 10] M M18 ∧ (∀ c, 45 ≤ c → c ≤ 222 → M18 c = M1 c) ∧
      ∀ N5 : MEM, (∀ c, c ≤ 277 → N5 c = M18 c) → chg [0, 4, 8, 10] M N5 → (∀ a k, 277 < a → rg a k = 4 → N5 a k = M a k) → ∃ N', mo_minutes_j31 x N5 = some (rs, N') ∧ (∀ c, c ≤ 277 → N' c = M18 c) ∧ C_D (B + 600) N' ∧ C_W N' ∧ chg [0, 4, 8, 10] N5 N' ∧ N' 288 = N5 288 ∧ N' 278 31 = N5 278 31 := by
  obtain ⟨s1, s2, s3, s3a, s3b, s4⟩ := h.S
  obtain ⟨n, hn⟩ : ∃ n : Nat, M 3 2 = (n : Int) := ⟨(M 3 2).toNat, by omega⟩
  have h3 : n ≤ 3 := by omega
  have hn1 : M1 3 2 = (n : Int) := by rw [M1c 3 (by omega)]; exact hn
  have tn : ((n : Nat) : Int).toNat = n := Int.toNat_natCast n
  have lk1 : lock B M1 M := lock_of h c1 chg.rf (fun _ _ _ _ => rfl)
  have pk1 := (lk1.pass (by omega)).1
  obtain ⟨Mt, z, et, q1, q2⟩ := tally_eq (M := M1) (x1 := (x : Int)) (x2 := sumN (fun d => M1 (10 + 3 * d) 5) n) (x3 := allL M1 n) hn1 h3
  have cT : chg [0, 8, 10] M Mt := fun a k hr => by
    by_cases e : a = 244
    · subst e; exact absurd (by decide : (0 : Nat) ∈ [0, 8, 10]) hr
    · rw [q1 a e]; exact c1 a k hr
  have lkT : lock B Mt M := lock_of h cT chg.rf (fun _ _ _ _ => rfl)
  have hnt : Mt 3 2 = (n : Int) := by rw [q1 3 (by decide)]; exact hn1
  have kb : ∀ d : Nat, d < n → 0 ≤ M1 (10 + 3 * d) 5 ∧ M1 (10 + 3 * d) 5 ≤ 200000000 := fun d hd => by
    obtain ⟨a1, a2, a3, a4⟩ := (lk1.pass (by omega)).2.2.2.2 d (by omega)
    have : 0 ≤ M1 (10 + 3 * d) 5 := a3.2.2.2.2.2.2.1
    omega
  obtain ⟨⟨Nx, lkx⟩, ox, -⟩ := lkT.seq (x := x) (by omega) x (Nat.le_refl _)
  have pm := passMany_eq (x := x) lkT (by omega) (by omega)
  have hnx : passN Mt x 3 2 = (n : Int) := by rw [ox.2.2.1 2 (by decide)]; exact hnt
  -- what the reference counts, from any memory that fits
  have run : ∀ N0 : MEM, lock B Mt N0 → (∀ d, d < n → N0 290 d = 0) → ∀ j : Nat, j ≤ x → ∃ x2 x3 N, minsAt B Mt N0 n j x2 x3 N ∧ (0 ≤ allL Mt n ∧ allL Mt n ≤ 324) ∧ offW Mt (passN Mt j) := fun N0 hl h0 j hj => by
    have hT := (thistles_eq (M := Mt) (by omega) (by omega) (fun d hd => ((hl.pass (by omega)).1.2.2.2.2.2 d hd).1)).2
    rw [hnt, tn] at hT
    have ho : ∀ j, j ≤ x → offW Mt (passN Mt j) := fun j hj => (hl.seq (x := x) (by omega) j hj).2.1
    refine (?_ : ∃ x2 x3 N, minsAt B Mt N0 n j x2 x3 N).elim (fun x2 q => q.elim (fun x3 q => q.elim (fun N q => ⟨x2, x3, N, q, hT, ho j hj⟩)))
    induction j with
    | zero =>
      refine ⟨0, 0, N0, by rw [show B + ((0 : Nat) : Int) = B by omega]; exact hl, offO.rf, ?_, ?_, fun d hd => ?_⟩
      · rw [sumN_congr (G := fun _ => 0) (fun i hi => by unfold dif; show Mt _ 5 - Mt _ 5 = 0; omega)]
        have := sumN_bd (F := fun _ => 0) (a := 0) (b := 0) (n := n) (fun i hi => by omega)
        omega
      · show (0 : Int) = allL Mt n - allL Mt n; omega
      · have : dif Mt 0 d = 0 := by unfold dif; show Mt _ 5 - Mt _ 5 = 0; omega
        rw [h0 d hd, this]; omega
    | succ j ih =>
      obtain ⟨x2, x3, N, q⟩ := ih (by omega)
      obtain ⟨y2, y3, N', -, q'⟩ := mins_step (x := (x : Int)) hnt h3 (by omega) (by omega) (by omega) (ho j (by omega)) hT q
      exact ⟨y2, y3, N', q'⟩
  have bnd : (0 ≤ allL Mt n ∧ allL Mt n ≤ 324) ∧ ∀ d, d < n → 0 ≤ dif Mt x d ∧ dif Mt x d ≤ x := by
    have c290 : ∀ a, a ≠ 290 → (fun c => if c = 290 then fun _ => (0 : Int) else M c : MEM) a = M a := fun a ha => if_neg ha
    obtain ⟨x2, x3, N, q, hT, -⟩ := run _ (lkT.cgN c290) (fun d _ => by show (if (290 : Nat) = 290 then fun _ => (0 : Int) else M 290) d = 0; rw [if_pos rfl]) x (Nat.le_refl _)
    exact ⟨hT, fun d hd => (q.2.2.2.2 d hd).2⟩
  obtain ⟨hT, hdb⟩ := bnd
  have eT1 : allL M1 n = allL Mt n := by
    unfold allL
    exact sumN_congr (fun d hd => by rw [q1 _ (by omega), q1 _ (by omega)])
  have kt : ∀ d : Nat, d < n → Mt (10 + 3 * d) 5 = M1 (10 + 3 * d) 5 := fun d hd => by rw [q1 _ (by omega)]
  have r1 : sc_allStrokes 3 M1 = some (sumN (fun d => M1 (10 + 3 * d) 5) n) := by
    have := strokes_eq (M := M1) (by omega) (by omega) (fun d hd => by have := kb d (by omega); omega)
    rw [hn1, tn] at this
    exact this
  have r2 : sc_allThistles 3 M1 = some (allL M1 n) := by
    have := (thistles_eq (M := M1) (by omega) (by omega) (fun d hd => (pk1.2.2.2.2.2 d hd).1)).1
    rw [hn1, tn] at this
    exact this
  have pkx := (lkx.pass (by omega)).1
  generalize hMx : passN Mt x = Mx at *
  have hdif : ∀ d, dif Mt x d = Mx (10 + 3 * d) 5 - Mt (10 + 3 * d) 5 := fun d => by unfold dif; rw [hMx]
  obtain ⟨Ma, ea, wa, oa⟩ := newRow_eq Mx
  have r3 : sc_allThistles 3 Ma = some (allL Mx n) ∧ 0 ≤ allL Mx n ∧ allL Mx n ≤ 324 := by
    have e3 : Ma 3 2 = (n : Int) := by rw [oa.cell (by decide) (by decide)]; exact hnx
    have := thistles_eq (M := Ma) (by omega) (by omega) (fun d hd => by
      have e : dsC (10 + 3 * d) Ma = dsC (10 + 3 * d) Mx := by unfold dsC; rw [oa.cell (by omega) (by omega), oa.cell (by omega) (by omega)]
      rw [e, oa.cell (by omega) (by omega)]
      exact (pkx.2.2.2.2.2 d (by omega)).1)
    rw [e3, tn] at this
    have eL : allL Ma n = allL Mx n := by
      unfold allL
      exact sumN_congr (fun d hd => by rw [oa.cell (a := 10 + 3 * d + 1) (by omega) (by omega), oa.cell (a := 10 + 3 * d) (by omega) (by omega)])
    rw [eL] at this
    exact this
  obtain ⟨Mb, eb, wb, ob⟩ := tell_eq (allL Mt n - allL Mx n) wa (by decide)
  have oab := oa.tr ob
  obtain ⟨Mc, z2, ec, wc, oc⟩ := tells_eq (M := Mb) (x2 := sumN (fun d => M1 (10 + 3 * d) 5) n) (e := allL Mt n - allL Mx n) (f := dif Mt x) (n := n) (by rw [oab.cell (by decide) (by decide)]; exact hnx) h3 wb (fun d hd => by
    have a := hdb d hd
    rw [oab.cell (a := 10 + 3 * d) (by omega) (by omega), oab.cell (a := 244) (by decide) (by decide), ox.1 244 (by decide) (by decide) (by decide) (by decide) (by decide), q2 d hd, ← kt d hd, ← hdif d]
    exact wr_i (by omega) (by omega))
  have oall := oab.tr oc
  have b1 := sumN_bd (F := fun d => M1 (10 + 3 * d) 5) (a := 0) (b := 200000000) (n := n) (fun j hj => kb j hj)
  have b2 := sumN_bd (F := dif Mt x) (a := 0) (b := 600) (n := n) (fun j hj => by have := hdb j hj; omega)
  have kc : ∀ d, d < n → Mc (10 + 3 * d) 5 = M1 (10 + 3 * d) 5 + dif Mt x d := fun d hd => by
    rw [oall.cell (a := 10 + 3 * d) (by omega) (by omega), hdif d, kt d hd]; omega
  have r4 : sc_allStrokes 3 Mc = some (sumN (fun d => M1 (10 + 3 * d) 5) n + sumN (dif Mt x) n) := by
    have e3 : Mc 3 2 = (n : Int) := by rw [oall.cell (by decide) (by decide)]; exact hnx
    have := strokes_eq (M := Mc) (by omega) (by omega) (fun d hd => by have := kb d (by omega); have := hdb d (by omega); have := kc d (by omega); omega)
    rw [e3, tn, sumN_add (F := fun d => M1 (10 + 3 * d) 5) (K := dif Mt x) kc] at this
    exact this
  have cMx : chg [0, 4, 8, 10] M Mx := (cT.sub (by decide)).tr (ox.chg.sub (by decide))
  refine ⟨sumN (dif Mt x) n, Mc, ?_, fun c hc => ?_, cMx.tr (oall.chg.sub (by decide)), fun c ha hb => ?_, fun N5 n1 n2 n3 => ?_⟩
  · unfold dh_minutes_j36
    rw [r1, Option.bind_some, r2, Option.bind_some, et, Option.bind_some]
    unfold dh_minutes_j99
    rw [pm, Option.bind_some, ea, Option.bind_some, r3.1, Option.bind_some, eT1, wr_i (by omega) (by omega), eb, Option.bind_some, ec, Option.bind_some]
    unfold dh_minutes_j173
    rw [r4, Option.bind_some, wr_i (by omega) (by omega)]
    congr 2
    omega
  · rw [oall.cell (by omega) (by omega), ox.1 c (by omega) (by omega) (by omega) (by omega) (by omega), q1 c (by omega), M1c c (by omega)]
  · rw [oall.cell (by omega) (by omega), ox.1 c (by omega) (by omega) (by omega) (by omega) (by omega), q1 c (by omega)]
  · -- the reference
    have lkN : lock B Mt N5 := lock_of h cT n2 n3
    obtain ⟨N6, z3, e6, p1, p2⟩ := clear290 (N := N5) (x1 := (x : Int)) (x2 := 0) (x3 := 0)
    have lk6 := lkN.cgN p1
    have hl : Tc (iter (fun s => mo_minutes_b61 (x : Int) s.1 s.2.1 s.2.2.1 s.2.2.2) FU (0, 0, 0, N6)) (fun r => minsAt B Mt N6 n x r.1 r.2.1 r.2.2.2) := by
      refine Tc_n (fun i s => s.2.2.1 = (i : Int) ∧ minsAt B Mt N6 n i s.1 s.2.1 s.2.2.2) x ⟨rfl, ?_⟩ (by omega) (fun i s hi hI => ?_) (fun s hI => ?_)
      · obtain ⟨x2, x3, N, ⟨a1, a2, a3, a4, a5⟩, -⟩ := run N6 lk6 (fun d hd => p2 d (by omega)) 0 (by omega)
        refine ⟨by rw [show B + ((0 : Nat) : Int) = B by omega]; exact lk6, offO.rf, ?_, ?_, fun d hd => ?_⟩
        · rw [sumN_congr (G := fun _ => 0) (fun i hi => by unfold dif; show Mt _ 5 - Mt _ 5 = 0; omega)]
          have := sumN_bd (F := fun _ => 0) (a := 0) (b := 0) (n := n) (fun i hi => by omega)
          show (0 : Int) = _
          omega
        · show (0 : Int) = allL Mt n - allL Mt n; omega
        · have : dif Mt 0 d = 0 := by unfold dif; show Mt _ 5 - Mt _ 5 = 0; omega
          show N6 290 d = _ ∧ _
          rw [p2 d (by omega), this]; omega
      · obtain ⟨x2, x3, z, N⟩ := s
        obtain ⟨rfl, q⟩ := hI
        dsimp only at q ⊢
        obtain ⟨-, -, -, -, hT', ho⟩ := run N6 lk6 (fun d hd => p2 d (by omega)) i (by omega)
        obtain ⟨y2, y3, N', e, q'⟩ := mins_step (x := (x : Int)) hnt h3 (by omega) (by omega) (by omega) ho hT' q
        rw [e]
        exact Tc_inl ⟨rfl, q'⟩
      · obtain ⟨x2, x3, z, N⟩ := s
        obtain ⟨rfl, q⟩ := hI
        dsimp only at q ⊢
        unfold mo_minutes_b61
        exact Tc_t (Int.le_refl _) (Tc_inr q)
    obtain ⟨r, er, q⟩ := hl
    obtain ⟨x2, x3, z4, N⟩ := r
    dsimp only at q er
    obtain ⟨a1, a2, a3, a4, a5⟩ := q
    rw [hMx] at a1 a4
    obtain ⟨x8, o8⟩ := moRow0 N
    obtain ⟨N10, e10, x10, o10⟩ := moTell_eq x3 x8 (by decide)
    have e278 : N10 278 1 = (n : Int) := by
      obtain ⟨l1, l2, l3, l4, l5, l6⟩ := a1
      have := l6.1
      rw [mrg_hi (by decide), mrg_lo (by decide)] at this
      rw [o10 278 1 (Or.inr (by decide)) (by decide), rd_k (by decide), this]; exact hnx
    obtain ⟨N12, z5, e12, x12, o12⟩ := moTells_eq (N := N10) (n := n) (x2 := x2) (e := x3) (f := dif Mt x) e278 h3 x10 (fun d hd => by
      rw [o10.cell (by decide) (by decide), up2_ne (by decide)]; exact (a5 d hd).1)
    have oN := (o8.tr o10).tr o12
    have cNN : chg [0, 4, 8, 10] N5 N12 := (((off290 p1).chg.sub (by decide)).tr (a2.chg.sub (by decide))).tr (oN.chg.sub (by decide))
    have lo : ∀ c, c ≤ 277 → N12 c = Mc c := fun c hcc => by rw [oN.cell (by omega) (by omega), a2.1 c (by omega) (by omega) (by omega) (by omega), p1 c (by omega), n1 c hcc]
    refine ⟨N12, ?_, lo, ?_, ?_, cNN, ?_, ?_⟩
    · unfold mo_minutes_j31
      rw [e6, Option.bind_some, er, Option.bind_some, Option.bind_some, e10, Option.bind_some, e12, Option.bind_some, a3]
    · have hD : C_D (B + x) N12 := by
        refine a1.out (fun a k ha hr => ?_) (fun a k ha hr => ?_)
        · rw [lo a ha]
          exact oall a k (rgW hr (by decide)) (fun z => by subst z; revert hr; rw [show rg 245 k = 10 from rfl]; decide)
        · exact oN a k (rgW hr (by decide)) (fun z => by subst z; revert hr; rw [show rg 284 k = 10 from rfl]; decide)
      unfold C_D at hD ⊢
      exact hD.mono (by omega)
    · rw [a4] at x12
      exact W_of (wc.off (by rw [lo 0 (by decide)]) (lo 245 (by decide))) x12 (by rw [lstN_len]; omega)
    · rw [oN.cell (by decide) (by decide), a2.1 288 (by decide) (by decide) (by decide) (by decide), p1 288 (by decide)]
    · rw [oN 278 31 (Or.inr (by decide)) (by decide), a2.2 31 (by omega), p1 278 (by decide)]
end
section
-- ===== minutes, with what can be undone =====
theorem rg_8 {a k : Nat} (h : rg a k = 8) : (45 ≤ a ∧ a ≤ 222) ∨ (a = 278 ∧ k = 31) ∨ a = 288 := by
  apply Classical.byContradiction
  intro n
  refine absurd h ?_
  unfold rg
  repeat' (refine ite_ne (fun _ => ?_) (fun _ => ?_))
  all_goals first | decide | (exfalso; omega)
theorem U_same {B B' : Int} {M M' : MEM} (h : Rel B M) (hB : B ≤ B') (f1 : ∀ c, 45 ≤ c → c ≤ 222 → M' c = M c) (f2 : M' 288 = M 288) (f3 : M' 278 31 = M 278 31) (c : chg [0, 4, 8, 10] M M') : C_U B' M' := by
  refine h.U.cg hB h.S.2.2.1 (fun a k hr => ?_)
  rcases hr with e | e
  · rcases rg_8 e with ⟨h1, h2⟩ | ⟨rfl, rfl⟩ | rfl
    · rw [f1 a h1 h2]
    · exact f3
    · rw [f2]
  · exact c a k (by rw [e]; decide)
theorem c_minutes {B : Int} {M : MEM} (h : Rel B M) (hB : B ≤ 100000000) (x : Int) : Lk (B + 600) (dh_minutes x M) (mo_minutes x) := by
  have c3 : chg [0] M (up2 M 278 13 0) := chg.rf.up (by decide)
  obtain ⟨s1, s2, s3, s3a, s3b, s4⟩ := h.S
  obtain ⟨u1, u2, u3, u4, u5, u6⟩ := h.U
  unfold Lk dh_minutes
  by_cases hx : 0 ≤ x ∧ x ≤ 600
  · obtain ⟨i, rfl⟩ : ∃ i : Nat, x = (i : Int) := ⟨x.toNat, by omega⟩
    have hin : mo_in (i : Int) 0 600 ≠ 0 := by rw [moIn_y (by omega)]; decide
    refine Tc_f (by omega) (Tc_t (by omega) ?_)
    by_cases h0 : i = 0
    · subst h0
      obtain ⟨rs, M18, e, hi, cc, lo, ref⟩ := mins_core (x := 0) h hB (by omega) chg.rf (fun _ _ => rfl)
      refine Tc_t (by omega) ⟨_, e, ?_⟩
      dsimp only
      obtain ⟨N', e2, l2, d2, w2, cN, f1, f2⟩ := ref (up2 M18 278 13 0) (fun c hc => up2_ne (by omega)) (cc.up (by decide)) (fun a k ha hr => by
        by_cases z : a = 278
        · subst z; rw [rd_k (fun y => by subst y; revert hr; decide), hi 278 ha]
        · rw [up2_ne z, hi a ha])
      unfold mo_minutes
      refine Tc_u (Tc_f hin (Tc_t (by omega) ⟨_, e2, rfl, ?_⟩))
      dsimp only
      have cF : chg [0, 4, 8, 10] M N' := (cc.up (by decide)).tr cN
      refine h.go (by omega) cF (by decide) (fun q => absurd q (by decide)) (fun q => absurd q (by decide)) (fun q => absurd q (by decide)) (fun _ => d2) (fun q => absurd q (by decide)) (fun q => absurd q (by decide)) (fun q => absurd q (by decide)) (fun _ => ?_) (fun q => absurd q (by decide)) (fun _ => w2) (fun q => absurd q (by decide))
      exact U_same h (by omega) (fun c a b => by rw [l2 c (by omega), lo c a b]) (by rw [f1, up2_ne (by decide), hi 288 (by decide)]) (by rw [f2, rd_k (by decide), hi 278 (by decide)]) cF
    · obtain ⟨M6, M8, e6, e8, hc⟩ := hist_class (wc := 0) h (Or.inl rfl)
      have hu := usc_in (i := (M 45 2).toNat) u1 u2 (by omega)
      have cC := hc.chg u1 u2 u5
      have M8c : ∀ c, (c < 45 ∨ 222 < c) → M8 c = M c := fun c hcc => hc.2.2.2.1 c (by omega) (by omega)
      obtain ⟨rs, M18, e, hi, cc, lo, ref⟩ := mins_core (x := i) h hB (by omega) (cC.sub (by decide)) M8c
      refine Tc_f (by omega) (Tc_e e6 (Tc_e e8 ⟨_, e, ?_⟩))
      dsimp only
      have e31 : up2 M18 278 13 0 278 31 = M 278 31 := by rw [rd_k (by decide), hi 278 (by omega)]
      obtain ⟨N3, N5, f3, f5, hm⟩ := hist_mo (wc := 0) (N := up2 M18 278 13 0) (by rw [e31]; omega) (by rw [e31]; omega) (Or.inl rfl)
      have c5 : chg [0, 4, 8, 10] M N5 := (cc.up (by decide)).tr (hm.chg.sub (by decide))
      obtain ⟨N', e2, l2, d2, w2, cN, f1, f2⟩ := ref N5 (fun c hc => by rw [hm.2.1 c (by omega) (by omega) (by omega), up2_ne (by omega)]) c5 (fun a k ha hr => by
        by_cases z : a = 278
        · subst z; rw [hm.2.2.1 k (fun y => by subst y; revert hr; decide), rd_k (fun y => by subst y; revert hr; decide), hi 278 ha]
        · rw [hm.2.1 a z (fun y => by subst y; revert hr; rw [rg_288]; decide) (fun y => by subst y; revert hr; rw [rg_289]; decide), up2_ne z, hi a ha])
      unfold mo_minutes
      refine Tc_u (Tc_f hin (Tc_f (by omega) (Tc_e f3 (Tc_e f5 ⟨_, e2, rfl, ?_⟩))))
      dsimp only
      have cF : chg [0, 4, 8, 10] M N' := c5.tr cN
      refine h.go (by omega) cF (by decide) (fun q => absurd q (by decide)) (fun q => absurd q (by decide)) (fun q => absurd q (by decide)) (fun _ => d2) (fun q => absurd q (by decide)) (fun q => absurd q (by decide)) (fun q => absurd q (by decide)) (fun _ => ?_) (fun q => absurd q (by decide)) (fun _ => w2) (fun q => absurd q (by decide))
      have hU : C_U B N' := hist_U h (Or.inl rfl) hc hm (by rw [up2_ne (by decide), hi 279 (by decide)]) (by rw [up2_ne (by decide), hi 282 (by decide)]) (by rw [rd_k (by decide), hi 278 (by decide)]) e31 (by rw [up2_ne (by decide), hi 288 (by decide)])
        (by rw [l2 45 (by decide), lo 45 (by decide) (by decide)]) (fun c a b => by rw [l2 c (by omega), lo c (by omega) (by omega)]) f1 f2 (by rw [cF 3 2 (by decide)]) (cF.row (fun k => (by decide : 12 ∉ [0, 4, 8, 10])))
      exact hU.cg (by omega) (by rw [cF 3 2 (by decide)]; exact s3) (fun _ _ _ => rfl)
  · have mo : Tc (mo_minutes x M) (fun q => q.1 = -1 ∧ Rel (B + 600) q.2) := by
      unfold mo_minutes
      exact Tc_u (Tc_t (moIn_n (by omega)) (Tc_some ⟨rfl, (h.go0 c3).up (by omega)⟩))
    exact Tc_i (fun _ => Tc_some mo) (fun q => Tc_f (by omega) (Tc_some mo))
end
section
-- ===== thistles, sow, set =====
theorem place_eq {M : MEM} (h : C_S M) (x p : Int) : dh_isPlace x p M = some (if 0 ≤ x ∧ x < M 3 2 ∧ 0 ≤ p ∧ p < M (10 + 3 * x.toNat) 2 then 1 else 0) := by
  obtain ⟨s1, s2, s3, s3a, s3b, s4⟩ := h
  unfold dh_isPlace
  by_cases hd : 0 ≤ x ∧ x < M 3 2
  · rw [isDonkey_y s3 hd.1 hd.2, if_neg (by decide)]
    by_cases hp : p < 0
    · rw [if_pos hp, if_neg (by omega)]
    · rw [if_neg hp, if_pos (by omega)]
      by_cases hq : M (10 + 3 * x.toNat) 2 ≤ p
      · rw [if_pos hq, if_neg (by omega)]
      · rw [if_neg hq, if_pos (by omega)]
  · rw [isDonkey_n s3 hd, if_pos rfl, if_neg (by omega)]
theorem moPlace_eq {M M1 : MEM} (h : C_S M) (h1 : M1 278 1 = M 278 1) (h2 : M1 280 = M 280) (x p : Int) : mo_isPlace x p M1 = some (if 0 ≤ x ∧ x < M 3 2 ∧ 0 ≤ p ∧ p < M (10 + 3 * x.toNat) 2 then 1 else 0) := by
  have hS := h
  obtain ⟨s1, s2, s3, s3a, s3b, s4⟩ := h
  unfold mo_isPlace
  by_cases hd : 0 ≤ x ∧ x < M 3 2
  · obtain ⟨q1, q2, q3⟩ := s4 x.toNat (by omega)
    rw [moDonkey_y hS h1 hd, if_neg (by decide), if_pos (by omega), h2, q1, wr_i (by omega) (by omega)]
    by_cases hp : 0 ≤ p ∧ p < M (10 + 3 * x.toNat) 2
    · rw [moIn_y (by omega), if_neg (by decide), if_pos (by omega)]
    · rw [moIn_n (by omega), if_pos rfl, if_neg (by omega)]
  · rw [moDonkey_n hS h1 hd, if_pos rfl, if_neg (by omega)]
theorem D_one {B : Int} {M M' : MEM} {d : Nat} (hD : C_D B M) (hd : (d : Int) < M 3 2) (hN : M 3 2 ≤ 3) (c1 : ∀ c, 10 ≤ c → c ≤ 18 → (c < 10 + 3 * d ∨ 10 + 3 * d + 3 ≤ c) → M' c = M c) (c2 : M' (10 + 3 * d + 2) = M (10 + 3 * d + 2)) (c3 : M' (10 + 3 * d) 5 = M (10 + 3 * d) 5) (c4 : M' (10 + 3 * d) 2 = M (10 + 3 * d) 2)
    (m1 : ∀ k, (k < 55 * d ∨ 55 * d + 15 ≤ k) → M' 279 k = M 279 k) (e : M' 3 = M 3) (e280 : M' 280 = M 280) (q1 : eqD (M 280 d) (dsC (10 + 3 * d) M') (dsM 279 (55 * d) M')) (q2 : okD (M 280 d) (dsC (10 + 3 * d) M')) (q3 : ∀ p : Nat, M 280 d ≤ (p : Int) → p < 12 → M' 279 (55 * d + 3 + p) = M 279 (55 * d + 3 + p)) : C_D B M' := by
  obtain ⟨t1, t2, t3, t4⟩ := hD
  unfold C_D snS
  rw [e, e280]
  refine ⟨by rw [m1 _ (by omega)]; exact t1, t2, t3, fun d' hd' => ?_⟩
  obtain ⟨t5, t6⟩ := t4 d' hd'
  by_cases ed : d' = d
  · subst ed
    rw [show 3 + 7 + 3 * d' = 10 + 3 * d' by omega] at t5 t6 ⊢
    rw [Nat.zero_add] at t6 ⊢
    obtain ⟨g1, g2, g3, g4, g5⟩ := t6
    refine ⟨by rw [c4]; exact t5, q1, q2, fun p h1 h2 => by rw [q3 p h1 h2]; exact g3 p h1 h2, by rw [c3]; exact g4, fun j h1 h2 h3 => ?_⟩
    rw [c3] at h2 h3
    rw [c2, m1 _ (by omega)]
    exact g5 j h1 h2 h3
  · have o : ∀ c, 10 + 3 * d' ≤ c → c < 10 + 3 * d' + 3 → M' c = M c := fun c a b => c1 c (by omega) (by omega) (by omega)
    refine ⟨by rw [o _ (by omega) (by omega)]; exact t5, t6.cg (Int.le_refl _) (o _ (by omega) (by omega)) (o _ (by omega) (by omega)) (fun k _ => by rw [o _ (by omega) (by omega)]) (fun k a b => m1 k (by omega))⟩
theorem c_thistles {B : Int} {M : MEM} (h : Rel B M) (hB : B ≤ 100000000) (x p : Int) : Lk B ((dh_thistles x p M).bind fun r => some (r, M)) (mo_thistles x p) := by
  have c3 : chg [0] M (up2 M 278 13 0) := chg.rf.up (by decide)
  have k1 : up2 M 278 13 0 278 1 = M 278 1 := rd_k (by decide)
  unfold Lk dh_thistles
  rw [place_eq h.S]
  by_cases hc : 0 ≤ x ∧ x < M 3 2 ∧ 0 ≤ p ∧ p < M (10 + 3 * x.toNat) 2
  · obtain ⟨d, rfl⟩ : ∃ d : Nat, x = (d : Int) := ⟨x.toNat, by omega⟩
    obtain ⟨i, rfl⟩ : ∃ i : Nat, p = (i : Int) := ⟨p.toNat, by omega⟩
    rw [toNat_c] at hc
    obtain ⟨w1, w2, w3, w4⟩ := dnk h hB (d := d) (by omega)
    have hn := h.S.2.2.1
    have hth : M (10 + 3 * d + 1) i = M 279 (55 * d + 3 + i) := w3.2.2.2 i (by omega)
    have et : be_thistlesOn (10 + 3 * d) (i : Int) M = some (M (10 + 3 * d + 1) i) := by
      unfold be_thistlesOn
      rw [if_neg (by omega), if_neg (by have := w1.2.1; omega), if_pos (by have := w1.2.1; omega), toNat_c]
    rw [Option.bind_some, toNat_c, if_pos hc, if_neg (by decide), if_pos (by omega), et]
    refine Tc_u (Tc_u (Tc_some ?_))
    dsimp only
    unfold mo_thistles
    have wx : wr (wr (wr (55 * (d : Int)) + 3) + (i : Int)) = ((55 * d + 3 + i : Nat) : Int) := by rw [wr_i (x := 55 * (d : Int)) (by omega) (by omega), wr_i (x := 55 * (d : Int) + 3) (by omega) (by omega), wr_i (by omega) (by have := w1.2.1; omega)]; omega
    rw [wx, toNat_c]
    refine Tc_u (Tc_e (moPlace_eq h.S k1 (up2_ne (by decide)) _ _) ?_)
    rw [toNat_c, if_pos hc]
    refine Tc_f (by decide) (Tc_t (by have := w1.2.1; omega) (Tc_some ⟨?_, h.go0 c3⟩))
    dsimp only
    rw [rd_a (by decide)]; exact hth.symm
  · rw [Option.bind_some, if_neg hc, if_pos rfl]
    refine Tc_u (Tc_some ?_)
    unfold mo_thistles
    refine Tc_u (Tc_e (moPlace_eq h.S k1 (up2_ne (by decide)) _ _) ?_)
    rw [if_neg hc]
    exact Tc_t rfl (Tc_some ⟨rfl, h.go0 c3⟩)
theorem c_sow {B : Int} {M : MEM} (h : Rel B M) (hB : B ≤ 100000000) (x p v : Int) : Lk B (dh_sow x p v M) (mo_sow x p v) := by
  have c3 : chg [0] M (up2 M 278 13 0) := chg.rf.up (by decide)
  have k1 : up2 M 278 13 0 278 1 = M 278 1 := rd_k (by decide)
  have hn := h.S.2.2.1
  unfold Lk dh_sow
  rw [place_eq h.S]
  by_cases hc : 0 ≤ x ∧ x < M 3 2 ∧ 0 ≤ p ∧ p < M (10 + 3 * x.toNat) 2
  · obtain ⟨d, rfl⟩ : ∃ d : Nat, x = (d : Int) := ⟨x.toNat, by omega⟩
    obtain ⟨i, rfl⟩ : ∃ i : Nat, p = (i : Int) := ⟨p.toNat, by omega⟩
    rw [toNat_c] at hc
    obtain ⟨w1, w2, w3, w4⟩ := dnk h hB (d := d) (by omega)
    have hth : M (10 + 3 * d + 1) i = M 279 (55 * d + 3 + i) := w3.2.2.2 i (by omega)
    have hi : i < 12 := by have := w1.2.1; omega
    have et : be_thistlesOn (10 + 3 * d) (i : Int) M = some (M (10 + 3 * d + 1) i) := by
      unfold be_thistlesOn
      rw [if_neg (by omega), if_neg (by omega), if_pos (by omega), toNat_c]
    have ep : be_put (10 + 3 * d) (i : Int) v M = some (up2 M (10 + 3 * d + 1) i v) := by
      unfold be_put
      rw [if_neg (by omega), if_neg (by omega), if_pos (by omega), toNat_c]
      rfl
    rw [Option.bind_some, toNat_c, if_pos hc, if_neg (by decide)]
    have wx : wr (wr (wr (55 * (d : Int)) + 3) + (i : Int)) = ((55 * d + 3 + i : Nat) : Int) := by rw [wr_i (x := 55 * (d : Int)) (by omega) (by omega), wr_i (x := 55 * (d : Int) + 3) (by omega) (by omega), wr_i (by omega) (by omega)]; omega
    by_cases hv : 0 ≤ v ∧ v ≤ 9
    · refine Tc_f (by omega) (Tc_t (by omega) (Tc_t (by omega) (Tc_e et (Tc_e ep (Tc_some ?_)))))
      dsimp only
      unfold mo_sow
      rw [wx, toNat_c]
      refine Tc_u (Tc_e (moPlace_eq (M := M) h.S (by rw [rd_k (by decide), rd_a (by omega)]) (by rw [up2_ne (by decide), up2_ne (by omega)]) _ _) ?_)
      rw [toNat_c, if_pos hc]
      refine Tc_f (by decide) (Tc_f (by rw [moIn_y hv]; decide) (Tc_t (by omega) (Tc_t (by omega) (Tc_u (Tc_some ⟨?_, ?_⟩)))))
      · dsimp only
        rw [rd_a (by decide), rd_a (by omega)]; exact hth.symm
      · dsimp only
        generalize hM : up2 (up2 (up2 M (10 + 3 * d + 1) i v) 278 13 0) 279 (55 * d + 3 + i) v = M'
        have g1 : ∀ c, c ≠ 10 + 3 * d + 1 → c ≠ 278 → c ≠ 279 → M' c = M c := fun c a b e => by rw [← hM, up2_ne e, up2_ne b, up2_ne a]
        have g2 : ∀ k, M' (10 + 3 * d + 1) k = if k = i then v else M (10 + 3 * d + 1) k := fun k => by
          rw [← hM, rd_a (by omega), rd_a (by omega)]
          by_cases z : k = i
          · subst z; rw [rd_same, if_pos rfl]
          · rw [rd_k z, if_neg z]
        have g3 : ∀ k, M' 279 k = if k = 55 * d + 3 + i then v else M 279 k := fun k => by
          rw [← hM]
          by_cases z : k = 55 * d + 3 + i
          · subst z; rw [rd_same, if_pos rfl]
          · rw [rd_k z, if_neg z, rd_a (by decide), rd_a (by omega)]
        have cc : chg [0, 4] M M' := by
          rw [← hM]
          exact ((chg.rf.up (by rw [rg_D (by omega) (by omega) (Or.inr (by omega))]; decide)).up (by decide)).up (by rw [rg_279]; decide)
        refine h.go (Int.le_refl _) cc (by decide) (fun q => absurd q (by decide)) (fun q => absurd q (by decide)) (fun q => absurd q (by decide)) (fun _ => ?_) (fun q => absurd q (by decide)) (fun q => absurd q (by decide)) (fun q => absurd q (by decide)) (fun q => absurd q (by decide)) (fun q => absurd q (by decide)) (fun q => absurd q (by decide)) (fun q => absurd q (by decide))
        have gb := g1 (10 + 3 * d) (by omega) (by omega) (by omega)
        refine D_one (d := d) h.D (by omega) hn (fun c a b e => g1 c (by omega) (by omega) (by omega)) (g1 _ (by omega) (by omega) (by omega)) (by rw [gb]) (by rw [gb]) (fun k hk => by rw [g3, if_neg (by omega)]) (g1 3 (by omega) (by omega) (by omega)) (g1 280 (by omega) (by omega) (by omega)) ?_ ?_ (fun q a b => by rw [g3, if_neg (by omega)])
        · obtain ⟨y1, y2, y3, y4⟩ := w3
          simp only [dsC, dsM] at y1 y2 y3 y4
          refine ⟨?_, ?_, ?_, fun q hq => ?_⟩
          · show M' (10 + 3 * d) 3 = M' 279 (55 * d + 1); rw [gb, g3, if_neg (by omega)]; exact y1
          · show M' (10 + 3 * d) 4 = M' 279 (55 * d); rw [gb, g3, if_neg (by omega)]; exact y2
          · show M' (10 + 3 * d) 5 = M' 279 (55 * d + 2); rw [gb, g3, if_neg (by omega)]; exact y3
          · show M' (10 + 3 * d + 1) q = M' 279 (55 * d + 3 + q)
            rw [g2, g3]
            by_cases z : q = i
            · rw [if_pos z, if_pos (by omega)]
            · rw [if_neg z, if_neg (by omega)]; exact y4 q hq
        · obtain ⟨z1, z2, z3, z4, z5, z6, z7, z8, z9⟩ := w1
          simp only [dsC] at z3 z4 z5 z6 z7 z8 z9
          refine ⟨z1, z2, ?_, ?_, ?_, ?_, ?_, ?_, fun q hq => ?_⟩
          · show 0 ≤ M' (10 + 3 * d) 3; rw [gb]; exact z3
          · show M' (10 + 3 * d) 3 < _; rw [gb]; exact z4
          · show 0 ≤ M' (10 + 3 * d) 4; rw [gb]; exact z5
          · show M' (10 + 3 * d) 4 ≤ _; rw [gb]; exact z6
          · show 0 ≤ M' (10 + 3 * d) 5; rw [gb]; exact z7
          · show M' (10 + 3 * d) 5 < _; rw [gb]; exact z8
          · show 0 ≤ M' (10 + 3 * d + 1) q ∧ M' (10 + 3 * d + 1) q ≤ 9
            rw [g2]
            by_cases z : q = i
            · rw [if_pos z]; exact hv
            · rw [if_neg z]; exact z9 q hq
    · have mo : Tc (mo_sow d i v M) (fun q => q.1 = -1 ∧ Rel B q.2) := by
        unfold mo_sow
        refine Tc_u (Tc_e (moPlace_eq h.S k1 (up2_ne (by decide)) _ _) ?_)
        rw [toNat_c, if_pos hc]
        exact Tc_f (by decide) (Tc_t (by rw [moIn_n hv]) (Tc_some ⟨rfl, h.go0 c3⟩))
      exact Tc_i (fun _ => Tc_some mo) (fun q => Tc_f (by omega) (Tc_some mo))
  · rw [Option.bind_some, if_neg hc]
    refine Tc_t rfl (Tc_some ?_)
    unfold mo_sow
    refine Tc_u (Tc_e (moPlace_eq h.S k1 (up2_ne (by decide)) _ _) ?_)
    rw [if_neg hc]
    exact Tc_t rfl (Tc_some ⟨rfl, h.go0 c3⟩)
end
section
-- ===== eat, tear, forget, end =====
theorem c_eat {B : Int} {M : MEM} (h : Rel B M) : Lk B (dh_eat M) mo_eat := by
  obtain ⟨c1, c2, c4, c5⟩ := h.C
  unfold Lk dh_eat ca_dropLatest
  by_cases z : 1 ≤ M 5 4
  · rw [show (if 1 ≤ M 5 4 then _ else _) = _ from if_pos z, Option.bind_some, wr_i (by omega) (by omega)]
    refine Tc_e (b := (1, up2 M 5 4 (M 5 4 - 1))) rfl (Tc_f (by show ¬ (1 : Int) = 0; decide) (Tc_some ?_))
    dsimp only
    unfold mo_eat
    have k7 : up2 (up2 M 5 4 (M 5 4 - 1)) 278 13 0 278 7 = M 278 7 := by rw [rd_k (by decide), rd_a (by decide)]
    refine Tc_u (Tc_f (by rw [k7]; omega) (Tc_u (Tc_some ?_)))
    rw [k7, wr_i (by omega) (by omega)]
    refine ⟨?_, ?_⟩
    · dsimp only; rw [rd_same, rd_same]; omega
    · dsimp only
      have cc : chg [0, 5] M (up2 (up2 (up2 M 5 4 (M 5 4 - 1)) 278 13 0) 278 7 (M 278 7 - 1)) := ((chg.rf.up (by decide)).up (by decide)).up (by decide)
      refine h.go (Int.le_refl _) cc (by decide) (fun q => absurd q (by decide)) (fun q => absurd q (by decide)) (fun q => absurd q (by decide)) (fun q => absurd q (by decide)) (fun _ => ?_) (fun q => absurd q (by decide)) (fun q => absurd q (by decide)) (fun q => absurd q (by decide)) (fun q => absurd q (by decide)) (fun q => absurd q (by decide)) (fun q => absurd q (by decide))
      have g1 : ∀ c, c ≠ 5 → c ≠ 278 → up2 (up2 (up2 M 5 4 (M 5 4 - 1)) 278 13 0) 278 7 (M 278 7 - 1) c = M c := fun c a b => by rw [up2_ne b, up2_ne b, up2_ne a]
      have g2 : up2 (up2 (up2 M 5 4 (M 5 4 - 1)) 278 13 0) 278 7 (M 278 7 - 1) 5 4 = M 5 4 - 1 := by rw [rd_a (by decide), rd_a (by decide), rd_same]
      have g3 : up2 (up2 (up2 M 5 4 (M 5 4 - 1)) 278 13 0) 278 7 (M 278 7 - 1) 278 7 = M 278 7 - 1 := rd_same
      generalize up2 (up2 (up2 M 5 4 (M 5 4 - 1)) 278 13 0) 278 7 (M 278 7 - 1) = M' at *
      unfold C_C snC
      rw [g1 (5 + 1) (by decide) (by decide), g1 (5 + 2) (by decide) (by decide), g1 (5 + 3) (by decide) (by decide), g1 (5 + 4) (by decide) (by decide), g1 282 (by decide) (by decide)]
      refine ⟨by rw [g2, g3]; omega, by rw [g3]; omega, by rw [g3]; omega, fun i hi => c5 i (by rw [g3] at hi; omega)⟩
  · rw [show (if 1 ≤ M 5 4 then _ else _) = _ from if_neg z]
    refine Tc_e (b := (0, M)) rfl (Tc_t rfl (Tc_some ?_))
    unfold mo_eat
    exact Tc_u (Tc_t (by rw [rd_k (by decide)]; show M 278 7 = 0; omega) (Tc_some ⟨rfl, h.go0 (chg.rf.up (by decide))⟩))
theorem c_tear {B : Int} {M : MEM} (h : Rel B M) : Lk B (dh_tear M) mo_tear := by
  obtain ⟨o1, o2, o3, o4⟩ := h.O
  unfold Lk dh_tear
  refine Tc_u (Tc_some ?_)
  unfold mo_tear
  refine Tc_u (Tc_u (Tc_some ⟨?_, ?_⟩))
  · dsimp only; rw [rd_k (by decide), rd_a (by decide)]; exact o1
  · dsimp only
    have cc : chg [0, 6] M (up2 (up2 (up2 M 34 6 0) 278 13 0) 278 41 0) := ((chg.rf.up (by decide)).up (by decide)).up (by decide)
    refine h.go (Int.le_refl _) cc (by decide) (fun q => absurd q (by decide)) (fun q => absurd q (by decide)) (fun q => absurd q (by decide)) (fun q => absurd q (by decide)) (fun q => absurd q (by decide)) (fun _ => ?_) (fun q => absurd q (by decide)) (fun q => absurd q (by decide)) (fun q => absurd q (by decide)) (fun q => absurd q (by decide)) (fun q => absurd q (by decide))
    have g2 : up2 (up2 (up2 M 34 6 0) 278 13 0) 278 41 0 34 6 = 0 := by rw [rd_a (by decide), rd_a (by decide), rd_same]
    have g3 : up2 (up2 (up2 M 34 6 0) 278 13 0) 278 41 0 278 41 = 0 := rd_same
    unfold C_O
    rw [g2, g3]
    exact ⟨rfl, by decide, by decide, fun i hi => by omega⟩
theorem c_forget {B : Int} {M : MEM} (h : Rel B M) : Lk B (dh_forget M) mo_forget := by
  obtain ⟨o1, o2, o3, o4⟩ := h.H
  unfold Lk dh_forget
  refine Tc_u (Tc_some ?_)
  unfold mo_forget
  refine Tc_u (Tc_u (Tc_some ⟨?_, ?_⟩))
  · dsimp only; rw [rd_k (by decide), rd_a (by decide)]; exact o1
  · dsimp only
    have cc : chg [0, 7] M (up2 (up2 (up2 M 41 3 0) 278 13 0) 278 49 0) := ((chg.rf.up (by decide)).up (by decide)).up (by decide)
    refine h.go (Int.le_refl _) cc (by decide) (fun q => absurd q (by decide)) (fun q => absurd q (by decide)) (fun q => absurd q (by decide)) (fun q => absurd q (by decide)) (fun q => absurd q (by decide)) (fun q => absurd q (by decide)) (fun _ => ?_) (fun q => absurd q (by decide)) (fun q => absurd q (by decide)) (fun q => absurd q (by decide)) (fun q => absurd q (by decide))
    have g2 : up2 (up2 (up2 M 41 3 0) 278 13 0) 278 49 0 41 3 = 0 := by rw [rd_a (by decide), rd_a (by decide), rd_same]
    have g3 : up2 (up2 (up2 M 41 3 0) 278 13 0) 278 49 0 278 49 = 0 := rd_same
    unfold C_H
    rw [g2, g3]
    exact ⟨rfl, by decide, by decide, fun i hi => by omega⟩
theorem c_end {B : Int} {M : MEM} (h : Rel B M) (x : Int) : Lk B (dh_end x M) (mo_end x) := by
  obtain ⟨t1, t2, t3, t4⟩ := h.T
  have c3 : chg [0] M (up2 M 278 13 0) := chg.rf.up (by decide)
  unfold Lk dh_end tx_cut
  by_cases hx : 0 ≤ x ∧ x ≤ M 1 1
  · refine Tc_e (b := (1, up2 M 1 1 x)) (by rw [if_neg (by omega), if_pos hx.2]; rfl) (Tc_some ?_)
    dsimp only
    unfold mo_end
    have k : up2 (up2 M 1 1 x) 278 13 0 278 10 = M 1 1 := by rw [rd_k (by decide), rd_a (by decide)]; exact t1
    refine Tc_u (Tc_f (by rw [k, moIn_y hx]; decide) (Tc_u (Tc_some ⟨rfl, ?_⟩)))
    dsimp only
    have cc : chg [0, 1] M (up2 (up2 (up2 M 1 1 x) 278 13 0) 278 10 x) := ((chg.rf.up (by decide)).up (by decide)).up (by decide)
    refine h.go (Int.le_refl _) cc (by decide) (fun _ => ?_) (fun q => absurd q (by decide)) (fun q => absurd q (by decide)) (fun q => absurd q (by decide)) (fun q => absurd q (by decide)) (fun q => absurd q (by decide)) (fun q => absurd q (by decide)) (fun q => absurd q (by decide)) (fun q => absurd q (by decide)) (fun q => absurd q (by decide)) (fun q => absurd q (by decide))
    have g1 : ∀ c, c ≠ 1 → c ≠ 278 → up2 (up2 (up2 M 1 1 x) 278 13 0) 278 10 x c = M c := fun c a b => by rw [up2_ne b, up2_ne b, up2_ne a]
    have g2 : up2 (up2 (up2 M 1 1 x) 278 13 0) 278 10 x 1 1 = x := by rw [rd_a (by decide), rd_a (by decide), rd_same]
    have g3 : up2 (up2 (up2 M 1 1 x) 278 13 0) 278 10 x 278 10 = x := rd_same
    generalize up2 (up2 (up2 M 1 1 x) 278 13 0) 278 10 x = M' at *
    unfold C_T
    rw [g2, g3, g1 2 (by decide) (by decide), g1 283 (by decide) (by decide)]
    exact ⟨rfl, hx.1, by omega, fun i hi => t4 i (by omega)⟩
  · have e0 : (if x < 0 then some ((0 : Int), M) else if x ≤ M 1 1 then (some (up2 M 1 1 x)).bind fun M3 => some (1, M3) else some (0, M)) = some (0, M) := by
      by_cases z : x < 0
      · rw [if_pos z]
      · rw [if_neg z, if_neg (by omega)]
    refine Tc_e e0 (Tc_some ?_)
    dsimp only
    unfold mo_end
    have k : up2 M 278 13 0 278 10 = M 1 1 := by rw [rd_k (by decide)]; exact t1
    exact Tc_u (Tc_t (by rw [k, moIn_n hx]) (Tc_some ⟨rfl, h.go0 c3⟩))
-- ===== heard, owe, carrot =====
theorem c_heard {B : Int} {M : MEM} (h : Rel B M) (x a b : Int) : Lk B (dh_heard x a b M) (mo_heard x a b) := by
  have c3 : chg [0] M (up2 M 278 13 0) := chg.rf.up (by decide)
  have k1 : up2 M 278 13 0 278 1 = M 278 1 := rd_k (by decide)
  obtain ⟨s1, s2, s3, s3a, s3b, s4⟩ := h.S
  obtain ⟨o1, o2, o3, o4⟩ := h.H
  unfold Lk dh_heard
  have hf : dh_isFar b = if 1 ≤ b ∧ b ≤ 600 then 1 else 0 := by
    unfold dh_isFar
    by_cases q : b < 1
    · rw [if_pos q, if_neg (by omega)]
    · by_cases q2 : 600 < b
      · rw [if_neg q, if_pos q2, if_neg (by omega)]
      · rw [if_neg q, if_neg q2, if_pos (by omega)]
  have hm : mo_isMore b = if 1 ≤ b ∧ b ≤ 600 then 1 else 0 := mo_in_eq _ _ _
  by_cases hc : (0 ≤ x ∧ x < M 3 2) ∧ (0 ≤ a ∧ a ≤ 60) ∧ (1 ≤ b ∧ b ≤ 600)
  · obtain ⟨hd, ha, hb⟩ := hc
    refine Tc_f (by rw [isDonkey_y s3 hd.1 hd.2]; decide) (Tc_f (by omega) (Tc_f (by omega) (Tc_f (by rw [hf, if_pos hb]; decide) ?_)))
    obtain ⟨n, hn⟩ : ∃ n : Nat, M 41 3 = (n : Int) := ⟨(M 41 3).toNat, by omega⟩
    by_cases h8 : M 41 3 = 8
    · have e : rm_add x a b M = some (0, M) := by unfold rm_add; rw [if_neg (by omega), if_neg (by omega)]
      refine Tc_e e (Tc_t rfl (Tc_some ?_))
      dsimp only
      unfold mo_heard
      exact Tc_u (Tc_f (by rw [moDonkey_y h.S k1 hd]; decide) (Tc_f (by rw [moIn_y ha]; decide) (Tc_f (by rw [hm, if_pos hb]; decide) (Tc_t (by rw [rd_k (by decide)]; show M 278 49 = 8; omega) (Tc_some ⟨rfl, h.go0 c3⟩)))))
    · have e : rm_add x a b M = some (1, up2 (up2 (up2 (up2 M 42 n x) 43 n a) 44 n b) 41 3 ((n : Int) + 1)) := by
        have r1 : up2 M 42 n x 41 3 = (n : Int) := by rw [rd_a (by decide)]; exact hn
        have r2 : up2 (up2 M 42 n x) 43 n a 41 3 = (n : Int) := by rw [rd_a (by decide)]; exact r1
        have r3 : up2 (up2 (up2 M 42 n x) 43 n a) 44 n b 41 3 = (n : Int) := by rw [rd_a (by decide)]; exact r2
        unfold rm_add
        rw [if_neg (by omega), if_pos (by omega), if_pos (by omega), hn, toNat_c, Option.bind_some, r1, if_pos (by omega), toNat_c, Option.bind_some, r2, if_pos (by omega), toNat_c, Option.bind_some, r3, wr_i (by omega) (by omega)]
        rfl
      have g1 : ∀ c, c ≠ 41 → c ≠ 42 → c ≠ 43 → c ≠ 44 → up2 (up2 (up2 (up2 M 42 n x) 43 n a) 44 n b) 41 3 ((n : Int) + 1) c = M c := fun c a b d e => by rw [up2_ne a, up2_ne e, up2_ne d, up2_ne b]
      have g2 : up2 (up2 (up2 (up2 M 42 n x) 43 n a) 44 n b) 41 3 ((n : Int) + 1) 41 3 = (n : Int) + 1 := rd_same
      have g42 : ∀ k, up2 (up2 (up2 (up2 M 42 n x) 43 n a) 44 n b) 41 3 ((n : Int) + 1) 42 k = if k = n then x else M 42 k := fun k => by
        rw [rd_a (by decide), rd_a (by decide), rd_a (by decide)]
        by_cases z : k = n
        · subst z; rw [rd_same, if_pos rfl]
        · rw [rd_k z, if_neg z]
      have g43 : ∀ k, up2 (up2 (up2 (up2 M 42 n x) 43 n a) 44 n b) 41 3 ((n : Int) + 1) 43 k = if k = n then a else M 43 k := fun k => by
        rw [rd_a (by decide), rd_a (by decide)]
        by_cases z : k = n
        · subst z; rw [rd_same, if_pos rfl]
        · rw [rd_k z, if_neg z, rd_a (by decide)]
      have g44 : ∀ k, up2 (up2 (up2 (up2 M 42 n x) 43 n a) 44 n b) 41 3 ((n : Int) + 1) 44 k = if k = n then b else M 44 k := fun k => by
        rw [rd_a (by decide)]
        by_cases z : k = n
        · subst z; rw [rd_same, if_pos rfl]
        · rw [rd_k z, if_neg z, rd_a (by decide), rd_a (by decide)]
      have cc : chg [0, 7] M (up2 (up2 (up2 (up2 M 42 n x) 43 n a) 44 n b) 41 3 ((n : Int) + 1)) := (((chg.rf.up (by rw [show rg 42 n = 7 from rfl]; decide)).up (by rw [show rg 43 n = 7 from rfl]; decide)).up (by rw [show rg 44 n = 7 from rfl]; decide)).up (by decide)
      generalize up2 (up2 (up2 (up2 M 42 n x) 43 n a) 44 n b) 41 3 ((n : Int) + 1) = M2 at *
      refine Tc_e e (Tc_f (by show ¬ (1 : Int) = 0; decide) (Tc_some ?_))
      dsimp only
      rw [g2]
      unfold mo_heard
      have k49 : up2 M2 278 13 0 278 49 = (n : Int) := by rw [rd_k (by decide), g1 278 (by decide) (by decide) (by decide) (by decide), o1]; exact hn
      refine Tc_u (Tc_f (by rw [moDonkey_y h.S (by rw [rd_k (by decide), g1 278 (by decide) (by decide) (by decide) (by decide)]) hd]; decide) (Tc_f (by rw [moIn_y ha]; decide) (Tc_f (by rw [hm, if_pos hb]; decide) (Tc_f (by rw [k49]; omega) ?_))))
      have w3 : wr (3 * (n : Int)) = ((3 * n : Nat) : Int) := (wr_i (by omega) (by omega)).trans (by omega)
      have w31 : wr (((3 * n : Nat) : Int) + 1) = ((3 * n + 1 : Nat) : Int) := (wr_i (by omega) (by omega)).trans (by omega)
      have w32 : wr (((3 * n : Nat) : Int) + 2) = ((3 * n + 2 : Nat) : Int) := (wr_i (by omega) (by omega)).trans (by omega)
      rw [k49, w3]
      refine Tc_t (by omega) (Tc_u ?_)
      rw [toNat_c]
      have r1 : up2 (up2 M2 278 13 0) 302 (3 * n) x 278 49 = (n : Int) := by rw [rd_a (by decide)]; exact k49
      rw [r1, w3, w31]
      refine Tc_t (by omega) (Tc_u ?_)
      rw [toNat_c]
      have r2 : up2 (up2 (up2 M2 278 13 0) 302 (3 * n) x) 302 (3 * n + 1) a 278 49 = (n : Int) := by rw [rd_a (by decide)]; exact r1
      rw [r2, w3, w32]
      refine Tc_t (by omega) (Tc_u ?_)
      rw [toNat_c]
      have r3 : up2 (up2 (up2 (up2 M2 278 13 0) 302 (3 * n) x) 302 (3 * n + 1) a) 302 (3 * n + 2) b 278 49 = (n : Int) := by rw [rd_a (by decide)]; exact r2
      rw [r3, wr_i (x := (n : Int) + 1) (by omega) (by omega)]
      refine Tc_u (Tc_some ⟨by dsimp only; exact rd_same, ?_⟩)
      dsimp only
      have cF : chg [0, 7] M (up2 (up2 (up2 (up2 (up2 M2 278 13 0) 302 (3 * n) x) 302 (3 * n + 1) a) 302 (3 * n + 2) b) 278 49 ((n : Int) + 1)) := ((((cc.up (by decide)).up (by rw [show rg 302 (3 * n) = 7 from rfl]; decide)).up (by rw [show rg 302 (3 * n + 1) = 7 from rfl]; decide)).up (by rw [show rg 302 (3 * n + 2) = 7 from rfl]; decide)).up (by decide)
      refine h.go (Int.le_refl _) cF (by decide) (fun q => absurd q (by decide)) (fun q => absurd q (by decide)) (fun q => absurd q (by decide)) (fun q => absurd q (by decide)) (fun q => absurd q (by decide)) (fun q => absurd q (by decide)) (fun _ => ?_) (fun q => absurd q (by decide)) (fun q => absurd q (by decide)) (fun q => absurd q (by decide)) (fun q => absurd q (by decide))
      have f1 : ∀ c, c ≠ 278 → c ≠ 302 → up2 (up2 (up2 (up2 (up2 M2 278 13 0) 302 (3 * n) x) 302 (3 * n + 1) a) 302 (3 * n + 2) b) 278 49 ((n : Int) + 1) c = M2 c := fun c a b => by rw [up2_ne a, up2_ne b, up2_ne b, up2_ne b, up2_ne a]
      have f2 : up2 (up2 (up2 (up2 (up2 M2 278 13 0) 302 (3 * n) x) 302 (3 * n + 1) a) 302 (3 * n + 2) b) 278 49 ((n : Int) + 1) 278 49 = (n : Int) + 1 := rd_same
      have f3 : ∀ k, up2 (up2 (up2 (up2 (up2 M2 278 13 0) 302 (3 * n) x) 302 (3 * n + 1) a) 302 (3 * n + 2) b) 278 49 ((n : Int) + 1) 302 k = if k = 3 * n then x else if k = 3 * n + 1 then a else if k = 3 * n + 2 then b else M 302 k := fun k => by
        rw [rd_a (by decide)]
        by_cases z2 : k = 3 * n + 2
        · subst z2; rw [rd_same, if_neg (by omega), if_neg (by omega), if_pos rfl]
        · rw [rd_k z2]
          by_cases z1 : k = 3 * n + 1
          · subst z1; rw [rd_same, if_neg (by omega), if_pos rfl]
          · rw [rd_k z1]
            by_cases z0 : k = 3 * n
            · subst z0; rw [rd_same, if_pos rfl]
            · rw [rd_k z0, if_neg z0, if_neg z1, if_neg z2, rd_a (by decide), g1 302 (by decide) (by decide) (by decide) (by decide)]
      generalize up2 (up2 (up2 (up2 (up2 M2 278 13 0) 302 (3 * n) x) 302 (3 * n + 1) a) 302 (3 * n + 2) b) 278 49 ((n : Int) + 1) = M' at *
      unfold C_H
      rw [f2, f1 41 (by decide) (by decide), f1 42 (by decide) (by decide), f1 43 (by decide) (by decide), f1 44 (by decide) (by decide), g2]
      refine ⟨rfl, by omega, by omega, fun i hi => ?_⟩
      by_cases z : i = n
      · subst z
        rw [show M' 302 (3 * i) = x by rw [f3, if_pos rfl], show M' 302 (3 * i + 1) = a by rw [f3, if_neg (by omega), if_pos rfl], show M' 302 (3 * i + 2) = b by rw [f3, if_neg (by omega), if_neg (by omega), if_pos rfl], show M2 42 i = x by rw [g42, if_pos rfl], show M2 43 i = a by rw [g43, if_pos rfl], show M2 44 i = b by rw [g44, if_pos rfl]]
        exact ⟨rfl, rfl, rfl, ha, hb⟩
      · rw [show M' 302 (3 * i) = M 302 (3 * i) by rw [f3, if_neg (by omega), if_neg (by omega), if_neg (by omega)], show M' 302 (3 * i + 1) = M 302 (3 * i + 1) by rw [f3, if_neg (by omega), if_neg (by omega), if_neg (by omega)], show M' 302 (3 * i + 2) = M 302 (3 * i + 2) by rw [f3, if_neg (by omega), if_neg (by omega), if_neg (by omega)], show M2 42 i = M 42 i by rw [g42, if_neg z], show M2 43 i = M 43 i by rw [g43, if_neg z], show M2 44 i = M 44 i by rw [g44, if_neg z]]
        exact o4 i (by omega)
  · have mo : Tc (mo_heard x a b M) (fun q => q.1 = -1 ∧ Rel B q.2) := by
      have fin : Tc (some ((-1 : Int), up2 M 278 13 0)) (fun q => q.1 = -1 ∧ Rel B q.2) := Tc_some ⟨rfl, h.go0 c3⟩
      unfold mo_heard
      refine Tc_u ?_
      by_cases hd : 0 ≤ x ∧ x < M 3 2
      · refine Tc_f (by rw [moDonkey_y h.S k1 hd]; decide) ?_
        by_cases ha : 0 ≤ a ∧ a ≤ 60
        · exact Tc_f (by rw [moIn_y ha]; decide) (Tc_t (by rw [hm, if_neg (fun q => hc ⟨hd, ha, q⟩)]) fin)
        · exact Tc_t (moIn_n ha) fin
      · exact Tc_t (moDonkey_n h.S k1 hd) fin
    refine Tc_i (fun _ => Tc_some mo) (fun q1 => Tc_i (fun _ => Tc_some mo) (fun q2 => Tc_i (fun _ => Tc_some mo) (fun q3 => Tc_t ?_ (Tc_some mo))))
    rw [hf, if_neg]
    rintro ⟨b1, b2⟩
    refine hc ⟨?_, by omega, by omega⟩
    exact Classical.byContradiction fun y => q1 (isDonkey_n s3 y)
end
section
-- ===== struck, took, row =====
/-- the MINUTE of a DONKEY's k-th STROKE, as both tell it -/
def lnV (M : MEM) (d : Nat) (k : Int) : Int := if k ≤ M (10 + 3 * d) 5 then (if M (10 + 3 * d) 5 - 40 < k then M (10 + 3 * d + 2) (k % 40).toNat else -3) else -2
theorem book_of {B : Int} {M : MEM} (h : Rel B M) {d : Nat} (hd : (d : Int) < M 3 2) {k : Int} (h1 : 1 ≤ k) (h2 : k ≤ M (10 + 3 * d) 5) (h3 : M (10 + 3 * d) 5 < k + 40) :
    M (10 + 3 * d + 2) (k % 40).toNat = M 279 (55 * d + 15 + ((k - 1) % 40).toNat) ∧ 0 ≤ M (10 + 3 * d + 2) (k % 40).toNat ∧ M (10 + 3 * d + 2) (k % 40).toNat < M 3 3 := by
  obtain ⟨t1, t2, t3, t4⟩ := h.D
  obtain ⟨t5, g1, g2, g3, g4, g5⟩ := t4 d hd
  rw [show 3 + 7 + 3 * d = 10 + 3 * d by omega, Nat.zero_add] at g5
  obtain ⟨j, rfl⟩ : ∃ j : Nat, k = (j : Int) := ⟨k.toNat, by omega⟩
  have q := g5 j (by omega) h2 (by omega)
  rw [show ((j : Int) % 40).toNat = j % 40 by omega, show (((j : Int) - 1) % 40).toNat = (j - 1) % 40 by omega]
  exact q
theorem minuteOf_eq {M : MEM} {d : Nat} {k : Int} (h1 : 1 ≤ k) (h0 : 0 ≤ M (10 + 3 * d) 5) (hB : M (10 + 3 * d) 5 ≤ 100000000) : be_minuteOf (10 + 3 * d) k M = some (lnV M d k) := by
  unfold be_minuteOf lnV
  by_cases h2 : k ≤ M (10 + 3 * d) 5
  · rw [if_pos h2, if_pos h2, if_neg (by omega), wr_i (by omega) (by omega)]
    by_cases h3 : M (10 + 3 * d) 5 - 40 < k
    · have m1 := Int.emod_nonneg k (show (40 : Int) ≠ 0 by decide)
      have m2 := Int.emod_lt_of_pos k (show (0 : Int) < 40 by decide)
      rw [if_pos h3, if_pos h3, floorMod_eq (by unfold InR; omega) (by decide) (by decide), Option.bind_some, if_pos ⟨m1, m2⟩]
    · rw [if_neg h3, if_neg h3]
  · rw [if_neg h2, if_neg h2]
theorem strokesM_eq {M : MEM} {d : Nat} (hd : d < 3) : mo_strokes (d : Int) M = some (M 279 (55 * d + 2)) := by
  have w : wr (wr (55 * (d : Int)) + 2) = ((55 * d + 2 : Nat) : Int) := by rw [wr_i (x := 55 * (d : Int)) (by omega) (by omega), wr_i (by omega) (by omega)]; omega
  unfold mo_strokes
  rw [w, if_pos (by omega), toNat_c]
theorem line_eq {B : Int} {M M1 : MEM} (h : Rel B M) (hB : B ≤ 100000000) (e : M1 279 = M 279) {d : Nat} (hd : (d : Int) < M 3 2) {k : Int} (h1 : 1 ≤ k) : mo_line (d : Int) k M1 = some (lnV M d k) := by
  obtain ⟨w1, w2, w3, w4⟩ := dnk h hB hd
  have hn := h.S.2.2.1
  have ek : M 279 (55 * d + 2) = M (10 + 3 * d) 5 := w3.2.2.1.symm
  have k0 : 0 ≤ M (10 + 3 * d) 5 := w1.2.2.2.2.2.2.1
  have k1 : M (10 + 3 * d) 5 ≤ 100000000 := w2
  unfold mo_line lnV
  rw [strokesM_eq (by omega), Option.bind_some, e, ek]
  by_cases h2 : k ≤ M (10 + 3 * d) 5
  · rw [if_pos h2, if_pos h2, Option.bind_some, wr_i (x := M (10 + 3 * d) 5 - 40) (by omega) (by omega)]
    by_cases h3 : M (10 + 3 * d) 5 - 40 < k
    · have m1 := Int.emod_nonneg (k - 1) (show (40 : Int) ≠ 0 by decide)
      have m2 := Int.emod_lt_of_pos (k - 1) (show (0 : Int) < 40 by decide)
      have w : wr (wr (wr (55 * (d : Int)) + 15) + Int.tmod (wr (k - 1)) 40) = ((55 * d + 15 + ((k - 1) % 40).toNat : Nat) : Int) := by
        rw [wr_i (x := k - 1) (by omega) (by omega), tmod_nn (by omega), wr_i (x := 55 * (d : Int)) (by omega) (by omega), wr_i (x := 55 * (d : Int) + 15) (by omega) (by omega), wr_i (by omega) (by omega)]; omega
      rw [if_pos h3, if_pos h3, w, if_pos (by omega), toNat_c, (book_of h hd h1 h2 (by omega)).1]
    · rw [if_neg h3, if_neg h3]
  · rw [if_neg h2, if_neg h2]
theorem c_struck {B : Int} {M : MEM} (h : Rel B M) (hB : B ≤ 100000000) (x k : Int) : Lk B ((dh_struck x k M).bind fun r => some (r, M)) (mo_struck x k) := by
  have c3 : chg [0] M (up2 M 278 13 0) := chg.rf.up (by decide)
  have k1 : up2 M 278 13 0 278 1 = M 278 1 := rd_k (by decide)
  have hn := h.S.2.2.1
  unfold Lk dh_struck
  by_cases hc : (0 ≤ x ∧ x < M 3 2) ∧ 1 ≤ k
  · obtain ⟨hd, hk⟩ := hc
    obtain ⟨d, rfl⟩ : ∃ d : Nat, x = (d : Int) := ⟨x.toNat, by omega⟩
    obtain ⟨w1, w2, w3, w4⟩ := dnk h hB hd.2
    have e1 := minuteOf_eq (M := M) (d := d) hk w1.2.2.2.2.2.2.1 w2
    rw [isDonkey_y hn hd.1 hd.2, if_neg (by decide), if_pos hk, if_pos (by omega), toNat_c, e1]
    refine Tc_u (Tc_some ?_)
    unfold mo_struck
    exact Tc_u (Tc_f (by rw [moDonkey_y h.S k1 hd]; decide) (Tc_f (by omega) (Tc_e (line_eq h hB (up2_ne (by decide)) hd.2 hk) (Tc_some ⟨rfl, h.go0 c3⟩))))
  · have mo : Tc (mo_struck x k M) (fun q => q.1 = -1 ∧ Rel B q.2) := by
      unfold mo_struck
      refine Tc_u (Tc_i (fun _ => Tc_some ⟨rfl, h.go0 c3⟩) (fun q => Tc_t ?_ (Tc_some ⟨rfl, h.go0 c3⟩)))
      exact Classical.byContradiction fun y => hc ⟨Classical.byContradiction fun z => q (moDonkey_n h.S k1 z), by omega⟩
    by_cases hd : 0 ≤ x ∧ x < M 3 2
    · rw [isDonkey_y hn hd.1 hd.2, if_neg (by decide), if_neg (fun q => hc ⟨hd, q⟩)]
      exact Tc_u (Tc_some mo)
    · rw [isDonkey_n hn hd, if_pos rfl]
      exact Tc_u (Tc_some mo)
theorem c_took {B : Int} {M : MEM} (h : Rel B M) (hB : B ≤ 100000000) (x k : Int) : Lk B ((dh_took x k M).bind fun r => some (r, M)) (mo_took x k) := by
  have c3 : chg [0] M (up2 M 278 13 0) := chg.rf.up (by decide)
  have k1 : up2 M 278 13 0 278 1 = M 278 1 := rd_k (by decide)
  have hn := h.S.2.2.1
  have nw := now_in h
  unfold Lk dh_took
  by_cases hc : (0 ≤ x ∧ x < M 3 2) ∧ 1 ≤ k
  · obtain ⟨hd, hk⟩ := hc
    obtain ⟨d, rfl⟩ : ∃ d : Nat, x = (d : Int) := ⟨x.toNat, by omega⟩
    obtain ⟨w1, w2, w3, w4⟩ := dnk h hB hd.2
    have k0 : 0 ≤ M (10 + 3 * d) 5 := w1.2.2.2.2.2.2.1
    have k100 : M (10 + 3 * d) 5 ≤ 100000000 := w2
    have ek : M 279 (55 * d + 2) = M (10 + 3 * d) 5 := w3.2.2.1.symm
    have e1 := minuteOf_eq (M := M) (d := d) hk k0 w2
    have l1 := line_eq (M1 := up2 M 278 13 0) h hB (up2_ne (by decide)) hd.2 hk
    rw [isDonkey_y hn hd.1 hd.2, if_neg (by decide), if_pos hk, if_pos (by omega), toNat_c, e1, Option.bind_some]
    by_cases hz : 0 ≤ lnV M d k
    · have hin : k ≤ M (10 + 3 * d) 5 ∧ M (10 + 3 * d) 5 < k + 40 := by
        unfold lnV at hz
        by_cases y : k ≤ M (10 + 3 * d) 5
        · rw [if_pos y] at hz
          by_cases y2 : M (10 + 3 * d) 5 - 40 < k
          · exact ⟨y, by omega⟩
          · rw [if_neg y2] at hz; omega
        · rw [if_neg y] at hz; omega
      have b1 := book_of h hd.2 hk hin.1 hin.2
      have v1 : lnV M d k = M (10 + 3 * d + 2) (k % 40).toNat := by unfold lnV; rw [if_pos hin.1, if_pos (by omega)]
      have wk : wr (k + 1) = k + 1 := wr_i (by omega) (by omega)
      have e2 := minuteOf_eq (M := M) (d := d) (k := k + 1) (by omega) k0 w2
      rw [if_pos hz, wk, e2, Option.bind_some]
      by_cases hS : k = M (10 + 3 * d) 5
      · have v2 : lnV M d (k + 1) = -2 := by unfold lnV; rw [if_neg (by omega)]
        rw [v2, if_neg (by decide)]
        refine Tc_u (Tc_some ?_)
        dsimp only
        unfold mo_took
        exact Tc_u (Tc_f (by rw [moDonkey_y h.S k1 hd]; decide) (Tc_t hk (Tc_e l1 (Tc_t hz (Tc_e (strokesM_eq (by omega)) (Tc_t (by rw [rd_a (by decide), ek]; exact hS) (Tc_some ⟨rfl, h.go0 c3⟩)))))))
      · have b2 := book_of h hd.2 (k := k + 1) (by omega) (by omega) (by omega)
        have v2 : lnV M d (k + 1) = M (10 + 3 * d + 2) ((k + 1) % 40).toNat := by unfold lnV; rw [if_pos (by omega), if_pos (by omega)]
        have l2 := line_eq (M1 := up2 M 278 13 0) (k := k + 1) h hB (up2_ne (by decide)) hd.2 (by omega)
        rw [if_pos (by omega)]
        refine Tc_u (Tc_some ?_)
        dsimp only
        unfold mo_took
        rw [wk]
        exact Tc_u (Tc_f (by rw [moDonkey_y h.S k1 hd]; decide) (Tc_t hk (Tc_e l1 (Tc_t hz (Tc_e (strokesM_eq (by omega)) (Tc_f (by rw [rd_a (by decide), ek]; exact hS) (Tc_e l2 (Tc_e l1 (Tc_some ⟨rfl, h.go0 c3⟩)))))))))
    · rw [if_neg hz]
      refine Tc_u (Tc_some ?_)
      dsimp only
      unfold mo_took
      exact Tc_u (Tc_f (by rw [moDonkey_y h.S k1 hd]; decide) (Tc_t hk (Tc_e l1 (Tc_f hz (Tc_e l1 (Tc_some ⟨rfl, h.go0 c3⟩))))))
  · have mo : Tc (mo_took x k M) (fun q => q.1 = -1 ∧ Rel B q.2) := by
      unfold mo_took
      refine Tc_u (Tc_i (fun _ => Tc_some ⟨rfl, h.go0 c3⟩) (fun q => Tc_f ?_ (Tc_some ⟨rfl, h.go0 c3⟩)))
      exact fun y => hc ⟨Classical.byContradiction fun z => q (moDonkey_n h.S k1 z), y⟩
    by_cases hd : 0 ≤ x ∧ x < M 3 2
    · rw [isDonkey_y hn hd.1 hd.2, if_neg (by decide), if_neg (fun q => hc ⟨hd, q⟩)]
      exact Tc_u (Tc_some mo)
    · rw [isDonkey_n hn hd, if_pos rfl]
      exact Tc_u (Tc_some mo)
end
section
-- ===== row, donkey, count =====
theorem lost_eq (M : MEM) : mo_lost M = some (0, up2 M 278 13 1) := rfl
theorem c_row {B : Int} {M : MEM} (h : Rel B M) (x : Int) : LkT B (dh_row x M) (mo_row x) := by
  have c3 : chg [0] M (up2 M 278 13 0) := chg.rf.up (by decide)
  obtain ⟨q1, q2, q3, q4⟩ := h.W
  have k12 : up2 M 278 13 0 278 12 = M 0 14 := by rw [rd_k (by decide)]; exact q1
  have w : wr (M 0 14 - 1) = M 0 14 - 1 := wr_i (by omega) (by omega)
  unfold LkT dh_row
  by_cases hc : 0 ≤ x ∧ x < M 0 14
  · obtain ⟨i, rfl⟩ : ∃ i : Nat, x = (i : Int) := ⟨x.toNat, by omega⟩
    refine Tc_f (by omega) (Tc_f (by omega) (Tc_t (by omega) (Tc_t (by omega) (Tc_some ?_))))
    show Tc (mo_row i M) _
    unfold mo_row
    refine Tc_u (Tc_f (by rw [k12, w, moIn_y (by omega)]; decide) (Tc_t (by omega) (Tc_some ⟨(by dsimp only; exact rd_same), ?_, h.go0 c3⟩)))
    dsimp only
    rw [toNat_c, rd_a (by decide)]
    exact q4 i (by omega)
  · have mo : Tc (mo_row x M) (fun q => q.2 278 13 = 1 ∧ Rel B q.2) := by
      unfold mo_row
      exact Tc_u (Tc_t (by rw [k12, w, moIn_n (by omega)]) (Tc_e (lost_eq _) (Tc_some ⟨(by dsimp only; exact rd_same), h.go0 (c3.up (by decide))⟩)))
    refine Tc_i (fun _ => Tc_some mo) (fun _ => Tc_t (by omega) (Tc_some mo))
theorem sumN_tail {f : Nat → Int} {n : Nat} : ∀ {m : Nat}, n ≤ m → (∀ p, n ≤ p → p < m → f p = 0) → sumN f m = sumN f n := by
  intro m
  induction m with
  | zero => intro h _; have : n = 0 := by omega
            subst this; rfl
  | succ m ih =>
    intro h z
    by_cases e : n = m + 1
    · subst e; rfl
    · rw [sumN_S, z m (by omega) (by omega), ih (by omega) (fun p a b => z p a (by omega))]; omega
theorem moThistles_eq {M : MEM} {d : Nat} {n : Int} (hd : d < 3) (h0 : 0 ≤ n) (hn : n ≤ 12) (hb : ∀ p : Nat, (p : Int) < n → 0 ≤ M 279 (55 * d + 3 + p) ∧ M 279 (55 * d + 3 + p) ≤ 9) (hz : ∀ p : Nat, n ≤ (p : Int) → p < 12 → M 279 (55 * d + 3 + p) = 0) :
    mo_allThistles 279 (d : Int) M = some (leftN (fun p => M 279 (55 * d + 3 + p)) n) := by
  have hb' : ∀ p : Nat, p < 12 → 0 ≤ M 279 (55 * d + 3 + p) ∧ M 279 (55 * d + 3 + p) ≤ 9 := fun p hp => by
    by_cases z : (p : Int) < n
    · exact hb p z
    · rw [hz p (by omega) hp]; omega
  have hl : Tc (iter (fun s => mo_allThistles_b4 279 (d : Int) s.1 s.2 M) FU (0, 0)) (fun r => r.1 = sumN (fun p => M 279 (55 * d + 3 + p)) 12) := by
    refine Tc_n (fun i s => s.1 = sumN (fun p => M 279 (55 * d + 3 + p)) i ∧ s.2 = (i : Int)) 12 ⟨rfl, rfl⟩ (by omega) (fun i s hi hI => ?_) (fun s hI => ?_)
    · obtain ⟨x, z⟩ := s
      obtain ⟨rfl, rfl⟩ := hI
      dsimp only
      have b0 := sumN_bd (F := fun p => M 279 (55 * d + 3 + p)) (a := 0) (b := 9) (n := i) (fun j hj => hb' j (by omega))
      have b1 := hb' i hi
      have wi : wr (wr (wr (55 * (d : Int)) + 3) + (i : Int)) = ((55 * d + 3 + i : Nat) : Int) := by rw [wr_i (x := 55 * (d : Int)) (by omega) (by omega), wr_i (x := 55 * (d : Int) + 3) (by omega) (by omega), wr_i (by omega) (by omega)]; omega
      have w : wr (sumN (fun p => M 279 (55 * d + 3 + p)) i + M 279 (55 * d + 3 + i)) = sumN (fun p => M 279 (55 * d + 3 + p)) (i + 1) := by rw [sumN_S]; exact wr_i (by omega) (by omega)
      unfold mo_allThistles_b4
      rw [wi, toNat_c, w]
      refine Tc_f (by omega) (Tc_t ⟨by omega, ?_⟩ (Tc_inl ⟨rfl, (wr_i (by omega) (by omega)).trans (by omega)⟩))
      show ((55 * d + 3 + i : Nat) : Int) < 166
      omega
    · obtain ⟨x, z⟩ := s
      obtain ⟨rfl, rfl⟩ := hI
      unfold mo_allThistles_b4
      exact Tc_t (by show (12 : Int) ≤ ((12 : Nat) : Int); decide) (Tc_inr rfl)
  obtain ⟨r, e, hr⟩ := hl
  unfold mo_allThistles
  rw [e, Option.bind_some, hr]
  unfold leftN
  rw [sumN_tail (n := n.toNat) (m := 12) (by omega) (fun p a b => hz p (by omega) b)]
theorem zero_of {B : Int} {M : MEM} (h : Rel B M) {d : Nat} (hd : (d : Int) < M 3 2) : ∀ p : Nat, M 280 d ≤ (p : Int) → p < 12 → M 279 (55 * d + 3 + p) = 0 := by
  obtain ⟨t1, t2, t3, t4⟩ := h.D
  obtain ⟨t5, g1, g2, g3, g4, g5⟩ := t4 d hd
  rw [Nat.zero_add] at g3
  exact g3
/-- the thistles of a DONKEY, told by both -/
theorem left_both {B : Int} {M M1 : MEM} (h : Rel B M) (hB : B ≤ 100000000) {d : Nat} (hd : (d : Int) < M 3 2) (e : M1 279 = M 279) :
    be_allThistles (10 + 3 * d) M = some (leftN (M (10 + 3 * d + 1)) (M 280 d)) ∧ mo_allThistles 279 (d : Int) M1 = some (leftN (M (10 + 3 * d + 1)) (M 280 d)) ∧ 0 ≤ leftN (M (10 + 3 * d + 1)) (M 280 d) ∧ leftN (M (10 + 3 * d + 1)) (M 280 d) ≤ 108 := by
  obtain ⟨w1, w2, w3, w4⟩ := dnk h hB hd
  have hn := h.S.2.2.1
  have th : ∀ p : Nat, (p : Int) < M 280 d → M (10 + 3 * d + 1) p = M 279 (55 * d + 3 + p) := fun p hp => w3.2.2.2 p hp
  have b9 : ∀ p : Nat, (p : Int) < M 280 d → 0 ≤ M (10 + 3 * d + 1) p ∧ M (10 + 3 * d + 1) p ≤ 9 := w1.2.2.2.2.2.2.2.2
  refine ⟨allTh_eq w4 (by have := w1.1; omega) w1.2.1 b9, ?_, leftN_bd (by have := w1.1; omega) w1.2.1 b9⟩
  rw [moThistles_eq (M := M1) (n := M 280 d) (by omega) (by have := w1.1; omega) w1.2.1 (fun p hp => by rw [e, ← th p hp]; exact b9 p hp) (fun p a b => by rw [e]; exact zero_of h hd p a b)]
  rw [e]
  congr 1
  unfold leftN
  exact sumN_congr (fun p hp => (th p (by omega)).symm)
theorem c_donkey {B : Int} {M : MEM} (h : Rel B M) (hB : B ≤ 100000000) (x y : Int) : LkT B (dh_donkey x y M) (mo_donkey x y) := by
  have c3 : chg [0] M (up2 M 278 13 0) := chg.rf.up (by decide)
  have k1 : up2 M 278 13 0 278 1 = M 278 1 := rd_k (by decide)
  have hn := h.S.2.2.1
  have nw := now_in h
  unfold LkT dh_donkey
  by_cases hc : (0 ≤ x ∧ x < M 3 2) ∧ 0 ≤ y ∧ y ≤ 6
  · obtain ⟨hd, hy⟩ := hc
    obtain ⟨d, rfl⟩ : ∃ d : Nat, x = (d : Int) := ⟨x.toNat, by omega⟩
    obtain ⟨w1, w2, w3, w4⟩ := dnk h hB hd.2
    have w3' := w3
    obtain ⟨z1, z2, z3, z4, z5, z6, z7, z8, z9⟩ := w1
    obtain ⟨f1, f2, f3, f4⟩ := w3
    simp only [dsC, dsM] at f1 f2 f3 z7
    have x0 : wr (55 * (d : Int)) = ((55 * d : Nat) : Int) := (wr_i (by omega) (by omega)).trans (by omega)
    have x1 : wr (((55 * d : Nat) : Int) + 1) = ((55 * d + 1 : Nat) : Int) := (wr_i (by omega) (by omega)).trans (by omega)
    have x2 : wr (((55 * d : Nat) : Int) + 2) = ((55 * d + 2 : Nat) : Int) := (wr_i (by omega) (by omega)).trans (by omega)
    have hD : mo_isDonkey (d : Int) (up2 M 278 13 0) ≠ 0 := by rw [moDonkey_y h.S k1 hd]; decide
    have hI : mo_in y 0 6 ≠ 0 := by rw [moIn_y hy]; decide
    refine Tc_f (by rw [isDonkey_y hn hd.1 hd.2]; decide) (Tc_f (by omega) (Tc_t hy.2 (Tc_t (by omega) ?_)))
    rw [toNat_c]
    have ok : ∀ (P : Int → Prop) v, P v → Tc (some (v, up2 M 278 13 0)) (fun q => q.2 278 13 = 0 ∧ P q.1 ∧ Rel B q.2) := fun P v hp => Tc_some ⟨(by dsimp only; exact rd_same), hp, h.go0 c3⟩
    by_cases y0 : y = 0
    · refine Tc_t y0 (Tc_some ?_)
      show Tc (mo_donkey d y M) _
      unfold mo_donkey
      rw [x0, toNat_c]
      exact Tc_u (Tc_f hD (Tc_f hI (Tc_t y0 (Tc_t (by omega) (ok (· = _) _ (by rw [rd_a (by decide)]; exact f2.symm))))))
    refine Tc_f y0 ?_
    by_cases y1 : y = 1
    · refine Tc_t y1 (Tc_some ?_)
      show Tc (mo_donkey d y M) _
      unfold mo_donkey
      rw [x0, x1, toNat_c, toNat_c]
      exact Tc_u (Tc_f hD (Tc_f hI (Tc_f y0 (Tc_t y1 (Tc_t (by omega) (ok (· = _) _ (by rw [rd_a (by decide)]; exact f1.symm)))))))
    refine Tc_f y1 ?_
    by_cases y2 : y = 2
    · refine Tc_t y2 (Tc_some ?_)
      show Tc (mo_donkey d y M) _
      unfold mo_donkey
      rw [x0, x2, toNat_c, toNat_c]
      exact Tc_u (Tc_f hD (Tc_f hI (Tc_f y0 (Tc_f y1 (Tc_t y2 (Tc_t (by omega) (ok (· = _) _ (by rw [rd_a (by decide)]; exact f3.symm))))))))
    refine Tc_f y2 ?_
    by_cases y3 : y = 3
    · refine Tc_t y3 (Tc_some ?_)
      show Tc (mo_donkey d y M) _
      unfold mo_donkey
      rw [x0, x2, toNat_c, toNat_c]
      exact Tc_u (Tc_f hD (Tc_f hI (Tc_f y0 (Tc_f y1 (Tc_f y2 (Tc_t y3 (Tc_t (by omega) (ok (· = _) _ (by rw [rd_a (by decide), f3])))))))))
    refine Tc_f y3 ?_
    by_cases y4 : y = 4
    · refine Tc_t y4 (Tc_some ?_)
      show Tc (mo_donkey d y M) _
      unfold mo_donkey
      rw [x0, x2, toNat_c, toNat_c]
      exact Tc_u (Tc_f hD (Tc_f hI (Tc_f y0 (Tc_f y1 (Tc_f y2 (Tc_f y3 (Tc_t y4 (Tc_t (by omega) (ok (· = _) _ (by rw [rd_a (by decide), w4, toNat_c]))))))))))
    refine Tc_f y4 ?_
    obtain ⟨e1, e2, -, -⟩ := left_both (M1 := up2 M 278 13 0) h hB hd.2 (up2_ne (by decide))
    by_cases y5 : y = 5
    · refine Tc_t y5 (Tc_e e1 (Tc_some ?_))
      show Tc (mo_donkey d y M) _
      unfold mo_donkey
      exact Tc_u (Tc_f hD (Tc_f hI (Tc_f y0 (Tc_f y1 (Tc_f y2 (Tc_f y3 (Tc_f y4 (Tc_t y5 (Tc_e e2 (ok (· = _) _ rfl))))))))))
    refine Tc_f y5 ?_
    have lk := lock_of h chg.rf chg.rf (fun _ _ _ _ => rfl)
    obtain ⟨M2, p2, o1, o2⟩ := paceNow_eq (b := 10 + 3 * d) (d := (d : Int)) (n := M 280 d) (M := M) lk.1 (by omega) (by omega) ⟨z1, z2, z3, z4, z5, z6, z7, z8, z9⟩ (by unfold InR; omega)
    refine Tc_e p2 (Tc_some ?_)
    show Tc (mo_donkey d y M2) _
    have cM2 : chg [0] M M2 := fun a k n => by
      by_cases e21 : a = 21
      · subst e21
        refine o2 k (fun e => n ?_)
        subst e; decide
      · by_cases e23 : a = 23
        · subst e23; exact absurd (by decide : (0 : Nat) ∈ [0]) n
        · by_cases e24 : a = 24
          · subst e24; exact absurd (by decide : (0 : Nat) ∈ [0]) n
          · rw [o1 a e21 e23 e24]
    have r2 := (h.go0 cM2).go0 (chg.rf.up (a := 278) (k := 13) (x := 0) (by decide))
    have eM : ∀ c, 277 < c → M2 c = M c := fun c hc => o1 c (by omega) (by omega) (by omega)
    have q279 : up2 M2 278 13 0 279 = M 279 := by rw [up2_ne (by decide), eM 279 (by decide)]
    have eds : dsM 279 (55 * d) (up2 M2 278 13 0) = dsM 279 (55 * d) M := by unfold dsM; rw [q279]
    have okM : okD (M 280 d) (dsM 279 (55 * d) M) := okD_congr ⟨f1, f2, f3, f4⟩ ⟨z1, z2, z3, z4, z5, z6, z7, z8, z9⟩
    have env2 : envM (up2 M2 278 13 0) = passE M := by
      rw [lk.2.2.2.1]
      exact chg_env (cM2.tr (chg.rf.up (by decide))) (by decide) (by decide) (by decide) (by decide) h.N.2.2.2.2.2.1 h.C.2.2.1
    obtain ⟨M3, p3, o3⟩ := mo_pace_eq (a := 279) (o := 55 * d) (d := (d : Int)) (n := M 280 d) (M := up2 M2 278 13 0) (Or.inl rfl) r2.R (em_of (f := 224) r2.F r2.C (th0 (Or.inl rfl) r2.N)) (by omega) (by omega) (by omega) (by rw [eds]; exact okM) (by rw [q279]; omega)
    rw [eds, q279, env2, nw.2.2] at p3
    have ep : paceD (passE M) d (M 3 3) (dsM 279 (55 * d) M) = paceD (passE M) d (M 3 3) (dsC (10 + 3 * d) M) := by
      unfold paceD; rw [gvD_congr (n := M 280 d) z3 z4 w3']
    rw [ep] at p3
    have hD2 : mo_isDonkey (d : Int) (up2 M2 278 13 0) ≠ 0 := by rw [moDonkey_y h.S (by rw [rd_k (by decide), eM 278 (by decide)]) hd]; decide
    unfold mo_donkey
    refine Tc_u (Tc_f hD2 (Tc_f hI (Tc_f y0 (Tc_f y1 (Tc_f y2 (Tc_f y3 (Tc_f y4 (Tc_f y5 (Tc_e p3 (Tc_some ⟨?_, rfl, ?_⟩))))))))))
    · dsimp only
      rw [o3.2 13 (by omega) (by decide) (by decide)]; exact rd_same
    · refine r2.go0 (fun a k n => ?_)
      by_cases e : a = 278
      · subst e
        by_cases z : (k < 14 ∨ 18 < k) ∧ k ≠ 22 ∧ k ≠ 23
        · exact o3.2 k z.1 z.2.1 z.2.2
        · exact absurd (by rw [rg278 (by omega)]; decide) n
      · show M3 a k = _
        rw [o3.1 a e]
  · have mo : Tc (mo_donkey x y M) (fun q => q.2 278 13 = 1 ∧ Rel B q.2) := by
      have fin : Tc (mo_donkey_j23 (up2 M 278 13 0)) (fun q => q.2 278 13 = 1 ∧ Rel B q.2) := by
        unfold mo_donkey_j23
        exact Tc_e (lost_eq _) (Tc_some ⟨(by dsimp only; exact rd_same), h.go0 (c3.up (by decide))⟩)
      unfold mo_donkey
      refine Tc_u (Tc_i (fun _ => fin) (fun q => Tc_t ?_ fin))
      exact moIn_n (fun z => hc ⟨Classical.byContradiction fun w => q (moDonkey_n h.S k1 w), z⟩)
    refine Tc_i (fun _ => Tc_some mo) (fun q => Tc_i (fun _ => Tc_some mo) (fun q2 => Tc_f ?_ (Tc_some mo)))
    intro z
    exact hc ⟨Classical.byContradiction fun w => q (isDonkey_n hn w), by omega, z⟩
end
section
theorem c_count {B : Int} {M : MEM} (h : Rel B M) (hB : B ≤ 100000000) (x : Int) : Lk B ((dh_count x M).bind fun r => some (r, M)) (mo_count x) := by
  have c3 : chg [0] M (up2 M 278 13 0) := chg.rf.up (by decide)
  have h1 : up2 M 278 13 0 279 = M 279 := up2_ne (by decide)
  have k : ∀ i, i ≠ 13 → up2 M 278 13 0 278 i = M 278 i := fun i hi => rd_k hi
  obtain ⟨s1, s2, s3, s3a, s3b, s4⟩ := h.S
  obtain ⟨N, hN⟩ : ∃ N : Nat, M 3 2 = (N : Int) := ⟨(M 3 2).toNat, by omega⟩
  have nw := now_in h
  have lk := lock_of h chg.rf chg.rf (fun _ _ _ _ => rfl)
  have pk := (lk.pass (by omega)).1
  have fin : ∀ a b : Int, b = a → Tc (some (b, up2 M 278 13 0)) (fun q => q.1 = a ∧ Rel B q.2) := fun a b e => Tc_some ⟨e, h.go0 c3⟩
  have kb : ∀ d : Nat, (d : Int) < M 3 2 → 0 ≤ M (10 + 3 * d) 5 ∧ M (10 + 3 * d) 5 ≤ 100000000 ∧ M 279 (55 * d + 2) = M (10 + 3 * d) 5 := fun d hd => by
    obtain ⟨w1, w2, w3, w4⟩ := dnk h hB hd
    exact ⟨w1.2.2.2.2.2.2.1, w2, w3.2.2.1.symm⟩
  have f1 : up2 M 278 13 0 278 1 = (N : Int) := by rw [k 1 (by decide)]; omega
  unfold Lk dh_count
  by_cases y0 : x = 0
  · rw [if_pos y0]
    refine Tc_u (Tc_some ?_)
    unfold mo_count
    exact Tc_u (Tc_t y0 (fin _ _ (by rw [k 1 (by decide)]; exact s1)))
  rw [if_neg y0]
  by_cases y1 : x = 1
  · rw [if_pos y1]
    refine Tc_u (Tc_some ?_)
    unfold mo_count
    exact Tc_u (Tc_f y0 (Tc_t y1 (fin _ _ (by rw [h1]; exact nw.2.2))))
  rw [if_neg y1]
  by_cases y2 : x = 2
  · rw [if_pos y2]
    refine Tc_u (Tc_some ?_)
    unfold mo_count
    exact Tc_u (Tc_f y0 (Tc_f y1 (Tc_t y2 (fin _ _ (by rw [k 7 (by decide)]; exact h.C.1.symm)))))
  rw [if_neg y2]
  by_cases y3 : x = 3
  · rw [if_pos y3]
    refine Tc_u (Tc_some ?_)
    unfold mo_count
    exact Tc_u (Tc_f y0 (Tc_f y1 (Tc_f y2 (Tc_t y3 (fin _ _ (by rw [k 41 (by decide)]; exact h.O.1))))))
  rw [if_neg y3]
  by_cases y4 : x = 4
  · have e := strokes_eq (M := M) s2 s3 (fun d hd => by have := kb d hd; omega)
    rw [if_pos y4, e]
    refine Tc_u (Tc_u (Tc_some ?_))
    have hl : Tc (iter (fun s => mo_count_b90 s.1 s.2 (up2 M 278 13 0)) FU (0, 0)) (fun r => r.1 = sumN (fun d => M (10 + 3 * d) 5) N) := by
      refine Tc_n (fun i s => s.1 = sumN (fun d => M (10 + 3 * d) 5) i ∧ s.2 = (i : Int)) N ⟨rfl, rfl⟩ (by omega) (fun i s hi hI => ?_) (fun s hI => ?_)
      · obtain ⟨a, z⟩ := s
        obtain ⟨rfl, rfl⟩ := hI
        dsimp only
        have b := sumN_bd (F := fun d => M (10 + 3 * d) 5) (a := 0) (b := 100000000) (n := i) (fun j hj => by have := kb j (by omega); omega)
        have b1 := kb i (by omega)
        have w : wr (sumN (fun d => M (10 + 3 * d) 5) i + M (10 + 3 * i) 5) = sumN (fun d => M (10 + 3 * d) 5) (i + 1) := by rw [sumN_S]; exact wr_i (by omega) (by omega)
        unfold mo_count_b90
        refine Tc_f (by omega) (Tc_e (strokesM_eq (by omega)) ?_)
        rw [h1, b1.2.2, w]
        exact Tc_inl ⟨rfl, (wr_i (by omega) (by omega)).trans (by omega)⟩
      · obtain ⟨a, z⟩ := s
        obtain ⟨rfl, rfl⟩ := hI
        unfold mo_count_b90
        exact Tc_t (by rw [f1]; exact Int.le_refl _) (Tc_inr rfl)
    obtain ⟨r, e2, hr⟩ := hl
    unfold mo_count
    refine Tc_u (Tc_f y0 (Tc_f y1 (Tc_f y2 (Tc_f y3 (Tc_t y4 (Tc_e e2 (fin _ _ ?_)))))))
    rw [hr, hN]; rfl
  rw [if_neg y4]
  by_cases y5 : x = 5
  · have e := thistles_eq (M := M) s2 s3 (fun d hd => (pk.2.2.2.2.2 d hd).1)
    rw [if_pos y5, e.1]
    refine Tc_u (Tc_u (Tc_some ?_))
    have one : ∀ d : Nat, d < N → mo_allThistles 279 (d : Int) (up2 M 278 13 0) = some (leftN (M (10 + 3 * d + 1)) (M (10 + 3 * d) 2)) ∧ 0 ≤ leftN (M (10 + 3 * d + 1)) (M (10 + 3 * d) 2) ∧ leftN (M (10 + 3 * d + 1)) (M (10 + 3 * d) 2) ≤ 108 := fun d hd => by
      obtain ⟨w1, w2, w3, w4⟩ := dnk h hB (d := d) (by omega)
      obtain ⟨a1, a2, a3, a4⟩ := left_both (M1 := up2 M 278 13 0) h hB (d := d) (by omega) h1
      rw [w4]
      exact ⟨a2, a3, a4⟩
    have hl : Tc (iter (fun s => mo_count_b116 s.1 s.2 (up2 M 278 13 0)) FU (0, 0)) (fun r => r.1 = allL M N) := by
      refine Tc_n (fun i s => s.1 = allL M i ∧ s.2 = (i : Int)) N ⟨rfl, rfl⟩ (by omega) (fun i s hi hI => ?_) (fun s hI => ?_)
      · obtain ⟨a, z⟩ := s
        obtain ⟨rfl, rfl⟩ := hI
        dsimp only
        have b := sumN_bd (F := fun d => leftN (M (10 + 3 * d + 1)) (M (10 + 3 * d) 2)) (a := 0) (b := 108) (n := i) (fun j hj => (one j (by omega)).2)
        obtain ⟨b1, b2, b3⟩ := one i hi
        have w : wr (allL M i + leftN (M (10 + 3 * i + 1)) (M (10 + 3 * i) 2)) = allL M (i + 1) := by unfold allL; rw [sumN_S]; exact wr_i (by omega) (by omega)
        unfold mo_count_b116
        refine Tc_f (by omega) (Tc_e b1 ?_)
        rw [w]
        exact Tc_inl ⟨rfl, (wr_i (by omega) (by omega)).trans (by omega)⟩
      · obtain ⟨a, z⟩ := s
        obtain ⟨rfl, rfl⟩ := hI
        unfold mo_count_b116
        exact Tc_t (by rw [f1]; exact Int.le_refl _) (Tc_inr rfl)
    obtain ⟨r, e2, hr⟩ := hl
    unfold mo_count
    refine Tc_u (Tc_f y0 (Tc_f y1 (Tc_f y2 (Tc_f y3 (Tc_f y4 (Tc_t y5 (Tc_e e2 (fin _ _ ?_))))))))
    rw [hr, hN]; rfl
  rw [if_neg y5]
  by_cases y6 : x = 6
  · rw [if_pos y6]
    refine Tc_u (Tc_some ?_)
    unfold mo_count
    exact Tc_u (Tc_f y0 (Tc_f y1 (Tc_f y2 (Tc_f y3 (Tc_f y4 (Tc_f y5 (Tc_t y6 (fin _ _ (by rw [k 31 (by decide)]; exact h.U.2.2.1)))))))))
  rw [if_neg y6]
  by_cases y7 : x = 7
  · rw [if_pos y7]
    refine Tc_u (Tc_some ?_)
    unfold mo_count
    exact Tc_u (Tc_f y0 (Tc_f y1 (Tc_f y2 (Tc_f y3 (Tc_f y4 (Tc_f y5 (Tc_f y6 (Tc_t y7 (fin _ _ (by rw [k 49 (by decide)]; exact h.H.1))))))))))
  rw [if_neg y7]
  by_cases y8 : x = 8
  · rw [if_pos y8]
    refine Tc_u (Tc_some ?_)
    unfold mo_count
    exact Tc_u (Tc_f y0 (Tc_f y1 (Tc_f y2 (Tc_f y3 (Tc_f y4 (Tc_f y5 (Tc_f y6 (Tc_f y7 (Tc_t y8 (fin _ _ (by rw [k 12 (by decide)]; exact h.W.1)))))))))))
  rw [if_neg y8]
  by_cases y9 : x = 9
  · rw [if_pos y9]
    refine Tc_u (Tc_some ?_)
    unfold mo_count
    exact Tc_u (Tc_f y0 (Tc_f y1 (Tc_f y2 (Tc_f y3 (Tc_f y4 (Tc_f y5 (Tc_f y6 (Tc_f y7 (Tc_f y8 (Tc_t y9 (fin _ _ (by rw [k 10 (by decide)]; exact h.T.1))))))))))))
  · rw [if_neg y9]
    refine Tc_u (Tc_some ?_)
    unfold mo_count
    exact Tc_u (Tc_f y0 (Tc_f y1 (Tc_f y2 (Tc_f y3 (Tc_f y4 (Tc_f y5 (Tc_f y6 (Tc_f y7 (Tc_f y8 (Tc_f y9 (fin _ _ rfl)))))))))))
end
section
-- ===== set =====
theorem c_set {B : Int} {M : MEM} (h : Rel B M) (hB : B ≤ 100000000) (x y v : Int) : Lk B (dh_set x y v M) (mo_set x y v) := by
  have c3 : chg [0] M (up2 M 278 13 0) := chg.rf.up (by decide)
  have k1 : up2 M 278 13 0 278 1 = M 278 1 := rd_k (by decide)
  have hn := h.S.2.2.1
  have fin : ∀ a : Int, a = -1 → Tc (some ((-1 : Int), up2 M 278 13 0)) (fun q => q.1 = a ∧ Rel B q.2) := fun a e => Tc_some ⟨e.symm, h.go0 c3⟩
  unfold Lk dh_set
  by_cases hd : 0 ≤ x ∧ x < M 3 2
  · obtain ⟨d, rfl⟩ : ∃ d : Nat, x = (d : Int) := ⟨x.toNat, by omega⟩
    obtain ⟨w1, w2, w3, w4⟩ := dnk h hB hd.2
    have w3' := w3
    obtain ⟨z1, z2, z3, z4, z5, z6, z7, z8, z9⟩ := w1
    obtain ⟨f1, f2, f3, f4⟩ := w3
    simp only [dsC, dsM] at f1 f2 f3 f4 z3 z4 z5 z6 z7 z8 z9
    have x0 : wr (wr (55 * (d : Int)) + 0) = ((55 * d : Nat) : Int) := by rw [wr_i (x := 55 * (d : Int)) (by omega) (by omega), wr_i (by omega) (by omega)]; omega
    have x1 : wr (wr (55 * (d : Int)) + 1) = ((55 * d + 1 : Nat) : Int) := by rw [wr_i (x := 55 * (d : Int)) (by omega) (by omega), wr_i (by omega) (by omega)]; omega
    have hD : mo_isDonkey (d : Int) (up2 M 278 13 0) ≠ 0 := by rw [moDonkey_y h.S k1 hd]; decide
    -- one number is set on both sides
    have both : ∀ (s o : Nat), (s = 4 ∧ o = 0 ∧ 0 ≤ v ∧ v ≤ 9) ∨ (s = 3 ∧ o = 1 ∧ 0 ≤ v ∧ v < M 280 d) → Rel B (up2 (up2 (up2 M (10 + 3 * d) s v) 278 13 0) 279 (55 * d + o) v) := fun s o ho => by
      have cc : chg [0, 4] M (up2 (up2 (up2 M (10 + 3 * d) s v) 278 13 0) 279 (55 * d + o) v) := ((chg.rf.up (by rw [rg_D (by omega) (by omega) (Or.inl (by omega))]; decide)).up (by decide)).up (by rw [rg_279]; decide)
      have g1 : ∀ c, c ≠ 10 + 3 * d → c ≠ 278 → c ≠ 279 → up2 (up2 (up2 M (10 + 3 * d) s v) 278 13 0) 279 (55 * d + o) v c = M c := fun c a b e => by rw [up2_ne e, up2_ne b, up2_ne a]
      have g2 : ∀ k, up2 (up2 (up2 M (10 + 3 * d) s v) 278 13 0) 279 (55 * d + o) v (10 + 3 * d) k = if k = s then v else M (10 + 3 * d) k := fun k => by
        rw [rd_a (by omega), rd_a (by omega)]
        by_cases z : k = s
        · subst z; rw [rd_same, if_pos rfl]
        · rw [rd_k z, if_neg z]
      have g3 : ∀ k, up2 (up2 (up2 M (10 + 3 * d) s v) 278 13 0) 279 (55 * d + o) v 279 k = if k = 55 * d + o then v else M 279 k := fun k => by
        by_cases z : k = 55 * d + o
        · subst z; rw [rd_same, if_pos rfl]
        · rw [rd_k z, if_neg z, rd_a (by decide), rd_a (by omega)]
      generalize up2 (up2 (up2 M (10 + 3 * d) s v) 278 13 0) 279 (55 * d + o) v = M' at *
      refine h.go (Int.le_refl _) cc (by decide) (fun q => absurd q (by decide)) (fun q => absurd q (by decide)) (fun q => absurd q (by decide)) (fun _ => ?_) (fun q => absurd q (by decide)) (fun q => absurd q (by decide)) (fun q => absurd q (by decide)) (fun q => absurd q (by decide)) (fun q => absurd q (by decide)) (fun q => absurd q (by decide)) (fun q => absurd q (by decide))
      have gt := g1 (10 + 3 * d + 1) (by omega) (by omega) (by omega)
      refine D_one (d := d) h.D hd.2 hn (fun c a b e => g1 c (by omega) (by omega) (by omega)) (g1 _ (by omega) (by omega) (by omega)) (by rw [g2, if_neg (by omega)]) (by rw [g2, if_neg (by omega)]) (fun k hk => by rw [g3, if_neg (by omega)]) (g1 3 (by omega) (by omega) (by omega)) (g1 280 (by omega) (by omega) (by omega)) ?_ ?_ (fun q a b => by rw [g3, if_neg (by omega)])
      · refine ⟨?_, ?_, ?_, fun q hq => ?_⟩
        · show M' (10 + 3 * d) 3 = M' 279 (55 * d + 1)
          rw [g2, g3]
          rcases ho with ⟨rfl, rfl, -⟩ | ⟨rfl, rfl, -⟩
          · rw [if_neg (by omega), if_neg (by omega)]; exact f1
          · rw [if_pos rfl, if_pos (by omega)]
        · show M' (10 + 3 * d) 4 = M' 279 (55 * d)
          rw [g2, g3]
          rcases ho with ⟨rfl, rfl, -⟩ | ⟨rfl, rfl, -⟩
          · rw [if_pos rfl, if_pos (by omega)]
          · rw [if_neg (by omega), if_neg (by omega)]; exact f2
        · show M' (10 + 3 * d) 5 = M' 279 (55 * d + 2)
          rw [g2, g3, if_neg (by omega), if_neg (by omega)]; exact f3
        · show M' (10 + 3 * d + 1) q = M' 279 (55 * d + 3 + q)
          rw [gt, g3, if_neg (by omega)]; exact f4 q hq
      · refine ⟨z1, z2, ?_, ?_, ?_, ?_, ?_, ?_, fun q hq => ?_⟩
        · show 0 ≤ M' (10 + 3 * d) 3; rw [g2]; split <;> omega
        · show M' (10 + 3 * d) 3 < _
          rw [g2]
          rcases ho with ⟨rfl, rfl, -⟩ | ⟨rfl, rfl, q⟩
          · rw [if_neg (by omega)]; exact z4
          · rw [if_pos rfl]; exact q.2
        · show 0 ≤ M' (10 + 3 * d) 4; rw [g2]; split <;> omega
        · show M' (10 + 3 * d) 4 ≤ _
          rw [g2]
          rcases ho with ⟨rfl, rfl, q⟩ | ⟨rfl, rfl, q⟩
          · rw [if_pos rfl]; exact q.2
          · rw [if_neg (by omega)]; exact z6
        · show 0 ≤ M' (10 + 3 * d) 5; rw [g2, if_neg (by omega)]; exact z7
        · show M' (10 + 3 * d) 5 < _; rw [g2, if_neg (by omega)]; exact z8
        · show 0 ≤ M' (10 + 3 * d + 1) q ∧ M' (10 + 3 * d + 1) q ≤ 9
          rw [gt]; exact z9 q hq
    by_cases y0 : y = 0
    · subst y0
      refine Tc_t rfl ?_
      unfold dh_setHunger
      rw [isDonkey_y hn hd.1 hd.2, show (if (1 : Int) = 0 then _ else _) = _ from if_neg (by decide)]
      by_cases hv : 0 ≤ v ∧ v ≤ 9
      · rw [if_neg (by omega), if_pos hv.2, if_pos (by omega), toNat_c]
        refine Tc_u (Tc_u (Tc_some ?_))
        dsimp only
        unfold mo_set
        have hD' : mo_isDonkey (d : Int) (up2 (up2 M (10 + 3 * d) 4 v) 278 13 0) ≠ 0 := by rw [moDonkey_y h.S (by rw [rd_k (by decide), rd_a (by omega)]) hd]; decide
        refine Tc_u (Tc_f hD' (Tc_f (by rw [moIn_y (by decide)]; decide) (Tc_t rfl ?_)))
        unfold mo_set_j41
        rw [x0, toNat_c]
        refine Tc_f (by rw [moIn_y hv]; decide) (Tc_t (by omega) (Tc_t (by omega) (Tc_u (Tc_some ⟨?_, ?_⟩))))
        · dsimp only; rw [rd_a (by decide), rd_a (by omega)]; exact f2.symm
        · exact both 4 0 (Or.inl ⟨rfl, rfl, hv⟩)
      · have mo : Tc (mo_set d 0 v M) (fun q => q.1 = -1 ∧ Rel B q.2) := by
          unfold mo_set
          refine Tc_u (Tc_f hD (Tc_f (by rw [moIn_y (by decide)]; decide) (Tc_t rfl ?_)))
          unfold mo_set_j41
          exact Tc_t (moIn_n hv) (fin _ rfl)
        by_cases v0 : v < 0
        · rw [if_pos v0]; exact Tc_u (Tc_some mo)
        · rw [if_neg v0, if_neg (by omega)]; exact Tc_u (Tc_some mo)
    · refine Tc_f y0 ?_
      by_cases y1 : y = 1
      · subst y1
        refine Tc_t rfl ?_
        have e280 : wr (up2 M 278 13 0 280 d - 1) = M 280 d - 1 := by rw [rd_a (by decide)]; exact wr_i (by omega) (by omega)
        by_cases hv : 0 ≤ v ∧ v < M (10 + 3 * d) 2
        · have ey : dh_isPlace (d : Int) v M = some 1 := by rw [place_eq h.S, toNat_c, if_pos ⟨hd.1, hd.2, hv.1, hv.2⟩]
          refine Tc_e ey (Tc_f (by decide) (Tc_t (by omega) ?_))
          rw [toNat_c]
          refine Tc_u (Tc_some ?_)
          dsimp only
          unfold mo_set
          have hD' : mo_isDonkey (d : Int) (up2 (up2 M (10 + 3 * d) 3 v) 278 13 0) ≠ 0 := by rw [moDonkey_y h.S (by rw [rd_k (by decide), rd_a (by omega)]) hd]; decide
          have e280' : wr (up2 (up2 M (10 + 3 * d) 3 v) 278 13 0 280 d - 1) = M 280 d - 1 := by rw [rd_a (by decide), rd_a (by omega)]; exact wr_i (by omega) (by omega)
          refine Tc_u (Tc_f hD' (Tc_f (by rw [moIn_y (by decide)]; decide) (Tc_f (by decide) (Tc_t (by omega) ?_))))
          unfold mo_set_j41
          rw [x1, toNat_c, toNat_c, e280']
          refine Tc_f (by rw [moIn_y (by omega)]; decide) (Tc_t (by omega) (Tc_t (by omega) (Tc_u (Tc_some ⟨?_, ?_⟩))))
          · dsimp only; rw [rd_a (by decide), rd_a (by omega)]; exact f1.symm
          · exact both 3 1 (Or.inr ⟨rfl, rfl, hv.1, by omega⟩)
        · have ey : dh_isPlace (d : Int) v M = some 0 := by rw [place_eq h.S, toNat_c, if_neg (fun q => hv ⟨q.2.2.1, q.2.2.2⟩)]
          refine Tc_e ey (Tc_t rfl (Tc_some ?_))
          dsimp only
          unfold mo_set
          refine Tc_u (Tc_f hD (Tc_f (by rw [moIn_y (by decide)]; decide) (Tc_f (by decide) (Tc_t (by omega) ?_))))
          unfold mo_set_j41
          rw [toNat_c, e280]
          exact Tc_t (moIn_n (by omega)) (fin _ rfl)
      · refine Tc_f y1 (Tc_some ?_)
        unfold mo_set
        exact Tc_u (Tc_f hD (Tc_t (moIn_n (by omega)) (fin _ rfl)))
  · have mo : Tc (mo_set x y v M) (fun q => q.1 = -1 ∧ Rel B q.2) := by
      unfold mo_set
      exact Tc_u (Tc_t (moDonkey_n h.S k1 hd) (fin _ rfl))
    by_cases y0 : y = 0
    · refine Tc_t y0 ?_
      unfold dh_setHunger
      rw [isDonkey_n hn hd, show (if (0 : Int) = 0 then _ else _) = _ from if_pos rfl]
      exact Tc_u (Tc_some mo)
    · refine Tc_f y0 ?_
      by_cases y1 : y = 1
      · have ey : dh_isPlace x v M = some 0 := by rw [place_eq h.S, if_neg (fun q => hd ⟨q.1, q.2.1⟩)]
        exact Tc_t y1 (Tc_e ey (Tc_t rfl (Tc_some mo)))
      · exact Tc_f y1 (Tc_some mo)
end
section
-- ===== carrot =====
theorem c_carrot {B : Int} {M : MEM} (h : Rel B M) (x a b w : Int) : Lk B (dh_carrot x a b w M) (mo_carrot x a b w) := by
  have c3 : chg [0] M (up2 M 278 13 0) := chg.rf.up (by decide)
  have k1 : up2 M 278 13 0 278 1 = M 278 1 := rd_k (by decide)
  obtain ⟨s1, s2, s3, s3a, s3b, s4⟩ := h.S
  obtain ⟨o1, o2, o3, o4⟩ := h.C
  have hw : dh_isWay w = if w = 1 ∨ w = -1 then 1 else 0 := by
    unfold dh_isWay
    by_cases q : w = 1
    · rw [if_pos q, if_pos (Or.inl q)]
    · by_cases q2 : w = -1
      · rw [if_neg q, if_pos q2, if_pos (Or.inr q2)]
      · rw [if_neg q, if_neg q2, if_neg (by omega)]
  unfold Lk dh_carrot
  by_cases hc : (0 ≤ x ∧ x < M 3 2) ∧ (w = 1 ∨ w = -1) ∧ 0 ≤ a ∧ a ≤ b ∧ b ≤ 9999
  · obtain ⟨hd, hw', ha, hab, hb⟩ := hc
    refine Tc_f (by rw [isDonkey_y s3 hd.1 hd.2]; decide) (Tc_f (by rw [hw, if_pos hw']; decide) (Tc_f (by omega) (Tc_f (by omega) (Tc_t hb ?_))))
    obtain ⟨n, hn⟩ : ∃ n : Nat, M 5 4 = (n : Int) := ⟨(M 5 4).toNat, by omega⟩
    -- the reference behind its checks
    have mo : ∀ M2 : MEM, M2 278 1 = M 278 1 → ∀ P : Int × MEM → Prop, Tc (mo_carrot_j49 x a b w (up2 M2 278 13 0)) P → Tc (mo_carrot x a b w M2) P := fun M2 e P q => by
      unfold mo_carrot
      refine Tc_u (Tc_f (by rw [moDonkey_y h.S (by rw [rd_k (by decide)]; exact e) hd]; decide) (Tc_f (by rw [moIn_y (by omega)]; decide) (Tc_f (by rw [moIn_y (by omega)]; decide) ?_)))
      by_cases q1 : w = 1
      · exact Tc_t q1 q
      · exact Tc_f q1 (Tc_t (by omega) q)
    by_cases h10 : n = 10
    · have e : ca_add 5 x a b w M = some (0, M) := by unfold ca_add; rw [if_neg (by omega), if_neg (by omega)]
      refine Tc_e e (Tc_t rfl (Tc_some ?_))
      dsimp only
      refine mo M rfl _ ?_
      unfold mo_carrot_j49
      exact Tc_t (by rw [rd_k (by decide)]; omega) (Tc_some ⟨rfl, h.go0 c3⟩)
    · have e : ca_add 5 x a b w M = some (1, up2 (up2 (up2 (up2 (up2 M 6 n x) 7 n a) 8 n b) 9 n w) 5 4 ((n : Int) + 1)) := by
        have r1 : up2 M 6 n x 5 4 = (n : Int) := by rw [rd_a (by decide)]; exact hn
        have r2 : up2 (up2 M 6 n x) 7 n a 5 4 = (n : Int) := by rw [rd_a (by decide)]; exact r1
        have r3 : up2 (up2 (up2 M 6 n x) 7 n a) 8 n b 5 4 = (n : Int) := by rw [rd_a (by decide)]; exact r2
        have r4 : up2 (up2 (up2 (up2 M 6 n x) 7 n a) 8 n b) 9 n w 5 4 = (n : Int) := by rw [rd_a (by decide)]; exact r3
        unfold ca_add
        rw [if_neg (by omega), if_pos (by omega), if_pos (by omega), hn, toNat_c, Option.bind_some, r1, if_pos (by omega), toNat_c, Option.bind_some, r2, if_pos (by omega), toNat_c, Option.bind_some, r3, if_pos (by omega), toNat_c, Option.bind_some, r4, wr_i (by omega) (by omega)]
        rfl
      have g1 : ∀ c, (c < 5 ∨ 9 < c) → up2 (up2 (up2 (up2 (up2 M 6 n x) 7 n a) 8 n b) 9 n w) 5 4 ((n : Int) + 1) c = M c := fun c q => by rw [up2_ne (by omega), up2_ne (by omega), up2_ne (by omega), up2_ne (by omega), up2_ne (by omega)]
      have g2 : up2 (up2 (up2 (up2 (up2 M 6 n x) 7 n a) 8 n b) 9 n w) 5 4 ((n : Int) + 1) 5 4 = (n : Int) + 1 := rd_same
      have g6 : ∀ k, up2 (up2 (up2 (up2 (up2 M 6 n x) 7 n a) 8 n b) 9 n w) 5 4 ((n : Int) + 1) (5 + 1) k = if k = n then x else M (5 + 1) k := fun k => by
        rw [rd_a (by decide), rd_a (by decide), rd_a (by decide), rd_a (by decide)]
        by_cases z : k = n
        · subst z; rw [rd_same, if_pos rfl]
        · rw [rd_k z, if_neg z]
      have g7 : ∀ k, up2 (up2 (up2 (up2 (up2 M 6 n x) 7 n a) 8 n b) 9 n w) 5 4 ((n : Int) + 1) (5 + 2) k = if k = n then a else M (5 + 2) k := fun k => by
        rw [rd_a (by decide), rd_a (by decide), rd_a (by decide)]
        by_cases z : k = n
        · subst z; rw [rd_same, if_pos rfl]
        · rw [rd_k z, if_neg z, rd_a (by decide)]
      have g8 : ∀ k, up2 (up2 (up2 (up2 (up2 M 6 n x) 7 n a) 8 n b) 9 n w) 5 4 ((n : Int) + 1) (5 + 3) k = if k = n then b else M (5 + 3) k := fun k => by
        rw [rd_a (by decide), rd_a (by decide)]
        by_cases z : k = n
        · subst z; rw [rd_same, if_pos rfl]
        · rw [rd_k z, if_neg z, rd_a (by decide), rd_a (by decide)]
      have g9 : ∀ k, up2 (up2 (up2 (up2 (up2 M 6 n x) 7 n a) 8 n b) 9 n w) 5 4 ((n : Int) + 1) (5 + 4) k = if k = n then w else M (5 + 4) k := fun k => by
        rw [rd_a (by decide)]
        by_cases z : k = n
        · subst z; rw [rd_same, if_pos rfl]
        · rw [rd_k z, if_neg z, rd_a (by decide), rd_a (by decide), rd_a (by decide)]
      have cc : chg [0, 5] M (up2 (up2 (up2 (up2 (up2 M 6 n x) 7 n a) 8 n b) 9 n w) 5 4 ((n : Int) + 1)) := ((((chg.rf.up (by rw [show rg 6 n = 5 from rfl]; decide)).up (by rw [show rg 7 n = 5 from rfl]; decide)).up (by rw [show rg 8 n = 5 from rfl]; decide)).up (by rw [show rg 9 n = 5 from rfl]; decide)).up (by decide)
      generalize up2 (up2 (up2 (up2 (up2 M 6 n x) 7 n a) 8 n b) 9 n w) 5 4 ((n : Int) + 1) = M2 at *
      refine Tc_e e (Tc_f (by show ¬ (1 : Int) = 0; decide) (Tc_some ?_))
      dsimp only
      refine mo M2 (by rw [g1 278 (by omega)]) _ ?_
      have k7 : up2 M2 278 13 0 278 7 = (n : Int) := by rw [rd_k (by decide), g1 278 (by omega)]; omega
      have w4 : wr (4 * (n : Int)) = ((4 * n : Nat) : Int) := (wr_i (by omega) (by omega)).trans (by omega)
      have w41 : wr (((4 * n : Nat) : Int) + 1) = ((4 * n + 1 : Nat) : Int) := (wr_i (by omega) (by omega)).trans (by omega)
      have w42 : wr (((4 * n : Nat) : Int) + 2) = ((4 * n + 2 : Nat) : Int) := (wr_i (by omega) (by omega)).trans (by omega)
      have w43 : wr (((4 * n : Nat) : Int) + 3) = ((4 * n + 3 : Nat) : Int) := (wr_i (by omega) (by omega)).trans (by omega)
      have el : mo_layCarrot (n : Int) x a b w (up2 M2 278 13 0) = some (up2 (up2 (up2 (up2 (up2 M2 278 13 0) 282 (4 * n) x) 282 (4 * n + 1) a) 282 (4 * n + 2) b) 282 (4 * n + 3) w) := by
        unfold mo_layCarrot
        rw [w4, w41, w42, w43, if_pos (by omega), toNat_c, Option.bind_some, if_pos (by omega), toNat_c, Option.bind_some, if_pos (by omega), toNat_c, Option.bind_some, if_pos (by omega), toNat_c, Option.bind_some]
      unfold mo_carrot_j49
      rw [k7]
      have r7 : up2 (up2 (up2 (up2 (up2 M2 278 13 0) 282 (4 * n) x) 282 (4 * n + 1) a) 282 (4 * n + 2) b) 282 (4 * n + 3) w 278 7 = (n : Int) := by rw [rd_a (by decide), rd_a (by decide), rd_a (by decide), rd_a (by decide)]; exact k7
      refine Tc_f (by omega) (Tc_e el (Tc_u (Tc_some ?_)))
      rw [r7, wr_i (x := (n : Int) + 1) (by omega) (by omega)]
      have cF : chg [0, 5] M (up2 (up2 (up2 (up2 (up2 (up2 M2 278 13 0) 282 (4 * n) x) 282 (4 * n + 1) a) 282 (4 * n + 2) b) 282 (4 * n + 3) w) 278 7 ((n : Int) + 1)) := (((((cc.up (by decide)).up (by rw [rg_car (by omega)]; decide)).up (by rw [rg_car (by omega)]; decide)).up (by rw [rg_car (by omega)]; decide)).up (by rw [rg_car (by omega)]; decide)).up (by decide)
      have f1 : ∀ c, c ≠ 278 → c ≠ 282 → up2 (up2 (up2 (up2 (up2 (up2 M2 278 13 0) 282 (4 * n) x) 282 (4 * n + 1) a) 282 (4 * n + 2) b) 282 (4 * n + 3) w) 278 7 ((n : Int) + 1) c = M2 c := fun c a b => by rw [up2_ne a, up2_ne b, up2_ne b, up2_ne b, up2_ne b, up2_ne a]
      have f2 : up2 (up2 (up2 (up2 (up2 (up2 M2 278 13 0) 282 (4 * n) x) 282 (4 * n + 1) a) 282 (4 * n + 2) b) 282 (4 * n + 3) w) 278 7 ((n : Int) + 1) 278 7 = (n : Int) + 1 := rd_same
      have f3 : ∀ k, up2 (up2 (up2 (up2 (up2 (up2 M2 278 13 0) 282 (4 * n) x) 282 (4 * n + 1) a) 282 (4 * n + 2) b) 282 (4 * n + 3) w) 278 7 ((n : Int) + 1) 282 k = if k = 4 * n then x else if k = 4 * n + 1 then a else if k = 4 * n + 2 then b else if k = 4 * n + 3 then w else M 282 k := fun k => by
        rw [rd_a (by decide)]
        by_cases z3 : k = 4 * n + 3
        · subst z3; rw [rd_same, if_neg (by omega), if_neg (by omega), if_neg (by omega), if_pos rfl]
        · rw [rd_k z3]
          by_cases z2 : k = 4 * n + 2
          · subst z2; rw [rd_same, if_neg (by omega), if_neg (by omega), if_pos rfl]
          · rw [rd_k z2]
            by_cases z1 : k = 4 * n + 1
            · subst z1; rw [rd_same, if_neg (by omega), if_pos rfl]
            · rw [rd_k z1]
              by_cases z0 : k = 4 * n
              · subst z0; rw [rd_same, if_pos rfl]
              · rw [rd_k z0, if_neg z0, if_neg z1, if_neg z2, if_neg z3, rd_a (by decide), g1 282 (by omega)]
      generalize up2 (up2 (up2 (up2 (up2 (up2 M2 278 13 0) 282 (4 * n) x) 282 (4 * n + 1) a) 282 (4 * n + 2) b) 282 (4 * n + 3) w) 278 7 ((n : Int) + 1) = M' at *
      refine ⟨?_, ?_⟩
      · dsimp only
        rw [f2, wr_i (by omega) (by omega)]; omega
      · dsimp only
        refine h.go (Int.le_refl _) cF (by decide) (fun q => absurd q (by decide)) (fun q => absurd q (by decide)) (fun q => absurd q (by decide)) (fun q => absurd q (by decide)) (fun _ => ?_) (fun q => absurd q (by decide)) (fun q => absurd q (by decide)) (fun q => absurd q (by decide)) (fun q => absurd q (by decide)) (fun q => absurd q (by decide)) (fun q => absurd q (by decide))
        unfold C_C snC
        rw [f2, f1 5 (by decide) (by decide), f1 (5 + 1) (by decide) (by decide), f1 (5 + 2) (by decide) (by decide), f1 (5 + 3) (by decide) (by decide), f1 (5 + 4) (by decide) (by decide), g2]
        refine ⟨rfl, by omega, by omega, fun i hi => ?_⟩
        by_cases z : i = n
        · subst z
          rw [show M' 282 (4 * i) = x by rw [f3, if_pos rfl], show M' 282 (4 * i + 1) = a by rw [f3, if_neg (by omega), if_pos rfl], show M' 282 (4 * i + 2) = b by rw [f3, if_neg (by omega), if_neg (by omega), if_pos rfl], show M' 282 (4 * i + 3) = w by rw [f3, if_neg (by omega), if_neg (by omega), if_neg (by omega), if_pos rfl], show M2 (5 + 1) i = x by rw [g6, if_pos rfl], show M2 (5 + 2) i = a by rw [g7, if_pos rfl], show M2 (5 + 3) i = b by rw [g8, if_pos rfl], show M2 (5 + 4) i = w by rw [g9, if_pos rfl]]
          exact ⟨rfl, rfl, rfl, rfl, hw'⟩
        · have f4 : ∀ q, q < 4 → M' 282 (4 * i + q) = M 282 (4 * i + q) := fun q hq => by rw [f3, if_neg (by omega), if_neg (by omega), if_neg (by omega), if_neg (by omega)]
          rw [show M' 282 (4 * i) = M 282 (4 * i) from f4 0 (by omega), f4 1 (by omega), f4 2 (by omega), f4 3 (by omega), show M2 (5 + 1) i = M (5 + 1) i by rw [g6, if_neg z], show M2 (5 + 2) i = M (5 + 2) i by rw [g7, if_neg z], show M2 (5 + 3) i = M (5 + 3) i by rw [g8, if_neg z], show M2 (5 + 4) i = M (5 + 4) i by rw [g9, if_neg z]]
          exact o4 i (by omega)
  · have mo : Tc (mo_carrot x a b w M) (fun q => q.1 = -1 ∧ Rel B q.2) := by
      have fin : Tc (some ((-1 : Int), up2 M 278 13 0)) (fun q => q.1 = -1 ∧ Rel B q.2) := Tc_some ⟨rfl, h.go0 c3⟩
      unfold mo_carrot
      refine Tc_u ?_
      by_cases hd : 0 ≤ x ∧ x < M 3 2
      · refine Tc_f (by rw [moDonkey_y h.S k1 hd]; decide) ?_
        by_cases ha : 0 ≤ a ∧ a ≤ 9999
        · refine Tc_f (by rw [moIn_y ha]; decide) ?_
          by_cases hb : a ≤ b ∧ b ≤ 9999
          · refine Tc_f (by rw [moIn_y hb]; decide) (Tc_f (fun q => hc ⟨hd, Or.inl q, ha.1, hb.1, hb.2⟩) (Tc_f (fun q => hc ⟨hd, Or.inr q, ha.1, hb.1, hb.2⟩) fin))
          · exact Tc_t (moIn_n hb) fin
        · exact Tc_t (moIn_n ha) fin
      · exact Tc_t (moDonkey_n h.S k1 hd) fin
    refine Tc_i (fun _ => Tc_some mo) (fun q1 => Tc_i (fun _ => Tc_some mo) (fun q2 => Tc_i (fun _ => Tc_some mo) (fun q3 => Tc_i (fun _ => Tc_some mo) (fun q4 => Tc_f (fun q5 => hc ⟨?_, ?_, by omega, by omega, q5⟩) (Tc_some mo)))))
    · exact Classical.byContradiction fun y => q1 (isDonkey_n s3 y)
    · exact Classical.byContradiction fun y => q2 (by rw [hw, if_neg y])
end
section
-- ===== owe =====
theorem person_eq (x : Int) : dh_isPerson x = if 0 ≤ x ∧ x ≤ 5 then 1 else 0 := by
  unfold dh_isPerson
  by_cases q : x < 0
  · rw [if_pos q, if_neg (by omega)]
  · by_cases q2 : 6 ≤ x
    · rw [if_neg q, if_pos q2, if_neg (by omega)]
    · rw [if_neg q, if_neg q2, if_pos (by omega)]
theorem c_owe {B : Int} {M : MEM} (h : Rel B M) (x1 x2 x3 x4 x5 : Int) : Lk B (dh_owe x1 x2 x3 x4 x5 M) (mo_owe x1 x2 x3 x4 x5) := by
  have c3 : chg [0] M (up2 M 278 13 0) := chg.rf.up (by decide)
  have k1 : up2 M 278 13 0 278 1 = M 278 1 := rd_k (by decide)
  obtain ⟨s1, s2, s3, s3a, s3b, s4⟩ := h.S
  obtain ⟨o1, o2, o3, o4⟩ := h.O
  have fin : Tc (some ((-1 : Int), up2 M 278 13 0)) (fun q => q.1 = -1 ∧ Rel B q.2) := Tc_some ⟨rfl, h.go0 c3⟩
  unfold Lk dh_owe
  by_cases hc : ((0 ≤ x1 ∧ x1 ≤ 5) ∧ (0 ≤ x2 ∧ x2 ≤ 5) ∧ x1 ≠ x2) ∧ (1 ≤ x3 ∧ x3 ≤ 99) ∧ (0 ≤ x4 ∧ x4 < M 3 2) ∧ 0 ≤ x5 ∧ x5 ≤ 11
  · obtain ⟨⟨p1, p2, p3⟩, hm, hd, h5⟩ := hc
    refine Tc_f (by rw [person_eq, if_pos p1]; decide) (Tc_f (by rw [person_eq, if_pos p2]; decide) (Tc_f p3 ?_))
    unfold dh_owe_j24
    refine Tc_f (by decide) (Tc_f (by omega) (Tc_f (by omega) (Tc_f (by rw [isDonkey_y s3 hd.1 hd.2]; decide) (Tc_f (by omega) (Tc_t (by omega) ?_)))))
    obtain ⟨n, hn⟩ : ∃ n : Nat, M 34 6 = (n : Int) := ⟨(M 34 6).toNat, by omega⟩
    by_cases h10 : n = 10
    · have e : co_add x1 x2 x3 x4 x5 M = some (0, M) := by unfold co_add; rw [if_neg (by omega), if_neg (by omega)]
      refine Tc_e e (Tc_t rfl (Tc_some ?_))
      dsimp only
      unfold mo_owe
      exact Tc_u (Tc_f (by rw [moIn_y p1]; decide) (Tc_f (by rw [moIn_y p2]; decide) (Tc_f p3 (Tc_f (by rw [moIn_y hm]; decide) (Tc_f (by rw [moDonkey_y h.S k1 hd]; decide) (Tc_f (by rw [moIn_y h5]; decide) (Tc_t (by rw [rd_k (by decide)]; omega) (Tc_some ⟨rfl, h.go0 c3⟩))))))))
    · have e : co_add x1 x2 x3 x4 x5 M = some (1, up2 (up2 (up2 (up2 (up2 (up2 M 35 n x1) 36 n x2) 37 n x3) 38 n x4) 39 n x5) 34 6 ((n : Int) + 1)) := by
        have r1 : up2 M 35 n x1 34 6 = (n : Int) := by rw [rd_a (by decide)]; exact hn
        have r2 : up2 (up2 M 35 n x1) 36 n x2 34 6 = (n : Int) := by rw [rd_a (by decide)]; exact r1
        have r3 : up2 (up2 (up2 M 35 n x1) 36 n x2) 37 n x3 34 6 = (n : Int) := by rw [rd_a (by decide)]; exact r2
        have r4 : up2 (up2 (up2 (up2 M 35 n x1) 36 n x2) 37 n x3) 38 n x4 34 6 = (n : Int) := by rw [rd_a (by decide)]; exact r3
        have r5 : up2 (up2 (up2 (up2 (up2 M 35 n x1) 36 n x2) 37 n x3) 38 n x4) 39 n x5 34 6 = (n : Int) := by rw [rd_a (by decide)]; exact r4
        unfold co_add
        rw [if_neg (by omega), if_pos (by omega), if_pos (by omega), hn, toNat_c, Option.bind_some, r1, if_pos (by omega), toNat_c, Option.bind_some, r2, if_pos (by omega), toNat_c, Option.bind_some, r3, if_pos (by omega), toNat_c, Option.bind_some, r4, if_pos (by omega), toNat_c, Option.bind_some, r5, wr_i (by omega) (by omega)]
        rfl
      have g1 : ∀ c, (c < 34 ∨ 39 < c) → up2 (up2 (up2 (up2 (up2 (up2 M 35 n x1) 36 n x2) 37 n x3) 38 n x4) 39 n x5) 34 6 ((n : Int) + 1) c = M c := fun c q => by rw [up2_ne (by omega), up2_ne (by omega), up2_ne (by omega), up2_ne (by omega), up2_ne (by omega), up2_ne (by omega)]
      have g2 : up2 (up2 (up2 (up2 (up2 (up2 M 35 n x1) 36 n x2) 37 n x3) 38 n x4) 39 n x5) 34 6 ((n : Int) + 1) 34 6 = (n : Int) + 1 := rd_same
      have one : ∀ (c : Nat) (v : Int) (f : Nat → Int), (c = 35 ∧ v = x1) ∨ (c = 36 ∧ v = x2) ∨ (c = 37 ∧ v = x3) ∨ (c = 38 ∧ v = x4) ∨ (c = 39 ∧ v = x5) → up2 (up2 (up2 (up2 (up2 (up2 M 35 n x1) 36 n x2) 37 n x3) 38 n x4) 39 n x5) 34 6 ((n : Int) + 1) c n = v ∧ ∀ k, k ≠ n → up2 (up2 (up2 (up2 (up2 (up2 M 35 n x1) 36 n x2) 37 n x3) 38 n x4) 39 n x5) 34 6 ((n : Int) + 1) c k = M c k := fun c v f hcv => by
        rcases hcv with ⟨rfl, rfl⟩ | ⟨rfl, rfl⟩ | ⟨rfl, rfl⟩ | ⟨rfl, rfl⟩ | ⟨rfl, rfl⟩
        · exact ⟨by rw [rd_a (by decide), rd_a (by decide), rd_a (by decide), rd_a (by decide), rd_a (by decide), rd_same], fun k hk => by rw [rd_a (by decide), rd_a (by decide), rd_a (by decide), rd_a (by decide), rd_a (by decide), rd_k hk]⟩
        · exact ⟨by rw [rd_a (by decide), rd_a (by decide), rd_a (by decide), rd_a (by decide), rd_same], fun k hk => by rw [rd_a (by decide), rd_a (by decide), rd_a (by decide), rd_a (by decide), rd_k hk, rd_a (by decide)]⟩
        · exact ⟨by rw [rd_a (by decide), rd_a (by decide), rd_a (by decide), rd_same], fun k hk => by rw [rd_a (by decide), rd_a (by decide), rd_a (by decide), rd_k hk, rd_a (by decide), rd_a (by decide)]⟩
        · exact ⟨by rw [rd_a (by decide), rd_a (by decide), rd_same], fun k hk => by rw [rd_a (by decide), rd_a (by decide), rd_k hk, rd_a (by decide), rd_a (by decide), rd_a (by decide)]⟩
        · exact ⟨by rw [rd_a (by decide), rd_same], fun k hk => by rw [rd_a (by decide), rd_k hk, rd_a (by decide), rd_a (by decide), rd_a (by decide), rd_a (by decide)]⟩
      have cc : chg [0, 6] M (up2 (up2 (up2 (up2 (up2 (up2 M 35 n x1) 36 n x2) 37 n x3) 38 n x4) 39 n x5) 34 6 ((n : Int) + 1)) := (((((chg.rf.up (by rw [show rg 35 n = 6 from rfl]; decide)).up (by rw [show rg 36 n = 6 from rfl]; decide)).up (by rw [show rg 37 n = 6 from rfl]; decide)).up (by rw [show rg 38 n = 6 from rfl]; decide)).up (by rw [show rg 39 n = 6 from rfl]; decide)).up (by decide)
      generalize up2 (up2 (up2 (up2 (up2 (up2 M 35 n x1) 36 n x2) 37 n x3) 38 n x4) 39 n x5) 34 6 ((n : Int) + 1) = M2 at *
      refine Tc_e e (Tc_f (by show ¬ (1 : Int) = 0; decide) (Tc_some ?_))
      dsimp only
      unfold mo_owe
      have k41 : up2 M2 278 13 0 278 41 = (n : Int) := by rw [rd_k (by decide), g1 278 (by omega)]; omega
      have w5 : wr (5 * (n : Int)) = ((5 * n : Nat) : Int) := (wr_i (by omega) (by omega)).trans (by omega)
      have w51 : wr (((5 * n : Nat) : Int) + 1) = ((5 * n + 1 : Nat) : Int) := (wr_i (by omega) (by omega)).trans (by omega)
      have w52 : wr (((5 * n : Nat) : Int) + 2) = ((5 * n + 2 : Nat) : Int) := (wr_i (by omega) (by omega)).trans (by omega)
      have w53 : wr (((5 * n : Nat) : Int) + 3) = ((5 * n + 3 : Nat) : Int) := (wr_i (by omega) (by omega)).trans (by omega)
      have w54 : wr (((5 * n : Nat) : Int) + 4) = ((5 * n + 4 : Nat) : Int) := (wr_i (by omega) (by omega)).trans (by omega)
      refine Tc_u (Tc_f (by rw [moIn_y p1]; decide) (Tc_f (by rw [moIn_y p2]; decide) (Tc_f p3 (Tc_f (by rw [moIn_y hm]; decide) (Tc_f (by rw [moDonkey_y h.S (by rw [rd_k (by decide), g1 278 (by omega)]) hd]; decide) (Tc_f (by rw [moIn_y h5]; decide) (Tc_f (by rw [k41]; omega) ?_)))))))
      rw [k41, w5, w51, w52, w53, w54]
      refine Tc_t (by omega) (Tc_u (Tc_t (by omega) (Tc_u (Tc_t (by omega) (Tc_u (Tc_t (by omega) (Tc_u (Tc_t (by omega) (Tc_u ?_)))))))))
      simp only [toNat_c]
      have r41 : up2 (up2 (up2 (up2 (up2 (up2 M2 278 13 0) 295 (5 * n) x1) 295 (5 * n + 1) x2) 295 (5 * n + 2) x3) 295 (5 * n + 3) x4) 295 (5 * n + 4) x5 278 41 = (n : Int) := by rw [rd_a (by decide), rd_a (by decide), rd_a (by decide), rd_a (by decide), rd_a (by decide)]; exact k41
      rw [r41, wr_i (x := (n : Int) + 1) (by omega) (by omega)]
      have cF : chg [0, 6] M (up2 (up2 (up2 (up2 (up2 (up2 (up2 M2 278 13 0) 295 (5 * n) x1) 295 (5 * n + 1) x2) 295 (5 * n + 2) x3) 295 (5 * n + 3) x4) 295 (5 * n + 4) x5) 278 41 ((n : Int) + 1)) := ((((((cc.up (by decide)).up (by rw [show ∀ k, rg 295 k = 6 from fun _ => rfl]; decide)).up (by rw [show ∀ k, rg 295 k = 6 from fun _ => rfl]; decide)).up (by rw [show ∀ k, rg 295 k = 6 from fun _ => rfl]; decide)).up (by rw [show ∀ k, rg 295 k = 6 from fun _ => rfl]; decide)).up (by rw [show ∀ k, rg 295 k = 6 from fun _ => rfl]; decide)).up (by decide)
      have f1 : ∀ c, c ≠ 278 → c ≠ 295 → up2 (up2 (up2 (up2 (up2 (up2 (up2 M2 278 13 0) 295 (5 * n) x1) 295 (5 * n + 1) x2) 295 (5 * n + 2) x3) 295 (5 * n + 3) x4) 295 (5 * n + 4) x5) 278 41 ((n : Int) + 1) c = M2 c := fun c a b => by rw [up2_ne a, up2_ne b, up2_ne b, up2_ne b, up2_ne b, up2_ne b, up2_ne a]
      have f2 : up2 (up2 (up2 (up2 (up2 (up2 (up2 M2 278 13 0) 295 (5 * n) x1) 295 (5 * n + 1) x2) 295 (5 * n + 2) x3) 295 (5 * n + 3) x4) 295 (5 * n + 4) x5) 278 41 ((n : Int) + 1) 278 41 = (n : Int) + 1 := rd_same
      have f3 : ∀ k, up2 (up2 (up2 (up2 (up2 (up2 (up2 M2 278 13 0) 295 (5 * n) x1) 295 (5 * n + 1) x2) 295 (5 * n + 2) x3) 295 (5 * n + 3) x4) 295 (5 * n + 4) x5) 278 41 ((n : Int) + 1) 295 k = if k = 5 * n then x1 else if k = 5 * n + 1 then x2 else if k = 5 * n + 2 then x3 else if k = 5 * n + 3 then x4 else if k = 5 * n + 4 then x5 else M 295 k := fun k => by
        rw [rd_a (by decide)]
        by_cases z4 : k = 5 * n + 4
        · subst z4; rw [rd_same, if_neg (by omega), if_neg (by omega), if_neg (by omega), if_neg (by omega), if_pos rfl]
        · rw [rd_k z4]
          by_cases z3 : k = 5 * n + 3
          · subst z3; rw [rd_same, if_neg (by omega), if_neg (by omega), if_neg (by omega), if_pos rfl]
          · rw [rd_k z3]
            by_cases z2 : k = 5 * n + 2
            · subst z2; rw [rd_same, if_neg (by omega), if_neg (by omega), if_pos rfl]
            · rw [rd_k z2]
              by_cases z1 : k = 5 * n + 1
              · subst z1; rw [rd_same, if_neg (by omega), if_pos rfl]
              · rw [rd_k z1]
                by_cases z0 : k = 5 * n
                · subst z0; rw [rd_same, if_pos rfl]
                · rw [rd_k z0, if_neg z0, if_neg z1, if_neg z2, if_neg z3, if_neg z4, rd_a (by decide), g1 295 (by omega)]
      generalize up2 (up2 (up2 (up2 (up2 (up2 (up2 M2 278 13 0) 295 (5 * n) x1) 295 (5 * n + 1) x2) 295 (5 * n + 2) x3) 295 (5 * n + 3) x4) 295 (5 * n + 4) x5) 278 41 ((n : Int) + 1) = M' at *
      refine Tc_u (Tc_some ⟨?_, ?_⟩)
      · dsimp only
        rw [f2, wr_i (by omega) (by omega)]; omega
      · dsimp only
        refine h.go (Int.le_refl _) cF (by decide) (fun q => absurd q (by decide)) (fun q => absurd q (by decide)) (fun q => absurd q (by decide)) (fun q => absurd q (by decide)) (fun q => absurd q (by decide)) (fun _ => ?_) (fun q => absurd q (by decide)) (fun q => absurd q (by decide)) (fun q => absurd q (by decide)) (fun q => absurd q (by decide)) (fun q => absurd q (by decide))
        have e32 : M' 3 2 = M 3 2 := cF 3 2 (by decide)
        unfold C_O
        rw [f2, e32, f1 34 (by decide) (by decide), f1 35 (by decide) (by decide), f1 36 (by decide) (by decide), f1 37 (by decide) (by decide), f1 38 (by decide) (by decide), f1 39 (by decide) (by decide), g2]
        have b1 := one 35 x1 (M 0) (Or.inl ⟨rfl, rfl⟩)
        have b2 := one 36 x2 (M 0) (Or.inr (Or.inl ⟨rfl, rfl⟩))
        have b3 := one 37 x3 (M 0) (Or.inr (Or.inr (Or.inl ⟨rfl, rfl⟩)))
        have b4 := one 38 x4 (M 0) (Or.inr (Or.inr (Or.inr (Or.inl ⟨rfl, rfl⟩))))
        have b5 := one 39 x5 (M 0) (Or.inr (Or.inr (Or.inr (Or.inr ⟨rfl, rfl⟩))))
        refine ⟨rfl, by omega, by omega, fun i hi => ?_⟩
        by_cases z : i = n
        · subst z
          rw [b1.1, b2.1, b3.1, b4.1, b5.1]
          refine ⟨by rw [f3, if_pos rfl], by rw [f3, if_neg (by omega), if_pos rfl], by rw [f3, if_neg (by omega), if_neg (by omega), if_pos rfl], by rw [f3, if_neg (by omega), if_neg (by omega), if_neg (by omega), if_pos rfl], by rw [f3, if_neg (by omega), if_neg (by omega), if_neg (by omega), if_neg (by omega), if_pos rfl], hm, hd, h5.1, by omega⟩
        · have f4 : ∀ q, q < 5 → M' 295 (5 * i + q) = M 295 (5 * i + q) := fun q hq => by rw [f3, if_neg (by omega), if_neg (by omega), if_neg (by omega), if_neg (by omega), if_neg (by omega)]
          rw [b1.2 i z, b2.2 i z, b3.2 i z, b4.2 i z, b5.2 i z, show M' 295 (5 * i) = M 295 (5 * i) from f4 0 (by omega), f4 1 (by omega), f4 2 (by omega), f4 3 (by omega), f4 4 (by omega)]
          exact o4 i (by omega)
  · have mo : Tc (mo_owe x1 x2 x3 x4 x5 M) (fun q => q.1 = -1 ∧ Rel B q.2) := by
      unfold mo_owe
      refine Tc_u ?_
      by_cases p1 : 0 ≤ x1 ∧ x1 ≤ 5
      · refine Tc_f (by rw [moIn_y p1]; decide) ?_
        by_cases p2 : 0 ≤ x2 ∧ x2 ≤ 5
        · refine Tc_f (by rw [moIn_y p2]; decide) (Tc_i (fun _ => fin) (fun p3 => ?_))
          by_cases hm : 1 ≤ x3 ∧ x3 ≤ 99
          · refine Tc_f (by rw [moIn_y hm]; decide) ?_
            by_cases hd : 0 ≤ x4 ∧ x4 < M 3 2
            · refine Tc_f (by rw [moDonkey_y h.S k1 hd]; decide) (Tc_t (moIn_n (fun q => hc ⟨⟨p1, p2, p3⟩, hm, hd, q⟩)) fin)
            · exact Tc_t (moDonkey_n h.S k1 hd) fin
          · exact Tc_t (moIn_n hm) fin
        · exact Tc_t (moIn_n p2) fin
      · exact Tc_t (moIn_n p1) fin
    have go : Tc (some ((-1 : Int), M)) (fun p => Tc (mo_owe x1 x2 x3 x4 x5 p.2) (fun q => q.1 = p.1 ∧ Rel B q.2)) := Tc_some mo
    have j23 : Tc (dh_owe_j23 x1 x2 x3 x4 x5 M) (fun p => Tc (mo_owe x1 x2 x3 x4 x5 p.2) (fun q => q.1 = p.1 ∧ Rel B q.2)) := by
      unfold dh_owe_j23 dh_owe_j24
      exact Tc_t rfl go
    refine Tc_i (fun _ => j23) (fun q1 => Tc_i (fun _ => j23) (fun q2 => Tc_i (fun _ => j23) (fun q3 => ?_)))
    unfold dh_owe_j24
    refine Tc_f (by decide) (Tc_i (fun _ => go) (fun q4 => Tc_i (fun _ => go) (fun q5 => Tc_i (fun _ => go) (fun q6 => Tc_i (fun _ => go) (fun q7 => Tc_f (fun q8 => hc ⟨⟨?_, ?_, q3⟩, by omega, ?_, by omega, by omega⟩) go)))))
    · exact Classical.byContradiction fun y => q1 (by rw [person_eq, if_neg y])
    · exact Classical.byContradiction fun y => q2 (by rw [person_eq, if_neg y])
    · exact Classical.byContradiction fun y => q6 (isDonkey_n s3 y)
end
section
-- ===== sign =====
theorem sgn_bits (v : BitVec 32) : ∀ s : Nat, (s = 24 ∨ s = 16 ∨ s = 8 ∨ s = 0) → ((v >>> s) &&& 255#32).setWidth 8 = (v.sshiftRight s).setWidth 8 := by
  intro s hs
  apply BitVec.eq_of_getLsbD_eq
  intro i hi
  have h255 : (255#32).getLsbD i = true := by
    have : i = 0 ∨ i = 1 ∨ i = 2 ∨ i = 3 ∨ i = 4 ∨ i = 5 ∨ i = 6 ∨ i = 7 := by omega
    rcases this with rfl | rfl | rfl | rfl | rfl | rfl | rfl | rfl <;> decide
  rw [BitVec.getLsbD_setWidth, BitVec.getLsbD_setWidth, BitVec.getLsbD_and, h255, BitVec.getLsbD_ushiftRight, BitVec.getLsbD_sshiftRight]
  rw [decide_eq_true hi, if_pos (by omega), decide_eq_false (by omega : ¬ 32 ≤ i)]
  simp
theorem low8 (v : BitVec 32) : v.toInt % 256 = ((v.setWidth 8).toNat : Int) := by
  rw [BitVec.toNat_setWidth, BitVec.toInt_eq_toNat_cond]
  split <;> omega
theorem and255 (v : BitVec 32) : 0 ≤ (v &&& 255#32).toInt ∧ (v &&& 255#32).toInt ≤ 255 := by
  have h : (v &&& 255#32).toNat ≤ 255 := by rw [BitVec.toNat_and]; exact Nat.and_le_right
  rw [BitVec.toInt_eq_toNat_cond, if_pos (by omega)]
  omega
theorem sx8_mod {a b : Int} (h : a % 256 = b % 256) : sx8 a = sx8 (sx8 b) := by unfold sx8; omega
theorem sign_bv (X : Int32) : ((i_and (i_ushr X (Int32.ofInt 24)) (Int32.ofInt 255)).toBitVec = (X.toBitVec >>> 24) &&& 255#32) ∧ ((i_shr X (Int32.ofInt 24)).toBitVec = X.toBitVec.sshiftRight 24) := ⟨rfl, rfl⟩
/-- one sign of the four, as the class holds it -/
noncomputable def byC (x : Int) (i : Nat) : Int := ish i_and (ish i_ushr x (24 - 8 * (i : Int))) 255
theorem sign_bv' (X : Int32) (s : Int) (n : Nat) (h : (s = 24 ∧ n = 24) ∨ (s = 16 ∧ n = 16) ∨ (s = 8 ∧ n = 8) ∨ (s = 0 ∧ n = 0)) : ((i_and (i_ushr X (Int32.ofInt s)) (Int32.ofInt 255)).toBitVec = (X.toBitVec >>> n) &&& 255#32) ∧ ((i_shr X (Int32.ofInt s)).toBitVec = X.toBitVec.sshiftRight n) := by
  rcases h with ⟨rfl, rfl⟩ | ⟨rfl, rfl⟩ | ⟨rfl, rfl⟩ | ⟨rfl, rfl⟩
  · exact ⟨rfl, rfl⟩
  · exact ⟨rfl, rfl⟩
  · exact ⟨rfl, rfl⟩
  · exact ⟨rfl, rfl⟩
theorem byC_eq (x : Int) {i : Nat} (hi : i < 4) : 0 ≤ byC x i ∧ byC x i ≤ 255 ∧ sx8 (byC x i) = sx8 (sx8 (ish i_shr x (24 - 8 * (i : Int)))) := by
  have h4 : (24 - 8 * (i : Int) = 24 ∧ 24 - 8 * i = 24) ∨ (24 - 8 * (i : Int) = 16 ∧ 24 - 8 * i = 16) ∨ (24 - 8 * (i : Int) = 8 ∧ 24 - 8 * i = 8) ∨ (24 - 8 * (i : Int) = 0 ∧ 24 - 8 * i = 0) := by omega
  have hn : 24 - 8 * i = 24 ∨ 24 - 8 * i = 16 ∨ 24 - 8 * i = 8 ∨ 24 - 8 * i = 0 := by omega
  have hb := sign_bv' (Int32.ofInt x) _ _ h4
  unfold byC
  generalize 24 - 8 * (i : Int) = s at *
  generalize 24 - 8 * i = n at *
  rw [ish_def i_and, iI_ish, ish_def i_shr]
  have e1 : (i_and (i_ushr (Int32.ofInt x) (Int32.ofInt s)) (Int32.ofInt 255)).toInt = (((Int32.ofInt x).toBitVec >>> n) &&& 255#32).toInt := by rw [← hb.1]; rfl
  have e2 : (i_shr (Int32.ofInt x) (Int32.ofInt s)).toInt = ((Int32.ofInt x).toBitVec.sshiftRight n).toInt := by rw [← hb.2]; rfl
  rw [e1, e2]
  refine ⟨(and255 _).1, (and255 _).2, sx8_mod ?_⟩
  rw [low8, low8, sgn_bits _ n hn]
theorem addFour_eq {M : MEM} {x : Int} {L : Nat} (hL : M 1 1 = (L : Int)) (h : L + 4 ≤ 80) : ∃ M', tx_addFour x M = some (1, M') ∧ M' 1 1 = (L : Int) + 4 ∧ (∀ c, c ≠ 1 → c ≠ 2 → M' c = M c) ∧ (∀ k, k ≠ 1 → M' 1 k = M 1 k) ∧ (∀ i, i < 4 → M' 2 (L + i) = byC x i) ∧ ∀ k, k < L → M' 2 k = M 2 k := by
  have hl : Tc (iter (fun s => tx_addFour_b26 x s.1 s.2) FU (24, M)) (fun r => r.2 1 1 = (L : Int) + 4 ∧ (∀ c, c ≠ 1 → c ≠ 2 → r.2 c = M c) ∧ (∀ k, k ≠ 1 → r.2 1 k = M 1 k) ∧ (∀ i, i < 4 → r.2 2 (L + i) = byC x i) ∧ ∀ k, k < L → r.2 2 k = M 2 k) := by
    refine Tc_n (fun i s => s.1 = 24 - 8 * (i : Int) ∧ s.2 1 1 = (L : Int) + i ∧ (∀ c, c ≠ 1 → c ≠ 2 → s.2 c = M c) ∧ (∀ k, k ≠ 1 → s.2 1 k = M 1 k) ∧ (∀ j, j < i → s.2 2 (L + j) = byC x j) ∧ ∀ k, k < L → s.2 2 k = M 2 k) 4 ⟨rfl, by show M 1 1 = _; omega, fun _ _ _ => rfl, fun _ _ => rfl, fun j hj => by omega, fun _ _ => rfl⟩ (by omega) (fun i s hi hI => ?_) (fun s hI => ?_)
    · obtain ⟨z, M1⟩ := s
      obtain ⟨rfl, q1, q2, q3, q4, q5⟩ := hI
      dsimp only at q1 q2 q3 q4 q5 ⊢
      have e1 : M1 1 1 = ((L + i : Nat) : Int) := by rw [q1]; omega
      have w : wr (24 - 8 * (i : Int) + -8) = 24 - 8 * ((i + 1 : Nat) : Int) := (wr_i (by omega) (by omega)).trans (by omega)
      unfold tx_addFour_b26
      rw [e1, toNat_c, w]
      refine Tc_f (by omega) (Tc_t (by omega) (Tc_u (Tc_u (Tc_inl ⟨rfl, ?_, fun c c1 c2 => ?_, fun k hk => ?_, fun j hj => ?_, fun k hk => ?_⟩))))
      · dsimp only
        rw [rd_same, rd_a (by decide), e1]
        exact (wr_i (by omega) (by omega)).trans (by omega)
      · dsimp only; rw [up2_ne c1, up2_ne c2]; exact q2 c c1 c2
      · dsimp only; rw [rd_k hk, rd_a (by decide)]; exact q3 k hk
      · dsimp only
        rw [rd_a (by decide)]
        by_cases e : j = i
        · subst e; exact rd_same
        · rw [rd_k (by omega)]; exact q4 j (by omega)
      · dsimp only; rw [rd_a (by decide), rd_k (by omega)]; exact q5 k hk
    · obtain ⟨z, M1⟩ := s
      obtain ⟨rfl, q1, q2, q3, q4, q5⟩ := hI
      dsimp only at q1 q2 q3 q4 q5
      unfold tx_addFour_b26
      exact Tc_t (by show (24 : Int) - 8 * ((4 : Nat) : Int) < 0; decide) (Tc_inr ⟨by show M1 1 1 = _; rw [q1]; rfl, q2, q3, q4, q5⟩)
  obtain ⟨r, e, q1, q2, q3, q4, q5⟩ := hl
  refine ⟨r.2, ?_, q1, q2, q3, q4, q5⟩
  unfold tx_addFour
  rw [if_neg (by omega), hL, if_pos (by rw [wr_i (by omega) (by omega)]; omega), e]
  rfl
theorem moSign_eq {M : MEM} {x : Int} {L : Nat} (hL : M 278 10 = (L : Int)) (h : L + 4 ≤ 80) : ∃ M' z, iter (fun s => mo_sign_b20 x s.1 s.2) FU (3, M) = some (z, M') ∧ M' 278 10 = (L : Int) + 4 ∧ (∀ c, c ≠ 278 → c ≠ 283 → M' c = M c) ∧ (∀ k, k ≠ 10 → M' 278 k = M 278 k) ∧ (∀ i, i < 4 → M' 283 (L + i) = sx8 (byC x i)) ∧ ∀ k, k < L → M' 283 k = M 283 k := by
  have hl : Tc (iter (fun s => mo_sign_b20 x s.1 s.2) FU (3, M)) (fun r => r.2 278 10 = (L : Int) + 4 ∧ (∀ c, c ≠ 278 → c ≠ 283 → r.2 c = M c) ∧ (∀ k, k ≠ 10 → r.2 278 k = M 278 k) ∧ (∀ i, i < 4 → r.2 283 (L + i) = sx8 (byC x i)) ∧ ∀ k, k < L → r.2 283 k = M 283 k) := by
    refine Tc_n (fun i s => s.1 = 3 - (i : Int) ∧ s.2 278 10 = (L : Int) + i ∧ (∀ c, c ≠ 278 → c ≠ 283 → s.2 c = M c) ∧ (∀ k, k ≠ 10 → s.2 278 k = M 278 k) ∧ (∀ j, j < i → s.2 283 (L + j) = sx8 (byC x j)) ∧ ∀ k, k < L → s.2 283 k = M 283 k) 4 ⟨rfl, by show M 278 10 = _; omega, fun _ _ _ => rfl, fun _ _ => rfl, fun j hj => by omega, fun _ _ => rfl⟩ (by omega) (fun i s hi hI => ?_) (fun s hI => ?_)
    · obtain ⟨z, M1⟩ := s
      obtain ⟨rfl, q1, q2, q3, q4, q5⟩ := hI
      dsimp only at q1 q2 q3 q4 q5 ⊢
      have e1 : M1 278 10 = ((L + i : Nat) : Int) := by rw [q1]; omega
      have w : wr (3 - (i : Int) + -1) = 3 - ((i + 1 : Nat) : Int) := (wr_i (by omega) (by omega)).trans (by omega)
      have w8 : wr (8 * (3 - (i : Int))) = 24 - 8 * (i : Int) := (wr_i (by omega) (by omega)).trans (by omega)
      have wl : wr (((L + i : Nat) : Int) + 1) = (L : Int) + ((i + 1 : Nat) : Int) := (wr_i (by omega) (by omega)).trans (by omega)
      unfold mo_sign_b20
      rw [e1, toNat_c, w, w8, wl, ← (byC_eq x hi).2.2]
      refine Tc_f (by omega) (Tc_u (Tc_t (by omega) (Tc_u (Tc_inl ⟨rfl, ?_, fun c c1 c2 => ?_, fun k hk => ?_, fun j hj => ?_, fun k hk => ?_⟩))))
      · dsimp only; rw [rd_a (by decide), rd_same]
      · dsimp only; rw [up2_ne c2, up2_ne c1]; exact q2 c c1 c2
      · dsimp only; rw [rd_a (by decide), rd_k hk]; exact q3 k hk
      · dsimp only
        by_cases e : j = i
        · subst e; exact rd_same
        · rw [rd_k (by omega), rd_a (by decide)]; exact q4 j (by omega)
      · dsimp only; rw [rd_k (by omega), rd_a (by decide)]; exact q5 k hk
    · obtain ⟨z, M1⟩ := s
      obtain ⟨rfl, q1, q2, q3, q4, q5⟩ := hI
      dsimp only at q1 q2 q3 q4 q5
      unfold mo_sign_b20
      exact Tc_t (by show (3 : Int) - ((4 : Nat) : Int) < 0; decide) (Tc_inr ⟨by show M1 278 10 = _; rw [q1]; rfl, q2, q3, q4, q5⟩)
  obtain ⟨r, e, q1, q2, q3, q4, q5⟩ := hl
  exact ⟨r.2, r.1, e, q1, q2, q3, q4, q5⟩
theorem c_sign {B : Int} {M : MEM} (h : Rel B M) (x : Int) : Lk B (dh_sign x M) (mo_sign x) := by
  have c3 : chg [0] M (up2 M 278 13 0) := chg.rf.up (by decide)
  obtain ⟨t1, t2, t3, t4⟩ := h.T
  obtain ⟨L, hL⟩ : ∃ L : Nat, M 1 1 = (L : Int) := ⟨(M 1 1).toNat, by omega⟩
  unfold Lk dh_sign
  by_cases hl : L + 4 ≤ 80
  · obtain ⟨M1, e1, q1, q2, q3, q4, q5⟩ := addFour_eq (x := x) hL hl
    refine Tc_e e1 (Tc_f (by show ¬ (1 : Int) = 0; decide) (Tc_some ?_))
    dsimp only
    have k10 : up2 M1 278 13 0 278 10 = (L : Int) := by rw [rd_k (by decide), q2 278 (by decide) (by decide)]; omega
    obtain ⟨M2, z, e2, r1, r2, r3, r4, r5⟩ := moSign_eq (x := x) k10 hl
    unfold mo_sign
    refine Tc_u (Tc_t (by rw [k10, wr_i (by omega) (by omega)]; omega) (Tc_e e2 (Tc_some ⟨by dsimp only; rw [r1, q1], ?_⟩)))
    dsimp only
    have cc : chg [0, 1] M M2 := fun a k n => by
      by_cases e : a = 1
      · subst e
        by_cases z : k = 1
        · subst z; exact absurd (by decide) n
        · rw [r2 1 (by decide) (by decide), rd_a (by decide)]; exact q3 k z
      · by_cases e2 : a = 2
        · subst e2; exact absurd (by rw [show rg 2 k = 1 from rfl]; decide) n
        · by_cases e3 : a = 283
          · subst e3; exact absurd (by rw [show rg 283 k = 1 from rfl]; decide) n
          · by_cases e4 : a = 278
            · subst e4
              by_cases z : k = 10
              · subst z; exact absurd (by decide) n
              · by_cases z2 : k = 13
                · subst z2; exact absurd (by decide) n
                · rw [r3 k z, rd_k z2, q2 278 (by decide) (by decide)]
            · rw [r2 a e4 e3, up2_ne e4, q2 a e e2]
    refine h.go (Int.le_refl _) cc (by decide) (fun _ => ?_) (fun q => absurd q (by decide)) (fun q => absurd q (by decide)) (fun q => absurd q (by decide)) (fun q => absurd q (by decide)) (fun q => absurd q (by decide)) (fun q => absurd q (by decide)) (fun q => absurd q (by decide)) (fun q => absurd q (by decide)) (fun q => absurd q (by decide)) (fun q => absurd q (by decide))
    unfold C_T
    rw [r1, r2 1 (by decide) (by decide), r2 2 (by decide) (by decide), up2_ne (by decide), up2_ne (by decide), q1]
    refine ⟨rfl, by omega, by omega, fun i hi => ?_⟩
    by_cases e : i < L
    · rw [q5 i e, r5 i e, up2_ne (by decide), q2 283 (by decide) (by decide)]
      exact t4 i (by omega)
    · obtain ⟨j, rfl⟩ : ∃ j, i = L + j := ⟨i - L, by omega⟩
      have hj : j < 4 := by omega
      have b := byC_eq x hj
      rw [q4 j hj, r4 j hj]
      exact ⟨b.1, b.2.1, rfl⟩
  · have e1 : tx_addFour x M = some (0, M) := by
      unfold tx_addFour
      rw [if_neg (by omega), hL, if_neg (by rw [wr_i (by omega) (by omega)]; omega)]
    refine Tc_e e1 (Tc_t rfl (Tc_some ?_))
    dsimp only
    unfold mo_sign
    exact Tc_u (Tc_f (by rw [rd_k (by decide), t1, hL, wr_i (by omega) (by omega)]; omega) (Tc_some ⟨rfl, h.go0 c3⟩))
end
section
-- ===== sheet =====
noncomputable def shY (x3 x4 : Int) : Nat → Int
  | 0 => x3
  | i + 1 => wr (shY x3 x4 i + x4)
noncomputable def shV (x1 x2 x3 x4 : Int) (i : Nat) : Int := if x1 = 3 then 0 else if (i : Int) < x2 then dh_entryOf x1 (shY x3 x4 i) else 0
theorem entry_in (a b : Int) : 0 ≤ dh_entryOf a b ∧ dh_entryOf a b ≤ 9 := by
  have q : ∀ c, 0 ≤ dh_entryOf_j20 c ∧ dh_entryOf_j20 c ≤ 9 := fun c => by unfold dh_entryOf_j20; omega
  unfold dh_entryOf
  by_cases h : a = 0
  · rw [if_pos h]; exact q _
  · by_cases h2 : a = 1
    · rw [if_neg h, if_pos h2]; exact q _
    · rw [if_neg h, if_neg h2]; exact q _
theorem shV_in (x1 x2 x3 x4 : Int) (i : Nat) : 0 ≤ shV x1 x2 x3 x4 i ∧ shV x1 x2 x3 x4 i ≤ 9 := by
  unfold shV
  by_cases h : x1 = 3
  · rw [if_pos h]; omega
  · by_cases h2 : (i : Int) < x2
    · rw [if_neg h, if_pos h2]; exact entry_in _ _
    · rw [if_neg h, if_neg h2]; omega
theorem put_eq {b i : Nat} {v : Int} {M : MEM} (hi : i < 12) : be_put b (i : Int) v M = some (up2 M (b + 1) i v) := by
  unfold be_put
  rw [if_neg (by omega), if_neg (by omega), if_pos (by omega), toNat_c]
  rfl
theorem sheetC_eq {M : MEM} {n : Nat} {x1 x2 x3 x4 x5 : Int} (hn : M 10 2 = (n : Int)) (hn12 : n ≤ 12) (h5 : (x5 = 1 ∧ x1 = 3) ∨ (x5 = 0 ∧ x1 ≠ 3)) :
    ∃ M' z, iter (fun s => dh_sheet_b66 x1 x2 x4 x5 s.1 s.2.1 s.2.2) FU (x3, 0, M) = some (z, M') ∧ (∀ c, c ≠ 11 → M'.2 c = M c) ∧ ∀ k, M'.2 11 k = if k < n then shV x1 x2 x3 x4 k else M 11 k := by
  have hl : Tc (iter (fun s => dh_sheet_b66 x1 x2 x4 x5 s.1 s.2.1 s.2.2) FU (x3, 0, M)) (fun r => (∀ c, c ≠ 11 → r.2.2 c = M c) ∧ ∀ k, r.2.2 11 k = if k < n then shV x1 x2 x3 x4 k else M 11 k) := by
    refine Tc_n (fun i s => s.1 = shY x3 x4 i ∧ s.2.1 = (i : Int) ∧ (∀ c, c ≠ 11 → s.2.2 c = M c) ∧ ∀ k, s.2.2 11 k = if k < i then shV x1 x2 x3 x4 k else M 11 k) n ⟨rfl, rfl, fun _ _ => rfl, fun k => by rw [if_neg (by omega)]⟩ (by omega) (fun i s hi hI => ?_) (fun s hI => ?_)
    · obtain ⟨y, z, M1⟩ := s
      obtain ⟨rfl, rfl, q1, q2⟩ := hI
      dsimp only at q1 q2 ⊢
      have e10 : M1 10 2 = (n : Int) := by rw [q1 10 (by decide)]; exact hn
      have w : wr ((i : Int) + 1) = ((i + 1 : Nat) : Int) := (wr_i (by omega) (by omega)).trans (by omega)
      have fin : ∀ v, v = shV x1 x2 x3 x4 i → Tc (dh_sheet_j101_66 x1 x2 x4 x5 (shY x3 x4 i) i i v M1) (fun r => ∃ s', r = .inl s' ∧ s'.1 = shY x3 x4 (i + 1) ∧ s'.2.1 = ((i + 1 : Nat) : Int) ∧ (∀ c, c ≠ 11 → s'.2.2 c = M c) ∧ ∀ k, s'.2.2 11 k = if k < i + 1 then shV x1 x2 x3 x4 k else M 11 k) := fun v hv => by
        unfold dh_sheet_j101_66
        rw [w]
        refine Tc_e (put_eq (by omega)) (Tc_inl ⟨rfl, rfl, fun c hc => ?_, fun k => ?_⟩)
        · dsimp only; rw [up2_ne hc]; exact q1 c hc
        · dsimp only
          by_cases e : k = i
          · subst e; rw [rd_same, if_pos (by omega)]; exact hv
          · rw [rd_k e, q2 k]
            by_cases e2 : k < i
            · rw [if_pos e2, if_pos (by omega)]
            · rw [if_neg e2, if_neg (by omega)]
      unfold dh_sheet_b66 dh_sheet_j100_66
      refine Tc_f (by omega) ?_
      rcases h5 with ⟨rfl, h3⟩ | ⟨rfl, h3⟩
      · exact Tc_f (by decide) (fin _ (by unfold shV; rw [if_pos h3]))
      · refine Tc_t rfl (Tc_i (fun q => fin _ ?_) (fun q => fin _ ?_))
        · unfold shV; rw [if_neg h3, if_neg (by omega)]
        · unfold shV; rw [if_neg h3, if_pos (by omega)]
    · obtain ⟨y, z, M1⟩ := s
      obtain ⟨rfl, rfl, q1, q2⟩ := hI
      dsimp only at q1 q2
      unfold dh_sheet_b66
      exact Tc_t (by show M1 10 2 ≤ (n : Int); rw [q1 10 (by decide), hn]; exact Int.le_refl _) (Tc_inr ⟨q1, q2⟩)
  obtain ⟨r, e, q1, q2⟩ := hl
  exact ⟨r.2, r.1, e, q1, q2⟩
theorem sheetM_eq {M : MEM} {n : Nat} {x1 x2 x3 x4 : Int} (hn : M 280 0 = (n : Int)) (hn12 : n ≤ 12) (h1 : 0 ≤ x1 ∧ x1 ≤ 3) :
    ∃ r, iter (fun s => mo_sheet_b50 x1 x2 x4 s.1 s.2.1 s.2.2.1 s.2.2.2) FU (0, x3, 0, M) = some r ∧ r.1 = sumN (shV x1 x2 x3 x4) n ∧ (∀ c, c ≠ 279 → r.2.2.2 c = M c) ∧ (∀ k, k < n → r.2.2.2 279 (3 + k) = shV x1 x2 x3 x4 k) ∧ ∀ k, (k < 3 ∨ 3 + n ≤ k) → r.2.2.2 279 k = M 279 k := by
  refine (?_ : Tc (iter (fun s => mo_sheet_b50 x1 x2 x4 s.1 s.2.1 s.2.2.1 s.2.2.2) FU (0, x3, 0, M)) (fun r => r.1 = sumN (shV x1 x2 x3 x4) n ∧ (∀ c, c ≠ 279 → r.2.2.2 c = M c) ∧ (∀ k, k < n → r.2.2.2 279 (3 + k) = shV x1 x2 x3 x4 k) ∧ ∀ k, (k < 3 ∨ 3 + n ≤ k) → r.2.2.2 279 k = M 279 k))
  refine Tc_n (fun i s => s.1 = sumN (shV x1 x2 x3 x4) i ∧ s.2.1 = shY x3 x4 i ∧ s.2.2.1 = (i : Int) ∧ (∀ c, c ≠ 279 → s.2.2.2 c = M c) ∧ (∀ k, k < i → s.2.2.2 279 (3 + k) = shV x1 x2 x3 x4 k) ∧ ∀ k, (k < 3 ∨ 3 + i ≤ k) → s.2.2.2 279 k = M 279 k) n ⟨rfl, rfl, rfl, fun _ _ => rfl, fun k hk => by omega, fun _ _ => rfl⟩ (by omega) (fun i s hi hI => ?_) (fun s hI => ?_)
  · obtain ⟨a, y, z, M1⟩ := s
    obtain ⟨rfl, rfl, rfl, q1, q2, q3⟩ := hI
    dsimp only at q1 q2 q3 ⊢
    have e280 : M1 280 0 = (n : Int) := by rw [q1 280 (by decide)]; exact hn
    have w : wr ((i : Int) + 1) = ((i + 1 : Nat) : Int) := (wr_i (by omega) (by omega)).trans (by omega)
    have w3 : wr (3 + (i : Int)) = ((3 + i : Nat) : Int) := (wr_i (by omega) (by omega)).trans (by omega)
    have b0 := sumN_bd (F := shV x1 x2 x3 x4) (a := 0) (b := 9) (n := i) (fun j _ => shV_in _ _ _ _ j)
    have bi := shV_in x1 x2 x3 x4 i
    have fin : ∀ v, v = shV x1 x2 x3 x4 i → Tc (mo_sheet_j120_50 x1 x2 x4 (sumN (shV x1 x2 x3 x4) i) (shY x3 x4 i) i ((3 + i : Nat) : Int) v M1) (fun r => ∃ s', r = .inl s' ∧ s'.1 = sumN (shV x1 x2 x3 x4) (i + 1) ∧ s'.2.1 = shY x3 x4 (i + 1) ∧ s'.2.2.1 = ((i + 1 : Nat) : Int) ∧ (∀ c, c ≠ 279 → s'.2.2.2 c = M c) ∧ (∀ k, k < i + 1 → s'.2.2.2 279 (3 + k) = shV x1 x2 x3 x4 k) ∧ ∀ k, (k < 3 ∨ 3 + (i + 1) ≤ k) → s'.2.2.2 279 k = M 279 k) := fun v hv => by
      unfold mo_sheet_j120_50
      rw [w3, toNat_c, w]
      refine Tc_t (by omega) (Tc_u (Tc_t (by omega) (Tc_inl ⟨?_, rfl, rfl, fun c hc => ?_, fun k hk => ?_, fun k hk => ?_⟩)))
      · dsimp only
        rw [rd_same, hv, sumN_S]
        exact wr_i (by omega) (by omega)
      · dsimp only; rw [up2_ne hc]; exact q1 c hc
      · dsimp only
        by_cases e : k = i
        · subst e; rw [rd_same]; exact hv
        · rw [rd_k (by omega)]; exact q2 k (by omega)
      · dsimp only; rw [rd_k (by omega)]; exact q3 k (by omega)
    have j84 : ∀ s0, (x1 ≠ 3 → max 0 (min 9 s0) = dh_entryOf x1 (shY x3 x4 i)) → Tc (mo_sheet_j84_50 x1 x2 x4 (sumN (shV x1 x2 x3 x4) i) (shY x3 x4 i) i s0 M1) (fun r => ∃ s', r = .inl s' ∧ s'.1 = sumN (shV x1 x2 x3 x4) (i + 1) ∧ s'.2.1 = shY x3 x4 (i + 1) ∧ s'.2.2.1 = ((i + 1 : Nat) : Int) ∧ (∀ c, c ≠ 279 → s'.2.2.2 c = M c) ∧ (∀ k, k < i + 1 → s'.2.2.2 279 (3 + k) = shV x1 x2 x3 x4 k) ∧ ∀ k, (k < 3 ∨ 3 + (i + 1) ≤ k) → s'.2.2.2 279 k = M 279 k) := fun s0 hs => by
      unfold mo_sheet_j84_50 mo_sheet_j105_50
      rw [w3]
      refine Tc_i (fun h3 => fin _ (by unfold shV; rw [if_pos h3])) (fun h3 => Tc_i (fun h2 => fin _ ?_) (fun h2 => fin _ ?_))
      · unfold shV; rw [if_neg h3, if_pos h2]; exact hs h3
      · unfold shV; rw [if_neg h3, if_neg h2]
    unfold mo_sheet_b50
    refine Tc_f (by omega) ?_
    by_cases y0 : x1 = 0
    · exact Tc_t y0 (j84 _ (fun _ => by unfold dh_entryOf dh_entryOf_j20; rw [if_pos y0]))
    · refine Tc_f y0 ?_
      by_cases y1 : x1 = 1
      · exact Tc_t y1 (j84 _ (fun _ => by unfold dh_entryOf dh_entryOf_j20; rw [if_neg y0, if_pos y1]))
      · exact Tc_f y1 (j84 _ (fun _ => by unfold dh_entryOf dh_entryOf_j20; rw [if_neg y0, if_neg y1]))
  · obtain ⟨a, y, z, M1⟩ := s
    obtain ⟨rfl, rfl, rfl, q1, q2, q3⟩ := hI
    dsimp only at q1 q2 q3
    unfold mo_sheet_b50
    exact Tc_t (by show M1 280 0 ≤ (n : Int); rw [q1 280 (by decide), hn]; exact Int.le_refl _) (Tc_inr ⟨rfl, q1, q2, q3⟩)
theorem c_sheet {B : Int} {M : MEM} (h : Rel B M) (hB : B ≤ 100000000) (x1 x2 x3 x4 : Int) : Lk B (dh_sheet x1 x2 x3 x4 M) (mo_sheet x1 x2 x3 x4) := by
  have c3 : chg [0] M (up2 M 278 13 0) := chg.rf.up (by decide)
  have hS := h.S
  obtain ⟨s1, s2, s3, s3a, s3b, s4⟩ := h.S
  have fin : ∀ a b : Int, b = a → Tc (some (b, up2 M 278 13 0)) (fun q => q.1 = a ∧ Rel B q.2) := fun a b e => Tc_some ⟨e, h.go0 c3⟩
  have k1 : up2 M 278 13 0 278 1 = M 3 2 := by rw [rd_k (by decide)]; exact s1
  unfold Lk dh_sheet
  by_cases hc : (0 ≤ x1 ∧ x1 ≤ 3) ∧ x2 ≤ 12 ∧ 1 ≤ M 3 2
  · obtain ⟨h1, h2, h3⟩ := hc
    obtain ⟨w1, w2, w3, w4⟩ := dnk h hB (d := 0) (by omega)
    have w3' := w3
    obtain ⟨z1, z2, z3, z4, z5, z6, z7, z8, z9⟩ := w1
    obtain ⟨f1, f2, f3, f4⟩ := w3
    simp only [dsC, dsM, Nat.mul_zero, Nat.add_zero, Nat.zero_add] at f1 f2 f3 f4 z3 z4 z5 z6 z7 z8 z9 w4
    obtain ⟨n, hn⟩ : ∃ n : Nat, M 280 0 = (n : Int) := ⟨(M 280 0).toNat, by omega⟩
    refine Tc_f (by omega) (Tc_f (by omega) (Tc_f (by omega) (Tc_f (by rw [isDonkey_y s3 (by decide) (by omega)]; decide) ?_)))
    -- behind the checks
    have main : ∀ x5 : Int, (x5 = 1 ∧ x1 = 3) ∨ (x5 = 0 ∧ x1 ≠ 3 ∧ 0 ≤ x2) → Tc (dh_sheet_j49 x1 x2 x3 x4 x5 M) (fun p => Tc (mo_sheet x1 x2 x3 x4 p.2) (fun q => q.1 = p.1 ∧ Rel B q.2)) := fun x5 h5 => by
      obtain ⟨r, y, e, q1, q2⟩ := sheetC_eq (M := M) (n := n) (x1 := x1) (x2 := x2) (x3 := x3) (x4 := x4) (x5 := x5) (by rw [w4, hn]) (by omega) (by omega)
      obtain ⟨z0, M1⟩ := r
      dsimp only at q1 q2
      have hi : ∀ c, 277 < c → M1 c = M c := fun c hcc => q1 c (by omega)
      obtain ⟨rm, em, r1, r2, r3, r4⟩ := sheetM_eq (M := up2 M1 278 13 0) (n := n) (x1 := x1) (x2 := x2) (x3 := x3) (x4 := x4) (by rw [rd_a (by decide), hi 280 (by decide)]; exact hn) (by omega) h1
      have rel : Rel B rm.2.2.2 := by
        generalize rm.2.2.2 = M' at *
        have cc : chg [0, 4] M M' := fun a k nn => by
          by_cases e279 : a = 279
          · subst e279; exact absurd (by rw [rg_279]; decide) nn
          · by_cases e11 : a = 11
            · subst e11; exact absurd (by rw [rg_D (by decide) (by decide) (Or.inr (by decide))]; decide) nn
            · rw [r2 a e279]
              by_cases e278 : a = 278
              · subst e278
                by_cases z : k = 13
                · subst z; exact absurd (by decide) nn
                · rw [rd_k z, q1 278 (by decide)]
              · rw [up2_ne e278, q1 a e11]
        have g1 : ∀ c, c ≠ 11 → c ≠ 278 → c ≠ 279 → M' c = M c := fun c a b d => by rw [r2 c d, up2_ne b, q1 c a]
        have g11 : ∀ k, k < n → M' 11 k = shV x1 x2 x3 x4 k := fun k hk => by rw [r2 11 (by decide), rd_a (by decide), q2, if_pos hk]
        have g279 : ∀ k, (k < 3 ∨ 3 + n ≤ k) → M' 279 k = M 279 k := fun k hk => by rw [r4 k hk, rd_a (by decide), hi 279 (by decide)]
        have g10 : M' 10 = M 10 := g1 10 (by decide) (by decide) (by decide)
        refine h.go (Int.le_refl _) cc (by decide) (fun q => absurd q (by decide)) (fun q => absurd q (by decide)) (fun q => absurd q (by decide)) (fun _ => ?_) (fun q => absurd q (by decide)) (fun q => absurd q (by decide)) (fun q => absurd q (by decide)) (fun q => absurd q (by decide)) (fun q => absurd q (by decide)) (fun q => absurd q (by decide)) (fun q => absurd q (by decide))
        refine D_one (d := 0) h.D (by omega) s3 (fun c a b e => g1 c (by omega) (by omega) (by omega)) (g1 12 (by decide) (by decide) (by decide)) (by show M' 10 5 = M 10 5; rw [g10]) (by show M' 10 2 = M 10 2; rw [g10]) (fun k hk => g279 k (by omega)) (g1 3 (by decide) (by decide) (by decide)) (g1 280 (by decide) (by decide) (by decide)) ⟨?_, ?_, ?_, fun q hq => ?_⟩ ⟨z1, z2, ?_, ?_, ?_, ?_, ?_, ?_, fun q hq => ?_⟩ (fun q a b => ?_)
        · show M' 10 3 = M' 279 1; rw [g10, g279 1 (by omega)]; exact f1
        · show M' 10 4 = M' 279 0; rw [g10, g279 0 (by omega)]; exact f2
        · show M' 10 5 = M' 279 2; rw [g10, g279 2 (by omega)]; exact f3
        · show M' 11 q = M' 279 (3 + q)
          rw [g11 q (by omega), r3 q (by omega)]
        · show 0 ≤ M' 10 3; rw [g10]; exact z3
        · show M' 10 3 < _; rw [g10]; exact z4
        · show 0 ≤ M' 10 4; rw [g10]; exact z5
        · show M' 10 4 ≤ 9; rw [g10]; exact z6
        · show 0 ≤ M' 10 5; rw [g10]; exact z7
        · show M' 10 5 < _; rw [g10]; exact z8
        · show 0 ≤ M' 11 q ∧ M' 11 q ≤ 9
          rw [g11 q (by omega)]; exact shV_in _ _ _ _ _
        · show M' 279 (3 + q) = M 279 (3 + q)
          exact g279 _ (by omega)
      have k1' : up2 M1 278 13 0 278 1 = M 3 2 := by rw [rd_k (by decide), hi 278 (by decide)]; exact s1
      unfold dh_sheet_j49
      refine Tc_e e ?_
      dsimp only
      rcases h5 with ⟨rfl, h3'⟩ | ⟨rfl, h3', h0'⟩
      · refine Tc_f (by decide) (Tc_some ?_)
        dsimp only
        unfold mo_sheet mo_sheet_j41
        exact Tc_u (Tc_f (by rw [moIn_y h1]; decide) (Tc_f (by omega) (Tc_f (by rw [k1']; omega) (Tc_t (by omega) (Tc_e em (Tc_t h3' (Tc_some ⟨rfl, rel⟩)))))))
      · have eL : be_allThistles 10 M1 = some (sumN (shV x1 x2 x3 x4) n) := by
          have := allTh_eq (b := 10) (M := M1) (n := (n : Int)) (by rw [q1 10 (by decide), w4, hn]) (by omega) (by omega) (fun p hp => by show 0 ≤ M1 11 p ∧ M1 11 p ≤ 9; rw [q2, if_pos (by omega)]; exact shV_in _ _ _ _ _)
          rw [this]
          congr 1
          exact sumN_congr (fun p hp => by show M1 11 p = _; rw [q2, if_pos (by omega)])
        refine Tc_t rfl (Tc_e eL (Tc_some ?_))
        dsimp only
        unfold mo_sheet mo_sheet_j41
        exact Tc_u (Tc_f (by rw [moIn_y h1]; decide) (Tc_f (by omega) (Tc_f (by rw [k1']; omega) (Tc_f (by omega) (Tc_t h0' (Tc_e em (Tc_f h3' (Tc_some ⟨r1, rel⟩))))))))
    unfold dh_sheet_j35
    refine Tc_i (fun q => Tc_f (by decide) (main 1 (Or.inl ⟨rfl, q⟩))) (fun q => Tc_t rfl (Tc_i (fun q2 => main 0 (Or.inr ⟨rfl, q, q2⟩)) (fun q2 => Tc_some ?_)))
    dsimp only
    unfold mo_sheet
    exact Tc_u (Tc_f (by rw [moIn_y h1]; decide) (Tc_f (by omega) (Tc_f (by rw [k1]; omega) (Tc_f (by omega) (Tc_f q2 (fin _ _ rfl))))))
  · have mo : Tc (mo_sheet x1 x2 x3 x4 M) (fun q => q.1 = -1 ∧ Rel B q.2) := by
      unfold mo_sheet
      refine Tc_u ?_
      by_cases h1 : 0 ≤ x1 ∧ x1 ≤ 3
      · refine Tc_f (by rw [moIn_y h1]; decide) (Tc_i (fun _ => fin _ _ rfl) (fun q => Tc_t ?_ (fin _ _ rfl)))
        rw [k1]
        exact Classical.byContradiction fun y => hc ⟨h1, by omega, by omega⟩
      · exact Tc_t (moIn_n h1) (fin _ _ rfl)
    refine Tc_i (fun _ => Tc_some mo) (fun q1 => Tc_i (fun _ => Tc_some mo) (fun q2 => Tc_i (fun _ => Tc_some mo) (fun q3 => Tc_t ?_ (Tc_some mo))))
    exact isDonkey_n s3 (fun y => hc ⟨by omega, by omega, by omega⟩)
end
section
-- ===== longest =====
noncomputable def spn (M : MEM) (d : Nat) (k : Int) : Int := wr (lnV M d (k + 1) - lnV M d k)
def pk (c : Prop) [Decidable c] (u i : Int) : Int := if u = -1 then i else if c then u else i
theorem pkI_in {c : Prop} [Decidable c] {u i : Int} (hu : u = -1 ∨ (1 ≤ u ∧ u < i)) (hi : 1 ≤ i) : 1 ≤ pk c u i ∧ pk c u i < i + 1 := by
  unfold pk
  by_cases h : u = -1
  · rw [if_pos h]; omega
  · rw [if_neg h]
    by_cases h2 : c
    · rw [if_pos h2]; omega
    · rw [if_neg h2]; omega
noncomputable def scn (f : Int → Int) (i0 : Nat) : Nat → Int × Int
  | 0 => (-1, -1)
  | j + 1 => (pk (f ((i0 + j : Nat) : Int) ≤ f (scn f i0 j).1) (scn f i0 j).1 ((i0 + j : Nat) : Int), pk (f (scn f i0 j).2 ≤ f ((i0 + j : Nat) : Int)) (scn f i0 j).2 ((i0 + j : Nat) : Int))
theorem scn_in (f : Int → Int) {i0 : Nat} (h : 1 ≤ i0) : ∀ j, (j = 0 ∧ scn f i0 j = (-1, -1)) ∨ ((1 ≤ (scn f i0 j).1 ∧ (scn f i0 j).1 < ((i0 + j : Nat) : Int)) ∧ (1 ≤ (scn f i0 j).2 ∧ (scn f i0 j).2 < ((i0 + j : Nat) : Int))) := by
  intro j
  induction j with
  | zero => exact Or.inl ⟨rfl, rfl⟩
  | succ j ih =>
    right
    have a : (scn f i0 j).1 = -1 ∨ (1 ≤ (scn f i0 j).1 ∧ (scn f i0 j).1 < ((i0 + j : Nat) : Int)) := by
      rcases ih with ⟨-, e⟩ | e
      · rw [e]; exact Or.inl rfl
      · exact Or.inr e.1
    have b : (scn f i0 j).2 = -1 ∨ (1 ≤ (scn f i0 j).2 ∧ (scn f i0 j).2 < ((i0 + j : Nat) : Int)) := by
      rcases ih with ⟨-, e⟩ | e
      · rw [e]; exact Or.inl rfl
      · exact Or.inr e.2
    have e : ((i0 + (j + 1) : Nat) : Int) = ((i0 + j : Nat) : Int) + 1 := by omega
    rw [e]
    exact ⟨pkI_in a (by omega), pkI_in b (by omega)⟩
theorem longC_eq {M : MEM} {d s i0 : Nat} (hs : M (10 + 3 * d) 5 = (s : Int)) (hb : s ≤ 100000000) (h1 : 1 ≤ i0) (h2 : i0 ≤ s ∨ i0 = 1) (h3 : s ≤ i0 + 100) :
    ∃ r, iter (fun t => dh_longest_b49 (10 + 3 * d) t.1 t.2.1 t.2.2.1 t.2.2.2.1 t.2.2.2.2 M) FU (-1, 0, -1, 0, (i0 : Int)) = some r ∧ r.1 = (scn (spn M d) i0 (s - i0)).1 ∧ r.2.2.1 = (scn (spn M d) i0 (s - i0)).2 ∧ (r.1 ≠ -1 → r.2.1 = spn M d r.1 ∧ r.2.2.2.1 = spn M d r.2.2.1) := by
  refine (?_ : Tc (iter (fun t => dh_longest_b49 (10 + 3 * d) t.1 t.2.1 t.2.2.1 t.2.2.2.1 t.2.2.2.2 M) FU (-1, 0, -1, 0, (i0 : Int))) (fun r => r.1 = (scn (spn M d) i0 (s - i0)).1 ∧ r.2.2.1 = (scn (spn M d) i0 (s - i0)).2 ∧ (r.1 ≠ -1 → r.2.1 = spn M d r.1 ∧ r.2.2.2.1 = spn M d r.2.2.1)))
  refine Tc_n (fun j t => t.1 = (scn (spn M d) i0 j).1 ∧ t.2.2.1 = (scn (spn M d) i0 j).2 ∧ (t.1 ≠ -1 → t.2.1 = spn M d t.1) ∧ (t.2.2.1 ≠ -1 → t.2.2.2.1 = spn M d t.2.2.1) ∧ t.2.2.2.2 = ((i0 + j : Nat) : Int)) (s - i0) ⟨rfl, rfl, fun q => absurd rfl q, fun q => absurd rfl q, rfl⟩ (by omega) (fun j t hj hI => ?_) (fun t hI => ?_)
  · obtain ⟨u, su, v, sv, z⟩ := t
    obtain ⟨q1, q2, q3, q4, rfl⟩ := hI
    dsimp only at q1 q2 q3 q4 ⊢
    have w : wr (((i0 + j : Nat) : Int) + 1) = ((i0 + j : Nat) : Int) + 1 := wr_i (by omega) (by omega)
    have m1 := minuteOf_eq (M := M) (d := d) (k := ((i0 + j : Nat) : Int)) (by omega) (by omega) (by omega)
    have m2 := minuteOf_eq (M := M) (d := d) (k := ((i0 + j : Nat) : Int) + 1) (by omega) (by omega) (by omega)
    have hin := scn_in (spn M d) h1 j
    have eS : wr (lnV M d (((i0 + j : Nat) : Int) + 1) - lnV M d ((i0 + j : Nat) : Int)) = spn M d ((i0 + j : Nat) : Int) := rfl
    unfold dh_longest_b49
    rw [w]
    refine Tc_f (by omega) (Tc_e m2 (Tc_e m1 ?_))
    rw [eS]
    have e1 : (scn (spn M d) i0 (j + 1)).1 = pk (spn M d ((i0 + j : Nat) : Int) ≤ spn M d u) u ((i0 + j : Nat) : Int) := by rw [q1]; rfl
    have e2 : (scn (spn M d) i0 (j + 1)).2 = pk (spn M d v ≤ spn M d ((i0 + j : Nat) : Int)) v ((i0 + j : Nat) : Int) := by rw [q2]; rfl
    have ej : wr (((i0 + j : Nat) : Int) + 1) = ((i0 + (j + 1) : Nat) : Int) := w.trans (by omega)
    have hI : ((i0 + j : Nat) : Int) ≠ -1 := by omega
    generalize ((i0 + j : Nat) : Int) = I at *
    generalize spn M d = f at *
    have j96 : ∀ u' su', u' = (scn f i0 (j + 1)).1 → (u' ≠ -1 → su' = f u') → Tc (dh_longest_j96_49 (10 + 3 * d) u' su' v sv I (f I) M) (fun r => ∃ s', r = .inl s' ∧ s'.1 = (scn f i0 (j + 1)).1 ∧ s'.2.2.1 = (scn f i0 (j + 1)).2 ∧ (s'.1 ≠ -1 → s'.2.1 = f s'.1) ∧ (s'.2.2.1 ≠ -1 → s'.2.2.2.1 = f s'.2.2.1) ∧ s'.2.2.2.2 = ((i0 + (j + 1) : Nat) : Int)) := fun u' su' hu hsu => by
      unfold dh_longest_j96_49 dh_longest_j109_49 dh_longest_j117_49
      refine Tc_i (fun y => Tc_inl ⟨hu, ?_, hsu, fun _ => rfl, ej⟩) (fun y => Tc_i (fun y2 => Tc_inl ⟨hu, ?_, hsu, q4, ej⟩) (fun y2 => Tc_inl ⟨hu, ?_, hsu, fun _ => rfl, ej⟩))
      · dsimp only; rw [e2]; unfold pk; rw [if_pos y]
      · dsimp only; rw [e2]; unfold pk; rw [if_neg y, if_pos (by rw [← q4 y]; exact y2)]
      · dsimp only; rw [e2]; unfold pk; rw [if_neg y, if_neg (by rw [← q4 y]; exact y2)]
    have j88 : (I = (scn f i0 (j + 1)).1) → Tc (dh_longest_j88_49 (10 + 3 * d) v sv I (f I) M) (fun r => ∃ s', r = .inl s' ∧ s'.1 = (scn f i0 (j + 1)).1 ∧ s'.2.2.1 = (scn f i0 (j + 1)).2 ∧ (s'.1 ≠ -1 → s'.2.1 = f s'.1) ∧ (s'.2.2.1 ≠ -1 → s'.2.2.2.1 = f s'.2.2.1) ∧ s'.2.2.2.2 = ((i0 + (j + 1) : Nat) : Int)) := fun hu => by
      unfold dh_longest_j88_49
      exact j96 I (f I) hu (fun _ => rfl)
    refine Tc_i (fun y => j88 (by rw [e1]; unfold pk; rw [if_pos y])) (fun y => Tc_i (fun y2 => j96 u su ?_ q3) (fun y2 => j88 ?_))
    · rw [e1]; unfold pk; rw [if_neg y, if_pos (by rw [← q3 y]; exact y2)]
    · rw [e1]; unfold pk; rw [if_neg y, if_neg (by rw [← q3 y]; exact y2)]
  · obtain ⟨u, su, v, sv, z⟩ := t
    obtain ⟨q1, q2, q3, q4, rfl⟩ := hI
    dsimp only at q1 q2 q3 q4 ⊢
    have hin := scn_in (spn M d) h1 (s - i0)
    unfold dh_longest_b49
    refine Tc_t (by omega) (Tc_inr ⟨q1, q2, fun y => ⟨q3 y, q4 ?_⟩⟩)
    show v ≠ -1
    rw [q2]
    have y' : u ≠ -1 := y
    rw [q1] at y'
    rcases hin with ⟨-, e⟩ | e
    · rw [e] at y'; exact absurd rfl y'
    · omega
theorem longM_eq {B : Int} {M M1 : MEM} (h : Rel B M) (hB : B ≤ 100000000) (e279 : M1 279 = M 279) {d s i0 : Nat} (hd : (d : Int) < M 3 2) (hs : M (10 + 3 * d) 5 = (s : Int)) (hb : s ≤ 100000000) (h1 : 1 ≤ i0) (h3 : s ≤ i0 + 100) :
    ∃ r, iter (fun t => mo_longest_b35 (d : Int) t.1 t.2.1 t.2.2 M1) FU (-1, -1, (i0 : Int)) = some r ∧ r.1 = (scn (spn M d) i0 (s - i0)).1 ∧ r.2.1 = (scn (spn M d) i0 (s - i0)).2 := by
  have hn := h.S.2.2.1
  have ek : M1 279 (55 * d + 2) = (s : Int) := by rw [e279, ← hs]; exact (dnk h hB hd).2.2.1.2.2.1.symm
  refine (?_ : Tc (iter (fun t => mo_longest_b35 (d : Int) t.1 t.2.1 t.2.2 M1) FU (-1, -1, (i0 : Int))) (fun r => r.1 = (scn (spn M d) i0 (s - i0)).1 ∧ r.2.1 = (scn (spn M d) i0 (s - i0)).2))
  refine Tc_n (fun j t => t.1 = (scn (spn M d) i0 j).1 ∧ t.2.1 = (scn (spn M d) i0 j).2 ∧ t.2.2 = ((i0 + j : Nat) : Int)) (s - i0) ⟨rfl, rfl, rfl⟩ (by omega) (fun j t hj hI => ?_) (fun t hI => ?_)
  · obtain ⟨u, v, z⟩ := t
    obtain ⟨q1, q2, rfl⟩ := hI
    dsimp only at q1 q2 ⊢
    have hin := scn_in (spn M d) h1 j
    have w : wr (((i0 + j : Nat) : Int) + 1) = ((i0 + j : Nat) : Int) + 1 := wr_i (by omega) (by omega)
    have ej : wr (((i0 + j : Nat) : Int) + 1) = ((i0 + (j + 1) : Nat) : Int) := w.trans (by omega)
    have line : ∀ k : Int, 1 ≤ k → mo_line (d : Int) k M1 = some (lnV M d k) := fun k hk => line_eq h hB e279 hd hk
    have eS : ∀ k : Int, wr (lnV M d (k + 1) - lnV M d k) = spn M d k := fun _ => rfl
    have e1 : (scn (spn M d) i0 (j + 1)).1 = pk (spn M d ((i0 + j : Nat) : Int) ≤ spn M d u) u ((i0 + j : Nat) : Int) := by rw [q1]; rfl
    have e2 : (scn (spn M d) i0 (j + 1)).2 = pk (spn M d v ≤ spn M d ((i0 + j : Nat) : Int)) v ((i0 + j : Nat) : Int) := by rw [q2]; rfl
    have hu : u ≠ -1 → 1 ≤ u ∧ u < ((i0 + j : Nat) : Int) := fun y => by
      rw [q1] at y ⊢
      rcases hin with ⟨-, e⟩ | e
      · rw [e] at y; exact absurd rfl y
      · exact e.1
    have hv : v ≠ -1 → 1 ≤ v ∧ v < ((i0 + j : Nat) : Int) := fun y => by
      rw [q2] at y ⊢
      rcases hin with ⟨-, e⟩ | e
      · rw [e] at y; exact absurd rfl y
      · exact e.2
    have hI1 : 1 ≤ ((i0 + j : Nat) : Int) ∧ ((i0 + j : Nat) : Int) < (s : Int) := by omega
    have l1 := line (((i0 + j : Nat) : Int) + 1) (by omega)
    have l0 := line ((i0 + j : Nat) : Int) (by omega)
    unfold mo_longest_b35
    rw [w]
    refine Tc_e (strokesM_eq (by omega)) (Tc_f (by rw [ek]; omega) (Tc_e l1 (Tc_e l0 ?_)))
    rw [eS]
    generalize ((i0 + j : Nat) : Int) = I at *
    have j92 : ∀ u', u' = (scn (spn M d) i0 (j + 1)).1 → Tc (mo_longest_j92_35 (d : Int) u' v I (spn M d I) M1) (fun r => ∃ s', r = .inl s' ∧ s'.1 = (scn (spn M d) i0 (j + 1)).1 ∧ s'.2.1 = (scn (spn M d) i0 (j + 1)).2 ∧ s'.2.2 = ((i0 + (j + 1) : Nat) : Int)) := fun u' hu' => by
      unfold mo_longest_j92_35 mo_longest_j117_35 mo_longest_j120_35
      by_cases y : v = -1
      · refine Tc_t y (Tc_inl ⟨hu', ?_, ej⟩)
        dsimp only; rw [e2]; unfold pk; rw [if_pos y]
      · have b := hv y
        rw [wr_i (x := v + 1) (by omega) (by omega)]
        refine Tc_f y (Tc_e (line (v + 1) (by omega)) (Tc_e (line v (by omega)) ?_))
        rw [eS]
        refine Tc_i (fun y2 => Tc_inl ⟨hu', ?_, ej⟩) (fun y2 => Tc_inl ⟨hu', ?_, ej⟩)
        · dsimp only; rw [e2]; unfold pk; rw [if_neg y, if_pos y2]
        · dsimp only; rw [e2]; unfold pk; rw [if_neg y, if_neg y2]
    unfold mo_longest_j89_35
    by_cases y : u = -1
    · exact Tc_t y (j92 I (by rw [e1]; unfold pk; rw [if_pos y]))
    · have b := hu y
      rw [wr_i (x := u + 1) (by omega) (by omega)]
      refine Tc_f y (Tc_e (line (u + 1) (by omega)) (Tc_e (line u (by omega)) ?_))
      rw [eS]
      refine Tc_i (fun y2 => j92 u ?_) (fun y2 => j92 I ?_)
      · rw [e1]; unfold pk; rw [if_neg y, if_pos y2]
      · rw [e1]; unfold pk; rw [if_neg y, if_neg y2]
  · obtain ⟨u, v, z⟩ := t
    obtain ⟨q1, q2, rfl⟩ := hI
    dsimp only at q1 q2 ⊢
    unfold mo_longest_b35
    exact Tc_e (strokesM_eq (by omega)) (Tc_t (by rw [ek]; omega) (Tc_inr ⟨q1, q2⟩))
end
