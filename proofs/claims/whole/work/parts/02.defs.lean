-- ===== the world as the constructors leave it; loops; all methods of the class (dh_ ..) and of the reference (mo_ ..) as functions, by program =====
def S0L : List SHP := [(0, 11, [4, 6, 22, 24, 28, 32, 37, 44, 48, 226, 227, 237, 247, 248, 0]), (0, 10, [5, 0, 0, 0]), (1, 0, [80]), (0, 9, [7, 8, 0, 0, 0, 0]), (3, 4, [11, 14, 17]), (0, 2, [9, 10, 11, 12, 0]), (1, 0, [10]), (1, 0, [10]), (1, 0, [10]), (1, 0, [10]), (0, 1, [14, 15, 0, 0, 0, 0]), (1, 0, [12]), (1, 0, [40]), (0, 1, [17, 18, 0, 0, 0, 0]), (1, 0, [12]), (1, 0, [40]), (0, 1, [20, 21, 0, 0, 0, 0]), (1, 0, [12]), (1, 0, [40]), (0, 4, [23, 0]), (1, 0, [40]), (0, 7, [25, 26, 27, 0, 0, 0]), (1, 0, [40]), (1, 0, [40]), (1, 0, [8]), (0, 7, [29, 30, 31, 0, 0, 0]), (1, 0, [40]), (1, 0, [40]), (1, 0, [8]), (0, 0, [33, 34, 35, 36, 0]), (1, 0, [20]), (1, 0, [20]), (1, 0, [20]), (1, 0, [20]), (0, 3, [38, 39, 40, 41, 42, 43, 0]), (1, 0, [10]), (1, 0, [10]), (1, 0, [10]), (1, 0, [10]), (1, 0, [10]), (1, 0, [10]), (0, 8, [45, 46, 47, 0]), (1, 0, [8]), (1, 0, [8]), (1, 0, [8]), (0, 6, [49, 0, 0]), (3, 5, [48, 64, 80, 96, 112, 128, 144, 160, 176, 192, 208]), (0, 9, [51, 52, 0, 0, 0, 0]), (3, 4, [55, 58, 61]), (0, 2, [53, 54, 55, 56, 0]), (1, 0, [10]), (1, 0, [10]), (1, 0, [10]), (1, 0, [10]), (0, 1, [58, 59, 0, 0, 0, 0]), (1, 0, [12]), (1, 0, [40]), (0, 1, [61, 62, 0, 0, 0, 0]), (1, 0, [12]), (1, 0, [40]), (0, 1, [64, 65, 0, 0, 0, 0]), (1, 0, [12]), (1, 0, [40]), (0, 9, [67, 68, 0, 0, 0, 0]), (3, 4, [71, 74, 77]), (0, 2, [69, 70, 71, 72, 0]), (1, 0, [10]), (1, 0, [10]), (1, 0, [10]), (1, 0, [10]), (0, 1, [74, 75, 0, 0, 0, 0]), (1, 0, [12]), (1, 0, [40]), (0, 1, [77, 78, 0, 0, 0, 0]), (1, 0, [12]), (1, 0, [40]), (0, 1, [80, 81, 0, 0, 0, 0]), (1, 0, [12]), (1, 0, [40]), (0, 9, [83, 84, 0, 0, 0, 0]), (3, 4, [87, 90, 93]), (0, 2, [85, 86, 87, 88, 0]), (1, 0, [10]), (1, 0, [10]), (1, 0, [10]), (1, 0, [10]), (0, 1, [90, 91, 0, 0, 0, 0]), (1, 0, [12]), (1, 0, [40]), (0, 1, [93, 94, 0, 0, 0, 0]), (1, 0, [12]), (1, 0, [40]), (0, 1, [96, 97, 0, 0, 0, 0]), (1, 0, [12]), (1, 0, [40]), (0, 9, [99, 100, 0, 0, 0, 0]), (3, 4, [103, 106, 109]), (0, 2, [101, 102, 103, 104, 0]), (1, 0, [10]), (1, 0, [10]), (1, 0, [10]), (1, 0, [10]), (0, 1, [106, 107, 0, 0, 0, 0]), (1, 0, [12]), (1, 0, [40]), (0, 1, [109, 110, 0, 0, 0, 0]), (1, 0, [12]), (1, 0, [40]), (0, 1, [112, 113, 0, 0, 0, 0]), (1, 0, [12]), (1, 0, [40]), (0, 9, [115, 116, 0, 0, 0, 0]), (3, 4, [119, 122, 125]), (0, 2, [117, 118, 119, 120, 0]), (1, 0, [10]), (1, 0, [10]), (1, 0, [10]), (1, 0, [10]), (0, 1, [122, 123, 0, 0, 0, 0]), (1, 0, [12]), (1, 0, [40]), (0, 1, [125, 126, 0, 0, 0, 0]), (1, 0, [12]), (1, 0, [40]), (0, 1, [128, 129, 0, 0, 0, 0]), (1, 0, [12]), (1, 0, [40]), (0, 9, [131, 132, 0, 0, 0, 0]), (3, 4, [135, 138, 141]), (0, 2, [133, 134, 135, 136, 0]), (1, 0, [10]), (1, 0, [10]), (1, 0, [10]), (1, 0, [10]), (0, 1, [138, 139, 0, 0, 0, 0]), (1, 0, [12]), (1, 0, [40]), (0, 1, [141, 142, 0, 0, 0, 0]), (1, 0, [12]), (1, 0, [40]), (0, 1, [144, 145, 0, 0, 0, 0]), (1, 0, [12]), (1, 0, [40]), (0, 9, [147, 148, 0, 0, 0, 0]), (3, 4, [151, 154, 157]), (0, 2, [149, 150, 151, 152, 0]), (1, 0, [10]), (1, 0, [10]), (1, 0, [10]), (1, 0, [10]), (0, 1, [154, 155, 0, 0, 0, 0]), (1, 0, [12]), (1, 0, [40]), (0, 1, [157, 158, 0, 0, 0, 0]), (1, 0, [12]), (1, 0, [40]), (0, 1, [160, 161, 0, 0, 0, 0]), (1, 0, [12]), (1, 0, [40]), (0, 9, [163, 164, 0, 0, 0, 0]), (3, 4, [167, 170, 173]), (0, 2, [165, 166, 167, 168, 0]), (1, 0, [10]), (1, 0, [10]), (1, 0, [10]), (1, 0, [10]), (0, 1, [170, 171, 0, 0, 0, 0]), (1, 0, [12]), (1, 0, [40]), (0, 1, [173, 174, 0, 0, 0, 0]), (1, 0, [12]), (1, 0, [40]), (0, 1, [176, 177, 0, 0, 0, 0]), (1, 0, [12]), (1, 0, [40]), (0, 9, [179, 180, 0, 0, 0, 0]), (3, 4, [183, 186, 189]), (0, 2, [181, 182, 183, 184, 0]), (1, 0, [10]), (1, 0, [10]), (1, 0, [10]), (1, 0, [10]), (0, 1, [186, 187, 0, 0, 0, 0]), (1, 0, [12]), (1, 0, [40]), (0, 1, [189, 190, 0, 0, 0, 0]), (1, 0, [12]), (1, 0, [40]), (0, 1, [192, 193, 0, 0, 0, 0]), (1, 0, [12]), (1, 0, [40]), (0, 9, [195, 196, 0, 0, 0, 0]), (3, 4, [199, 202, 205]), (0, 2, [197, 198, 199, 200, 0]), (1, 0, [10]), (1, 0, [10]), (1, 0, [10]), (1, 0, [10]), (0, 1, [202, 203, 0, 0, 0, 0]), (1, 0, [12]), (1, 0, [40]), (0, 1, [205, 206, 0, 0, 0, 0]), (1, 0, [12]), (1, 0, [40]), (0, 1, [208, 209, 0, 0, 0, 0]), (1, 0, [12]), (1, 0, [40]), (0, 9, [211, 212, 0, 0, 0, 0]), (3, 4, [215, 218, 221]), (0, 2, [213, 214, 215, 216, 0]), (1, 0, [10]), (1, 0, [10]), (1, 0, [10]), (1, 0, [10]), (0, 1, [218, 219, 0, 0, 0, 0]), (1, 0, [12]), (1, 0, [40]), (0, 1, [221, 222, 0, 0, 0, 0]), (1, 0, [12]), (1, 0, [40]), (0, 1, [224, 225, 0, 0, 0, 0]), (1, 0, [12]), (1, 0, [40]), (3, 5, [247, 263]), (0, 5, [24, 22, 8, 228, 233, 236, 0, 0, 0, 0, 0]), (0, 2, [229, 230, 231, 232, 0]), (1, 0, [10]), (1, 0, [10]), (1, 0, [10]), (1, 0, [10]), (0, 1, [234, 235, 0, 0, 0, 0]), (1, 0, [12]), (1, 0, [40]), (1, 0, [600]), (0, 5, [24, 22, 8, 238, 243, 246, 0, 0, 0, 0, 0]), (0, 2, [239, 240, 241, 242, 0]), (1, 0, [10]), (1, 0, [10]), (1, 0, [10]), (1, 0, [10]), (0, 1, [244, 245, 0, 0, 0, 0]), (1, 0, [12]), (1, 0, [40]), (1, 0, [600]), (1, 0, [12]), (1, 0, [4]), (0, 9, [250, 251, 0, 0, 0, 0]), (3, 4, [254, 257, 260]), (0, 2, [252, 253, 254, 255, 0]), (1, 0, [10]), (1, 0, [10]), (1, 0, [10]), (1, 0, [10]), (0, 1, [257, 258, 0, 0, 0, 0]), (1, 0, [12]), (1, 0, [40]), (0, 1, [260, 261, 0, 0, 0, 0]), (1, 0, [12]), (1, 0, [40]), (0, 1, [263, 264, 0, 0, 0, 0]), (1, 0, [12]), (1, 0, [40]), (0, 9, [266, 267, 0, 0, 0, 0]), (3, 4, [270, 273, 276]), (0, 2, [268, 269, 270, 271, 0]), (1, 0, [10]), (1, 0, [10]), (1, 0, [10]), (1, 0, [10]), (0, 1, [273, 274, 0, 0, 0, 0]), (1, 0, [12]), (1, 0, [40]), (0, 1, [276, 277, 0, 0, 0, 0]), (1, 0, [12]), (1, 0, [40]), (0, 1, [279, 280, 0, 0, 0, 0]), (1, 0, [12]), (1, 0, [40]), (0, 12, [282, 0, 283, 284, 0, 0, 285, 0, 0, 286, 0, 287, 0, 0, 2, 0, 0, 0, 0, 288, 289, 0, 2, 0, 0, 290, 0, 0, 0, 0, 291, 0, 292, 293, 294, 0, 295, 296, 0, 297, 298, 0, 299, 300, 301, 302, 303, 304, 305, 0, 306, 0, 307, 308, 309]), (1, 0, [166]), (1, 0, [3]), (1, 0, [40]), (1, 0, [48]), (1, 1, [80]), (1, 0, [16]), (1, 0, [42]), (1, 1, [40]), (1, 0, [3]), (1, 0, [2080]), (1, 0, [208]), (1, 0, [3]), (1, 0, [320]), (1, 0, [166]), (1, 0, [2400]), (1, 0, [12]), (1, 0, [50]), (1, 0, [10]), (1, 0, [10]), (1, 0, [10]), (1, 0, [10]), (1, 2, [601]), (1, 0, [2]), (1, 0, [24]), (1, 0, [12]), (1, 0, [414]), (1, 2, [2]), (1, 0, [2]), (2, 3, [1])]
def NG : Nat := 308
def S0 (a : Nat) : SHP := S0L.getD a (1, 0, [0])
abbrev isArr (t len a : Nat) : Prop := a < NG ∧ S0 a = (1, t, [len])
def lenA (a : Nat) : Nat := (S0 a).2.2.headD 0
/-- a loop's own runs: on with .inl, out with .inr -/
def iter {σ ε : Type} (body : σ → Option (σ ⊕ ε)) : Nat → σ → Option ε
  | 0, _ => none
  | n + 1, s => (body s).bind (Sum.elim (iter body n) some)
def FU : Nat := 1000000
def dref (x : Int) : Nat := x.toNat - 1
theorem dref_eq {x : Int} (h : 0 < x) : x = ((dref x : Nat) : Int) + 1 := by unfold dref; omega
theorem inR_ref {r : Nat} (h : r < NG) : InR ((r : Int) + 1) := by unfold NG at h; unfold InR; omega
def cpy (M : MEM) (a b n : Nat) : MEM := fun a' k => if a' = b ∧ k < n then M a k else M a' k
noncomputable def iabs (x : Int) : Int := if 0 ≤ x then x else wr (0 - x)
def ixL : List Int := [104, 112, 116, 102, 99, 109, 107, 105]
/-- where a sign stands in "hptfcmki" -/
def ixOf (x : Int) : Int := if x = 104 then 0 else if x = 112 then 1 else if x = 116 then 2 else if x = 102 then 3 else if x = 99 then 4 else if x = 109 then 5 else if x = 107 then 6 else if x = 105 then 7 else -1
noncomputable def tx_addFour_b26 (x1 : Int) (x2 : Int) (M : MEM) : Option ((Int × MEM) ⊕ (Int × MEM)) :=
if x2 < 0 then
some (.inr (x2, M))
else
if 0 ≤ (M 1 1) ∧ (M 1 1) < 80 then
(some (up2 M 2 ((M 1 1)).toNat (ish i_and (ish i_ushr x1 x2) 255))).bind fun M4 =>
(some (up2 M4 1 1 (wr ((M4 1 1) + 1)))).bind fun M6 =>
some (.inl ((wr (x2 + (-8))), M6))
else none
noncomputable def tx_addFour (x1 : Int) (M : MEM) : Option (Int × MEM) :=
if (M 1 1) < 0 then
some (0, M)
else
if (wr ((M 1 1) + 4)) ≤ 80 then
(iter (fun s => tx_addFour_b26 x1 s.1 s.2) FU (24, M)).bind fun w7 =>
some (1, w7.2)
else
some (0, M)
noncomputable def dh_sign (x1 : Int) (M : MEM) : Option (Int × MEM) :=
(tx_addFour x1 M).bind fun p2 =>
if p2.1 = 0 then
some ((-1), p2.2)
else
some ((p2.2 1 1), p2.2)
noncomputable def tx_cut (x1 : Int) (M : MEM) : Option (Int × MEM) :=
if x1 < 0 then
some (0, M)
else
if x1 ≤ (M 1 1) then
(some (up2 M 1 1 x1)).bind fun M3 =>
some (1, M3)
else
some (0, M)
noncomputable def dh_end (x1 : Int) (M : MEM) : Option (Int × MEM) :=
(tx_cut x1 M).bind fun p2 =>
some (p2.1, p2.2)
noncomputable def be_addPlace (a0 : Nat) (x1 : Int) (M : MEM) : Option (MEM) :=
if 12 ≤ (M a0 2) then
some M
else
if 0 ≤ (M a0 2) ∧ (M a0 2) < 12 then
(some (up2 M (a0 + 1) ((M a0 2)).toNat x1)).bind fun M2 =>
(some (up2 M2 a0 2 (wr ((M2 a0 2) + 1)))).bind fun M4 =>
some M4
else none
noncomputable def be_stall (a0 : Nat) (x1 : Int) (M : MEM) : Option (MEM) :=
(some (up2 M a0 4 x1)).bind fun M1 =>
(some (up2 M1 a0 2 0)).bind fun M2 =>
(some (up2 M2 a0 3 0)).bind fun M3 =>
(some (up2 M3 a0 5 0)).bind fun M4 =>
some M4
noncomputable def tx_next  (M : MEM) : Option (Int) :=
if (M 1 2) < 0 then
some (-1)
else
if (M 1 3) ≤ (M 1 2) then
some (-1)
else
if 80 ≤ (M 1 2) then
some (-1)
else
if 0 ≤ (M 1 2) ∧ (M 1 2) < 80 then
some (M 2 ((M 1 2)).toNat)
else none
noncomputable def tx_digit  (M : MEM) : Option (Int × MEM) :=
(tx_next M).bind fun r2 =>
if r2 < 48 then
some ((-1), M)
else
if r2 ≤ 57 then
(some (up2 M 1 2 (wr ((M 1 2) + 1)))).bind fun M7 =>
some ((wr (r2 - 48)), M7)
else
some ((-1), M)
noncomputable def tx_takes (x1 : Int) (M : MEM) : Option (Int × MEM) :=
(tx_next M).bind fun r2 =>
if r2 = x1 then
(some (up2 M 1 2 (wr ((M 1 2) + 1)))).bind fun M6 =>
some (1, M6)
else
some (0, M)
noncomputable def dh_readLine_b33 (a1 : Nat) (x3 : Int) (M : MEM) : Option ((Int × MEM) ⊕ ((Int × MEM) ⊕ (Int × MEM))) :=
if 12 ≤ x3 then
some (.inr (.inr (x3, M)))
else
(tx_digit M).bind fun p15 =>
if 0 ≤ p15.1 then
(be_addPlace a1 p15.1 p15.2).bind fun M20 =>
some (.inl ((wr (x3 + 1)), M20))
else
if x3 < 4 then
some (.inr (.inl (0, p15.2)))
else
some (.inr (.inl (1, p15.2)))
noncomputable def dh_readLine (a1 : Nat) (M : MEM) : Option (Int × MEM) :=
(tx_digit M).bind fun p2 =>
if p2.1 < 0 then
some (0, p2.2)
else
(tx_takes 58 p2.2).bind fun p7 =>
if p7.1 = 0 then
some (0, p7.2)
else
(be_stall a1 p2.1 p7.2).bind fun M12 =>
(iter (fun s => dh_readLine_b33 a1 s.1 s.2) FU (0, M12)).bind (Sum.elim (fun r => some r) (fun w22 =>
some (1, w22.2)))
noncomputable def tx_isOver  (M : MEM) : Int :=
if (M 1 2) = (M 1 1) then
1
else
0
noncomputable def tx_wrong  (M : MEM) : Int :=
(wr ((-1) - (M 1 2)))
noncomputable def dh_readLines_b8  (x1 : Int) (M : MEM) : Option ((Int × MEM) ⊕ ((Int × MEM) ⊕ (Int × MEM))) :=
if 3 ≤ x1 then
some (.inr (.inr (x1, M)))
else
if 0 ≤ x1 ∧ x1 < 3 then
(dh_readLine (10 + 3 * (x1).toNat) M).bind fun p4 =>
if p4.1 = 0 then
some (.inr (.inl ((tx_wrong p4.2), p4.2)))
else
if (tx_isOver p4.2) = 0 then
(tx_takes 59 p4.2).bind fun p16 =>
if p16.1 = 0 then
some (.inr (.inl ((tx_wrong p16.2), p16.2)))
else
some (.inl ((wr (x1 + 1)), p16.2))
else
some (.inr (.inl ((wr ((wr (x1 + 1)) - (p4.2 3 2))), p4.2)))
else none
noncomputable def dh_readLines  (M : MEM) : Option (Int × MEM) :=
(iter (fun s => dh_readLines_b8  s.1 s.2) FU ((M 3 2), M)).bind (Sum.elim (fun r => some r) (fun w23 =>
some ((tx_wrong w23.2), w23.2)))
noncomputable def hi_clear  (M : MEM) : Option (MEM) :=
(some (up2 M 45 2 0)).bind fun M1 =>
some M1
noncomputable def tx_begin (x1 : Int) (M : MEM) : Option (MEM) :=
(some (up2 M 1 2 0)).bind fun M1 =>
(some (up2 M1 1 3 (min (M1 1 1) x1))).bind fun M2 =>
some M2
noncomputable def tx_empty  (M : MEM) : Option (MEM) :=
(some (up2 M 1 1 0)).bind fun M1 =>
some M1
noncomputable def dh_stable_j27 (s0 : Int) (M : MEM) : Option (Int × MEM) :=
(tx_empty M).bind fun M5 =>
if s0 ≤ 0 then
some (s0, M5)
else
(some (up2 M5 3 2 (wr ((M5 3 2) + s0)))).bind fun M7 =>
(hi_clear M7).bind fun M9 =>
some (s0, M9)
noncomputable def dh_stable  (M : MEM) : Option (Int × MEM) :=
(tx_begin 76 M).bind fun M2 =>
if (M2 1 1) = 0 then
dh_stable_j27 0 M2
else
(dh_readLines M2).bind fun p11 =>
dh_stable_j27 p11.1 p11.2
noncomputable def fl_read_b2  (x2 : Int) (M : MEM) : Option ((Int × MEM) ⊕ (Int × MEM)) :=
if 40 ≤ x2 then
some (.inr (x2, M))
else
(tx_digit M).bind fun p3 =>
if p3.1 < 0 then
some (.inr (x2, p3.2))
else
some (.inl ((wr (x2 + 1)), p3.2))
noncomputable def fl_read_b49  (x2 : Int) (M : MEM) : Option ((Int × MEM) ⊕ (Int × MEM)) :=
if (M 19 1) ≤ x2 then
some (.inr (x2, M))
else
if 40 ≤ x2 then
some (.inr (x2, M))
else
(tx_digit M).bind fun p21 =>
if 0 ≤ x2 ∧ x2 < 40 then
(some (up2 p21.2 20 (x2).toNat p21.1)).bind fun M24 =>
some (.inl ((wr (x2 + 1)), M24))
else none
noncomputable def fl_read_j21  (M : MEM) : Option (Int × MEM) :=
if (tx_isOver M) = 0 then
some ((tx_wrong M), M)
else
(tx_begin 40 M).bind fun M16 =>
(some (up2 M16 19 1 (M16 1 1))).bind fun M17 =>
(iter (fun s => fl_read_b49  s.1 s.2) FU (0, M17)).bind fun w26 =>
some ((w26.2 19 1), w26.2)
noncomputable def fl_read  (M : MEM) : Option (Int × MEM) :=
(iter (fun s => fl_read_b2  s.1 s.2) FU (0, M)).bind fun w7 =>
fl_read_j21  w7.2
noncomputable def dh_flies  (M : MEM) : Option (Int × MEM) :=
(tx_begin 40 M).bind fun M2 =>
(fl_read M2).bind fun p4 =>
(tx_empty p4.2).bind fun M8 =>
some (p4.1, M8)
noncomputable def ru_copy (a0 : Nat) (a1 : Nat) (M : MEM) : Option (MEM) :=
(some (up2 M a0 3 (M a1 3))).bind fun M1 =>
(some (cpy M1 (a1 + 1) (a0 + 1) 40)).bind fun M2 =>
some M2
noncomputable def ru_pop (a0 : Nat) (M : MEM) : Option (Int × MEM) :=
if (M a0 4) < 1 then
some (0, M)
else
if (M a0 4) ≤ 40 then
(some (up2 M a0 4 (wr ((M a0 4) - 1)))).bind fun M3 =>
if 0 ≤ (M3 a0 4) ∧ (M3 a0 4) < 40 then
some ((M3 (a0 + 2) ((M3 a0 4)).toNat), M3)
else none
else
some (0, M)
noncomputable def ru_emit (a0 : Nat) (x1 : Int) (M : MEM) : Option (MEM) :=
if 40 ≤ (M a0 3) then
some M
else
if 0 ≤ (M a0 3) ∧ (M a0 3) < 40 then
(some (up2 M (a0 + 1) ((M a0 3)).toNat x1)).bind fun M2 =>
(some (up2 M2 a0 3 (wr ((M2 a0 3) + 1)))).bind fun M4 =>
some M4
else none
noncomputable def ru_binding (x0 : Int) : Int :=
if x0 = 42 then
3
else
if x0 = 43 then
2
else
if x0 = 45 then
2
else
if x0 = 47 then
3
else
if x0 = 60 then
1
else
if x0 = 61 then
1
else
if x0 = 62 then
1
else
if x0 = 256 then
4
else
0
noncomputable def ru_waiting (a0 : Nat) (M : MEM) : Option (Int) :=
if (M a0 4) ≤ 0 then
some 0
else
if 40 < (M a0 4) then
some 0
else
if 0 ≤ (wr ((M a0 4) - 1)) ∧ (wr ((M a0 4) - 1)) < 40 then
some (ru_binding (M (a0 + 2) ((wr ((M a0 4) - 1))).toNat))
else none
noncomputable def ru_unwind_b5 (a0 : Nat) (x1 : Int) (x2 : Int) (M : MEM) : Option ((Int × MEM) ⊕ (Int × MEM)) :=
if x2 ≤ 0 then
some (.inr (x2, M))
else
(ru_waiting a0 M).bind fun r3 =>
if r3 < x1 then
some (.inr (x2, M))
else
(ru_pop a0 M).bind fun p8 =>
(ru_emit a0 (wr (2000 + p8.1)) p8.2).bind fun M12 =>
some (.inl ((wr (x2 + (-1))), M12))
noncomputable def ru_unwind (a0 : Nat) (x1 : Int) (M : MEM) : Option (MEM) :=
(iter (fun s => ru_unwind_b5 a0 x1 s.1 s.2) FU ((M a0 4), M)).bind fun w13 =>
some w13.2
noncomputable def ru_closeBrackets_b0 (a0 : Nat)  (M : MEM) : Option ((MEM) ⊕ (MEM)) :=
if (M a0 5) ≤ 0 then
some (.inr M)
else
(tx_takes 41 M).bind fun p16 =>
if p16.1 = 0 then
some (.inr p16.2)
else
(ru_unwind a0 1 p16.2).bind fun M21 =>
(ru_pop a0 M21).bind fun p23 =>
(some (up2 p23.2 a0 5 (wr ((p23.2 a0 5) - 1)))).bind fun M26 =>
some (.inl M26)
noncomputable def ru_closeBrackets (a0 : Nat) (M : MEM) : Option (MEM) :=
if (M a0 5) ≤ 0 then
some M
else
(tx_takes 41 M).bind fun p3 =>
if p3.1 = 0 then
some p3.2
else
(ru_unwind a0 1 p3.2).bind fun M8 =>
(ru_pop a0 M8).bind fun p10 =>
(some (up2 p10.2 a0 5 (wr ((p10.2 a0 5) - 1)))).bind fun M13 =>
(iter (fun s => ru_closeBrackets_b0 a0  s) FU M13).bind fun w27 =>
some w27
noncomputable def ru_push (a0 : Nat) (x1 : Int) (M : MEM) : Option (MEM) :=
if (M a0 4) < 0 then
some M
else
if 40 ≤ (M a0 4) then
some M
else
if 0 ≤ (M a0 4) ∧ (M a0 4) < 40 then
(some (up2 M (a0 + 2) ((M a0 4)).toNat x1)).bind fun M3 =>
(some (up2 M3 a0 4 (wr ((M3 a0 4) + 1)))).bind fun M5 =>
some M5
else none
noncomputable def ru_readOperator_j41 (a0 : Nat) (x2 : Int) (M : MEM) : Option (Int × MEM) :=
(ru_push a0 x2 M).bind fun M18 =>
(tx_takes x2 M18).bind fun p20 =>
some (p20.1, p20.2)
noncomputable def ru_readOperator (a0 : Nat) (M : MEM) : Option (Int × MEM) :=
(tx_next M).bind fun r2 =>
if 1 ≤ (ru_binding r2) then
(ru_unwind a0 (max 2 (ru_binding r2)) M).bind fun M10 =>
if (ru_binding r2) = 1 then
(ru_waiting a0 M10).bind fun r13 =>
if r13 = 1 then
some (0, M10)
else
ru_readOperator_j41 a0 r2 M10
else
ru_readOperator_j41 a0 r2 M10
else
some (0, M)
noncomputable def ru_readAhead_j64_2 (a0 : Nat) (x2 : Int) (M : MEM) : Option ((Int × MEM) ⊕ ((MEM) ⊕ (Int × MEM))) :=
some (.inl ((wr (x2 + 1)), M))
noncomputable def ru_readAhead_b2 (a0 : Nat) (x2 : Int) (M : MEM) : Option ((Int × MEM) ⊕ ((MEM) ⊕ (Int × MEM))) :=
if 40 ≤ x2 then
some (.inr (.inr (x2, M)))
else
(tx_takes 45 M).bind fun p3 =>
if p3.1 = 0 then
if 4 ≤ (p3.2 a0 5) then
some (.inr (.inl p3.2))
else
(tx_takes 40 p3.2).bind fun p9 =>
if p9.1 = 0 then
some (.inr (.inl p9.2))
else
(ru_push a0 40 p9.2).bind fun M14 =>
(some (up2 M14 a0 5 (wr ((M14 a0 5) + 1)))).bind fun M15 =>
ru_readAhead_j64_2 a0 x2 M15
else
(ru_push a0 256 p3.2).bind fun M17 =>
ru_readAhead_j64_2 a0 x2 M17
noncomputable def ru_readAhead (a0 : Nat) (M : MEM) : Option (MEM) :=
(iter (fun s => ru_readAhead_b2 a0 s.1 s.2) FU (0, M)).bind (Sum.elim (fun r => some r) (fun w18 =>
some w18.2))
noncomputable def tx_number_b7 (x1 : Int) (x2 : Int) (x3 : Int) (M : MEM) : Option ((Int × Int × MEM) ⊕ ((Int × MEM) ⊕ (Int × Int × MEM))) :=
if x1 ≤ x3 then
some (.inr (.inr (x2, x3, M)))
else
if x2 < 0 then
some (.inr (.inr (x2, x3, M)))
else
(tx_digit M).bind fun p8 =>
if 0 ≤ p8.1 then
some (.inl ((wr ((wr (x2 * 10)) + p8.1)), (wr (x3 + 1)), p8.2))
else
some (.inr (.inl (x2, p8.2)))
noncomputable def tx_number (x1 : Int) (M : MEM) : Option (Int × MEM) :=
(tx_digit M).bind fun p2 =>
(iter (fun s => tx_number_b7 x1 s.1 s.2.1 s.2.2) FU (p2.1, 1, p2.2)).bind (Sum.elim (fun r => some r) (fun w12 =>
some (w12.1, w12.2.2)))
noncomputable def ru_readThing_j42 (a0 : Nat) (x3 : Int) (s0 : Int) (M : MEM) : Option (Int × MEM) :=
if 0 ≤ s0 then
(tx_takes x3 M).bind fun p15 =>
(ru_emit a0 (wr (1000 + s0)) p15.2).bind fun M19 =>
some (1, M19)
else
some (0, M)
noncomputable def ru_readThing (a0 : Nat) (M : MEM) : Option (Int × MEM) :=
(ru_readAhead a0 M).bind fun M2 =>
(tx_number 3 M2).bind fun p4 =>
if p4.1 < 0 then
(tx_next p4.2).bind fun r9 =>
if 0 ≤ r9 then
ru_readThing_j42 a0 r9 (ixOf (zx16 r9)) p4.2
else
ru_readThing_j42 a0 r9 (-1) p4.2
else
(ru_emit a0 p4.1 p4.2).bind fun M21 =>
some (1, M21)
noncomputable def ru_read_b26 (a0 : Nat) (x2 : Int) (M : MEM) : Option ((Int × MEM) ⊕ ((Int × MEM) ⊕ (Int × MEM))) :=
if 40 ≤ x2 then
some (.inr (.inr (x2, M)))
else
(ru_readThing a0 M).bind fun p10 =>
if p10.1 = 0 then
some (.inr (.inl (0, p10.2)))
else
(ru_closeBrackets a0 p10.2).bind fun M15 =>
if (tx_isOver M15) = 0 then
(ru_readOperator a0 M15).bind fun p21 =>
if p21.1 = 0 then
some (.inr (.inl (0, p21.2)))
else
some (.inl ((wr (x2 + 1)), p21.2))
else
(ru_unwind a0 1 M15).bind fun M26 =>
if (M26 a0 5) = 0 then
some (.inr (.inl (1, M26)))
else
some (.inr (.inl (0, M26)))
noncomputable def ru_read (a0 : Nat) (M : MEM) : Option (Int × MEM) :=
(some (up2 M a0 3 0)).bind fun M1 =>
(some (up2 M1 a0 4 0)).bind fun M2 =>
(some (up2 M2 a0 5 0)).bind fun M3 =>
if (tx_isOver M3) = 0 then
(iter (fun s => ru_read_b26 a0 s.1 s.2) FU (0, M3)).bind (Sum.elim (fun r => some r) (fun w28 =>
some (0, w28.2)))
else
some (1, M3)
noncomputable def dh_rule  (M : MEM) : Option (Int × MEM) :=
(tx_begin 40 M).bind fun M2 =>
(ru_read 25 M2).bind fun p4 =>
(tx_empty p4.2).bind fun M11 =>
if p4.1 = 0 then
some ((tx_wrong p4.2), M11)
else
(ru_copy 21 25 M11).bind fun M14 =>
some (0, M14)
noncomputable def be_thistlesOn (a0 : Nat) (x1 : Int) (M : MEM) : Option (Int) :=
if x1 < 0 then
some 0
else
if 12 ≤ x1 then
some 0
else
if 0 ≤ x1 ∧ x1 < 12 then
some (M (a0 + 1) (x1).toNat)
else none
noncomputable def dh_isDonkey (x1 : Int) (M : MEM) : Int :=
if x1 < 0 then
0
else
if (M 3 2) ≤ x1 then
0
else
if 3 ≤ x1 then
0
else
1
noncomputable def dh_isPlace (x1 : Int) (x2 : Int) (M : MEM) : Option (Int) :=
if (dh_isDonkey x1 M) = 0 then
some 0
else
if x2 < 0 then
some 0
else
if 0 ≤ x1 ∧ x1 < 3 then
if (M (10 + 3 * (x1).toNat) 2) ≤ x2 then
some 0
else
some 1
else none
noncomputable def dh_thistles (x1 : Int) (x2 : Int) (M : MEM) : Option (Int) :=
(dh_isPlace x1 x2 M).bind fun r2 =>
if r2 = 0 then
some (-1)
else
if 0 ≤ x1 ∧ x1 < 3 then
(be_thistlesOn (10 + 3 * (x1).toNat) x2 M).bind fun r8 =>
some r8
else none
noncomputable def be_put (a0 : Nat) (x1 : Int) (x2 : Int) (M : MEM) : Option (MEM) :=
if x1 < 0 then
some M
else
if 12 ≤ x1 then
some M
else
if 0 ≤ x1 ∧ x1 < 12 then
(some (up2 M (a0 + 1) (x1).toNat x2)).bind fun M3 =>
some M3
else none
noncomputable def dh_sow (x1 : Int) (x2 : Int) (x3 : Int) (M : MEM) : Option (Int × MEM) :=
(dh_isPlace x1 x2 M).bind fun r2 =>
if r2 = 0 then
some ((-1), M)
else
if x3 < 0 then
some ((-1), M)
else
if x3 ≤ 9 then
if 0 ≤ x1 ∧ x1 < 3 then
(be_thistlesOn (10 + 3 * (x1).toNat) x2 M).bind fun r10 =>
(be_put (10 + 3 * (x1).toNat) x2 x3 M).bind fun M14 =>
some (r10, M14)
else none
else
some ((-1), M)
noncomputable def dh_setHunger (x1 : Int) (x2 : Int) (M : MEM) : Option (Int × MEM) :=
if (dh_isDonkey x1 M) = 0 then
some ((-1), M)
else
if x2 < 0 then
some ((-1), M)
else
if x2 ≤ 9 then
if 0 ≤ x1 ∧ x1 < 3 then
(some (up2 M (10 + 3 * (x1).toNat) 4 x2)).bind fun M8 =>
some ((M (10 + 3 * (x1).toNat) 4), M8)
else none
else
some ((-1), M)
noncomputable def dh_set (x1 : Int) (x2 : Int) (x3 : Int) (M : MEM) : Option (Int × MEM) :=
if x2 = 0 then
(dh_setHunger x1 x3 M).bind fun p3 =>
some (p3.1, p3.2)
else
if x2 = 1 then
(dh_isPlace x1 x3 M).bind fun r8 =>
if r8 = 0 then
some ((-1), M)
else
if 0 ≤ x1 ∧ x1 < 3 then
(some (up2 M (10 + 3 * (x1).toNat) 3 x3)).bind fun M13 =>
some ((M (10 + 3 * (x1).toNat) 3), M13)
else none
else
some ((-1), M)
noncomputable def be_allThistles_b4 (a0 : Nat) (x1 : Int) (x2 : Int) (M : MEM) : Option ((Int × Int) ⊕ (Int × Int)) :=
if (M a0 2) ≤ x2 then
some (.inr (x1, x2))
else
(be_thistlesOn a0 x2 M).bind fun r3 =>
some (.inl ((wr (x1 + r3)), (wr (x2 + 1))))
noncomputable def be_allThistles (a0 : Nat) (M : MEM) : Option (Int) :=
(iter (fun s => be_allThistles_b4 a0 s.1 s.2 M) FU (0, 0)).bind fun w6 =>
some w6.1
noncomputable def dh_entryOf_j20 (s0 : Int) : Int :=
(max 0 (min 9 s0))
noncomputable def dh_entryOf (x0 : Int) (x1 : Int) : Int :=
if x0 = 0 then
dh_entryOf_j20 (sx8 x1)
else
if x0 = 1 then
dh_entryOf_j20 (sx16 x1)
else
dh_entryOf_j20 x1
noncomputable def dh_sheet_j101_66 (x1 : Int) (x2 : Int) (x4 : Int) (x5 : Int) (x7 : Int) (x8 : Int) (s1 : Int) (s2 : Int) (M : MEM) : Option ((Int × Int × MEM) ⊕ (Int × Int × MEM)) :=
(be_put 10 s1 s2 M).bind fun M15 =>
some (.inl ((wr (x7 + x4)), (wr (x8 + 1)), M15))
noncomputable def dh_sheet_j100_66 (x1 : Int) (x2 : Int) (x4 : Int) (x5 : Int) (x7 : Int) (x8 : Int) (s1 : Int) (M : MEM) : Option ((Int × Int × MEM) ⊕ (Int × Int × MEM)) :=
dh_sheet_j101_66 x1 x2 x4 x5 x7 x8 s1 0 M
noncomputable def dh_sheet_b66 (x1 : Int) (x2 : Int) (x4 : Int) (x5 : Int) (x7 : Int) (x8 : Int) (M : MEM) : Option ((Int × Int × MEM) ⊕ (Int × Int × MEM)) :=
if (M 10 2) ≤ x8 then
some (.inr (x7, x8, M))
else
if x5 = 0 then
if x2 ≤ x8 then
dh_sheet_j100_66 x1 x2 x4 x5 x7 x8 x8 M
else
dh_sheet_j101_66 x1 x2 x4 x5 x7 x8 x8 (dh_entryOf x1 x7) M
else
dh_sheet_j100_66 x1 x2 x4 x5 x7 x8 x8 M
noncomputable def dh_sheet_j49 (x1 : Int) (x2 : Int) (x3 : Int) (x4 : Int) (x5 : Int) (M : MEM) : Option (Int × MEM) :=
(iter (fun s => dh_sheet_b66 x1 x2 x4 x5 s.1 s.2.1 s.2.2) FU (x3, 0, M)).bind fun w19 =>
if x5 = 0 then
(be_allThistles 10 w19.2.2).bind fun r22 =>
some (r22, w19.2.2)
else
some ((-3), w19.2.2)
noncomputable def dh_sheet_j35 (x1 : Int) (x2 : Int) (x3 : Int) (x4 : Int) (s0 : Int) (M : MEM) : Option (Int × MEM) :=
if s0 = 0 then
if 0 ≤ x2 then
dh_sheet_j49 x1 x2 x3 x4 s0 M
else
some ((-2), M)
else
dh_sheet_j49 x1 x2 x3 x4 s0 M
noncomputable def dh_sheet (x1 : Int) (x2 : Int) (x3 : Int) (x4 : Int) (M : MEM) : Option (Int × MEM) :=
if x1 < 0 then
some ((-1), M)
else
if 3 < x1 then
some ((-1), M)
else
if 12 < x2 then
some ((-1), M)
else
if (dh_isDonkey 0 M) = 0 then
some ((-1), M)
else
if x1 = 3 then
dh_sheet_j35 x1 x2 x3 x4 1 M
else
dh_sheet_j35 x1 x2 x3 x4 0 M
noncomputable def ca_add (a0 : Nat) (x1 : Int) (x2 : Int) (x3 : Int) (x4 : Int) (M : MEM) : Option (Int × MEM) :=
if (M a0 4) < 0 then
some (0, M)
else
if (M a0 4) < 10 then
if 0 ≤ (M a0 4) ∧ (M a0 4) < 10 then
(some (up2 M (a0 + 1) ((M a0 4)).toNat x1)).bind fun M3 =>
if 0 ≤ (M3 a0 4) ∧ (M3 a0 4) < 10 then
(some (up2 M3 (a0 + 2) ((M3 a0 4)).toNat x2)).bind fun M5 =>
if 0 ≤ (M5 a0 4) ∧ (M5 a0 4) < 10 then
(some (up2 M5 (a0 + 3) ((M5 a0 4)).toNat x3)).bind fun M7 =>
if 0 ≤ (M7 a0 4) ∧ (M7 a0 4) < 10 then
(some (up2 M7 (a0 + 4) ((M7 a0 4)).toNat x4)).bind fun M9 =>
(some (up2 M9 a0 4 (wr ((M9 a0 4) + 1)))).bind fun M11 =>
some (1, M11)
else none
else none
else none
else none
else
some (0, M)
noncomputable def dh_isWay (x0 : Int) : Int :=
if x0 = 1 then
1
else
if x0 = (-1) then
1
else
0
noncomputable def dh_carrot (x1 : Int) (x2 : Int) (x3 : Int) (x4 : Int) (M : MEM) : Option (Int × MEM) :=
if (dh_isDonkey x1 M) = 0 then
some ((-1), M)
else
if (dh_isWay x4) = 0 then
some ((-1), M)
else
if x2 < 0 then
some ((-1), M)
else
if x3 < x2 then
some ((-1), M)
else
if x3 ≤ 9999 then
(ca_add 5 x1 x2 x3 x4 M).bind fun p13 =>
if p13.1 = 0 then
some ((-2), p13.2)
else
some ((M 5 4), p13.2)
else
some ((-1), M)
noncomputable def ca_dropLatest (a0 : Nat) (M : MEM) : Option (Int × MEM) :=
if 1 ≤ (M a0 4) then
(some (up2 M a0 4 (wr ((M a0 4) - 1)))).bind fun M2 =>
some (1, M2)
else
some (0, M)
noncomputable def dh_eat  (M : MEM) : Option (Int × MEM) :=
(ca_dropLatest 5 M).bind fun p2 =>
if p2.1 = 0 then
some ((-1), p2.2)
else
some ((p2.2 5 4), p2.2)
noncomputable def dh_newRow  (M : MEM) : Option (MEM) :=
(some (up2 M 0 14 0)).bind fun M1 =>
some M1
noncomputable def jm_floorMod (x0 : Int) (x1 : Int) : Option (Int) :=
if x1 = 0 then none else
if 0 ≤ (ish i_xor x0 x1) then
some (Int.tmod x0 x1)
else
if (Int.tmod x0 x1) = 0 then
some (Int.tmod x0 x1)
else
some (wr ((Int.tmod x0 x1) + x1))
noncomputable def be_enter (a0 : Nat) (x1 : Int) (M : MEM) : Option (MEM) :=
(jm_floorMod (M a0 5) 40).bind fun r2 =>
if 0 ≤ r2 ∧ r2 < 40 then
(some (up2 M (a0 + 2) (r2).toNat x1)).bind fun M5 =>
some M5
else none
noncomputable def be_walk_j132_13 (a0 : Nat) (x1 : Int) (x2 : Int) (x3 : Int) (M : MEM) : Option ((Int × Int × MEM) ⊕ (Int × Int × MEM)) :=
some (.inl (x2, (wr (x3 + 1)), M))
noncomputable def be_walk_j87_13 (a0 : Nat) (x1 : Int) (x2 : Int) (x3 : Int) (M : MEM) : Option ((Int × Int × MEM) ⊕ (Int × Int × MEM)) :=
(be_thistlesOn a0 (M a0 3) M).bind fun r10 =>
if r10 ≤ 0 then
be_walk_j132_13 a0 x1 x2 x3 M
else
(be_put a0 (M a0 3) (wr (r10 - 1)) M).bind fun M15 =>
(some (up2 M15 a0 4 (max 0 (wr ((M15 a0 4) - 2))))).bind fun M16 =>
be_walk_j132_13 a0 x1 (ish i_or x2 2) x3 M16
noncomputable def be_walk_j48_13 (a0 : Nat) (x1 : Int) (x2 : Int) (x3 : Int) (s1 : Int) (M : MEM) : Option ((Int × Int × MEM) ⊕ (Int × Int × MEM)) :=
(some (up2 M a0 3 s1)).bind fun M5 =>
if (M5 a0 3) = 0 then
(some (up2 M5 a0 5 (wr ((M5 a0 5) + 1)))).bind fun M7 =>
(some (up2 M7 a0 4 (min 9 (wr ((M7 a0 4) + 1))))).bind fun M8 =>
be_walk_j87_13 a0 x1 (ish i_or x2 1) x3 M8
else
be_walk_j87_13 a0 x1 x2 x3 M5
noncomputable def be_walk_b13 (a0 : Nat) (x1 : Int) (x2 : Int) (x3 : Int) (M : MEM) : Option ((Int × Int × MEM) ⊕ (Int × Int × MEM)) :=
if x1 ≤ x3 then
some (.inr (x2, x3, M))
else
if (ish i_and x2 2) = 0 then
if (M a0 2) ≤ (wr ((M a0 3) + 1)) then
be_walk_j48_13 a0 x1 x2 x3 0 M
else
be_walk_j48_13 a0 x1 x2 x3 (wr ((M a0 3) + 1)) M
else
some (.inr (x2, x3, M))
noncomputable def be_walk_j10 (a0 : Nat) (x1 : Int) (s0 : Int) (M : MEM) : Option (Int × MEM) :=
(iter (fun s => be_walk_b13 a0 x1 s.1 s.2.1 s.2.2) FU (s0, 0, M)).bind fun w17 =>
some (w17.1, w17.2.2)
noncomputable def be_walk (a0 : Nat) (x1 : Int) (M : MEM) : Option (Int × MEM) :=
if 1 ≤ x1 then
be_walk_j10 a0 x1 0 M
else
be_walk_j10 a0 x1 4 M
noncomputable def ca_pull_j64_5 (a0 : Nat) (x1 : Int) (x2 : Int) (x3 : Int) (x4 : Int) (M : MEM) : Option ((Int × Int) ⊕ (Int × Int)) :=
some (.inl (x3, (wr (x4 + 1))))
noncomputable def ca_pull_b5 (a0 : Nat) (x1 : Int) (x2 : Int) (x3 : Int) (x4 : Int) (M : MEM) : Option ((Int × Int) ⊕ (Int × Int)) :=
if (M a0 4) ≤ x4 then
some (.inr (x3, x4))
else
if 10 ≤ x4 then
some (.inr (x3, x4))
else
if 0 ≤ x4 ∧ x4 < 10 then
if (M (a0 + 1) (x4).toNat) = x1 then
if 0 ≤ x4 ∧ x4 < 10 then
if x2 < (M (a0 + 2) (x4).toNat) then
ca_pull_j64_5 a0 x1 x2 x3 x4 M
else
if 0 ≤ x4 ∧ x4 < 10 then
if (M (a0 + 3) (x4).toNat) < x2 then
ca_pull_j64_5 a0 x1 x2 x3 x4 M
else
if 0 ≤ x4 ∧ x4 < 10 then
ca_pull_j64_5 a0 x1 x2 (wr (x3 + (M (a0 + 4) (x4).toNat))) x4 M
else none
else none
else none
else
ca_pull_j64_5 a0 x1 x2 x3 x4 M
else none
noncomputable def ca_pull (a0 : Nat) (x1 : Int) (x2 : Int) (M : MEM) : Option (Int) :=
(iter (fun s => ca_pull_b5 a0 x1 x2 s.1 s.2 M) FU (0, 0)).bind fun w10 =>
some w10.1
noncomputable def fl_in (x1 : Int) (M : MEM) : Option (Int) :=
if 1 ≤ (M 19 1) then
(jm_floorMod x1 (M 19 1)).bind fun r3 =>
if 40 ≤ r3 then
some 0
else
if 0 ≤ r3 ∧ r3 < 40 then
some (M 20 (r3).toNat)
else none
else
some 0
noncomputable def ru_give (a0 : Nat) (a1 : Nat) (x2 : Int) (x3 : Int) (x4 : Int) (x5 : Int) (M : MEM) : Option (MEM) :=
(some (up2 M (a0 + 3) 0 (M a1 4))).bind fun M1 =>
(some (up2 M1 (a0 + 3) 1 (M1 a1 3))).bind fun M2 =>
(be_thistlesOn a1 (M2 a1 3) M2).bind fun r4 =>
(some (up2 M2 (a0 + 3) 2 r4)).bind fun M7 =>
(some (up2 M7 (a0 + 3) 3 x2)).bind fun M8 =>
(some (up2 M8 (a0 + 3) 4 x3)).bind fun M9 =>
(some (up2 M9 (a0 + 3) 5 x4)).bind fun M10 =>
(some (up2 M10 (a0 + 3) 6 (Int.tmod (M10 a1 5) 12))).bind fun M11 =>
(some (up2 M11 (a0 + 3) 7 x5)).bind fun M12 =>
some M12
noncomputable def ru_combine (x0 : Int) (x1 : Int) (x2 : Int) : Option (Int) :=
if x0 = 42 then
some (wr (x1 * x2))
else
if x0 = 43 then
some (wr (x1 + x2))
else
if x0 = 45 then
some (wr (x1 - x2))
else
if x0 = 47 then
if x2 = 0 then
some 0
else
if x2 = 0 then none else
some (wr (Int.tdiv x1 x2))
else
if x0 = 60 then
if x2 ≤ x1 then
some 0
else
some 1
else
if x0 = 62 then
if x1 ≤ x2 then
some 0
else
some 1
else
if x1 = x2 then
some 1
else
some 0
noncomputable def ru_pace_j126_16 (a0 : Nat) (x1 : Int) (M : MEM) : Option ((Int × MEM) ⊕ (Int × MEM)) :=
some (.inl ((wr (x1 + 1)), M))
noncomputable def ru_pace_b16 (a0 : Nat) (x1 : Int) (M : MEM) : Option ((Int × MEM) ⊕ (Int × MEM)) :=
if (M a0 3) ≤ x1 then
some (.inr (x1, M))
else
if 40 ≤ x1 then
some (.inr (x1, M))
else
if 0 ≤ x1 ∧ x1 < 40 then
if 1000 ≤ (M (a0 + 1) (x1).toNat) then
if (wr (1000 + 8)) ≤ (M (a0 + 1) (x1).toNat) then
if (M (a0 + 1) (x1).toNat) = 2256 then
(ru_pop a0 M).bind fun p10 =>
(ru_push a0 (wr (-p10.1)) p10.2).bind fun M14 =>
ru_pace_j126_16 a0 x1 M14
else
(ru_pop a0 M).bind fun p16 =>
(ru_pop a0 p16.2).bind fun p20 =>
(ru_combine (wr ((M (a0 + 1) (x1).toNat) - 2000)) p20.1 p16.1).bind fun r24 =>
(ru_push a0 r24 p20.2).bind fun M28 =>
ru_pace_j126_16 a0 x1 M28
else
if 0 ≤ (wr ((M (a0 + 1) (x1).toNat) - 1000)) ∧ (wr ((M (a0 + 1) (x1).toNat) - 1000)) < 8 then
(ru_push a0 (M (a0 + 3) ((wr ((M (a0 + 1) (x1).toNat) - 1000))).toNat) M).bind fun M31 =>
ru_pace_j126_16 a0 x1 M31
else none
else
(ru_push a0 (M (a0 + 1) (x1).toNat) M).bind fun M33 =>
ru_pace_j126_16 a0 x1 M33
else none
noncomputable def ru_pace_j132 (a0 : Nat) (M : MEM) : Option (Int × MEM) :=
(ru_pop a0 M).bind fun p36 =>
some ((max 0 (min 4 p36.1)), p36.2)
noncomputable def ru_pace (a0 : Nat) (M : MEM) : Option (Int × MEM) :=
if (M a0 3) = 0 then
some (1, M)
else
(some (up2 M a0 4 0)).bind fun M2 =>
(iter (fun s => ru_pace_b16 a0 s.1 s.2) FU (0, M2)).bind fun w34 =>
ru_pace_j132 a0 w34.2
noncomputable def dh_paceNow (a1 : Nat) (x2 : Int) (M : MEM) : Option (Int × MEM) :=
(fl_in (M 3 3) M).bind fun r2 =>
(ca_pull 5 x2 (M 3 3) M).bind fun r6 =>
(ru_give 21 a1 r2 r6 (M 3 3) x2 M).bind fun M10 =>
(ru_pace 21 M10).bind fun p12 =>
some (p12.1, p12.2)
noncomputable def dh_pass_j88_4 (x1 : Int) (x2 : Int) (M : MEM) : Option ((Int × Int × MEM) ⊕ (Int × Int × MEM)) :=
some (.inl (x1, (wr (x2 + 1)), M))
noncomputable def dh_pass_j73_4 (x1 : Int) (x2 : Int) (x4 : Int) (M : MEM) : Option ((Int × Int × MEM) ⊕ (Int × Int × MEM)) :=
if (ish i_and x4 4) = 0 then
dh_pass_j88_4 x1 x2 M
else
dh_pass_j88_4 (ish i_or x1 (ish i_shl 1 (wr (x2 + 3)))) x2 M
noncomputable def dh_pass_j60_4 (x1 : Int) (x2 : Int) (x4 : Int) (M : MEM) : Option ((Int × Int × MEM) ⊕ (Int × Int × MEM)) :=
if (ish i_and x4 2) = 0 then
dh_pass_j73_4 x1 x2 x4 M
else
dh_pass_j73_4 (ish i_or x1 (ish i_shl 1 x2)) x2 x4 M
noncomputable def dh_pass_b4  (x1 : Int) (x2 : Int) (M : MEM) : Option ((Int × Int × MEM) ⊕ (Int × Int × MEM)) :=
if (M 3 2) ≤ x2 then
some (.inr (x1, x2, M))
else
if 3 ≤ x2 then
some (.inr (x1, x2, M))
else
if 0 ≤ x2 ∧ x2 < 3 then
(dh_paceNow (10 + 3 * (x2).toNat) x2 M).bind fun p5 =>
(be_walk (10 + 3 * (x2).toNat) p5.1 p5.2).bind fun p9 =>
if (ish i_and p9.1 1) = 0 then
dh_pass_j60_4 x1 x2 p9.1 p9.2
else
(be_enter (10 + 3 * (x2).toNat) (p9.2 3 3) p9.2).bind fun M16 =>
dh_pass_j60_4 x1 x2 p9.1 M16
else none
noncomputable def dh_pass_j94 (x1 : Int) (M : MEM) : Option (Int × MEM) :=
(some (up2 M 3 3 (wr ((M 3 3) + 1)))).bind fun M18 =>
some (x1, M18)
noncomputable def dh_pass  (M : MEM) : Option (Int × MEM) :=
(iter (fun s => dh_pass_b4  s.1 s.2.1 s.2.2) FU (0, 0, M)).bind fun w17 =>
dh_pass_j94 w17.1 w17.2.2
noncomputable def dh_tell (x1 : Int) (M : MEM) : Option (MEM) :=
if 4 ≤ (M 0 14) then
some M
else
if 0 ≤ (M 0 14) ∧ (M 0 14) < 4 then
(some (up2 M 245 ((M 0 14)).toNat x1)).bind fun M2 =>
(some (up2 M2 0 14 (wr ((M2 0 14) + 1)))).bind fun M4 =>
some M4
else none
noncomputable def hi_commit  (M : MEM) : Option (MEM) :=
if 10 ≤ (M 45 2) then
(jm_floorMod (wr ((M 45 1) + 1)) 11).bind fun r3 =>
(some (up2 M 45 1 r3)).bind fun M6 =>
some M6
else
(some (up2 M 45 2 (wr ((M 45 2) + 1)))).bind fun M7 =>
some M7
noncomputable def ca_copy (a0 : Nat) (a1 : Nat) (M : MEM) : Option (MEM) :=
(some (up2 M a0 4 (M a1 4))).bind fun M1 =>
(some (cpy M1 (a1 + 1) (a0 + 1) 10)).bind fun M2 =>
(some (cpy M2 (a1 + 2) (a0 + 2) 10)).bind fun M3 =>
(some (cpy M3 (a1 + 3) (a0 + 3) 10)).bind fun M4 =>
(some (cpy M4 (a1 + 4) (a0 + 4) 10)).bind fun M5 =>
some M5
noncomputable def be_copyButBook (a0 : Nat) (a1 : Nat) (M : MEM) : Option (MEM) :=
(some (up2 M a0 2 (M a1 2))).bind fun M1 =>
(some (up2 M1 a0 3 (M1 a1 3))).bind fun M2 =>
(some (up2 M2 a0 4 (M2 a1 4))).bind fun M3 =>
(some (up2 M3 a0 5 (M3 a1 5))).bind fun M4 =>
(some (cpy M4 (a1 + 1) (a0 + 1) 12)).bind fun M5 =>
some M5
noncomputable def be_copy (a0 : Nat) (a1 : Nat) (M : MEM) : Option (MEM) :=
(be_copyButBook a0 a1 M).bind fun M2 =>
(some (cpy M2 (a1 + 2) (a0 + 2) 40)).bind fun M3 =>
some M3
noncomputable def sc_copyWalk_b18 (a0 : Nat) (a1 : Nat) (x2 : Int) (M : MEM) : Option ((Int × MEM) ⊕ (Int × MEM)) :=
if (M a0 2) ≤ x2 then
some (.inr (x2, M))
else
if 3 ≤ x2 then
some (.inr (x2, M))
else
if 0 ≤ x2 ∧ x2 < 3 then
if 0 ≤ x2 ∧ x2 < 3 then
(be_copy (a0 + 7 + 3 * (x2).toNat) (a1 + 7 + 3 * (x2).toNat) M).bind fun M8 =>
some (.inl ((wr (x2 + 1)), M8))
else none
else none
noncomputable def sc_copyWalk (a0 : Nat) (a1 : Nat) (M : MEM) : Option (MEM) :=
(some (up2 M a0 2 (M a1 2))).bind fun M1 =>
(some (up2 M1 a0 3 (M1 a1 3))).bind fun M2 =>
(iter (fun s => sc_copyWalk_b18 a0 a1 s.1 s.2) FU (0, M2)).bind fun w9 =>
some w9.2
noncomputable def hi_prepare (a1 : Nat) (x2 : Int) (M : MEM) : Option (MEM) :=
(jm_floorMod (wr ((M 45 1) + (M 45 2))) 11).bind fun r2 =>
if 0 ≤ r2 ∧ r2 < 11 then
(sc_copyWalk (47 + 16 * (r2).toNat) a1 M).bind fun M7 =>
(ca_copy ((47 + 16 * (r2).toNat) + 2) (a1 + 2) M7).bind fun M9 =>
if x2 = 0 ∨ x2 = 1 then
(some (up2 M9 (47 + 16 * (r2).toNat) 5 x2)).bind fun M10 =>
some M10
else none
else none
noncomputable def sc_allStrokes_b4 (a0 : Nat) (x1 : Int) (x2 : Int) (M : MEM) : Option ((Int × Int) ⊕ (Int × Int)) :=
if (M a0 2) ≤ x2 then
some (.inr (x1, x2))
else
if 3 ≤ x2 then
some (.inr (x1, x2))
else
if 0 ≤ x2 ∧ x2 < 3 then
some (.inl ((wr (x1 + (M (a0 + 7 + 3 * (x2).toNat) 5))), (wr (x2 + 1))))
else none
noncomputable def sc_allStrokes (a0 : Nat) (M : MEM) : Option (Int) :=
(iter (fun s => sc_allStrokes_b4 a0 s.1 s.2 M) FU (0, 0)).bind fun w4 =>
some w4.1
noncomputable def dh_minute  (M : MEM) : Option (Int × MEM) :=
(sc_allStrokes 3 M).bind fun r2 =>
(hi_prepare 3 0 M).bind fun M6 =>
(hi_commit M6).bind fun M8 =>
(dh_pass M8).bind fun p10 =>
(dh_newRow p10.2).bind fun M14 =>
(dh_tell (ish i_and p10.1 7) M14).bind fun M16 =>
(dh_tell (ish i_shr p10.1 3) M16).bind fun M18 =>
(sc_allStrokes 3 M18).bind fun r20 =>
some ((wr (r20 - r2)), M18)
noncomputable def dh_passMany_b2 (x1 : Int) (x2 : Int) (M : MEM) : Option ((Int × MEM) ⊕ (Int × MEM)) :=
if x1 ≤ x2 then
some (.inr (x2, M))
else
(dh_pass M).bind fun p3 =>
some (.inl ((wr (x2 + 1)), p3.2))
noncomputable def dh_passMany (x1 : Int) (M : MEM) : Option (MEM) :=
(iter (fun s => dh_passMany_b2 x1 s.1 s.2) FU (0, M)).bind fun w6 =>
some w6.2
noncomputable def sc_allThistles_b4 (a0 : Nat) (x1 : Int) (x2 : Int) (M : MEM) : Option ((Int × Int) ⊕ (Int × Int)) :=
if (M a0 2) ≤ x2 then
some (.inr (x1, x2))
else
if 3 ≤ x2 then
some (.inr (x1, x2))
else
if 0 ≤ x2 ∧ x2 < 3 then
(be_allThistles (a0 + 7 + 3 * (x2).toNat) M).bind fun r5 =>
some (.inl ((wr (x1 + r5)), (wr (x2 + 1))))
else none
noncomputable def sc_allThistles (a0 : Nat) (M : MEM) : Option (Int) :=
(iter (fun s => sc_allThistles_b4 a0 s.1 s.2 M) FU (0, 0)).bind fun w8 =>
some w8.1
noncomputable def dh_minutes_b55 (x1 : Int) (x2 : Int) (x3 : Int) (x4 : Int) (M : MEM) : Option ((Int × MEM) ⊕ (Int × MEM)) :=
if (M 3 2) ≤ x4 then
some (.inr (x4, M))
else
if 3 ≤ x4 then
some (.inr (x4, M))
else
if 0 ≤ x4 ∧ x4 < 3 then
if 0 ≤ x4 ∧ x4 < 12 then
(some (up2 M 244 (x4).toNat (M (10 + 3 * (x4).toNat) 5))).bind fun M15 =>
some (.inl ((wr (x4 + 1)), M15))
else none
else none
noncomputable def dh_minutes_b124 (x2 : Int) (x4 : Int) (M : MEM) : Option ((Int × MEM) ⊕ (Int × MEM)) :=
if (M 3 2) ≤ x4 then
some (.inr (x4, M))
else
if 3 ≤ x4 then
some (.inr (x4, M))
else
if 0 ≤ x4 ∧ x4 < 3 then
if 0 ≤ x4 ∧ x4 < 12 then
(dh_tell (wr ((M (10 + 3 * (x4).toNat) 5) - (M 244 (x4).toNat))) M).bind fun M33 =>
some (.inl ((wr (x4 + 1)), M33))
else none
else none
noncomputable def dh_minutes_j173 (x2 : Int) (M : MEM) : Option (Int × MEM) :=
(sc_allStrokes 3 M).bind fun r36 =>
some ((wr (r36 - x2)), M)
noncomputable def dh_minutes_j99 (x1 : Int) (x2 : Int) (x3 : Int) (M : MEM) : Option (Int × MEM) :=
(dh_passMany x1 M).bind fun M19 =>
(dh_newRow M19).bind fun M21 =>
(sc_allThistles 3 M21).bind fun r23 =>
(dh_tell (wr (x3 - r23)) M21).bind fun M27 =>
(iter (fun s => dh_minutes_b124 x2 s.1 s.2) FU (0, M27)).bind fun w34 =>
dh_minutes_j173 x2 w34.2
noncomputable def dh_minutes_j36 (x1 : Int) (M : MEM) : Option (Int × MEM) :=
(sc_allStrokes 3 M).bind fun r5 =>
(sc_allThistles 3 M).bind fun r9 =>
(iter (fun s => dh_minutes_b55 x1 r5 r9 s.1 s.2) FU (0, M)).bind fun w17 =>
dh_minutes_j99 x1 r5 r9 w17.2
noncomputable def dh_minutes (x1 : Int) (M : MEM) : Option (Int × MEM) :=
if x1 < 0 then
some ((-1), M)
else
if x1 ≤ 600 then
if x1 ≤ 0 then
dh_minutes_j36 x1 M
else
(hi_prepare 3 0 M).bind fun M40 =>
(hi_commit M40).bind fun M42 =>
dh_minutes_j36 x1 M42
else
some ((-1), M)
noncomputable def ac_readBetween (x1 : Int) (M : MEM) : Option (Int × MEM) :=
if x1 = 99 then
(tx_takes 43 M).bind fun p3 =>
if p3.1 = 0 then
(tx_takes 45 p3.2).bind fun p8 =>
if p8.1 = 0 then
some ((-2), p8.2)
else
some ((-1), p8.2)
else
some (1, p3.2)
else
if x1 = 104 then
(tx_takes 61 M).bind fun p14 =>
if p14.1 = 0 then
some ((-2), p14.2)
else
some (0, p14.2)
else
if x1 = 115 then
(tx_number 2 M).bind fun p20 =>
if p20.1 < 0 then
some ((-2), p20.2)
else
(tx_takes 61 p20.2).bind fun p25 =>
if p25.1 = 0 then
some ((-2), p25.2)
else
some (p20.1, p25.2)
else
some (0, M)
noncomputable def ac_readAct_j151 (x2 : Int) (s1 : Int) (s2 : Int) (M : MEM) : Option (Int × MEM) :=
if 0 ≤ s1 ∧ s1 < 20 then
(some (up2 M 33 (s1).toNat s2)).bind fun M32 =>
if 0 ≤ x2 ∧ x2 < 20 then
if (M32 33 (x2).toNat) < 0 then
some (0, M32)
else
some (1, M32)
else none
else none
noncomputable def ac_readAct_j100 (x2 : Int) (x3 : Int) (s1 : Int) (s2 : Int) (M : MEM) : Option (Int × MEM) :=
if 0 ≤ s1 ∧ s1 < 20 then
(some (up2 M 32 (s1).toNat s2)).bind fun M23 =>
if 0 ≤ x2 ∧ x2 < 20 then
if (M23 32 (x2).toNat) = (-2) then
some (0, M23)
else
if x3 = 109 then
(tx_number 3 M23).bind fun p29 =>
ac_readAct_j151 x2 x2 p29.1 p29.2
else
if x3 = 99 then
(tx_number 2 M23).bind fun p38 =>
ac_readAct_j151 x2 x2 p38.1 p38.2
else
(tx_digit M23).bind fun p42 =>
ac_readAct_j151 x2 x2 p42.1 p42.2
else none
else none
noncomputable def ac_readAct_j75 (x2 : Int) (x3 : Int) (s1 : Int) (s2 : Int) (M : MEM) : Option (Int × MEM) :=
if 0 ≤ s1 ∧ s1 < 20 then
(some (up2 M 31 (s1).toNat s2)).bind fun M15 =>
if 0 ≤ x2 ∧ x2 < 20 then
if 0 ≤ (M15 31 (x2).toNat) then
(ac_readBetween x3 M15).bind fun p20 =>
ac_readAct_j100 x2 x3 x2 p20.1 p20.2
else
ac_readAct_j100 x2 x3 x2 (-2) M15
else none
else none
noncomputable def ac_readAct_j43 (x2 : Int) (x3 : Int) (M : MEM) : Option (Int × MEM) :=
(tx_takes x3 M).bind fun p9 =>
if 0 ≤ x2 ∧ x2 < 20 then
(some (up2 p9.2 30 (x2).toNat x3)).bind fun M12 =>
if x3 = 109 then
ac_readAct_j75 x2 x3 x2 0 M12
else
(tx_digit M12).bind fun p46 =>
ac_readAct_j75 x2 x3 x2 p46.1 p46.2
else none
noncomputable def ac_readAct (x2 : Int) (M : MEM) : Option (Int × MEM) :=
if x2 < 0 then
some (0, M)
else
if x2 < 20 then
(tx_next M).bind fun r4 =>
if r4 = 109 then
ac_readAct_j43 x2 r4 M
else
if r4 = 99 then
ac_readAct_j43 x2 r4 M
else
if r4 = 115 then
ac_readAct_j43 x2 r4 M
else
if r4 = 104 then
ac_readAct_j43 x2 r4 M
else
some (0, M)
else
some (0, M)
noncomputable def ac_read_b14   (M : MEM) : Option ((MEM) ⊕ ((Int × MEM) ⊕ (MEM))) :=
if 20 ≤ (M 29 4) then
some (.inr (.inr M))
else
(ac_readAct (M 29 4) M).bind fun p8 =>
if p8.1 = 0 then
some (.inr (.inl (0, p8.2)))
else
(some (up2 p8.2 29 4 (wr ((p8.2 29 4) + 1)))).bind fun M12 =>
if (tx_isOver M12) = 0 then
(tx_takes 59 M12).bind fun p18 =>
if p18.1 = 0 then
some (.inr (.inl (0, p18.2)))
else
some (.inl p18.2)
else
some (.inr (.inl (1, M12)))
noncomputable def ac_read  (M : MEM) : Option (Int × MEM) :=
(some (up2 M 29 4 0)).bind fun M1 =>
if (tx_isOver M1) = 0 then
(iter (fun s => ac_read_b14   s) FU M1).bind (Sum.elim (fun r => some r) (fun w22 =>
some (0, w22)))
else
some (1, M1)
noncomputable def dh_doAct (x1 : Int) (M : MEM) : Option (Int × MEM) :=
if x1 < 0 then
some (0, M)
else
if x1 < 20 then
if 0 ≤ x1 ∧ x1 < 20 then
if 0 ≤ x1 ∧ x1 < 20 then
if 0 ≤ x1 ∧ x1 < 20 then
if (M 30 (x1).toNat) = 99 then
if 0 ≤ x1 ∧ x1 < 20 then
(dh_carrot (M 31 (x1).toNat) (M 3 3) (wr ((wr ((M 3 3) + (M 33 (x1).toNat))) - 1)) (M 32 (x1).toNat) M).bind fun p9 =>
if p9.1 < 0 then
some (0, p9.2)
else
some (1, p9.2)
else none
else
if (M 30 (x1).toNat) = 109 then
if (M 33 (x1).toNat) ≤ 600 then
(dh_passMany (M 33 (x1).toNat) M).bind fun M16 =>
some (1, M16)
else
some (0, M)
else
if (M 30 (x1).toNat) = 115 then
if 0 ≤ x1 ∧ x1 < 20 then
(dh_sow (M 31 (x1).toNat) (M 32 (x1).toNat) (M 33 (x1).toNat) M).bind fun p20 =>
if p20.1 < 0 then
some (0, p20.2)
else
some (1, p20.2)
else none
else
(dh_setHunger (M 31 (x1).toNat) (M 33 (x1).toNat) M).bind fun p25 =>
if p25.1 < 0 then
some (0, p25.2)
else
some (1, p25.2)
else none
else none
else none
else
some (0, M)
noncomputable def dh_day_b65 (x3 : Int) (x4 : Int) (M : MEM) : Option ((Int × MEM) ⊕ (Int × MEM)) :=
if (M 29 4) ≤ x4 then
some (.inr (x4, M))
else
(dh_doAct x4 M).bind fun p21 =>
if p21.1 = 0 then
some (.inr (x4, p21.2))
else
some (.inl ((wr (x4 + 1)), p21.2))
noncomputable def dh_day_j126 (x3 : Int) (x4 : Int) (s1 : Int) (M : MEM) : Option (Int × MEM) :=
(dh_tell s1 M).bind fun M31 =>
(sc_allStrokes 3 M31).bind fun r33 =>
(dh_tell (wr (r33 - x3)) M31).bind fun M37 =>
some (x4, M37)
noncomputable def dh_day_j104 (x3 : Int) (x4 : Int) (M : MEM) : Option (Int × MEM) :=
(dh_newRow M).bind fun M28 =>
if (M28 29 4) ≤ x4 then
dh_day_j126 x3 x4 0 M28
else
dh_day_j126 x3 x4 1 M28
noncomputable def dh_day_j92 (x3 : Int) (x4 : Int) (M : MEM) : Option (Int × MEM) :=
if x4 ≤ 0 then
dh_day_j104 x3 x4 M
else
(hi_commit M).bind fun M39 =>
dh_day_j104 x3 x4 M39
noncomputable def dh_day  (M : MEM) : Option (Int × MEM) :=
(tx_begin 60 M).bind fun M2 =>
(ac_read M2).bind fun p4 =>
(tx_empty p4.2).bind fun M11 =>
if p4.1 = 0 then
some ((tx_wrong p4.2), M11)
else
(sc_allStrokes 3 M11).bind fun r14 =>
(hi_prepare 3 1 M11).bind fun M18 =>
(iter (fun s => dh_day_b65 r14 s.1 s.2) FU (0, M18)).bind fun w25 =>
dh_day_j92 r14 w25.1 w25.2
noncomputable def hi_takeBack (a1 : Nat) (M : MEM) : Option (Int × MEM) :=
if 1 ≤ (M 45 2) then
(some (up2 M 45 2 (wr ((M 45 2) - 1)))).bind fun M2 =>
(jm_floorMod (wr ((M2 45 1) + (M2 45 2))) 11).bind fun r4 =>
if 0 ≤ r4 ∧ r4 < 11 then
(sc_copyWalk a1 (47 + 16 * (r4).toNat) M2).bind fun M9 =>
if (M9 (47 + 16 * (r4).toNat) 5) = 0 then
some (1, M9)
else
(ca_copy (a1 + 2) ((47 + 16 * (r4).toNat) + 2) M9).bind fun M12 =>
some (1, M12)
else none
else
some (0, M)
noncomputable def dh_undo  (M : MEM) : Option (Int × MEM) :=
(hi_takeBack 3 M).bind fun p2 =>
if p2.1 = 0 then
some ((-1), p2.2)
else
some ((p2.2 45 2), p2.2)
noncomputable def be_minuteOf (a0 : Nat) (x1 : Int) (M : MEM) : Option (Int) :=
if x1 ≤ (M a0 5) then
if x1 < 1 then
some (-3)
else
if (wr ((M a0 5) - 40)) < x1 then
(jm_floorMod x1 40).bind fun r5 =>
if 0 ≤ r5 ∧ r5 < 40 then
some (M (a0 + 2) (r5).toNat)
else none
else
some (-3)
else
some (-2)
noncomputable def dh_struck (x1 : Int) (x2 : Int) (M : MEM) : Option (Int) :=
if (dh_isDonkey x1 M) = 0 then
some (-1)
else
if 1 ≤ x2 then
if 0 ≤ x1 ∧ x1 < 3 then
(be_minuteOf (10 + 3 * (x1).toNat) x2 M).bind fun r8 =>
some r8
else none
else
some (-1)
noncomputable def dh_took (x1 : Int) (x2 : Int) (M : MEM) : Option (Int) :=
if (dh_isDonkey x1 M) = 0 then
some (-1)
else
if 1 ≤ x2 then
if 0 ≤ x1 ∧ x1 < 3 then
(be_minuteOf (10 + 3 * (x1).toNat) x2 M).bind fun r8 =>
if 0 ≤ r8 then
(be_minuteOf (10 + 3 * (x1).toNat) (wr (x2 + 1)) M).bind fun r13 =>
if 0 ≤ r13 then
some (wr (r13 - r8))
else
some r13
else
some r8
else none
else
some (-1)
noncomputable def dh_longest_j117_49 (a2 : Nat) (x4 : Int) (x5 : Int) (x6 : Int) (x7 : Int) (x8 : Int) (M : MEM) : Option ((Int × Int × Int × Int × Int) ⊕ (Int × Int × Int × Int × Int)) :=
some (.inl (x4, x5, x6, x7, (wr (x8 + 1))))
noncomputable def dh_longest_j109_49 (a2 : Nat) (x4 : Int) (x5 : Int) (x8 : Int) (x9 : Int) (M : MEM) : Option ((Int × Int × Int × Int × Int) ⊕ (Int × Int × Int × Int × Int)) :=
dh_longest_j117_49 a2 x4 x5 x8 x9 x8 M
noncomputable def dh_longest_j96_49 (a2 : Nat) (x4 : Int) (x5 : Int) (x6 : Int) (x7 : Int) (x8 : Int) (x9 : Int) (M : MEM) : Option ((Int × Int × Int × Int × Int) ⊕ (Int × Int × Int × Int × Int)) :=
if x6 = (-1) then
dh_longest_j109_49 a2 x4 x5 x8 x9 M
else
if x7 ≤ x9 then
dh_longest_j117_49 a2 x4 x5 x6 x7 x8 M
else
dh_longest_j109_49 a2 x4 x5 x8 x9 M
noncomputable def dh_longest_j88_49 (a2 : Nat) (x6 : Int) (x7 : Int) (x8 : Int) (x9 : Int) (M : MEM) : Option ((Int × Int × Int × Int × Int) ⊕ (Int × Int × Int × Int × Int)) :=
dh_longest_j96_49 a2 x8 x9 x6 x7 x8 x9 M
noncomputable def dh_longest_b49 (a2 : Nat) (x4 : Int) (x5 : Int) (x6 : Int) (x7 : Int) (x8 : Int) (M : MEM) : Option ((Int × Int × Int × Int × Int) ⊕ (Int × Int × Int × Int × Int)) :=
if (M a2 5) ≤ x8 then
some (.inr (x4, x5, x6, x7, x8))
else
(be_minuteOf a2 (wr (x8 + 1)) M).bind fun r8 =>
(be_minuteOf a2 x8 M).bind fun r12 =>
if x4 = (-1) then
dh_longest_j88_49 a2 x6 x7 x8 (wr (r8 - r12)) M
else
if (wr (r8 - r12)) ≤ x5 then
dh_longest_j96_49 a2 x4 x5 x6 x7 x8 (wr (r8 - r12)) M
else
dh_longest_j88_49 a2 x6 x7 x8 (wr (r8 - r12)) M
noncomputable def dh_longest (x1 : Int) (M : MEM) : Option (Int × MEM) :=
if (dh_isDonkey x1 M) = 0 then
some ((-1), M)
else
if 0 ≤ x1 ∧ x1 < 3 then
(iter (fun s => dh_longest_b49 (10 + 3 * (x1).toNat) s.1 s.2.1 s.2.2.1 s.2.2.2.1 s.2.2.2.2 M) FU ((-1), 0, (-1), 0, (max 1 (wr ((wr ((M (10 + 3 * (x1).toNat) 5) - 40)) + 1))))).bind fun w19 =>
if w19.1 = (-1) then
some ((-2), M)
else
(dh_newRow M).bind fun M22 =>
(dh_tell w19.2.1 M22).bind fun M24 =>
(dh_tell w19.2.2.1 M24).bind fun M26 =>
(dh_tell w19.2.2.2.1 M26).bind fun M28 =>
some (w19.1, M28)
else none
noncomputable def fu_begin (a0 : Nat) (a1 : Nat) (x2 : Int) (x3 : Int) (M : MEM) : Option (MEM) :=
(be_copyButBook (a0 + 6) a1 M).bind fun M2 =>
(some (up2 M2 a0 7 x2)).bind fun M3 =>
(some (up2 M3 a0 8 x3)).bind fun M4 =>
(some (up2 M4 a0 9 0)).bind fun M5 =>
(some (up2 M5 a0 10 0)).bind fun M6 =>
some M6
noncomputable def dh_look (a1 : Nat) (x2 : Int) (M : MEM) : Option (MEM) :=
if (dh_isDonkey x2 M) = 0 then
some M
else
if 0 ≤ x2 ∧ x2 < 3 then
(fu_begin a1 (10 + 3 * (x2).toNat) x2 (M 3 3) M).bind fun M7 =>
some M7
else none
noncomputable def fu_step_j142 (a0 : Nat) (x4 : Int) (M : MEM) : Option (Int × MEM) :=
(some (up2 M a0 9 (wr ((M a0 9) + 1)))).bind fun M21 =>
some (x4, M21)
noncomputable def fu_step_j32 (a0 : Nat) (x1 : Int) (s0 : Int) (M : MEM) : Option (Int × MEM) :=
(ca_pull 5 (M a0 7) x1 M).bind fun r3 =>
(ca_pull (a0 + 1) (M a0 7) x1 M).bind fun r7 =>
(ru_give 21 (a0 + 6) s0 (wr (r3 + r7)) x1 (M a0 7) M).bind fun M11 =>
(ru_pace 21 M11).bind fun p13 =>
(be_walk (a0 + 6) p13.1 p13.2).bind fun p17 =>
if (ish i_and p17.1 1) = 0 then
fu_step_j142 a0 p17.1 p17.2
else
if (p17.2 a0 10) < 0 then
fu_step_j142 a0 p17.1 p17.2
else
if 600 ≤ (p17.2 a0 10) then
fu_step_j142 a0 p17.1 p17.2
else
if 0 ≤ (p17.2 a0 10) ∧ (p17.2 a0 10) < 600 then
(some (up2 p17.2 (a0 + 9) ((p17.2 a0 10)).toNat (p17.2 a0 9))).bind fun M24 =>
(some (up2 M24 a0 10 (wr ((M24 a0 10) + 1)))).bind fun M26 =>
fu_step_j142 a0 p17.1 M26
else none
noncomputable def fu_step (a0 : Nat) (M : MEM) : Option (Int × MEM) :=
if 0 ≤ (M a0 6) then
fu_step_j32 a0 (wr ((M a0 8) + (M a0 9))) (M a0 6) M
else
(fl_in (wr ((M a0 8) + (M a0 9))) M).bind fun r28 =>
fu_step_j32 a0 (wr ((M a0 8) + (M a0 9))) r28 M
noncomputable def fu_run_b5 (a0 : Nat) (x1 : Int) (x2 : Int) (x3 : Int) (M : MEM) : Option ((Int × MEM) ⊕ (Int × MEM)) :=
if x1 ≤ x3 then
some (.inr (x3, M))
else
if x2 ≤ (M a0 10) then
some (.inr (x3, M))
else
(fu_step a0 M).bind fun p4 =>
some (.inl ((wr (x3 + 1)), p4.2))
noncomputable def fu_run (a0 : Nat) (x1 : Int) (x2 : Int) (M : MEM) : Option (MEM) :=
(iter (fun s => fu_run_b5 a0 x1 x2 s.1 s.2) FU ((M a0 9), M)).bind fun w7 =>
some w7.2
noncomputable def dh_ahead (x1 : Int) (x2 : Int) (M : MEM) : Option (Int × MEM) :=
if (dh_isDonkey x1 M) = 0 then
some ((-1), M)
else
if x2 < 0 then
some ((-1), M)
else
if x2 ≤ 600 then
(dh_look 224 x1 M).bind fun M8 =>
(fu_run 224 x2 600 M8).bind fun M10 =>
(dh_newRow M10).bind fun M12 =>
(dh_tell (M12 230 3) M12).bind fun M14 =>
(dh_tell (M14 230 4) M14).bind fun M16 =>
some ((M16 224 10), M16)
else
some ((-1), M)
noncomputable def dh_isAskedStroke (x0 : Int) : Int :=
if x0 < 1 then
0
else
if 60 < x0 then
0
else
1
noncomputable def fu_strokeMinute (a0 : Nat) (x1 : Int) (M : MEM) : Option (Int) :=
if x1 < 1 then
some (-1)
else
if (M a0 10) < x1 then
some (-1)
else
if 600 < x1 then
some (-1)
else
if 0 ≤ (wr (x1 - 1)) ∧ (wr (x1 - 1)) < 600 then
some (M (a0 + 9) ((wr (x1 - 1))).toNat)
else none
noncomputable def fu_afterStroke (a0 : Nat) (x1 : Int) (M : MEM) : Option (Int × MEM) :=
(fu_run a0 600 x1 M).bind fun M2 =>
if (M2 a0 10) < x1 then
some ((-1), M2)
else
(fu_strokeMinute a0 x1 M2).bind fun r5 =>
some ((wr (r5 + 1)), M2)
noncomputable def dh_when (x1 : Int) (x2 : Int) (M : MEM) : Option (Int × MEM) :=
if (dh_isDonkey x1 M) = 0 then
some ((-1), M)
else
if (dh_isAskedStroke x2) = 0 then
some ((-1), M)
else
(dh_look 224 x1 M).bind fun M10 =>
(fu_afterStroke 224 x2 M10).bind fun p12 =>
if 0 ≤ p12.1 then
some (p12.1, p12.2)
else
some ((-2), p12.2)
noncomputable def dh_strikes (x1 : Int) (x2 : Int) (M : MEM) : Option (Int × MEM) :=
if (dh_isDonkey x1 M) = 0 then
some ((-1), M)
else
if x2 < 0 then
some ((-1), M)
else
if x2 < 12 then
(dh_look 224 x1 M).bind fun M8 =>
(jm_floorMod (wr ((wr (x2 - (M8 230 5))) - 1)) 12).bind fun r10 =>
(fu_afterStroke 224 (wr (r10 + 1)) M8).bind fun p14 =>
if 0 ≤ p14.1 then
(dh_newRow p14.2).bind fun M19 =>
(dh_tell (wr (r10 + 1)) M19).bind fun M21 =>
some (p14.1, M21)
else
some ((-2), p14.2)
else
some ((-1), M)
noncomputable def dh_stops_j46_23 (x2 : Int) (x3 : Int) (M : MEM) : Option ((Int × Int × MEM) ⊕ (Int × Int × MEM)) :=
some (.inl (x2, (wr (x3 + 1)), M))
noncomputable def dh_stops_b23  (x2 : Int) (x3 : Int) (M : MEM) : Option ((Int × Int × MEM) ⊕ (Int × Int × MEM)) :=
if 600 ≤ x3 then
some (.inr (x2, x3, M))
else
(fu_step 224 M).bind fun p9 =>
if (ish i_and p9.1 4) = 0 then
dh_stops_j46_23 (wr (x3 + 1)) x3 p9.2
else
dh_stops_j46_23 x2 x3 p9.2
noncomputable def dh_stops (x1 : Int) (M : MEM) : Option (Int × MEM) :=
if (dh_isDonkey x1 M) = 0 then
some ((-1), M)
else
(dh_look 224 x1 M).bind fun M6 =>
(iter (fun s => dh_stops_b23  s.1 s.2.1 s.2.2) FU (0, 0, M6)).bind fun w13 =>
if 600 ≤ w13.1 then
some ((-2), w13.2.2)
else
some (w13.1, w13.2.2)
noncomputable def dh_eats_j105_60 (a3 : Nat) (x4 : Int) (x5 : Int) (x6 : Int) (M : MEM) : Option ((Int × Int × Int) ⊕ (Int × Int × Int)) :=
some (.inl (x4, x5, (wr (x6 + 1))))
noncomputable def dh_eats_b60 (a3 : Nat) (x4 : Int) (x5 : Int) (x6 : Int) (M : MEM) : Option ((Int × Int × Int) ⊕ (Int × Int × Int)) :=
if (M a3 2) ≤ x6 then
some (.inr (x4, x5, x6))
else
(be_thistlesOn a3 x6 M).bind fun r14 =>
(be_thistlesOn 230 x6 M).bind fun r18 =>
if (wr (r14 - r18)) ≤ x4 then
dh_eats_j105_60 a3 x4 x5 x6 M
else
dh_eats_j105_60 a3 (wr (r14 - r18)) x6 x6 M
noncomputable def dh_eats (x1 : Int) (x2 : Int) (M : MEM) : Option (Int × MEM) :=
if (dh_isDonkey x1 M) = 0 then
some ((-1), M)
else
if x2 < 0 then
some ((-1), M)
else
if x2 ≤ 600 then
(dh_look 224 x1 M).bind fun M8 =>
if 0 ≤ x1 ∧ x1 < 3 then
(fu_run 224 x2 600 M8).bind fun M11 =>
(iter (fun s => dh_eats_b60 (10 + 3 * (x1).toNat) s.1 s.2.1 s.2.2 M11) FU (0, (-1), 0)).bind fun w22 =>
(dh_newRow M11).bind fun M24 =>
(dh_tell w22.2.1 M24).bind fun M26 =>
(dh_tell w22.1 M26).bind fun M28 =>
(be_allThistles (10 + 3 * (x1).toNat) M28).bind fun r30 =>
(be_allThistles 230 M28).bind fun r34 =>
some ((wr (r30 - r34)), M28)
else none
else
some ((-1), M)
noncomputable def co_add (x1 : Int) (x2 : Int) (x3 : Int) (x4 : Int) (x5 : Int) (M : MEM) : Option (Int × MEM) :=
if (M 34 6) < 0 then
some (0, M)
else
if (M 34 6) < 10 then
if 0 ≤ (M 34 6) ∧ (M 34 6) < 10 then
(some (up2 M 35 ((M 34 6)).toNat x1)).bind fun M3 =>
if 0 ≤ (M3 34 6) ∧ (M3 34 6) < 10 then
(some (up2 M3 36 ((M3 34 6)).toNat x2)).bind fun M5 =>
if 0 ≤ (M5 34 6) ∧ (M5 34 6) < 10 then
(some (up2 M5 37 ((M5 34 6)).toNat x3)).bind fun M7 =>
if 0 ≤ (M7 34 6) ∧ (M7 34 6) < 10 then
(some (up2 M7 38 ((M7 34 6)).toNat x4)).bind fun M9 =>
if 0 ≤ (M9 34 6) ∧ (M9 34 6) < 10 then
(some (up2 M9 39 ((M9 34 6)).toNat x5)).bind fun M11 =>
(some (up2 M11 34 6 (wr ((M11 34 6) + 1)))).bind fun M13 =>
some (1, M13)
else none
else none
else none
else none
else none
else
some (0, M)
noncomputable def dh_isPerson (x0 : Int) : Int :=
if x0 < 0 then
0
else
if 6 ≤ x0 then
0
else
1
noncomputable def dh_owe_j24 (x1 : Int) (x2 : Int) (x3 : Int) (x4 : Int) (x5 : Int) (s0 : Int) (M : MEM) : Option (Int × MEM) :=
if s0 = 0 then
some ((-1), M)
else
if x3 < 1 then
some ((-1), M)
else
if 99 < x3 then
some ((-1), M)
else
if (dh_isDonkey x4 M) = 0 then
some ((-1), M)
else
if x5 < 0 then
some ((-1), M)
else
if x5 < 12 then
(co_add x1 x2 x3 x4 x5 M).bind fun p15 =>
if p15.1 = 0 then
some ((-2), p15.2)
else
some ((M 34 6), p15.2)
else
some ((-1), M)
noncomputable def dh_owe_j23 (x1 : Int) (x2 : Int) (x3 : Int) (x4 : Int) (x5 : Int) (M : MEM) : Option (Int × MEM) :=
dh_owe_j24 x1 x2 x3 x4 x5 0 M
noncomputable def dh_owe (x1 : Int) (x2 : Int) (x3 : Int) (x4 : Int) (x5 : Int) (M : MEM) : Option (Int × MEM) :=
if (dh_isPerson x1) = 0 then
dh_owe_j23 x1 x2 x3 x4 x5 M
else
if (dh_isPerson x2) = 0 then
dh_owe_j23 x1 x2 x3 x4 x5 M
else
if x1 = x2 then
dh_owe_j23 x1 x2 x3 x4 x5 M
else
dh_owe_j24 x1 x2 x3 x4 x5 1 M
noncomputable def dh_tear  (M : MEM) : Option (Int × MEM) :=
(some (up2 M 34 6 0)).bind fun M1 =>
some ((M 34 6), M1)
noncomputable def co_has (x1 : Int) (M : MEM) : Int :=
if x1 < 0 then
0
else
if (M 34 6) ≤ x1 then
0
else
if 10 ≤ x1 then
0
else
1
noncomputable def dh_isFar (x0 : Int) : Int :=
if x0 < 1 then
0
else
if 600 < x0 then
0
else
1
noncomputable def dh_isLaw (x0 : Int) : Int :=
if x0 < 0 then
0
else
if 4 ≤ x0 then
0
else
1
noncomputable def dh_timesDue (x0 : Int) (x1 : Int) : Int :=
if x0 = 2 then
x1
else
if x0 = 3 then
if x1 = 1 then
1
else
0
else
(min 1 x1)
noncomputable def fu_isHour (a0 : Nat) (x1 : Int) (x2 : Int) (M : MEM) : Option (Int) :=
(jm_floorMod (wr ((wr ((M (a0 + 6) 5) - (M a0 10))) + x1)) 12).bind fun r2 =>
if r2 = x2 then
some 1
else
some 0
noncomputable def fu_firstStruck_b2 (a0 : Nat) (x1 : Int) (x2 : Int) (M : MEM) : Option ((Int) ⊕ ((Int) ⊕ (Int))) :=
if (M a0 10) < x2 then
some (.inr (.inr x2))
else
(fu_isHour a0 x2 x1 M).bind fun r3 =>
if r3 = 0 then
some (.inl (wr (x2 + 1)))
else
(fu_strokeMinute a0 x2 M).bind fun r8 =>
some (.inr (.inl r8))
noncomputable def fu_firstStruck (a0 : Nat) (x1 : Int) (M : MEM) : Option (Int) :=
(iter (fun s => fu_firstStruck_b2 a0 x1 s M) FU 1).bind (Sum.elim (fun r => some r) (fun w11 =>
some (-1)))
noncomputable def fu_lastStruck_b5 (a0 : Nat) (x1 : Int) (x2 : Int) (M : MEM) : Option ((Int) ⊕ ((Int) ⊕ (Int))) :=
if x2 < 1 then
some (.inr (.inr x2))
else
(fu_isHour a0 x2 x1 M).bind fun r3 =>
if r3 = 0 then
some (.inl (wr (x2 + (-1))))
else
(fu_strokeMinute a0 x2 M).bind fun r8 =>
some (.inr (.inl r8))
noncomputable def fu_lastStruck (a0 : Nat) (x1 : Int) (M : MEM) : Option (Int) :=
(iter (fun s => fu_lastStruck_b5 a0 x1 s M) FU (M a0 10)).bind (Sum.elim (fun r => some r) (fun w11 =>
some (-1)))
noncomputable def fu_timesStruck_j24_4 (a0 : Nat) (x1 : Int) (x2 : Int) (x3 : Int) (M : MEM) : Option ((Int × Int) ⊕ (Int × Int)) :=
some (.inl (x2, (wr (x3 + 1))))
noncomputable def fu_timesStruck_b4 (a0 : Nat) (x1 : Int) (x2 : Int) (x3 : Int) (M : MEM) : Option ((Int × Int) ⊕ (Int × Int)) :=
if (M a0 10) < x3 then
some (.inr (x2, x3))
else
(fu_isHour a0 x3 x1 M).bind fun r3 =>
if r3 = 0 then
fu_timesStruck_j24_4 a0 x1 x2 x3 M
else
fu_timesStruck_j24_4 a0 x1 (wr (x2 + 1)) x3 M
noncomputable def fu_timesStruck (a0 : Nat) (x1 : Int) (M : MEM) : Option (Int) :=
(iter (fun s => fu_timesStruck_b4 a0 x1 s.1 s.2 M) FU (0, 1)).bind fun w7 =>
some w7.1
noncomputable def dh_due (x1 : Int) (x2 : Int) (x3 : Int) (M : MEM) : Option (Int × MEM) :=
if (co_has x1 M) = 0 then
some ((-1), M)
else
if (dh_isLaw x2) = 0 then
some ((-1), M)
else
if (dh_isFar x3) = 0 then
some ((-1), M)
else
if 0 ≤ x1 ∧ x1 < 10 then
(dh_look 224 (M 38 (x1).toNat) M).bind fun M15 =>
(fu_run 224 x3 600 M15).bind fun M17 =>
if 0 ≤ x1 ∧ x1 < 10 then
(fu_timesStruck 224 (M17 39 (x1).toNat) M17).bind fun r20 =>
if (dh_timesDue x2 r20) = 0 then
some ((-2), M17)
else
if x2 = 1 then
(fu_lastStruck 224 (M17 39 (x1).toNat) M17).bind fun r29 =>
some (r29, M17)
else
(fu_firstStruck 224 (M17 39 (x1).toNat) M17).bind fun r33 =>
some (r33, M17)
else none
else none
noncomputable def co_sumOf_j61_6 (a1 : Nat) (x2 : Int) (x3 : Int) (x4 : Int) (x5 : Int) (M : MEM) : Option ((Int × Int) ⊕ (Int × Int)) :=
some (.inl (x4, (wr (x5 + 1))))
noncomputable def co_sumOf_b6 (a1 : Nat) (x2 : Int) (x3 : Int) (x4 : Int) (x5 : Int) (M : MEM) : Option ((Int × Int) ⊕ (Int × Int)) :=
if (M 34 6) ≤ x5 then
some (.inr (x4, x5))
else
if ((lenA a1) : Int) ≤ x5 then
some (.inr (x4, x5))
else
if 10 ≤ x5 then
some (.inr (x4, x5))
else
if 0 ≤ x5 ∧ x5 < (lenA a1) then
if (M a1 (x5).toNat) = x2 then
if 0 ≤ x5 ∧ x5 < 10 then
if 0 ≤ x5 ∧ x5 < 10 then
co_sumOf_j61_6 a1 x2 x3 (wr (x4 + (wr ((M 37 (x5).toNat) * (dh_timesDue x3 (M 40 (x5).toNat)))))) x5 M
else none
else none
else
co_sumOf_j61_6 a1 x2 x3 x4 x5 M
else none
noncomputable def co_sumOf (a1 : Nat) (x2 : Int) (x3 : Int) (M : MEM) : Option (Int) :=
(iter (fun s => co_sumOf_b6 a1 x2 x3 s.1 s.2 M) FU (0, 0)).bind fun w11 =>
some w11.1
noncomputable def co_owedBy (x1 : Int) (x2 : Int) (M : MEM) : Option (Int) :=
(co_sumOf 35 x1 x2 M).bind fun r2 =>
some r2
noncomputable def co_owedTo (x1 : Int) (x2 : Int) (M : MEM) : Option (Int) :=
(co_sumOf 36 x1 x2 M).bind fun r2 =>
some r2
noncomputable def dh_countDue_b2 (x1 : Int) (x2 : Int) (M : MEM) : Option ((Int × MEM) ⊕ (Int × MEM)) :=
if (co_has x2 M) = 0 then
some (.inr (x2, M))
else
if 10 ≤ x2 then
some (.inr (x2, M))
else
if 0 ≤ x2 ∧ x2 < 10 then
(dh_look 224 (M 38 (x2).toNat) M).bind fun M8 =>
(fu_run 224 x1 600 M8).bind fun M10 =>
if 0 ≤ x2 ∧ x2 < 10 then
(fu_timesStruck 224 (M10 39 (x2).toNat) M10).bind fun r13 =>
if 0 ≤ x2 ∧ x2 < 10 then
(some (up2 M10 40 (x2).toNat r13)).bind fun M16 =>
some (.inl ((wr (x2 + 1)), M16))
else none
else none
else none
noncomputable def dh_countDue (x1 : Int) (M : MEM) : Option (MEM) :=
(iter (fun s => dh_countDue_b2 x1 s.1 s.2) FU (0, M)).bind fun w18 =>
some w18.2
noncomputable def dh_owes (x1 : Int) (x2 : Int) (x3 : Int) (M : MEM) : Option (Int × MEM) :=
if (dh_isPerson x1) = 0 then
some ((-1), M)
else
if (dh_isLaw x2) = 0 then
some ((-1), M)
else
if (dh_isFar x3) = 0 then
some ((-1), M)
else
(dh_countDue x3 M).bind fun M14 =>
(dh_newRow M14).bind fun M16 =>
(co_owedTo x1 x2 M16).bind fun r18 =>
(dh_tell r18 M16).bind fun M22 =>
(co_owedBy x1 x2 M22).bind fun r24 =>
some (r24, M22)
noncomputable def co_less (x1 : Int) (x2 : Int) (M : MEM) : Option (Int) :=
(co_owedBy x1 x2 M).bind fun r2 =>
(co_owedTo x1 x2 M).bind fun r6 =>
some (wr (r2 - r6))
noncomputable def dh_reading_j79_41 (x1 : Int) (x3 : Int) (x4 : Int) (x5 : Int) (M : MEM) : Option ((Int × Int × Int × MEM) ⊕ (Int × Int × Int × MEM)) :=
some (.inl (x3, x4, (wr (x5 + 1)), M))
noncomputable def dh_reading_b41 (x1 : Int) (x3 : Int) (x4 : Int) (x5 : Int) (M : MEM) : Option ((Int × Int × Int × MEM) ⊕ (Int × Int × Int × MEM)) :=
if 4 ≤ x5 then
some (.inr (x3, x4, x5, M))
else
(co_less x1 x5 M).bind fun r19 =>
(dh_tell r19 M).bind fun M23 =>
if x4 ≤ r19 then
dh_reading_j79_41 x1 x3 x4 x5 M23
else
dh_reading_j79_41 x1 x5 r19 x5 M23
noncomputable def dh_reading (x1 : Int) (x2 : Int) (M : MEM) : Option (Int × MEM) :=
if (dh_isPerson x1) = 0 then
some ((-1), M)
else
if (dh_isFar x2) = 0 then
some ((-1), M)
else
(dh_countDue x2 M).bind fun M10 =>
(dh_newRow M10).bind fun M12 =>
(co_less x1 0 M12).bind fun r14 =>
(iter (fun s => dh_reading_b41 x1 s.1 s.2.1 s.2.2.1 s.2.2.2) FU (0, r14, 0, M12)).bind fun w25 =>
some (w25.1, w25.2.2.2)
noncomputable def co_most_b9 (x1 : Int) (x2 : Int) (x3 : Int) (M : MEM) : Option ((Int × Int) ⊕ (Int × Int)) :=
if 6 ≤ x3 then
some (.inr (x2, x3))
else
(co_less x3 x1 M).bind fun r7 =>
some (.inl ((max x2 r7), (wr (x3 + 1))))
noncomputable def co_most (x1 : Int) (M : MEM) : Option (Int) :=
(co_less 0 x1 M).bind fun r2 =>
(iter (fun s => co_most_b9 x1 s.1 s.2 M) FU (r2, 1)).bind fun w10 =>
some w10.1
noncomputable def dh_mildest_j57_28 (x2 : Int) (x3 : Int) (x4 : Int) (M : MEM) : Option ((Int × Int × Int) ⊕ (Int × Int × Int)) :=
some (.inl (x2, x3, (wr (x4 + 1))))
noncomputable def dh_mildest_b28  (x2 : Int) (x3 : Int) (x4 : Int) (M : MEM) : Option ((Int × Int × Int) ⊕ (Int × Int × Int)) :=
if 4 ≤ x4 then
some (.inr (x2, x3, x4))
else
(co_most x4 M).bind fun r13 =>
if x3 ≤ r13 then
dh_mildest_j57_28 x2 x3 x4 M
else
dh_mildest_j57_28 x4 r13 x4 M
noncomputable def dh_mildest (x1 : Int) (M : MEM) : Option (Int × MEM) :=
if (dh_isFar x1) = 0 then
some ((-1), M)
else
(dh_countDue x1 M).bind fun M6 =>
(co_most 0 M6).bind fun r8 =>
(iter (fun s => dh_mildest_b28  s.1 s.2.1 s.2.2 M6) FU (0, r8, 1)).bind fun w17 =>
(dh_newRow M6).bind fun M19 =>
(dh_tell w17.2.1 M19).bind fun M21 =>
some (w17.1, M21)
noncomputable def dh_isRoad (x0 : Int) : Int :=
if x0 < 0 then
0
else
if 99 < x0 then
0
else
1
noncomputable def fu_latestFor (a0 : Nat) (x1 : Int) (x2 : Int) (M : MEM) : Option (Int × MEM) :=
(fu_run a0 (wr (x1 - x2)) 600 M).bind fun M2 =>
some ((M2 a0 10), M2)
noncomputable def fu_there (a0 : Nat) (x1 : Int) (x2 : Int) (M : MEM) : Option (Int) :=
(fu_strokeMinute a0 x1 M).bind fun r2 =>
some (wr ((wr (r2 + x2)) + 1))
noncomputable def dh_leave (x1 : Int) (x2 : Int) (x3 : Int) (M : MEM) : Option (Int × MEM) :=
if (dh_isDonkey x1 M) = 0 then
some ((-1), M)
else
if (dh_isFar x2) = 0 then
some ((-1), M)
else
if (dh_isRoad x3) = 0 then
some ((-1), M)
else
if x3 ≤ x2 then
(dh_look 224 x1 M).bind fun M15 =>
(fu_latestFor 224 x2 x3 M15).bind fun p17 =>
(dh_newRow p17.2).bind fun M21 =>
(fu_there 224 p17.1 x3 M21).bind fun r23 =>
(dh_tell (wr (x2 - r23)) M21).bind fun M27 =>
some (p17.1, M27)
else
some ((-2), M)
noncomputable def dh_waysWithLatest_j23_4 (x1 : Int) (x2 : Int) (x3 : Int) (M : MEM) : Option ((Int × Int) ⊕ (Int × Int)) :=
some (.inl (x2, (wr (x3 + 1))))
noncomputable def dh_waysWithLatest_b4 (x1 : Int) (x2 : Int) (x3 : Int) (M : MEM) : Option ((Int × Int) ⊕ (Int × Int)) :=
if 10 ≤ x3 then
some (.inr (x2, x3))
else
if 0 ≤ x3 ∧ x3 < 12 then
if (M 244 (x3).toNat) < x1 then
dh_waysWithLatest_j23_4 x1 x2 x3 M
else
dh_waysWithLatest_j23_4 x1 (wr (x2 + 1)) x3 M
else none
noncomputable def dh_waysWithLatest (x1 : Int) (M : MEM) : Option (Int) :=
(iter (fun s => dh_waysWithLatest_b4 x1 s.1 s.2 M) FU (0, 0)).bind fun w4 =>
some w4.1
noncomputable def dh_sure_b48 (x1 : Int) (x2 : Int) (x3 : Int) (x4 : Int) (x5 : Int) (M : MEM) : Option ((Int × MEM) ⊕ (Int × MEM)) :=
if 10 ≤ x5 then
some (.inr (x5, M))
else
(dh_look 224 x1 M).bind fun M18 =>
(some (up2 M18 230 4 x5)).bind fun M19 =>
(fu_latestFor 224 x2 x3 M19).bind fun p21 =>
if 0 ≤ x5 ∧ x5 < 12 then
(some (up2 p21.2 244 (x5).toNat p21.1)).bind fun M24 =>
some (.inl ((wr (x5 + 1)), M24))
else none
noncomputable def dh_sure_j148_104 (x4 : Int) (x5 : Int) (x6 : Int) (M : MEM) : Option ((Int × Int) ⊕ (Int × Int)) :=
some (.inl (x5, (wr (x6 + 1))))
noncomputable def dh_sure_b104 (x4 : Int) (x5 : Int) (x6 : Int) (M : MEM) : Option ((Int × Int) ⊕ (Int × Int)) :=
if 10 ≤ x6 then
some (.inr (x5, x6))
else
if 0 ≤ x6 ∧ x6 < 12 then
if (M 244 (x6).toNat) ≤ x5 then
dh_sure_j148_104 x4 x5 x6 M
else
if 0 ≤ x6 ∧ x6 < 12 then
(dh_waysWithLatest (M 244 (x6).toNat) M).bind fun r32 =>
if r32 < x4 then
dh_sure_j148_104 x4 x5 x6 M
else
if 0 ≤ x6 ∧ x6 < 12 then
dh_sure_j148_104 x4 (M 244 (x6).toNat) x6 M
else none
else none
else none
noncomputable def dh_sure (x1 : Int) (x2 : Int) (x3 : Int) (x4 : Int) (M : MEM) : Option (Int × MEM) :=
if (dh_isDonkey x1 M) = 0 then
some ((-1), M)
else
if (dh_isFar x2) = 0 then
some ((-1), M)
else
if (dh_isRoad x3) = 0 then
some ((-1), M)
else
if x4 < 1 then
some ((-1), M)
else
if x4 ≤ 10 then
if x3 ≤ x2 then
(iter (fun s => dh_sure_b48 x1 x2 x3 x4 s.1 s.2) FU (0, M)).bind fun w26 =>
(iter (fun s => dh_sure_b104 x4 s.1 s.2 w26.2) FU (0, 0)).bind fun w37 =>
(dh_newRow w26.2).bind fun M39 =>
(dh_waysWithLatest w37.1 M39).bind fun r41 =>
(dh_tell r41 M39).bind fun M45 =>
some (w37.1, M45)
else
some ((-2), M)
else
some ((-1), M)
noncomputable def dh_missed_j151_93 (x2 : Int) (x3 : Int) (x4 : Int) (x6 : Int) (x7 : Int) (x8 : Int) (x9 : Int) (x10 : Int) (M : MEM) : Option ((Int × Int × Int × Int) ⊕ (Int × Int × Int × Int)) :=
some (.inl (x7, x8, x9, (wr (x10 + x3))))
noncomputable def dh_missed_b93 (x2 : Int) (x3 : Int) (x4 : Int) (x6 : Int) (x7 : Int) (x8 : Int) (x9 : Int) (x10 : Int) (M : MEM) : Option ((Int × Int × Int × Int) ⊕ (Int × Int × Int × Int)) :=
if (M 224 10) < x10 then
some (.inr (x7, x8, x9, x10))
else
(fu_there 224 x10 x4 M).bind fun r20 =>
if x2 = 0 then none else
if (wr (Int.tdiv (wr ((wr (r20 + x2)) - 1)) x2)) ≤ x6 then
if (wr (Int.tdiv (wr ((wr (r20 + x2)) - 1)) x2)) = x8 then
dh_missed_j151_93 x2 x3 x4 x6 x7 x8 x9 x10 M
else
dh_missed_j151_93 x2 x3 x4 x6 (wr (x7 + 1)) (wr (Int.tdiv (wr ((wr (r20 + x2)) - 1)) x2)) x9 x10 M
else
dh_missed_j151_93 x2 x3 x4 x6 x7 x8 (wr (x9 + 1)) x10 M
noncomputable def dh_missed_j16 (x1 : Int) (x2 : Int) (x3 : Int) (x4 : Int) (s0 : Int) (M : MEM) : Option (Int × MEM) :=
if (dh_isDonkey x1 M) = 0 then
some ((-1), M)
else
if s0 = 0 then
some ((-1), M)
else
if x3 < 1 then
some ((-1), M)
else
if 12 < x3 then
some ((-1), M)
else
if (dh_isRoad x4) = 0 then
some ((-1), M)
else
(dh_look 224 x1 M).bind fun M14 =>
(fu_run 224 600 600 M14).bind fun M16 =>
if x2 = 0 then none else
(iter (fun s => dh_missed_b93 x2 x3 x4 (wr (Int.tdiv 600 x2)) s.1 s.2.1 s.2.2.1 s.2.2.2 M16) FU (0, 0, 0, x3)).bind fun w26 =>
(dh_newRow M16).bind fun M28 =>
(dh_tell w26.2.2.1 M28).bind fun M30 =>
some ((wr ((wr (Int.tdiv 600 x2)) - w26.1)), M30)
noncomputable def dh_missed_j15 (x1 : Int) (x2 : Int) (x3 : Int) (x4 : Int) (M : MEM) : Option (Int × MEM) :=
dh_missed_j16 x1 x2 x3 x4 0 M
noncomputable def dh_missed (x1 : Int) (x2 : Int) (x3 : Int) (x4 : Int) (M : MEM) : Option (Int × MEM) :=
if x2 < 1 then
dh_missed_j15 x1 x2 x3 x4 M
else
if 120 < x2 then
dh_missed_j15 x1 x2 x3 x4 M
else
dh_missed_j16 x1 x2 x3 x4 1 M
noncomputable def dh_isBetter (x0 : Int) (x1 : Int) (x2 : Int) : Int :=
if 0 ≤ x0 then
if x2 ≤ x1 then
0
else
1
else
if x1 ≤ x2 then
0
else
1
noncomputable def fu_boiled (a0 : Nat) (x1 : Int) (M : MEM) : Option (Int) :=
(fu_strokeMinute a0 (wr (x1 + 1)) M).bind fun r2 =>
(fu_strokeMinute a0 1 M).bind fun r6 =>
some (wr (r2 - r6))
noncomputable def fu_hour (a0 : Nat) (M : MEM) : Option (Int) :=
if 2 ≤ (M a0 10) then
(fu_boiled a0 1 M).bind fun r3 =>
some r3
else
some 601
noncomputable def dh_nextHour (x1 : Int) (M : MEM) : Option (Int × MEM) :=
(dh_look 224 x1 M).bind fun M2 =>
(fu_run 224 600 2 M2).bind fun M4 =>
(fu_hour 224 M4).bind fun r6 =>
some (r6, M4)
noncomputable def dh_think (x1 : Int) (x2 : Int) (x3 : Int) (x4 : Int) (M : MEM) : Option (MEM) :=
(ca_add 225 x1 (wr ((M 3 3) + x2)) (wr ((wr ((wr ((M 3 3) + x2)) + x3)) - 1)) x4 M).bind fun p2 =>
some p2.2
noncomputable def dh_bribe_j102_44 (x1 : Int) (x2 : Int) (x3 : Int) (x4 : Int) (x5 : Int) (x6 : Int) (x7 : Int) (M : MEM) : Option ((Int × Int × Int × MEM) ⊕ (Int × Int × Int × MEM)) :=
some (.inl (x5, x6, (wr (x7 + 1)), M))
noncomputable def dh_bribe_j94_44 (x1 : Int) (x2 : Int) (x3 : Int) (x4 : Int) (x7 : Int) (x8 : Int) (M : MEM) : Option ((Int × Int × Int × MEM) ⊕ (Int × Int × Int × MEM)) :=
dh_bribe_j102_44 x1 x2 x3 x4 x7 x8 x7 M
noncomputable def dh_bribe_b44 (x1 : Int) (x2 : Int) (x3 : Int) (x4 : Int) (x5 : Int) (x6 : Int) (x7 : Int) (M : MEM) : Option ((Int × Int × Int × MEM) ⊕ (Int × Int × Int × MEM)) :=
if 60 < x7 then
some (.inr (x5, x6, x7, M))
else
(dh_think x1 x7 x2 x3 M).bind fun M17 =>
(dh_nextHour x1 M17).bind fun p19 =>
(some (up2 p19.2 225 4 0)).bind fun M22 =>
if x7 = 0 then
dh_bribe_j94_44 x1 x2 x3 x4 x7 p19.1 M22
else
if (dh_isBetter x3 p19.1 x6) = 0 then
dh_bribe_j102_44 x1 x2 x3 x4 x5 x6 x7 M22
else
dh_bribe_j94_44 x1 x2 x3 x4 x7 p19.1 M22
noncomputable def dh_bribe (x1 : Int) (x2 : Int) (x3 : Int) (M : MEM) : Option (Int × MEM) :=
if (dh_isDonkey x1 M) = 0 then
some ((-1), M)
else
if x2 < 1 then
some ((-1), M)
else
if 20 < x2 then
some ((-1), M)
else
if (dh_isWay x3) = 0 then
some ((-1), M)
else
(dh_nextHour x1 M).bind fun p12 =>
(iter (fun s => dh_bribe_b44 x1 x2 x3 p12.1 s.1 s.2.1 s.2.2.1 s.2.2.2) FU (0, 0, 0, p12.2)).bind fun w28 =>
(dh_newRow w28.2.2.2).bind fun M30 =>
(dh_tell w28.2.1 M30).bind fun M32 =>
(dh_tell p12.1 M32).bind fun M34 =>
some (w28.1, M34)
noncomputable def dh_hourOfBoys (x1 : Int) (x2 : Int) (x3 : Int) (x4 : Int) (M : MEM) : Option (Int × MEM) :=
(dh_think x1 x3 x2 (-1) M).bind fun M2 =>
(dh_think x1 x4 x2 1 M2).bind fun M4 =>
(dh_look 224 x1 M4).bind fun M6 =>
(fu_run 224 600 2 M6).bind fun M8 =>
(some (up2 M8 225 4 0)).bind fun M9 =>
(fu_hour 224 M9).bind fun r11 =>
some (r11, M9)
noncomputable def dh_bestOfBoy_j91_28 (x1 : Int) (x2 : Int) (x3 : Int) (x4 : Int) (x5 : Int) (x6 : Int) (x7 : Int) (x8 : Int) (M : MEM) : Option ((Int × Int × Int × MEM) ⊕ (Int × Int × Int × MEM)) :=
some (.inl (x6, x7, (wr (x8 + 1)), M))
noncomputable def dh_bestOfBoy_j73_28 (x1 : Int) (x2 : Int) (x3 : Int) (x4 : Int) (x5 : Int) (x6 : Int) (x7 : Int) (x8 : Int) (x9 : Int) (s0 : Int) (M : MEM) : Option ((Int × Int × Int × MEM) ⊕ (Int × Int × Int × MEM)) :=
if (dh_isBetter s0 x9 x7) = 0 then
dh_bestOfBoy_j91_28 x1 x2 x3 x4 x5 x6 x7 x8 M
else
dh_bestOfBoy_j91_28 x1 x2 x3 x4 x5 x8 x9 x8 M
noncomputable def dh_bestOfBoy_j62_28 (x1 : Int) (x2 : Int) (x3 : Int) (x4 : Int) (x5 : Int) (x6 : Int) (x7 : Int) (x8 : Int) (s0 : Int) (M : MEM) : Option ((Int × Int × Int × MEM) ⊕ (Int × Int × Int × MEM)) :=
if x3 = 0 then
dh_bestOfBoy_j73_28 x1 x2 x3 x4 x5 x6 x7 x8 s0 (-1) M
else
dh_bestOfBoy_j73_28 x1 x2 x3 x4 x5 x6 x7 x8 s0 1 M
noncomputable def dh_bestOfBoy_b28 (x1 : Int) (x2 : Int) (x3 : Int) (x4 : Int) (x5 : Int) (x6 : Int) (x7 : Int) (x8 : Int) (M : MEM) : Option ((Int × Int × Int × MEM) ⊕ (Int × Int × Int × MEM)) :=
if 30 < x8 then
some (.inr (x6, x7, x8, M))
else
if x3 = 0 then
(dh_hourOfBoys x1 x2 x8 x5 M).bind fun p9 =>
dh_bestOfBoy_j62_28 x1 x2 x3 x4 x5 x6 x7 x8 p9.1 p9.2
else
(dh_hourOfBoys x1 x2 x4 x8 M).bind fun p18 =>
dh_bestOfBoy_j62_28 x1 x2 x3 x4 x5 x6 x7 x8 p18.1 p18.2
noncomputable def dh_bestOfBoy_j11 (x1 : Int) (x2 : Int) (x3 : Int) (x4 : Int) (x5 : Int) (s0 : Int) (M : MEM) : Option (Int × MEM) :=
(dh_hourOfBoys x1 x2 x4 x5 M).bind fun p3 =>
(iter (fun s => dh_bestOfBoy_b28 x1 x2 x3 x4 x5 s.1 s.2.1 s.2.2.1 s.2.2.2) FU (s0, p3.1, 0, p3.2)).bind fun w21 =>
some (w21.1, w21.2.2.2)
noncomputable def dh_bestOfBoy (x1 : Int) (x2 : Int) (x3 : Int) (x4 : Int) (x5 : Int) (M : MEM) : Option (Int × MEM) :=
if x3 = 0 then
dh_bestOfBoy_j11 x1 x2 x3 x4 x5 x4 M
else
dh_bestOfBoy_j11 x1 x2 x3 x4 x5 x5 M
noncomputable def dh_rests_j133_43 (x1 : Int) (x2 : Int) (x3 : Int) (x4 : Int) (x5 : Int) (x6 : Int) (s0 : Int) (M : MEM) : Option ((Int × Int × Int × Int × MEM) ⊕ (Int × Int × Int × Int × MEM)) :=
some (.inl (x4, x5, (wr (x6 + 1)), s0, M))
noncomputable def dh_rests_j116_43 (x1 : Int) (x2 : Int) (x3 : Int) (x4 : Int) (x6 : Int) (x7 : Int) (x9 : Int) (x10 : Int) (s0 : Int) (M : MEM) : Option ((Int × Int × Int × Int × MEM) ⊕ (Int × Int × Int × Int × MEM)) :=
if x10 = x9 then
dh_rests_j133_43 x1 x2 x3 x4 s0 x6 (wr (x7 + 1)) M
else
dh_rests_j133_43 x1 x2 x3 x4 s0 x6 0 M
noncomputable def dh_rests_j101_43 (x1 : Int) (x2 : Int) (x3 : Int) (x5 : Int) (x6 : Int) (x7 : Int) (x8 : Int) (x9 : Int) (x10 : Int) (s0 : Int) (M : MEM) : Option ((Int × Int × Int × Int × MEM) ⊕ (Int × Int × Int × Int × MEM)) :=
if x8 = 1 then
dh_rests_j116_43 x1 x2 x3 s0 x6 x7 x9 x10 x10 M
else
dh_rests_j116_43 x1 x2 x3 s0 x6 x7 x9 x10 x5 M
noncomputable def dh_rests_j73_43 (x1 : Int) (x2 : Int) (x3 : Int) (x4 : Int) (x5 : Int) (x6 : Int) (x7 : Int) (x8 : Int) (s0 : Int) (M : MEM) : Option ((Int × Int × Int × Int × MEM) ⊕ (Int × Int × Int × Int × MEM)) :=
(dh_bestOfBoy x1 x2 x8 x4 x5 M).bind fun p13 =>
if x8 = 0 then
dh_rests_j101_43 x1 x2 x3 x5 x6 x7 x8 s0 p13.1 p13.1 p13.2
else
dh_rests_j101_43 x1 x2 x3 x5 x6 x7 x8 s0 p13.1 x4 p13.2
noncomputable def dh_rests_b43 (x1 : Int) (x2 : Int) (x3 : Int) (x4 : Int) (x5 : Int) (x6 : Int) (x7 : Int) (M : MEM) : Option ((Int × Int × Int × Int × MEM) ⊕ (Int × Int × Int × Int × MEM)) :=
if x3 ≤ x6 then
some (.inr (x4, x5, x6, x7, M))
else
if 2 ≤ x7 then
some (.inr (x4, x5, x6, x7, M))
else
if (Int.tmod x6 2) = 0 then
dh_rests_j73_43 x1 x2 x3 x4 x5 x6 x7 (Int.tmod x6 2) x4 M
else
dh_rests_j73_43 x1 x2 x3 x4 x5 x6 x7 (Int.tmod x6 2) x5 M
noncomputable def dh_rests_j157 (x1 : Int) (x2 : Int) (x4 : Int) (x5 : Int) (x6 : Int) (s1 : Int) (M : MEM) : Option (Int × MEM) :=
(dh_tell s1 M).bind fun M24 =>
(dh_tell x4 M24).bind fun M26 =>
(dh_tell x5 M26).bind fun M28 =>
(dh_hourOfBoys x1 x2 x4 x5 M28).bind fun p30 =>
(dh_tell p30.1 p30.2).bind fun M34 =>
some (x6, M34)
noncomputable def dh_rests_j141 (x1 : Int) (x2 : Int) (x4 : Int) (x5 : Int) (x6 : Int) (x7 : Int) (M : MEM) : Option (Int × MEM) :=
(dh_newRow M).bind fun M21 =>
if x7 = 2 then
dh_rests_j157 x1 x2 x4 x5 x6 1 M21
else
dh_rests_j157 x1 x2 x4 x5 x6 0 M21
noncomputable def dh_rests (x1 : Int) (x2 : Int) (x3 : Int) (M : MEM) : Option (Int × MEM) :=
if (dh_isDonkey x1 M) = 0 then
some ((-1), M)
else
if x2 < 1 then
some ((-1), M)
else
if 10 < x2 then
some ((-1), M)
else
if x3 < 0 then
some ((-1), M)
else
if x3 ≤ 20 then
(iter (fun s => dh_rests_b43 x1 x2 x3 s.1 s.2.1 s.2.2.1 s.2.2.2.1 s.2.2.2.2) FU (0, 0, 0, 0, M)).bind fun w19 =>
dh_rests_j141 x1 x2 w19.1 w19.2.1 w19.2.2.1 w19.2.2.2.1 w19.2.2.2.2
else
some ((-1), M)
noncomputable def dh_bid_j134_27 (x1 : Int) (x2 : Int) (x3 : Int) (x4 : Int) (M : MEM) : Option ((Int × MEM) ⊕ ((Int × MEM) ⊕ (Int × MEM))) :=
some (.inl ((wr (x4 + 1)), M))
noncomputable def dh_bid_j112_27 (x1 : Int) (x2 : Int) (x3 : Int) (x4 : Int) (x6 : Int) (s0 : Int) (M : MEM) : Option ((Int × MEM) ⊕ ((Int × MEM) ⊕ (Int × MEM))) :=
if 0 ≤ x2 then
if s0 = 0 then
dh_bid_j134_27 x1 x2 x3 x4 M
else
some (.inr (.inl (x4, M)))
else
if x6 = 0 then
dh_bid_j134_27 x1 x2 x3 x4 M
else
some (.inr (.inl (x4, M)))
noncomputable def dh_bid_j111_27 (x1 : Int) (x2 : Int) (x3 : Int) (x4 : Int) (x6 : Int) (M : MEM) : Option ((Int × MEM) ⊕ ((Int × MEM) ⊕ (Int × MEM))) :=
dh_bid_j112_27 x1 x2 x3 x4 x6 0 M
noncomputable def dh_bid_j94_27 (x1 : Int) (x2 : Int) (x3 : Int) (x4 : Int) (x5 : Int) (s0 : Int) (M : MEM) : Option ((Int × MEM) ⊕ ((Int × MEM) ⊕ (Int × MEM))) :=
if x5 < 0 then
dh_bid_j111_27 x1 x2 x3 x4 s0 M
else
if x3 < x5 then
dh_bid_j111_27 x1 x2 x3 x4 s0 M
else
dh_bid_j112_27 x1 x2 x3 x4 s0 1 M
noncomputable def dh_bid_j89_27 (x1 : Int) (x2 : Int) (x3 : Int) (x4 : Int) (x5 : Int) (M : MEM) : Option ((Int × MEM) ⊕ ((Int × MEM) ⊕ (Int × MEM))) :=
dh_bid_j94_27 x1 x2 x3 x4 x5 1 M
noncomputable def dh_bid_j48_27 (x1 : Int) (x2 : Int) (x3 : Int) (x4 : Int) (M : MEM) : Option ((Int × MEM) ⊕ ((Int × MEM) ⊕ (Int × MEM))) :=
(dh_look 224 x1 M).bind fun M16 =>
(fu_afterStroke 224 1 M16).bind fun p18 =>
(some (up2 p18.2 225 4 0)).bind fun M21 =>
if p18.1 < 0 then
dh_bid_j89_27 x1 x2 x3 x4 p18.1 M21
else
if p18.1 < x3 then
dh_bid_j94_27 x1 x2 x3 x4 p18.1 0 M21
else
dh_bid_j89_27 x1 x2 x3 x4 p18.1 M21
noncomputable def dh_bid_b27 (x1 : Int) (x2 : Int) (x3 : Int) (x4 : Int) (M : MEM) : Option ((Int × MEM) ⊕ ((Int × MEM) ⊕ (Int × MEM))) :=
if 60 < x4 then
some (.inr (.inr (x4, M)))
else
if x4 ≤ 0 then
dh_bid_j48_27 x1 x2 x3 x4 M
else
(dh_think x1 0 x4 x2 M).bind fun M30 =>
dh_bid_j48_27 x1 x2 x3 x4 M30
noncomputable def dh_bid (x1 : Int) (x2 : Int) (x3 : Int) (M : MEM) : Option (Int × MEM) :=
if (dh_isDonkey x1 M) = 0 then
some ((-1), M)
else
if (dh_isWay x2) = 0 then
some ((-1), M)
else
if (dh_isFar x3) = 0 then
some ((-1), M)
else
(iter (fun s => dh_bid_b27 x1 x2 x3 s.1 s.2) FU (0, M)).bind (Sum.elim (fun r => some r) (fun w31 =>
some ((-2), w31.2)))
noncomputable def rm_add (x1 : Int) (x2 : Int) (x3 : Int) (M : MEM) : Option (Int × MEM) :=
if (M 41 3) < 0 then
some (0, M)
else
if (M 41 3) < 8 then
if 0 ≤ (M 41 3) ∧ (M 41 3) < 8 then
(some (up2 M 42 ((M 41 3)).toNat x1)).bind fun M3 =>
if 0 ≤ (M3 41 3) ∧ (M3 41 3) < 8 then
(some (up2 M3 43 ((M3 41 3)).toNat x2)).bind fun M5 =>
if 0 ≤ (M5 41 3) ∧ (M5 41 3) < 8 then
(some (up2 M5 44 ((M5 41 3)).toNat x3)).bind fun M7 =>
(some (up2 M7 41 3 (wr ((M7 41 3) + 1)))).bind fun M9 =>
some (1, M9)
else none
else none
else none
else
some (0, M)
noncomputable def dh_heard (x1 : Int) (x2 : Int) (x3 : Int) (M : MEM) : Option (Int × MEM) :=
if (dh_isDonkey x1 M) = 0 then
some ((-1), M)
else
if x2 < 0 then
some ((-1), M)
else
if 60 < x2 then
some ((-1), M)
else
if (dh_isFar x3) = 0 then
some ((-1), M)
else
(rm_add x1 x2 x3 M).bind fun p12 =>
if p12.1 = 0 then
some ((-1), p12.2)
else
some ((p12.2 41 3), p12.2)
noncomputable def dh_forget  (M : MEM) : Option (Int × MEM) :=
(some (up2 M 41 3 0)).bind fun M1 =>
some ((M 41 3), M1)
noncomputable def fu_strokesWithin_b2 (a0 : Nat) (x1 : Int) (x2 : Int) (M : MEM) : Option ((Int) ⊕ (Int)) :=
if (M a0 10) ≤ x2 then
some (.inr x2)
else
(fu_strokeMinute a0 (wr (x2 + 1)) M).bind fun r3 =>
if x1 ≤ r3 then
some (.inr x2)
else
some (.inl (wr (x2 + 1)))
noncomputable def fu_strokesWithin (a0 : Nat) (x1 : Int) (M : MEM) : Option (Int) :=
(iter (fun s => fu_strokesWithin_b2 a0 x1 s M) FU 0).bind fun w7 =>
some w7
noncomputable def rm_fit_j63_2 (a1 : Nat) (x2 : Int) (M : MEM) : Option ((Int × MEM) ⊕ ((Int × MEM) ⊕ (Int × MEM))) :=
some (.inl ((wr (x2 + 1)), M))
noncomputable def rm_fit_b2 (a1 : Nat) (x2 : Int) (M : MEM) : Option ((Int × MEM) ⊕ ((Int × MEM) ⊕ (Int × MEM))) :=
if (M 41 3) ≤ x2 then
some (.inr (.inr (x2, M)))
else
if 8 ≤ x2 then
some (.inr (.inr (x2, M)))
else
if 0 ≤ x2 ∧ x2 < 8 then
if (M 42 (x2).toNat) = (M a1 7) then
if 0 ≤ x2 ∧ x2 < 8 then
(fu_run a1 (M 44 (x2).toNat) 600 M).bind fun M7 =>
if 0 ≤ x2 ∧ x2 < 8 then
(fu_strokesWithin a1 (M7 44 (x2).toNat) M7).bind fun r10 =>
if 0 ≤ x2 ∧ x2 < 8 then
if r10 = (M7 43 (x2).toNat) then
rm_fit_j63_2 a1 x2 M7
else
some (.inr (.inl (0, M7)))
else none
else none
else none
else
rm_fit_j63_2 a1 x2 M
else none
noncomputable def rm_fit (a1 : Nat) (M : MEM) : Option (Int × MEM) :=
(iter (fun s => rm_fit_b2 a1 s.1 s.2) FU (0, M)).bind (Sum.elim (fun r => some r) (fun w15 =>
some (1, w15.2)))
noncomputable def dh_isWayHeard (x1 : Int) (x2 : Int) (x3 : Int) (M : MEM) : Option (Int × MEM) :=
(dh_look 224 x1 M).bind fun M2 =>
(some (up2 M2 230 4 x2)).bind fun M3 =>
(some (up2 M3 230 3 x3)).bind fun M4 =>
(rm_fit 224 M4).bind fun p6 =>
some (p6.1, p6.2)
noncomputable def dh_hungers_j53_25 (x1 : Int) (a2 : Nat) (x3 : Int) (x4 : Int) (M : MEM) : Option ((Int × Int × MEM) ⊕ (Int × Int × MEM)) :=
some (.inl (x3, (wr (x4 + 1)), M))
noncomputable def dh_hungers_b25 (x1 : Int) (a2 : Nat) (x3 : Int) (x4 : Int) (M : MEM) : Option ((Int × Int × MEM) ⊕ (Int × Int × MEM)) :=
if 10 ≤ x4 then
some (.inr (x3, x4, M))
else
(dh_isWayHeard x1 x4 (M a2 3) M).bind fun p8 =>
if p8.1 = 0 then
dh_hungers_j53_25 x1 a2 x3 x4 p8.2
else
dh_hungers_j53_25 x1 a2 (ish i_or x3 (ish i_shl 1 x4)) x4 p8.2
noncomputable def dh_hungers_j97_65 (x1 : Int) (a2 : Nat) (x3 : Int) (x4 : Int) (x5 : Int) (M : MEM) : Option ((Int × Int × MEM) ⊕ (Int × Int × MEM)) :=
some (.inl (x4, (wr (x5 + 1)), M))
noncomputable def dh_hungers_b65 (x1 : Int) (a2 : Nat) (x3 : Int) (x4 : Int) (x5 : Int) (M : MEM) : Option ((Int × Int × MEM) ⊕ (Int × Int × MEM)) :=
if (M a2 2) ≤ x5 then
some (.inr (x4, x5, M))
else
(dh_isWayHeard x1 (M a2 4) x5 M).bind fun p15 =>
if p15.1 = 0 then
dh_hungers_j97_65 x1 a2 x3 x4 x5 p15.2
else
dh_hungers_j97_65 x1 a2 x3 (ish i_or x4 (ish i_shl 1 x5)) x5 p15.2
noncomputable def dh_hungers (x1 : Int) (M : MEM) : Option (Int × MEM) :=
if (dh_isDonkey x1 M) = 0 then
some ((-1), M)
else
if 0 ≤ x1 ∧ x1 < 3 then
(iter (fun s => dh_hungers_b25 x1 (10 + 3 * (x1).toNat) s.1 s.2.1 s.2.2) FU (0, 0, M)).bind fun w12 =>
(iter (fun s => dh_hungers_b65 x1 (10 + 3 * (x1).toNat) w12.1 s.1 s.2.1 s.2.2) FU (0, 0, w12.2.2)).bind fun w19 =>
(dh_newRow w19.2.2).bind fun M21 =>
(dh_tell w19.1 M21).bind fun M23 =>
some (w12.1, M23)
else none
noncomputable def dh_ways_j73_27 (x1 : Int) (x2 : Int) (x3 : Int) (x4 : Int) (M : MEM) : Option ((Int × Int × MEM) ⊕ (Int × Int × MEM)) :=
some (.inl (x2, (wr (x4 + 1)), M))
noncomputable def dh_ways_j70_27 (x1 : Int) (x2 : Int) (x3 : Int) (x4 : Int) (M : MEM) : Option ((Int × Int × MEM) ⊕ (Int × Int × MEM)) :=
dh_ways_j73_27 x1 (wr (x2 + 1)) x3 x4 M
noncomputable def dh_ways_b27 (x1 : Int) (x3 : Int) (x2 : Int) (x4 : Int) (M : MEM) : Option ((Int × Int × MEM) ⊕ (Int × Int × MEM)) :=
if 0 ≤ x1 ∧ x1 < 3 then
if (M (10 + 3 * (x1).toNat) 2) ≤ x4 then
some (.inr (x2, x4, M))
else
(dh_isWayHeard x1 x3 x4 M).bind fun p11 =>
if p11.1 = 0 then
dh_ways_j73_27 x1 x2 x3 x4 p11.2
else
if x2 = 0 then
(dh_tell x3 p11.2).bind fun M17 =>
(dh_tell x4 M17).bind fun M19 =>
dh_ways_j70_27 x1 x2 x3 x4 M19
else
dh_ways_j70_27 x1 x2 x3 x4 p11.2
else none
noncomputable def dh_ways_b18 (x1 : Int) (x2 : Int) (x3 : Int) (M : MEM) : Option ((Int × Int × MEM) ⊕ (Int × Int × MEM)) :=
if 10 ≤ x3 then
some (.inr (x2, x3, M))
else
(iter (fun s => dh_ways_b27 x1 x3 s.1 s.2.1 s.2.2) FU (x2, 0, M)).bind fun w20 =>
some (.inl (w20.1, (wr (x3 + 1)), w20.2.2))
noncomputable def dh_ways (x1 : Int) (M : MEM) : Option (Int × MEM) :=
if (dh_isDonkey x1 M) = 0 then
some ((-1), M)
else
(dh_newRow M).bind fun M6 =>
(iter (fun s => dh_ways_b18 x1 s.1 s.2.1 s.2.2) FU (0, 0, M6)).bind fun w21 =>
some (w21.1, w21.2.2)
noncomputable def dh_swarms_b23 (x1 : Int) (x2 : Int) (x3 : Int) (x4 : Int) (M : MEM) : Option ((Int × Int × MEM) ⊕ (Int × Int × MEM)) :=
if (M 3 2) ≤ x4 then
some (.inr (x3, x4, M))
else
if x3 = 0 then
some (.inr (x3, x4, M))
else
(dh_look 224 x4 M).bind fun M6 =>
(rm_fit 224 M6).bind fun p8 =>
some (.inl (p8.1, (wr (x4 + 1)), p8.2))
noncomputable def dh_swarms_j85_4 (x1 : Int) (x2 : Int) (M : MEM) : Option ((Int × Int × MEM) ⊕ (Int × Int × MEM)) :=
some (.inl (x1, (wr (x2 + 1)), M))
noncomputable def dh_swarms_j67_4 (x1 : Int) (x2 : Int) (x3 : Int) (M : MEM) : Option ((Int × Int × MEM) ⊕ (Int × Int × MEM)) :=
(some (up2 M 224 6 (-1))).bind fun M12 =>
if x3 = 0 then
dh_swarms_j85_4 x1 x2 M12
else
dh_swarms_j85_4 (ish i_or x1 (ish i_shl 1 x2)) x2 M12
noncomputable def dh_swarms_b4  (x1 : Int) (x2 : Int) (M : MEM) : Option ((Int × Int × MEM) ⊕ (Int × Int × MEM)) :=
if 10 ≤ x2 then
some (.inr (x1, x2, M))
else
(some (up2 M 224 6 x2)).bind fun M2 =>
(iter (fun s => dh_swarms_b23 x1 x2 s.1 s.2.1 s.2.2) FU (1, 0, M2)).bind fun w11 =>
dh_swarms_j67_4 x1 x2 w11.1 w11.2.2
noncomputable def dh_swarms  (M : MEM) : Option (Int × MEM) :=
(iter (fun s => dh_swarms_b4  s.1 s.2.1 s.2.2) FU (0, 0, M)).bind fun w14 =>
some (w14.1, w14.2.2)
noncomputable def dh_span_j115_38 (x1 : Int) (x2 : Int) (x3 : Int) (x4 : Int) (x5 : Int) (x6 : Int) (x7 : Int) (M : MEM) : Option ((Int × Int × Int × Int × MEM) ⊕ (Int × Int × Int × Int × MEM)) :=
some (.inl (x3, x4, x5, (wr (x7 + 1)), M))
noncomputable def dh_span_j102_38 (x1 : Int) (x2 : Int) (x4 : Int) (x5 : Int) (x6 : Int) (x7 : Int) (x8 : Int) (s0 : Int) (M : MEM) : Option ((Int × Int × Int × Int × MEM) ⊕ (Int × Int × Int × Int × MEM)) :=
dh_span_j115_38 x1 x2 s0 (max x4 x8) (wr (x5 + 1)) x6 x7 M
noncomputable def dh_span_j79_38 (x1 : Int) (x2 : Int) (x3 : Int) (x4 : Int) (x5 : Int) (x6 : Int) (x7 : Int) (s0 : Int) (M : MEM) : Option ((Int × Int × Int × Int × MEM) ⊕ (Int × Int × Int × Int × MEM)) :=
if s0 < 0 then
dh_span_j115_38 x1 x2 x3 x4 x5 x6 x7 M
else
if x5 = 0 then
dh_span_j102_38 x1 x2 x4 x5 x6 x7 s0 s0 M
else
dh_span_j102_38 x1 x2 x4 x5 x6 x7 s0 (min x3 s0) M
noncomputable def dh_span_b38 (x1 : Int) (x2 : Int) (x6 : Int) (x3 : Int) (x4 : Int) (x5 : Int) (x7 : Int) (M : MEM) : Option ((Int × Int × Int × Int × MEM) ⊕ (Int × Int × Int × Int × MEM)) :=
if 0 ≤ x1 ∧ x1 < 3 then
if (M (10 + 3 * (x1).toNat) 2) ≤ x7 then
some (.inr (x3, x4, x5, x7, M))
else
(dh_isWayHeard x1 x6 x7 M).bind fun p13 =>
if p13.1 = 0 then
dh_span_j79_38 x1 x2 x3 x4 x5 x6 x7 (-1) p13.2
else
(fu_afterStroke 224 x2 p13.2).bind fun p20 =>
dh_span_j79_38 x1 x2 x3 x4 x5 x6 x7 p20.1 p20.2
else none
noncomputable def dh_span_b28 (x1 : Int) (x2 : Int) (x3 : Int) (x4 : Int) (x5 : Int) (x6 : Int) (M : MEM) : Option ((Int × Int × Int × Int × MEM) ⊕ (Int × Int × Int × Int × MEM)) :=
if 10 ≤ x6 then
some (.inr (x3, x4, x5, x6, M))
else
(iter (fun s => dh_span_b38 x1 x2 x6 s.1 s.2.1 s.2.2.1 s.2.2.2.1 s.2.2.2.2) FU (x3, x4, x5, 0, M)).bind fun w23 =>
some (.inl (w23.1, w23.2.1, w23.2.2.1, (wr (x6 + 1)), w23.2.2.2.2))
noncomputable def dh_span (x1 : Int) (x2 : Int) (M : MEM) : Option (Int × MEM) :=
if (dh_isDonkey x1 M) = 0 then
some ((-1), M)
else
if (dh_isAskedStroke x2) = 0 then
some ((-1), M)
else
(iter (fun s => dh_span_b28 x1 x2 s.1 s.2.1 s.2.2.1 s.2.2.2.1 s.2.2.2.2) FU ((-1), (-1), 0, 0, M)).bind fun w24 =>
if w24.2.2.1 = 0 then
some ((-2), w24.2.2.2.2)
else
(dh_newRow w24.2.2.2.2).bind fun M27 =>
(dh_tell w24.2.1 M27).bind fun M29 =>
(dh_tell w24.2.2.1 M29).bind fun M31 =>
some (w24.1, M31)
noncomputable def dh_areTwo (x1 : Int) (x2 : Int) (M : MEM) : Int :=
if (dh_isDonkey x1 M) = 0 then
0
else
if (dh_isDonkey x2 M) = 0 then
0
else
if x1 = x2 then
0
else
1
noncomputable def dh_lookBoth (x1 : Int) (x2 : Int) (M : MEM) : Option (MEM) :=
(dh_look 224 x1 M).bind fun M2 =>
(dh_look 234 x2 M2).bind fun M4 =>
some M4
noncomputable def dh_together_b19  (x3 : Int) (M : MEM) : Option ((Int × MEM) ⊕ ((Int × MEM) ⊕ (Int × MEM))) :=
if 600 ≤ x3 then
some (.inr (.inr (x3, M)))
else
(fu_step 224 M).bind fun p9 =>
(fu_step 234 p9.2).bind fun p13 =>
if (ish i_and (ish i_and p9.1 p13.1) 1) = 0 then
some (.inl ((wr (x3 + 1)), p13.2))
else
some (.inr (.inl ((wr (x3 + 1)), p13.2)))
noncomputable def dh_together (x1 : Int) (x2 : Int) (M : MEM) : Option (Int × MEM) :=
if (dh_areTwo x1 x2 M) = 0 then
some ((-1), M)
else
(dh_lookBoth x1 x2 M).bind fun M6 =>
(iter (fun s => dh_together_b19  s.1 s.2) FU (0, M6)).bind (Sum.elim (fun r => some r) (fun w17 =>
some ((-2), w17.2)))
noncomputable def dh_join_b27 (x3 : Int) (x4 : Int) (M : MEM) : Option ((Int × MEM) ⊕ (Int × MEM)) :=
if 12 ≤ x4 then
some (.inr (x4, M))
else
if 0 ≤ x4 ∧ x4 < 12 then
(some (up2 M 244 (x4).toNat 0)).bind fun M12 =>
some (.inl ((wr (x4 + 1)), M12))
else none
noncomputable def dh_join_b51 (x3 : Int) (x4 : Int) (M : MEM) : Option ((Int × MEM) ⊕ (Int × MEM)) :=
if x3 ≤ x4 then
some (.inr (x4, M))
else
(fu_step 224 M).bind fun p17 =>
(fu_step 234 p17.2).bind fun p21 =>
(jm_floorMod (wr ((p21.2 230 5) - (p21.2 240 5))) 12).bind fun r25 =>
if 0 ≤ r25 ∧ r25 < 12 then
if 0 ≤ r25 ∧ r25 < 12 then
(some (up2 p21.2 244 (r25).toNat (wr ((p21.2 244 (r25).toNat) + 1)))).bind fun M29 =>
some (.inl ((wr (x4 + 1)), M29))
else none
else none
noncomputable def dh_join_j148_120 (x4 : Int) (x5 : Int) (M : MEM) : Option ((Int × Int) ⊕ (Int × Int)) :=
some (.inl (x4, (wr (x5 + 1))))
noncomputable def dh_join_b120  (x4 : Int) (x5 : Int) (M : MEM) : Option ((Int × Int) ⊕ (Int × Int)) :=
if 12 ≤ x5 then
some (.inr (x4, x5))
else
if 0 ≤ x5 ∧ x5 < 12 then
if 0 ≤ x4 ∧ x4 < 12 then
if (M 244 (x5).toNat) ≤ (M 244 (x4).toNat) then
dh_join_j148_120 x4 x5 M
else
dh_join_j148_120 x5 x5 M
else none
else none
noncomputable def dh_join (x1 : Int) (x2 : Int) (x3 : Int) (M : MEM) : Option (Int × MEM) :=
if (dh_areTwo x1 x2 M) = 0 then
some ((-1), M)
else
if (dh_isFar x3) = 0 then
some ((-1), M)
else
(dh_lookBoth x1 x2 M).bind fun M10 =>
(iter (fun s => dh_join_b27 x3 s.1 s.2) FU (0, M10)).bind fun w14 =>
(iter (fun s => dh_join_b51 x3 s.1 s.2) FU (0, w14.2)).bind fun w31 =>
(iter (fun s => dh_join_b120  s.1 s.2 w31.2) FU (0, 1)).bind fun w36 =>
(dh_newRow w31.2).bind fun M38 =>
(dh_tell w36.1 M38).bind fun M40 =>
if 0 ≤ w36.1 ∧ w36.1 < 12 then
(dh_tell (M40 244 (w36.1).toNat) M40).bind fun M43 =>
some ((M43 244 0), M43)
else none
noncomputable def dh_shows (x1 : Int) (x2 : Int) (x3 : Int) (M : MEM) : Option (Int × MEM) :=
if (dh_areTwo x1 x2 M) = 0 then
some ((-1), M)
else
if (dh_isAskedStroke x3) = 0 then
some ((-1), M)
else
(dh_lookBoth x1 x2 M).bind fun M10 =>
(fu_afterStroke 234 x3 M10).bind fun p12 =>
if 0 ≤ p12.1 then
(fu_run 224 p12.1 600 p12.2).bind fun M17 =>
some ((Int.tmod (M17 230 5) 12), M17)
else
some ((-2), p12.2)
noncomputable def dh_egg_j125_71 (x2 : Int) (x3 : Int) (x4 : Int) (x5 : Int) (M : MEM) : Option ((Int × Int) ⊕ (Int × Int)) :=
some (.inl (x4, (wr (x5 + 1))))
noncomputable def dh_egg_b71 (x2 : Int) (x3 : Int) (x4 : Int) (x5 : Int) (M : MEM) : Option ((Int × Int) ⊕ (Int × Int)) :=
if (M 224 10) ≤ x5 then
some (.inr (x4, x5))
else
if 12 < x5 then
some (.inr (x4, x5))
else
(fu_boiled 224 x5 M).bind fun r19 =>
(fu_boiled 224 x4 M).bind fun r23 =>
if (iabs (wr (r23 - x3))) ≤ (iabs (wr (r19 - x3))) then
dh_egg_j125_71 x2 x3 x4 x5 M
else
dh_egg_j125_71 x2 x3 x5 x5 M
noncomputable def dh_egg_j131 (x2 : Int) (x4 : Int) (M : MEM) : Option (Int × MEM) :=
(dh_newRow M).bind fun M29 =>
(dh_tell x4 M29).bind fun M31 =>
(fu_boiled 224 x4 M31).bind fun r33 =>
(dh_tell r33 M31).bind fun M37 =>
(fu_boiled 224 x2 M37).bind fun r39 =>
some (r39, M37)
noncomputable def dh_egg (x1 : Int) (x2 : Int) (x3 : Int) (M : MEM) : Option (Int × MEM) :=
if (dh_isDonkey x1 M) = 0 then
some ((-1), M)
else
if x2 < 1 then
some ((-1), M)
else
if 12 < x2 then
some ((-1), M)
else
if (dh_isFar x3) = 0 then
some ((-1), M)
else
(dh_look 224 x1 M).bind fun M12 =>
(fu_run 224 600 13 M12).bind fun M14 =>
if (wr (x2 + 1)) ≤ (M14 224 10) then
(iter (fun s => dh_egg_b71 x2 x3 s.1 s.2 M14) FU (1, 2)).bind fun w27 =>
dh_egg_j131 x2 w27.1 M14
else
some ((-2), M14)
noncomputable def dh_plant_j134_37 (x1 : Int) (x2 : Int) (x3 : Int) (x4 : Int) (x5 : Int) (x6 : Int) (M : MEM) : Option ((Int × Int × Int × MEM) ⊕ (Int × Int × Int × MEM)) :=
some (.inl (x4, x5, (wr (x6 + 1)), M))
noncomputable def dh_plant_j117_37 (x1 : Int) (x2 : Int) (x3 : Int) (x4 : Int) (x5 : Int) (x6 : Int) (s0 : Int) (M : MEM) : Option ((Int × Int × Int × MEM) ⊕ (Int × Int × Int × MEM)) :=
if s0 ≤ x5 then
dh_plant_j134_37 x1 x2 x3 x4 x5 x6 M
else
dh_plant_j134_37 x1 x2 x3 x6 s0 x6 M
noncomputable def dh_plant_b37 (x1 : Int) (x2 : Int) (x3 : Int) (x4 : Int) (x5 : Int) (x6 : Int) (M : MEM) : Option ((Int × Int × Int × MEM) ⊕ (Int × Int × Int × MEM)) :=
if 0 ≤ x1 ∧ x1 < 3 then
if (M (10 + 3 * (x1).toNat) 2) ≤ x6 then
some (.inr (x4, x5, x6, M))
else
(dh_look 224 x1 M).bind fun M14 =>
(be_thistlesOn 230 x6 M14).bind fun r16 =>
(be_put 230 x6 (min 9 (wr (r16 + x2))) M14).bind fun M20 =>
(fu_afterStroke 224 x3 M20).bind fun p22 =>
if 0 ≤ p22.1 then
dh_plant_j117_37 x1 x2 x3 x4 x5 x6 p22.1 p22.2
else
dh_plant_j117_37 x1 x2 x3 x4 x5 x6 601 p22.2
else none
noncomputable def dh_plant_j159 (x4 : Int) (s1 : Int) (M : MEM) : Option (Int × MEM) :=
(dh_tell s1 M).bind fun M32 =>
some (x4, M32)
noncomputable def dh_plant (x1 : Int) (x2 : Int) (x3 : Int) (M : MEM) : Option (Int × MEM) :=
if (dh_isDonkey x1 M) = 0 then
some ((-1), M)
else
if x2 < 1 then
some ((-1), M)
else
if 9 < x2 then
some ((-1), M)
else
if (dh_isAskedStroke x3) = 0 then
some ((-1), M)
else
(iter (fun s => dh_plant_b37 x1 x2 x3 s.1 s.2.1 s.2.2.1 s.2.2.2) FU (0, (-1), 0, M)).bind fun w27 =>
(dh_newRow w27.2.2.2).bind fun M29 =>
if w27.2.1 = 601 then
dh_plant_j159 w27.1 (-1) M29
else
dh_plant_j159 w27.1 w27.2.1 M29
noncomputable def dh_keep (x1 : Int) (M : MEM) : Option (Int × MEM) :=
if x1 < 0 then
some (0, M)
else
if x1 < 2 then
if 0 ≤ x1 ∧ x1 < 2 then
(sc_copyWalk (246 + 16 * (x1).toNat) 3 M).bind fun M5 =>
if 0 ≤ x1 ∧ x1 < 2 then
(ca_copy ((246 + 16 * (x1).toNat) + 2) 5 M5).bind fun M8 =>
if 0 ≤ x1 ∧ x1 < 2 then
(some (up2 M8 (246 + 16 * (x1).toNat) 4 1)).bind fun M10 =>
some (1, M10)
else none
else none
else none
else
some (0, M)
noncomputable def dh_again (x1 : Int) (M : MEM) : Option (Int × MEM) :=
if x1 < 0 then
some (0, M)
else
if 2 ≤ x1 then
some (0, M)
else
if 0 ≤ x1 ∧ x1 < 2 then
if (M (246 + 16 * (x1).toNat) 4) = 0 then
some (0, M)
else
if 0 ≤ x1 ∧ x1 < 2 then
if (M (246 + 16 * (x1).toNat) 2) = (M 3 2) then
if 0 ≤ x1 ∧ x1 < 2 then
(sc_copyWalk 3 (246 + 16 * (x1).toNat) M).bind fun M9 =>
if 0 ≤ x1 ∧ x1 < 2 then
(ca_copy 5 ((246 + 16 * (x1).toNat) + 2) M9).bind fun M12 =>
(hi_clear M12).bind fun M14 =>
some (1, M14)
else none
else none
else
some (0, M)
else none
else none
noncomputable def dh_count (x1 : Int) (M : MEM) : Option (Int) :=
if x1 = 0 then
some (M 3 2)
else
if x1 = 1 then
some (M 3 3)
else
if x1 = 2 then
some (M 5 4)
else
if x1 = 3 then
some (M 34 6)
else
if x1 = 4 then
(sc_allStrokes 3 M).bind fun r7 =>
some r7
else
if x1 = 5 then
(sc_allThistles 3 M).bind fun r12 =>
some r12
else
if x1 = 6 then
some (M 45 2)
else
if x1 = 7 then
some (M 41 3)
else
if x1 = 8 then
some (M 0 14)
else
if x1 = 9 then
some (M 1 1)
else
some (-1)
noncomputable def dh_donkey (x1 : Int) (x2 : Int) (M : MEM) : Option (MEM ⊕ (Int × MEM)) :=
if (dh_isDonkey x1 M) = 0 then
some (.inl M)
else
if x2 < 0 then
some (.inl M)
else
if x2 ≤ 6 then
if 0 ≤ x1 ∧ x1 < 3 then
if x2 = 0 then
some (.inr ((M (10 + 3 * (x1).toNat) 4), M))
else
if x2 = 1 then
some (.inr ((M (10 + 3 * (x1).toNat) 3), M))
else
if x2 = 2 then
some (.inr ((M (10 + 3 * (x1).toNat) 5), M))
else
if x2 = 3 then
some (.inr ((Int.tmod (M (10 + 3 * (x1).toNat) 5) 12), M))
else
if x2 = 4 then
some (.inr ((M (10 + 3 * (x1).toNat) 2), M))
else
if x2 = 5 then
(be_allThistles (10 + 3 * (x1).toNat) M).bind fun r15 =>
some (.inr (r15, M))
else
(dh_paceNow (10 + 3 * (x1).toNat) x1 M).bind fun p19 =>
some (.inr (p19.1, p19.2))
else none
else
some (.inl M)
noncomputable def dh_apart (x1 : Int) (x2 : Int) (x3 : Int) (M : MEM) : Option (MEM ⊕ (Int × MEM)) :=
if (dh_areTwo x1 x2 M) = 0 then
some (.inl M)
else
if x3 < 0 then
some (.inl M)
else
if x3 ≤ 600 then
(dh_lookBoth x1 x2 M).bind fun M8 =>
(fu_run 224 x3 600 M8).bind fun M10 =>
(fu_run 234 x3 600 M10).bind fun M12 =>
some (.inr ((wr ((M12 230 5) - (M12 240 5))), M12))
else
some (.inl M)
noncomputable def dh_row (x1 : Int) (M : MEM) : Option (MEM ⊕ (Int × MEM)) :=
if x1 < 0 then
some (.inl M)
else
if (M 0 14) ≤ x1 then
some (.inl M)
else
if x1 < 4 then
if 0 ≤ x1 ∧ x1 < 4 then
some (.inr ((M 245 (x1).toNat), M))
else none
else
some (.inl M)
noncomputable def mo_thrown  (M : MEM) : Int :=
(M 278 13)
noncomputable def mo_sign_b20 (x1 : Int) (x2 : Int) (M : MEM) : Option ((Int × MEM) ⊕ (Int × MEM)) :=
if x2 < 0 then
some (.inr (x2, M))
else
(some (up2 M 278 10 (wr ((M 278 10) + 1)))).bind fun M4 =>
if 0 ≤ (M 278 10) ∧ (M 278 10) < 80 then
(some (up2 M4 283 ((M 278 10)).toNat (sx8 (sx8 (ish i_shr x1 (wr (8 * x2))))))).bind fun M5 =>
some (.inl ((wr (x2 + (-1))), M5))
else none
noncomputable def mo_sign (x1 : Int) (M : MEM) : Option (Int × MEM) :=
(some (up2 M 278 13 0)).bind fun M1 =>
if (wr ((M1 278 10) + 4)) ≤ 80 then
(iter (fun s => mo_sign_b20 x1 s.1 s.2) FU (3, M1)).bind fun w7 =>
some ((w7.2 278 10), w7.2)
else
some ((-1), M1)
noncomputable def mo_in (x0 : Int) (x1 : Int) (x2 : Int) : Int :=
if x0 < x1 then
0
else
if x2 < x0 then
0
else
1
noncomputable def mo_end (x1 : Int) (M : MEM) : Option (Int × MEM) :=
(some (up2 M 278 13 0)).bind fun M1 =>
if (mo_in x1 0 (M1 278 10)) = 0 then
some (0, M1)
else
(some (up2 M1 278 10 x1)).bind fun M6 =>
some (1, M6)
noncomputable def mo_begin (a1 : Nat) (x2 : Int) (x3 : Int) (M : MEM) : Option (MEM) :=
(some (up2 M 278 14 ((a1 : Nat) + 1))).bind fun M1 =>
(some (up2 M1 278 15 x2)).bind fun M2 =>
(some (up2 M2 278 16 x3)).bind fun M3 =>
(some (up2 M3 278 17 0)).bind fun M4 =>
(some (up2 M4 278 18 (-1))).bind fun M5 =>
some M5
noncomputable def mo_fine  (M : MEM) : Int :=
if (M 278 18) = (-1) then
1
else
0
noncomputable def mo_fault (x1 : Int) (M : MEM) : Option (MEM) :=
if (mo_fine M) = 0 then
some M
else
(some (up2 M 278 18 x1)).bind fun M5 =>
some M5
noncomputable def mo_here  (M : MEM) : Option (Int) :=
if (M 278 15) ≤ (M 278 17) then
some (-1)
else
if (M 278 16) ≤ (M 278 17) then
some (-1)
else
if 0 < M 278 14 ∧ isArr 1 (lenA (dref (M 278 14))) (dref (M 278 14)) then
if 0 ≤ (M 278 17) ∧ (M 278 17) < (lenA (dref (M 278 14))) then
some (M (dref (M 278 14)) ((M 278 17)).toNat)
else none
else none
noncomputable def mo_passes (x1 : Int) (M : MEM) : Option (Int × MEM) :=
if (mo_fine M) = 0 then
some (0, M)
else
(mo_here M).bind fun r6 =>
if r6 = x1 then
(some (up2 M 278 17 (wr ((M 278 17) + 1)))).bind fun M10 =>
some (1, M10)
else
some (0, M)
noncomputable def mo_need (x1 : Int) (M : MEM) : Option (MEM) :=
(mo_passes x1 M).bind fun p2 =>
if p2.1 = 0 then
(mo_fault (p2.2 278 17) p2.2).bind fun M7 =>
some M7
else
some p2.2
noncomputable def mo_number_b16 (x1 : Int) (x2 : Int) (x3 : Int) (M : MEM) : Option ((Int × MEM) ⊕ (Int × MEM)) :=
if (wr (x2 + x1)) ≤ (M 278 17) then
some (.inr (x3, M))
else
(mo_here M).bind fun r7 =>
if (mo_in r7 48 57) = 0 then
some (.inr (x3, M))
else
(mo_here M).bind fun r15 =>
(some (up2 M 278 17 (wr ((M 278 17) + 1)))).bind fun M18 =>
some (.inl ((wr ((wr ((wr (10 * x3)) + r15)) - 48)), M18))
noncomputable def mo_number_j66 (x2 : Int) (x3 : Int) (M : MEM) : Option (Int × MEM) :=
if (M 278 17) = x2 then
(mo_fault (M 278 17) M).bind fun M22 =>
some (x3, M22)
else
some (x3, M)
noncomputable def mo_number (x1 : Int) (M : MEM) : Option (Int × MEM) :=
if (mo_fine M) = 0 then
some (0, M)
else
(iter (fun s => mo_number_b16 x1 (M 278 17) s.1 s.2) FU (0, M)).bind fun w19 =>
mo_number_j66 (M 278 17) w19.1 w19.2
noncomputable def mo_readDonkey_b19 (x1 : Int) (x2 : Int) (M : MEM) : Option ((Int × MEM) ⊕ (Int × MEM)) :=
if (mo_fine M) = 0 then
some (.inr (x2, M))
else
(mo_here M).bind fun r14 =>
if (mo_in r14 48 57) = 0 then
some (.inr (x2, M))
else
if x2 = 12 then
(mo_fault (M 278 17) M).bind fun M23 =>
some (.inl (x2, M23))
else
(mo_here M).bind fun r25 =>
if 0 ≤ (wr ((wr (x1 + 2)) + x2)) ∧ (wr ((wr (x1 + 2)) + x2)) < 42 then
(some (up2 M 285 ((wr ((wr (x1 + 2)) + x2))).toNat (wr (r25 - 48)))).bind fun M28 =>
(some (up2 M28 278 17 (wr ((M28 278 17) + 1)))).bind fun M30 =>
some (.inl ((wr (x2 + 1)), M30))
else none
noncomputable def mo_readDonkey_j103 (x1 : Int) (x2 : Int) (M : MEM) : Option (MEM) :=
if 0 ≤ (wr (x1 + 1)) ∧ (wr (x1 + 1)) < 42 then
(some (up2 M 285 ((wr (x1 + 1))).toNat x2)).bind fun M33 =>
some M33
else none
noncomputable def mo_readDonkey_j90 (x1 : Int) (x2 : Int) (M : MEM) : Option (MEM) :=
if 4 ≤ x2 then
mo_readDonkey_j103 x1 x2 M
else
(mo_fault (M 278 17) M).bind fun M36 =>
mo_readDonkey_j103 x1 x2 M36
noncomputable def mo_readDonkey (x1 : Int) (M : MEM) : Option (MEM) :=
(mo_number 1 M).bind fun p2 =>
if 0 ≤ x1 ∧ x1 < 42 then
(some (up2 p2.2 285 (x1).toNat p2.1)).bind fun M5 =>
(mo_need 58 M5).bind fun M8 =>
(iter (fun s => mo_readDonkey_b19 x1 s.1 s.2) FU (0, M8)).bind fun w31 =>
mo_readDonkey_j90 x1 w31.1 w31.2
else none
noncomputable def mo_stable_j77_37 (x1 : Int) (M : MEM) : Option ((Int × Int × MEM) ⊕ (Int × Int × MEM)) :=
(mo_passes 59 M).bind fun p15 =>
some (.inl ((wr (x1 + 1)), p15.1, p15.2))
noncomputable def mo_stable_b37  (x1 : Int) (x2 : Int) (M : MEM) : Option ((Int × Int × MEM) ⊕ (Int × Int × MEM)) :=
if x2 = 0 then
some (.inr (x1, x2, M))
else
if (mo_fine M) = 0 then
some (.inr (x1, x2, M))
else
if (wr ((M 278 1) + x1)) = 3 then
(mo_fault (M 278 17) M).bind fun M13 =>
mo_stable_j77_37 x1 M13
else
(mo_readDonkey (wr (14 * x1)) M).bind fun M19 =>
mo_stable_j77_37 x1 M19
noncomputable def mo_stable_b142 (x1 : Int) (x3 : Int) (x4 : Int) (x5 : Int) (M : MEM) : Option ((Int × MEM) ⊕ (Int × MEM)) :=
if 55 ≤ x5 then
some (.inr (x5, M))
else
if 0 ≤ (wr (x4 + x5)) ∧ (wr (x4 + x5)) < 166 then
(some (up2 M 279 ((wr (x4 + x5))).toNat 0)).bind fun M28 =>
some (.inl ((wr (x5 + 1)), M28))
else none
noncomputable def mo_stable_b205 (x1 : Int) (x3 : Int) (x4 : Int) (x5 : Int) (M : MEM) : Option ((Int × MEM) ⊕ (Int × MEM)) :=
if 0 ≤ (M 278 1) ∧ (M 278 1) < 3 then
if (M 280 ((M 278 1)).toNat) ≤ x5 then
some (.inr (x5, M))
else
if 0 ≤ (wr ((wr ((wr (14 * x3)) + 2)) + x5)) ∧ (wr ((wr ((wr (14 * x3)) + 2)) + x5)) < 42 then
if 0 ≤ (wr ((wr (x4 + 3)) + x5)) ∧ (wr ((wr (x4 + 3)) + x5)) < 166 then
(some (up2 M 279 ((wr ((wr (x4 + 3)) + x5))).toNat (M 285 ((wr ((wr ((wr (14 * x3)) + 2)) + x5))).toNat))).bind fun M40 =>
some (.inl ((wr (x5 + 1)), M40))
else none
else none
else none
noncomputable def mo_stable_b125 (x1 : Int) (x3 : Int) (M : MEM) : Option ((Int × MEM) ⊕ (Int × MEM)) :=
if x1 ≤ x3 then
some (.inr (x3, M))
else
(iter (fun s => mo_stable_b142 x1 x3 (wr (55 * (M 278 1))) s.1 s.2) FU (0, M)).bind fun w30 =>
if 0 ≤ (wr (14 * x3)) ∧ (wr (14 * x3)) < 42 then
if 0 ≤ (wr (55 * (M 278 1))) ∧ (wr (55 * (M 278 1))) < 166 then
(some (up2 w30.2 279 ((wr (55 * (M 278 1)))).toNat (w30.2 285 ((wr (14 * x3))).toNat))).bind fun M32 =>
if 0 ≤ (wr ((wr (14 * x3)) + 1)) ∧ (wr ((wr (14 * x3)) + 1)) < 42 then
if 0 ≤ (M32 278 1) ∧ (M32 278 1) < 3 then
(some (up2 M32 280 ((M32 278 1)).toNat (M32 285 ((wr ((wr (14 * x3)) + 1))).toNat))).bind fun M35 =>
(iter (fun s => mo_stable_b205 x1 x3 (wr (55 * (M 278 1))) s.1 s.2) FU (0, M35)).bind fun w42 =>
(some (up2 w42.2 278 1 (wr ((w42.2 278 1) + 1)))).bind fun M43 =>
some (.inl ((wr (x3 + 1)), M43))
else none
else none
else none
else none
noncomputable def mo_stable_j109 (x1 : Int) (M : MEM) : Option (Int × MEM) :=
if (mo_fine M) = 0 then
some ((wr ((-1) - (M 278 18))), M)
else
(iter (fun s => mo_stable_b125 x1 s.1 s.2) FU (0, M)).bind fun w44 =>
(some (up2 w44.2 278 31 0)).bind fun M45 =>
(some (up2 M45 278 51 (wr ((M45 278 51) + 1)))).bind fun M46 =>
some (x1, M46)
noncomputable def mo_stable_j90 (x1 : Int) (M : MEM) : Option (Int × MEM) :=
if (M 278 15) ≤ (M 278 17) then
mo_stable_j109 x1 M
else
(mo_fault (M 278 17) M).bind fun M48 =>
mo_stable_j109 x1 M48
noncomputable def mo_stable  (M : MEM) : Option (Int × MEM) :=
(some (up2 M 278 13 0)).bind fun M1 =>
(mo_begin 283 (M1 278 10) 76 M1).bind fun M3 =>
(some (up2 M3 278 10 0)).bind fun M4 =>
if (M4 278 15) = 0 then
some (0, M4)
else
(iter (fun s => mo_stable_b37  s.1 s.2.1 s.2.2) FU (0, 1, M4)).bind fun w20 =>
mo_stable_j90 w20.1 w20.2.2
noncomputable def mo_flies_b17 (x1 : Int) (x2 : Int) (M : MEM) : Option ((Int) ⊕ ((Int × MEM) ⊕ (Int))) :=
if x1 ≤ x2 then
some (.inr (.inr x2))
else
if x2 = 40 then
some (.inr (.inl ((wr ((-1) - x2)), M)))
else
if 0 ≤ x2 ∧ x2 < 80 then
if (mo_in (M 283 (x2).toNat) 48 57) = 0 then
some (.inr (.inl ((wr ((-1) - x2)), M)))
else
some (.inl (wr (x2 + 1)))
else none
noncomputable def mo_flies_b56 (x1 : Int) (x2 : Int) (M : MEM) : Option ((Int × MEM) ⊕ (Int × MEM)) :=
if x1 ≤ x2 then
some (.inr (x2, M))
else
if 0 ≤ x2 ∧ x2 < 80 then
if 0 ≤ x2 ∧ x2 < 40 then
(some (up2 M 281 (x2).toNat (wr ((M 283 (x2).toNat) - 48)))).bind fun M13 =>
some (.inl ((wr (x2 + 1)), M13))
else none
else none
noncomputable def mo_flies  (M : MEM) : Option (Int × MEM) :=
(some (up2 M 278 13 0)).bind fun M1 =>
(some (up2 M1 278 10 0)).bind fun M2 =>
(iter (fun s => mo_flies_b17 (M1 278 10) s M2) FU 0).bind (Sum.elim (fun r => some r) (fun w10 =>
(iter (fun s => mo_flies_b56 (M1 278 10) s.1 s.2) FU (0, M2)).bind fun w15 =>
(some (up2 w15.2 278 4 (M1 278 10))).bind fun M16 =>
some ((M1 278 10), M16)))
noncomputable def mo_fliesIn (x1 : Int) (M : MEM) : Option (Int) :=
if (M 278 5) = (-1) then
if (M 278 4) = 0 then
some 0
else
if (M 278 4) = 0 then none else
if 0 ≤ (Int.tmod x1 (M 278 4)) ∧ (Int.tmod x1 (M 278 4)) < 40 then
some (M 281 ((Int.tmod x1 (M 278 4))).toNat)
else none
else
some (M 278 5)
noncomputable def mo_hurry_j99_5 (x1 : Int) (x2 : Int) (x3 : Int) (x4 : Int) (M : MEM) : Option ((Int × Int) ⊕ (Int × Int)) :=
some (.inl (x3, (wr (x4 + 1))))
noncomputable def mo_hurry_j43_5 (x1 : Int) (x2 : Int) (x3 : Int) (x4 : Int) (M : MEM) : Option ((Int × Int) ⊕ (Int × Int)) :=
if 0 ≤ (wr (4 * x4)) ∧ (wr (4 * x4)) < 48 then
if (M 282 ((wr (4 * x4))).toNat) = x1 then
if 0 ≤ (wr ((wr (4 * x4)) + 1)) ∧ (wr ((wr (4 * x4)) + 1)) < 48 then
if 0 ≤ (wr ((wr (4 * x4)) + 2)) ∧ (wr ((wr (4 * x4)) + 2)) < 48 then
if (mo_in x2 (M 282 ((wr ((wr (4 * x4)) + 1))).toNat) (M 282 ((wr ((wr (4 * x4)) + 2))).toNat)) = 0 then
mo_hurry_j99_5 x1 x2 x3 x4 M
else
if 0 ≤ (wr ((wr (4 * x4)) + 3)) ∧ (wr ((wr (4 * x4)) + 3)) < 48 then
mo_hurry_j99_5 x1 x2 (wr (x3 + (M 282 ((wr ((wr (4 * x4)) + 3))).toNat))) x4 M
else none
else none
else none
else
mo_hurry_j99_5 x1 x2 x3 x4 M
else none
noncomputable def mo_hurry_b5 (x1 : Int) (x2 : Int) (x3 : Int) (x4 : Int) (M : MEM) : Option ((Int × Int) ⊕ (Int × Int)) :=
if 12 ≤ x4 then
some (.inr (x3, x4))
else
if x4 < (M 278 7) then
mo_hurry_j43_5 x1 x2 x3 x4 M
else
if x4 < 10 then
mo_hurry_j99_5 x1 x2 x3 x4 M
else
if x4 < (wr (10 + (M 278 8))) then
mo_hurry_j43_5 x1 x2 x3 x4 M
else
mo_hurry_j99_5 x1 x2 x3 x4 M
noncomputable def mo_hurry (x1 : Int) (x2 : Int) (M : MEM) : Option (Int) :=
(iter (fun s => mo_hurry_b5 x1 x2 s.1 s.2 M) FU (0, 0)).bind fun w14 =>
some w14.1
noncomputable def mo_letter (x1 : Int) (a2 : Nat) (x3 : Int) (M : MEM) : Option (Int) :=
if x1 = 99 then
if 0 ≤ (165 : Int) ∧ (165 : Int) < (lenA a2) then
(mo_hurry x3 (M a2 ((165 : Int)).toNat) M).bind fun r4 =>
some r4
else none
else
if x1 = 102 then
if 0 ≤ (165 : Int) ∧ (165 : Int) < (lenA a2) then
(mo_fliesIn (M a2 ((165 : Int)).toNat) M).bind fun r10 =>
some r10
else none
else
if x1 = 104 then
if 0 ≤ (wr (55 * x3)) ∧ (wr (55 * x3)) < (lenA a2) then
some (M a2 ((wr (55 * x3))).toNat)
else none
else
if x1 = 107 then
if 0 ≤ (wr ((wr (55 * x3)) + 2)) ∧ (wr ((wr (55 * x3)) + 2)) < (lenA a2) then
some (Int.tmod (M a2 ((wr ((wr (55 * x3)) + 2))).toNat) 12)
else none
else
if x1 = 109 then
if 0 ≤ (165 : Int) ∧ (165 : Int) < (lenA a2) then
some (M a2 ((165 : Int)).toNat)
else none
else
if x1 = 112 then
if 0 ≤ (wr ((wr (55 * x3)) + 1)) ∧ (wr ((wr (55 * x3)) + 1)) < (lenA a2) then
some (M a2 ((wr ((wr (55 * x3)) + 1))).toNat)
else none
else
if x1 = 116 then
if 0 ≤ (wr ((wr (55 * x3)) + 1)) ∧ (wr ((wr (55 * x3)) + 1)) < (lenA a2) then
if 0 ≤ (wr ((wr ((wr (55 * x3)) + 3)) + (M a2 ((wr ((wr (55 * x3)) + 1))).toNat))) ∧ (wr ((wr ((wr (55 * x3)) + 3)) + (M a2 ((wr ((wr (55 * x3)) + 1))).toNat))) < (lenA a2) then
some (M a2 ((wr ((wr ((wr (55 * x3)) + 3)) + (M a2 ((wr ((wr (55 * x3)) + 1))).toNat)))).toNat)
else none
else none
else
some x3
noncomputable def mo_thing_j142 (rec : Nat → Int → MEM → Option (Int × MEM)) (x2 : Int) (M : MEM) : Option (Int × MEM) :=
(some (up2 M 278 17 (wr ((M 278 17) + 1)))).bind fun M21 =>
if M21 278 22 = 0 then
some (0, M21)
else
if 0 < M21 278 22 ∧ isArr 0 (lenA (dref (M21 278 22))) (dref (M21 278 22)) then
if 0 < M21 278 22 ∧ isArr 0 (lenA (dref (M21 278 22))) (dref (M21 278 22)) then
(mo_letter x2 (dref (M21 278 22)) (M21 278 23) M21).bind fun r27 =>
some (r27, M21)
else none
else none
noncomputable def mo_thing_j67 (rec : Nat → Int → MEM → Option (Int × MEM)) (x2 : Int) (M : MEM) : Option (Int × MEM) :=
if (mo_in x2 48 57) = 0 then
if x2 = 104 then
mo_thing_j142 rec x2 M
else
if x2 = 112 then
mo_thing_j142 rec x2 M
else
if x2 = 116 then
mo_thing_j142 rec x2 M
else
if x2 = 102 then
mo_thing_j142 rec x2 M
else
if x2 = 99 then
mo_thing_j142 rec x2 M
else
if x2 = 109 then
mo_thing_j142 rec x2 M
else
if x2 = 107 then
mo_thing_j142 rec x2 M
else
if x2 = 105 then
mo_thing_j142 rec x2 M
else
(mo_fault (M 278 17) M).bind fun M38 =>
some (0, M38)
else
(mo_number 3 M).bind fun p40 =>
some (p40.1, p40.2)
noncomputable def mo_thing_o (rec : Nat → Int → MEM → Option (Int × MEM)) (x1 : Int) (M : MEM) : Option (Int × MEM) :=
(mo_passes 45 M).bind fun p2 =>
if p2.1 = 0 then
if (mo_fine p2.2) = 0 then
some (0, p2.2)
else
(mo_here p2.2).bind fun r11 =>
if r11 = 40 then
if 4 ≤ x1 then
mo_thing_j67 rec r11 p2.2
else
(some (up2 p2.2 278 17 (wr ((p2.2 278 17) + 1)))).bind fun M43 =>
(rec 0 (wr (x1 + 1)) M43).bind fun p45 =>
(mo_need 41 p45.2).bind fun M49 =>
some (p45.1, M49)
else
mo_thing_j67 rec r11 p2.2
else
(rec 3 x1 p2.2).bind fun p51 =>
some ((wr (-p51.1)), p51.2)
noncomputable def mo_product_j87_6 (rec : Nat → Int → MEM → Option (Int × MEM)) (x1 : Int) (s0 : Int) (M : MEM) : Option ((Int × MEM) ⊕ (Int × MEM)) :=
some (.inl (s0, M))
noncomputable def mo_product_j45_6 (rec : Nat → Int → MEM → Option (Int × MEM)) (x1 : Int) (x2 : Int) (s0 : Int) (M : MEM) : Option ((Int × MEM) ⊕ (Int × MEM)) :=
(some (up2 M 278 17 (wr ((M 278 17) + 1)))).bind fun M19 =>
(rec 3 x1 M19).bind fun p21 =>
if s0 = 0 then
if p21.1 = 0 then
mo_product_j87_6 rec x1 0 p21.2
else
if p21.1 = 0 then none else
mo_product_j87_6 rec x1 (wr (Int.tdiv x2 p21.1)) p21.2
else
mo_product_j87_6 rec x1 (wr (x2 * p21.1)) p21.2
noncomputable def mo_product_j31_6 (rec : Nat → Int → MEM → Option (Int × MEM)) (x1 : Int) (x2 : Int) (M : MEM) : Option ((Int × MEM) ⊕ (Int × MEM)) :=
(mo_here M).bind fun r15 =>
if r15 = 42 then
mo_product_j45_6 rec x1 x2 1 M
else
mo_product_j45_6 rec x1 x2 0 M
noncomputable def mo_product_b6 (rec : Nat → Int → MEM → Option (Int × MEM)) (x1 : Int) (x2 : Int) (M : MEM) : Option ((Int × MEM) ⊕ (Int × MEM)) :=
if (mo_fine M) = 0 then
some (.inr (x2, M))
else
(mo_here M).bind fun r10 =>
if r10 = 42 then
mo_product_j31_6 rec x1 x2 M
else
(mo_here M).bind fun r28 =>
if r28 = 47 then
mo_product_j31_6 rec x1 x2 M
else
some (.inr (x2, M))
noncomputable def mo_product_o (rec : Nat → Int → MEM → Option (Int × MEM)) (x1 : Int) (M : MEM) : Option (Int × MEM) :=
(rec 3 x1 M).bind fun p2 =>
(iter (fun s => mo_product_b6 rec x1 s.1 s.2) FU (p2.1, p2.2)).bind fun w32 =>
some (w32.1, w32.2)
noncomputable def mo_sum_j78_6 (rec : Nat → Int → MEM → Option (Int × MEM)) (x1 : Int) (s0 : Int) (M : MEM) : Option ((Int × MEM) ⊕ (Int × MEM)) :=
some (.inl (s0, M))
noncomputable def mo_sum_j45_6 (rec : Nat → Int → MEM → Option (Int × MEM)) (x1 : Int) (x2 : Int) (s0 : Int) (M : MEM) : Option ((Int × MEM) ⊕ (Int × MEM)) :=
(some (up2 M 278 17 (wr ((M 278 17) + 1)))).bind fun M19 =>
(rec 2 x1 M19).bind fun p21 =>
if s0 = 0 then
mo_sum_j78_6 rec x1 (wr (x2 - p21.1)) p21.2
else
mo_sum_j78_6 rec x1 (wr (x2 + p21.1)) p21.2
noncomputable def mo_sum_j31_6 (rec : Nat → Int → MEM → Option (Int × MEM)) (x1 : Int) (x2 : Int) (M : MEM) : Option ((Int × MEM) ⊕ (Int × MEM)) :=
(mo_here M).bind fun r15 =>
if r15 = 43 then
mo_sum_j45_6 rec x1 x2 1 M
else
mo_sum_j45_6 rec x1 x2 0 M
noncomputable def mo_sum_b6 (rec : Nat → Int → MEM → Option (Int × MEM)) (x1 : Int) (x2 : Int) (M : MEM) : Option ((Int × MEM) ⊕ (Int × MEM)) :=
if (mo_fine M) = 0 then
some (.inr (x2, M))
else
(mo_here M).bind fun r10 =>
if r10 = 43 then
mo_sum_j31_6 rec x1 x2 M
else
(mo_here M).bind fun r26 =>
if r26 = 45 then
mo_sum_j31_6 rec x1 x2 M
else
some (.inr (x2, M))
noncomputable def mo_sum_o (rec : Nat → Int → MEM → Option (Int × MEM)) (x1 : Int) (M : MEM) : Option (Int × MEM) :=
(rec 2 x1 M).bind fun p2 =>
(iter (fun s => mo_sum_b6 rec x1 s.1 s.2) FU (p2.1, p2.2)).bind fun w30 =>
some (w30.1, w30.2)
noncomputable def mo_held_o (rec : Nat → Int → MEM → Option (Int × MEM)) (x1 : Int) (M : MEM) : Option (Int × MEM) :=
(rec 1 x1 M).bind fun p2 =>
(mo_passes 60 p2.2).bind fun p6 =>
if p6.1 = 0 then
(mo_passes 62 p6.2).bind fun p11 =>
if p11.1 = 0 then
(mo_passes 61 p11.2).bind fun p16 =>
if p16.1 = 0 then
some (p2.1, p16.2)
else
(rec 1 x1 p16.2).bind fun p21 =>
if p2.1 = p21.1 then
some (1, p21.2)
else
some (0, p21.2)
else
(rec 1 x1 p11.2).bind fun p26 =>
if p2.1 ≤ p26.1 then
some (0, p26.2)
else
some (1, p26.2)
else
(rec 1 x1 p6.2).bind fun p31 =>
if p31.1 ≤ p2.1 then
some (0, p31.2)
else
some (1, p31.2)
def RF : Nat := 70
noncomputable def mo_rec : Nat → Nat → Int → MEM → Option (Int × MEM)
  | 0, _, _, _ => none
  | n + 1, tag, x, M => match tag with
    | 0 => mo_held_o (mo_rec n) x M
    | 1 => mo_sum_o (mo_rec n) x M
    | 2 => mo_product_o (mo_rec n) x M
    | _ => mo_thing_o (mo_rec n) x M
noncomputable def mo_rule_b73 (x1 : Int) (x2 : Int) (M : MEM) : Option ((Int × MEM) ⊕ (Int × MEM)) :=
if x1 ≤ x2 then
some (.inr (x2, M))
else
if 0 ≤ x2 ∧ x2 < 80 then
if 0 ≤ x2 ∧ x2 < 40 then
(some (up2 M 286 (x2).toNat (sx8 (M 283 (x2).toNat)))).bind fun M9 =>
some (.inl ((wr (x2 + 1)), M9))
else none
else none
noncomputable def mo_rule_j71 (x1 : Int) (M : MEM) : Option (Int × MEM) :=
(iter (fun s => mo_rule_b73 x1 s.1 s.2) FU (0, M)).bind fun w11 =>
(some (up2 w11.2 278 21 x1)).bind fun M12 =>
some (0, M12)
noncomputable def mo_rule_j57 (x1 : Int) (M : MEM) : Option (Int × MEM) :=
if (mo_fine M) = 0 then
some ((wr ((-1) - (M 278 18))), M)
else
mo_rule_j71 x1 M
noncomputable def mo_rule  (M : MEM) : Option (Int × MEM) :=
(some (up2 M 278 13 0)).bind fun M1 =>
(mo_begin 283 (M1 278 10) 40 M1).bind fun M3 =>
(some (up2 M3 278 10 0)).bind fun M4 =>
(some (up2 M4 278 22 0)).bind fun M5 =>
if (M1 278 10) ≤ 0 then
mo_rule_j71 (M1 278 10) M5
else
(mo_rec RF 0 0 M5).bind fun p14 =>
if (M1 278 10) ≤ (p14.2 278 17) then
mo_rule_j57 (M1 278 10) p14.2
else
(mo_fault (p14.2 278 17) p14.2).bind fun M23 =>
mo_rule_j57 (M1 278 10) M23
noncomputable def mo_allThistles_b4 (a0 : Nat) (x1 : Int) (x2 : Int) (x3 : Int) (M : MEM) : Option ((Int × Int) ⊕ (Int × Int)) :=
if 12 ≤ x3 then
some (.inr (x2, x3))
else
if 0 ≤ (wr ((wr ((wr (55 * x1)) + 3)) + x3)) ∧ (wr ((wr ((wr (55 * x1)) + 3)) + x3)) < (lenA a0) then
some (.inl ((wr (x2 + (M a0 ((wr ((wr ((wr (55 * x1)) + 3)) + x3))).toNat))), (wr (x3 + 1))))
else none
noncomputable def mo_allThistles (a0 : Nat) (x1 : Int) (M : MEM) : Option (Int) :=
(iter (fun s => mo_allThistles_b4 a0 x1 s.1 s.2 M) FU (0, 0)).bind fun w3 =>
some w3.1
noncomputable def mo_isDonkey (x1 : Int) (M : MEM) : Int :=
(mo_in x1 0 (wr ((M 278 1) - 1)))
noncomputable def mo_lost  (M : MEM) : Option (Int × MEM) :=
(some (up2 M 278 13 1)).bind fun M1 =>
some (0, M1)
noncomputable def mo_pace (a1 : Nat) (x2 : Int) (M : MEM) : Option (Int × MEM) :=
if (M 278 21) = 0 then
some (1, M)
else
(mo_begin 286 (M 278 21) 40 M).bind fun M3 =>
(some (up2 M3 278 22 ((a1 : Nat) + 1))).bind fun M4 =>
(some (up2 M4 278 23 x2)).bind fun M5 =>
(mo_rec RF 0 0 M5).bind fun p7 =>
some ((max 0 (min 4 p7.1)), p7.2)
noncomputable def mo_donkey_j23  (M : MEM) : Option (Int × MEM) :=
(mo_lost M).bind fun p7 =>
some (p7.1, p7.2)
noncomputable def mo_donkey (x1 : Int) (x2 : Int) (M : MEM) : Option (Int × MEM) :=
(some (up2 M 278 13 0)).bind fun M1 =>
if (mo_isDonkey x1 M1) = 0 then
mo_donkey_j23  M1
else
if (mo_in x2 0 6) = 0 then
mo_donkey_j23  M1
else
if x2 = 0 then
if 0 ≤ (wr (55 * x1)) ∧ (wr (55 * x1)) < 166 then
some ((M1 279 ((wr (55 * x1))).toNat), M1)
else none
else
if x2 = 1 then
if 0 ≤ (wr ((wr (55 * x1)) + 1)) ∧ (wr ((wr (55 * x1)) + 1)) < 166 then
some ((M1 279 ((wr ((wr (55 * x1)) + 1))).toNat), M1)
else none
else
if x2 = 2 then
if 0 ≤ (wr ((wr (55 * x1)) + 2)) ∧ (wr ((wr (55 * x1)) + 2)) < 166 then
some ((M1 279 ((wr ((wr (55 * x1)) + 2))).toNat), M1)
else none
else
if x2 = 3 then
if 0 ≤ (wr ((wr (55 * x1)) + 2)) ∧ (wr ((wr (55 * x1)) + 2)) < 166 then
some ((Int.tmod (M1 279 ((wr ((wr (55 * x1)) + 2))).toNat) 12), M1)
else none
else
if x2 = 4 then
if 0 ≤ x1 ∧ x1 < 3 then
some ((M1 280 (x1).toNat), M1)
else none
else
if x2 = 5 then
(mo_allThistles 279 x1 M1).bind fun r26 =>
some (r26, M1)
else
(mo_pace 279 x1 M1).bind fun p30 =>
some (p30.1, p30.2)
noncomputable def mo_isPlace (x1 : Int) (x2 : Int) (M : MEM) : Option (Int) :=
if (mo_isDonkey x1 M) = 0 then
some 0
else
if 0 ≤ x1 ∧ x1 < 3 then
if (mo_in x2 0 (wr ((M 280 (x1).toNat) - 1))) = 0 then
some 0
else
some 1
else none
noncomputable def mo_thistles (x1 : Int) (x2 : Int) (M : MEM) : Option (Int × MEM) :=
(some (up2 M 278 13 0)).bind fun M1 =>
(mo_isPlace x1 x2 M1).bind fun r3 =>
if r3 = 0 then
some ((-1), M1)
else
if 0 ≤ (wr ((wr ((wr (55 * x1)) + 3)) + x2)) ∧ (wr ((wr ((wr (55 * x1)) + 3)) + x2)) < 166 then
some ((M1 279 ((wr ((wr ((wr (55 * x1)) + 3)) + x2))).toNat), M1)
else none
noncomputable def mo_sow (x1 : Int) (x2 : Int) (x3 : Int) (M : MEM) : Option (Int × MEM) :=
(some (up2 M 278 13 0)).bind fun M1 =>
(mo_isPlace x1 x2 M1).bind fun r3 =>
if r3 = 0 then
some ((-1), M1)
else
if (mo_in x3 0 9) = 0 then
some ((-1), M1)
else
if 0 ≤ (wr ((wr ((wr (55 * x1)) + 3)) + x2)) ∧ (wr ((wr ((wr (55 * x1)) + 3)) + x2)) < 166 then
if 0 ≤ (wr ((wr ((wr (55 * x1)) + 3)) + x2)) ∧ (wr ((wr ((wr (55 * x1)) + 3)) + x2)) < 166 then
(some (up2 M1 279 ((wr ((wr ((wr (55 * x1)) + 3)) + x2))).toNat x3)).bind fun M12 =>
some ((M1 279 ((wr ((wr ((wr (55 * x1)) + 3)) + x2))).toNat), M12)
else none
else none
noncomputable def mo_set_j41 (x1 : Int) (x2 : Int) (x3 : Int) (s0 : Int) (s1 : Int) (s2 : Int) (M : MEM) : Option (Int × MEM) :=
if (mo_in s0 s1 s2) = 0 then
some ((-1), M)
else
if 0 ≤ (wr ((wr (55 * x1)) + x2)) ∧ (wr ((wr (55 * x1)) + x2)) < 166 then
if 0 ≤ (wr ((wr (55 * x1)) + x2)) ∧ (wr ((wr (55 * x1)) + x2)) < 166 then
(some (up2 M 279 ((wr ((wr (55 * x1)) + x2))).toNat x3)).bind fun M16 =>
some ((M 279 ((wr ((wr (55 * x1)) + x2))).toNat), M16)
else none
else none
noncomputable def mo_set (x1 : Int) (x2 : Int) (x3 : Int) (M : MEM) : Option (Int × MEM) :=
(some (up2 M 278 13 0)).bind fun M1 =>
if (mo_isDonkey x1 M1) = 0 then
some ((-1), M1)
else
if (mo_in x2 0 1) = 0 then
some ((-1), M1)
else
if x2 = 0 then
mo_set_j41 x1 x2 x3 x3 0 9 M1
else
if 0 ≤ x1 ∧ x1 < 3 then
mo_set_j41 x1 x2 x3 x3 0 (wr ((M1 280 (x1).toNat) - 1)) M1
else none
noncomputable def mo_sheet_j120_50 (x1 : Int) (x2 : Int) (x4 : Int) (x5 : Int) (x6 : Int) (x7 : Int) (s1 : Int) (s2 : Int) (M : MEM) : Option ((Int × Int × Int × MEM) ⊕ (Int × Int × Int × MEM)) :=
if 0 ≤ s1 ∧ s1 < 166 then
(some (up2 M 279 (s1).toNat s2)).bind fun M12 =>
if 0 ≤ (wr (3 + x7)) ∧ (wr (3 + x7)) < 166 then
some (.inl ((wr (x5 + (M12 279 ((wr (3 + x7))).toNat))), (wr (x6 + x4)), (wr (x7 + 1)), M12))
else none
else none
noncomputable def mo_sheet_j105_50 (x1 : Int) (x2 : Int) (x4 : Int) (x5 : Int) (x6 : Int) (x7 : Int) (s1 : Int) (M : MEM) : Option ((Int × Int × Int × MEM) ⊕ (Int × Int × Int × MEM)) :=
mo_sheet_j120_50 x1 x2 x4 x5 x6 x7 s1 0 M
noncomputable def mo_sheet_j84_50 (x1 : Int) (x2 : Int) (x4 : Int) (x5 : Int) (x6 : Int) (x7 : Int) (s0 : Int) (M : MEM) : Option ((Int × Int × Int × MEM) ⊕ (Int × Int × Int × MEM)) :=
if x1 = 3 then
mo_sheet_j105_50 x1 x2 x4 x5 x6 x7 (wr (3 + x7)) M
else
if x7 < x2 then
mo_sheet_j120_50 x1 x2 x4 x5 x6 x7 (wr (3 + x7)) (max 0 (min 9 s0)) M
else
mo_sheet_j105_50 x1 x2 x4 x5 x6 x7 (wr (3 + x7)) M
noncomputable def mo_sheet_b50 (x1 : Int) (x2 : Int) (x4 : Int) (x5 : Int) (x6 : Int) (x7 : Int) (M : MEM) : Option ((Int × Int × Int × MEM) ⊕ (Int × Int × Int × MEM)) :=
if (M 280 0) ≤ x7 then
some (.inr (x5, x6, x7, M))
else
if x1 = 0 then
mo_sheet_j84_50 x1 x2 x4 x5 x6 x7 (sx8 x6) M
else
if x1 = 1 then
mo_sheet_j84_50 x1 x2 x4 x5 x6 x7 (sx16 x6) M
else
mo_sheet_j84_50 x1 x2 x4 x5 x6 x7 x6 M
noncomputable def mo_sheet_j41 (x1 : Int) (x2 : Int) (x3 : Int) (x4 : Int) (M : MEM) : Option (Int × MEM) :=
(iter (fun s => mo_sheet_b50 x1 x2 x4 s.1 s.2.1 s.2.2.1 s.2.2.2) FU (0, x3, 0, M)).bind fun w17 =>
if x1 = 3 then
some ((-3), w17.2.2.2)
else
some (w17.1, w17.2.2.2)
noncomputable def mo_sheet (x1 : Int) (x2 : Int) (x3 : Int) (x4 : Int) (M : MEM) : Option (Int × MEM) :=
(some (up2 M 278 13 0)).bind fun M1 =>
if (mo_in x1 0 3) = 0 then
some ((-1), M1)
else
if 12 < x2 then
some ((-1), M1)
else
if (M1 278 1) = 0 then
some ((-1), M1)
else
if 3 ≤ x1 then
mo_sheet_j41 x1 x2 x3 x4 M1
else
if 0 ≤ x2 then
mo_sheet_j41 x1 x2 x3 x4 M1
else
some ((-2), M1)
noncomputable def mo_layCarrot (x1 : Int) (x2 : Int) (x3 : Int) (x4 : Int) (x5 : Int) (M : MEM) : Option (MEM) :=
if 0 ≤ (wr (4 * x1)) ∧ (wr (4 * x1)) < 48 then
(some (up2 M 282 ((wr (4 * x1))).toNat x2)).bind fun M1 =>
if 0 ≤ (wr ((wr (4 * x1)) + 1)) ∧ (wr ((wr (4 * x1)) + 1)) < 48 then
(some (up2 M1 282 ((wr ((wr (4 * x1)) + 1))).toNat x3)).bind fun M3 =>
if 0 ≤ (wr ((wr (4 * x1)) + 2)) ∧ (wr ((wr (4 * x1)) + 2)) < 48 then
(some (up2 M3 282 ((wr ((wr (4 * x1)) + 2))).toNat x4)).bind fun M5 =>
if 0 ≤ (wr ((wr (4 * x1)) + 3)) ∧ (wr ((wr (4 * x1)) + 3)) < 48 then
(some (up2 M5 282 ((wr ((wr (4 * x1)) + 3))).toNat x5)).bind fun M7 =>
some M7
else none
else none
else none
else none
noncomputable def mo_carrot_j49 (x1 : Int) (x2 : Int) (x3 : Int) (x4 : Int) (M : MEM) : Option (Int × MEM) :=
if (M 278 7) = 10 then
some ((-2), M)
else
(mo_layCarrot (M 278 7) x1 x2 x3 x4 M).bind fun M17 =>
(some (up2 M17 278 7 (wr ((M17 278 7) + 1)))).bind fun M18 =>
some ((wr ((M18 278 7) - 1)), M18)
noncomputable def mo_carrot (x1 : Int) (x2 : Int) (x3 : Int) (x4 : Int) (M : MEM) : Option (Int × MEM) :=
(some (up2 M 278 13 0)).bind fun M1 =>
if (mo_isDonkey x1 M1) = 0 then
some ((-1), M1)
else
if (mo_in x2 0 9999) = 0 then
some ((-1), M1)
else
if (mo_in x3 x2 9999) = 0 then
some ((-1), M1)
else
if x4 = 1 then
mo_carrot_j49 x1 x2 x3 x4 M1
else
if x4 = (-1) then
mo_carrot_j49 x1 x2 x3 x4 M1
else
some ((-1), M1)
noncomputable def mo_eat  (M : MEM) : Option (Int × MEM) :=
(some (up2 M 278 13 0)).bind fun M1 =>
if (M1 278 7) = 0 then
some ((-1), M1)
else
(some (up2 M1 278 7 (wr ((M1 278 7) - 1)))).bind fun M3 =>
some ((M3 278 7), M3)
noncomputable def mo_goSteps_j102_9 (a1 : Nat) (x2 : Int) (x3 : Int) (x4 : Int) (x5 : Int) (M : MEM) : Option ((Int × MEM) ⊕ ((MEM) ⊕ (Int × MEM))) :=
if 0 ≤ (wr (x4 + 1)) ∧ (wr (x4 + 1)) < (lenA a1) then
if 0 ≤ (wr ((wr (x4 + 3)) + (M a1 ((wr (x4 + 1))).toNat))) ∧ (wr ((wr (x4 + 3)) + (M a1 ((wr (x4 + 1))).toNat))) < (lenA a1) then
if (M a1 ((wr ((wr (x4 + 3)) + (M a1 ((wr (x4 + 1))).toNat)))).toNat) = 0 then
some (.inl ((wr (x5 + 1)), M))
else
if 0 ≤ (wr ((wr (x4 + 3)) + (M a1 ((wr (x4 + 1))).toNat))) ∧ (wr ((wr (x4 + 3)) + (M a1 ((wr (x4 + 1))).toNat))) < (lenA a1) then
if 0 ≤ (wr ((wr (x4 + 3)) + (M a1 ((wr (x4 + 1))).toNat))) ∧ (wr ((wr (x4 + 3)) + (M a1 ((wr (x4 + 1))).toNat))) < (lenA a1) then
(some (up2 M a1 ((wr ((wr (x4 + 3)) + (M a1 ((wr (x4 + 1))).toNat)))).toNat (wr ((M a1 ((wr ((wr (x4 + 3)) + (M a1 ((wr (x4 + 1))).toNat)))).toNat) - 1)))).bind fun M26 =>
if 0 ≤ x4 ∧ x4 < (lenA a1) then
if 0 ≤ x4 ∧ x4 < (lenA a1) then
(some (up2 M26 a1 (x4).toNat (max 0 (wr ((M26 a1 (x4).toNat) - 2))))).bind fun M29 =>
(some (up2 M29 278 26 (ish i_or (M29 278 26) (ish i_shl 1 x2)))).bind fun M31 =>
if x2 = (M31 278 29) then
if 0 ≤ (wr (x4 + 1)) ∧ (wr (x4 + 1)) < (lenA a1) then
(some (up2 M31 278 28 (M31 a1 ((wr (x4 + 1))).toNat))).bind fun M34 =>
some (.inr (.inl M34))
else none
else
some (.inr (.inl M31))
else none
else none
else none
else none
else none
else none
noncomputable def mo_goSteps_b9 (a1 : Nat) (x2 : Int) (x3 : Int) (x4 : Int) (x5 : Int) (M : MEM) : Option ((Int × MEM) ⊕ ((MEM) ⊕ (Int × MEM))) :=
if x3 ≤ x5 then
some (.inr (.inr (x5, M)))
else
if 0 ≤ (wr (x4 + 1)) ∧ (wr (x4 + 1)) < (lenA a1) then
if 0 ≤ x2 ∧ x2 < 3 then
if (M 280 (x2).toNat) = 0 then none else
if 0 ≤ (wr (x4 + 1)) ∧ (wr (x4 + 1)) < (lenA a1) then
(some (up2 M a1 ((wr (x4 + 1))).toNat (Int.tmod (wr ((M a1 ((wr (x4 + 1))).toNat) + 1)) (M 280 (x2).toNat)))).bind fun M5 =>
if 0 ≤ (wr (x4 + 1)) ∧ (wr (x4 + 1)) < (lenA a1) then
if (M5 a1 ((wr (x4 + 1))).toNat) = 0 then
if 0 ≤ (wr (x4 + 2)) ∧ (wr (x4 + 2)) < (lenA a1) then
if 0 ≤ (165 : Int) ∧ (165 : Int) < (lenA a1) then
if 0 ≤ (wr ((wr (x4 + 15)) + (Int.tmod (M5 a1 ((wr (x4 + 2))).toNat) 40))) ∧ (wr ((wr (x4 + 15)) + (Int.tmod (M5 a1 ((wr (x4 + 2))).toNat) 40))) < (lenA a1) then
(some (up2 M5 a1 ((wr ((wr (x4 + 15)) + (Int.tmod (M5 a1 ((wr (x4 + 2))).toNat) 40)))).toNat (M5 a1 ((165 : Int)).toNat))).bind fun M11 =>
if 0 ≤ (wr (x4 + 2)) ∧ (wr (x4 + 2)) < (lenA a1) then
if 0 ≤ (wr (x4 + 2)) ∧ (wr (x4 + 2)) < (lenA a1) then
(some (up2 M11 a1 ((wr (x4 + 2))).toNat (wr ((M11 a1 ((wr (x4 + 2))).toNat) + 1)))).bind fun M14 =>
if 0 ≤ x4 ∧ x4 < (lenA a1) then
if 0 ≤ x4 ∧ x4 < (lenA a1) then
(some (up2 M14 a1 (x4).toNat (min 9 (wr ((M14 a1 (x4).toNat) + 1))))).bind fun M17 =>
if 0 ≤ x2 ∧ x2 < 3 then
if 0 ≤ x2 ∧ x2 < 3 then
(some (up2 M17 287 (x2).toNat (wr ((M17 287 (x2).toNat) + 1)))).bind fun M20 =>
mo_goSteps_j102_9 a1 x2 x3 x4 x5 M20
else none
else none
else none
else none
else none
else none
else none
else none
else none
else
mo_goSteps_j102_9 a1 x2 x3 x4 x5 M5
else none
else none
else none
else none
noncomputable def mo_goSteps (a1 : Nat) (x2 : Int) (x3 : Int) (M : MEM) : Option (MEM) :=
(iter (fun s => mo_goSteps_b9 a1 x2 x3 (wr (55 * x2)) s.1 s.2) FU (0, M)).bind (Sum.elim (fun r => some r) (fun w35 =>
some w35.2))
noncomputable def mo_goMinute_j55_17 (a1 : Nat) (x2 : Int) (x3 : Int) (M : MEM) : Option ((Int × MEM) ⊕ (Int × MEM)) :=
(mo_goSteps a1 x2 x3 M).bind fun M14 =>
if 0 ≤ x2 ∧ x2 < 3 then
(some (up2 M14 278 24 (wr ((M14 278 24) + (M14 287 (x2).toNat))))).bind fun M16 =>
some (.inl ((wr (x2 + 1)), M16))
else none
noncomputable def mo_goMinute_b17 (a1 : Nat) (x2 : Int) (M : MEM) : Option ((Int × MEM) ⊕ (Int × MEM)) :=
if (M 278 1) ≤ x2 then
some (.inr (x2, M))
else
if 0 ≤ x2 ∧ x2 < 3 then
(some (up2 M 287 (x2).toNat 0)).bind fun M5 =>
(mo_pace a1 x2 M5).bind fun p8 =>
if p8.1 = 0 then
(some (up2 p8.2 278 27 (ish i_or (p8.2 278 27) (ish i_shl 1 x2)))).bind fun M12 =>
mo_goMinute_j55_17 a1 x2 p8.1 M12
else
mo_goMinute_j55_17 a1 x2 p8.1 p8.2
else none
noncomputable def mo_goMinute (a1 : Nat) (M : MEM) : Option (MEM) :=
(some (up2 M 278 24 0)).bind fun M1 =>
(some (up2 M1 278 26 0)).bind fun M2 =>
(some (up2 M2 278 27 0)).bind fun M3 =>
(iter (fun s => mo_goMinute_b17 a1 s.1 s.2) FU (0, M3)).bind fun w17 =>
if 0 ≤ (165 : Int) ∧ (165 : Int) < (lenA a1) then
if 0 ≤ (165 : Int) ∧ (165 : Int) < (lenA a1) then
(some (up2 w17.2 a1 ((165 : Int)).toNat (wr ((w17.2 a1 ((165 : Int)).toNat) + 1)))).bind fun M19 =>
some M19
else none
else none
noncomputable def mo_layAll_b2 (a1 : Nat) (x2 : Int) (x3 : Int) (M : MEM) : Option ((Int × MEM) ⊕ (Int × MEM)) :=
if 166 ≤ x3 then
some (.inr (x3, M))
else
if 0 ≤ x3 ∧ x3 < 166 then
if 0 ≤ (wr (x2 + x3)) ∧ (wr (x2 + x3)) < (lenA a1) then
(some (up2 M a1 ((wr (x2 + x3))).toNat (M 279 (x3).toNat))).bind fun M3 =>
some (.inl ((wr (x3 + 1)), M3))
else none
else none
noncomputable def mo_layAll_b39 (a1 : Nat) (x2 : Int) (x3 : Int) (M : MEM) : Option ((Int × MEM) ⊕ (Int × MEM)) :=
if 40 ≤ x3 then
some (.inr (x3, M))
else
if 0 ≤ x3 ∧ x3 < 48 then
if 0 ≤ (wr ((wr ((wr (x2 + 166)) + 1)) + x3)) ∧ (wr ((wr ((wr (x2 + 166)) + 1)) + x3)) < (lenA a1) then
(some (up2 M a1 ((wr ((wr ((wr (x2 + 166)) + 1)) + x3))).toNat (M 282 (x3).toNat))).bind fun M10 =>
some (.inl ((wr (x3 + 1)), M10))
else none
else none
noncomputable def mo_layAll (a1 : Nat) (x2 : Int) (M : MEM) : Option (MEM) :=
(iter (fun s => mo_layAll_b2 a1 x2 s.1 s.2) FU (0, M)).bind fun w5 =>
if 0 ≤ (wr (x2 + 166)) ∧ (wr (x2 + 166)) < (lenA a1) then
(some (up2 w5.2 a1 ((wr (x2 + 166))).toNat (w5.2 278 7))).bind fun M6 =>
(iter (fun s => mo_layAll_b39 a1 x2 s.1 s.2) FU (0, M6)).bind fun w12 =>
some w12.2
else none
noncomputable def mo_layAside_j25 (s1 : Int) (s2 : Int) (M : MEM) : Option (MEM) :=
if 0 ≤ s1 ∧ s1 < 208 then
(some (up2 M 289 (s1).toNat s2)).bind fun M4 =>
some M4
else none
noncomputable def mo_layAside (x1 : Int) (M : MEM) : Option (MEM) :=
(mo_layAll 289 0 M).bind fun M2 =>
if x1 = 0 then
mo_layAside_j25 207 0 M2
else
mo_layAside_j25 207 1 M2
noncomputable def mo_remember_b15 (x1 : Int) (x2 : Int) (M : MEM) : Option ((Int × MEM) ⊕ (Int × MEM)) :=
if (wr (x1 * 9)) ≤ x2 then
some (.inr (x2, M))
else
if 0 ≤ (wr (x2 + x1)) ∧ (wr (x2 + x1)) < 2080 then
if 0 ≤ x2 ∧ x2 < 2080 then
(some (up2 M 288 (x2).toNat (M 288 ((wr (x2 + x1))).toNat))).bind fun M4 =>
some (.inl ((wr (x2 + 1)), M4))
else none
else none
noncomputable def mo_remember_b55 (x1 : Int) (x2 : Int) (M : MEM) : Option ((Int × MEM) ⊕ (Int × MEM)) :=
if x1 ≤ x2 then
some (.inr (x2, M))
else
if 0 ≤ x2 ∧ x2 < 208 then
if 0 ≤ (wr ((wr (x1 * (M 278 31))) + x2)) ∧ (wr ((wr (x1 * (M 278 31))) + x2)) < 2080 then
(some (up2 M 288 ((wr ((wr (x1 * (M 278 31))) + x2))).toNat (M 289 (x2).toNat))).bind fun M10 =>
some (.inl ((wr (x2 + 1)), M10))
else none
else none
noncomputable def mo_remember_j53 (x1 : Int) (M : MEM) : Option (MEM) :=
(iter (fun s => mo_remember_b55 x1 s.1 s.2) FU (0, M)).bind fun w12 =>
(some (up2 w12.2 278 31 (wr ((w12.2 278 31) + 1)))).bind fun M13 =>
some M13
noncomputable def mo_remember  (M : MEM) : Option (MEM) :=
if (M 278 31) = 10 then
(iter (fun s => mo_remember_b15 208 s.1 s.2) FU (0, M)).bind fun w6 =>
(some (up2 w6.2 278 31 (wr ((w6.2 278 31) - 1)))).bind fun M7 =>
mo_remember_j53 208 M7
else
mo_remember_j53 208 M
noncomputable def mo_tell (x1 : Int) (M : MEM) : Option (MEM) :=
if 0 ≤ (M 278 12) ∧ (M 278 12) < 16 then
(some (up2 M 284 ((M 278 12)).toNat x1)).bind fun M1 =>
(some (up2 M1 278 12 (wr ((M1 278 12) + 1)))).bind fun M3 =>
some M3
else none
noncomputable def mo_minute  (M : MEM) : Option (Int × MEM) :=
(some (up2 M 278 13 0)).bind fun M1 =>
(mo_layAside 0 M1).bind fun M3 =>
(mo_remember M3).bind fun M5 =>
(mo_goMinute 279 M5).bind fun M7 =>
(some (up2 M7 278 12 0)).bind fun M8 =>
(mo_tell (M8 278 26) M8).bind fun M10 =>
(mo_tell (M10 278 27) M10).bind fun M12 =>
some ((M12 278 24), M12)
noncomputable def ji_bitCount (x0 : Int) : Int :=
(ish i_and (wr ((wr ((ish i_and (wr ((wr ((ish i_and (wr (x0 - (ish i_and (ish i_ushr x0 1) (1431655765 - 0)))) (858993459 - 0)) + (ish i_and (ish i_ushr (wr (x0 - (ish i_and (ish i_ushr x0 1) (1431655765 - 0)))) 2) (858993459 - 0)))) + (ish i_ushr (wr ((ish i_and (wr (x0 - (ish i_and (ish i_ushr x0 1) (1431655765 - 0)))) (858993459 - 0)) + (ish i_and (ish i_ushr (wr (x0 - (ish i_and (ish i_ushr x0 1) (1431655765 - 0)))) 2) (858993459 - 0)))) 4))) (252645135 - 0)) + (ish i_ushr (ish i_and (wr ((wr ((ish i_and (wr (x0 - (ish i_and (ish i_ushr x0 1) (1431655765 - 0)))) (858993459 - 0)) + (ish i_and (ish i_ushr (wr (x0 - (ish i_and (ish i_ushr x0 1) (1431655765 - 0)))) 2) (858993459 - 0)))) + (ish i_ushr (wr ((ish i_and (wr (x0 - (ish i_and (ish i_ushr x0 1) (1431655765 - 0)))) (858993459 - 0)) + (ish i_and (ish i_ushr (wr (x0 - (ish i_and (ish i_ushr x0 1) (1431655765 - 0)))) 2) (858993459 - 0)))) 4))) (252645135 - 0)) 8))) + (ish i_ushr (wr ((ish i_and (wr ((wr ((ish i_and (wr (x0 - (ish i_and (ish i_ushr x0 1) (1431655765 - 0)))) (858993459 - 0)) + (ish i_and (ish i_ushr (wr (x0 - (ish i_and (ish i_ushr x0 1) (1431655765 - 0)))) 2) (858993459 - 0)))) + (ish i_ushr (wr ((ish i_and (wr (x0 - (ish i_and (ish i_ushr x0 1) (1431655765 - 0)))) (858993459 - 0)) + (ish i_and (ish i_ushr (wr (x0 - (ish i_and (ish i_ushr x0 1) (1431655765 - 0)))) 2) (858993459 - 0)))) 4))) (252645135 - 0)) + (ish i_ushr (ish i_and (wr ((wr ((ish i_and (wr (x0 - (ish i_and (ish i_ushr x0 1) (1431655765 - 0)))) (858993459 - 0)) + (ish i_and (ish i_ushr (wr (x0 - (ish i_and (ish i_ushr x0 1) (1431655765 - 0)))) 2) (858993459 - 0)))) + (ish i_ushr (wr ((ish i_and (wr (x0 - (ish i_and (ish i_ushr x0 1) (1431655765 - 0)))) (858993459 - 0)) + (ish i_and (ish i_ushr (wr (x0 - (ish i_and (ish i_ushr x0 1) (1431655765 - 0)))) 2) (858993459 - 0)))) 4))) (252645135 - 0)) 8))) 16))) 63)
noncomputable def mo_minutes_b38 (x1 : Int) (x2 : Int) (x3 : Int) (x4 : Int) (M : MEM) : Option ((Int × MEM) ⊕ (Int × MEM)) :=
if 3 ≤ x4 then
some (.inr (x4, M))
else
if 0 ≤ x4 ∧ x4 < 3 then
(some (up2 M 290 (x4).toNat 0)).bind fun M8 =>
some (.inl ((wr (x4 + 1)), M8))
else none
noncomputable def mo_minutes_b95 (x1 : Int) (x2 : Int) (x3 : Int) (x4 : Int) (x5 : Int) (M : MEM) : Option ((Int × MEM) ⊕ (Int × MEM)) :=
if (M 278 1) ≤ x5 then
some (.inr (x5, M))
else
if 0 ≤ x5 ∧ x5 < 3 then
if 0 ≤ x5 ∧ x5 < 3 then
if 0 ≤ x5 ∧ x5 < 3 then
(some (up2 M 290 (x5).toNat (wr ((M 290 (x5).toNat) + (M 287 (x5).toNat))))).bind fun M20 =>
some (.inl ((wr (x5 + 1)), M20))
else none
else none
else none
noncomputable def mo_minutes_b61 (x1 : Int) (x2 : Int) (x3 : Int) (x4 : Int) (M : MEM) : Option ((Int × Int × Int × MEM) ⊕ (Int × Int × Int × MEM)) :=
if x1 ≤ x4 then
some (.inr (x2, x3, x4, M))
else
(mo_goMinute 279 M).bind fun M13 =>
(iter (fun s => mo_minutes_b95 x1 (wr (x2 + (M13 278 24))) (wr (x3 + (ji_bitCount (M13 278 26)))) x4 s.1 s.2) FU (0, M13)).bind fun w22 =>
some (.inl ((wr (x2 + (M13 278 24))), (wr (x3 + (ji_bitCount (M13 278 26)))), (wr (x4 + 1)), w22.2))
noncomputable def mo_minutes_b146 (x2 : Int) (x4 : Int) (M : MEM) : Option ((Int × MEM) ⊕ (Int × MEM)) :=
if (M 278 1) ≤ x4 then
some (.inr (x4, M))
else
if 0 ≤ x4 ∧ x4 < 3 then
(mo_tell (M 290 (x4).toNat) M).bind fun M30 =>
some (.inl ((wr (x4 + 1)), M30))
else none
noncomputable def mo_minutes_j31 (x1 : Int) (M : MEM) : Option (Int × MEM) :=
(iter (fun s => mo_minutes_b38 x1 0 0 s.1 s.2) FU (0, M)).bind fun w10 =>
(iter (fun s => mo_minutes_b61 x1 s.1 s.2.1 s.2.2.1 s.2.2.2) FU (0, 0, 0, w10.2)).bind fun w23 =>
(some (up2 w23.2.2.2 278 12 0)).bind fun M24 =>
(mo_tell w23.2.1 M24).bind fun M26 =>
(iter (fun s => mo_minutes_b146 w23.1 s.1 s.2) FU (0, M26)).bind fun w31 =>
some (w23.1, w31.2)
noncomputable def mo_minutes (x1 : Int) (M : MEM) : Option (Int × MEM) :=
(some (up2 M 278 13 0)).bind fun M1 =>
if (mo_in x1 0 600) = 0 then
some ((-1), M1)
else
if x1 ≤ 0 then
mo_minutes_j31 x1 M1
else
(mo_layAside 0 M1).bind fun M33 =>
(mo_remember M33).bind fun M35 =>
mo_minutes_j31 x1 M35
noncomputable def mo_act_b80 (x2 : Int) (x5 : Int) (M : MEM) : Option ((Int × MEM) ⊕ (Int × MEM)) :=
if x2 ≤ x5 then
some (.inr (x5, M))
else
(mo_goMinute 279 M).bind fun M16 =>
(some (up2 M16 278 35 (wr ((M16 278 35) + (M16 278 24))))).bind fun M17 =>
some (.inl ((wr (x5 + 1)), M17))
noncomputable def mo_act (x1 : Int) (M : MEM) : Option (Int × MEM) :=
if 0 ≤ (wr (x1 + 1)) ∧ (wr (x1 + 1)) < 320 then
if 0 ≤ (wr (x1 + 2)) ∧ (wr (x1 + 2)) < 320 then
if 0 ≤ (wr (x1 + 3)) ∧ (wr (x1 + 3)) < 320 then
if 0 ≤ x1 ∧ x1 < 320 then
if (M 291 (x1).toNat) = 99 then
if (M 291 ((wr (x1 + 2))).toNat) ≤ 0 then
some (0, M)
else
(mo_carrot (M 291 ((wr (x1 + 1))).toNat) (M 279 165) (wr ((wr ((M 279 165) + (M 291 ((wr (x1 + 2))).toNat))) - 1)) (M 291 ((wr (x1 + 3))).toNat) M).bind fun p8 =>
if p8.1 < 0 then
some (0, p8.2)
else
some (1, p8.2)
else
if (M 291 (x1).toNat) = 109 then
if (M 291 ((wr (x1 + 1))).toNat) ≤ 600 then
(iter (fun s => mo_act_b80 (M 291 ((wr (x1 + 1))).toNat) s.1 s.2) FU (0, M)).bind fun w18 =>
some (1, w18.2)
else
some (0, M)
else
if (M 291 (x1).toNat) = 115 then
(mo_sow (M 291 ((wr (x1 + 1))).toNat) (M 291 ((wr (x1 + 3))).toNat) (M 291 ((wr (x1 + 2))).toNat) M).bind fun p21 =>
if p21.1 < 0 then
some (0, p21.2)
else
some (1, p21.2)
else
(mo_set (M 291 ((wr (x1 + 1))).toNat) 0 (M 291 ((wr (x1 + 2))).toNat) M).bind fun p26 =>
if p26.1 < 0 then
some (0, p26.2)
else
some (1, p26.2)
else none
else none
else none
else none
noncomputable def mo_readAct_j148 (x1 : Int) (M : MEM) : Option (MEM) :=
(some (up2 M 278 17 (wr ((M 278 17) + 1)))).bind fun M34 =>
(mo_number 2 M34).bind fun p36 =>
if 0 ≤ (wr (x1 + 2)) ∧ (wr (x1 + 2)) < 320 then
(some (up2 p36.2 291 ((wr (x1 + 2))).toNat p36.1)).bind fun M39 =>
some M39
else none
noncomputable def mo_readAct_j114 (x1 : Int) (s1 : Int) (s2 : Int) (M : MEM) : Option (MEM) :=
if 0 ≤ s1 ∧ s1 < 320 then
(some (up2 M 291 (s1).toNat s2)).bind fun M28 =>
if (mo_fine M28) = 0 then
mo_readAct_j148 x1 M28
else
(mo_here M28).bind fun r42 =>
if r42 = 43 then
mo_readAct_j148 x1 M28
else
(mo_here M28).bind fun r47 =>
if r47 = 45 then
mo_readAct_j148 x1 M28
else
(mo_fault (M28 278 17) M28).bind fun M52 =>
mo_readAct_j148 x1 M52
else none
noncomputable def mo_readAct_j191 (x1 : Int) (M : MEM) : Option (MEM) :=
(mo_need 61 M).bind fun M61 =>
(mo_number 1 M61).bind fun p63 =>
if 0 ≤ (wr (x1 + 2)) ∧ (wr (x1 + 2)) < 320 then
(some (up2 p63.2 291 ((wr (x1 + 2))).toNat p63.1)).bind fun M66 =>
some M66
else none
noncomputable def mo_readAct_j37 (x1 : Int) (x2 : Int) (M : MEM) : Option (MEM) :=
(some (up2 M 278 17 (wr ((M 278 17) + 1)))).bind fun M6 =>
if 0 ≤ x1 ∧ x1 < 320 then
(some (up2 M6 291 (x1).toNat x2)).bind fun M7 =>
if x2 = 109 then
(mo_number 3 M7).bind fun p11 =>
if 0 ≤ (wr (x1 + 1)) ∧ (wr (x1 + 1)) < 320 then
(some (up2 p11.2 291 ((wr (x1 + 1))).toNat p11.1)).bind fun M14 =>
some M14
else none
else
(mo_number 1 M7).bind fun p17 =>
if 0 ≤ (wr (x1 + 1)) ∧ (wr (x1 + 1)) < 320 then
(some (up2 p17.2 291 ((wr (x1 + 1))).toNat p17.1)).bind fun M20 =>
if x2 = 99 then
(mo_here M20).bind fun r24 =>
if r24 = 45 then
mo_readAct_j114 x1 (wr (x1 + 3)) (-1) M20
else
mo_readAct_j114 x1 (wr (x1 + 3)) 1 M20
else
if x2 = 115 then
(mo_number 2 M20).bind fun p55 =>
if 0 ≤ (wr (x1 + 3)) ∧ (wr (x1 + 3)) < 320 then
(some (up2 p55.2 291 ((wr (x1 + 3))).toNat p55.1)).bind fun M58 =>
mo_readAct_j191 x1 M58
else none
else
mo_readAct_j191 x1 M20
else none
else none
noncomputable def mo_readAct (x1 : Int) (M : MEM) : Option (MEM) :=
(mo_here M).bind fun r2 =>
if r2 = 109 then
mo_readAct_j37 x1 r2 M
else
if r2 = 99 then
mo_readAct_j37 x1 r2 M
else
if r2 = 115 then
mo_readAct_j37 x1 r2 M
else
if r2 = 104 then
mo_readAct_j37 x1 r2 M
else
(mo_fault (M 278 17) M).bind fun M72 =>
mo_readAct_j37 x1 r2 M72
noncomputable def mo_day_b39  (x1 : Int) (x2 : Int) (M : MEM) : Option ((Int × Int × MEM) ⊕ (Int × Int × MEM)) :=
if x2 = 0 then
some (.inr (x1, x2, M))
else
if (mo_fine M) = 0 then
some (.inr (x1, x2, M))
else
(mo_readAct (wr (4 * x1)) M).bind fun M12 =>
(mo_passes 59 M12).bind fun p14 =>
some (.inl ((wr (x1 + 1)), p14.1, p14.2))
noncomputable def mo_day_b115 (x1 : Int) (x3 : Int) (M : MEM) : Option ((Int × MEM) ⊕ (Int × MEM)) :=
if x1 ≤ x3 then
some (.inr (x3, M))
else
(mo_act (wr (4 * x3)) M).bind fun p28 =>
if p28.1 = 0 then
some (.inr (x3, p28.2))
else
some (.inl ((wr (x3 + 1)), p28.2))
noncomputable def mo_day_j160 (x3 : Int) (s1 : Int) (M : MEM) : Option (Int × MEM) :=
(mo_tell s1 M).bind fun M37 =>
(mo_tell (M37 278 35) M37).bind fun M39 =>
some (x3, M39)
noncomputable def mo_day_j144 (x1 : Int) (x3 : Int) (M : MEM) : Option (Int × MEM) :=
(some (up2 M 278 12 0)).bind fun M34 =>
if x1 ≤ x3 then
mo_day_j160 x3 0 M34
else
mo_day_j160 x3 1 M34
noncomputable def mo_day_j136 (x1 : Int) (x3 : Int) (M : MEM) : Option (Int × MEM) :=
if x3 ≤ 0 then
mo_day_j144 x1 x3 M
else
(mo_remember M).bind fun M41 =>
mo_day_j144 x1 x3 M41
noncomputable def mo_day_j89 (x1 : Int) (M : MEM) : Option (Int × MEM) :=
if (mo_fine M) = 0 then
some ((wr ((-1) - (M 278 18))), M)
else
(mo_layAside 1 M).bind fun M24 =>
(some (up2 M24 278 35 0)).bind fun M25 =>
(iter (fun s => mo_day_b115 x1 s.1 s.2) FU (0, M25)).bind fun w32 =>
mo_day_j136 x1 w32.1 w32.2
noncomputable def mo_day_j70 (x1 : Int) (M : MEM) : Option (Int × MEM) :=
if (M 278 15) ≤ (M 278 17) then
mo_day_j89 x1 M
else
(mo_fault (M 278 17) M).bind fun M43 =>
mo_day_j89 x1 M43
noncomputable def mo_day_j38 (x1 : Int) (s0 : Int) (M : MEM) : Option (Int × MEM) :=
(iter (fun s => mo_day_b39  s.1 s.2.1 s.2.2) FU (x1, s0, M)).bind fun w17 =>
mo_day_j70 w17.1 w17.2.2
noncomputable def mo_day  (M : MEM) : Option (Int × MEM) :=
(some (up2 M 278 13 0)).bind fun M1 =>
(mo_begin 283 (M1 278 10) 60 M1).bind fun M3 =>
(some (up2 M3 278 10 0)).bind fun M4 =>
if (M4 278 15) ≤ 0 then
mo_day_j38 0 0 M4
else
mo_day_j38 0 1 M4
noncomputable def mo_takeCarrots_b13 (a1 : Nat) (x2 : Int) (x3 : Int) (M : MEM) : Option ((Int × MEM) ⊕ (Int × MEM)) :=
if 40 ≤ x3 then
some (.inr (x3, M))
else
if 0 ≤ (wr ((wr ((wr (x2 + 166)) + 1)) + x3)) ∧ (wr ((wr ((wr (x2 + 166)) + 1)) + x3)) < (lenA a1) then
if 0 ≤ x3 ∧ x3 < 48 then
(some (up2 M 282 (x3).toNat (M a1 ((wr ((wr ((wr (x2 + 166)) + 1)) + x3))).toNat))).bind fun M5 =>
some (.inl ((wr (x3 + 1)), M5))
else none
else none
noncomputable def mo_takeCarrots (a1 : Nat) (x2 : Int) (M : MEM) : Option (MEM) :=
if 0 ≤ (wr (x2 + 166)) ∧ (wr (x2 + 166)) < (lenA a1) then
(some (up2 M 278 7 (M a1 ((wr (x2 + 166))).toNat))).bind fun M2 =>
(iter (fun s => mo_takeCarrots_b13 a1 x2 s.1 s.2) FU (0, M2)).bind fun w7 =>
some w7.2
else none
noncomputable def mo_undo_b35 (x1 : Int) (x2 : Int) (M : MEM) : Option ((Int × MEM) ⊕ (Int × MEM)) :=
if 166 ≤ x2 then
some (.inr (x2, M))
else
if 0 ≤ (wr (x1 + x2)) ∧ (wr (x1 + x2)) < 2080 then
if 0 ≤ x2 ∧ x2 < 166 then
(some (up2 M 279 (x2).toNat (M 288 ((wr (x1 + x2))).toNat))).bind fun M6 =>
some (.inl ((wr (x2 + 1)), M6))
else none
else none
noncomputable def mo_undo  (M : MEM) : Option (Int × MEM) :=
(some (up2 M 278 13 0)).bind fun M1 =>
if (M1 278 31) = 0 then
some ((-1), M1)
else
(some (up2 M1 278 31 (wr ((M1 278 31) - 1)))).bind fun M3 =>
(iter (fun s => mo_undo_b35 (wr (208 * (M3 278 31))) s.1 s.2) FU (0, M3)).bind fun w8 =>
if 0 ≤ (wr ((wr (208 * (M3 278 31))) + 207)) ∧ (wr ((wr (208 * (M3 278 31))) + 207)) < 2080 then
if (w8.2 288 ((wr ((wr (208 * (M3 278 31))) + 207))).toNat) = 1 then
(mo_takeCarrots 288 (wr (208 * (M3 278 31))) w8.2).bind fun M12 =>
some ((M12 278 31), M12)
else
some ((w8.2 278 31), w8.2)
else none
noncomputable def mo_strokes (x1 : Int) (M : MEM) : Option (Int) :=
if 0 ≤ (wr ((wr (55 * x1)) + 2)) ∧ (wr ((wr (55 * x1)) + 2)) < 166 then
some (M 279 ((wr ((wr (55 * x1)) + 2))).toNat)
else none
noncomputable def mo_line (x1 : Int) (x2 : Int) (M : MEM) : Option (Int) :=
(mo_strokes x1 M).bind fun r2 =>
if x2 ≤ r2 then
(mo_strokes x1 M).bind fun r7 =>
if (wr (r7 - 40)) < x2 then
if 0 ≤ (wr ((wr ((wr (55 * x1)) + 15)) + (Int.tmod (wr (x2 - 1)) 40))) ∧ (wr ((wr ((wr (55 * x1)) + 15)) + (Int.tmod (wr (x2 - 1)) 40))) < 166 then
some (M 279 ((wr ((wr ((wr (55 * x1)) + 15)) + (Int.tmod (wr (x2 - 1)) 40)))).toNat)
else none
else
some (-3)
else
some (-2)
noncomputable def mo_struck (x1 : Int) (x2 : Int) (M : MEM) : Option (Int × MEM) :=
(some (up2 M 278 13 0)).bind fun M1 =>
if (mo_isDonkey x1 M1) = 0 then
some ((-1), M1)
else
if x2 < 1 then
some ((-1), M1)
else
(mo_line x1 x2 M1).bind fun r8 =>
some (r8, M1)
noncomputable def mo_took (x1 : Int) (x2 : Int) (M : MEM) : Option (Int × MEM) :=
(some (up2 M 278 13 0)).bind fun M1 =>
if (mo_isDonkey x1 M1) = 0 then
some ((-1), M1)
else
if 1 ≤ x2 then
(mo_line x1 x2 M1).bind fun r8 =>
if 0 ≤ r8 then
(mo_strokes x1 M1).bind fun r13 =>
if x2 = r13 then
some ((-2), M1)
else
(mo_line x1 (wr (x2 + 1)) M1).bind fun r18 =>
(mo_line x1 x2 M1).bind fun r22 =>
some ((wr (r18 - r22)), M1)
else
(mo_line x1 x2 M1).bind fun r26 =>
some (r26, M1)
else
some ((-1), M1)
noncomputable def mo_longest_j120_35 (x1 : Int) (x2 : Int) (x3 : Int) (x4 : Int) (M : MEM) : Option ((Int × Int × Int) ⊕ (Int × Int × Int)) :=
some (.inl (x2, x3, (wr (x4 + 1))))
noncomputable def mo_longest_j117_35 (x1 : Int) (x2 : Int) (x4 : Int) (M : MEM) : Option ((Int × Int × Int) ⊕ (Int × Int × Int)) :=
mo_longest_j120_35 x1 x2 x4 x4 M
noncomputable def mo_longest_j92_35 (x1 : Int) (x2 : Int) (x3 : Int) (x4 : Int) (x5 : Int) (M : MEM) : Option ((Int × Int × Int) ⊕ (Int × Int × Int)) :=
if x3 = (-1) then
mo_longest_j117_35 x1 x2 x4 M
else
(mo_line x1 (wr (x3 + 1)) M).bind fun r26 =>
(mo_line x1 x3 M).bind fun r30 =>
if (wr (r26 - r30)) ≤ x5 then
mo_longest_j120_35 x1 x2 x3 x4 M
else
mo_longest_j117_35 x1 x2 x4 M
noncomputable def mo_longest_j89_35 (x1 : Int) (x3 : Int) (x4 : Int) (x5 : Int) (M : MEM) : Option ((Int × Int × Int) ⊕ (Int × Int × Int)) :=
mo_longest_j92_35 x1 x4 x3 x4 x5 M
noncomputable def mo_longest_b35 (x1 : Int) (x2 : Int) (x3 : Int) (x4 : Int) (M : MEM) : Option ((Int × Int × Int) ⊕ (Int × Int × Int)) :=
(mo_strokes x1 M).bind fun r11 =>
if r11 ≤ x4 then
some (.inr (x2, x3, x4))
else
(mo_line x1 (wr (x4 + 1)) M).bind fun r16 =>
(mo_line x1 x4 M).bind fun r20 =>
if x2 = (-1) then
mo_longest_j89_35 x1 x3 x4 (wr (r16 - r20)) M
else
(mo_line x1 (wr (x2 + 1)) M).bind fun r35 =>
(mo_line x1 x2 M).bind fun r39 =>
if (wr (r16 - r20)) ≤ (wr (r35 - r39)) then
mo_longest_j92_35 x1 x2 x3 x4 (wr (r16 - r20)) M
else
mo_longest_j89_35 x1 x3 x4 (wr (r16 - r20)) M
noncomputable def mo_longest (x1 : Int) (M : MEM) : Option (Int × MEM) :=
(some (up2 M 278 13 0)).bind fun M1 =>
if (mo_isDonkey x1 M1) = 0 then
some ((-1), M1)
else
(mo_strokes x1 M1).bind fun r7 =>
(iter (fun s => mo_longest_b35 x1 s.1 s.2.1 s.2.2 M1) FU ((-1), (-1), (max 1 (wr ((wr (r7 - 40)) + 1))))).bind fun w43 =>
if w43.1 = (-1) then
some ((-2), M1)
else
(some (up2 M1 278 12 0)).bind fun M45 =>
(mo_line x1 (wr (w43.1 + 1)) M45).bind fun r47 =>
(mo_line x1 w43.1 M45).bind fun r51 =>
(mo_tell (wr (r47 - r51)) M45).bind fun M55 =>
(mo_tell w43.2.1 M55).bind fun M57 =>
(mo_line x1 (wr (w43.2.1 + 1)) M57).bind fun r59 =>
(mo_line x1 w43.2.1 M57).bind fun r63 =>
(mo_tell (wr (r59 - r63)) M57).bind fun M67 =>
some (w43.1, M67)
noncomputable def mo_beginThen_b2  (x1 : Int) (M : MEM) : Option ((Int × MEM) ⊕ (Int × MEM)) :=
if 166 ≤ x1 then
some (.inr (x1, M))
else
if 0 ≤ x1 ∧ x1 < 166 then
if 0 ≤ x1 ∧ x1 < 166 then
(some (up2 M 292 (x1).toNat (M 279 (x1).toNat))).bind fun M3 =>
some (.inl ((wr (x1 + 1)), M3))
else none
else none
noncomputable def mo_beginThen  (M : MEM) : Option (MEM) :=
(iter (fun s => mo_beginThen_b2  s.1 s.2) FU (0, M)).bind fun w5 =>
some w5.2
noncomputable def mo_ahead_b32 (x1 : Int) (x2 : Int) (x3 : Int) (M : MEM) : Option ((Int × MEM) ⊕ (Int × MEM)) :=
if x2 ≤ x3 then
some (.inr (x3, M))
else
(mo_goMinute 292 M).bind fun M14 =>
some (.inl ((wr (x3 + 1)), M14))
noncomputable def mo_ahead (x1 : Int) (x2 : Int) (M : MEM) : Option (Int × MEM) :=
(some (up2 M 278 13 0)).bind fun M1 =>
if (mo_isDonkey x1 M1) = 0 then
some ((-1), M1)
else
if (mo_in x2 0 600) = 0 then
some ((-1), M1)
else
(mo_beginThen M1).bind fun M11 =>
(iter (fun s => mo_ahead_b32 x1 x2 s.1 s.2) FU (0, M11)).bind fun w15 =>
(some (up2 w15.2 278 12 0)).bind fun M16 =>
if 0 ≤ (wr ((wr (55 * x1)) + 1)) ∧ (wr ((wr (55 * x1)) + 1)) < 166 then
(mo_tell (M16 292 ((wr ((wr (55 * x1)) + 1))).toNat) M16).bind fun M19 =>
if 0 ≤ (wr (55 * x1)) ∧ (wr (55 * x1)) < 166 then
(mo_tell (M19 292 ((wr (55 * x1))).toNat) M19).bind fun M22 =>
if 0 ≤ (wr ((wr (55 * x1)) + 2)) ∧ (wr ((wr (55 * x1)) + 2)) < 166 then
(mo_strokes x1 M22).bind fun r25 =>
some ((wr ((M22 292 ((wr ((wr (55 * x1)) + 2))).toNat) - r25)), M22)
else none
else none
else none
noncomputable def mo_findTimes_b24 (x1 : Int) (x2 : Int) (x3 : Int) (M : MEM) : Option ((Int × MEM) ⊕ (Int × MEM)) :=
if 0 ≤ x1 ∧ x1 < 3 then
if (M 287 (x1).toNat) ≤ x3 then
some (.inr (x3, M))
else
if 0 ≤ (M 278 38) ∧ (M 278 38) < 2400 then
(some (up2 M 293 ((M 278 38)).toNat x2)).bind fun M7 =>
(some (up2 M7 278 38 (wr ((M7 278 38) + 1)))).bind fun M9 =>
some (.inl ((wr (x3 + 1)), M9))
else none
else none
noncomputable def mo_findTimes_b7 (x1 : Int) (x2 : Int) (M : MEM) : Option ((Int × MEM) ⊕ (Int × MEM)) :=
if 600 ≤ x2 then
some (.inr (x2, M))
else
(mo_goMinute 292 M).bind fun M4 =>
(iter (fun s => mo_findTimes_b24 x1 x2 s.1 s.2) FU (0, M4)).bind fun w10 =>
some (.inl ((wr (x2 + 1)), w10.2))
noncomputable def mo_findTimes (x1 : Int) (M : MEM) : Option (MEM) :=
(some (up2 M 278 38 0)).bind fun M1 =>
(iter (fun s => mo_findTimes_b7 x1 s.1 s.2) FU (0, M1)).bind fun w11 =>
some w11.2
noncomputable def mo_timesNow (x1 : Int) (M : MEM) : Option (MEM) :=
(mo_beginThen M).bind fun M2 =>
(mo_findTimes x1 M2).bind fun M4 =>
some M4
noncomputable def mo_when (x1 : Int) (x2 : Int) (M : MEM) : Option (Int × MEM) :=
(some (up2 M 278 13 0)).bind fun M1 =>
if (mo_isDonkey x1 M1) = 0 then
some ((-1), M1)
else
if (mo_in x2 1 60) = 0 then
some ((-1), M1)
else
(mo_timesNow x1 M1).bind fun M11 =>
if x2 ≤ (M11 278 38) then
if 0 ≤ (wr (x2 - 1)) ∧ (wr (x2 - 1)) < 2400 then
some ((wr ((M11 293 ((wr (x2 - 1))).toNat) + 1)), M11)
else none
else
some ((-2), M11)
noncomputable def mo_strikes_b32 (x1 : Int) (x2 : Int) (x3 : Int) (M : MEM) : Option ((Int) ⊕ ((Int × MEM) ⊕ (Int))) :=
if (M 278 38) < x3 then
some (.inr (.inr x3))
else
(mo_strokes x1 M).bind fun r14 =>
if (Int.tmod (wr (r14 + x3)) 12) = x2 then
(some (up2 M 278 12 0)).bind fun M18 =>
(mo_tell x3 M18).bind fun M20 =>
if 0 ≤ (wr (x3 - 1)) ∧ (wr (x3 - 1)) < 2400 then
some (.inr (.inl ((wr ((M20 293 ((wr (x3 - 1))).toNat) + 1)), M20)))
else none
else
some (.inl (wr (x3 + 1)))
noncomputable def mo_strikes (x1 : Int) (x2 : Int) (M : MEM) : Option (Int × MEM) :=
(some (up2 M 278 13 0)).bind fun M1 =>
if (mo_isDonkey x1 M1) = 0 then
some ((-1), M1)
else
if (mo_in x2 0 11) = 0 then
some ((-1), M1)
else
(mo_timesNow x1 M1).bind fun M11 =>
(iter (fun s => mo_strikes_b32 x1 x2 s M11) FU 1).bind (Sum.elim (fun r => some r) (fun w22 =>
some ((-2), M11)))
noncomputable def mo_has (x0 : Int) (x1 : Int) : Int :=
if (ish i_and (ish i_shr x0 x1) 1) = 1 then
1
else
0
noncomputable def mo_stops_j51_23 (x1 : Int) (x2 : Int) (x3 : Int) (M : MEM) : Option ((Int × Int × MEM) ⊕ (Int × Int × MEM)) :=
some (.inl (x2, (wr (x3 + 1)), M))
noncomputable def mo_stops_b23 (x1 : Int) (x2 : Int) (x3 : Int) (M : MEM) : Option ((Int × Int × MEM) ⊕ (Int × Int × MEM)) :=
if 600 < x3 then
some (.inr (x2, x3, M))
else
(mo_goMinute 292 M).bind fun M10 =>
if (mo_has (M10 278 27) x1) = 0 then
mo_stops_j51_23 x1 x3 x3 M10
else
mo_stops_j51_23 x1 x2 x3 M10
noncomputable def mo_stops (x1 : Int) (M : MEM) : Option (Int × MEM) :=
(some (up2 M 278 13 0)).bind fun M1 =>
if (mo_isDonkey x1 M1) = 0 then
some ((-1), M1)
else
(mo_beginThen M1).bind fun M7 =>
(iter (fun s => mo_stops_b23 x1 s.1 s.2.1 s.2.2) FU (0, 1, M7)).bind fun w15 =>
if w15.1 = 600 then
some ((-2), w15.2.2)
else
some (w15.1, w15.2.2)
noncomputable def mo_eats_b28 (x1 : Int) (x2 : Int) (x3 : Int) (M : MEM) : Option ((Int × MEM) ⊕ (Int × MEM)) :=
if 12 ≤ x3 then
some (.inr (x3, M))
else
if 0 ≤ x3 ∧ x3 < 12 then
(some (up2 M 294 (x3).toNat 0)).bind fun M11 =>
some (.inl ((wr (x3 + 1)), M11))
else none
noncomputable def mo_eats_j105_61 (x1 : Int) (x2 : Int) (x3 : Int) (x4 : Int) (M : MEM) : Option ((Int × Int × MEM) ⊕ (Int × Int × MEM)) :=
some (.inl (x3, (wr (x4 + 1)), M))
noncomputable def mo_eats_b61 (x1 : Int) (x2 : Int) (x3 : Int) (x4 : Int) (M : MEM) : Option ((Int × Int × MEM) ⊕ (Int × Int × MEM)) :=
if x2 ≤ x4 then
some (.inr (x3, x4, M))
else
(mo_goMinute 292 M).bind fun M19 =>
if (mo_has (M19 278 26) x1) = 0 then
mo_eats_j105_61 x1 x2 x3 x4 M19
else
if 0 ≤ (M19 278 28) ∧ (M19 278 28) < 12 then
if 0 ≤ (M19 278 28) ∧ (M19 278 28) < 12 then
(some (up2 M19 294 ((M19 278 28)).toNat (wr ((M19 294 ((M19 278 28)).toNat) + 1)))).bind fun M25 =>
mo_eats_j105_61 x1 x2 (wr (x3 + 1)) x4 M25
else none
else none
noncomputable def mo_eats_j160_125 (x3 : Int) (x4 : Int) (x5 : Int) (x6 : Int) (M : MEM) : Option ((Int × Int × Int) ⊕ (Int × Int × Int)) :=
some (.inl (x4, x5, (wr (x6 + 1))))
noncomputable def mo_eats_b125 (x3 : Int) (x4 : Int) (x5 : Int) (x6 : Int) (M : MEM) : Option ((Int × Int × Int) ⊕ (Int × Int × Int)) :=
if 12 ≤ x6 then
some (.inr (x4, x5, x6))
else
if 0 ≤ x6 ∧ x6 < 12 then
if x5 < (M 294 (x6).toNat) then
if 0 ≤ x6 ∧ x6 < 12 then
mo_eats_j160_125 x3 x6 (M 294 (x6).toNat) x6 M
else none
else
mo_eats_j160_125 x3 x4 x5 x6 M
else none
noncomputable def mo_eats (x1 : Int) (x2 : Int) (M : MEM) : Option (Int × MEM) :=
(some (up2 M 278 13 0)).bind fun M1 =>
if (mo_isDonkey x1 M1) = 0 then
some ((-1), M1)
else
if (mo_in x2 0 600) = 0 then
some ((-1), M1)
else
(iter (fun s => mo_eats_b28 x1 x2 s.1 s.2) FU (0, M1)).bind fun w13 =>
(mo_beginThen w13.2).bind fun M15 =>
(some (up2 M15 278 29 x1)).bind fun M16 =>
(iter (fun s => mo_eats_b61 x1 x2 s.1 s.2.1 s.2.2) FU (0, 0, M16)).bind fun w27 =>
(some (up2 w27.2.2 278 29 (-1))).bind fun M28 =>
(iter (fun s => mo_eats_b125 w27.1 s.1 s.2.1 s.2.2 M28) FU ((-1), 0, 0)).bind fun w33 =>
(some (up2 M28 278 12 0)).bind fun M34 =>
(mo_tell w33.1 M34).bind fun M36 =>
(mo_tell w33.2.1 M36).bind fun M38 =>
some (w27.1, M38)
noncomputable def mo_owe (x1 : Int) (x2 : Int) (x3 : Int) (x4 : Int) (x5 : Int) (M : MEM) : Option (Int × MEM) :=
(some (up2 M 278 13 0)).bind fun M1 =>
if (mo_in x1 0 5) = 0 then
some ((-1), M1)
else
if (mo_in x2 0 5) = 0 then
some ((-1), M1)
else
if x1 = x2 then
some ((-1), M1)
else
if (mo_in x3 1 99) = 0 then
some ((-1), M1)
else
if (mo_isDonkey x4 M1) = 0 then
some ((-1), M1)
else
if (mo_in x5 0 11) = 0 then
some ((-1), M1)
else
if (M1 278 41) = 10 then
some ((-2), M1)
else
if 0 ≤ (wr (5 * (M1 278 41))) ∧ (wr (5 * (M1 278 41))) < 50 then
(some (up2 M1 295 ((wr (5 * (M1 278 41)))).toNat x1)).bind fun M24 =>
if 0 ≤ (wr ((wr (5 * (M1 278 41))) + 1)) ∧ (wr ((wr (5 * (M1 278 41))) + 1)) < 50 then
(some (up2 M24 295 ((wr ((wr (5 * (M1 278 41))) + 1))).toNat x2)).bind fun M26 =>
if 0 ≤ (wr ((wr (5 * (M1 278 41))) + 2)) ∧ (wr ((wr (5 * (M1 278 41))) + 2)) < 50 then
(some (up2 M26 295 ((wr ((wr (5 * (M1 278 41))) + 2))).toNat x3)).bind fun M28 =>
if 0 ≤ (wr ((wr (5 * (M1 278 41))) + 3)) ∧ (wr ((wr (5 * (M1 278 41))) + 3)) < 50 then
(some (up2 M28 295 ((wr ((wr (5 * (M1 278 41))) + 3))).toNat x4)).bind fun M30 =>
if 0 ≤ (wr ((wr (5 * (M1 278 41))) + 4)) ∧ (wr ((wr (5 * (M1 278 41))) + 4)) < 50 then
(some (up2 M30 295 ((wr ((wr (5 * (M1 278 41))) + 4))).toNat x5)).bind fun M32 =>
(some (up2 M32 278 41 (wr ((M32 278 41) + 1)))).bind fun M34 =>
some ((wr ((M34 278 41) - 1)), M34)
else none
else none
else none
else none
else none
noncomputable def mo_tear  (M : MEM) : Option (Int × MEM) :=
(some (up2 M 278 13 0)).bind fun M1 =>
(some (up2 M1 278 41 0)).bind fun M2 =>
some ((M1 278 41), M2)
noncomputable def mo_findHours_b2 (x1 : Int) (x2 : Int) (M : MEM) : Option ((Int × MEM) ⊕ (Int × MEM)) :=
if (M 278 41) ≤ x2 then
some (.inr (x2, M))
else
if 0 ≤ x2 ∧ x2 < 10 then
(some (up2 M 296 (x2).toNat 0)).bind fun M2 =>
some (.inl ((wr (x2 + 1)), M2))
else none
noncomputable def mo_findHours_j146_67 (x1 : Int) (x2 : Int) (x3 : Int) (x4 : Int) (x5 : Int) (M : MEM) : Option ((Int × MEM) ⊕ (Int × MEM)) :=
some (.inl ((wr (x5 + 1)), M))
noncomputable def mo_findHours_j129_67 (x1 : Int) (x2 : Int) (x3 : Int) (x4 : Int) (x5 : Int) (M : MEM) : Option ((Int × MEM) ⊕ (Int × MEM)) :=
if 0 ≤ x3 ∧ x3 < 10 then
(some (up2 M 298 (x3).toNat x2)).bind fun M21 =>
if 0 ≤ x3 ∧ x3 < 10 then
if 0 ≤ x3 ∧ x3 < 10 then
(some (up2 M21 296 (x3).toNat (wr ((M21 296 (x3).toNat) + 1)))).bind fun M24 =>
mo_findHours_j146_67 x1 x2 x3 x4 x5 M24
else none
else none
else none
noncomputable def mo_findHours_b67 (x1 : Int) (x2 : Int) (x3 : Int) (x4 : Int) (x5 : Int) (M : MEM) : Option ((Int × MEM) ⊕ (Int × MEM)) :=
if 0 ≤ x4 ∧ x4 < 3 then
if (M 287 (x4).toNat) ≤ x5 then
some (.inr (x5, M))
else
if 0 ≤ (wr ((wr (55 * x4)) + 2)) ∧ (wr ((wr (55 * x4)) + 2)) < 166 then
if 0 ≤ (wr ((wr (5 * x3)) + 4)) ∧ (wr ((wr (5 * x3)) + 4)) < 50 then
if (Int.tmod (wr ((M 292 ((wr ((wr (55 * x4)) + 2))).toNat) - x5)) 12) = (M 295 ((wr ((wr (5 * x3)) + 4))).toNat) then
if 0 ≤ x3 ∧ x3 < 10 then
if (M 296 (x3).toNat) = 0 then
if 0 ≤ x3 ∧ x3 < 10 then
(some (up2 M 297 (x3).toNat x2)).bind fun M19 =>
mo_findHours_j129_67 x1 x2 x3 x4 x5 M19
else none
else
mo_findHours_j129_67 x1 x2 x3 x4 x5 M
else none
else
mo_findHours_j146_67 x1 x2 x3 x4 x5 M
else none
else none
else none
noncomputable def mo_findHours_b44 (x1 : Int) (x2 : Int) (x3 : Int) (M : MEM) : Option ((Int × MEM) ⊕ (Int × MEM)) :=
if (M 278 41) ≤ x3 then
some (.inr (x3, M))
else
if 0 ≤ (wr ((wr (5 * x3)) + 3)) ∧ (wr ((wr (5 * x3)) + 3)) < 50 then
(iter (fun s => mo_findHours_b67 x1 x2 x3 (M 295 ((wr ((wr (5 * x3)) + 3))).toNat) s.1 s.2) FU (0, M)).bind fun w26 =>
some (.inl ((wr (x3 + 1)), w26.2))
else none
noncomputable def mo_findHours_b29 (x1 : Int) (x2 : Int) (M : MEM) : Option ((Int × MEM) ⊕ (Int × MEM)) :=
if x1 ≤ x2 then
some (.inr (x2, M))
else
(mo_goMinute 292 M).bind fun M9 =>
(iter (fun s => mo_findHours_b44 x1 x2 s.1 s.2) FU (0, M9)).bind fun w27 =>
some (.inl ((wr (x2 + 1)), w27.2))
noncomputable def mo_findHours (x1 : Int) (M : MEM) : Option (MEM) :=
(iter (fun s => mo_findHours_b2 x1 s.1 s.2) FU (0, M)).bind fun w4 =>
(mo_beginThen w4.2).bind fun M6 =>
(iter (fun s => mo_findHours_b29 x1 s.1 s.2) FU (0, M6)).bind fun w28 =>
some w28.2
noncomputable def mo_isDue (x1 : Int) (x2 : Int) (M : MEM) : Option (Int) :=
if x2 = 3 then
if 0 ≤ x1 ∧ x1 < 10 then
if (M 296 (x1).toNat) = 1 then
some 1
else
some 0
else none
else
if 0 ≤ x1 ∧ x1 < 10 then
if (M 296 (x1).toNat) ≤ 0 then
some 0
else
some 1
else none
noncomputable def mo_isMore (x0 : Int) : Int :=
(mo_in x0 1 600)
noncomputable def mo_due (x1 : Int) (x2 : Int) (x3 : Int) (M : MEM) : Option (Int × MEM) :=
(some (up2 M 278 13 0)).bind fun M1 =>
if (mo_in x1 0 (wr ((M1 278 41) - 1))) = 0 then
some ((-1), M1)
else
if (mo_in x2 0 3) = 0 then
some ((-1), M1)
else
if (mo_isMore x3) = 0 then
some ((-1), M1)
else
(mo_findHours x3 M1).bind fun M15 =>
(mo_isDue x1 x2 M15).bind fun r17 =>
if r17 = 0 then
some ((-2), M15)
else
if x2 = 1 then
if 0 ≤ x1 ∧ x1 < 10 then
some ((M15 298 (x1).toNat), M15)
else none
else
if 0 ≤ x1 ∧ x1 < 10 then
some ((M15 297 (x1).toNat), M15)
else none
noncomputable def mo_frogsOf_j73_6 (x1 : Int) (x2 : Int) (x3 : Int) (x4 : Int) (x5 : Int) (M : MEM) : Option ((Int × Int) ⊕ (Int × Int)) :=
some (.inl (x4, (wr (x5 + 1))))
noncomputable def mo_frogsOf_j69_6 (x1 : Int) (x2 : Int) (x3 : Int) (x5 : Int) (s0 : Int) (s1 : Int) (s2 : Int) (M : MEM) : Option ((Int × Int) ⊕ (Int × Int)) :=
mo_frogsOf_j73_6 x1 x2 x3 (wr (s0 + (wr (s1 * s2)))) x5 M
noncomputable def mo_frogsOf_b6 (x1 : Int) (x2 : Int) (x3 : Int) (x4 : Int) (x5 : Int) (M : MEM) : Option ((Int × Int) ⊕ (Int × Int)) :=
if (M 278 41) ≤ x5 then
some (.inr (x4, x5))
else
if 0 ≤ (wr ((wr (5 * x5)) + x3)) ∧ (wr ((wr (5 * x5)) + x3)) < 50 then
if (M 295 ((wr ((wr (5 * x5)) + x3))).toNat) = x1 then
(mo_isDue x5 x2 M).bind fun r5 =>
if r5 = 0 then
mo_frogsOf_j73_6 x1 x2 x3 x4 x5 M
else
if 0 ≤ (wr ((wr (5 * x5)) + 2)) ∧ (wr ((wr (5 * x5)) + 2)) < 50 then
if x2 = 2 then
if 0 ≤ x5 ∧ x5 < 10 then
mo_frogsOf_j69_6 x1 x2 x3 x5 x4 (M 295 ((wr ((wr (5 * x5)) + 2))).toNat) (M 296 (x5).toNat) M
else none
else
mo_frogsOf_j69_6 x1 x2 x3 x5 x4 (M 295 ((wr ((wr (5 * x5)) + 2))).toNat) 1 M
else none
else
mo_frogsOf_j73_6 x1 x2 x3 x4 x5 M
else none
noncomputable def mo_frogsOf (x1 : Int) (x2 : Int) (x3 : Int) (M : MEM) : Option (Int) :=
(iter (fun s => mo_frogsOf_b6 x1 x2 x3 s.1 s.2 M) FU (0, 0)).bind fun w12 =>
some w12.1
noncomputable def mo_owes (x1 : Int) (x2 : Int) (x3 : Int) (M : MEM) : Option (Int × MEM) :=
(some (up2 M 278 13 0)).bind fun M1 =>
if (mo_in x1 0 5) = 0 then
some ((-1), M1)
else
if (mo_in x2 0 3) = 0 then
some ((-1), M1)
else
if (mo_isMore x3) = 0 then
some ((-1), M1)
else
(mo_findHours x3 M1).bind fun M15 =>
(some (up2 M15 278 12 0)).bind fun M16 =>
(mo_frogsOf x1 x2 1 M16).bind fun r18 =>
(mo_tell r18 M16).bind fun M22 =>
(mo_frogsOf x1 x2 0 M22).bind fun r24 =>
some (r24, M22)
noncomputable def mo_netOf (x1 : Int) (x2 : Int) (M : MEM) : Option (Int) :=
(mo_frogsOf x1 x2 0 M).bind fun r2 =>
(mo_frogsOf x1 x2 1 M).bind fun r6 =>
some (wr (r2 - r6))
noncomputable def mo_reading_j74_38 (x1 : Int) (x3 : Int) (x4 : Int) (M : MEM) : Option ((Int × Int × MEM) ⊕ (Int × Int × MEM)) :=
some (.inl (x3, (wr (x4 + 1)), M))
noncomputable def mo_reading_b38 (x1 : Int) (x3 : Int) (x4 : Int) (M : MEM) : Option ((Int × Int × MEM) ⊕ (Int × Int × MEM)) :=
if 4 ≤ x4 then
some (.inr (x3, x4, M))
else
(mo_netOf x1 x4 M).bind fun r15 =>
(mo_tell r15 M).bind fun M19 =>
(mo_netOf x1 x4 M19).bind fun r21 =>
(mo_netOf x1 x3 M19).bind fun r25 =>
if r25 ≤ r21 then
mo_reading_j74_38 x1 x3 x4 M19
else
mo_reading_j74_38 x1 x4 x4 M19
noncomputable def mo_reading (x1 : Int) (x2 : Int) (M : MEM) : Option (Int × MEM) :=
(some (up2 M 278 13 0)).bind fun M1 =>
if (mo_in x1 0 5) = 0 then
some ((-1), M1)
else
if (mo_isMore x2) = 0 then
some ((-1), M1)
else
(mo_findHours x2 M1).bind fun M11 =>
(some (up2 M11 278 12 0)).bind fun M12 =>
(iter (fun s => mo_reading_b38 x1 s.1 s.2.1 s.2.2) FU (0, 0, M12)).bind fun w29 =>
some (w29.1, w29.2.2)
noncomputable def mo_mildest_b42 (x2 : Int) (x3 : Int) (x4 : Int) (x5 : Int) (x6 : Int) (M : MEM) : Option ((Int × Int) ⊕ (Int × Int)) :=
if 6 ≤ x6 then
some (.inr (x5, x6))
else
(mo_netOf x6 x4 M).bind fun r11 =>
some (.inl ((max x5 r11), (wr (x6 + 1))))
noncomputable def mo_mildest_j85_28 (x2 : Int) (x3 : Int) (x4 : Int) (M : MEM) : Option ((Int × Int × Int) ⊕ (Int × Int × Int)) :=
some (.inl (x2, x3, (wr (x4 + 1))))
noncomputable def mo_mildest_b28  (x2 : Int) (x3 : Int) (x4 : Int) (M : MEM) : Option ((Int × Int × Int) ⊕ (Int × Int × Int)) :=
if 4 ≤ x4 then
some (.inr (x2, x3, x4))
else
(iter (fun s => mo_mildest_b42 x2 x3 x4 s.1 s.2 M) FU ((0 - 1000000), 0)).bind fun w14 =>
if w14.1 < x3 then
mo_mildest_j85_28 x4 w14.1 x4 M
else
mo_mildest_j85_28 x2 x3 x4 M
noncomputable def mo_mildest (x1 : Int) (M : MEM) : Option (Int × MEM) :=
(some (up2 M 278 13 0)).bind fun M1 =>
if (mo_isMore x1) = 0 then
some ((-1), M1)
else
(mo_findHours x1 M1).bind fun M7 =>
(iter (fun s => mo_mildest_b28  s.1 s.2.1 s.2.2 M7) FU (0, (1000000 - 0), 0)).bind fun w16 =>
(some (up2 M7 278 12 0)).bind fun M17 =>
(mo_tell w16.2.1 M17).bind fun M19 =>
some (w16.1, M19)
noncomputable def mo_there (x1 : Int) (x2 : Int) (M : MEM) : Option (Int) :=
if x1 = 0 then
some x2
else
if 0 ≤ (wr (x1 - 1)) ∧ (wr (x1 - 1)) < 2400 then
some (wr ((wr ((M 293 ((wr (x1 - 1))).toNat) + x2)) + 1))
else none
noncomputable def mo_latest_j28_5 (x1 : Int) (x2 : Int) (x3 : Int) (x4 : Int) (M : MEM) : Option ((Int × Int) ⊕ (Int × Int)) :=
some (.inl (x3, (wr (x4 + 1))))
noncomputable def mo_latest_b5 (x1 : Int) (x2 : Int) (x3 : Int) (x4 : Int) (M : MEM) : Option ((Int × Int) ⊕ (Int × Int)) :=
if (M 278 38) < x4 then
some (.inr (x3, x4))
else
(mo_there x4 x2 M).bind fun r3 =>
if x1 < r3 then
mo_latest_j28_5 x1 x2 x3 x4 M
else
mo_latest_j28_5 x1 x2 x4 x4 M
noncomputable def mo_latest (x1 : Int) (x2 : Int) (M : MEM) : Option (Int) :=
(iter (fun s => mo_latest_b5 x1 x2 s.1 s.2 M) FU ((-1), 0)).bind fun w7 =>
some w7.1
noncomputable def mo_leave (x1 : Int) (x2 : Int) (x3 : Int) (M : MEM) : Option (Int × MEM) :=
(some (up2 M 278 13 0)).bind fun M1 =>
if (mo_isDonkey x1 M1) = 0 then
some ((-1), M1)
else
if (mo_isMore x2) = 0 then
some ((-1), M1)
else
if (mo_in x3 0 99) = 0 then
some ((-1), M1)
else
(mo_timesNow x1 M1).bind fun M15 =>
(mo_latest x2 x3 M15).bind fun r17 =>
if r17 = (-1) then
some ((-2), M15)
else
(some (up2 M15 278 12 0)).bind fun M21 =>
(mo_there r17 x3 M21).bind fun r23 =>
(mo_tell (wr (x2 - r23)) M21).bind fun M27 =>
some (r17, M27)
noncomputable def mo_sure_b46 (x1 : Int) (x2 : Int) (x3 : Int) (x4 : Int) (x5 : Int) (M : MEM) : Option ((Int × MEM) ⊕ (Int × MEM)) :=
if 10 ≤ x5 then
some (.inr (x5, M))
else
(mo_beginThen M).bind fun M20 =>
if 0 ≤ (wr (55 * x1)) ∧ (wr (55 * x1)) < 166 then
(some (up2 M20 292 ((wr (55 * x1))).toNat x5)).bind fun M21 =>
(mo_findTimes x1 M21).bind fun M24 =>
(mo_latest x2 x3 M24).bind fun r26 =>
if 0 ≤ x5 ∧ x5 < 10 then
(some (up2 M24 299 (x5).toNat r26)).bind fun M29 =>
some (.inl ((wr (x5 + 1)), M29))
else none
else none
noncomputable def mo_sure_j147_119 (x4 : Int) (x5 : Int) (x8 : Int) (x9 : Int) (s0 : Int) (s1 : Int) (M : MEM) : Option ((Int × Int) ⊕ (Int × Int)) :=
some (.inl ((wr (s0 + s1)), (wr (x9 + 1))))
noncomputable def mo_sure_b119 (x4 : Int) (x5 : Int) (x8 : Int) (x6 : Int) (x9 : Int) (M : MEM) : Option ((Int × Int) ⊕ (Int × Int)) :=
if x8 ≤ x9 then
some (.inr (x6, x9))
else
if 0 ≤ x9 ∧ x9 < 10 then
if (M 299 (x9).toNat) < x5 then
mo_sure_j147_119 x4 x5 x8 x9 x6 0 M
else
mo_sure_j147_119 x4 x5 x8 x9 x6 1 M
else none
noncomputable def mo_sure_b97 (x4 : Int) (x5 : Int) (M : MEM) : Option ((Int) ⊕ ((Int × MEM) ⊕ (Int))) :=
if x5 < 0 then
some (.inr (.inr x5))
else
(iter (fun s => mo_sure_b119 x4 x5 10 s.1 s.2 M) FU (0, 0)).bind fun w36 =>
if x4 ≤ w36.1 then
(some (up2 M 278 12 0)).bind fun M38 =>
(mo_tell w36.1 M38).bind fun M40 =>
some (.inr (.inl (x5, M40)))
else
some (.inl (wr (x5 + (-1))))
noncomputable def mo_sure (x1 : Int) (x2 : Int) (x3 : Int) (x4 : Int) (M : MEM) : Option (Int × MEM) :=
(some (up2 M 278 13 0)).bind fun M1 =>
if (mo_isDonkey x1 M1) = 0 then
some ((-1), M1)
else
if (mo_isMore x2) = 0 then
some ((-1), M1)
else
if (mo_in x3 0 99) = 0 then
some ((-1), M1)
else
if (mo_in x4 1 10) = 0 then
some ((-1), M1)
else
(iter (fun s => mo_sure_b46 x1 x2 x3 x4 s.1 s.2) FU (0, M1)).bind fun w31 =>
(iter (fun s => mo_sure_b97 x4 s w31.2) FU 2400).bind (Sum.elim (fun r => some r) (fun w41 =>
some ((-2), w31.2)))
noncomputable def mo_missed_b54 (x2 : Int) (x3 : Int) (x4 : Int) (x5 : Int) (M : MEM) : Option ((Int × MEM) ⊕ (Int × MEM)) :=
if 600 < x5 then
some (.inr (x5, M))
else
if 0 ≤ x5 ∧ x5 < 601 then
(some (up2 M 300 (x5).toNat 0)).bind fun M21 =>
some (.inl ((wr (x5 + 1)), M21))
else none
noncomputable def mo_missed_j135_82 (x2 : Int) (x3 : Int) (x4 : Int) (x5 : Int) (x6 : Int) (M : MEM) : Option ((Int × Int × MEM) ⊕ (Int × Int × MEM)) :=
some (.inl (x5, (wr (x6 + x3)), M))
noncomputable def mo_missed_b82 (x2 : Int) (x3 : Int) (x4 : Int) (x5 : Int) (x6 : Int) (M : MEM) : Option ((Int × Int × MEM) ⊕ (Int × Int × MEM)) :=
if (M 278 38) < x6 then
some (.inr (x5, x6, M))
else
(mo_there x6 x4 M).bind fun r26 =>
if x2 = 0 then none else
if (wr ((max 1 (wr (Int.tdiv (wr ((wr (r26 + x2)) - 1)) x2))) * x2)) ≤ 600 then
if 0 ≤ (wr ((max 1 (wr (Int.tdiv (wr ((wr (r26 + x2)) - 1)) x2))) * x2)) ∧ (wr ((max 1 (wr (Int.tdiv (wr ((wr (r26 + x2)) - 1)) x2))) * x2)) < 601 then
(some (up2 M 300 ((wr ((max 1 (wr (Int.tdiv (wr ((wr (r26 + x2)) - 1)) x2))) * x2))).toNat 1)).bind fun M31 =>
mo_missed_j135_82 x2 x3 x4 x5 x6 M31
else none
else
mo_missed_j135_82 x2 x3 x4 (wr (x5 + 1)) x6 M
noncomputable def mo_missed_j175_150 (x2 : Int) (x5 : Int) (x7 : Int) (s0 : Int) (s1 : Int) (M : MEM) : Option ((Int × Int) ⊕ (Int × Int)) :=
some (.inl ((wr (s0 + s1)), (wr (x7 + x2))))
noncomputable def mo_missed_b150 (x2 : Int) (x5 : Int) (x6 : Int) (x7 : Int) (M : MEM) : Option ((Int × Int) ⊕ (Int × Int)) :=
if 600 < x7 then
some (.inr (x6, x7))
else
if 0 ≤ x7 ∧ x7 < 601 then
if (M 300 (x7).toNat) = 0 then
mo_missed_j175_150 x2 x5 x7 x6 1 M
else
mo_missed_j175_150 x2 x5 x7 x6 0 M
else none
noncomputable def mo_missed (x1 : Int) (x2 : Int) (x3 : Int) (x4 : Int) (M : MEM) : Option (Int × MEM) :=
(some (up2 M 278 13 0)).bind fun M1 =>
if (mo_isDonkey x1 M1) = 0 then
some ((-1), M1)
else
if (mo_in x2 1 120) = 0 then
some ((-1), M1)
else
if (mo_in x3 1 12) = 0 then
some ((-1), M1)
else
if (mo_in x4 0 99) = 0 then
some ((-1), M1)
else
(mo_timesNow x1 M1).bind fun M19 =>
(iter (fun s => mo_missed_b54 x2 x3 x4 s.1 s.2) FU (0, M19)).bind fun w23 =>
(iter (fun s => mo_missed_b82 x2 x3 x4 s.1 s.2.1 s.2.2) FU (0, x3, w23.2)).bind fun w33 =>
(iter (fun s => mo_missed_b150 x2 w33.1 s.1 s.2 w33.2.2) FU (0, x2)).bind fun w37 =>
(some (up2 w33.2.2 278 12 0)).bind fun M38 =>
(mo_tell w33.1 M38).bind fun M40 =>
some (w37.1, M40)
noncomputable def mo_hour (x1 : Int) (M : MEM) : Option (Int × MEM) :=
(mo_timesNow x1 M).bind fun M2 =>
if 2 ≤ (M2 278 38) then
some ((wr ((M2 293 1) - (M2 293 0))), M2)
else
some (601, M2)
noncomputable def mo_think (x1 : Int) (x2 : Int) (x3 : Int) (x4 : Int) (x5 : Int) (M : MEM) : Option (MEM) :=
(mo_layCarrot (wr (10 + x1)) x2 (wr ((M 279 165) + x3)) (wr ((wr ((wr ((M 279 165) + x3)) + x4)) - 1)) x5 M).bind fun M2 =>
(some (up2 M2 278 8 (max (M2 278 8) (wr (x1 + 1))))).bind fun M3 =>
some M3
noncomputable def mo_bribe_j118_51 (x1 : Int) (x2 : Int) (x3 : Int) (x4 : Int) (x5 : Int) (x6 : Int) (x7 : Int) (M : MEM) : Option ((Int × Int × Int × MEM) ⊕ (Int × Int × Int × MEM)) :=
some (.inl (x5, x6, (wr (x7 + 1)), M))
noncomputable def mo_bribe_j110_51 (x1 : Int) (x2 : Int) (x3 : Int) (x4 : Int) (x7 : Int) (x8 : Int) (M : MEM) : Option ((Int × Int × Int × MEM) ⊕ (Int × Int × Int × MEM)) :=
mo_bribe_j118_51 x1 x2 x3 x4 x7 x8 x7 M
noncomputable def mo_bribe_b51 (x1 : Int) (x2 : Int) (x3 : Int) (x4 : Int) (x5 : Int) (x6 : Int) (x7 : Int) (M : MEM) : Option ((Int × Int × Int × MEM) ⊕ (Int × Int × Int × MEM)) :=
if 60 < x7 then
some (.inr (x5, x6, x7, M))
else
(mo_think 0 x1 x7 x2 x3 M).bind fun M17 =>
(mo_hour x1 M17).bind fun p19 =>
(some (up2 p19.2 278 8 0)).bind fun M22 =>
if x7 ≤ 0 then
mo_bribe_j110_51 x1 x2 x3 x4 x7 p19.1 M22
else
if x3 = 1 then
if p19.1 < x6 then
mo_bribe_j110_51 x1 x2 x3 x4 x7 p19.1 M22
else
mo_bribe_j118_51 x1 x2 x3 x4 x5 x6 x7 M22
else
if x6 < p19.1 then
mo_bribe_j110_51 x1 x2 x3 x4 x7 p19.1 M22
else
mo_bribe_j118_51 x1 x2 x3 x4 x5 x6 x7 M22
noncomputable def mo_bribe_j35 (x1 : Int) (x2 : Int) (x3 : Int) (M : MEM) : Option (Int × MEM) :=
(mo_hour x1 M).bind fun p12 =>
(iter (fun s => mo_bribe_b51 x1 x2 x3 p12.1 s.1 s.2.1 s.2.2.1 s.2.2.2) FU (0, 0, 0, p12.2)).bind fun w27 =>
(some (up2 w27.2.2.2 278 12 0)).bind fun M28 =>
(mo_tell w27.2.1 M28).bind fun M30 =>
(mo_tell p12.1 M30).bind fun M32 =>
some (w27.1, M32)
noncomputable def mo_bribe (x1 : Int) (x2 : Int) (x3 : Int) (M : MEM) : Option (Int × MEM) :=
(some (up2 M 278 13 0)).bind fun M1 =>
if (mo_isDonkey x1 M1) = 0 then
some ((-1), M1)
else
if (mo_in x2 1 20) = 0 then
some ((-1), M1)
else
if x3 = 1 then
mo_bribe_j35 x1 x2 x3 M1
else
if x3 = (-1) then
mo_bribe_j35 x1 x2 x3 M1
else
some ((-1), M1)
noncomputable def mo_hourBy (x1 : Int) (x2 : Int) (M : MEM) : Option (Int × MEM) :=
(mo_think 0 x1 (M 301 0) x2 (-1) M).bind fun M2 =>
(mo_think 1 x1 (M2 301 1) x2 1 M2).bind fun M4 =>
(mo_hour x1 M4).bind fun p6 =>
(some (up2 p6.2 278 8 0)).bind fun M9 =>
some (p6.1, M9)
noncomputable def mo_rests_j154_97 (x1 : Int) (x2 : Int) (x3 : Int) (x4 : Int) (x5 : Int) (x6 : Int) (x7 : Int) (x8 : Int) (x9 : Int) (x10 : Int) (M : MEM) : Option ((Int × Int × Int × MEM) ⊕ (Int × Int × Int × MEM)) :=
some (.inl (x8, x9, (wr (x10 + 1)), M))
noncomputable def mo_rests_j146_97 (x1 : Int) (x2 : Int) (x3 : Int) (x4 : Int) (x5 : Int) (x6 : Int) (x7 : Int) (x10 : Int) (x11 : Int) (M : MEM) : Option ((Int × Int × Int × MEM) ⊕ (Int × Int × Int × MEM)) :=
mo_rests_j154_97 x1 x2 x3 x4 x5 x6 x7 x10 x11 x10 M
noncomputable def mo_rests_b97 (x1 : Int) (x2 : Int) (x3 : Int) (x4 : Int) (x5 : Int) (x6 : Int) (x7 : Int) (x8 : Int) (x9 : Int) (x10 : Int) (M : MEM) : Option ((Int × Int × Int × MEM) ⊕ (Int × Int × Int × MEM)) :=
if 30 < x10 then
some (.inr (x8, x9, x10, M))
else
if 0 ≤ x6 ∧ x6 < 2 then
(some (up2 M 301 (x6).toNat x10)).bind fun M24 =>
(mo_hourBy x1 x2 M24).bind fun p27 =>
if x6 = 0 then
if x9 < p27.1 then
mo_rests_j146_97 x1 x2 x3 x4 x5 x6 x7 x10 p27.1 p27.2
else
mo_rests_j154_97 x1 x2 x3 x4 x5 x6 x7 x8 x9 x10 p27.2
else
if p27.1 < x9 then
mo_rests_j146_97 x1 x2 x3 x4 x5 x6 x7 x10 p27.1 p27.2
else
mo_rests_j154_97 x1 x2 x3 x4 x5 x6 x7 x8 x9 x10 p27.2
else none
noncomputable def mo_rests_j184_55 (x1 : Int) (x2 : Int) (x3 : Int) (x4 : Int) (s0 : Int) (M : MEM) : Option ((Int × Int × MEM) ⊕ (Int × Int × MEM)) :=
some (.inl ((wr (x4 + 1)), s0, M))
noncomputable def mo_rests_b55 (x1 : Int) (x2 : Int) (x3 : Int) (x4 : Int) (x5 : Int) (M : MEM) : Option ((Int × Int × MEM) ⊕ (Int × Int × MEM)) :=
if x3 ≤ x4 then
some (.inr (x4, x5, M))
else
if 2 ≤ x5 then
some (.inr (x4, x5, M))
else
if 0 ≤ (Int.tmod x4 2) ∧ (Int.tmod x4 2) < 2 then
(mo_hourBy x1 x2 M).bind fun p20 =>
(iter (fun s => mo_rests_b97 x1 x2 x3 x4 x5 (Int.tmod x4 2) (M 301 ((Int.tmod x4 2)).toNat) s.1 s.2.1 s.2.2.1 s.2.2.2) FU ((M 301 ((Int.tmod x4 2)).toNat), p20.1, 0, p20.2)).bind fun w33 =>
if 0 ≤ (Int.tmod x4 2) ∧ (Int.tmod x4 2) < 2 then
(some (up2 w33.2.2.2 301 ((Int.tmod x4 2)).toNat w33.1)).bind fun M34 =>
if w33.1 = (M 301 ((Int.tmod x4 2)).toNat) then
mo_rests_j184_55 x1 x2 x3 x4 (wr (x5 + 1)) M34
else
mo_rests_j184_55 x1 x2 x3 x4 0 M34
else none
else none
noncomputable def mo_rests_j217 (x4 : Int) (x6 : Int) (s1 : Int) (M : MEM) : Option (Int × MEM) :=
(mo_tell s1 M).bind fun M45 =>
(mo_tell (M45 301 0) M45).bind fun M47 =>
(mo_tell (M47 301 1) M47).bind fun M49 =>
(mo_tell x6 M49).bind fun M51 =>
some (x4, M51)
noncomputable def mo_rests_j192 (x1 : Int) (x2 : Int) (x4 : Int) (x5 : Int) (M : MEM) : Option (Int × MEM) :=
(mo_hourBy x1 x2 M).bind fun p39 =>
(some (up2 p39.2 278 12 0)).bind fun M42 =>
if x5 = 2 then
mo_rests_j217 x4 p39.1 1 M42
else
mo_rests_j217 x4 p39.1 0 M42
noncomputable def mo_rests (x1 : Int) (x2 : Int) (x3 : Int) (M : MEM) : Option (Int × MEM) :=
(some (up2 M 278 13 0)).bind fun M1 =>
if (mo_isDonkey x1 M1) = 0 then
some ((-1), M1)
else
if (mo_in x2 1 10) = 0 then
some ((-1), M1)
else
if (mo_in x3 0 20) = 0 then
some ((-1), M1)
else
(some (up2 M1 301 0 0)).bind fun M14 =>
(some (up2 M14 301 1 0)).bind fun M15 =>
(iter (fun s => mo_rests_b55 x1 x2 x3 s.1 s.2.1 s.2.2) FU (0, 0, M15)).bind fun w37 =>
mo_rests_j192 x1 x2 w37.1 w37.2.1 w37.2.2
noncomputable def mo_bid_j123_39 (x1 : Int) (x2 : Int) (x3 : Int) (x4 : Int) (x5 : Int) (M : MEM) : Option ((Int × Int × MEM) ⊕ (Int × Int × MEM)) :=
some (.inl (x4, (wr (x5 + 1)), M))
noncomputable def mo_bid_j119_39 (x1 : Int) (x2 : Int) (x3 : Int) (x5 : Int) (M : MEM) : Option ((Int × Int × MEM) ⊕ (Int × Int × MEM)) :=
mo_bid_j123_39 x1 x2 x3 x5 x5 M
noncomputable def mo_bid_j97_39 (x1 : Int) (x2 : Int) (x3 : Int) (x4 : Int) (x5 : Int) (s0 : Int) (M : MEM) : Option ((Int × Int × MEM) ⊕ (Int × Int × MEM)) :=
if x2 = 1 then
if x3 < s0 then
mo_bid_j123_39 x1 x2 x3 x4 x5 M
else
mo_bid_j119_39 x1 x2 x3 x5 M
else
if s0 < x3 then
mo_bid_j123_39 x1 x2 x3 x4 x5 M
else
mo_bid_j119_39 x1 x2 x3 x5 M
noncomputable def mo_bid_j66_39 (x1 : Int) (x2 : Int) (x3 : Int) (x4 : Int) (x5 : Int) (M : MEM) : Option ((Int × Int × MEM) ⊕ (Int × Int × MEM)) :=
(mo_timesNow x1 M).bind fun M15 =>
(some (up2 M15 278 8 0)).bind fun M16 =>
if (M16 278 38) = 0 then
mo_bid_j97_39 x1 x2 x3 x4 x5 601 M16
else
mo_bid_j97_39 x1 x2 x3 x4 x5 (wr ((M16 293 0) + 1)) M16
noncomputable def mo_bid_b39 (x1 : Int) (x2 : Int) (x3 : Int) (x4 : Int) (x5 : Int) (M : MEM) : Option ((Int × Int × MEM) ⊕ (Int × Int × MEM)) :=
if 60 < x5 then
some (.inr (x4, x5, M))
else
if 0 ≤ x4 then
some (.inr (x4, x5, M))
else
if x5 ≤ 0 then
mo_bid_j66_39 x1 x2 x3 x4 x5 M
else
(mo_think 0 x1 0 x5 x2 M).bind fun M22 =>
mo_bid_j66_39 x1 x2 x3 x4 x5 M22
noncomputable def mo_bid_j23 (x1 : Int) (x2 : Int) (x3 : Int) (M : MEM) : Option (Int × MEM) :=
if (mo_isMore x3) = 0 then
some ((-1), M)
else
(iter (fun s => mo_bid_b39 x1 x2 x3 s.1 s.2.1 s.2.2) FU ((-2), 0, M)).bind fun w23 =>
some (w23.1, w23.2.2)
noncomputable def mo_bid (x1 : Int) (x2 : Int) (x3 : Int) (M : MEM) : Option (Int × MEM) :=
(some (up2 M 278 13 0)).bind fun M1 =>
if (mo_isDonkey x1 M1) = 0 then
some ((-1), M1)
else
if x2 = 1 then
mo_bid_j23 x1 x2 x3 M1
else
if x2 = (-1) then
mo_bid_j23 x1 x2 x3 M1
else
some ((-1), M1)
noncomputable def mo_heard (x1 : Int) (x2 : Int) (x3 : Int) (M : MEM) : Option (Int × MEM) :=
(some (up2 M 278 13 0)).bind fun M1 =>
if (mo_isDonkey x1 M1) = 0 then
some ((-1), M1)
else
if (mo_in x2 0 60) = 0 then
some ((-1), M1)
else
if (mo_isMore x3) = 0 then
some ((-1), M1)
else
if (M1 278 49) = 8 then
some ((-1), M1)
else
if 0 ≤ (wr (3 * (M1 278 49))) ∧ (wr (3 * (M1 278 49))) < 24 then
(some (up2 M1 302 ((wr (3 * (M1 278 49)))).toNat x1)).bind fun M15 =>
if 0 ≤ (wr ((wr (3 * (M15 278 49))) + 1)) ∧ (wr ((wr (3 * (M15 278 49))) + 1)) < 24 then
(some (up2 M15 302 ((wr ((wr (3 * (M15 278 49))) + 1))).toNat x2)).bind fun M17 =>
if 0 ≤ (wr ((wr (3 * (M17 278 49))) + 2)) ∧ (wr ((wr (3 * (M17 278 49))) + 2)) < 24 then
(some (up2 M17 302 ((wr ((wr (3 * (M17 278 49))) + 2))).toNat x3)).bind fun M19 =>
(some (up2 M19 278 49 (wr ((M19 278 49) + 1)))).bind fun M21 =>
some ((M21 278 49), M21)
else none
else none
else none
noncomputable def mo_forget  (M : MEM) : Option (Int × MEM) :=
(some (up2 M 278 13 0)).bind fun M1 =>
(some (up2 M1 278 49 0)).bind fun M2 =>
some ((M1 278 49), M2)
noncomputable def mo_isHeard_b27 (x1 : Int) (x2 : Int) (x3 : Int) (M : MEM) : Option ((Int) ⊕ (Int)) :=
if (M 278 38) ≤ x3 then
some (.inr x3)
else
if 0 ≤ x3 ∧ x3 < 2400 then
if 0 ≤ (wr ((wr (3 * x2)) + 2)) ∧ (wr ((wr (3 * x2)) + 2)) < 24 then
if (M 302 ((wr ((wr (3 * x2)) + 2))).toNat) ≤ (M 293 (x3).toNat) then
some (.inr x3)
else
some (.inl (wr (x3 + 1)))
else none
else none
noncomputable def mo_isHeard_j76_2 (x1 : Int) (x2 : Int) (M : MEM) : Option ((Int) ⊕ ((Int) ⊕ (Int))) :=
some (.inl (wr (x2 + 1)))
noncomputable def mo_isHeard_j60_2 (x1 : Int) (x2 : Int) (x3 : Int) (M : MEM) : Option ((Int) ⊕ ((Int) ⊕ (Int))) :=
if 0 ≤ (wr ((wr (3 * x2)) + 1)) ∧ (wr ((wr (3 * x2)) + 1)) < 24 then
if x3 = (M 302 ((wr ((wr (3 * x2)) + 1))).toNat) then
mo_isHeard_j76_2 x1 x2 M
else
some (.inr (.inl 0))
else none
noncomputable def mo_isHeard_b2 (x1 : Int) (x2 : Int) (M : MEM) : Option ((Int) ⊕ ((Int) ⊕ (Int))) :=
if (M 278 49) ≤ x2 then
some (.inr (.inr x2))
else
if 0 ≤ (wr (3 * x2)) ∧ (wr (3 * x2)) < 24 then
if (M 302 ((wr (3 * x2))).toNat) = x1 then
(iter (fun s => mo_isHeard_b27 x1 x2 s M) FU 0).bind fun w8 =>
mo_isHeard_j60_2 x1 x2 w8 M
else
mo_isHeard_j76_2 x1 x2 M
else none
noncomputable def mo_isHeard (x1 : Int) (M : MEM) : Option (Int) :=
(iter (fun s => mo_isHeard_b2 x1 s M) FU 0).bind (Sum.elim (fun r => some r) (fun w11 =>
some 1))
noncomputable def mo_isHeardWith (x1 : Int) (x2 : Int) (x3 : Int) (M : MEM) : Option (Int × MEM) :=
(mo_beginThen M).bind fun M2 =>
if 0 ≤ (wr (55 * x1)) ∧ (wr (55 * x1)) < 166 then
(some (up2 M2 292 ((wr (55 * x1))).toNat x2)).bind fun M3 =>
if 0 ≤ (wr ((wr (55 * x1)) + 1)) ∧ (wr ((wr (55 * x1)) + 1)) < 166 then
(some (up2 M3 292 ((wr ((wr (55 * x1)) + 1))).toNat x3)).bind fun M5 =>
(mo_findTimes x1 M5).bind fun M8 =>
(mo_isHeard x1 M8).bind fun r10 =>
some (r10, M8)
else none
else none
noncomputable def mo_hungers_j59_22 (x1 : Int) (x3 : Int) (x4 : Int) (s0 : Int) (s1 : Int) (M : MEM) : Option ((Int × Int × MEM) ⊕ (Int × Int × MEM)) :=
some (.inl ((ish i_or s0 s1), (wr (x4 + 1)), M))
noncomputable def mo_hungers_b22 (x1 : Int) (x3 : Int) (x2 : Int) (x4 : Int) (M : MEM) : Option ((Int × Int × MEM) ⊕ (Int × Int × MEM)) :=
if 10 ≤ x4 then
some (.inr (x2, x4, M))
else
if 0 ≤ (wr ((wr (55 * x1)) + 1)) ∧ (wr ((wr (55 * x1)) + 1)) < 166 then
(mo_isHeardWith x1 x4 (M 279 ((wr ((wr (55 * x1)) + 1))).toNat) M).bind fun p9 =>
if p9.1 = 0 then
mo_hungers_j59_22 x1 x3 x4 x2 0 p9.2
else
mo_hungers_j59_22 x1 x3 x4 x2 (ish i_shl 1 x4) p9.2
else none
noncomputable def mo_hungers_j109_70 (x1 : Int) (x2 : Int) (x4 : Int) (s0 : Int) (s1 : Int) (M : MEM) : Option ((Int × Int × MEM) ⊕ (Int × Int × MEM)) :=
some (.inl ((ish i_or s0 s1), (wr (x4 + 1)), M))
noncomputable def mo_hungers_b70 (x1 : Int) (x2 : Int) (x3 : Int) (x4 : Int) (M : MEM) : Option ((Int × Int × MEM) ⊕ (Int × Int × MEM)) :=
if 0 ≤ x1 ∧ x1 < 3 then
if (M 280 (x1).toNat) ≤ x4 then
some (.inr (x3, x4, M))
else
if 0 ≤ (wr (55 * x1)) ∧ (wr (55 * x1)) < 166 then
(mo_isHeardWith x1 (M 279 ((wr (55 * x1))).toNat) x4 M).bind fun p18 =>
if p18.1 = 0 then
mo_hungers_j109_70 x1 x2 x4 x3 0 p18.2
else
mo_hungers_j109_70 x1 x2 x4 x3 (ish i_shl 1 x4) p18.2
else none
else none
noncomputable def mo_hungers (x1 : Int) (M : MEM) : Option (Int × MEM) :=
(some (up2 M 278 13 0)).bind fun M1 =>
if (mo_isDonkey x1 M1) = 0 then
some ((-1), M1)
else
(iter (fun s => mo_hungers_b22 x1 0 s.1 s.2.1 s.2.2) FU (0, 0, M1)).bind fun w13 =>
(iter (fun s => mo_hungers_b70 x1 w13.1 s.1 s.2.1 s.2.2) FU (0, 0, w13.2.2)).bind fun w22 =>
(some (up2 w22.2.2 278 12 0)).bind fun M23 =>
(mo_tell w22.1 M23).bind fun M25 =>
some (w13.1, M25)
noncomputable def mo_ways_j74_32 (x1 : Int) (x2 : Int) (x3 : Int) (x4 : Int) (x5 : Int) (M : MEM) : Option ((Int × Int × Int × MEM) ⊕ (Int × Int × Int × MEM)) :=
some (.inl (x2, x3, (wr (x5 + 1)), M))
noncomputable def mo_ways_j71_32 (x1 : Int) (x2 : Int) (x3 : Int) (x4 : Int) (x5 : Int) (M : MEM) : Option ((Int × Int × Int × MEM) ⊕ (Int × Int × Int × MEM)) :=
mo_ways_j74_32 x1 (wr (x2 + 1)) x3 x4 x5 M
noncomputable def mo_ways_b32 (x1 : Int) (x4 : Int) (x2 : Int) (x3 : Int) (x5 : Int) (M : MEM) : Option ((Int × Int × Int × MEM) ⊕ (Int × Int × Int × MEM)) :=
if 0 ≤ x1 ∧ x1 < 3 then
if (M 280 (x1).toNat) ≤ x5 then
some (.inr (x2, x3, x5, M))
else
(mo_isHeardWith x1 x4 x5 M).bind fun p10 =>
if p10.1 = 0 then
mo_ways_j74_32 x1 x2 x3 x4 x5 p10.2
else
if x2 = 0 then
mo_ways_j71_32 x1 x2 (wr ((wr (12 * x4)) + x5)) x4 x5 p10.2
else
mo_ways_j71_32 x1 x2 x3 x4 x5 p10.2
else none
noncomputable def mo_ways_b22 (x1 : Int) (x2 : Int) (x3 : Int) (x4 : Int) (M : MEM) : Option ((Int × Int × Int × MEM) ⊕ (Int × Int × Int × MEM)) :=
if 10 ≤ x4 then
some (.inr (x2, x3, x4, M))
else
(iter (fun s => mo_ways_b32 x1 x4 s.1 s.2.1 s.2.2.1 s.2.2.2) FU (x2, x3, 0, M)).bind fun w15 =>
some (.inl (w15.1, w15.2.1, (wr (x4 + 1)), w15.2.2.2))
noncomputable def mo_ways (x1 : Int) (M : MEM) : Option (Int × MEM) :=
(some (up2 M 278 13 0)).bind fun M1 =>
if (mo_isDonkey x1 M1) = 0 then
some ((-1), M1)
else
(iter (fun s => mo_ways_b22 x1 s.1 s.2.1 s.2.2.1 s.2.2.2) FU (0, 0, 0, M1)).bind fun w16 =>
(some (up2 w16.2.2.2 278 12 0)).bind fun M17 =>
if w16.1 ≤ 0 then
some (w16.1, M17)
else
(mo_tell (wr (Int.tdiv w16.2.1 12)) M17).bind fun M20 =>
(mo_tell (Int.tmod w16.2.1 12) M20).bind fun M22 =>
some (w16.1, M22)
noncomputable def mo_swarms_b25 (x1 : Int) (x2 : Int) (x3 : Int) (x4 : Int) (M : MEM) : Option ((Int × Int × MEM) ⊕ (Int × Int × MEM)) :=
if (M 278 1) ≤ x4 then
some (.inr (x3, x4, M))
else
if x3 = 0 then
some (.inr (x3, x4, M))
else
(mo_timesNow x4 M).bind fun M7 =>
(mo_isHeard x4 M7).bind fun r9 =>
some (.inl (r9, (wr (x4 + 1)), M7))
noncomputable def mo_swarms_j69_9 (x2 : Int) (s0 : Int) (s1 : Int) (M : MEM) : Option ((Int × Int × MEM) ⊕ (Int × Int × MEM)) :=
some (.inl ((ish i_or s0 s1), (wr (x2 + 1)), M))
noncomputable def mo_swarms_j57_9 (x1 : Int) (x2 : Int) (x3 : Int) (M : MEM) : Option ((Int × Int × MEM) ⊕ (Int × Int × MEM)) :=
if x3 = 0 then
mo_swarms_j69_9 x2 x1 0 M
else
mo_swarms_j69_9 x2 x1 (ish i_shl 1 x2) M
noncomputable def mo_swarms_b9  (x1 : Int) (x2 : Int) (M : MEM) : Option ((Int × Int × MEM) ⊕ (Int × Int × MEM)) :=
if 10 ≤ x2 then
some (.inr (x1, x2, M))
else
(some (up2 M 278 5 x2)).bind fun M3 =>
(iter (fun s => mo_swarms_b25 x1 x2 s.1 s.2.1 s.2.2) FU (1, 0, M3)).bind fun w12 =>
mo_swarms_j57_9 x1 x2 w12.1 w12.2.2
noncomputable def mo_swarms  (M : MEM) : Option (Int × MEM) :=
(some (up2 M 278 13 0)).bind fun M1 =>
(iter (fun s => mo_swarms_b9  s.1 s.2.1 s.2.2) FU (0, 0, M1)).bind fun w14 =>
(some (up2 w14.2.2 278 5 (-1))).bind fun M15 =>
some (w14.1, M15)
noncomputable def mo_span_j117_48 (x1 : Int) (x2 : Int) (x3 : Int) (x4 : Int) (x5 : Int) (x6 : Int) (x7 : Int) (M : MEM) : Option ((Int × Int × Int × Int × MEM) ⊕ (Int × Int × Int × Int × MEM)) :=
some (.inl (x3, x4, x5, (wr (x7 + 1)), M))
noncomputable def mo_span_b48 (x1 : Int) (x2 : Int) (x6 : Int) (x3 : Int) (x4 : Int) (x5 : Int) (x7 : Int) (M : MEM) : Option ((Int × Int × Int × Int × MEM) ⊕ (Int × Int × Int × Int × MEM)) :=
if 0 ≤ x1 ∧ x1 < 3 then
if (M 280 (x1).toNat) ≤ x7 then
some (.inr (x3, x4, x5, x7, M))
else
(mo_isHeardWith x1 x6 x7 M).bind fun p14 =>
if p14.1 = 0 then
mo_span_j117_48 x1 x2 x3 x4 x5 x6 x7 p14.2
else
if x2 ≤ (p14.2 278 38) then
if 0 ≤ (wr (x2 - 1)) ∧ (wr (x2 - 1)) < 2400 then
if 0 ≤ (wr (x2 - 1)) ∧ (wr (x2 - 1)) < 2400 then
mo_span_j117_48 x1 x2 (min x3 (wr ((p14.2 293 ((wr (x2 - 1))).toNat) + 1))) (max x4 (wr ((p14.2 293 ((wr (x2 - 1))).toNat) + 1))) (wr (x5 + 1)) x6 x7 p14.2
else none
else none
else
mo_span_j117_48 x1 x2 x3 x4 x5 x6 x7 p14.2
else none
noncomputable def mo_span_b38 (x1 : Int) (x2 : Int) (x3 : Int) (x4 : Int) (x5 : Int) (x6 : Int) (M : MEM) : Option ((Int × Int × Int × Int × MEM) ⊕ (Int × Int × Int × Int × MEM)) :=
if 10 ≤ x6 then
some (.inr (x3, x4, x5, x6, M))
else
(iter (fun s => mo_span_b48 x1 x2 x6 s.1 s.2.1 s.2.2.1 s.2.2.2.1 s.2.2.2.2) FU (x3, x4, x5, 0, M)).bind fun w21 =>
some (.inl (w21.1, w21.2.1, w21.2.2.1, (wr (x6 + 1)), w21.2.2.2.2))
noncomputable def mo_span (x1 : Int) (x2 : Int) (M : MEM) : Option (Int × MEM) :=
(some (up2 M 278 13 0)).bind fun M1 =>
if (mo_isDonkey x1 M1) = 0 then
some ((-1), M1)
else
if (mo_in x2 1 60) = 0 then
some ((-1), M1)
else
(iter (fun s => mo_span_b38 x1 x2 s.1 s.2.1 s.2.2.1 s.2.2.2.1 s.2.2.2.2) FU ((1000000 - 0), 0, 0, 0, M1)).bind fun w22 =>
if w22.2.2.1 = 0 then
some ((-2), w22.2.2.2.2)
else
(some (up2 w22.2.2.2.2 278 12 0)).bind fun M24 =>
(mo_tell w22.2.1 M24).bind fun M26 =>
(mo_tell w22.2.2.1 M26).bind fun M28 =>
some (w22.1, M28)
noncomputable def mo_areTwo (x1 : Int) (x2 : Int) (M : MEM) : Int :=
if (mo_isDonkey x1 M) = 0 then
0
else
if (mo_isDonkey x2 M) = 0 then
0
else
if x1 = x2 then
0
else
1
noncomputable def mo_apart_j25  (M : MEM) : Option (Int × MEM) :=
(mo_lost M).bind fun p7 =>
some (p7.1, p7.2)
noncomputable def mo_apart_b37 (x1 : Int) (x2 : Int) (x3 : Int) (x4 : Int) (M : MEM) : Option ((Int × MEM) ⊕ (Int × MEM)) :=
if x3 ≤ x4 then
some (.inr (x4, M))
else
(mo_goMinute 292 M).bind fun M18 =>
some (.inl ((wr (x4 + 1)), M18))
noncomputable def mo_apart (x1 : Int) (x2 : Int) (x3 : Int) (M : MEM) : Option (Int × MEM) :=
(some (up2 M 278 13 0)).bind fun M1 =>
if (mo_areTwo x1 x2 M1) = 0 then
mo_apart_j25  M1
else
if (mo_in x3 0 600) = 0 then
mo_apart_j25  M1
else
(mo_beginThen M1).bind fun M15 =>
(iter (fun s => mo_apart_b37 x1 x2 x3 s.1 s.2) FU (0, M15)).bind fun w19 =>
if 0 ≤ (wr ((wr (55 * x1)) + 2)) ∧ (wr ((wr (55 * x1)) + 2)) < 166 then
if 0 ≤ (wr ((wr (55 * x2)) + 2)) ∧ (wr ((wr (55 * x2)) + 2)) < 166 then
some ((wr ((w19.2 292 ((wr ((wr (55 * x1)) + 2))).toNat) - (w19.2 292 ((wr ((wr (55 * x2)) + 2))).toNat))), w19.2)
else none
else none
noncomputable def mo_together_j57_22 (x1 : Int) (x2 : Int) (x3 : Int) (M : MEM) : Option ((Int × MEM) ⊕ ((Int × MEM) ⊕ (Int × MEM))) :=
some (.inl ((wr (x3 + 1)), M))
noncomputable def mo_together_b22 (x1 : Int) (x2 : Int) (x3 : Int) (M : MEM) : Option ((Int × MEM) ⊕ ((Int × MEM) ⊕ (Int × MEM))) :=
if 600 < x3 then
some (.inr (.inr (x3, M)))
else
(mo_goMinute 292 M).bind fun M10 =>
if 0 ≤ x1 ∧ x1 < 3 then
if (M10 287 (x1).toNat) ≤ 0 then
mo_together_j57_22 x1 x2 x3 M10
else
if 0 ≤ x2 ∧ x2 < 3 then
if (M10 287 (x2).toNat) ≤ 0 then
mo_together_j57_22 x1 x2 x3 M10
else
some (.inr (.inl (x3, M10)))
else none
else none
noncomputable def mo_together (x1 : Int) (x2 : Int) (M : MEM) : Option (Int × MEM) :=
(some (up2 M 278 13 0)).bind fun M1 =>
if (mo_areTwo x1 x2 M1) = 0 then
some ((-1), M1)
else
(mo_beginThen M1).bind fun M7 =>
(iter (fun s => mo_together_b22 x1 x2 s.1 s.2) FU (1, M7)).bind (Sum.elim (fun r => some r) (fun w15 =>
some ((-2), w15.2)))
noncomputable def mo_join_b26 (x1 : Int) (x2 : Int) (x3 : Int) (x4 : Int) (M : MEM) : Option ((Int × MEM) ⊕ (Int × MEM)) :=
if 12 ≤ x4 then
some (.inr (x4, M))
else
if 0 ≤ x4 ∧ x4 < 12 then
(some (up2 M 303 (x4).toNat 0)).bind fun M11 =>
some (.inl ((wr (x4 + 1)), M11))
else none
noncomputable def mo_join_b54 (x1 : Int) (x2 : Int) (x3 : Int) (x4 : Int) (M : MEM) : Option ((Int × MEM) ⊕ (Int × MEM)) :=
if x3 ≤ x4 then
some (.inr (x4, M))
else
(mo_goMinute 292 M).bind fun M18 =>
if 0 ≤ (wr ((wr (55 * x1)) + 2)) ∧ (wr ((wr (55 * x1)) + 2)) < 166 then
if 0 ≤ (wr ((wr (55 * x2)) + 2)) ∧ (wr ((wr (55 * x2)) + 2)) < 166 then
if 0 ≤ (Int.tmod (wr ((wr ((Int.tmod (M18 292 ((wr ((wr (55 * x1)) + 2))).toNat) 12) + 12)) - (Int.tmod (M18 292 ((wr ((wr (55 * x2)) + 2))).toNat) 12))) 12) ∧ (Int.tmod (wr ((wr ((Int.tmod (M18 292 ((wr ((wr (55 * x1)) + 2))).toNat) 12) + 12)) - (Int.tmod (M18 292 ((wr ((wr (55 * x2)) + 2))).toNat) 12))) 12) < 12 then
if 0 ≤ (Int.tmod (wr ((wr ((Int.tmod (M18 292 ((wr ((wr (55 * x1)) + 2))).toNat) 12) + 12)) - (Int.tmod (M18 292 ((wr ((wr (55 * x2)) + 2))).toNat) 12))) 12) ∧ (Int.tmod (wr ((wr ((Int.tmod (M18 292 ((wr ((wr (55 * x1)) + 2))).toNat) 12) + 12)) - (Int.tmod (M18 292 ((wr ((wr (55 * x2)) + 2))).toNat) 12))) 12) < 12 then
(some (up2 M18 303 ((Int.tmod (wr ((wr ((Int.tmod (M18 292 ((wr ((wr (55 * x1)) + 2))).toNat) 12) + 12)) - (Int.tmod (M18 292 ((wr ((wr (55 * x2)) + 2))).toNat) 12))) 12)).toNat (wr ((M18 303 ((Int.tmod (wr ((wr ((Int.tmod (M18 292 ((wr ((wr (55 * x1)) + 2))).toNat) 12) + 12)) - (Int.tmod (M18 292 ((wr ((wr (55 * x2)) + 2))).toNat) 12))) 12)).toNat) + 1)))).bind fun M22 =>
some (.inl ((wr (x4 + 1)), M22))
else none
else none
else none
else none
noncomputable def mo_join_j152_124 (x4 : Int) (x5 : Int) (M : MEM) : Option ((Int × Int) ⊕ (Int × Int)) :=
some (.inl (x4, (wr (x5 + 1))))
noncomputable def mo_join_b124  (x4 : Int) (x5 : Int) (M : MEM) : Option ((Int × Int) ⊕ (Int × Int)) :=
if 12 ≤ x5 then
some (.inr (x4, x5))
else
if 0 ≤ x5 ∧ x5 < 12 then
if 0 ≤ x4 ∧ x4 < 12 then
if (M 303 (x5).toNat) ≤ (M 303 (x4).toNat) then
mo_join_j152_124 x4 x5 M
else
mo_join_j152_124 x5 x5 M
else none
else none
noncomputable def mo_join (x1 : Int) (x2 : Int) (x3 : Int) (M : MEM) : Option (Int × MEM) :=
(some (up2 M 278 13 0)).bind fun M1 =>
if (mo_areTwo x1 x2 M1) = 0 then
some ((-1), M1)
else
if (mo_isMore x3) = 0 then
some ((-1), M1)
else
(iter (fun s => mo_join_b26 x1 x2 x3 s.1 s.2) FU (0, M1)).bind fun w13 =>
(mo_beginThen w13.2).bind fun M15 =>
(iter (fun s => mo_join_b54 x1 x2 x3 s.1 s.2) FU (0, M15)).bind fun w24 =>
(iter (fun s => mo_join_b124  s.1 s.2 w24.2) FU (0, 1)).bind fun w29 =>
(some (up2 w24.2 278 12 0)).bind fun M30 =>
(mo_tell w29.1 M30).bind fun M32 =>
if 0 ≤ w29.1 ∧ w29.1 < 12 then
(mo_tell (M32 303 (w29.1).toNat) M32).bind fun M35 =>
some ((M35 303 0), M35)
else none
noncomputable def mo_shows_b36 (x1 : Int) (x2 : Int) (x3 : Int) (x4 : Int) (x5 : Int) (M : MEM) : Option ((Int × Int × MEM) ⊕ ((Int × MEM) ⊕ (Int × Int × MEM))) :=
if 600 ≤ x5 then
some (.inr (.inr (x4, x5, M)))
else
(mo_goMinute 292 M).bind fun M14 =>
if 0 ≤ x2 ∧ x2 < 3 then
if (wr (x4 + (M14 287 (x2).toNat))) < x3 then
some (.inl ((wr (x4 + (M14 287 (x2).toNat))), (wr (x5 + 1)), M14))
else
if 0 ≤ (wr ((wr (55 * x1)) + 2)) ∧ (wr ((wr (55 * x1)) + 2)) < 166 then
some (.inr (.inl ((Int.tmod (M14 292 ((wr ((wr (55 * x1)) + 2))).toNat) 12), M14)))
else none
else none
noncomputable def mo_shows (x1 : Int) (x2 : Int) (x3 : Int) (M : MEM) : Option (Int × MEM) :=
(some (up2 M 278 13 0)).bind fun M1 =>
if (mo_areTwo x1 x2 M1) = 0 then
some ((-1), M1)
else
if (mo_in x3 1 60) = 0 then
some ((-1), M1)
else
(mo_beginThen M1).bind fun M11 =>
(iter (fun s => mo_shows_b36 x1 x2 x3 s.1 s.2.1 s.2.2) FU (0, 0, M11)).bind (Sum.elim (fun r => some r) (fun w18 =>
some ((-2), w18.2.2)))
noncomputable def mo_boils (x1 : Int) (M : MEM) : Option (Int) :=
if 0 ≤ x1 ∧ x1 < 2400 then
some (wr ((M 293 (x1).toNat) - (M 293 0)))
else none
noncomputable def mo_egg_j99_54 (x2 : Int) (x3 : Int) (x4 : Int) (x5 : Int) (M : MEM) : Option ((Int × Int) ⊕ (Int × Int)) :=
some (.inl (x4, (wr (x5 + 1))))
noncomputable def mo_egg_b54 (x2 : Int) (x3 : Int) (x4 : Int) (x5 : Int) (M : MEM) : Option ((Int × Int) ⊕ (Int × Int)) :=
if 12 < x5 then
some (.inr (x4, x5))
else
if (M 278 38) ≤ x5 then
some (.inr (x4, x5))
else
(mo_boils x5 M).bind fun r20 =>
(mo_boils x4 M).bind fun r24 =>
if (iabs (wr (r24 - x3))) ≤ (iabs (wr (r20 - x3))) then
mo_egg_j99_54 x2 x3 x4 x5 M
else
mo_egg_j99_54 x2 x3 x5 x5 M
noncomputable def mo_egg_j105 (x2 : Int) (x4 : Int) (M : MEM) : Option (Int × MEM) :=
(some (up2 M 278 12 0)).bind fun M29 =>
(mo_tell x4 M29).bind fun M31 =>
(mo_boils x4 M31).bind fun r33 =>
(mo_tell r33 M31).bind fun M37 =>
(mo_boils x2 M37).bind fun r39 =>
some (r39, M37)
noncomputable def mo_egg (x1 : Int) (x2 : Int) (x3 : Int) (M : MEM) : Option (Int × MEM) :=
(some (up2 M 278 13 0)).bind fun M1 =>
if (mo_isDonkey x1 M1) = 0 then
some ((-1), M1)
else
if (mo_in x2 1 12) = 0 then
some ((-1), M1)
else
if (mo_isMore x3) = 0 then
some ((-1), M1)
else
(mo_timesNow x1 M1).bind fun M15 =>
if x2 < (M15 278 38) then
(iter (fun s => mo_egg_b54 x2 x3 s.1 s.2 M15) FU (1, 2)).bind fun w28 =>
mo_egg_j105 x2 w28.1 M15
else
some ((-2), M15)
noncomputable def mo_plant_j146_44 (x1 : Int) (x2 : Int) (x3 : Int) (x4 : Int) (x5 : Int) (x6 : Int) (M : MEM) : Option ((Int × Int × Int × MEM) ⊕ (Int × Int × Int × MEM)) :=
some (.inl (x4, x5, (wr (x6 + 1)), M))
noncomputable def mo_plant_j138_44 (x1 : Int) (x2 : Int) (x3 : Int) (x6 : Int) (x8 : Int) (M : MEM) : Option ((Int × Int × Int × MEM) ⊕ (Int × Int × Int × MEM)) :=
mo_plant_j146_44 x1 x2 x3 x6 x8 x6 M
noncomputable def mo_plant_j120_44 (x1 : Int) (x2 : Int) (x3 : Int) (x4 : Int) (x5 : Int) (x6 : Int) (s0 : Int) (M : MEM) : Option ((Int × Int × Int × MEM) ⊕ (Int × Int × Int × MEM)) :=
if x4 = (-1) then
mo_plant_j138_44 x1 x2 x3 x6 s0 M
else
if x5 < s0 then
mo_plant_j138_44 x1 x2 x3 x6 s0 M
else
mo_plant_j146_44 x1 x2 x3 x4 x5 x6 M
noncomputable def mo_plant_b44 (x1 : Int) (x2 : Int) (x3 : Int) (x4 : Int) (x5 : Int) (x6 : Int) (M : MEM) : Option ((Int × Int × Int × MEM) ⊕ (Int × Int × Int × MEM)) :=
if 0 ≤ x1 ∧ x1 < 3 then
if (M 280 (x1).toNat) ≤ x6 then
some (.inr (x4, x5, x6, M))
else
(mo_beginThen M).bind fun M17 =>
if 0 ≤ (wr ((wr ((wr (55 * x1)) + 3)) + x6)) ∧ (wr ((wr ((wr (55 * x1)) + 3)) + x6)) < 166 then
if 0 ≤ (wr ((wr ((wr (55 * x1)) + 3)) + x6)) ∧ (wr ((wr ((wr (55 * x1)) + 3)) + x6)) < 166 then
(some (up2 M17 292 ((wr ((wr ((wr (55 * x1)) + 3)) + x6))).toNat (min 9 (wr ((M17 292 ((wr ((wr ((wr (55 * x1)) + 3)) + x6))).toNat) + x2))))).bind fun M19 =>
(mo_findTimes x1 M19).bind fun M22 =>
if x3 ≤ (M22 278 38) then
if 0 ≤ (wr (x3 - 1)) ∧ (wr (x3 - 1)) < 2400 then
mo_plant_j120_44 x1 x2 x3 x4 x5 x6 (wr ((M22 293 ((wr (x3 - 1))).toNat) + 1)) M22
else none
else
mo_plant_j120_44 x1 x2 x3 x4 x5 x6 601 M22
else none
else none
else none
noncomputable def mo_plant_j172 (x4 : Int) (s1 : Int) (M : MEM) : Option (Int × MEM) :=
(mo_tell s1 M).bind fun M31 =>
some (x4, M31)
noncomputable def mo_plant (x1 : Int) (x2 : Int) (x3 : Int) (M : MEM) : Option (Int × MEM) :=
(some (up2 M 278 13 0)).bind fun M1 =>
if (mo_isDonkey x1 M1) = 0 then
some ((-1), M1)
else
if (mo_in x2 1 9) = 0 then
some ((-1), M1)
else
if (mo_in x3 1 60) = 0 then
some ((-1), M1)
else
(iter (fun s => mo_plant_b44 x1 x2 x3 s.1 s.2.1 s.2.2.1 s.2.2.2) FU ((-1), 0, 0, M1)).bind fun w27 =>
(some (up2 w27.2.2.2 278 12 0)).bind fun M28 =>
if w27.2.1 = 601 then
mo_plant_j172 w27.1 (-1) M28
else
mo_plant_j172 w27.1 w27.2.1 M28
noncomputable def mo_keep (x1 : Int) (M : MEM) : Option (Int × MEM) :=
(some (up2 M 278 13 0)).bind fun M1 =>
if (mo_in x1 0 1) = 0 then
some (0, M1)
else
if 0 ≤ x1 ∧ x1 < 2 then
(some (up2 M1 305 (x1).toNat 1)).bind fun M6 =>
if 0 ≤ x1 ∧ x1 < 2 then
(some (up2 M6 306 (x1).toNat (M6 278 51))).bind fun M8 =>
(mo_layAll 304 (wr (207 * x1)) M8).bind fun M11 =>
some (1, M11)
else none
else none
noncomputable def mo_again_b40 (x1 : Int) (x2 : Int) (M : MEM) : Option ((Int × MEM) ⊕ (Int × MEM)) :=
if 166 ≤ x2 then
some (.inr (x2, M))
else
if 0 ≤ (wr ((wr (207 * x1)) + x2)) ∧ (wr ((wr (207 * x1)) + x2)) < 414 then
if 0 ≤ x2 ∧ x2 < 166 then
(some (up2 M 279 (x2).toNat (M 304 ((wr ((wr (207 * x1)) + x2))).toNat))).bind fun M12 =>
some (.inl ((wr (x2 + 1)), M12))
else none
else none
noncomputable def mo_again (x1 : Int) (M : MEM) : Option (Int × MEM) :=
(some (up2 M 278 13 0)).bind fun M1 =>
if (mo_in x1 0 1) = 0 then
some (0, M1)
else
if 0 ≤ x1 ∧ x1 < 2 then
if (M1 305 (x1).toNat) = 0 then
some (0, M1)
else
if 0 ≤ x1 ∧ x1 < 2 then
if (M1 306 (x1).toNat) = (M1 278 51) then
(iter (fun s => mo_again_b40 x1 s.1 s.2) FU (0, M1)).bind fun w14 =>
(mo_takeCarrots 304 (wr (207 * x1)) w14.2).bind fun M16 =>
(some (up2 M16 278 31 0)).bind fun M17 =>
some (1, M17)
else
some (0, M1)
else none
else none
noncomputable def mo_count_b90  (x2 : Int) (x3 : Int) (M : MEM) : Option ((Int × Int) ⊕ (Int × Int)) :=
if (M 278 1) ≤ x3 then
some (.inr (x2, x3))
else
(mo_strokes x3 M).bind fun r9 =>
some (.inl ((wr (x2 + r9)), (wr (x3 + 1))))
noncomputable def mo_count_b116  (x2 : Int) (x3 : Int) (M : MEM) : Option ((Int × Int) ⊕ (Int × Int)) :=
if (M 278 1) ≤ x3 then
some (.inr (x2, x3))
else
(mo_allThistles 279 x3 M).bind fun r16 =>
some (.inl ((wr (x2 + r16)), (wr (x3 + 1))))
noncomputable def mo_count (x1 : Int) (M : MEM) : Option (Int × MEM) :=
(some (up2 M 278 13 0)).bind fun M1 =>
if x1 = 0 then
some ((M1 278 1), M1)
else
if x1 = 1 then
some ((M1 279 165), M1)
else
if x1 = 2 then
some ((M1 278 7), M1)
else
if x1 = 3 then
some ((M1 278 41), M1)
else
if x1 = 4 then
(iter (fun s => mo_count_b90  s.1 s.2 M1) FU (0, 0)).bind fun w12 =>
some (w12.1, M1)
else
if x1 = 5 then
(iter (fun s => mo_count_b116  s.1 s.2 M1) FU (0, 0)).bind fun w19 =>
some (w19.1, M1)
else
if x1 = 6 then
some ((M1 278 31), M1)
else
if x1 = 7 then
some ((M1 278 49), M1)
else
if x1 = 8 then
some ((M1 278 12), M1)
else
if x1 = 9 then
some ((M1 278 10), M1)
else
some ((-1), M1)
noncomputable def mo_row (x1 : Int) (M : MEM) : Option (Int × MEM) :=
(some (up2 M 278 13 0)).bind fun M1 =>
if (mo_in x1 0 (wr ((M1 278 12) - 1))) = 0 then
(mo_lost M1).bind fun p7 =>
some (p7.1, p7.2)
else
if 0 ≤ x1 ∧ x1 < 16 then
some ((M1 284 (x1).toNat), M1)
else none
