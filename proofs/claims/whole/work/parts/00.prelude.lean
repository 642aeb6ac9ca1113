def xFuel : Nat := 1000000
def xout (i : Int32) (n : Nat) : Bool := decide (i < 0 ∨ n ≤ i.toNatClampNeg)
def xush (x y : Int32) : Int32 := (x.toUInt32 >>> (y.toUInt32 &&& Int32.toUInt32 31)).toInt32
def xrem (x y : Int32) : Int32 := x - x / y * y
def xmax (x y : Int32) : Int32 := if x < y then y else x
def xmin (x y : Int32) : Int32 := if y < x then y else x
def xQ0 : List (List Int32) := [[123, 105, 110, 104, 101, 114, 105, 116, 125], [123, 99, 111, 100, 101, 32], [123, 108, 105, 110, 107, 32], [112, 97, 114, 97, 109], [114, 101, 116, 117, 114, 110], [116, 104, 114, 111, 119, 115], [115, 101, 101], [115, 105, 110, 99, 101], []]
def xqL (k : Nat) : Option Int32 := if k < 9 then some (Int32.ofNat (xQ0.getD k []).length) else none
def xqC (k : Nat) (i : Int32) : Option Int32 := if k < 9 ∧ xout i (xQ0.getD k []).length = false then some ((xQ0.getD k []).getD i.toNatClampNeg 0) else none
def mSz : List Nat := [600, 0, 0, 40, 40, 40, 40, 400, 40, 40, 1600, 160, 24600, 41, 41, 41, 984, 984, 984, 984, 984, 984, 984, 984, 4920, 4920, 4920, 4920, 4920, 4920, 4920, 0, 0, 0, 0, 0, 0, 0, 0, 0, 0, 0, 0, 0, 4000, 0, 4001, 0, 0, 0, 40, 0, 4000, 0, 4001, 0, 0, 0, 40, 0, 3000, 0, 130, 0, 130, 131, 1000, 1000, 0, 42, 42, 200, 200, 0]
/-- the byte of a number -/
def bOf (x : Int32) : Nat := x.toBitVec.toNat % 256
theorem bOf_lt (x : Int32) : bOf x < 256 := Nat.mod_lt _ (by decide)
theorem bOf_st (x : Int32) : vp_nar .byte x.toInt8.toInt32 = sb_b (bOf x) := by
  rw [vp_nar_byte]
  unfold sb_b bOf nI
  have e : ((Int32.ofNat (x.toBitVec.toNat % 256)).toInt8) = x.toInt8 := by
    apply Int8.toBitVec_inj.mp
    apply BitVec.eq_of_toNat_eq
    simp
    rw [BitVec.signExtend_eq_setWidth_of_le _ (by decide), BitVec.toNat_setWidth]
  rw [e]
  apply Int32.toBitVec_inj.mp
  simp
theorem sh_byte (x s : Int32) (k : Nat) (hk : k = 24 ∨ k = 16 ∨ k = 8 ∨ k = 0) (h1 : ((s &&& 31).toBitVec.smod 32).toNat = k) (h2 : ((s.toUInt32 &&& Int32.toUInt32 31).toBitVec % 32).toNat = k) : (x >>> (s &&& 31)) &&& 255 = nI (bOf (xush x s)) := by
  rw [pk_and (x >>> (s &&& 31)) (m := 255) 8 (by decide)]
  unfold bOf xush
  rw [pk_ushr x s k h2]
  congr 1
  have e1 := pk_shr x (s &&& 31) k h1
  generalize x >>> (s &&& 31) = y at e1
  have hy : y.toInt = if 2 * y.toBitVec.toNat < 2 ^ 32 then (y.toBitVec.toNat : Int) else (y.toBitVec.toNat : Int) - 2 ^ 32 := BitVec.toInt_eq_toNat_cond y.toBitVec
  have hx : x.toInt = if 2 * x.toBitVec.toNat < 2 ^ 32 then (x.toBitVec.toNat : Int) else (x.toBitVec.toNat : Int) - 2 ^ 32 := BitVec.toInt_eq_toNat_cond x.toBitVec
  have bx := x.toBitVec.isLt
  have bY := y.toBitVec.isLt
  generalize x.toBitVec.toNat = X at hx bx ⊢
  generalize y.toBitVec.toNat = Y at hy bY ⊢
  rw [hx, hy, Int.shiftRight_eq_div_pow] at e1
  rcases hk with rfl | rfl | rfl | rfl <;> split at e1 <;> split at e1 <;> omega
/-- the four bytes of a number, the highest first -/
def b4 (x : Int32) : List Nat := [bOf (xush x 24), bOf (xush x 16), bOf (xush x 8), bOf (xush x 0)]
