abbrev mS : Type := (Nat → Int32) × (Nat → Nat → Int32)
def sPut (S : mS) (k : Nat) (v : Int32) : mS := (fun j => if j = k then v else S.1 j, S.2)
def sSet (S : mS) (k i : Nat) (v : Int32) : mS := (S.1, fun j n => if j = k ∧ n = i then v else S.2 j n)
def sLd (S : mS) (k : Nat) (i : Int32) : Option Int32 := if xout i (mSz.getD k 0) = false then some (S.2 k i.toNatClampNeg) else none
def sSt (S : mS) (k : Nat) (i v : Int32) : Option mS := if xout i (mSz.getD k 0) = false then some (sSet S k i.toNatClampNeg v) else none
abbrev xC : Type := Nat × Nat × (Nat → Nat × Nat) × (Nat → Nat → Int32) × (Nat → Nat → Option Nat)
def cK (C : xC) (a : Nat) : Nat × Nat := C.2.2.1 a
def cI (C : xC) (a k : Nat) : Int32 := C.2.2.2.1 a k
def cR (C : xC) (a k : Nat) : Option Nat := C.2.2.2.2 a k
def cFt : List (List Nat) := [[1, 99, 99, 99, 99, 99, 99, 99, 99, 2], [9, 15, 17, 99, 99, 2], [99, 9, 2, 2, 99, 18, 99, 1, 99], [15, 99, 9, 13, 99, 13, 13, 99, 99, 99], [13, 13, 99], [9, 13, 16, 99, 99, 99, 99, 99, 99], [99, 99, 99, 99, 99, 99, 99, 2], [9, 1, 9, 0, 99, 99, 99], [16, 99], [12, 99], [9, 8, 7, 3, 4, 1, 5, 5], [13, 99, 99, 14, 13, 13, 14, 13, 13, 13, 13, 13, 13, 13, 13, 13, 13, 13, 13, 13, 13, 13, 13, 14, 13, 13, 13, 13, 14, 13, 13, 99, 99, 99, 99, 99, 99, 99, 99, 99, 99, 99, 99, 99, 13, 99, 13, 99, 99, 99, 13, 99, 13, 99, 13, 99, 99, 99, 13, 99, 13, 99, 13, 99, 13, 13, 13, 13, 99, 13, 13, 13, 13, 99]]
def cF (ci k : Nat) : Nat := if ci < 12 then (cFt.getD ci []).getD k 99 else [99, 99, 99, 0, 2, 6, 9].getD (ci - 12) 99
def cN (ci : Nat) : Nat := (cFt.getD ci []).length
def uI (C : xC) (a k : Nat) (v : Int32) : xC := (C.1, C.2.1, C.2.2.1, fun b j => if b = a ∧ j = k then v else C.2.2.2.1 b j, C.2.2.2.2)
def uR (C : xC) (a k : Nat) (v : Option Nat) : xC := (C.1, C.2.1, C.2.2.1, C.2.2.2.1, fun b j => if b = a ∧ j = k then v else C.2.2.2.2 b j)
def cAdd (C : xC) (ci n : Nat) : xC := (C.1 + 1, C.2.1 + n, fun b => if b = C.1 then (ci, n) else C.2.2.1 b, fun b j => if b = C.1 then 0 else C.2.2.2.1 b j, fun b j => if b = C.1 then none else C.2.2.2.2 b j)
def cNew (C : xC) (ci : Nat) : xC := cAdd C ci (cN ci)
def cNA (C : xC) (tg : Nat) (n : Int32) : Option xC := if ¬ n < 0 ∧ n.toNatClampNeg * 8 ≤ 536870912 then some (cAdd C tg n.toNatClampNeg) else none
def cLd (C : xC) (a : Nat) (i : Int32) : Option Int32 := if xout i (cK C a).2 = false then some (cI C a i.toNatClampNeg) else none
def cLR (C : xC) (a : Nat) (i : Int32) : Option (Option Nat) := if xout i (cK C a).2 = false then some (cR C a i.toNatClampNeg) else none
def cSt (C : xC) (a : Nat) (i v : Int32) : Option xC := if xout i (cK C a).2 = false then some (uI C a i.toNatClampNeg v) else none
def cSR (C : xC) (a : Nat) (i : Int32) (v : Option Nat) : Option xC := if xout i (cK C a).2 = false then some (uR C a i.toNatClampNeg v) else none
