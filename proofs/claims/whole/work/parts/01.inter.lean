abbrev xH : Type := Nat × Nat × (Nat → Nat × List Value)
abbrev xR : Type := Option Value × xH
abbrev xCfg : Type := Nat × List Value × List Value × xH
abbrev xOut : Type := xCfg ⊕ ((Nat × List Value × xCfg) ⊕ xR)
/-- a method: name, bytes, how many variables, what it gives, how many parameters -/
abbrev xMt : Type := MethodName × ByteArray × Nat × Option FieldType × Nat
/-- the tables: methods; instructions; fields (kind, place, flag); calls (sort, method, kind); new; arrays of references; texts; longs; the kinds; their fields' types; the script -/
abbrev xT : Type := (Nat → Option xMt) × (Nat → Nat → Option (Jvm.ClassFile.Instr × Nat)) × (Nat → Nat → Option (Nat × Nat × Nat)) × (Nat → Nat → Option (Nat × Nat × Nat)) × (Nat → Nat → Option Nat) × (Nat → Nat → Option Nat) × (Nat → Nat → Option Nat) × (Nat → Nat → Option Int64) × List vw_C × (Nat → List FieldType) × (Nat → String) × List Int32 × List (List Int32)
def xtM (T : xT) : Nat → Option xMt := T.1
def xtI (T : xT) : Nat → Nat → Option (Jvm.ClassFile.Instr × Nat) := T.2.1
def xtF (T : xT) : Nat → Nat → Option (Nat × Nat × Nat) := T.2.2.1
def xtV (T : xT) : Nat → Nat → Option (Nat × Nat × Nat) := T.2.2.2.1
def xtC (T : xT) : Nat → Nat → Option Nat := T.2.2.2.2.1
def xtA (T : xT) : Nat → Nat → Option Nat := T.2.2.2.2.2.1
def xtS (T : xT) : Nat → Nat → Option Nat := T.2.2.2.2.2.2.1
def xtJ (T : xT) : Nat → Nat → Option Int64 := T.2.2.2.2.2.2.2.1
def xtL (T : xT) : List vw_C := T.2.2.2.2.2.2.2.2.1
def xtD (T : xT) : Nat → List FieldType := T.2.2.2.2.2.2.2.2.2.1
def xtE (T : xT) : Nat → String := T.2.2.2.2.2.2.2.2.2.2.1
def xtX (T : xT) : List Int32 := T.2.2.2.2.2.2.2.2.2.2.2.1
/-- the bytes of the texts -/
def xtQ (T : xT) : List (List Int32) := T.2.2.2.2.2.2.2.2.2.2.2.2
def xset (h : xH) (a : Nat) (c : Nat × List Value) : xH := (h.1, h.2.1, fun j => if j = a then c else h.2.2 j)
def xnew (h : xH) (c : Nat × List Value) : xH := (h.1 + 1, h.2.1 + c.2.length, fun j => if j = h.1 then c else h.2.2 j)
def xkind : Nat → Value → Bool
  | 0, .int _ => true
  | 1, .ref _ => true
  | 1, .null => true
  | 1, .retAddr _ => true
  | 2, .long _ => true
  | 3, .ref _ => true
  | 3, .null => true
  | _, _ => false
def xpush (n : Nat) (v : Value) (pc : Nat) (L st : List Value) (h : xH) : Option xOut := some (.inl (pc + n, L, v :: st, h))
def xload (kd i n pc : Nat) (L st : List Value) (h : xH) : Option xOut := match L[i]? with
  | some v => if xkind kd v = true then some (.inl (pc + n, L, v :: st, h)) else none
  | none => none
def xokst (L : List Value) (i : Nat) : Bool := decide (i < L.length) && (decide (i = 0) || (L.getD (i - 1) .null).category == 1)
def xstore (kd i n pc : Nat) (L st : List Value) (h : xH) : Option xOut := match st with
  | v :: r => if xkind kd v = true ∧ xokst L i = true then some (.inl (pc + n, L.set i v, r, h)) else none
  | _ => none
def xgo (pc : Nat) (off : Int) : Option Nat := if 0 ≤ (pc : Int) + off then some ((pc : Int) + off).toNat else none
def xto (pc : Nat) (off : Int) (L st : List Value) (h : xH) : Option xOut := match xgo pc off with
  | some t => some (.inl (t, L, st, h))
  | none => none
def xbr (b : Bool) (pc : Nat) (off : Int) (L st : List Value) (h : xH) : Option xOut := match xgo pc off with
  | some t => if b = true then some (.inl (t, L, st, h)) else some (.inl (pc + 3, L, st, h))
  | none => none
def xcond (k : Jvm.ClassFile.Cond) (x y : Int32) : Bool := match k with
  | .eq => decide (x = y)
  | .ne => decide (¬ x = y)
  | .lt => decide (x < y)
  | .ge => decide (y ≤ x)
  | .gt => decide (y < x)
  | .le => decide (x ≤ y)
def xbin (f : Int32 → Int32 → Int32) (pc : Nat) (L st : List Value) (h : xH) : Option xOut := match st with
  | .int y :: .int x :: r => some (.inl (pc + 1, L, .int (f x y) :: r, h))
  | _ => none
def xout (i : Int32) (n : Nat) : Bool := decide (i < 0 ∨ n ≤ i.toNatClampNeg)
def xaload (kd tg1 tg2 pc : Nat) (L st : List Value) (h : xH) : Option xOut := match st with
  | .int i :: .ref a :: r => if a < h.1 ∧ (tg1 ≤ (h.2.2 a).1 ∧ (h.2.2 a).1 < tg2) ∧ xout i (h.2.2 a).2.length = false then (match (h.2.2 a).2[i.toNatClampNeg]? with
    | some v => if xkind kd v = true then some (.inl (pc + 1, L, v :: r, h)) else none
    | none => none) else none
  | _ => none
def xsload (T : xT) (pc : Nat) (L st : List Value) (h : xH) : Option xOut := match st with
  | .int i :: .retAddr 0 :: r => if xout i (xtX T).length = false then some (.inl (pc + 1, L, .int ((xtX T).getD i.toNatClampNeg 0) :: r, h)) else none
  | _ => xaload 0 13 14 pc L st h
def xiast (tg : Nat) (f : Int32 → Int32) (pc : Nat) (L st : List Value) (h : xH) : Option xOut := match st with
  | .int x :: .int i :: .ref a :: r => if a < h.1 ∧ (h.2.2 a).1 = tg ∧ xout i (h.2.2 a).2.length = false then some (.inl (pc + 1, L, r, xset h a (tg, (h.2.2 a).2.set i.toNatClampNeg (.int (f x))))) else none
  | _ => none
def xbast (pc : Nat) (L st : List Value) (h : xH) : Option xOut := match st with
  | .int _ :: .int _ :: .ref a :: _ => if (h.2.2 a).1 = 12 then xiast 12 (vp_nar .byte) pc L st h else xiast 14 (vp_nar .boolean) pc L st h
  | _ => none
def xaast (pc : Nat) (L st : List Value) (h : xH) : Option xOut := match st with
  | .null :: .int i :: .ref a :: r => if a < h.1 ∧ (15 ≤ (h.2.2 a).1 ∧ (h.2.2 a).1 < 19) ∧ xout i (h.2.2 a).2.length = false then some (.inl (pc + 1, L, r, xset h a ((h.2.2 a).1, (h.2.2 a).2.set i.toNatClampNeg .null))) else none
  | .ref v :: .int i :: .ref a :: r => if (a < h.1 ∧ v < h.1) ∧ ((15 ≤ (h.2.2 a).1 ∧ (h.2.2 a).1 < 19) ∧ (h.2.2 v).1 = [0, 2, 6, 9].getD ((h.2.2 a).1 - 15) 99) ∧ xout i (h.2.2 a).2.length = false then some (.inl (pc + 1, L, r, xset h a ((h.2.2 a).1, (h.2.2 a).2.set i.toNatClampNeg (.ref v)))) else none
  | _ => none
def xlen (T : xT) (pc : Nat) (L st : List Value) (h : xH) : Option xOut := match st with
  | .retAddr 0 :: r => some (.inl (pc + 1, L, .int (Int32.ofNat (xtX T).length) :: r, h))
  | .ref a :: r => if a < h.1 ∧ 12 ≤ (h.2.2 a).1 ∧ (h.2.2 a).1 < 19 then some (.inl (pc + 1, L, .int (Int32.ofNat (h.2.2 a).2.length) :: r, h)) else none
  | .retAddr (j + 1) :: r => if 100 ≤ j ∧ j - 100 < (xtQ T).length then some (.inl (pc + 1, L, .int (Int32.ofNat ((xtQ T).getD (j - 100) []).length) :: r, h)) else none
  | _ => none
/-- a byte of a text -/
def xtld (T : xT) (pc : Nat) (L st : List Value) (h : xH) : Option xOut := match st with
  | .int i :: .retAddr (j + 1) :: r => if (100 ≤ j ∧ j - 100 < (xtQ T).length) ∧ xout i ((xtQ T).getD (j - 100) []).length = false then some (.inl (pc + 1, L, .int (((xtQ T).getD (j - 100) []).getD i.toNatClampNeg 0) :: r, h)) else none
  | _ => none
def xmka (tg n : Nat) (v : Value) (pc : Nat) (L st : List Value) (h : xH) : Option xOut := match st with
  | .int k :: r => if ¬ k < 0 ∧ k.toNatClampNeg * 8 ≤ 536870912 then some (.inl (pc + n, L, .ref h.1 :: r, xnew h (tg, List.replicate k.toNatClampNeg v))) else none
  | _ => none
def xget (T : xT) (mi idx pc : Nat) (L st : List Value) (h : xH) : Option xOut := match st, xtF T mi idx with
  | .ref a :: r, some (ci, k, _) => if a < h.1 ∧ (h.2.2 a).1 = ci ∧ ci < 12 then (match (h.2.2 a).2[k]? with
    | some v => some (.inl (pc + 3, L, v :: r, h))
    | none => none) else none
  | .retAddr (j + 1) :: r, some (ci, k, _) => if (ci = 20 ∧ j < (xtQ T).length) ∧ k < 2 then some (.inl (pc + 3, L, (if k = 0 then .retAddr (j + 101) else .int 0) :: r, h)) else none
  | _, _ => none
/-- a static field of the library's -/
def xgst (T : xT) (mi idx pc : Nat) (L st : List Value) (h : xH) : Option xOut := match xtF T mi idx with
  | some (ci, k, _) => if ci = 21 ∧ k < 2 then some (.inl (pc + 3, L, (if k = 0 then .int 1 else .retAddr 201) :: st, h)) else none
  | none => none
/-- a text -/
def xldc (T : xT) (mi idx n pc : Nat) (L st : List Value) (h : xH) : Option xOut := match xtS T mi idx with
  | some k => if k < (xtQ T).length then some (.inl (pc + n, L, .retAddr (k + 1) :: st, h)) else none
  | none => none
/-- what a place of a type may take -/
def xfit (ty : FieldType) (v : Value) : Bool := match v with
  | .int x => decide (narrow ty (.int x) = .int x) && fits ty (.int x)
  | .ref _ => fits ty (.ref 0)
  | .null => fits ty .null
  | _ => false
def xput (T : xT) (mi idx pc : Nat) (L st : List Value) (h : xH) : Option xOut := match st, xtF T mi idx with
  | v :: .ref a :: r, some (ci, k, fl) => if (a < h.1 ∧ (h.2.2 a).1 = ci ∧ ci < 12) ∧ (k < (h.2.2 a).2.length ∧ xfit ((xtD T ci).getD k .int) v = true) ∧ fl < 3 then some (.inl (pc + 3, L, r, xset h a (ci, (h.2.2 a).2.set k v))) else none
  | _, _ => none
def xmk (T : xT) (mi idx pc : Nat) (L st : List Value) (h : xH) : Option xOut := match xtC T mi idx with
  | some ci => if ci < 12 then some (.inl (pc + 3, L, .ref h.1 :: st, xnew h (ci, (xtD T ci).map defaultValue))) else none
  | none => none
def xcat (st : List Value) : Nat := (st.map fun v => v.category).sum
def xcallI (T : xT) (mj ci pc : Nat) (L st : List Value) (h : xH) : Option xOut := match xtM T mj with
  | some (_, _, _, _, n) => (match st.drop n with
    | .ref a :: rest => if (n ≤ st.length ∧ xcat rest ≤ 8) ∧ (a < h.1 ∧ (h.2.2 a).1 = ci ∧ ci < 12) then some (.inr (.inl (mj, .ref a :: (st.take n).reverse, (pc + 3, L, rest, h)))) else none
    | _ => none)
  | none => none
def xcallS (T : xT) (mj pc : Nat) (L st : List Value) (h : xH) : Option xOut := match xtM T mj with
  | some (_, _, _, _, n) => if n ≤ st.length ∧ xcat (st.drop n) ≤ 8 then some (.inr (.inl (mj, (st.take n).reverse, (pc + 3, L, st.drop n, h)))) else none
  | none => none
/-- a call of a text's method -/
def xcallT (T : xT) (mj pc : Nat) (L st : List Value) (h : xH) : Option xOut := match xtM T mj with
  | some (_, _, _, _, n) => (match st.drop n with
    | .retAddr (j + 1) :: rest => if (n ≤ st.length ∧ xcat rest ≤ 8) ∧ j < (xtQ T).length then some (.inr (.inl (mj, .retAddr (j + 1) :: (st.take n).reverse, (pc + 3, L, rest, h)))) else none
    | _ => none)
  | none => none
def xobj (pc : Nat) (L st : List Value) (h : xH) : Option xOut := match st with
  | .ref _ :: r => if xcat r ≤ 8 then some (.inl (pc + 3, L, r, h)) else none
  | _ => none
def xmath (b : Bool) (pc : Nat) (L st : List Value) (h : xH) : Option xOut := match st with
  | .int y :: .int x :: r => if xcat r ≤ 8 then some (.inl (pc + 3, L, .int (if b = true then (if x < y then y else x) else (if y < x then y else x)) :: r, h)) else none
  | _ => none
/-- sorts of calls: 0 virtual, 1 virtual of a nest, 2 made, 3 made in a nest, 4 static, 5 static of a nest, 6 Object, 7 max, 8 min, 9 virtual of a text -/
def xvirt (T : xT) (mi idx pc : Nat) (L st : List Value) (h : xH) : Option xOut := match xtV T mi idx with
  | some (kd, mj, ci) => if kd < 2 then xcallI T mj ci pc L st h else if kd = 9 then xcallT T mj pc L st h else none
  | none => none
def xspec (T : xT) (mi idx pc : Nat) (L st : List Value) (h : xH) : Option xOut := match xtV T mi idx with
  | some (kd, mj, ci) => if kd = 6 then xobj pc L st h else if kd = 2 ∨ kd = 3 then xcallI T mj ci pc L st h else none
  | none => none
def xstat (T : xT) (mi idx pc : Nat) (L st : List Value) (h : xH) : Option xOut := match xtV T mi idx with
  | some (kd, mj, _) => if kd = 7 then xmath true pc L st h else if kd = 8 then xmath false pc L st h else if kd = 4 ∨ kd = 5 then xcallS T mj pc L st h else none
  | none => none
def xret (T : xT) (mi : Nat) (st : List Value) (h : xH) : Option xOut := match xtM T mi, st with
  | some (_, _, _, some ty, _), [.int x] => if narrow ty (.int x) = .int x then some (.inr (.inr (some (.int x), h))) else none
  | _, _ => none
def xaret (T : xT) (mi : Nat) (st : List Value) (h : xH) : Option xOut := match xtM T mi, st with
  | some (_, _, _, some (.object _), _), [v] => if xkind 1 v = true then some (.inr (.inr (some v, h))) else none
  | _, _ => none
def xvret (T : xT) (mi : Nat) (st : List Value) (h : xH) : Option xOut := match xtM T mi, st with
  | some (_, _, _, none, _), [] => some (.inr (.inr (none, h)))
  | _, _ => none
def xacmp (ne : Bool) (pc : Nat) (off : Int) (L st : List Value) (h : xH) : Option xOut := match st with
  | y :: x :: r => if xkind 3 x = true ∧ xkind 3 y = true then xbr (if ne = true then decide (x ≠ y) else decide (x = y)) pc off L r h else none
  | _ => none
def xnul (nn : Bool) (pc : Nat) (off : Int) (L st : List Value) (h : xH) : Option xOut := match st with
  | .null :: r => xbr (!nn) pc off L r h
  | .ref _ :: r => xbr nn pc off L r h
  | _ => none
def xtsw (d lo hi : Int) (os : Array Int) (pc : Nat) (L st : List Value) (h : xH) : Option xOut := match st with
  | .int x :: r => if x.toInt < lo ∨ hi < x.toInt then xto pc d L r h else (match os[(x.toInt - lo).toNat]? with
    | some o => xto pc o L r h
    | none => none)
  | _ => none
def xlsw (d : Int) (ps : Array (Int × Int)) (pc : Nat) (L st : List Value) (h : xH) : Option xOut := match st with
  | .int x :: r => if (ps.toList.zip (ps.toList.drop 1)).all (fun (a, next) => a.1 < next.1) = true then xto pc (Op.lookupswitch.offset ps.toList d x.toInt) L r h else none
  | _ => none
def xlong (f : Int64 → Int64 → Int64) (pc : Nat) (L st : List Value) (h : xH) : Option xOut := match st with
  | .long y :: .long x :: r => some (.inl (pc + 1, L, .long (f x y) :: r, h))
  | _ => none
def xlshr (pc : Nat) (L st : List Value) (h : xH) : Option xOut := match st with
  | .int y :: .long x :: r => some (.inl (pc + 1, L, .long (x >>> (y.toInt64 &&& 63)) :: r, h))
  | _ => none
def xl2i (pc : Nat) (L st : List Value) (h : xH) : Option xOut := match st with
  | .long x :: r => some (.inl (pc + 1, L, .int x.toInt32 :: r, h))
  | _ => none
def xi2b (pc : Nat) (L st : List Value) (h : xH) : Option xOut := match st with
  | .int x :: r => some (.inl (pc + 1, L, .int x.toInt8.toInt32 :: r, h))
  | _ => none
def xi2c (pc : Nat) (L st : List Value) (h : xH) : Option xOut := match st with
  | .int x :: r => some (.inl (pc + 1, L, .int (x.toUInt32 % 65536).toInt32 :: r, h))
  | _ => none
def xdiv (b : Bool) (pc : Nat) (L st : List Value) (h : xH) : Option xOut := match st with
  | .int y :: .int x :: r => if y = 0 then none else some (.inl (pc + 1, L, .int (if b = true then x / y else x - x / y * y) :: r, h))
  | _ => none
def xinc (i : Nat) (n : Int) (pc : Nat) (L st : List Value) (h : xH) : Option xOut := match L[i]? with
  | some (.int x) => if xokst L i = true then some (.inl (pc + 3, L.set i (.int (x + Int32.ofInt n)), st, h)) else none
  | _ => none
def xdup (pc : Nat) (L st : List Value) (h : xH) : Option xOut := match st with
  | v :: r => if v.category = 1 then some (.inl (pc + 1, L, v :: v :: r, h)) else none
  | _ => none
def xdup2 (pc : Nat) (L st : List Value) (h : xH) : Option xOut := match st with
  | v :: w :: r => if v.category = 1 ∧ w.category = 1 then some (.inl (pc + 1, L, v :: w :: v :: w :: r, h)) else none
  | _ => none
def xpop (pc : Nat) (L st : List Value) (h : xH) : Option xOut := match st with
  | v :: r => if v.category = 1 then some (.inl (pc + 1, L, r, h)) else none
  | _ => none
def xif (k : Jvm.ClassFile.Cond) (pc : Nat) (off : Int) (L st : List Value) (h : xH) : Option xOut := match st with
  | .int x :: r => xbr (xcond k x 0) pc off L r h
  | _ => none
def xicmp (k : Jvm.ClassFile.Cond) (pc : Nat) (off : Int) (L st : List Value) (h : xH) : Option xOut := match st with
  | .int y :: .int x :: r => xbr (xcond k x y) pc off L r h
  | _ => none
def xpush? (n : Nat) (v : Option Value) (pc : Nat) (L st : List Value) (h : xH) : Option xOut := match v with
  | some v => some (.inl (pc + n, L, v :: st, h))
  | none => none
/-- one instruction; len: its length -/
def xDo (T : xT) (mi : Nat) (ins : Jvm.ClassFile.Instr) (len pc : Nat) (L st : List Value) (h : xH) : Option xOut :=
  match ins with
  | .aconst_null => if len = 1 then xpush 1 .null pc L st h else none
  | .iconst n => if len = 1 then xpush 1 (.int (Int32.ofInt n)) pc L st h else none
  | .bipush n => if len = 2 then xpush 2 (.int (Int8.ofInt n).toInt32) pc L st h else none
  | .sipush n => if len = 3 then xpush 3 (.int (Int16.ofInt n).toInt32) pc L st h else none
  | .ldc2_w i => if len = 3 then xpush? 3 ((xtJ T mi i).map .long) pc L st h else none
  | .iload i => if len = 2 then xload 0 i 2 pc L st h else none
  | .iload_n i => if len = 1 then xload 0 i 1 pc L st h else none
  | .aload i => if len = 2 then xload 1 i 2 pc L st h else none
  | .aload_n i => if len = 1 then xload 1 i 1 pc L st h else none
  | .lload_n i => if len = 1 then xload 2 i 1 pc L st h else none
  | .istore i => if len = 2 then xstore 0 i 2 pc L st h else none
  | .istore_n i => if len = 1 then xstore 0 i 1 pc L st h else none
  | .astore i => if len = 2 then xstore 1 i 2 pc L st h else none
  | .astore_n i => if len = 1 then xstore 1 i 1 pc L st h else none
  | .iinc i n => if len = 3 then xinc i n pc L st h else none
  | .iadd => if len = 1 then xbin (fun x y => x + y) pc L st h else none
  | .isub => if len = 1 then xbin (fun x y => x - y) pc L st h else none
  | .imul => if len = 1 then xbin (fun x y => x * y) pc L st h else none
  | .iand => if len = 1 then xbin (fun x y => x &&& y) pc L st h else none
  | .ishr => if len = 1 then xbin (fun x y => x >>> (y &&& 31)) pc L st h else none
  | .iushr => if len = 1 then xbin (fun x y => (x.toUInt32 >>> (y.toUInt32 &&& Int32.toUInt32 31)).toInt32) pc L st h else none
  | .idiv => if len = 1 then xdiv true pc L st h else none
  | .irem => if len = 1 then xdiv false pc L st h else none
  | .i2b => if len = 1 then xi2b pc L st h else none
  | .i2c => if len = 1 then xi2c pc L st h else none
  | .ldc i => if len = 2 then xldc T mi i 2 pc L st h else none
  | .ldc_w i => if len = 3 then xldc T mi i 3 pc L st h else none
  | .getstatic i => if len = 3 then xgst T mi i pc L st h else none
  | .l2i => if len = 1 then xl2i pc L st h else none
  | .land => if len = 1 then xlong (fun x y => x &&& y) pc L st h else none
  | .lshr => if len = 1 then xlshr pc L st h else none
  | .dup => if len = 1 then xdup pc L st h else none
  | .dup2 => if len = 1 then xdup2 pc L st h else none
  | .pop => if len = 1 then xpop pc L st h else none
  | .ifCond k off => if len = 3 then xif k pc off L st h else none
  | .if_icmp k off => if len = 3 then xicmp k pc off L st h else none
  | .if_acmp .eq off => if len = 3 then xacmp false pc off L st h else none
  | .if_acmp .ne off => if len = 3 then xacmp true pc off L st h else none
  | .ifnull off => if len = 3 then xnul false pc off L st h else none
  | .ifnonnull off => if len = 3 then xnul true pc off L st h else none
  | .goto off => if len = 3 then xto pc off L st h else none
  | .tableswitch d lo hi os => xtsw d lo hi os pc L st h
  | .lookupswitch d ps => xlsw d ps pc L st h
  | .getfield i => if len = 3 then xget T mi i pc L st h else none
  | .putfield i => if len = 3 then xput T mi i pc L st h else none
  | .new i => if len = 3 then xmk T mi i pc L st h else none
  | .newarray .byte => if len = 2 then xmka 12 2 (.int 0) pc L st h else none
  | .newarray .int => if len = 2 then xmka 13 2 (.int 0) pc L st h else none
  | .newarray .boolean => if len = 2 then xmka 14 2 (.int 0) pc L st h else none
  | .anewarray i => if len = 3 then (match xtA T mi i with
    | some tg => if 15 ≤ tg ∧ tg < 19 then xmka tg 3 .null pc L st h else none
    | none => none) else none
  | .arraylength => if len = 1 then xlen T pc L st h else none
  | .iaload => if len = 1 then xsload T pc L st h else none
  | .baload => if len = 1 then (match st with
    | .int _ :: .ref a :: _ => if (h.2.2 a).1 = 12 then xaload 0 12 13 pc L st h else xaload 0 14 15 pc L st h
    | _ => xtld T pc L st h) else none
  | .aaload => if len = 1 then xaload 3 15 19 pc L st h else none
  | .iastore => if len = 1 then xiast 13 (fun x => x) pc L st h else none
  | .bastore => if len = 1 then xbast pc L st h else none
  | .aastore => if len = 1 then xaast pc L st h else none
  | .invokevirtual i => if len = 3 then xvirt T mi i pc L st h else none
  | .invokespecial i => if len = 3 then xspec T mi i pc L st h else none
  | .invokestatic i => if len = 3 then xstat T mi i pc L st h else none
  | .ireturn => if len = 1 then xret T mi st h else none
  | .areturn => if len = 1 then xaret T mi st h else none
  | .return_ => if len = 1 then xvret T mi st h else none
  | _ => none
def xStep (T : xT) (mi : Nat) (q : xCfg) : Option xOut := match xtI T mi q.1 with
  | some (ins, len) => xDo T mi ins len q.1 q.2.1 q.2.2.1 q.2.2.2
  | none => none
/-- what comes behind a step -/
def xNext (K : Nat → List Value → xH → xR → Prop) (go : xCfg → Prop) (r : xR) : Option xOut → Prop
  | none => False
  | some (.inl q) => go q
  | some (.inr (.inl (mj, as, q))) => ∃ z : xR, K mj as q.2.2.2 z ∧ go (q.1, q.2.1, z.1.toList ++ q.2.2.1, z.2)
  | some (.inr (.inr z)) => z = r
def xRun (T : xT) (K : Nat → List Value → xH → xR → Prop) (mi : Nat) : Nat → xCfg → xR → Prop
  | 0, _, _ => False
  | n + 1, q, r => xNext K (fun q' => xRun T K mi n q' r) r (xStep T mi q)
def xfl (as : List Value) : List Value := as.flatMap fun v => if v.category = 2 then [v, .float 0] else [v]
def xloc (as : List Value) (n : Nat) : List Value := xfl as ++ List.replicate (n - (xfl as).length) (.float 0)
def xCall (T : xT) : Nat → Nat → List Value → xH → xR → Prop
  | 0 => fun _ _ _ _ => False
  | d + 1 => fun mi as h r => ∃ m : xMt, xtM T mi = some m ∧ (xfl as).length ≤ m.2.2.1 ∧ ∃ n, xRun T (xCall T d) mi n (0, xloc as m.2.2.1, [], h) r
/-- a run comes to its end -/
def xEv (T : xT) (d mi : Nat) (q : xCfg) (r : xR) : Prop := ∃ n, xRun T (xCall T d) mi n q r
theorem xEv_iff (T : xT) (d mi : Nat) (q : xCfg) (r : xR) : xEv T d mi q r ↔ xNext (xCall T d) (fun q' => xEv T d mi q' r) r (xStep T mi q) := by
  constructor
  · intro ⟨n, h⟩
    cases n with
    | zero => exact h.elim
    | succ n =>
      unfold xRun at h
      revert h
      cases xStep T mi q with
      | none => exact fun h => h
      | some o =>
        rcases o with q' | ⟨mj, as, q'⟩ | z
        · exact fun h => ⟨n, h⟩
        · exact fun ⟨z, h1, h2⟩ => ⟨z, h1, n, h2⟩
        · exact fun h => h
  · intro h
    revert h
    generalize ho : xStep T mi q = o
    intro h
    rcases o with _ | q' | ⟨mj, as, q'⟩ | z
    · exact h.elim
    · obtain ⟨n, hn⟩ := h
      exact ⟨n + 1, by unfold xRun; rw [ho]; exact hn⟩
    · obtain ⟨z, h1, n, h2⟩ := h
      exact ⟨n + 1, by unfold xRun; rw [ho]; exact ⟨z, h1, h2⟩⟩
    · exact ⟨1, by unfold xRun; rw [ho]; exact h⟩
