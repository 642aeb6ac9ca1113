section PSPEC
/-- piece: sort, place, shown from, to, reference from, to, glued -/
abbrev Pc : Type := Nat × Nat × Nat × Nat × Nat × Nat × Bool
/-- block: sort, place, depth, first piece, pieces, name from, to, joined -/
abbrev Bk : Type := Nat × Nat × Nat × Nat × Nat × Nat × Nat × Bool
/-- comment: text, blocks, pieces -/
abbrev Cm : Type := List Nat × List Bk × List Pc
/-- entry: owner, parent, gives, name, parameters, comment -/
abbrev En : Type := Option Nat × Option Nat × Bool × List Nat × List (List Nat) × Option Cm
/-- page: bytes, lines, targets, badness, longest -/
abbrev Pg : Type := List Nat × List Nat × List Nat × Nat × Nat
def eOw (e : En) : Option Nat := e.1
def ePa (e : En) : Option Nat := e.2.1
def eGv (e : En) : Bool := e.2.2.1
def eNm (e : En) : List Nat := e.2.2.2.1
def ePs (e : En) : List (List Nat) := e.2.2.2.2.1
def eCm (e : En) : Option Cm := e.2.2.2.2.2
def pSo (p : Pc) : Nat := p.1
def pPl (p : Pc) : Nat := p.2.1
def pSf (p : Pc) : Nat := p.2.2.1
def pSt (p : Pc) : Nat := p.2.2.2.1
def pNf (p : Pc) : Nat := p.2.2.2.2.1
def pNt (p : Pc) : Nat := p.2.2.2.2.2.1
def pGl (p : Pc) : Bool := p.2.2.2.2.2.2
def bSo (b : Bk) : Nat := b.1
def bPl (b : Bk) : Nat := b.2.1
def bDe (b : Bk) : Nat := b.2.2.1
def bFi (b : Bk) : Nat := b.2.2.2.1
def bMa (b : Bk) : Nat := b.2.2.2.2.1
def bNf (b : Bk) : Nat := b.2.2.2.2.2.1
def bNt (b : Bk) : Nat := b.2.2.2.2.2.2.1
def bJo (b : Bk) : Bool := b.2.2.2.2.2.2.2
def isBg (c : Nat) : Bool := decide (65 ≤ c) && decide (c ≤ 90)
def isSm (c : Nat) : Bool := decide (97 ≤ c) && decide (c ≤ 122)
def isFg (c : Nat) : Bool := decide (48 ≤ c) && decide (c ≤ 57)
def isNB (c : Nat) : Bool := isBg c || isSm c || isFg c
/-- k bytes from i on are a NAME -/
def nmOK (f : Nat → Nat) (i k : Nat) : Bool := decide (1 ≤ k) && decide (k ≤ 10) && (isBg (f i) || isSm (f i)) && decide (sc (fun j => !isNB (f j)) i k = i + k)
/-- k bytes from i on are a REFERENCE -/
def rfOK (f : Nat → Nat) (i k : Nat) : Bool :=
  let d := sc (fun j => f j == 46) i k
  nmOK f i (d - i) && (decide (d = i + k) || nmOK f (d + 1) (i + k - (d + 1)))
def tx (bs : List Nat) : Nat → Nat := fun i => bs.getD i 999
/-- the bytes from i up to e -/
def cut (bs : List Nat) (i e : Nat) : List Nat := (bs.drop i).take (e - i)
/-- the entry with an owner and a name -/
def fE (es : List En) (o : Option Nat) (nm : List Nat) : Option Nat := es.findIdx? fun e => decide (eOw e = o) && decide (eNm e = nm)
def dEn : En := (none, none, false, [], [], none)
def gE (es : List En) (i : Nat) : En := es.getD i dEn
def mF (es : List En) : Nat → Option Nat → List Nat → Option Nat
  | 0, _, _ => none
  | _ + 1, none, _ => none
  | n + 1, some t, nm => match fE es (some t) nm with
    | some e => some e
    | none => mF es n (ePa (gE es t)) nm
def abv (es : List En) (e : Nat) : Option Nat := match eOw (gE es e) with
  | none => none
  | some o => mF es 40 (ePa (gE es o)) (eNm (gE es e))
def cnt (es : List En) : Nat → Option Nat → Option Nat
  | 0, _ => none
  | _ + 1, none => none
  | n + 1, some e => if (eCm (gE es e)).isSome = true then some e else cnt es n (abv es e)
def nty (es : List En) (e : Nat) : Nat := match eOw (gE es e) with
  | none => e
  | some o => o
/-- to what a reference leads from e -/
def lead (es : List En) (e : Nat) (nm : List Nat) : Option Nat :=
  let d := sc (fun j => tx nm j == 46) 0 nm.length
  if d < nm.length then mF es 40 (fE es none (nm.take d)) (nm.drop (d + 1))
  else if isBg (tx nm 0) = true then fE es none nm
  else mF es 40 (some (nty es e)) nm
def wCode : List Nat := [123, 99, 111, 100, 101, 32]
def wLink : List Nat := [123, 108, 105, 110, 107, 32]
def wInh : List Nat := [123, 105, 110, 104, 101, 114, 105, 116, 125]
def wTag (s : Nat) : List Nat := if s = 2 then [112, 97, 114, 97, 109] else if s = 3 then [114, 101, 116, 117, 114, 110] else if s = 4 then [116, 104, 114, 111, 119, 115] else if s = 5 then [115, 101, 101] else if s = 6 then [115, 105, 110, 99, 101] else []
/-- a word stands at i -/
def isW (f : Nat → Nat) (i : Nat) : List Nat → Bool
  | [] => true
  | c :: w => (f i == c) && isW f (i + 1) w
/-- the end of a code: from i on, k bytes, with so many pairs open; how many are open there -/
def cEnd (f : Nat → Nat) : Nat → Nat → Nat → Nat × Nat
  | i, 0, o => (i, o)
  | i, k + 1, o => if o = 0 then (i, o) else cEnd f (i + 1) k (if f i = 123 then o + 1 else if f i = 125 then o - 1 else o)
/-- the piece at a place: sort, shown from, to, reference from, to, behind it -/
def pcOne (f : Nat → Nat) (at' to : Nat) : Option (Nat × Nat × Nat × Nat × Nat × Nat) :=
  if isW f at' wCode = true then
    let r := cEnd f (at' + 6) (to - (at' + 6)) 1
    if r.2 = 0 ∧ 1 ≤ r.1 - 1 - (at' + 6) ∧ r.1 - 1 - (at' + 6) ≤ 60 then some (1, at' + 6, r.1 - 1, 0, 0, r.1) else none
  else if isW f at' wLink = true then
    let cl := sc (fun j => f j == 125) (at' + 6) (to - (at' + 6))
    let nt := sc (fun j => f j == 32) (at' + 6) (cl - (at' + 6))
    let lb := sc (fun j => !(f j == 32)) nt (cl - nt)
    if cl < to ∧ rfOK f (at' + 6) (nt - (at' + 6)) = true ∧ (nt = cl ∨ (1 ≤ cl - lb ∧ cl - lb ≤ 60 ∧ f (cl - 1) ≠ 32 ∧ sc (fun j => f j == 123) lb (cl - lb) = cl))
    then some (2, if nt = cl then at' + 6 else lb, cl, at' + 6, nt, cl + 1) else none
  else
    let w := sc (fun j => f j == 32 || f j == 123 || f j == 125) at' (to - at')
    if at' < w then some (0, at', w, 0, 0, w) else none
def skp (f : Nat → Nat) (i e : Nat) : Nat := sc (fun j => !(f j == 32)) i (e - i)
/-- the pieces of a line from a place on; a fault: code, place -/
def pcs (f : Nat → Nat) (to : Nat) : Nat → Nat → Bool → List Pc → List Pc × Option (Nat × Nat)
  | 0, _, _, ps => (ps, none)
  | n + 1, at', gl, ps =>
    if to ≤ at' then (ps, none) else
    match pcOne f at' to with
    | none => (ps, some (2, at'))
    | some (so, sf, st, nf, nt, bh) =>
      if ps.length = 120 then (ps, some (4, at'))
      else pcs f to n (skp f bh to) (skp f bh to == bh) (ps ++ [(so, at', sf, st, nf, nt, gl)])
/-- blocks, pieces -/
abbrev Rd : Type := List Bk × List Pc
def bkD : Bk := (99, 0, 0, 0, 0, 0, 0, false)
def lastB (r : Rd) : Bk := r.1.getLastD bkD
/-- the pieces go to the last block -/
def rdPcs (f : Nat → Nat) (to from' : Nat) (r : Rd) : Rd × Option (Nat × Nat) :=
  let q := pcs f to 700 (skp f from' to) false r.2
  let b := lastB r
  ((r.1.dropLast ++ [(bSo b, bPl b, bDe b, bFi b, bMa b + (q.1.length - r.2.length), bNf b, bNt b, bJo b)], q.1), q.2)
def opn (r : Rd) (so pl de nf nt : Nat) (jo : Bool) : Rd := (r.1 ++ [(so, pl, de, r.2.length, 0, nf, nt, jo)], r.2)
def isTg (s : Nat) : Bool := decide (2 ≤ s) && decide (s ≤ 6)
def hasTg (r : Rd) : Bool := decide (0 < r.1.length) && isTg (bSo (lastB r))
def isIt (f : Nat → Nat) (i e : Nat) : Bool := (f i == 45) && (decide (i + 1 = e) || (f (i + 1) == 32))
def rdItem (f : Nat → Nat) (fi to bl : Nat) (gap : Bool) (r : Rd) : Rd × Option (Nat × Nat) :=
  let ah := decide (0 < r.1.length) && !gap && decide (bSo (lastB r) = 1)
  let most := if ah = true then bDe (lastB r) + 1 else 0
  if hasTg r = true then (r, some (2, fi))
  else if bl % 2 = 1 ∨ 2 < bl / 2 ∨ most < bl / 2 then (r, some (3, fi))
  else if r.1.length = 24 then (r, some (4, fi))
  else rdPcs f to (fi + 1) (opn r 1 fi (bl / 2) 0 0 ah)
/-- whether {inherit} stands alone -/
def isInh (f : Nat → Nat) (n : Nat) (mb : Bool) (fi to : Nat) : Bool :=
  mb && isW f fi wInh && decide (to ≤ skp f (fi + 9) to) &&
  (let e := sc (fun j => f j == 10) (to + 1) (n - (to + 1))
   let x := skp f (to + 1) e
   decide (n ≤ to + 1) || decide (e ≤ x) || (f x == 64) || isIt f x e)
def rdText (f : Nat → Nat) (n : Nat) (mb : Bool) (fi to : Nat) (gap : Bool) (r : Rd) : Rd × Option (Nat × Nat) :=
  if gap = true then
    if hasTg r = true then (r, some (2, fi))
    else if isInh f n mb fi to = true then
      if r.1.length = 24 then (r, some (4, fi))
      else if r.1.any (fun b => bSo b == 7) = true then (r, some (5, fi))
      else (opn r 7 fi 0 0 0 false, none)
    else if pcOne f fi to = none then (r, some (2, fi))
    else if r.1.length = 24 then (r, some (4, fi))
    else rdPcs f to fi (opn r 0 fi 0 0 0 false)
  else if bSo (lastB r) = 5 ∨ bSo (lastB r) = 6 then (r, some (2, fi))
  else rdPcs f to fi r
def tgSo (f : Nat → Nat) (i e : Nat) : Nat :=
  if e - i = 5 ∧ isW f i (wTag 2) = true then 2 else if e - i = 6 ∧ isW f i (wTag 3) = true then 3 else if e - i = 6 ∧ isW f i (wTag 4) = true then 4 else if e - i = 3 ∧ isW f i (wTag 5) = true then 5 else if e - i = 5 ∧ isW f i (wTag 6) = true then 6 else 0
def nuOK (f : Nat → Nat) (i k : Nat) : Bool := decide (1 ≤ k) && decide (k ≤ 4) && decide (sc (fun j => !isFg (f j)) i k = i + k)
def rdTag (bs : List Nat) (fi to : Nat) (r : Rd) : Rd × Option (Nat × Nat) :=
  let f := tx bs
  let e := sc (fun j => f j == 32) (fi + 1) (to - (fi + 1))
  let so := tgSo f (fi + 1) e
  if so = 0 then (r, some (2, fi))
  else if r.1.length = 24 then (r, some (4, fi))
  else if (so = 3 ∨ so = 6) ∧ r.1.any (fun b => bSo b == so) = true then (r, some (5, fi))
  else if so = 3 then rdPcs f to e (opn r 3 fi 0 e e false)
  else
    let a := skp f e to
    let z := sc (fun j => f j == 32) a (to - a)
    if (if so = 2 then nmOK f a (z - a) else if so = 6 then nuOK f a (z - a) else rfOK f a (z - a)) = false then (r, some (2, a))
    else if so = 2 ∧ r.1.any (fun b => decide (bSo b = 2) && decide (cut bs (bNf b) (bNt b) = cut bs a z)) = true then (r, some (5, fi))
    else if so = 5 ∨ so = 6 then
      let m := skp f z to
      (opn r so fi 0 a z false, if m < to then some (2, m) else none)
    else rdPcs f to z (opn r so fi 0 a z false)
def rdLine (bs : List Nat) (mb : Bool) (a to : Nat) (gap : Bool) (r : Rd) : Rd × Option (Nat × Nat) :=
  let f := tx bs
  let x := skp f a to
  if to ≤ x then (r, none)
  else if f x = 64 then rdTag bs x to r
  else if isIt f x to = true then rdItem f x to (x - a) gap r
  else rdText f bs.length mb x to gap r
def rdAll (bs : List Nat) (mb : Bool) : Nat → Nat → Bool → Rd → Rd × Option (Nat × Nat)
  | 0, _, _, r => (r, none)
  | n + 1, a, gap, r =>
    if bs.length ≤ a then (r, none) else
    let to := sc (fun j => tx bs j == 10) a (bs.length - a)
    match rdLine bs mb a to gap r with
    | (r', none) => rdAll bs mb n (to + 1) (decide (to ≤ skp (tx bs) a to)) r'
    | (r', some q) => (r', some q)
/-- a comment out of a text; or a fault -/
def rdC (bs : List Nat) (mb : Bool) : Rd × Option (Nat × Nat) :=
  let o := sc (fun j => !(tx bs j == 10) && !(decide (32 ≤ tx bs j) && decide (tx bs j ≤ 126))) 0 bs.length
  if o < bs.length then (([], []), some (1, o)) else rdAll bs mb 700 0 true ([], [])
/-- the mark of a target; the targets then -/
def mark (ts : List Nat) (o : Option Nat) : List Nat × List Nat := match o with
  | none => ([91, 63, 93], ts)
  | some e =>
    let k := ts.findIdx fun x => x == e
    ((if 9 < k + 1 then [91, 48 + (k + 1) / 10, 48 + (k + 1) % 10, 93] else [91, 48 + (k + 1) % 10, 93]), if k = ts.length then ts ++ [e] else ts)
/-- bytes of a block's chunks, where they begin, targets -/
abbrev Ck : Type := List Nat × List Nat × List Nat
def ckPc (es : List En) (e : Nat) (bs : List Nat) (c : Ck) (p : Pc) : Ck :=
  let y := c.1 ++ cut bs (pSf p) (pSt p)
  let q := if pSo p = 2 then mark c.2.2 (lead es e (cut bs (pNf p) (pNt p))) else ([], c.2.2)
  (y ++ q.1, if pGl p = true then c.2.1 else c.2.1 ++ [c.1.length], q.2)
def ckHd (es : List En) (e : Nat) (bs : List Nat) (b : Bk) (ts : List Nat) : Ck :=
  if isTg (bSo b) = true then
    let q := if bSo b = 4 ∨ bSo b = 5 then mark ts (lead es e (cut bs (bNf b) (bNt b))) else ([], ts)
    (wTag (bSo b) ++ (if bSo b = 3 then [] else 32 :: cut bs (bNf b) (bNt b)) ++ q.1, [0], q.2)
  else ([], [], ts)
def cks (es : List En) (e : Nat) (c : Cm) (b : Bk) (ts : List Nat) : Ck := ((c.2.2.drop (bFi b)).take (bMa b)).foldl (ckPc es e c.1) (ckHd es e c.1 b ts)
/-- where chunk i begins -/
def cks0 (c : Ck) (i : Nat) : Nat := c.2.1.getD i c.1.length
def cols (c : Ck) (fs ot i j : Nat) : Nat := (if i = 0 then fs else ot) + (cks0 c j - cks0 c i) + (j - i - 1)
def bdn (c : Ck) (w fs ot i j : Nat) : Nat := if j < c.2.1.length then (w - cols c fs ot i j) * (w - cols c fs ot i j) else 0
/-- behind the last chunk that fits; k more may come -/
def fill (c : Ck) (w fs ot i : Nat) : Nat → Nat → Nat
  | j, 0 => j
  | j, k + 1 => if cols c fs ot i (j + 1) ≤ w then fill c w fs ot i (j + 1) k else j
def fst' (c : Ck) (w fs ot i : Nat) : Nat := fill c w fs ot i (i + 1) (c.2.1.length - (i + 1))
/-- the best end of a line from i, downwards from j: k tries left; with the best so far -/
def best (f : Nat → Nat) : Nat → Nat → Nat × Nat → Nat × Nat
  | _, 0, b => b
  | j, k + 1, b => best f (j - 1) k (if f j < b.2 then (j, f j) else b)
/-- of the chunks from n - k on: where the next line begins, the least badness -/
def plan (c : Ck) (w fs ot : Nat) (ls : Bool) : Nat → List (Nat × Nat)
  | 0 => []
  | k + 1 =>
    let t := plan c w fs ot ls k
    let n := c.2.1.length
    let i := n - (k + 1)
    let f := fun j => bdn c w fs ot i j + (t.getD (j - (i + 1)) (0, 0)).2
    let l := fst' c w fs ot i
    (if ls = true then best f (l - 1) (l - 1 - i) (l, f l) else (l, f l)) :: t
/-- bytes, starts of lines, longest -/
abbrev Ou : Type := List Nat × List Nat × Nat
def ouL (o : Ou) (l : List Nat) : Ou := (o.1 ++ l ++ [10], o.2.1 ++ [o.1.length], if o.2.2 < l.length then l.length else o.2.2)
/-- the line of chunks from i up to j -/
def lnB (c : Ck) (i j : Nat) : List Nat := (List.range (j - i)).flatMap fun k => (if k = 0 then [] else [32]) ++ cut c.1 (cks0 c (i + k)) (cks0 c (i + k + 1))
def lns (c : Ck) (ot : Nat) (t : List (Nat × Nat)) : Nat → Nat → Ou → Ou
  | 0, _, o => o
  | n + 1, i, o => if c.2.1.length ≤ i then o else
    let j := (t.getD i (0, 0)).1
    lns c ot t n j (ouL o ((if i = 0 then [] else List.replicate ot 32) ++ lnB c i j))
/-- a block laid out: bytes so far, targets, badness -/
abbrev Dr : Type := Ou × List Nat × Nat
def layB (es : List En) (w : Nat) (ls : Bool) (e : Nat) (c : Cm) (b : Bk) (d : Dr) : Dr :=
  let k := cks es e c b d.2.1
  let it := bSo b = 1
  let fs := if it then 2 * bDe b + 2 else 0
  let ot := if it then fs else if isTg (bSo b) = true then 4 else 0
  let t := plan k w fs ot ls k.2.1.length
  let hd := if it then List.replicate (2 * bDe b) 32 ++ [45] ++ (if k.2.1.length = 0 then [] else [32]) else []
  let o := if k.2.1.length = 0 then ouL d.1 hd else
    let j := (t.getD 0 (0, 0)).1
    lns k ot t 130 j (ouL d.1 (hd ++ lnB k 0 j))
  (o, k.2.2, d.2.2 + (t.getD 0 (0, 0)).2)
def eNam (es : List En) (e : Nat) : List Nat := match eOw (gE es e) with
  | none => eNm (gE es e)
  | some o => eNm (gE es o) ++ [46] ++ eNm (gE es e)
def gC (es : List En) (e : Nat) : Cm := (eCm (gE es e)).getD ([], [], [])
/-- the story of an entry: entry, block -/
def story (es : List En) : Nat → Option Nat → List (Nat × Bk)
  | 0, _ => []
  | _ + 1, none => []
  | n + 1, some e => (gC es e).2.1.flatMap fun b => if bSo b = 7 then story es n (cnt es 40 (abv es e)) else if isTg (bSo b) = true then [] else [(e, b)]
def tags (es : List En) (o : Option Nat) : List (Nat × Bk) := match o with
  | none => []
  | some e => [2, 3, 4, 5, 6].flatMap fun s => ((gC es e).2.1.filter fun b => bSo b == s).map fun b => (e, b)
def layAll (es : List En) (w : Nat) (ls : Bool) : List (Nat × Bk) → Option Bk → Dr → Dr
  | [], _, d => d
  | (e, b) :: q, ah, d =>
    let ap := match ah with
      | none => true
      | some a => if isTg (bSo b) = true then !isTg (bSo a) else !bJo b
    layAll es w ls q (some b) (layB es w ls e (gC es e) b (if ap = true then (ouL d.1 [], d.2) else d))
def tgts (es : List En) : Nat → List Nat → Ou → Ou
  | _, [], o => o
  | k, e :: q, o => tgts es (k + 1) q (ouL o ((if 9 < k then [91, 48 + k / 10, 48 + k % 10, 93] else [91, 48 + k % 10, 93]) ++ [32] ++ eNam es e))
def pag (es : List En) (e w : Nat) (ls : Bool) : Pg :=
  let x := cnt es 40 (some e)
  let d := layAll es w ls (story es 41 x ++ tags es x) none (ouL ([], [], 0) (eNam es e), [], 0)
  let o := tgts es 1 d.2.1 (if d.2.1 = [] then d.1 else ouL d.1 [])
  (o.1, o.2.1, d.2.1, d.2.2, o.2.2)
/-- the notes of an entry -/
def told (es : List En) (nm : Option (List Nat)) : Nat → Option Nat → Bool
  | 0, _ => false
  | _ + 1, none => false
  | n + 1, some x => (match nm with
    | none => (gC es x).2.1.any fun b => bSo b == 3
    | some a => (gC es x).2.1.any fun b => (bSo b == 2) && decide (cut (gC es x).1 (bNf b) (bNt b) = a)) || told es nm n (abv es x)
def nts (es : List En) (e : Nat) : List (Nat × Nat) :=
  let c := gC es e
  let dead := fun a z => (lead es e (cut c.1 a z)).isNone
  (if cnt es 40 (some e) = none then [(1, 0)] else []) ++
  (c.2.1.flatMap fun b => (if (bSo b = 4 ∨ bSo b = 5) ∧ dead (bNf b) (bNt b) = true then [(2, bPl b)] else []) ++ (((c.2.2.drop (bFi b)).take (bMa b)).filter fun p => (pSo p == 2) && dead (pNf p) (pNt p)).map fun p => (2, pPl p)) ++
  ((c.2.1.filter fun b => (bSo b == 7) && (cnt es 40 (abv es e)).isNone).map fun b => (3, bPl b)) ++
  ((c.2.1.filter fun b => (bSo b == 2) && !((ePs (gE es e)).any fun a => decide (a = cut c.1 (bNf b) (bNt b)))).map fun b => (4, bPl b)) ++
  ((c.2.1.filter fun b => (bSo b == 3) && !eGv (gE es e)).map fun b => (5, bPl b)) ++
  (((List.range (ePs (gE es e)).length).filter fun k => !told es (some ((ePs (gE es e)).getD k [])) 40 (some e)).map fun k => (6, k)) ++
  (if eGv (gE es e) = true ∧ told es none 40 (some e) = false then [(7, 0)] else [])
/-- tape, entries, fault, page, notes -/
abbrev St : Type := List Nat × List En × Nat × Pg × List (Nat × Nat)
def st0 : St := ([], [], 0, ([], [], [], 0, 0), [])
end PSPEC
