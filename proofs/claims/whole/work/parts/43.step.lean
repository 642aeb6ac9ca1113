section PSTEP
/-- a number that may be an entry's -/
def eIx (es : List En) (x : Int32) : Option Nat := if ¬ x < 0 ∧ x.toNatClampNeg < es.length then some x.toNatClampNeg else none
def oI (o : Option Nat) : Int32 := match o with
  | none => -1
  | some k => nI k
def nmWh (bs : List Nat) (big : Bool) : Bool := nmOK (tx bs) 0 bs.length && (if big = true then isBg (tx bs 0) else isSm (tx bs 0))
def isTy (es : List En) (e : Nat) : Bool := (eOw (gE es e)).isNone
def sType (σ : St) (x : Int32) : Int32 × St :=
  let p := eIx σ.2.1 x
  if (x = -1 ∨ ∃ e, p = some e ∧ isTy σ.2.1 e = true) ∧ nmWh σ.1 true = true ∧ fE σ.2.1 none σ.1 = none then
    if σ.2.1.length = 40 then (-3, [], σ.2) else (nI σ.2.1.length, [], σ.2.1 ++ [(none, p, false, σ.1, [], none)], σ.2.2)
  else (-1, [], σ.2)
def sMem (σ : St) (x : Int32) (r : Bool) : Int32 × St := match eIx σ.2.1 x with
  | some e => if isTy σ.2.1 e = true ∧ nmWh σ.1 false = true ∧ fE σ.2.1 (some e) σ.1 = none then
      if σ.2.1.length = 40 then (-3, [], σ.2) else (nI σ.2.1.length, [], σ.2.1 ++ [(some e, none, r, σ.1, [], none)], σ.2.2)
    else (-1, [], σ.2)
  | none => (-1, [], σ.2)
def sPar (σ : St) (x : Int32) : Int32 × St := match eIx σ.2.1 x with
  | some e => if isTy σ.2.1 e = false ∧ nmWh σ.1 false = true ∧ (ePs (gE σ.2.1 e)).any (fun a => decide (a = σ.1)) = false then
      if (ePs (gE σ.2.1 e)).length = 4 then (-3, [], σ.2) else
        let n := gE σ.2.1 e
        (nI ((ePs n).length + 1), [], σ.2.1.set e (eOw n, ePa n, eGv n, eNm n, ePs n ++ [σ.1], eCm n), σ.2.2)
    else (-1, [], σ.2)
  | none => (-1, [], σ.2)
def setC (es : List En) (e : Nat) (c : Option Cm) : List En := let n := gE es e; es.set e (eOw n, ePa n, eGv n, eNm n, ePs n, c)
def sCom (σ : St) (x : Int32) : Int32 × St := match eIx σ.2.1 x with
  | some e => match rdC σ.1 (!isTy σ.2.1 e) with
    | (r, none) => (nI r.1.length, [], setC σ.2.1 e (some (σ.1, r.1, r.2)), 0, σ.2.2.2)
    | (_, some (c, p)) => (-10 - nI p, [], σ.2.1, c, σ.2.2.2)
  | none => (-1, [], σ.2)
def sBare (σ : St) (x : Int32) : Int32 × St := match eIx σ.2.1 x with
  | some e => match eCm (gE σ.2.1 e) with
    | none => (-2, σ)
    | some c => (nI c.2.1.length, σ.1, setC σ.2.1 e none, σ.2.2)
  | none => (-1, σ)
def sTold (σ : St) (x w : Int32) : Int32 := match eIx σ.2.1 x with
  | some e =>
    let n := gE σ.2.1 e
    if w = 0 then oI (eOw n) else if w = 1 then oI (ePa n) else if w = 2 then nI (ePs n).length else if w = 3 then (if eGv n = true then 1 else 0) else if w = 4 then oI (abv σ.2.1 e) else if w = 5 then oI (cnt σ.2.1 40 (some e)) else if w = 6 then nI (gC σ.2.1 e).2.1.length else if w = 7 then nI (gC σ.2.1 e).2.2.length else -9
  | none => -9
def sBlk (σ : St) (x i w : Int32) : Int32 := match eIx σ.2.1 x with
  | some e => if i < 0 then -9 else match (gC σ.2.1 e).2.1[i.toNatClampNeg]? with
    | some b => if w = 0 then nI (bSo b) else if w = 1 then nI (bDe b) else if w = 2 then nI (bMa b) else if w = 3 then nI (bPl b) else -9
    | none => -9
  | none => -9
def sPce (σ : St) (x i w : Int32) : Int32 := match eIx σ.2.1 x with
  | some e => if i < 0 then -9 else match (gC σ.2.1 e).2.2[i.toNatClampNeg]? with
    | some p => if w = 0 then nI (pSo p) else if w = 1 then nI (pPl p) else if w = 2 then nI (pSt p - pSf p) else if w = 3 then (if pGl p = true then 1 else 0) else if w = 4 then (if pSo p = 2 then oI (lead σ.2.1 e (cut (gC σ.2.1 e).1 (pNf p) (pNt p))) else -1) else -9
    | none => -9
  | none => -9
def sLds (σ : St) (x : Int32) : Int32 × St := (match eIx σ.2.1 x with
  | some e => if rfOK (tx σ.1) 0 σ.1.length = true then oI (lead σ.2.1 e σ.1) else -1
  | none => -9, [], σ.2)
def sPag (σ : St) (x w how : Int32) : Int32 × St := match eIx σ.2.1 x with
  | some e => if 12 ≤ w ∧ w ≤ 60 ∧ (how = 0 ∨ how = 1) then
      let p := pag σ.2.1 e w.toNatClampNeg (decide (how = 1))
      if 4000 < p.1.length then (-3, σ) else (nI p.2.1.length, σ.1, σ.2.1, σ.2.2.1, p, σ.2.2.2.2)
    else (-1, σ)
  | none => (-1, σ)
def sAb (σ : St) (w : Int32) : Int32 := let p := σ.2.2.2.1; if w = 0 then nI p.2.1.length else if w = 1 then nI p.1.length else if w = 2 then nI p.2.2.1.length else if w = 3 then nI p.2.2.2.1 else if w = 4 then nI p.2.2.2.2 else -1
def sAt (σ : St) (i : Int32) : Int32 := if i < 0 then 0 else nI (σ.2.2.2.1.1.getD i.toNatClampNeg 0)
def sLin (σ : St) (i : Int32) : Int32 := if i < 0 then -1 else match σ.2.2.2.1.2.1[i.toNatClampNeg]? with
  | some a => nI a
  | none => -1
def sTgt (σ : St) (k : Int32) : Int32 := if k < 1 then -1 else match σ.2.2.2.1.2.2.1[k.toNatClampNeg - 1]? with
  | some a => nI a
  | none => -1
def sNts (σ : St) (x : Int32) : Int32 × St := match eIx σ.2.1 x with
  | some e => let l := nts σ.2.1 e; (nI l.length, σ.1, σ.2.1, σ.2.2.1, σ.2.2.2.1, l)
  | none => (-1, σ)
def sNot (σ : St) (i w : Int32) : Int32 := if i < 0 then -1 else match σ.2.2.2.2[i.toNatClampNeg]? with
  | some q => if w = 0 then nI q.1 else if w = 1 then nI q.2 else -1
  | none => -1
def sCnt (σ : St) (w : Int32) : Int32 := if w = 0 then nI σ.2.1.length else if w = 1 then nI (σ.2.1.filter fun e => (eOw e).isNone).length else if w = 2 then nI σ.1.length else if w = 3 then nI (σ.2.1.filter fun e => (eCm e).isSome).length else -1
def stp (σ : St) (k : Nat) (a : Nat → Int32) : Int32 × St := match k with
  | 0 => if 600 < σ.1.length + 20 then (-3, σ) else (nI (σ.1.length + 20), σ.1 ++ b4 (a 1) ++ b4 (a 2) ++ b4 (a 3) ++ b4 (a 4) ++ b4 (a 5), σ.2)
  | 1 => if a 1 < 0 ∨ nI σ.1.length < a 1 then (-1, σ) else (nI σ.1.length, σ.1.take (a 1).toNatClampNeg, σ.2)
  | 2 => sType σ (a 1)
  | 3 => sMem σ (a 1) (decide (a 2 ≠ 0))
  | 4 => sPar σ (a 1)
  | 5 => sCom σ (a 1)
  | 6 => (nI σ.2.2.1, σ)
  | 7 => sBare σ (a 1)
  | 8 => (sTold σ (a 1) (a 2), σ)
  | 9 => (sBlk σ (a 1) (a 2) (a 3), σ)
  | 10 => (sPce σ (a 1) (a 2) (a 3), σ)
  | 11 => sLds σ (a 1)
  | 12 => sPag σ (a 1) (a 2) (a 3)
  | 13 => (sAb σ (a 1), σ)
  | 14 => (sAt σ (a 1), σ)
  | 15 => (sLin σ (a 1), σ)
  | 16 => (sTgt σ (a 1), σ)
  | 17 => sNts σ (a 1)
  | 18 => (sNot σ (a 1) (a 2), σ)
  | 19 => (sCnt σ (a 1), σ)
  | _ => (0, σ)
end PSTEP
