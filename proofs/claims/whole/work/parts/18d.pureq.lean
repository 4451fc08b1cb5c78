/-! the calls on questions -/
def qOf (V : Vt) (q : Int32) : Option Qst := if q < 0 then none else V.1.2.2.1[ix q]?
abbrev badP (v : Int32) (w : Nat) : Prop := v < 0 ∨ nI w ≤ v
def addQ (V : Vt) (q : Qst) : Int32 × Vt := if V.1.2.2.1.length = 40 then (-1, stV V 4) else (nI V.1.2.2.1.length, acV (V.1.1, V.1.2.1, V.1.2.2.1 ++ [q], V.1.2.2.2) (4, 0, 0, 0, noT) V)
def basV (t : Int32) (V : Vt) : Int32 × Vt := match (if t < 0 then none else V.1.1[ix t]?) with
  | none => (-1, stV V 1)
  | some p => addQ V (0, ix p, t, -1, false, fcell 0 0 0 0)
def picV (q pl v : Int32) (V : Vt) : Int32 × Vt := match qOf V q with
  | none => (-1, stV V 1)
  | some p => if badP pl p.2.1 then (-1, stV V 2) else addQ V (1, p.2.1, q, -1, p.2.2.2.2.1, fcell pl v 0 0)
def likV (q a b : Int32) (V : Vt) : Int32 × Vt := match qOf V q with
  | none => (-1, stV V 1)
  | some p => if badP a p.2.1 ∨ badP b p.2.1 then (-1, stV V 2) else addQ V (2, p.2.1, q, -1, p.2.2.2.2.1, fcell a b 0 0)
def cutV (q n a b c d : Int32) (V : Vt) : Int32 × Vt := match qOf V q with
  | none => (-1, stV V 1)
  | some p => if n < 1 ∨ 4 < n ∨ badP a p.2.1 ∨ (¬ n ≤ 1 ∧ badP b p.2.1) ∨ (¬ n ≤ 2 ∧ badP c p.2.1) ∨ (¬ n ≤ 3 ∧ badP d p.2.1) then (-1, stV V 2) else addQ V (3, ix n, q, -1, p.2.2.2.2.1, fcell a b c d)
def paiV (o1 o2 a b : Int32) (V : Vt) : Int32 × Vt := match qOf V o1 with
  | none => (-1, stV V 1)
  | some p => match qOf V o2 with
    | none => (-1, stV V 1)
    | some r => if badP a p.2.1 ∨ badP b r.2.1 then (-1, stV V 2) else if 6 < p.2.1 + r.2.1 then (-1, stV V 3) else addQ V (4, p.2.1 + r.2.1, o1, o2, p.2.2.2.2.1 || r.2.2.2.2.1, fcell a b 0 0)
def eitV (s : Nat) (o1 o2 : Int32) (V : Vt) : Int32 × Vt := match qOf V o1 with
  | none => (-1, stV V 1)
  | some p => match qOf V o2 with
    | none => (-1, stV V 1)
    | some r => if p.2.1 = r.2.1 then addQ V (s, p.2.1, o1, o2, p.2.2.2.2.1 || r.2.2.2.2.1, fcell 0 0 0 0) else (-1, stV V 3)
def cloV (q : Int32) (V : Vt) : Int32 × Vt := match qOf V q with
  | none => (-1, stV V 1)
  | some p => if p.2.1 = 2 then addQ V (6, 2, q, -1, true, fcell 0 0 0 0) else (-1, stV V 3)
def kinV (q wh : Int32) (V : Vt) : Int32 := match qOf V q with
  | none => -1
  | some p => if wh = 0 then nI p.1 else if wh = 1 then nI p.2.1 else if wh = 2 then p.2.2.1 else if wh = 3 then p.2.2.2.1 else if wh = 4 then zB p.2.2.2.2.1 else -1
