/-! THE CALLS on the value; an act pushed, an act taken back; what holds of every value that a run comes to -/
def noT : Thg := (0, [])
def psh (A : Av) (ac : List Av) : List Av := (A :: ac).take 100
def stV (V : Vt) (s : Int32) : Vt := (V.1, V.2.1, V.2.2.1, s)
def acV (c : Co) (A : Av) (V : Vt) : Vt := (c, psh A V.2.1, V.2.2.1, 0)
def tabV (v : Int32) (V : Vt) : Int32 × Vt := if v < 1 ∨ ¬ v ≤ 4 then (-1, stV V 2) else if V.1.1.length = 10 then (-1, stV V 4) else (nI V.1.1.length, acV (V.1.1 ++ [v], V.1.2) (0, 0, 0, 0, noT) V)
def fcell (a b c d : Int32) : Nat → Int32 := fun k => if k = 0 then a else if k = 1 then b else if k = 2 then c else d
def fwei : Nat → Int64 := fun k => if k = 0 then 1 else if k = 1 then 1 else if k = 2 then 4607182418800017408 else 4
def mwei : Nat → Int64 := fun k => if k = 0 then 9 else if k = 1 then 1000 else if k = 2 then 4607182418800017408 else 8
def facV (t a b c d : Int32) (V : Vt) : Int32 × Vt := if t < 0 ∨ nI V.1.1.length ≤ t then (-1, stV V 1) else if V.1.2.1.length = 60 then (-1, stV V 4) else (nI V.1.2.1.length, acV (V.1.1, V.1.2.1 ++ [(t, fcell a b c d, fwei, false)], V.1.2.2) (1, 0, 0, 0, noT) V)
/-- the fact of this number -/
def fOf (V : Vt) (f : Int32) : Option Fct := if f < 0 then none else V.1.2.1[ix f]?
def setF (c : Co) (i : Nat) (f : Fct) : Co := (c.1, c.2.1.set i f, c.2.2)
def b2j (b : Bool) : Int64 := if b then 1 else 0
def droV (f : Int32) (away : Bool) (V : Vt) : Int32 × Vt := match fOf V f with
  | none => (0, stV V 1)
  | some x => (1, acV (setF V.1 (ix f) (x.1, x.2.1, x.2.2.1, away)) (2, ix f, 0, b2j x.2.2.2, noT) V)
def upF {α : Type} (w : Nat → α) (k : Nat) (v : α) : Nat → α := fun j => if j = k then v else w j
def putV (f what : Int32) (v : Int64) (V : Vt) : Int32 × Vt := match fOf V f with
  | none => (0, stV V 1)
  | some x => if what < 0 ∨ ¬ what ≤ 3 ∨ v < 0 ∨ mwei (ix what) < v then (0, stV V 2) else (1, acV (setF V.1 (ix f) (x.1, x.2.1, upF x.2.2.1 (ix what) v, x.2.2.2)) (3, ix f, ix what, x.2.2.1 (ix what), noT) V)
def tolV (f what : Int32) (V : Vt) : Int64 := match fOf V f with
  | none => -1
  | some x => if what < 0 ∨ ¬ what ≤ 10 then -1 else if ix what < 4 then x.2.2.1 (ix what) else if ix what = 4 then b2j x.2.2.2 else if ix what = 5 then x.1.toInt64 else
    match V.1.1[ix x.1]? with
    | none => -1
    | some p => if ix what = 6 then p.toInt64 else if ix what - 7 < ix p then (x.2.1 (ix what - 7)).toInt64 else -1
def undoV (A : Av) (c : Co) : Co :=
  if A.1 = 0 then (c.1.dropLast, c.2) else if A.1 = 1 then (c.1, c.2.1.dropLast, c.2.2)
  else if A.1 = 2 then (match c.2.1[A.2.1]? with
    | none => c
    | some x => setF c A.2.1 (x.1, x.2.1, x.2.2.1, decide (A.2.2.2.1 ≠ 0)))
  else if A.1 = 3 then (match c.2.1[A.2.1]? with
    | none => c
    | some x => setF c A.2.1 (x.1, x.2.1, upF x.2.2.1 A.2.2.1 A.2.2.2.1, x.2.2.2))
  else if A.1 = 4 then (c.1, c.2.1, c.2.2.1.dropLast, c.2.2.2)
  else (c.1, c.2.1, c.2.2.1, upF c.2.2.2 A.2.1 A.2.2.2.2)
def undV (V : Vt) : Int32 × Vt := match V.2.1 with
  | [] => (0, V)
  | A :: r => (1, (undoV A V.1, r, (if A.1 = 0 ∨ A.1 = 1 then [] else V.2.2.1.1, V.2.2.1.2), V.2.2.2))
def wOK (w : Nat → Int64) : Prop := ∀ k, k < 4 → ¬ w k < 0 ∧ w k ≤ mwei k
def TOK (t : Thg) : Prop := t.1 < 5 ∧ (t.1 = 0 → t.2 = []) ∧ (t.1 = 1 ∨ t.1 = 2 → ∃ v : Int32, t.2 = [v.toInt64]) ∧ (t.1 = 3 → t.2.length ≤ 6 ∧ ∀ v ∈ t.2, ∃ u : Int32, v = u.toInt64) ∧ (t.1 = 4 → t.2.length ≤ 16)
/-- what a question is of -/
def qAt (c : Co) (o : Int32) (i : Nat) (q : Qst) : Prop := ∃ j, j < i ∧ o = nI j ∧ c.2.2.1[j]? = some q
def plc (v : Int32) (w : Nat) : Prop := ∃ a, a < w ∧ v = nI a
def QOK (c : Co) (i : Nat) (q : Qst) : Prop := q.1 < 8 ∧ 1 ≤ q.2.1 ∧ q.2.1 ≤ 6 ∧
  (q.1 = 0 → q.2.2.2.1 = -1 ∧ q.2.2.2.2.1 = false ∧ ∃ t, t < c.1.length ∧ q.2.2.1 = nI t ∧ c.1[t]? = some (nI q.2.1)) ∧
  (q.1 ≠ 0 → ∃ p, qAt c q.2.2.1 i p ∧
    (q.1 = 1 → q.2.1 = p.2.1 ∧ plc (q.2.2.2.2.2 0) p.2.1) ∧ (q.1 = 2 → q.2.1 = p.2.1 ∧ plc (q.2.2.2.2.2 0) p.2.1 ∧ plc (q.2.2.2.2.2 1) p.2.1) ∧ (q.1 = 3 → q.2.1 ≤ 4 ∧ ∀ k, k < q.2.1 → plc (q.2.2.2.2.2 k) p.2.1) ∧ (q.1 = 6 → q.2.1 = 2 ∧ p.2.1 = 2) ∧
    (q.1 = 1 ∨ q.1 = 2 ∨ q.1 = 3 → q.2.2.2.1 = -1 ∧ q.2.2.2.2.1 = p.2.2.2.2.1) ∧ (q.1 = 6 → q.2.2.2.1 = -1 ∧ q.2.2.2.2.1 = true) ∧
    (q.1 = 4 ∨ q.1 = 5 ∨ q.1 = 7 → ∃ p2, qAt c q.2.2.2.1 i p2 ∧ q.2.2.2.2.1 = (p.2.2.2.2.1 || p2.2.2.2.2.1) ∧ (q.1 = 4 → q.2.1 = p.2.1 + p2.2.1 ∧ plc (q.2.2.2.2.2 0) p.2.1 ∧ plc (q.2.2.2.2.2 1) p2.2.1) ∧ (q.1 ≠ 4 → q.2.1 = p.2.1 ∧ p2.2.1 = p.2.1)))
def WF (c : Co) : Prop := c.1.length ≤ 10 ∧ (∀ (i : Nat) (p : Int32), c.1[i]? = some p → ∃ k, 1 ≤ k ∧ k ≤ 4 ∧ p = nI k) ∧ c.2.1.length ≤ 60 ∧ (∀ (i : Nat) (f : Fct), c.2.1[i]? = some f → (∃ t, t < c.1.length ∧ f.1 = nI t) ∧ wOK f.2.2.1) ∧ c.2.2.1.length ≤ 40 ∧ (∀ (i : Nat) (q : Qst), c.2.2.1[i]? = some q → QOK c i q) ∧ ∀ k, k < 20 → TOK (c.2.2.2 k)
def AOK (A : Av) (c : Co) : Prop := A.1 < 6 ∧ (A.1 = 0 → c.1 ≠ []) ∧ (A.1 = 1 → c.2.1 ≠ []) ∧ (A.1 = 2 → A.2.1 < c.2.1.length ∧ (A.2.2.2.1 = 0 ∨ A.2.2.2.1 = 1)) ∧ (A.1 = 3 → A.2.1 < c.2.1.length ∧ A.2.2.1 < 4 ∧ ¬ A.2.2.2.1 < 0 ∧ A.2.2.2.1 ≤ mwei A.2.2.1) ∧ (A.1 = 4 → c.2.2.1 ≠ []) ∧ (A.1 = 5 → A.2.1 < 20 ∧ TOK A.2.2.2.2)
def Vd : List Av → Co → Prop
  | [], c => WF c
  | A :: r, c => WF c ∧ AOK A c ∧ Vd r (undoV A c)
def rlt : List Int32 → List Int32 → Prop
  | [], _ => False
  | _ :: _, [] => False
  | a :: r, b :: s => a < b ∨ (a = b ∧ rlt r s)
abbrev sb (a b : Int64) : Prop := a &&& (b ^^^ (-1)) = 0
def laOK (V : Vt) : Prop := V.2.2.1.1.length ≤ 32 ∧ V.2.2.1.2.1 ≤ 6 ∧ V.2.2.1.1.Pairwise (fun a b => rlt a.1 b.1) ∧ ∀ e ∈ V.2.2.1.1, e.1.length = V.2.2.1.2.1 ∧ e.2.1.length ≤ 16 ∧ e.2.1 ≠ [] ∧ e.2.1.Pairwise (fun a b => a < b) ∧ e.2.1.Pairwise (fun a b => ¬ sb a b ∧ ¬ sb b a) ∧ (∀ w ∈ e.2.1, ∀ i, V.1.2.1.length ≤ i → bt w i = false) ∧ ¬ e.2.2.2.1 < 0 ∧ e.2.2.2.1 ≤ 1000000000 ∧ ¬ e.2.2.2.2 < 0 ∧ e.2.2.2.2 ≤ 4607182418800017408 ∧ ∀ w ∈ e.2.1, w ≠ 0
def WFv (V : Vt) : Prop := Vd V.2.1 V.1 ∧ V.2.1.length ≤ 100 ∧ laOK V
theorem Vd.wf : ∀ {r : List Av} {c : Co}, Vd r c → WF c
  | [], _, h => h
  | _ :: _, _, h => h.1
theorem Vd.take : ∀ (n : Nat) {r : List Av} {c : Co}, Vd r c → Vd (r.take n) c
  | 0, _, _, h => by rw [List.take_zero]; exact h.wf
  | n + 1, [], _, h => h
  | n + 1, A :: r, c, h => ⟨h.1, h.2.1, Vd.take n h.2.2⟩
theorem psh_len {A : Av} {ac : List Av} : (psh A ac).length ≤ 100 := by unfold psh; rw [List.length_take]; omega
theorem psh_lenE {A : Av} {ac : List Av} : (psh A ac).length = min (ac.length + 1) 100 := by unfold psh; rw [List.length_take, List.length_cons]; omega
theorem Vd.psh {A : Av} {r : List Av} {c c' : Co} (w : WF c') (a : AOK A c') (e : undoV A c' = c) (h : Vd r c) : Vd (psh A r) c' := Vd.take 100 (r := A :: r) ⟨w, a, by rw [e]; exact h⟩
