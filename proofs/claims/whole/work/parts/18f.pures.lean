/-! the calls on the shelf, size, status -/
abbrev badS (k : Int32) : Prop := k < 0 ∨ 20 ≤ k
/-- what would be laid; none: there is no such thing -/
def thV (s : Nat) (n : Int32) (V : Vt) : Option Thg := if s = 0 then some noT else if s = 1 then (fOf V n).map (fun _ => (1, [n.toInt64])) else if s = 2 then (qOf V n).map (fun _ => (2, [n.toInt64])) else if s = 3 then (aOf V n).map (fun e => (3, e.1.map Int32.toInt64)) else (aOf V n).map (fun e => (4, e.2.1))
def setS (c : Co) (k : Nat) (t : Thg) : Co := (c.1, c.2.1, c.2.2.1, upF c.2.2.2 k t)
def ladV (k : Nat) (t : Thg) (V : Vt) : Int32 × Vt := (1, acV (setS V.1 k t) (5, k, 0, 0, V.1.2.2.2 k) V)
def layV (k s n : Int32) (V : Vt) : Int32 × Vt := if badS k then (-1, stV V 1) else if s < 0 ∨ ¬ s ≤ 4 then (-1, stV V 2) else match thV (ix s) n V with
  | none => (-1, stV V 1)
  | some t => ladV (ix k) t V
def lieV (k : Int32) (V : Vt) : Int32 × Vt := if badS k then (-1, stV V 1) else (nI (V.1.2.2.2 (ix k)).1, stV V 0)
def takV (k s i : Int32) (V : Vt) : Int64 × Vt := if badS k then (-1, stV V 1) else if s < 1 ∨ ¬ s ≤ 4 then (-1, stV V 2) else if (V.1.2.2.2 (ix k)).1 ≠ ix s then (-1, stV V 7) else
  if s < 3 then ((V.1.2.2.2 (ix k)).2.getD 0 0, stV V 0) else if i < 0 ∨ nI (V.1.2.2.2 (ix k)).2.length ≤ i then (-1, stV V 1) else ((V.1.2.2.2 (ix k)).2.getD (ix i) 0, stV V 0)
/-- n of the one, from i, over the other, from m -/
def cpL (a b : List Int64) (i m n : Nat) : List Int64 := b.take m ++ ((a.drop i).take n ++ b.drop (m + n))
def copV (j i k m n : Int32) (V : Vt) : Int32 × Vt := if badS j ∨ badS k then (-1, stV V 1) else if (V.1.2.2.2 (ix j)).1 ≠ 3 ∨ (V.1.2.2.2 (ix k)).1 ≠ 3 then (-1, stV V 7) else
  if i < 0 ∨ m < 0 ∨ n < 0 ∨ (V.1.2.2.2 (ix j)).2.length < ix i + ix n ∨ (V.1.2.2.2 (ix k)).2.length < ix m + ix n then (-1, stV V 2) else ladV (ix k) (3, cpL (V.1.2.2.2 (ix j)).2 (V.1.2.2.2 (ix k)).2 (ix i) (ix m) (ix n)) V
def sizV (w : Int32) (V : Vt) : Int32 := if w = 0 then nI V.1.1.length else if w = 1 then nI V.1.2.1.length else if w = 2 then nI V.1.2.2.1.length else if w = 3 then nI V.2.2.1.1.length else if w = 4 then nI V.2.1.length else -1
theorem cpL_len {a b : List Int64} {i m n : Nat} (h1 : i + n ≤ a.length) (h2 : m + n ≤ b.length) : (cpL a b i m n).length = b.length := by
  unfold cpL
  rw [List.length_append, List.length_append, List.length_take, List.length_take, List.length_drop, List.length_drop]
  omega
theorem cpL_get {a b : List Int64} {i m n : Nat} (h1 : i + n ≤ a.length) (h2 : m + n ≤ b.length) (k : Nat) : (cpL a b i m n)[k]? = if m ≤ k ∧ k < m + n then a[i + (k - m)]? else b[k]? := by
  unfold cpL
  by_cases c1 : k < m
  · rw [List.getElem?_append_left (by rw [List.length_take]; omega), List.getElem?_take, if_pos c1, if_neg (by omega)]
  · rw [List.getElem?_append_right (by rw [List.length_take]; omega), List.length_take, show min m b.length = m by omega]
    by_cases c2 : k < m + n
    · rw [List.getElem?_append_left (by rw [List.length_take, List.length_drop]; omega), List.getElem?_take, if_pos (by omega), List.getElem?_drop, if_pos (by omega)]
    · rw [List.getElem?_append_right (by rw [List.length_take, List.length_drop]; omega), List.length_take, List.length_drop, List.getElem?_drop, if_neg (by omega)]
      congr 1
      omega
