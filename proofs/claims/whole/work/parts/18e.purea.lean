/-! the calls on the latest answers -/
def aOf (V : Vt) (i : Int32) : Option Ans := if i < 0 then none else V.2.2.1.1[ix i]?
def valV (i k : Int32) (V : Vt) : Int32 := match aOf V i with
  | none => 0
  | some e => if k < 0 then 0 else e.1.getD (ix k) 0
def finV (row : List Int32) (V : Vt) : Int32 := match V.2.2.1.1.findIdx? (fun e => decide (e.1 = row.take V.2.2.1.2.1)) with
  | none => -1
  | some i => nI i
def wysV (i : Int32) (V : Vt) : Int32 := match aOf V i with
  | none => -1
  | some e => nI e.2.1.length
def wayV (i k : Int32) (V : Vt) : Int64 := match aOf V i with
  | none => 0
  | some e => if k < 0 then 0 else e.2.1.getD (ix k) 0
def neeV (i : Int32) (V : Vt) : Int64 := match aOf V i with
  | none => 0
  | some e => e.2.1.foldl (fun x y => x &&& y) (-1)
def couV (i : Int32) (V : Vt) : Int64 × Vt := match aOf V i with
  | none => (0, stV V 1)
  | some e => if V.2.2.1.2.2 = true then (0, stV V 6) else (e.2.2.1, stV V 0)
def cosV (i : Int32) (V : Vt) : Int32 × Vt := match aOf V i with
  | none => (-1, stV V 1)
  | some e => (e.2.2.2.1, stV V 0)
def truV (i : Int32) (V : Vt) : Int64 × Vt := match aOf V i with
  | none => (-1, stV V 1)
  | some e => (e.2.2.2.2, stV V 0)
def witV (i : Int32) (X : Int64) (V : Vt) : Int32 × Vt := match aOf V i with
  | none => (-1, stV V 1)
  | some e => (zB (e.2.1.any (fun u => decide (sb u X))), stV V 0)
def drp (fs : List Fct) (f : Nat) : Bool := match fs[f]? with
  | none => false
  | some x => x.2.2.2
/-- no fact of the way is dropped -/
def there (fs : List Fct) (w : Int64) : Bool := (List.range fs.length).all (fun f => !bt w f || !drp fs f)
def staV (i : Int32) (V : Vt) : Int32 × Vt := match aOf V i with
  | none => (-1, stV V 1)
  | some e => (zB (e.2.1.any (there V.1.2.1)), stV V 0)
def wouV (X : Int64) (V : Vt) : Int32 := nI (V.2.2.1.1.countP (fun e => !(e.2.1.any (fun u => decide (sb u X)))))
/-- the mask of what is dropped against the facts -/
theorem there_sb {fs : List Fct} (hl : fs.length ≤ 60) {w d : Int64} (hw : ∀ i, fs.length ≤ i → bt w i = false) (hd : ∀ i f, fs[i]? = some f → bt d i = f.2.2.2) : decide (sb w (d ^^^ (-1))) = there fs w := by
  rw [Bool.eq_iff_iff, decide_eq_true_iff, sb_bt]
  unfold there
  rw [List.all_eq_true]
  constructor
  · intro h f hf
    have hf := List.mem_range.mp hf
    have e1 := hd f _ (List.getElem?_eq_getElem hf)
    unfold drp
    rw [List.getElem?_eq_getElem hf]
    show (!bt w f || !(fs[f]).2.2.2) = true
    rw [← e1]
    cases hb : bt w f with
    | false => rfl
    | true =>
      have := h f (by omega) hb
      rw [bt_not d (by omega)] at this
      rw [this]; rfl
  · intro h i hi hb
    by_cases c : i < fs.length
    · have := h i (List.mem_range.mpr c)
      have e1 := hd i _ (List.getElem?_eq_getElem c)
      unfold drp at this
      rw [List.getElem?_eq_getElem c] at this
      have this : (!bt w i || !(fs[i]).2.2.2) = true := this
      rw [hb, ← e1] at this
      rw [bt_not d hi]
      simpa using this
    · rw [hw i (by omega)] at hb; cases hb
