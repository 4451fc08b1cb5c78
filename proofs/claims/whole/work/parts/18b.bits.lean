/-! bits of a long -/
theorem bt_ext {x y : Int64} (h : ∀ i, i < 64 → bt x i = bt y i) : x = y := Int64.toBitVec_inj.mp (BitVec.eq_of_getLsbD_eq (fun i hi => h i hi))
theorem bt_or (x y : Int64) (i : Nat) : bt (x ||| y) i = (bt x i || bt y i) := by unfold bt; rw [Int64.toBitVec_or, BitVec.getLsbD_or]
theorem bt_and (x y : Int64) (i : Nat) : bt (x &&& y) i = (bt x i && bt y i) := by unfold bt; rw [Int64.toBitVec_and, BitVec.getLsbD_and]
theorem bt_xor (x y : Int64) (i : Nat) : bt (x ^^^ y) i = (bt x i ^^ bt y i) := by unfold bt; rw [Int64.toBitVec_xor, BitVec.getLsbD_xor]
theorem bt_big {x : Int64} {i : Nat} (h : 64 ≤ i) : bt x i = false := BitVec.getLsbD_of_ge _ _ h
theorem bt_m1 : ∀ i, i < 64 → bt (-1) i = true := by decide +kernel
theorem bt_0 (i : Nat) : bt 0 i = false := BitVec.getLsbD_zero
theorem bt_not (x : Int64) {i : Nat} (hi : i < 64) : bt (x ^^^ (-1)) i = !bt x i := by rw [bt_xor, bt_m1 i hi, Bool.xor_true]
theorem sh1_bv : ∀ i, i < 64 → ((1 : Int64) <<< ((nI i).toInt64 &&& 63)).toBitVec = BitVec.twoPow 64 i := by decide +kernel
theorem bt_sh1 {i : Nat} (hi : i < 64) (j : Nat) : bt ((1 : Int64) <<< ((nI i).toInt64 &&& 63)) j = decide (j = i) := by
  unfold bt
  rw [sh1_bv i hi, BitVec.getLsbD_twoPow]
  by_cases e : j = i
  · subst e; simp [hi]
  · simp [e, Ne.symm e]
theorem ush_n : ∀ i, i < 64 → ((nI i).toInt64.toUInt64 &&& Int64.toUInt64 63).toNat = i := by decide +kernel
theorem has_bt (w : Int64) {j : Nat} (hj : j < 64) : ((zUsh w (nI j)) &&& 1) = 0 ↔ bt w j = false := by
  have hs := ush_n j hj
  have e : (zUsh w (nI j)).toBitVec = w.toBitVec >>> j := by
    apply BitVec.eq_of_toNat_eq
    show (w.toUInt64 >>> ((nI j).toInt64.toUInt64 &&& Int64.toUInt64 63)).toNat = _
    rw [UInt64.toNat_shiftRight, hs, Nat.mod_eq_of_lt hj, BitVec.toNat_ushiftRight]
    rfl
  rw [← Int64.toBitVec_inj, Int64.toBitVec_and, e]
  show w.toBitVec >>> j &&& 1#64 = 0#64 ↔ _
  unfold bt
  constructor
  · intro h
    have t := congrArg (fun x => x.getLsbD 0) h
    simpa using t
  · intro h
    apply BitVec.eq_of_getLsbD_eq
    intro i hi
    cases i with
    | zero => simp [h]
    | succ i => simp
theorem sb_bt {a b : Int64} : sb a b ↔ ∀ i, i < 64 → bt a i = true → bt b i = true := by
  unfold sb
  constructor
  · intro h i hi ha
    have t : bt (a &&& (b ^^^ (-1))) i = bt 0 i := by rw [h]
    rw [bt_and, bt_not b hi, bt_0, ha] at t
    cases hb : bt b i with
    | true => rfl
    | false => rw [hb] at t; cases t
  · intro h
    refine bt_ext (fun i hi => ?_)
    rw [bt_and, bt_not b hi, bt_0]
    cases ha : bt a i with
    | false => rfl
    | true => rw [h i hi ha]; rfl
theorem sb_rf (a : Int64) : sb a a := sb_bt.mpr (fun _ _ h => h)
theorem sb_tr {a b c : Int64} (h : sb a b) (k : sb b c) : sb a c := sb_bt.mpr (fun i hi ha => sb_bt.mp k i hi (sb_bt.mp h i hi ha))
theorem sb_as {a b : Int64} (h : sb a b) (k : sb b a) : a = b := by
  refine bt_ext (fun i hi => ?_)
  cases ha : bt a i with
  | true => rw [sb_bt.mp h i hi ha]
  | false =>
    cases hb : bt b i with
    | false => rfl
    | true => rw [sb_bt.mp k i hi hb] at ha; cases ha
theorem sb_or {a b c : Int64} : sb (a ||| b) c ↔ sb a c ∧ sb b c := by
  rw [sb_bt, sb_bt, sb_bt]
  constructor
  · intro h
    exact ⟨fun i hi ha => h i hi (by rw [bt_or, ha]; rfl), fun i hi ha => h i hi (by rw [bt_or, ha, Bool.or_true])⟩
  · intro h i hi ha
    rw [bt_or] at ha
    cases h1 : bt a i with
    | true => exact h.1 i hi h1
    | false => rw [h1, Bool.false_or] at ha; exact h.2 i hi ha
