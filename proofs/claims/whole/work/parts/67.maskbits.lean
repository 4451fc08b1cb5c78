/-! bits of an int; what a mask says -/
def bi (x : Int32) (i : Nat) : Bool := x.toBitVec.getLsbD i
theorem bi_ext {x y : Int32} (h : ∀ i, i < 32 → bi x i = bi y i) : x = y := Int32.toBitVec_inj.mp (BitVec.eq_of_getLsbD_eq (fun i hi => h i hi))
theorem bi_or (x y : Int32) (i : Nat) : bi (x ||| y) i = (bi x i || bi y i) := by unfold bi; rw [Int32.toBitVec_or, BitVec.getLsbD_or]
theorem bi_and (x y : Int32) (i : Nat) : bi (x &&& y) i = (bi x i && bi y i) := by unfold bi; rw [Int32.toBitVec_and, BitVec.getLsbD_and]
theorem bi_xor (x y : Int32) (i : Nat) : bi (x ^^^ y) i = (bi x i ^^ bi y i) := by unfold bi; rw [Int32.toBitVec_xor, BitVec.getLsbD_xor]
theorem bi_m1 : ∀ i, i < 32 → bi (-1) i = true := by decide +kernel
theorem bi_0 (i : Nat) : bi 0 i = false := BitVec.getLsbD_zero
theorem bi_not (x : Int32) {i : Nat} (hi : i < 32) : bi (x ^^^ (-1)) i = !bi x i := by rw [bi_xor, bi_m1 i hi, Bool.xor_true]
theorem sh1i_bv : ∀ i, i < 32 → ((1 : Int32) <<< (nI i &&& 31)).toBitVec = BitVec.twoPow 32 i := by decide +kernel
theorem bi_sh1 {i : Nat} (hi : i < 32) (j : Nat) : bi ((1 : Int32) <<< (nI i &&& 31)) j = decide (j = i) := by
  unfold bi
  rw [sh1i_bv i hi, BitVec.getLsbD_twoPow]
  by_cases e : j = i
  · subst e; simp [hi]
  · simp [e, Ne.symm e]
theorem bi_mkN (F : List Nat) (w : Int64) : ∀ (n : Nat), n ≤ 32 → ∀ x, bi (mkN F w n) x = (decide (x < n) && bt w (F.getD x 0))
  | 0, _, x => by rw [show decide (x < 0) = false from decide_eq_false (Nat.not_lt_zero _), Bool.false_and]; exact bi_0 x
  | n + 1, hn, x => by
    have ih := bi_mkN F w n (by omega) x
    show bi (if bt w (F.getD n 0) = true then mkN F w n ||| ((1 : Int32) <<< (nI n &&& 31)) else mkN F w n) x = _
    by_cases c : bt w (F.getD n 0) = true
    · rw [if_pos c, bi_or, ih, bi_sh1 (by omega)]
      by_cases z : x = n
      · rw [z, c]; simp
      · rw [decide_eq_false z, Bool.or_false]
        congr 1
        exact decide_eq_decide.mpr (by omega)
    · rw [if_neg c, ih]
      have c : bt w (F.getD n 0) = false := by cases q : bt w (F.getD n 0) with | true => exact absurd q c | false => rfl
      by_cases z : x = n
      · rw [z, c]; simp
      · congr 1
        exact decide_eq_decide.mpr (by omega)
/-- a mask within a set -/
theorem mk_in (F : List Nat) (w : Int64) (hF : F.length ≤ 16) (s : Int32) : mkN F w F.length &&& (s ^^^ (-1)) = 0 ↔ ∀ x, x < F.length → bt w (F.getD x 0) = true → bi s x = true := by
  constructor
  · intro e x hx hb
    have t : bi (mkN F w F.length &&& (s ^^^ (-1))) x = bi 0 x := by rw [e]
    rw [bi_and, bi_mkN F w F.length (by omega), bi_not s (by omega), bi_0, decide_eq_true hx, hb, Bool.true_and, Bool.true_and] at t
    cases q : bi s x with
    | true => rfl
    | false => rw [q] at t; cases t
  · intro k
    refine bi_ext (fun x hx => ?_)
    rw [bi_and, bi_mkN F w F.length (by omega), bi_not s hx, bi_0]
    by_cases c : x < F.length
    · rw [decide_eq_true c, Bool.true_and]
      cases q : bt w (F.getD x 0) with
      | false => rfl
      | true => rw [k x c q]; rfl
    · rw [decide_eq_false c]; rfl
