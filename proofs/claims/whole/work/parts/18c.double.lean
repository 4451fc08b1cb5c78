/-! doubles from 0 on are in the order of their bits -/
def dval (n : Nat) : Nat := if n / 4503599627370496 = 0 then n % 4503599627370496 else (4503599627370496 + n % 4503599627370496) * 2 ^ (n / 4503599627370496 - 1)
theorem dval_lt {n m : Nat} (h : n < m) : dval n < dval m := by
  have hT : n % 4503599627370496 < 4503599627370496 := Nat.mod_lt _ (by decide)
  have hT2 : m % 4503599627370496 < 4503599627370496 := Nat.mod_lt _ (by decide)
  have hE : n / 4503599627370496 ≤ m / 4503599627370496 := Nat.div_le_div_right (Nat.le_of_lt h)
  unfold dval
  by_cases c : n / 4503599627370496 = m / 4503599627370496
  · have ht : n % 4503599627370496 < m % 4503599627370496 := by omega
    rw [c]
    by_cases c0 : m / 4503599627370496 = 0
    · rw [if_pos c0, if_pos c0]; exact ht
    · rw [if_neg c0, if_neg c0]
      exact Nat.mul_lt_mul_of_pos_right (by omega) (Nat.two_pow_pos _)
  · have hlt : n / 4503599627370496 < m / 4503599627370496 := by omega
    rw [if_neg (show ¬ m / 4503599627370496 = 0 by omega)]
    have h1 : 4503599627370496 * 2 ^ (m / 4503599627370496 - 1) ≤ (4503599627370496 + m % 4503599627370496) * 2 ^ (m / 4503599627370496 - 1) := Nat.mul_le_mul_right _ (by omega)
    refine Nat.lt_of_lt_of_le ?_ h1
    by_cases c0 : n / 4503599627370496 = 0
    · rw [if_pos c0]
      exact Nat.lt_of_lt_of_le hT (Nat.le_mul_of_pos_right _ (Nat.two_pow_pos _))
    · rw [if_neg c0]
      have h2 : (4503599627370496 + n % 4503599627370496) * 2 ^ (n / 4503599627370496 - 1) < 9007199254740992 * 2 ^ (n / 4503599627370496 - 1) := Nat.mul_lt_mul_of_pos_right (by omega) (Nat.two_pow_pos _)
      refine Nat.lt_of_lt_of_le h2 ?_
      have h3 : 9007199254740992 * 2 ^ (n / 4503599627370496 - 1) = 4503599627370496 * 2 ^ (n / 4503599627370496) := by
        rw [show 2 ^ (n / 4503599627370496) = 2 ^ (n / 4503599627370496 - 1 + 1) by rw [Nat.sub_add_cancel (by omega)], Nat.pow_succ]
        omega
      rw [h3]
      exact Nat.mul_le_mul_left _ (Nat.pow_le_pow_right (by decide) (by omega))
theorem dec_small {n : Nat} (h : n < 4611686018427387904) : ∃ c k : Nat, FP.Core.decode FP.Core.b64 n = .fin false c (FP.Core.b64.qmin + (k : Int)) ∧ c * 2 ^ k = dval n := by
  have hE : n / 4503599627370496 < 1024 := by omega
  have e1 : FP.Core.fieldE FP.Core.b64 n = n / 4503599627370496 := by
    show n / 4503599627370496 % 2048 = _
    omega
  have e2 : FP.Core.fieldT FP.Core.b64 n = n % 4503599627370496 := rfl
  have e3 : FP.Core.fieldS FP.Core.b64 n = false := by
    show (n / 4503599627370496 / 2048 % 2 == 1) = false
    rw [show n / 4503599627370496 / 2048 % 2 = 0 by omega]; rfl
  unfold FP.Core.decode dval
  rw [e1, e2, e3, if_neg (show ¬ n / 4503599627370496 = FP.Core.b64.exps - 1 from fun z => by have z : n / 4503599627370496 = 2048 - 1 := z; omega)]
  by_cases c0 : n / 4503599627370496 = 0
  · rw [if_pos c0, if_pos c0]
    exact ⟨n % 4503599627370496, 0, by simp, by simp⟩
  · rw [if_neg c0, if_neg c0]
    refine ⟨_, n / 4503599627370496 - 1, ?_, rfl⟩
    rw [show ((n / 4503599627370496 - 1 : Nat) : Int) = (n / 4503599627370496 : Nat) - 1 by omega]
    rfl
theorem dcmp_nat {a b : UInt64} (ha : a.toNat < 4611686018427387904) (hb : b.toNat < 4611686018427387904) : FP.dcmp a b = some (compare a.toNat b.toNat) := by
  obtain ⟨c, k, e1, e2⟩ := dec_small ha
  obtain ⟨d, j, e3, e4⟩ := dec_small hb
  show FP.Core.order (FP.Core.decode FP.Core.b64 a.toNat) (FP.Core.decode FP.Core.b64 b.toNat) = _
  rw [e1, e3]
  show some (compare ((c * 2 ^ ((FP.Core.b64.qmin + (k : Int)) - min (FP.Core.b64.qmin + (k : Int)) (FP.Core.b64.qmin + (j : Int))).toNat : Nat) : Int) ((d * 2 ^ ((FP.Core.b64.qmin + (j : Int)) - min (FP.Core.b64.qmin + (k : Int)) (FP.Core.b64.qmin + (j : Int))).toNat : Nat) : Int)) = _
  generalize FP.Core.b64.qmin = qm
  have x1 : ((qm + (k : Int)) - min (qm + (k : Int)) (qm + (j : Int))).toNat = k - min k j := by omega
  have x2 : ((qm + (j : Int)) - min (qm + (k : Int)) (qm + (j : Int))).toNat = j - min k j := by omega
  rw [x1, x2]
  have y1 : c * 2 ^ (k - min k j) * 2 ^ min k j = dval a.toNat := by rw [Nat.mul_assoc, ← Nat.pow_add, Nat.sub_add_cancel (Nat.min_le_left _ _)]; exact e2
  have y2 : d * 2 ^ (j - min k j) * 2 ^ min k j = dval b.toNat := by rw [Nat.mul_assoc, ← Nat.pow_add, Nat.sub_add_cancel (Nat.min_le_right _ _)]; exact e4
  generalize c * 2 ^ (k - min k j) = x at y1
  generalize d * 2 ^ (j - min k j) = y at y2
  generalize a.toNat = n at y1
  generalize b.toNat = m at y2
  have hp := Nat.two_pow_pos (min k j)
  have key : (n < m → x < y) ∧ (n = m → x = y) ∧ (m < n → y < x) := by
    refine ⟨fun q => ?_, fun q => ?_, fun q => ?_⟩
    · have := dval_lt q
      rw [← y1, ← y2] at this
      exact Nat.lt_of_mul_lt_mul_right this
    · rw [q, ← y2] at y1
      exact Nat.eq_of_mul_eq_mul_right hp y1
    · have := dval_lt q
      rw [← y1, ← y2] at this
      exact Nat.lt_of_mul_lt_mul_right this
  rcases Nat.lt_trichotomy n m with q | q | q
  · have := key.1 q
    rw [show compare (x : Int) (y : Int) = .lt by simp only [compare, compareOfLessAndEq]; rw [if_pos (by omega)], show compare n m = .lt by simp only [compare, compareOfLessAndEq]; rw [if_pos q]]
  · have := key.2.1 q
    rw [show compare (x : Int) (y : Int) = .eq by simp only [compare, compareOfLessAndEq]; rw [if_neg (by omega), if_pos (by omega)], show compare n m = .eq by simp only [compare, compareOfLessAndEq]; rw [if_neg (by omega), if_pos q]]
  · have := key.2.2 q
    rw [show compare (x : Int) (y : Int) = .gt by simp only [compare, compareOfLessAndEq]; rw [if_neg (by omega), if_neg (by omega)], show compare n m = .gt by simp only [compare, compareOfLessAndEq]; rw [if_neg (by omega), if_neg (by omega)]]
/-- a trust: bits of a double from 0 to 1 -/
def tru (x : Int64) : Prop := ¬ x < 0 ∧ x ≤ 4607182418800017408
theorem tru_nat {x : Int64} (h : tru x) : ∃ n, n ≤ 4607182418800017408 ∧ x = lN n ∧ x.toUInt64.toNat = n := by
  obtain ⟨n, hn, rfl⟩ := pk_lOf h.1
  have := (pk_lLE (b := 4607182418800017408) hn (by decide)).mp h.2
  refine ⟨n, this, rfl, ?_⟩
  show (lN n).toBitVec.toNat = n
  exact Nat.mod_eq_of_lt (by omega)
theorem tru_nan {x : Int64} (h : tru x) : FP.dIsNaN x.toUInt64 = false := by
  obtain ⟨n, h1, -, e⟩ := tru_nat h
  show decide (FP.Core.decode FP.Core.b64 x.toUInt64.toNat = .nan) = false
  obtain ⟨c, k, e1, -⟩ := dec_small (n := x.toUInt64.toNat) (by rw [e]; omega)
  rw [e1]
  exact decide_eq_false (fun z => by cases z)
theorem tru_l {x : Int64} (h : tru x) : (Op.cmpValue (FP.dcmp x.toUInt64 x.toUInt64) .l) = 0 := by
  obtain ⟨n, h1, -, e⟩ := tru_nat h
  rw [dcmp_nat (by rw [e]; omega) (by rw [e]; omega), show compare x.toUInt64.toNat x.toUInt64.toNat = .eq by simp only [compare, compareOfLessAndEq]; rw [if_neg (Nat.lt_irrefl _), if_pos trivial]]
  rfl
theorem tru_s {x : Int64} (h : tru x) : vn_snl2d x = false := by
  obtain ⟨n, h1, -, e⟩ := tru_nat h
  unfold vn_snl2d
  have : ¬ (x.toUInt64 &&& 0x7fffffffffffffff > 0x7ff0000000000000) := by
    show ¬ (0x7ff0000000000000 : UInt64) < (x.toUInt64 &&& 0x7fffffffffffffff)
    rw [UInt64.lt_iff_toNat_lt, UInt64.toNat_and, e]
    have := Nat.and_le_left (n := n) (m := (0x7fffffffffffffff : UInt64).toNat)
    have h2 : (0x7ff0000000000000 : UInt64).toNat = 9218868437227405312 := by decide
    omega
  rw [show decide (x.toUInt64 &&& 0x7fffffffffffffff > 0x7ff0000000000000) = false from decide_eq_false this]
  rfl
theorem tru_min {x y : Int64} (hx : tru x) (hy : tru y) : pkD false x.toUInt64 y.toUInt64 = (if y < x then y else x).toUInt64 := by
  obtain ⟨n, h1, en, e⟩ := tru_nat hx
  obtain ⟨m, h2, em, e2⟩ := tru_nat hy
  unfold pkD Native.java_lang_Math.nans.pick64
  rw [dcmp_nat (by rw [e]; omega) (by rw [e2]; omega), e, e2]
  have hlt : y < x ↔ m < n := by rw [en, em]; exact pk_lLT (by omega) (by omega)
  rcases Nat.lt_trichotomy n m with q | q | q
  · rw [show compare n m = .lt by simp only [compare, compareOfLessAndEq]; rw [if_pos q], if_neg (show ¬ y < x from fun z => by have := hlt.mp z; omega)]; rfl
  · have : x = y := by rw [en, em, q]
    rw [show compare n m = .eq by simp only [compare, compareOfLessAndEq]; rw [if_neg (by omega), if_pos q], this]; simp
  · rw [show compare n m = .gt by simp only [compare, compareOfLessAndEq]; rw [if_neg (by omega), if_neg (by omega)], if_pos (hlt.mpr q)]; rfl
theorem tru_max {x y : Int64} (hx : tru x) (hy : tru y) : pkD true x.toUInt64 y.toUInt64 = (if x < y then y else x).toUInt64 := by
  obtain ⟨n, h1, en, e⟩ := tru_nat hx
  obtain ⟨m, h2, em, e2⟩ := tru_nat hy
  unfold pkD Native.java_lang_Math.nans.pick64
  rw [dcmp_nat (by rw [e]; omega) (by rw [e2]; omega), e, e2]
  have hlt : x < y ↔ n < m := by rw [en, em]; exact pk_lLT (by omega) (by omega)
  rcases Nat.lt_trichotomy n m with q | q | q
  · rw [show compare n m = .lt by simp only [compare, compareOfLessAndEq]; rw [if_pos q], if_pos (hlt.mpr q)]; rfl
  · have : x = y := by rw [en, em, q]
    rw [show compare n m = .eq by simp only [compare, compareOfLessAndEq]; rw [if_neg (by omega), if_pos q], this]; simp
  · rw [show compare n m = .gt by simp only [compare, compareOfLessAndEq]; rw [if_neg (by omega), if_neg (by omega)], if_neg (show ¬ x < y from fun z => by have := hlt.mp z; omega)]; rfl
