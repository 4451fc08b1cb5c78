/-! how many bits: the library's count -/
def vB : List Nat → Nat
  | [] => 0
  | b :: r => b + 256 * vB r
def mB (m : Nat) : Nat → Nat
  | 0 => 0
  | n + 1 => m + 256 * mB m n
theorem and_split {w d v m n : Nat} (hd : d < 2 ^ w) (hm : m < 2 ^ w) : (d + 2 ^ w * v) &&& (m + 2 ^ w * n) = (d &&& m) + 2 ^ w * (v &&& n) := by
  have hx : d &&& m < 2 ^ w := Nat.lt_of_le_of_lt Nat.and_le_left hd
  apply Nat.eq_of_testBit_eq
  intro i
  rw [Nat.testBit_and, Nat.add_comm d, Nat.add_comm m, Nat.add_comm (d &&& m), Nat.testBit_two_pow_mul_add v hd, Nat.testBit_two_pow_mul_add n hm, Nat.testBit_two_pow_mul_add (v &&& n) hx]
  by_cases c : i < w
  · rw [if_pos c, if_pos c, if_pos c, Nat.testBit_and]
  · rw [if_neg c, if_neg c, if_neg c, Nat.testBit_and]
theorem and_low {w d v m : Nat} (hd : d < 2 ^ w) (hm : m < 2 ^ w) : (d + 2 ^ w * v) &&& m = d &&& m := by
  have := and_split (w := w) (v := v) (n := 0) hd hm
  rw [Nat.mul_zero, Nat.add_zero, Nat.and_zero, Nat.mul_zero, Nat.add_zero] at this
  exact this
theorem shand0 : ∀ (m : Nat), m < 256 → ∀ bs : List Nat, (∀ b ∈ bs, b < 256) → vB bs &&& mB m bs.length = vB (bs.map (fun b => b &&& m))
  | m, hm, [], _ => Nat.zero_and _
  | m, hm, b :: r, h => by
    show (b + 256 * vB r) &&& (m + 256 * mB m r.length) = (b &&& m) + 256 * vB (r.map (fun b => b &&& m))
    rw [← shand0 m hm r (fun x hx => h x (List.mem_cons_of_mem _ hx))]
    exact and_split (w := 8) (h b List.mem_cons_self) hm
theorem shand1 : ∀ bs : List Nat, (∀ b ∈ bs, b < 256) → (vB bs / 2) &&& mB 85 bs.length = vB (bs.map (fun b => (b / 2) &&& 85))
  | [], _ => Nat.zero_and _
  | b :: r, h => by
    have hb := h b List.mem_cons_self
    show ((b + 256 * vB r) / 2) &&& (85 + 256 * mB 85 r.length) = ((b / 2) &&& 85) + 256 * vB (r.map (fun b => (b / 2) &&& 85))
    rw [← shand1 r (fun x hx => h x (List.mem_cons_of_mem _ hx)), show (b + 256 * vB r) / 2 = (b / 2 + 2 ^ 7 * (vB r % 2)) + 2 ^ 8 * (vB r / 2) by omega, and_split (w := 8) (m := 85) (by omega) (by decide), and_low (w := 7) (m := 85) (by omega) (by decide)]
theorem shand2 : ∀ bs : List Nat, (∀ b ∈ bs, b < 256) → (vB bs / 4) &&& mB 51 bs.length = vB (bs.map (fun b => (b / 4) &&& 51))
  | [], _ => Nat.zero_and _
  | b :: r, h => by
    have hb := h b List.mem_cons_self
    show ((b + 256 * vB r) / 4) &&& (51 + 256 * mB 51 r.length) = ((b / 4) &&& 51) + 256 * vB (r.map (fun b => (b / 4) &&& 51))
    rw [← shand2 r (fun x hx => h x (List.mem_cons_of_mem _ hx)), show (b + 256 * vB r) / 4 = (b / 4 + 2 ^ 6 * (vB r % 4)) + 2 ^ 8 * (vB r / 4) by omega, and_split (w := 8) (m := 51) (by omega) (by decide), and_low (w := 6) (m := 51) (by omega) (by decide)]
theorem vB_m4 : ∀ bs : List Nat, (∀ b ∈ bs, b % 16 ≤ 4) → vB bs % 16 ≤ 4
  | [], _ => by decide
  | b :: r, h => by
    have := h b List.mem_cons_self
    show (b + 256 * vB r) % 16 ≤ 4
    omega
theorem shand3 : ∀ bs : List Nat, (∀ b ∈ bs, b ≤ 68 ∧ b % 16 ≤ 4) → (vB bs + vB bs / 16) &&& mB 15 bs.length = vB (bs.map (fun b => (b + b / 16) &&& 15))
  | [], _ => Nat.zero_and _
  | b :: r, h => by
    have hb := h b List.mem_cons_self
    have hr := vB_m4 r (fun x hx => (h x (List.mem_cons_of_mem _ hx)).2)
    show ((b + 256 * vB r) + (b + 256 * vB r) / 16) &&& (15 + 256 * mB 15 r.length) = ((b + b / 16) &&& 15) + 256 * vB (r.map (fun b => (b + b / 16) &&& 15))
    rw [← shand3 r (fun x hx => h x (List.mem_cons_of_mem _ hx)), show (b + 256 * vB r) + (b + 256 * vB r) / 16 = (b + b / 16 + 16 * (vB r % 16)) + 2 ^ 8 * (vB r + vB r / 16) by omega, and_split (w := 8) (m := 15) (by omega) (by decide)]
    have e : (b + b / 16 + 16 * (vB r % 16)) &&& 15 = (b + b / 16) &&& 15 := by
      rw [show (15 : Nat) = 2 ^ 4 - 1 by decide, Nat.and_two_pow_sub_one_eq_mod, Nat.and_two_pow_sub_one_eq_mod]
      omega
    rw [e]
theorem vB_sub : ∀ (f : Nat → Nat) (bs : List Nat), (∀ b ∈ bs, f b ≤ b) → vB bs - vB (bs.map f) = vB (bs.map (fun b => b - f b)) ∧ vB (bs.map f) ≤ vB bs
  | _, [], _ => ⟨rfl, Nat.le_refl _⟩
  | f, b :: r, h => by
    have hb := h b List.mem_cons_self
    have q := vB_sub f r (fun x hx => h x (List.mem_cons_of_mem _ hx))
    show (b + 256 * vB r) - (f b + 256 * vB (r.map f)) = (b - f b) + 256 * vB (r.map (fun b => b - f b)) ∧ f b + 256 * vB (r.map f) ≤ b + 256 * vB r
    omega
theorem vB_add : ∀ (f g : Nat → Nat) (bs : List Nat), vB (bs.map f) + vB (bs.map g) = vB (bs.map (fun b => f b + g b))
  | _, _, [] => rfl
  | f, g, b :: r => by
    have q := vB_add f g r
    show (f b + 256 * vB (r.map f)) + (g b + 256 * vB (r.map g)) = (f b + g b) + 256 * vB (r.map (fun b => f b + g b))
    omega
def g1 (b : Nat) : Nat := b - ((b / 2) &&& 85)
def g2 (b : Nat) : Nat := (b &&& 51) + ((b / 4) &&& 51)
def g3 (b : Nat) : Nat := (b + b / 16) &&& 15
def pc8 (b : Nat) : Nat := ((List.range 8).filter (fun j => b.testBit j)).length
theorem g_all : ∀ b, b < 256 → ((b / 2) &&& 85) ≤ b ∧ g1 b < 256 ∧ g2 (g1 b) ≤ 68 ∧ g2 (g1 b) % 16 ≤ 4 ∧ g3 (g2 (g1 b)) = pc8 b ∧ pc8 b ≤ 8 := by decide +kernel
abbrev tN (a : Int64) : Nat := a.toBitVec.toNat
theorem tn_ush (w : Int64) {j : Nat} (hj : j < 64) : tN (zUsh w (nI j)) = tN w / 2 ^ j := by
  have hs := ush_n j hj
  show (w.toUInt64 >>> ((nI j).toInt64.toUInt64 &&& Int64.toUInt64 63)).toNat = _
  rw [UInt64.toNat_shiftRight, hs, Nat.mod_eq_of_lt hj, Nat.shiftRight_eq_div_pow]
  rfl
theorem tn_and (a b : Int64) : tN (a &&& b) = tN a &&& tN b := by unfold tN; rw [Int64.toBitVec_and, BitVec.toNat_and]
theorem tn_add {a b : Int64} (h : tN a + tN b < 2 ^ 64) : tN (a + b) = tN a + tN b := by unfold tN at h ⊢; rw [Int64.toBitVec_add, BitVec.toNat_add, Nat.mod_eq_of_lt h]
theorem tn_sub {a b : Int64} (h : tN b ≤ tN a) : tN (a - b) = tN a - tN b := by
  unfold tN at h ⊢
  have := a.toBitVec.isLt
  rw [Int64.toBitVec_sub, BitVec.toNat_sub]
  omega
theorem bytes (n : Nat) (h : n < 2 ^ 64) : ∃ b0 b1 b2 b3 b4 b5 b6 b7 : Nat, (∀ b ∈ [b0, b1, b2, b3, b4, b5, b6, b7], b < 256) ∧ n = vB [b0, b1, b2, b3, b4, b5, b6, b7] ∧ (∀ k, k < 8 → [b0, b1, b2, b3, b4, b5, b6, b7][k]? = some (n / 256 ^ k % 256)) := by
  refine ⟨n % 256, n / 256 % 256, n / 256 ^ 2 % 256, n / 256 ^ 3 % 256, n / 256 ^ 4 % 256, n / 256 ^ 5 % 256, n / 256 ^ 6 % 256, n / 256 ^ 7 % 256, ?_, ?_, ?_⟩
  · intro b hb
    simp only [List.mem_cons, List.not_mem_nil, or_false] at hb
    rcases hb with rfl | rfl | rfl | rfl | rfl | rfl | rfl | rfl <;> exact Nat.mod_lt _ (by decide)
  · simp only [vB]
    omega
  · intro k hk
    match k, hk with
    | 0, _ => rw [Nat.pow_zero, Nat.div_one]; rfl
    | 1, _ => rw [Nat.pow_one]; rfl
    | 2, _ => rfl
    | 3, _ => rfl
    | 4, _ => rfl
    | 5, _ => rfl
    | 6, _ => rfl
    | 7, _ => rfl
/-- the bits of a long, and how many -/
def bits (x : Int64) : List Nat := (List.range 64).filter (fun i => bt x i)
theorem bits_mem {x : Int64} {i : Nat} : i ∈ bits x ↔ bt x i = true := by
  unfold bits
  rw [List.mem_filter, List.mem_range]
  refine ⟨fun h => h.2, fun h => ⟨?_, h⟩⟩
  by_cases c : i < 64
  · exact c
  · rw [bt_big (by omega)] at h; cases h
def pcu (x : Int64) (n : Nat) : Nat := ((List.range n).filter (fun i => bt x i)).length
theorem pcu_8 (x : Int64) (k : Nat) : pcu x (8 * k + 8) = pcu x (8 * k) + pc8 (tN x / 256 ^ k % 256) := by
  unfold pcu pc8
  rw [List.range_add, List.filter_append, List.length_append, List.filter_map, List.length_map]
  congr 2
  apply List.filter_congr
  intro j hj
  have hj := List.mem_range.mp hj
  show x.toBitVec.getLsbD (8 * k + j) = _
  rw [show (256 : Nat) = 2 ^ 8 by decide, ← Nat.pow_mul, Nat.testBit_mod_two_pow, Nat.testBit_div_two_pow]
  simp only [hj, decide_true, Bool.true_and]
  rw [Nat.add_comm]
  rfl
def q1 (x : Int64) : Int64 := x - ((zUsh x 1) &&& 6148914691236517205)
def q2 (x : Int64) : Int64 := (x &&& 3689348814741910323) + ((zUsh x 2) &&& 3689348814741910323)
def q3 (x : Int64) : Int64 := (x + (zUsh x 4)) &&& 1085102592571150095
def q4 (x : Int64) : Int64 := x + (zUsh x 8)
def q5 (x : Int64) : Int64 := x + (zUsh x 16)
def q6 (x : Int64) : Int64 := x + (zUsh x 32)
theorem q6_end {x : Int64} {s : Nat} (h : tN x % 128 = s) : (Int64.toInt32 x) &&& 127 = nI s := by
  apply Int32.toBitVec_inj.mp
  apply BitVec.eq_of_toNat_eq
  rw [Int32.toBitVec_and, BitVec.toNat_and]
  have e1 : (Int64.toInt32 x).toBitVec.toNat = tN x % 2 ^ 32 := by
    show (x.toBitVec.signExtend 32).toNat = _
    rw [BitVec.signExtend_eq_setWidth_of_le _ (by decide), BitVec.toNat_setWidth]
  have e2 : (127 : Int32).toBitVec.toNat = 2 ^ 7 - 1 := by decide
  have e3 : (nI s).toBitVec.toNat = s % 2 ^ 32 := BitVec.toNat_ofNat s 32
  rw [e1, e2, e3, Nat.and_two_pow_sub_one_eq_mod]
  omega
def V8 (c0 c1 c2 c3 c4 c5 c6 c7 : Nat) : Nat := c0 + 256 * (c1 + 256 * (c2 + 256 * (c3 + 256 * (c4 + 256 * (c5 + 256 * (c6 + 256 * c7))))))
theorem V8_lt {c0 c1 c2 c3 c4 c5 c6 c7 : Nat} (m0 : c0 ≤ 120) (m1 : c1 ≤ 120) (m2 : c2 ≤ 120) (m3 : c3 ≤ 120) (m4 : c4 ≤ 120) (m5 : c5 ≤ 120) (m6 : c6 ≤ 120) (m7 : c7 ≤ 120) : V8 c0 c1 c2 c3 c4 c5 c6 c7 < 2 ^ 63 := by
  have s7 : c6 + 256 * c7 ≤ 30840 := by omega
  have s6 : c5 + 256 * (c6 + 256 * c7) ≤ 7895160 := by omega
  have s5 : c4 + 256 * (c5 + 256 * (c6 + 256 * c7)) ≤ 2021161080 := by omega
  unfold V8
  generalize c4 + 256 * (c5 + 256 * (c6 + 256 * c7)) = u at s5 ⊢
  omega
theorem V8_add (c0 c1 c2 c3 c4 c5 c6 c7 d0 d1 d2 d3 d4 d5 d6 d7 : Nat) : V8 c0 c1 c2 c3 c4 c5 c6 c7 + V8 d0 d1 d2 d3 d4 d5 d6 d7 = V8 (c0 + d0) (c1 + d1) (c2 + d2) (c3 + d3) (c4 + d4) (c5 + d5) (c6 + d6) (c7 + d7) := by
  unfold V8
  simp only [Nat.mul_add]
  omega
theorem V8_d {c0 c1 c2 c3 c4 c5 c6 c7 : Nat} (m0 : c0 ≤ 64) : V8 c0 c1 c2 c3 c4 c5 c6 c7 / 256 = V8 c1 c2 c3 c4 c5 c6 c7 0 := by
  unfold V8
  rw [Nat.add_mul_div_left _ _ (by decide), Nat.div_eq_of_lt (by omega), Nat.zero_add, Nat.mul_zero, Nat.add_zero]
theorem V8_m {c0 c1 c2 c3 c4 c5 c6 c7 : Nat} (m0 : c0 ≤ 64) : V8 c0 c1 c2 c3 c4 c5 c6 c7 % 128 = c0 := by
  unfold V8
  generalize c1 + 256 * (c2 + 256 * (c3 + 256 * (c4 + 256 * (c5 + 256 * (c6 + 256 * c7))))) = u
  omega
theorem pop_end {y : Int64} {e0 e1 e2 e3 e4 e5 e6 e7 : Nat} (h3 : tN y = V8 e0 e1 e2 e3 e4 e5 e6 e7) (m0 : e0 ≤ 8) (m1 : e1 ≤ 8) (m2 : e2 ≤ 8) (m3 : e3 ≤ 8) (m4 : e4 ≤ 8) (m5 : e5 ≤ 8) (m6 : e6 ≤ 8) (m7 : e7 ≤ 8) : tN (q6 (q5 (q4 y))) % 128 = e0 + e1 + e2 + e3 + e4 + e5 + e6 + e7 := by
  have z4 : tN (zUsh y 8) = V8 e1 e2 e3 e4 e5 e6 e7 0 := (show tN (zUsh y 8) = tN y / 2 ^ 8 from tn_ush _ (j := 8) (by decide)).trans (by rw [h3]; exact V8_d (by clear h3; omega))
  have v4 : tN (q4 y) = V8 (e0 + e1) (e1 + e2) (e2 + e3) (e3 + e4) (e4 + e5) (e5 + e6) (e6 + e7) (e7 + 0) := by
    unfold q4
    rw [tn_add (by rw [z4, h3, V8_add]; clear z4 h3; exact Nat.lt_trans (V8_lt (by omega) (by omega) (by omega) (by omega) (by omega) (by omega) (by omega) (by omega)) (by decide)), z4, h3, V8_add]
  generalize q4 y = y4 at v4 ⊢
  have z5 : tN (zUsh y4 16) = V8 (e2 + e3) (e3 + e4) (e4 + e5) (e5 + e6) (e6 + e7) (e7 + 0) 0 0 := (show tN (zUsh y4 16) = tN y4 / 2 ^ 16 from tn_ush _ (j := 16) (by decide)).trans (by rw [v4, show (2 : Nat) ^ 16 = 256 * 256 by decide, ← Nat.div_div_eq_div_mul, V8_d (by clear z4 h3 v4; omega), V8_d (by clear z4 h3 v4; omega)])
  have v5 : tN (q5 y4) = V8 (e0 + e1 + (e2 + e3)) (e1 + e2 + (e3 + e4)) (e2 + e3 + (e4 + e5)) (e3 + e4 + (e5 + e6)) (e4 + e5 + (e6 + e7)) (e5 + e6 + (e7 + 0)) (e6 + e7 + 0) (e7 + 0 + 0) := by
    unfold q5
    rw [tn_add (by rw [z5, v4, V8_add]; clear z4 h3 z5 v4; exact Nat.lt_trans (V8_lt (by omega) (by omega) (by omega) (by omega) (by omega) (by omega) (by omega) (by omega)) (by decide)), z5, v4, V8_add]
  generalize q5 y4 = y5 at v5 ⊢
  have z6 : tN (zUsh y5 32) = V8 (e4 + e5 + (e6 + e7)) (e5 + e6 + (e7 + 0)) (e6 + e7 + 0) (e7 + 0 + 0) 0 0 0 0 := (show tN (zUsh y5 32) = tN y5 / 2 ^ 32 from tn_ush _ (j := 32) (by decide)).trans (by rw [v5, show (2 : Nat) ^ 32 = 256 * 256 * 256 * 256 by decide, ← Nat.div_div_eq_div_mul, ← Nat.div_div_eq_div_mul, ← Nat.div_div_eq_div_mul, V8_d (by clear z4 h3 z5 v4 v5; omega), V8_d (by clear z4 h3 z5 v4 v5; omega), V8_d (by clear z4 h3 z5 v4 v5; omega), V8_d (by clear z4 h3 z5 v4 v5; omega)])
  unfold q6
  rw [tn_add (by rw [z6, v5, V8_add]; clear z4 h3 z5 v4 z6 v5; exact Nat.lt_trans (V8_lt (by omega) (by omega) (by omega) (by omega) (by omega) (by omega) (by omega) (by omega)) (by decide)), z6, v5, V8_add, V8_m (by clear z4 h3 z5 v4 z6 v5; omega)]
  clear z4 h3 z5 v4 z6 v5
  omega
theorem pop_eq (x : Int64) {σ : St} {Q : Int32 → St → Prop} (hQ : Q (nI (bits x).length) σ) : wJ13_bitCount_95d88 x σ Q := by
  show Q ((Int64.toInt32 (q6 (q5 (q4 (q3 (q2 (q1 x))))))) &&& 127) σ
  rw [q6_end (s := (bits x).length)]
  · exact hQ
  · obtain ⟨b0, b1, b2, b3, b4, b5, b6, b7, hb, hv, hk⟩ := bytes (tN x) x.toBitVec.isLt
    have hp : (bits x).length = pc8 b0 + pc8 b1 + pc8 b2 + pc8 b3 + pc8 b4 + pc8 b5 + pc8 b6 + pc8 b7 := by
      have k0 := Option.some.inj (hk 0 (by decide))
      have k1 := Option.some.inj (hk 1 (by decide))
      have k2 := Option.some.inj (hk 2 (by decide))
      have k3 := Option.some.inj (hk 3 (by decide))
      have k4 := Option.some.inj (hk 4 (by decide))
      have k5 := Option.some.inj (hk 5 (by decide))
      have k6 := Option.some.inj (hk 6 (by decide))
      have k7 := Option.some.inj (hk 7 (by decide))
      have u0 := pcu_8 x 0
      have u1 := pcu_8 x 1
      have u2 := pcu_8 x 2
      have u3 := pcu_8 x 3
      have u4 := pcu_8 x 4
      have u5 := pcu_8 x 5
      have u6 := pcu_8 x 6
      have u7 := pcu_8 x 7
      rw [← k0] at u0
      rw [← k1] at u1
      rw [← k2] at u2
      rw [← k3] at u3
      rw [← k4] at u4
      rw [← k5] at u5
      rw [← k6] at u6
      rw [← k7] at u7
      have z : pcu x 0 = 0 := rfl
      have e : (bits x).length = pcu x 64 := rfl
      simp only [Nat.reduceMul, Nat.reduceAdd] at u0 u1 u2 u3 u4 u5 u6 u7
      omega
    have h1 : tN (q1 x) = vB ([b0, b1, b2, b3, b4, b5, b6, b7].map g1) := by
      have a1 : tN ((zUsh x 1) &&& 6148914691236517205) = vB ([b0, b1, b2, b3, b4, b5, b6, b7].map (fun b => (b / 2) &&& 85)) := by
        rw [tn_and, show tN (zUsh x 1) = tN x / 2 ^ 1 from tn_ush x (j := 1) (by decide), hv]
        exact shand1 _ hb
      have s1 := vB_sub (fun b => (b / 2) &&& 85) _ (fun b q => (g_all b (hb b q)).1)
      unfold q1
      rw [tn_sub (by rw [a1, hv]; exact s1.2), a1, hv]
      exact s1.1
    have hb1 : ∀ b ∈ [b0, b1, b2, b3, b4, b5, b6, b7].map g1, b < 256 := fun b q => by
      obtain ⟨c, c1, rfl⟩ := List.mem_map.mp q
      exact (g_all c (hb c c1)).2.1
    have hb2 : ∀ b ∈ ([b0, b1, b2, b3, b4, b5, b6, b7].map g1).map g2, b ≤ 68 ∧ b % 16 ≤ 4 := fun b q => by
      obtain ⟨c, c1, rfl⟩ := List.mem_map.mp q
      obtain ⟨d, d1, rfl⟩ := List.mem_map.mp c1
      exact ⟨(g_all d (hb d d1)).2.2.1, (g_all d (hb d d1)).2.2.2.1⟩
    have lt8 : ∀ {c0 c1 c2 c3 c4 c5 c6 c7 : Nat}, (∀ b ∈ [c0, c1, c2, c3, c4, c5, c6, c7], b ≤ 68) → vB [c0, c1, c2, c3, c4, c5, c6, c7] < 2 ^ 63 := fun {c0 c1 c2 c3 c4 c5 c6 c7} h => by
      have m := fun b q => Nat.le_trans (h b q) (by decide : 68 ≤ 120)
      have e : vB [c0, c1, c2, c3, c4, c5, c6, c7] = V8 c0 c1 c2 c3 c4 c5 c6 c7 := by simp only [vB]; unfold V8; rw [Nat.mul_zero, Nat.add_zero]
      rw [e]
      exact V8_lt (m c0 (by simp)) (m c1 (by simp)) (m c2 (by simp)) (m c3 (by simp)) (m c4 (by simp)) (m c5 (by simp)) (m c6 (by simp)) (m c7 (by simp))
    have h2 : tN (q2 (q1 x)) = vB (([b0, b1, b2, b3, b4, b5, b6, b7].map g1).map g2) := by
      have a1 : tN (q1 x &&& 3689348814741910323) = vB (([b0, b1, b2, b3, b4, b5, b6, b7].map g1).map (fun b => b &&& 51)) := by
        rw [tn_and, h1]; exact shand0 51 (by decide) _ hb1
      have a2 : tN ((zUsh (q1 x) 2) &&& 3689348814741910323) = vB (([b0, b1, b2, b3, b4, b5, b6, b7].map g1).map (fun b => (b / 4) &&& 51)) := by
        rw [tn_and, show tN (zUsh (q1 x) 2) = tN (q1 x) / 2 ^ 2 from tn_ush _ (j := 2) (by decide), h1]; exact shand2 _ hb1
      have a3 := vB_add (fun b => b &&& 51) (fun b => (b / 4) &&& 51) ([b0, b1, b2, b3, b4, b5, b6, b7].map g1)
      have a4 : vB (([b0, b1, b2, b3, b4, b5, b6, b7].map g1).map g2) < 2 ^ 63 := lt8 (fun b q => (hb2 b q).1)
      unfold q2
      rw [tn_add (by rw [a1, a2, a3]; exact Nat.lt_trans a4 (by decide)), a1, a2]
      exact a3
    have h3 : tN (q3 (q2 (q1 x))) = vB ((([b0, b1, b2, b3, b4, b5, b6, b7].map g1).map g2).map g3) := by
      have a4 : vB (([b0, b1, b2, b3, b4, b5, b6, b7].map g1).map g2) < 2 ^ 63 := lt8 (fun b q => (hb2 b q).1)
      unfold q3
      rw [tn_and, tn_add (by rw [show tN (zUsh (q2 (q1 x)) 4) = tN (q2 (q1 x)) / 2 ^ 4 from tn_ush _ (j := 4) (by decide), h2]; clear hp h1 hb1 hb2 lt8 h2 hk hv hb; omega), show tN (zUsh (q2 (q1 x)) 4) = tN (q2 (q1 x)) / 2 ^ 4 from tn_ush _ (j := 4) (by decide), h2]
      exact shand3 _ hb2
    have g : ∀ b ∈ [b0, b1, b2, b3, b4, b5, b6, b7], g3 (g2 (g1 b)) = pc8 b ∧ pc8 b ≤ 8 := fun b q => ⟨(g_all b (hb b q)).2.2.2.2.1, (g_all b (hb b q)).2.2.2.2.2⟩
    have j0 := g b0 (by simp)
    have j1 := g b1 (by simp)
    have j2 := g b2 (by simp)
    have j3 := g b3 (by simp)
    have j4 := g b4 (by simp)
    have j5 := g b5 (by simp)
    have j6 := g b6 (by simp)
    have j7 := g b7 (by simp)
    simp only [List.map_cons, List.map_nil, vB, j0.1, j1.1, j2.1, j3.1, j4.1, j5.1, j6.1, j7.1] at h3
    rw [hp]
    exact pop_end (h3.trans (by unfold V8; rw [Nat.mul_zero, Nat.add_zero])) j0.2 j1.2 j2.2 j3.2 j4.2 j5.2 j6.2 j7.2
