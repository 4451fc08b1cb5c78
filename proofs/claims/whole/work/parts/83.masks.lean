/-! the numbers of sets of few facts, and these sets -/
section LC
def MF : List Nat → Nat → Int64
  | [], _ => 0
  | f :: F, t => MF F (t / 2) ||| (if t % 2 = 1 then bit1 f else 0)
theorem dv1 (t x : Nat) : t / 2 / 2 ^ x = t / 2 ^ (x + 1) := by rw [Nat.div_div_eq_div_mul, Nat.pow_succ, Nat.mul_comm]
theorem MF_bt : ∀ (F : List Nat), (∀ f ∈ F, f < 64) → ∀ (t j : Nat), bt (MF F t) j = true ↔ ∃ x, F[x]? = some j ∧ t / 2 ^ x % 2 = 1
  | [], _, t, j => by
    show bt 0 j = true ↔ _
    rw [bt_0]
    constructor
    · intro h; cases h
    · rintro ⟨x, hx, _⟩; rw [List.getElem?_nil] at hx; cases hx
  | f :: F, hF, t, j => by
    have ih := MF_bt F (fun y hy => hF y (List.mem_cons_of_mem _ hy)) (t / 2) j
    have hf := hF f List.mem_cons_self
    show bt (MF F (t / 2) ||| (if t % 2 = 1 then bit1 f else 0)) j = true ↔ _
    rw [bt_or, Bool.or_eq_true, ih]
    constructor
    · rintro (⟨x, hx, e⟩ | h)
      · exact ⟨x + 1, hx, by rw [← dv1]; exact e⟩
      · by_cases c : t % 2 = 1
        · rw [if_pos c, bt_bit1 hf] at h
          have h := of_decide_eq_true h
          exact ⟨0, by rw [h]; rfl, by rw [Nat.pow_zero, Nat.div_one]; exact c⟩
        · rw [if_neg c, bt_0] at h; cases h
    · rintro ⟨x, hx, e⟩
      cases x with
      | zero =>
        rw [Nat.pow_zero, Nat.div_one] at e
        refine Or.inr ?_
        have hx : some f = some j := hx
        rw [if_pos e, bt_bit1 hf, decide_eq_true (Option.some.inj hx).symm]
      | succ x => exact Or.inl ⟨x, hx, by rw [dv1]; exact e⟩
def pcN : Nat → Nat → Nat
  | 0, _ => 0
  | n + 1, t => t % 2 + pcN n (t / 2)
theorem MF_sz : ∀ (F : List Nat), (∀ f ∈ F, f < 64) → F.Pairwise (fun a b => a < b) → ∀ t, sz (MF F t) = pcN F.length t
  | [], _, _, t => by show sz 0 = 0; decide +kernel
  | f :: F, hF, hp, t => by
    rw [List.pairwise_cons] at hp
    have hF2 : ∀ y ∈ F, y < 64 := fun y hy => hF y (List.mem_cons_of_mem _ hy)
    have ih := MF_sz F hF2 hp.2 (t / 2)
    show sz (MF F (t / 2) ||| (if t % 2 = 1 then bit1 f else 0)) = t % 2 + pcN F.length (t / 2)
    by_cases c : t % 2 = 1
    · rw [if_pos c, sz_add (hF f List.mem_cons_self), ih, c]
      · omega
      · cases z : bt (MF F (t / 2)) f with
        | false => rfl
        | true =>
          obtain ⟨x, hx, _⟩ := (MF_bt F hF2 _ _).mp z
          have := hp.1 f (List.mem_of_getElem? hx)
          omega
    · rw [if_neg c, show MF F (t / 2) ||| 0 = MF F (t / 2) from bt_ext (fun i _ => by rw [bt_or, bt_0, Bool.or_false]), ih]
      omega
theorem MF_ex : ∀ (F : List Nat), (∀ f ∈ F, f < 64) → ∀ Y : Int64, (∀ j, bt Y j = true → j ∈ F) → ∃ t, t < 2 ^ F.length ∧ MF F t = Y
  | [], _, Y, hY => ⟨0, by decide, bt_ext (fun i _ => by
      show bt 0 i = _
      rw [bt_0]
      cases c : bt Y i with
      | false => rfl
      | true => exact absurd (hY i c) List.not_mem_nil)⟩
  | f :: F, hF, Y, hY => by
    have hf := hF f List.mem_cons_self
    obtain ⟨t, ht, e⟩ := MF_ex F (fun y hy => hF y (List.mem_cons_of_mem _ hy)) (Y &&& (bit1 f ^^^ (-1))) (fun j hj => by
      have hj64 := bt_lt hj
      rw [bt_and, bt_not _ hj64, bt_bit1 hf, Bool.and_eq_true] at hj
      rcases List.mem_cons.mp (hY j hj.1) with z | z
      · rw [decide_eq_true z] at hj; cases hj.2
      · exact z)
    rw [List.length_cons, Nat.pow_succ]
    cases c : bt Y f with
    | true =>
      refine ⟨2 * t + 1, by omega, ?_⟩
      show MF F ((2 * t + 1) / 2) ||| (if (2 * t + 1) % 2 = 1 then bit1 f else 0) = Y
      rw [show (2 * t + 1) / 2 = t by omega, if_pos (by omega), e]
      refine bt_ext (fun i hi => ?_)
      rw [bt_or, bt_and, bt_not _ hi, bt_bit1 hf]
      by_cases z : i = f
      · rw [z, c]; simp
      · simp [z]
    | false =>
      refine ⟨2 * t, by omega, ?_⟩
      show MF F ((2 * t) / 2) ||| (if (2 * t) % 2 = 1 then bit1 f else 0) = Y
      rw [show (2 * t) / 2 = t by omega, if_neg (by omega), e]
      refine bt_ext (fun i hi => ?_)
      rw [bt_or, bt_and, bt_not _ hi, bt_bit1 hf, bt_0]
      by_cases z : i = f
      · rw [z, c]; simp
      · simp [z]
theorem nlt_hi : ∀ (u t : Nat), t < u → ∃ i, u / 2 ^ i % 2 = 1 ∧ t / 2 ^ i % 2 = 0 ∧ ∀ j, i < j → t / 2 ^ j % 2 = u / 2 ^ j % 2 := by
  intro u
  induction u using Nat.strongRecOn with
  | _ u ih =>
    intro t h
    by_cases c : t / 2 < u / 2
    · obtain ⟨i, h1, h2, h3⟩ := ih (u / 2) (by omega) (t / 2) c
      refine ⟨i + 1, by rw [← dv1]; exact h1, by rw [← dv1]; exact h2, fun j hj => ?_⟩
      obtain ⟨k, rfl⟩ : ∃ k, j = k + 1 := ⟨j - 1, by omega⟩
      rw [← dv1, ← dv1]
      exact h3 k (by omega)
    · refine ⟨0, by rw [Nat.pow_zero, Nat.div_one]; omega, by rw [Nat.pow_zero, Nat.div_one]; omega, fun j hj => ?_⟩
      obtain ⟨k, rfl⟩ : ∃ k, j = k + 1 := ⟨j - 1, by omega⟩
      rw [← dv1, ← dv1, show t / 2 = u / 2 by omega]
theorem nlt_bit {x y : Nat} (i : Nat) (hx : x.testBit i = false) (hy : y.testBit i = true) (hj : ∀ j, i < j → x.testBit j = y.testBit j) : x < y := by
  have e : x / 2 ^ (i + 1) = y / 2 ^ (i + 1) := by
    apply Nat.eq_of_testBit_eq
    intro k
    rw [Nat.testBit_div_two_pow, Nat.testBit_div_two_pow]
    exact hj _ (by omega)
  rw [← dv2, ← dv2] at e
  rw [Nat.testBit_eq_decide_div_mod_eq] at hx hy
  have hx := of_decide_eq_false hx
  have hy := of_decide_eq_true hy
  have h1 := Nat.div_add_mod x (2 ^ i)
  have h2 := Nat.div_add_mod y (2 ^ i)
  have h3 := Nat.mod_lt x (Nat.two_pow_pos i)
  have h4 : x / 2 ^ i + 1 ≤ y / 2 ^ i := by omega
  have h5 := Nat.mul_le_mul_left (2 ^ i) h4
  rw [Nat.mul_add, Nat.mul_one] at h5
  omega
theorem bt_ltI {x y : Int64} (hx : bt x 63 = false) (hy : bt y 63 = false) (i : Nat) (h1 : bt x i = false) (h2 : bt y i = true) (h3 : ∀ j, i < j → bt x j = bt y j) : x < y := by
  rw [Int64.lt_iff_toInt_lt]
  show x.toBitVec.toInt < y.toBitVec.toInt
  rw [BitVec.toInt_eq_toNat_of_msb (by rw [BitVec.msb_eq_getLsbD_last]; exact hx), BitVec.toInt_eq_toNat_of_msb (by rw [BitVec.msb_eq_getLsbD_last]; exact hy)]
  have := nlt_bit (x := x.toBitVec.toNat) (y := y.toBitVec.toNat) i h1 h2 h3
  omega
theorem MF_63 {F : List Nat} (hF : ∀ f ∈ F, f < 60) (t : Nat) : bt (MF F t) 63 = false := by
  cases c : bt (MF F t) 63 with
  | false => rfl
  | true =>
    obtain ⟨x, hx, _⟩ := (MF_bt F (fun f hf => by have := hF f hf; omega) t 63).mp c
    have := hF _ (List.mem_of_getElem? hx)
    omega
theorem MF_lt {F : List Nat} (hF : ∀ f ∈ F, f < 60) (hp : F.Pairwise (fun a b => a < b)) {t u : Nat} (h : t < u) (hu : u < 2 ^ F.length) : MF F t < MF F u := by
  have hF64 : ∀ f ∈ F, f < 64 := fun f hf => by have := hF f hf; omega
  obtain ⟨i, h1, h2, h3⟩ := nlt_hi u t h
  have hi : i < F.length := by
    by_cases c : i < F.length
    · exact c
    · have : 2 ^ F.length ≤ 2 ^ i := Nat.pow_le_pow_right (by decide) (by omega)
      rw [Nat.div_eq_of_lt (by omega)] at h1
      cases h1
  have pw := List.pairwise_iff_getElem.mp hp
  have inj : ∀ x y, F[x]? = some y → F[i] < y → i < x := fun x y hx hy => by
    obtain ⟨hx1, rfl⟩ := List.getElem?_eq_some_iff.mp hx
    rcases Nat.lt_trichotomy x i with c | c | c
    · have := pw x i hx1 hi c; omega
    · subst c; omega
    · exact c
  refine bt_ltI (MF_63 hF t) (MF_63 hF u) F[i] ?_ ((MF_bt F hF64 u _).mpr ⟨i, List.getElem?_eq_getElem hi, h1⟩) (fun j hj => ?_)
  · cases c : bt (MF F t) F[i] with
    | false => rfl
    | true =>
      obtain ⟨x, hx, e⟩ := (MF_bt F hF64 t _).mp c
      obtain ⟨hx1, hx2⟩ := List.getElem?_eq_some_iff.mp hx
      rcases Nat.lt_trichotomy x i with z | z | z
      · have := pw x i hx1 hi z; omega
      · subst z; omega
      · have := pw i x hi hx1 z; omega
  · rw [Bool.eq_iff_iff, MF_bt F hF64, MF_bt F hF64]
    constructor
    · rintro ⟨x, hx, e⟩
      exact ⟨x, hx, by rw [← h3 x (inj x j hx hj)]; exact e⟩
    · rintro ⟨x, hx, e⟩
      exact ⟨x, hx, by rw [h3 x (inj x j hx hj)]; exact e⟩
theorem MF_le {F : List Nat} (hF : ∀ f ∈ F, f < 60) (hp : F.Pairwise (fun a b => a < b)) {t u : Nat} (h : t ≤ u) (hu : u < 2 ^ F.length) : MF F t ≤ MF F u := by
  by_cases c : t = u
  · rw [c]; exact Int64.le_refl _
  · exact Int64.le_of_lt (MF_lt hF hp (by omega) hu)
theorem and_m2 (a b : Nat) : (a &&& b) % 2 = (a % 2) * (b % 2) := by
  have := Nat.and_mod_two_pow (a := a) (b := b) (n := 1)
  rw [Nat.pow_one] at this
  rw [this]
  have ha : a % 2 = 0 ∨ a % 2 = 1 := by omega
  have hb : b % 2 = 0 ∨ b % 2 = 1 := by omega
  rcases ha with ha | ha <;> rcases hb with hb | hb <;> rw [ha, hb] <;> rfl
theorem pc_and : ∀ (n t : Nat), t < 2 ^ n → t ≠ 0 → pcN n (t &&& (t - 1)) + 1 = pcN n t
  | 0, t, h, h0 => by rw [Nat.pow_zero] at h; omega
  | n + 1, t, h, h0 => by
    rw [Nat.pow_succ] at h
    show (t &&& (t - 1)) % 2 + pcN n ((t &&& (t - 1)) / 2) + 1 = t % 2 + pcN n (t / 2)
    rw [and_m2, Nat.and_div_two]
    by_cases c : t % 2 = 1
    · rw [show (t - 1) % 2 = 0 by omega, show (t - 1) / 2 = t / 2 by omega, Nat.and_self, c]; omega
    · have ih := pc_and n (t / 2) (by omega) (by omega)
      rw [show t % 2 = 0 by omega, show (t - 1) / 2 = t / 2 - 1 by omega]; omega
theorem pc_0 : ∀ (n t : Nat), t < 2 ^ n → pcN n t = 0 → t = 0
  | 0, t, h, _ => by rw [Nat.pow_zero] at h; omega
  | n + 1, t, h, e => by
    rw [Nat.pow_succ] at h
    have e : t % 2 + pcN n (t / 2) = 0 := e
    have := pc_0 n (t / 2) (by omega) (by omega)
    omega
theorem pc_z : ∀ n, pcN n 0 = 0
  | 0 => rfl
  | n + 1 => by show 0 % 2 + pcN n (0 / 2) = 0; rw [show 0 / 2 = 0 from rfl, pc_z n]
theorem pc_le : ∀ n t, pcN n t ≤ n
  | 0, _ => Nat.le_refl _
  | n + 1, t => by
    show t % 2 + pcN n (t / 2) ≤ n + 1
    have := pc_le n (t / 2)
    omega
theorem nI_and (a b : Nat) : nI a &&& nI b = nI (a &&& b) := Int32.toBitVec_inj.mp (by rw [Int32.toBitVec_and]; exact BitVec.ofNat_and.symm)
theorem M_szOf {n : Nat} (hn : n ≤ 16) {t : Nat} (ht : t < 2 ^ n) {σ : St} {Q : Int32 → St → Prop} (hQ : Q (nI (pcN n t)) σ) : wX16_sizeOf (nI t) σ Q := by
  have h2 : 2 ^ n ≤ 2 ^ 16 := Nat.pow_le_pow_right (by decide) hn
  have key : ∀ (p t k : Nat), pcN n t = p → t < 2 ^ n → Q (nI (k + p)) σ → lX16_sizeOf_4 Q (p + 1) (nI k) (nI t) σ := by
    intro p
    induction p with
    | zero =>
      intro t k e ht hq
      have := pc_0 n t ht e
      subst this
      exact ⟨fun _ => hq, fun z => absurd rfl z⟩
    | succ p ih =>
      intro t k e ht hq
      have t0 : t ≠ 0 := fun z => by rw [z, pc_z] at e; cases e
      obtain ⟨s, rfl⟩ : ∃ s, t = s + 1 := ⟨t - 1, by omega⟩
      refine ⟨fun z => ?_, fun _ => ?_⟩
      · have z := congrArg Int32.toInt z
        rw [nI_toInt (by omega)] at z
        have : ((s + 1 : Nat) : Int) = 0 := z
        omega
      · rw [nI_1, nI_pred, nI_and]
        have e2 := pc_and n (s + 1) ht t0
        have l : (s + 1) &&& s ≤ s + 1 := Nat.and_le_left
        rw [Nat.add_sub_cancel] at e2
        exact ih _ (k + 1) (by omega) (by omega) (by rw [show k + 1 + p = k + (p + 1) by omega]; exact hq)
  exact ⟨_, key (pcN n t) t 0 rfl ht (by rw [Nat.zero_add]; exact hQ)⟩
/-- a mask meets a set's number -/
theorem mk_hit (F : List Nat) (hF : ∀ f ∈ F, f < 60) (hl : F.length ≤ 16) (w : Int64) (t : Nat) : mkN F w F.length &&& nI t = 0 ↔ w &&& MF F t = 0 := by
  have hF64 : ∀ f ∈ F, f < 64 := fun f hf => by have := hF f hf; omega
  have gd : ∀ x, x < F.length → F[x]? = some (F.getD x 0) := fun x hx => by rw [List.getD_eq_getElem?_getD, List.getElem?_eq_getElem hx]; rfl
  rw [bi_and0, bt_and0]
  constructor
  · intro h j hj
    cases c : bt (MF F t) j with
    | false => rfl
    | true =>
      obtain ⟨x, hx, e⟩ := (MF_bt F hF64 t j).mp c
      have hxl := (List.getElem?_eq_some_iff.mp hx).1
      have ej : F.getD x 0 = j := Option.some.inj ((gd x hxl).symm.trans hx)
      have := h x (by omega) (by rw [bi_mkN F w _ (by omega), decide_eq_true hxl, ej, hj]; rfl)
      rw [bi_nI t (by omega), decide_eq_true e] at this
      cases this
  · intro h x hx hb
    rw [bi_mkN F w _ (by omega), Bool.and_eq_true] at hb
    have hxl := of_decide_eq_true hb.1
    rw [bi_nI t hx]
    by_cases c : t / 2 ^ x % 2 = 1
    · have := h (F.getD x 0) hb.2
      rw [(MF_bt F hF64 t _).mpr ⟨x, gd x hxl, c⟩] at this
      cases this
    · exact decide_eq_false c
theorem MF_full {F : List Nat} (hF : ∀ f ∈ F, f < 60) {j : Nat} (hj : j ∈ F) : bt (MF F (2 ^ F.length - 1)) j = true := by
  obtain ⟨x, hx, e⟩ := List.mem_iff_getElem.mp hj
  refine (MF_bt F (fun f hf => by have := hF f hf; omega) _ j).mpr ⟨x, by rw [List.getElem?_eq_getElem hx, e], ?_⟩
  have := Nat.testBit_two_pow_sub_one F.length x
  rw [Nat.testBit_eq_decide_div_mod_eq, decide_eq_true hx] at this
  exact of_decide_eq_true this
end LC
