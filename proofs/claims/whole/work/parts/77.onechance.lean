/-! the two ways of reckoning a chance come to one -/
section KU
/-- the sum of g over the numbers below m -/
def smE (g : Nat → Int64) : Nat → Int64
  | 0 => 0
  | m + 1 => smE g m + g m
theorem smE_2 (g : Nat → Int64) : ∀ m, smE g (2 * m) = smE (fun s => g (2 * s) + g (2 * s + 1)) m
  | 0 => rfl
  | m + 1 => by
    rw [show 2 * (m + 1) = 2 * m + 1 + 1 by omega]
    show smE g (2 * m) + g (2 * m) + g (2 * m + 1) = smE (fun s => g (2 * s) + g (2 * s + 1)) m + (g (2 * m) + g (2 * m + 1))
    rw [smE_2 g m, Int64.add_assoc]
theorem smE_lin (a b : Int64) (g h : Nat → Int64) : ∀ m, smE (fun s => a * g s + b * h s) m = a * smE g m + b * smE h m
  | 0 => by
    show (0 : Int64) = a * 0 + b * 0
    rw [Int64.mul_zero, Int64.mul_zero, Int64.add_zero]
  | m + 1 => by
    show smE (fun s => a * g s + b * h s) m + (a * g m + b * h m) = a * (smE g m + g m) + b * (smE h m + h m)
    rw [smE_lin a b g h m]
    grind
theorem smE_cg {g h : Nat → Int64} : ∀ {m : Nat}, (∀ s, s < m → g s = h s) → smE g m = smE h m
  | 0, _ => rfl
  | m + 1, e => by
    show smE g m + g m = smE h m + h m
    rw [smE_cg (fun s hs => e s (by omega)), e m (by omega)]
/-- d facts from f on, the ways L still without a missing fact; hh k x: the way k holds the fact x -/
def gE (a b : Nat → Int64) (hh : Nat → Nat → Bool) (B : Int64) : Nat → Nat → List Nat → Int64
  | 0, _, L => if L = [] then 0 else B
  | d + 1, f, L => a f * gE a b hh B d (f + 1) L + b f * gE a b hh B d (f + 1) (L.filter (fun k => !hh k f))
def inE (hh : Nat → Nat → Bool) (k : Nat) : Nat → Nat → Nat → Bool
  | 0, _, _ => true
  | d + 1, f, s => (!hh k f || decide (s % 2 = 1)) && inE hh k d (f + 1) (s / 2)
def prE (a b : Nat → Int64) : Nat → Nat → Nat → Int64
  | 0, _, _ => 1
  | d + 1, f, s => (if s % 2 = 1 then a f else b f) * prE a b d (f + 1) (s / 2)
theorem gE_sum (a b : Nat → Int64) (hh : Nat → Nat → Bool) (B : Int64) : ∀ (d f : Nat) (L : List Nat), smE (fun s => if L.any (fun k => inE hh k d f s) = true then B * prE a b d f s else 0) (2 ^ d) = gE a b hh B d f L
  | 0, f, L => by
    show 0 + (if L.any (fun _ => true) = true then B * 1 else 0) = if L = [] then 0 else B
    cases L with
    | nil => simp
    | cons x r => simp
  | d + 1, f, L => by
    rw [Nat.pow_succ, Nat.mul_comm, smE_2]
    show _ = a f * gE a b hh B d (f + 1) L + b f * gE a b hh B d (f + 1) (L.filter (fun k => !hh k f))
    rw [← gE_sum a b hh B d (f + 1) L, ← gE_sum a b hh B d (f + 1) (L.filter (fun k => !hh k f)), ← smE_lin]
    refine smE_cg (fun s _ => ?_)
    have m0 : (2 * s) % 2 = 0 := by omega
    have v0 : (2 * s) / 2 = s := by omega
    have m1 : (2 * s + 1) % 2 = 1 := by omega
    have v1 : (2 * s + 1) / 2 = s := by omega
    have i0 : ∀ k, inE hh k (d + 1) f (2 * s) = (!hh k f && inE hh k d (f + 1) s) := fun k => by
      show ((!hh k f || decide ((2 * s) % 2 = 1)) && inE hh k d (f + 1) ((2 * s) / 2)) = _
      rw [m0, v0]; simp
    have i1 : ∀ k, inE hh k (d + 1) f (2 * s + 1) = inE hh k d (f + 1) s := fun k => by
      show ((!hh k f || decide ((2 * s + 1) % 2 = 1)) && inE hh k d (f + 1) ((2 * s + 1) / 2)) = _
      rw [m1, v1]; simp
    have p0 : prE a b (d + 1) f (2 * s) = b f * prE a b d (f + 1) s := by
      show (if (2 * s) % 2 = 1 then a f else b f) * prE a b d (f + 1) ((2 * s) / 2) = _
      rw [m0, v0]; simp
    have p1 : prE a b (d + 1) f (2 * s + 1) = a f * prE a b d (f + 1) s := by
      show (if (2 * s + 1) % 2 = 1 then a f else b f) * prE a b d (f + 1) ((2 * s + 1) / 2) = _
      rw [m1, v1]; simp
    simp only [i0, i1, p0, p1, List.any_filter]
    generalize prE a b d (f + 1) s = P
    generalize L.any (fun k => !hh k f && inE hh k d (f + 1) s) = X
    generalize L.any (fun k => inE hh k d (f + 1) s) = Y
    cases X <;> cases Y <;> simp <;> grind
theorem gE_nil (a b : Nat → Int64) (hh : Nat → Nat → Bool) (B : Int64) : ∀ (d f : Nat), gE a b hh B d f [] = 0
  | 0, f => rfl
  | d + 1, f => by
    show a f * gE a b hh B d (f + 1) [] + b f * gE a b hh B d (f + 1) [] = 0
    rw [gE_nil a b hh B d (f + 1), Int64.mul_zero, Int64.mul_zero, Int64.add_zero]
theorem bsE_8 : ∀ f, f < 16 → 8 * bsE (f + 1) = bsE f := by decide +kernel
theorem gE_all {a b : Nat → Int64} {hh : Nat → Nat → Bool} {n : Nat} (hn : n ≤ 16) (hab : ∀ x, x < n → a x + b x = 8) {k : Nat} : ∀ (d f : Nat) (L : List Nat), f + d = n → k ∈ L → (∀ x, f ≤ x → x < n → hh k x = false) → gE a b hh (bsE n) d f L = bsE f
  | 0, f, L, hf, hk, _ => by
    have hf : f = n := by omega
    show (if L = [] then 0 else bsE n) = bsE f
    rw [if_neg (fun z => by rw [z] at hk; cases hk), hf]
  | d + 1, f, L, hf, hk, hx => by
    show a f * gE a b hh (bsE n) d (f + 1) L + b f * gE a b hh (bsE n) d (f + 1) (L.filter (fun k => !hh k f)) = bsE f
    have hk2 : k ∈ L.filter (fun k => !hh k f) := by rw [List.mem_filter]; exact ⟨hk, by rw [hx f (Nat.le_refl _) (by omega)]; rfl⟩
    rw [gE_all hn hab d (f + 1) L (by omega) hk (fun x h1 h2 => hx x (by omega) h2), gE_all hn hab d (f + 1) _ (by omega) hk2 (fun x h1 h2 => hx x (by omega) h2), ← Int64.add_mul, hab f (by omega), bsE_8 f (by omega)]
/-- the ways whose bits are set -/
def liv (m : Nat) (al : Int32) : List Nat := (List.range m).filter (fun k => bi al k)
theorem bi_and0 {x y : Int32} : x &&& y = 0 ↔ ∀ k, k < 32 → bi x k = true → bi y k = false := by
  constructor
  · intro e k hk hx
    have t : bi (x &&& y) k = bi 0 k := by rw [e]
    rw [bi_and, bi_0, hx, Bool.true_and] at t
    exact t
  · intro h
    refine bi_ext (fun k hk => ?_)
    rw [bi_and, bi_0]
    cases c : bi x k with
    | false => rfl
    | true => rw [h k hk c]; rfl
theorem bi_big {x : Int32} {i : Nat} (h : 32 ≤ i) : bi x i = false := BitVec.getLsbD_of_ge _ _ h
theorem bi_ne0 {x : Int32} (h : x ≠ 0) : ∃ k, k < 32 ∧ bi x k = true := by
  by_cases c : ∃ k, k < 32 ∧ bi x k = true
  · exact c
  · refine absurd (bi_ext (fun k hk => ?_)) h
    rw [bi_0]
    cases z : bi x k with
    | false => rfl
    | true => exact absurd ⟨k, hk, z⟩ c
theorem ei_0 : ∀ k, k < 9 → nI k ≤ 0 → Int32.toInt64 (nI k) = 0 := by decide +kernel
theorem ei_8 : ∀ k, k < 9 → 8 ≤ nI k → Int32.toInt64 (8 - nI k) = 0 := by decide +kernel
theorem ei_s : ∀ k, k < 9 → Int32.toInt64 (nI k) + Int32.toInt64 (8 - nI k) = 8 := by decide +kernel
theorem pF_s (n : Nat) (E H En : Nat → Int32) (d f : Nat) (al : Int32) : pF n E H En (d + 1) f al = if al = 0 then 0 else if ¬ al &&& En f = 0 ∨ f = n then bsE f
    else if al &&& H f = 0 then 8 * pF n E H En d (f + 1) al
    else (if E f ≤ 0 then 0 else 0 + Int32.toInt64 (E f) * pF n E H En d (f + 1) al) + (if 8 ≤ E f then 0 else Int32.toInt64 (8 - E f) * pF n E H En d (f + 1) (al &&& (H f ^^^ (-1)))) := rfl
theorem pF_gE {n m : Nat} (hn : n ≤ 16) (hm : m ≤ 16) {E H En : Nat → Int32} {hh : Nat → Nat → Bool} (hE : ∀ x, x < n → ∃ k, k < 9 ∧ E x = nI k) (hH : ∀ x, x < n → ∀ k, bi (H x) k = (decide (k < m) && hh k x)) (hD : ∀ x, x ≤ n → ∀ k, k < 32 → bi (En x) k = true → ∀ y, x ≤ y → y < n → bi (H y) k = false) : ∀ (d f dd : Nat) (al : Int32), f + d = n → d < dd → (∀ k, bi al k = true → k < m) → pF n E H En dd f al = gE (fun x => Int32.toInt64 (E x)) (fun x => Int32.toInt64 (8 - E x)) hh (bsE n) d f (liv m al) := by
  have hab : ∀ x, x < n → (fun x => Int32.toInt64 (E x)) x + (fun x => Int32.toInt64 (8 - E x)) x = 8 := fun x hx => by
    obtain ⟨k, hk, e⟩ := hE x hx
    show Int32.toInt64 (E x) + Int32.toInt64 (8 - E x) = 8
    rw [e]; exact ei_s k hk
  have l0 : liv m 0 = [] := by
    unfold liv
    rw [List.filter_eq_nil_iff]
    intro k _
    rw [bi_0]; decide
  have lm : ∀ (al : Int32) (k : Nat), bi al k = true → k < m → k ∈ liv m al := fun al k h1 h2 => by
    unfold liv
    rw [List.mem_filter, List.mem_range]; exact ⟨h2, h1⟩
  intro d
  induction d with
  | zero =>
    intro f dd al hf hdd hal
    obtain ⟨dd, rfl⟩ : ∃ x, dd = x + 1 := ⟨dd - 1, by omega⟩
    have hf : f = n := by omega
    rw [pF_s]
    show _ = if liv m al = [] then 0 else bsE n
    by_cases c : al = 0
    · rw [if_pos c, c, l0, if_pos rfl]
    · obtain ⟨k, hk, z⟩ := bi_ne0 c
      have := lm al k z (hal k z)
      rw [if_neg c, if_pos (Or.inr hf), if_neg (fun y => by rw [y] at this; cases this), hf]
  | succ d ih =>
    intro f dd al hf hdd hal
    obtain ⟨dd, rfl⟩ : ∃ x, dd = x + 1 := ⟨dd - 1, by omega⟩
    rw [pF_s]
    by_cases c : al = 0
    · rw [if_pos c, c, l0, gE_nil]
    · rw [if_neg c]
      by_cases c1 : ¬ al &&& En f = 0 ∨ f = n
      · rw [if_pos c1]
        have c2 : ¬ al &&& En f = 0 := c1.elim id (fun z => absurd z (by omega))
        obtain ⟨k, hk, z⟩ := bi_ne0 c2
        rw [bi_and] at z
        have z1 : bi al k = true := by cases y : bi al k with | true => rfl | false => rw [y] at z; cases z
        have z2 : bi (En f) k = true := by cases y : bi (En f) k with | true => rfl | false => rw [y, Bool.and_false] at z; cases z
        refine (gE_all hn hab (d + 1) f _ hf (lm al k z1 (hal k z1)) (fun x h1 h2 => ?_)).symm
        have := hD f (by omega) k hk z2 x h1 h2
        rw [hH x h2, decide_eq_true (hal k z1), Bool.true_and] at this
        exact this
      · rw [if_neg c1]
        show _ = Int32.toInt64 (E f) * gE _ _ hh (bsE n) d (f + 1) (liv m al) + Int32.toInt64 (8 - E f) * gE _ _ hh (bsE n) d (f + 1) ((liv m al).filter (fun k => !hh k f))
        by_cases c2 : al &&& H f = 0
        · have e1 : (liv m al).filter (fun k => !hh k f) = liv m al := by
            rw [List.filter_eq_self]
            intro k hk
            unfold liv at hk
            rw [List.mem_filter, List.mem_range] at hk
            have := bi_and0.mp c2 k (by omega) hk.2
            rw [hH f (by omega), decide_eq_true hk.1, Bool.true_and] at this
            rw [this]; rfl
          have := hab f (by omega)
          have this : Int32.toInt64 (E f) + Int32.toInt64 (8 - E f) = 8 := this
          rw [if_pos c2, ih (f + 1) dd al (by omega) (by omega) hal, e1, ← Int64.add_mul, this]
        · have e1 : (liv m al).filter (fun k => !hh k f) = liv m (al &&& (H f ^^^ (-1))) := by
            unfold liv
            rw [List.filter_filter]
            refine List.filter_congr (fun k hk => ?_)
            rw [List.mem_range] at hk
            rw [bi_and, bi_not _ (by omega), hH f (by omega), decide_eq_true hk, Bool.true_and, Bool.and_comm]
          obtain ⟨v, hv, ev⟩ := hE f (by omega)
          rw [if_neg c2, e1, ih (f + 1) dd al (by omega) (by omega) hal, ih (f + 1) dd (al &&& (H f ^^^ (-1))) (by omega) (by omega) (fun k hk => hal k (by rw [bi_and] at hk; cases y : bi al k with | true => rfl | false => rw [y] at hk; cases hk))]
          generalize gE (fun x => Int32.toInt64 (E x)) (fun x => Int32.toInt64 (8 - E x)) hh (bsE n) d (f + 1) (liv m al) = P
          generalize gE (fun x => Int32.toInt64 (E x)) (fun x => Int32.toInt64 (8 - E x)) hh (bsE n) d (f + 1) (liv m (al &&& (H f ^^^ (-1)))) = P2
          rw [ev]
          congr 1
          · by_cases z : nI v ≤ 0
            · rw [if_pos z, ei_0 v hv z, Int64.zero_mul]
            · rw [if_neg z, Int64.zero_add]
          · by_cases z : 8 ≤ nI v
            · rw [if_pos z, ei_8 v hv z, Int64.zero_mul]
            · rw [if_neg z]
end KU
