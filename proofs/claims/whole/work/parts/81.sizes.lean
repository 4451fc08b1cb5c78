/-! sets of facts: sizes, the lowest fact, what meets what -/
section LA
def sz (x : Int64) : Nat := (bits x).length
def bit1 (i : Nat) : Int64 := (1 : Int64) <<< ((nI i).toInt64 &&& 63)
theorem cnt_one {p q : Nat → Bool} {i : Nat} (hp : p i = false) (hq : q i = true) (h : ∀ j, j ≠ i → q j = p j) : ∀ n, i < n → (List.range n).countP q = (List.range n).countP p + 1
  | 0, h0 => absurd h0 (Nat.not_lt_zero _)
  | n + 1, hn => by
    rw [List.range_succ, List.countP_append, List.countP_append, List.countP_singleton, List.countP_singleton]
    by_cases c : n = i
    · subst c
      have e : (List.range n).countP q = (List.range n).countP p := List.countP_congr (fun j hj => by rw [h j (by have := List.mem_range.mp hj; omega)])
      rw [hp, hq, e]
      simp
    · rw [cnt_one hp hq h n (by omega), h n c]; omega
theorem sz_cnt (x : Int64) : sz x = (List.range 64).countP (fun i => bt x i) := by
  unfold sz bits
  rw [List.countP_eq_length_filter]
theorem sz_mono {x y : Int64} (h : sb x y) : sz x ≤ sz y := by
  rw [sz_cnt, sz_cnt]
  exact List.countP_mono_left (fun i hi hx => sb_bt.mp h i (List.mem_range.mp hi) hx)
theorem bt_bit1 {i : Nat} (hi : i < 64) (j : Nat) : bt (bit1 i) j = decide (j = i) := bt_sh1 hi j
theorem sz_add {x : Int64} {i : Nat} (hi : i < 64) (hx : bt x i = false) : sz (x ||| bit1 i) = sz x + 1 := by
  rw [sz_cnt, sz_cnt]
  refine cnt_one hx ?_ (fun j hj => ?_) 64 hi
  · rw [bt_or, bt_bit1 hi, decide_eq_true rfl, Bool.or_true]
  · rw [bt_or, bt_bit1 hi, decide_eq_false hj, Bool.or_false]
theorem sb_bit1 {y : Int64} {i : Nat} (hi : i < 64) (hy : bt y i = true) : sb (bit1 i) y := sb_bt.mpr (fun j hj hb => by
  rw [bt_bit1 hi] at hb
  rw [of_decide_eq_true hb]; exact hy)
theorem sz_or_le {x : Int64} {i : Nat} (hi : i < 64) : sz (x ||| bit1 i) ≤ sz x + 1 := by
  cases c : bt x i with
  | false => rw [sz_add hi c]; exact Nat.le_refl _
  | true => exact Nat.le_succ_of_le (sz_mono (sb_or.mpr ⟨sb_rf x, sb_bit1 hi c⟩))
theorem sb_eq {x y : Int64} (h : sb x y) (k : sz y ≤ sz x) : x = y := by
  refine sb_as h (sb_bt.mpr (fun i hi hy => ?_))
  cases c : bt x i with
  | true => rfl
  | false =>
    have t := sz_mono (sb_or.mpr ⟨h, sb_bit1 hi hy⟩)
    rw [sz_add hi c] at t
    omega
theorem bt_ne0 {x : Int64} (h : x ≠ 0) : ∃ k, k < 64 ∧ bt x k = true := by
  by_cases c : ∃ k, k < 64 ∧ bt x k = true
  · exact c
  · refine absurd (bt_ext (fun k hk => ?_)) h
    rw [bt_0]
    cases z : bt x k with
    | false => rfl
    | true => exact absurd ⟨k, hk, z⟩ c
theorem bt_and0 {x y : Int64} : x &&& y = 0 ↔ ∀ k, bt x k = true → bt y k = false := by
  constructor
  · intro e k hx
    have t : bt (x &&& y) k = bt 0 k := by rw [e]
    rw [bt_and, bt_0, hx, Bool.true_and] at t
    exact t
  · intro h
    refine bt_ext (fun k hk => ?_)
    rw [bt_and, bt_0]
    cases c : bt x k with
    | false => rfl
    | true => rw [h k c]; rfl
theorem bt_lt {x : Int64} {i : Nat} (h : bt x i = true) : i < 64 := by
  by_cases c : i < 64
  · exact c
  · rw [bt_big (by omega)] at h; cases h
theorem and_n0 {x y : Int64} (h : ¬ x &&& y = 0) : ∃ k, k < 64 ∧ bt x k = true ∧ bt y k = true := by
  obtain ⟨k, hk, e⟩ := bt_ne0 h
  rw [bt_and, Bool.and_eq_true] at e
  exact ⟨k, hk, e.1, e.2⟩
theorem bt_low (m : Int64) (i : Nat) : bt (m &&& -m) i = true ↔ bt m i = true ∧ ∀ j, j < i → bt m j = false := by
  rw [bt_and, Bool.and_eq_true]
  constructor
  · intro h
    refine ⟨h.1, fun j hj => ?_⟩
    have hi := bt_lt h.1
    have h2 := h.2
    have h1 := h.1
    unfold bt at h1 h2 ⊢
    rw [Int64.toBitVec_neg, BitVec.getLsbD_neg, h1, decide_eq_true hi, Bool.true_and, Bool.true_xor, Bool.not_eq_true', decide_eq_false_iff_not] at h2
    cases c : m.toBitVec.getLsbD j with
    | false => rfl
    | true => exact absurd ⟨j, hj, c⟩ h2
  · intro h
    refine ⟨h.1, ?_⟩
    have hi := bt_lt h.1
    have h1 := h.1
    have h2 := h.2
    unfold bt at h1 h2 ⊢
    rw [Int64.toBitVec_neg, BitVec.getLsbD_neg, h1, decide_eq_true hi, Bool.true_and, Bool.true_xor, Bool.not_eq_true', decide_eq_false_iff_not]
    rintro ⟨j, hj, c⟩
    rw [h2 j hj] at c
    cases c
theorem bits_lt (x : Int64) : (bits x).Pairwise (fun a b => a < b) := List.Pairwise.filter _ List.pairwise_lt_range
theorem bits_low {m : Int64} {i : Nat} {r : List Nat} (h : bits m = i :: r) : i < 64 ∧ bt m i = true ∧ m &&& -m = bit1 i ∧ bits (m &&& ((m &&& -m) ^^^ (-1))) = r := by
  have hi : bt m i = true := bits_mem.mp (by rw [h]; exact List.mem_cons_self)
  have hi64 := bt_lt hi
  have pw := bits_lt m
  rw [h, List.pairwise_cons] at pw
  have lo : ∀ j, j < i → bt m j = false := fun j hj => by
    cases c : bt m j with
    | false => rfl
    | true =>
      have := bits_mem.mpr c
      rw [h] at this
      rcases List.mem_cons.mp this with z | z
      · omega
      · have := pw.1 j z; omega
  have e1 : m &&& -m = bit1 i := bt_ext (fun j hj => by
    rw [bt_bit1 hi64]
    by_cases c : j = i
    · rw [decide_eq_true c, c]; exact (bt_low m i).mpr ⟨hi, lo⟩
    · rw [decide_eq_false c]
      cases z : bt (m &&& -m) j with
      | false => rfl
      | true =>
        have := (bt_low m j).mp z
        rcases Nat.lt_trichotomy j i with y | y | y
        · rw [lo j y] at this; cases this.1
        · exact absurd y c
        · rw [this.2 i y] at hi; cases hi)
  refine ⟨hi64, hi, e1, ?_⟩
  have e2 : bits (m &&& ((m &&& -m) ^^^ (-1))) = (bits m).filter (fun j => !decide (j = i)) := by
    unfold bits
    rw [List.filter_filter]
    refine List.filter_congr (fun j hj => ?_)
    rw [List.mem_range] at hj
    rw [bt_and, bt_not _ hj, e1, bt_bit1 hi64, Bool.and_comm]
  rw [e2, h, List.filter_cons_of_neg (by simp), List.filter_eq_self]
  intro j hj
  have := pw.1 j hj
  rw [decide_eq_false (by omega)]; rfl
/-- what meets every one of S -/
def hit (S : List Int64) (X : Int64) : Prop := ∀ s ∈ S, ¬ s &&& X = 0
def fmis (S : List Int64) (c : Int64) : Int64 := match S.find? (fun s => decide (s &&& c = 0)) with
  | none => 0
  | some s => s
theorem fmis_0 {S : List Int64} (h0 : ∀ s ∈ S, s ≠ 0) {c : Int64} : fmis S c = 0 ↔ hit S c := by
  unfold fmis hit
  cases e : S.find? (fun s => decide (s &&& c = 0)) with
  | none =>
    rw [List.find?_eq_none] at e
    exact ⟨fun _ s hs z => e s hs (decide_eq_true z), fun _ => rfl⟩
  | some s =>
    have hm := List.mem_of_find?_eq_some e
    have hp := List.find?_some e
    exact ⟨fun z => absurd z (h0 s hm), fun z => absurd (of_decide_eq_true hp) (z s hm)⟩
theorem fmis_n {S : List Int64} {c : Int64} (h : ¬ fmis S c = 0) : fmis S c ∈ S ∧ fmis S c &&& c = 0 := by
  unfold fmis at h ⊢
  cases e : S.find? (fun s => decide (s &&& c = 0)) with
  | none => rw [e] at h; exact absurd rfl h
  | some s =>
    have hp := List.find?_some e
    exact ⟨List.mem_of_find?_eq_some e, of_decide_eq_true hp⟩
/-- the sets that the search comes to, from the chosen c, with l more -/
def cand (S : List Int64) : Nat → Int64 → Nat → List Int64
  | 0, _, _ => []
  | d + 1, c, l => if fmis S c = 0 then [c] else if l = 0 then [] else (bits (fmis S c)).flatMap (fun i => cand S d (c ||| bit1 i) (l - 1))
theorem cand_s (S : List Int64) (d : Nat) (c : Int64) (l : Nat) : cand S (d + 1) c l = if fmis S c = 0 then [c] else if l = 0 then [] else (bits (fmis S c)).flatMap (fun i => cand S d (c ||| bit1 i) (l - 1)) := rfl
theorem cand_1 {S : List Int64} (h0 : ∀ s ∈ S, s ≠ 0) : ∀ (d : Nat) (c : Int64) (l : Nat) (x : Int64), x ∈ cand S d c l → hit S x ∧ sb c x ∧ sz x ≤ sz c + l ∧ ∀ U, sb c U → (∀ s ∈ S, sb s U) → sb x U
  | 0, _, _, _, h => absurd h List.not_mem_nil
  | d + 1, c, l, x, h => by
    rw [cand_s] at h
    by_cases c1 : fmis S c = 0
    · rw [if_pos c1, List.mem_singleton] at h
      subst h
      exact ⟨(fmis_0 h0).mp c1, sb_rf _, Nat.le_add_right _ _, fun U hU _ => hU⟩
    · rw [if_neg c1] at h
      by_cases c2 : l = 0
      · rw [if_pos c2] at h; exact absurd h List.not_mem_nil
      · rw [if_neg c2, List.mem_flatMap] at h
        obtain ⟨i, hi, hx⟩ := h
        have hb := bits_mem.mp hi
        have hm := fmis_n c1
        have hc : bt c i = false := bt_and0.mp hm.2 i hb
        obtain ⟨g1, g2, g3, g4⟩ := cand_1 h0 d _ _ x hx
        rw [sz_add (bt_lt hb) hc] at g3
        exact ⟨g1, (sb_or.mp g2).1, by omega, fun U hU hS => g4 U (sb_or.mpr ⟨hU, sb_bit1 (bt_lt hb) (sb_bt.mp (hS _ hm.1) i (bt_lt hb) hb)⟩) hS⟩
theorem cand_2 {S : List Int64} (h0 : ∀ s ∈ S, s ≠ 0) : ∀ (d : Nat) (c : Int64) (l : Nat) (Y : Int64), l < d → hit S Y → sb c Y → sz Y ≤ sz c + l → ∃ x ∈ cand S d c l, sb x Y
  | 0, _, _, _, h, _, _, _ => absurd h (Nat.not_lt_zero _)
  | d + 1, c, l, Y, hl, hY, hc, hs => by
    rw [cand_s]
    by_cases c1 : fmis S c = 0
    · rw [if_pos c1]
      exact ⟨c, List.mem_singleton_self _, hc⟩
    · rw [if_neg c1]
      have hm := fmis_n c1
      by_cases c2 : l = 0
      · have : c = Y := sb_eq hc (by omega)
        rw [← this] at hY
        exact absurd hm.2 (hY _ hm.1)
      · rw [if_neg c2]
        obtain ⟨i, hi, b1, b2⟩ := and_n0 (hY _ hm.1)
        have hci : bt c i = false := bt_and0.mp hm.2 i b1
        obtain ⟨x, hx, hxy⟩ := cand_2 h0 d (c ||| bit1 i) (l - 1) Y (by omega) hY (sb_or.mpr ⟨hc, sb_bit1 hi b2⟩) (by rw [sz_add hi hci]; omega)
        exact ⟨x, List.mem_flatMap.mpr ⟨i, bits_mem.mpr b1, hx⟩, hxy⟩
def updB (b x : Int64) : Int64 := if b = -1 then x else if x < b then x else b
theorem updB_fold : ∀ (L : List Int64) (b : Int64), (∀ x ∈ L, x ≠ -1) → b ≠ -1 → (L.foldl updB b = b ∨ L.foldl updB b ∈ L) ∧ L.foldl updB b ≤ b ∧ ∀ x ∈ L, L.foldl updB b ≤ x
  | [], b, _, _ => ⟨Or.inl rfl, Int64.le_refl _, fun x hx => absurd hx List.not_mem_nil⟩
  | a :: L, b, hL, hb => by
    have ha := hL a List.mem_cons_self
    have e : updB b a = if a < b then a else b := if_neg hb
    have hn : updB b a ≠ -1 := by rw [e]; split <;> assumption
    obtain ⟨g1, g2, g3⟩ := updB_fold L (updB b a) (fun x hx => hL x (List.mem_cons_of_mem _ hx)) hn
    rw [List.foldl_cons]
    have l1 : updB b a ≤ b := by
      rw [e]; split
      · exact Int64.le_of_lt (by assumption)
      · exact Int64.le_refl _
    have l2 : updB b a ≤ a := by
      rw [e]; split
      · exact Int64.le_refl _
      · exact Int64.not_lt.mp (by assumption)
    refine ⟨?_, Int64.le_trans g2 l1, fun x hx => ?_⟩
    · rcases g1 with g1 | g1
      · rw [g1, e]
        split
        · exact Or.inr List.mem_cons_self
        · exact Or.inl rfl
      · exact Or.inr (List.mem_cons_of_mem _ g1)
    · rcases List.mem_cons.mp hx with z | z
      · rw [z]; exact Int64.le_trans g2 l2
      · exact g3 x z
theorem updB_0 (L : List Int64) (hL : ∀ x ∈ L, x ≠ -1) : (L = [] ∧ L.foldl updB (-1) = -1) ∨ (L.foldl updB (-1) ∈ L ∧ ∀ x ∈ L, L.foldl updB (-1) ≤ x) := by
  cases L with
  | nil => exact Or.inl ⟨rfl, rfl⟩
  | cons a L =>
    refine Or.inr ?_
    rw [List.foldl_cons, show updB (-1) a = a from if_pos rfl]
    obtain ⟨g1, g2, g3⟩ := updB_fold L a (fun x hx => hL x (List.mem_cons_of_mem _ hx)) (hL a List.mem_cons_self)
    refine ⟨?_, fun x hx => ?_⟩
    · rcases g1 with g1 | g1
      · rw [g1]; exact List.mem_cons_self
      · exact List.mem_cons_of_mem _ g1
    · rcases List.mem_cons.mp hx with z | z
      · rw [z]; exact g2
      · exact g3 x z
/-- B is the smallest that meets all of S, and the least number of these -/
def Lst (S : List Int64) (B : Int64) : Prop := hit S B ∧ (∀ U, (∀ s ∈ S, sb s U) → sb B U) ∧ ∀ Y, hit S Y → sz B < sz Y ∨ (sz B = sz Y ∧ B ≤ Y)
theorem Lst.one {S : List Int64} {B C : Int64} (h : Lst S B) (k : Lst S C) : B = C := by
  have a := h.2.2 C k.1
  have b := k.2.2 B h.1
  rcases a with a | ⟨_, a⟩
  · rcases b with b | ⟨b, _⟩ <;> omega
  · rcases b with b | ⟨_, b⟩
    · omega
    · exact Int64.le_antisymm a b
theorem hit_few : ∀ (S : List Int64), (∀ s ∈ S, s ≠ 0) → ∃ Y, hit S Y ∧ sz Y ≤ S.length
  | [], _ => ⟨0, fun s hs => absurd hs List.not_mem_nil, by decide +kernel⟩
  | s :: S, h => by
    obtain ⟨Y, h1, h2⟩ := hit_few S (fun x hx => h x (List.mem_cons_of_mem _ hx))
    obtain ⟨i, hi, hb⟩ := bt_ne0 (h s List.mem_cons_self)
    refine ⟨Y ||| bit1 i, fun x hx => ?_, by have := sz_or_le (x := Y) hi; rw [List.length_cons]; omega⟩
    intro z
    have z := bt_and0.mp z
    rcases List.mem_cons.mp hx with q | q
    · rw [q] at z
      have := z i hb
      rw [bt_or, bt_bit1 hi, decide_eq_true rfl, Bool.or_true] at this
      cases this
    · obtain ⟨k, hk, b1, b2⟩ := and_n0 (h1 x q)
      have := z k b1
      rw [bt_or, b2] at this
      cases this
/-- one more size tried -/
theorem cand_Lst {S : List Int64} (h0 : ∀ s ∈ S, s ≠ 0) {s : Nat} (hs : s < 18) (hmin : ∀ Y, hit S Y → s ≤ sz Y) {B : Int64} (hB : B ∈ cand S 18 0 s) (hle : ∀ x ∈ cand S 18 0 s, B ≤ x) : Lst S B := by
  have z0 : sz 0 = 0 := by decide +kernel
  have s0 : ∀ Y : Int64, sb 0 Y := fun Y => sb_bt.mpr (fun i _ h => by rw [bt_0] at h; cases h)
  obtain ⟨g1, g2, g3, g4⟩ := cand_1 h0 18 0 s B hB
  have e := hmin B g1
  refine ⟨g1, fun U hU => g4 U (s0 U) hU, fun Y hY => ?_⟩
  have hm := hmin Y hY
  by_cases c : sz B < sz Y
  · exact Or.inl c
  · refine Or.inr ⟨by omega, ?_⟩
    obtain ⟨x, hx, hxy⟩ := cand_2 h0 18 0 s Y hs hY (s0 Y) (by omega)
    have := hmin x (cand_1 h0 18 0 s x hx).1
    rw [← sb_eq hxy (by omega)]
    exact hle x hx
theorem cand_no {S : List Int64} (h0 : ∀ s ∈ S, s ≠ 0) {s : Nat} (hs : s < 18) (hmin : ∀ Y, hit S Y → s ≤ sz Y) (he : cand S 18 0 s = []) : ∀ Y, hit S Y → s + 1 ≤ sz Y := by
  have z0 : sz 0 = 0 := by decide +kernel
  intro Y hY
  have hm := hmin Y hY
  by_cases c : s + 1 ≤ sz Y
  · exact c
  · obtain ⟨x, hx, _⟩ := cand_2 h0 18 0 s Y hs hY (sb_bt.mpr (fun i _ h => by rw [bt_0] at h; cases h)) (by omega)
    rw [he] at hx
    exact absurd hx List.not_mem_nil
end LA
