/-! blame: what both sides come to -/
section LG
/-- without X the answer stands, and each way left hangs on the fact g -/
def valS (ws : List Int64) (g : Nat) (X : Int64) : Prop := bt X g = false ∧ (∃ w ∈ ws, w &&& X = 0) ∧ ∀ w ∈ ws, w &&& X = 0 → bt w g = true
def Blm (ws : List Int64) (g b : Nat) : Prop := (∃ X, valS ws g X ∧ sz X = b) ∧ ∀ X, valS ws g X → b ≤ sz X
theorem Blm.one {ws : List Int64} {g b c : Nat} (h : Blm ws g b) (k : Blm ws g c) : b = c := by
  obtain ⟨⟨X, x1, x2⟩, h2⟩ := h
  obtain ⟨⟨Y, y1, y2⟩, k2⟩ := k
  have := h2 Y y1
  have := k2 X x1
  omega
theorem oth_mem {ws : List Int64} {g : Nat} {w s : Int64} : s ∈ oth ws g w ↔ ∃ x ∈ ws, bt x g = false ∧ s = x &&& (w ^^^ (-1)) := by
  unfold oth
  rw [List.mem_map]
  constructor
  · rintro ⟨x, hx, rfl⟩
    rw [List.mem_filter] at hx
    exact ⟨x, hx.1, by simpa using hx.2, rfl⟩
  · rintro ⟨x, hx, hg, rfl⟩
    exact ⟨x, List.mem_filter.mpr ⟨hx, by rw [hg]; rfl⟩, rfl⟩
theorem val_A {ws : List Int64} {g : Nat} {w B : Int64} (hw : w ∈ ws) (hg : bt w g = true) (L : Lst (oth ws g w) B) : valS ws g B := by
  have hB : ∀ k, bt B k = true → bt w k = false := fun k hk => by
    have t := sb_bt.mp (L.2.1 (w ^^^ (-1)) (fun s hs => by
      obtain ⟨x, _, _, rfl⟩ := oth_mem.mp hs
      exact sb_bt.mpr (fun i _ hb => by rw [bt_and, Bool.and_eq_true] at hb; exact hb.2))) k (bt_lt hk) hk
    rw [bt_not _ (bt_lt hk)] at t
    simpa using t
  refine ⟨?_, ⟨w, hw, bt_and0.mpr (fun k hk => ?_)⟩, fun x hx hxB => ?_⟩
  · cases c : bt B g with
    | false => rfl
    | true => rw [hB g c] at hg; cases hg
  · cases c : bt B k with
    | false => rfl
    | true => rw [hB k c] at hk; cases hk
  · cases c : bt x g with
    | true => rfl
    | false =>
      obtain ⟨k, hk, b1, b2⟩ := and_n0 (L.1 (x &&& (w ^^^ (-1))) (oth_mem.mpr ⟨x, hx, c, rfl⟩))
      rw [bt_and, Bool.and_eq_true] at b1
      rw [bt_and0.mp hxB k b1.1] at b2
      cases b2
theorem val_B {ws : List Int64} {g : Nat} {X : Int64} (h : valS ws g X) : ∃ w ∈ ws, bt w g = true ∧ hit (oth ws g w) X := by
  obtain ⟨h1, ⟨w, hw, hwX⟩, h3⟩ := h
  refine ⟨w, hw, h3 w hw hwX, fun s hs z => ?_⟩
  obtain ⟨x, hx, hxg, rfl⟩ := oth_mem.mp hs
  have n0 : ¬ x &&& X = 0 := fun y => by rw [h3 x hx y] at hxg; cases hxg
  obtain ⟨k, hk, b1, b2⟩ := and_n0 n0
  have wk : bt w k = false := by
    cases c : bt w k with
    | false => rfl
    | true => rw [bt_and0.mp hwX k c] at b2; cases b2
  have := bt_and0.mp z k (by rw [bt_and, b1, bt_not _ hk, wk]; rfl)
  rw [b2] at this
  cases this
theorem anti {ws : List Int64} (hp : ws.Pairwise (fun a b => ¬ sb a b ∧ ¬ sb b a)) {x w : Int64} (hx : x ∈ ws) (hw : w ∈ ws) (h : sb x w) : x = w := by
  obtain ⟨i, hi, rfl⟩ := List.mem_iff_getElem.mp hx
  obtain ⟨j, hj, rfl⟩ := List.mem_iff_getElem.mp hw
  have pw := List.pairwise_iff_getElem.mp hp
  rcases Nat.lt_trichotomy i j with c | c | c
  · exact absurd h (pw i j hi hj c).1
  · subst c; rfl
  · exact absurd h (pw j i hj hi c).2
theorem oth_n0 {ws : List Int64} (hp : ws.Pairwise (fun a b => ¬ sb a b ∧ ¬ sb b a)) {g : Nat} {w : Int64} (hw : w ∈ ws) (hg : bt w g = true) : ∀ s ∈ oth ws g w, s ≠ 0 := fun s hs z => by
  obtain ⟨x, hx, hxg, rfl⟩ := oth_mem.mp hs
  have := anti hp hx hw z
  rw [this, hg] at hxg
  cases hxg
theorem oth_60 {ws : List Int64} (h60 : ∀ s ∈ ws, ∀ i, 60 ≤ i → bt s i = false) {g : Nat} (w : Int64) : ∀ s ∈ oth ws g w, ∀ i, 60 ≤ i → bt s i = false := fun s hs i hi => by
  obtain ⟨x, hx, _, rfl⟩ := oth_mem.mp hs
  rw [bt_and, h60 x hx i hi]; rfl
theorem oth_16 {ws : List Int64} (h16 : ws.length ≤ 16) (g : Nat) (w : Int64) : (oth ws g w).length ≤ 16 := by
  have := oth_len ws g w ws.length
  rw [List.take_length] at this
  omega
theorem B_60 {ws : List Int64} (h60 : ∀ s ∈ ws, ∀ i, 60 ≤ i → bt s i = false) {g : Nat} {w B : Int64} (L : Lst (oth ws g w) B) : sb B (bit1 60 - 1) := L.2.1 _ (fun s hs => sb_bt.mpr (fun i hi hb => by
  by_cases c : i < 60
  · exact (by decide +kernel : ∀ i, i < 60 → bt (bit1 60 - 1) i = true) i c
  · rw [oth_60 h60 w s hs i (by omega)] at hb; cases hb))
/-- what the class comes to -/
theorem Bla_end {ws : List Int64} (h16 : ws.length ≤ 16) (h60 : ∀ s ∈ ws, ∀ i, 60 ≤ i → bt s i = false) (hp : ws.Pairwise (fun a b => ¬ sb a b ∧ ¬ sb b a)) {g : Nat} (hg : g < 60) {w0 : Int64} (hw0 : w0 ∈ ws) (hg0 : bt w0 g = true) {f : Nat} (I : BlaI ws ws g f) : Blm ws g f := by
  obtain ⟨i1, i2, i3⟩ := I
  obtain ⟨B0, L0⟩ := Lst_ex (oth_n0 hp hw0 hg0) (oth_60 h60 w0) (oth_16 h16 g w0)
  have l0 := i3 w0 hw0 hg0 B0 L0
  have v0 := val_A hw0 hg0 L0
  have s0 : sz B0 < 60 := by
    have a := sz_mono (sb_or.mpr ⟨B_60 h60 L0, sb_bit1 (y := bit1 60 - 1) (i := g) (by omega) ((by decide +kernel : ∀ i, i < 60 → bt (bit1 60 - 1) i = true) g hg)⟩)
    rw [sz_add (by omega) v0.1, show sz (bit1 60 - 1) = 60 by decide +kernel] at a
    omega
  refine ⟨?_, fun X hX => ?_⟩
  · rcases i2 with i2 | ⟨w, hw, hwg, B, L, e⟩
    · omega
    · exact ⟨B, val_A hw hwg L, e.symm⟩
  · obtain ⟨w, hw, hwg, hh⟩ := val_B hX
    obtain ⟨B, L⟩ := Lst_ex (oth_n0 hp hw hwg) (oth_60 h60 w) (oth_16 h16 g w)
    have a := i3 w hw hwg B L
    have b := L.2.2 X hh
    omega
/-- what the reference comes to -/
def BrI (F : List Nat) (ws : List Int64) (g t b : Nat) : Prop := b ≤ F.length ∧ (b = F.length ∨ ∃ u, u < 2 ^ F.length ∧ valS ws g (MF F u) ∧ pcN F.length u = b) ∧ ∀ u, u < t → valS ws g (MF F u) → b ≤ pcN F.length u
theorem Br_end {F : List Nat} (hF : ∀ f ∈ F, f < 60) (hpF : F.Pairwise (fun a b => a < b)) {ws : List Int64} (hall : ∀ j, j ∈ F ↔ ∃ w ∈ ws, bt w j = true) (h16 : ws.length ≤ 16) (h60 : ∀ s ∈ ws, ∀ i, 60 ≤ i → bt s i = false) (hp : ws.Pairwise (fun a b => ¬ sb a b ∧ ¬ sb b a)) {g : Nat} (hgF : g ∈ F) {b : Nat} (I : BrI F ws g (2 ^ F.length) b) : Blm ws g b := by
  obtain ⟨i1, i2, i3⟩ := I
  have hF64 : ∀ f ∈ F, f < 64 := fun f hf => by have := hF f hf; omega
  have key : ∀ X, valS ws g X → ∃ u, u < 2 ^ F.length ∧ valS ws g (MF F u) ∧ pcN F.length u ≤ sz X := fun X hX => by
    have sbX : sb (X &&& MF F (2 ^ F.length - 1)) X := sb_bt.mpr (fun j _ hb => by rw [bt_and, Bool.and_eq_true] at hb; exact hb.1)
    obtain ⟨u, hu, e⟩ := MF_ex F hF64 (X &&& MF F (2 ^ F.length - 1)) (fun j hj => by
      rw [bt_and, Bool.and_eq_true] at hj
      obtain ⟨x, hx, _⟩ := (MF_bt F hF64 _ j).mp hj.2
      exact List.mem_of_getElem? hx)
    have iff : ∀ w ∈ ws, (w &&& MF F u = 0 ↔ w &&& X = 0) := fun w hw => by
      rw [e, bt_and0, bt_and0]
      constructor
      · intro h k hk
        have := h k hk
        rw [bt_and, MF_full hF ((hall k).mpr ⟨w, hw, hk⟩), Bool.and_true] at this
        exact this
      · intro h k hk
        rw [bt_and, h k hk]; rfl
    obtain ⟨x1, ⟨w, hw, hwX⟩, x3⟩ := hX
    refine ⟨u, hu, ⟨by rw [e, bt_and, x1]; rfl, ⟨w, hw, (iff w hw).mpr hwX⟩, fun y hy hz => x3 y hy ((iff y hy).mp hz)⟩, ?_⟩
    rw [← MF_sz F hF64 hpF, e]
    exact sz_mono sbX
  refine ⟨?_, fun X hX => ?_⟩
  · rcases i2 with i2 | ⟨u, hu, hv, e⟩
    · obtain ⟨w0, hw0, hg0⟩ := (hall g).mp hgF
      obtain ⟨B0, L0⟩ := Lst_ex (oth_n0 hp hw0 hg0) (oth_60 h60 w0) (oth_16 h16 g w0)
      have v0 := val_A hw0 hg0 L0
      have sF : sb B0 (MF F (2 ^ F.length - 1)) := L0.2.1 _ (fun s hs => sb_bt.mpr (fun j _ hb => by
        obtain ⟨x, hx, _, rfl⟩ := oth_mem.mp hs
        rw [bt_and, Bool.and_eq_true] at hb
        exact MF_full hF ((hall j).mpr ⟨x, hx, hb.1⟩)))
      have a := sz_mono (sb_or.mpr ⟨sF, sb_bit1 (by have := hF g hgF; omega) (MF_full hF hgF)⟩)
      rw [sz_add (by have := hF g hgF; omega) v0.1, MF_sz F hF64 hpF] at a
      have c := pc_le F.length (2 ^ F.length - 1)
      obtain ⟨u, hu, hv, hle⟩ := key B0 v0
      have := i3 u hu hv
      omega
    · exact ⟨_, hv, by rw [MF_sz F hF64 hpF]; exact e⟩
  · obtain ⟨u, hu, hv, hle⟩ := key X hX
    have := i3 u hu hv
    omega
theorem bi_full {n : Nat} (hn : n ≤ 16) {x : Nat} (hx : x < n) : bi (nI (2 ^ n - 1)) x = true := by
  rw [bi_nI _ (by omega), ← Nat.testBit_eq_decide_div_mod_eq, Nat.testBit_two_pow_sub_one]
  exact decide_eq_true hx
theorem whl_1 {F : List Nat} (hF : ∀ f ∈ F, f < 60) (hl : F.length ≤ 16) (ws : List Int64) (t : Nat) : whl F ws (nI (2 ^ F.length - 1) &&& (nI t ^^^ (-1))) = true ↔ ∃ w ∈ ws, w &&& MF F t = 0 := by
  unfold whl
  rw [List.any_eq_true]
  have iff : ∀ w, mkN F w F.length &&& ((nI (2 ^ F.length - 1) &&& (nI t ^^^ (-1))) ^^^ (-1)) = 0 ↔ w &&& MF F t = 0 := fun w => by
    rw [mk_in F w hl, ← mk_hit F hF hl, bi_and0]
    constructor
    · intro h x hx hb
      rw [bi_mkN F w _ (by omega), Bool.and_eq_true] at hb
      have hxl := of_decide_eq_true hb.1
      have := h x hxl hb.2
      rw [bi_and, bi_full hl hxl, bi_not _ (by omega), Bool.true_and] at this
      simpa using this
    · intro h x hx hb
      rw [bi_and, bi_full hl hx, bi_not _ (by omega), Bool.true_and, h x (by omega) (by rw [bi_mkN F w _ (by omega), decide_eq_true hx, hb]; rfl)]
      rfl
  exact ⟨fun ⟨w, hw, h⟩ => ⟨w, hw, (iff w).mp (of_decide_eq_true h)⟩, fun ⟨w, hw, h⟩ => ⟨w, hw, decide_eq_true ((iff w).mpr h)⟩⟩
theorem whl_2 {F : List Nat} (hF : ∀ f ∈ F, f < 60) (hl : F.length ≤ 16) (ws : List Int64) (t : Nat) {p g : Nat} (hp : F[p]? = some g) : whl F ws ((nI (2 ^ F.length - 1) &&& (nI t ^^^ (-1))) &&& (((1 : Int32) <<< (nI p &&& 31)) ^^^ (-1))) = true ↔ ∃ w ∈ ws, w &&& MF F t = 0 ∧ bt w g = false := by
  have hpl := (List.getElem?_eq_some_iff.mp hp).1
  have eg : F.getD p 0 = g := by rw [List.getD_eq_getElem?_getD, hp]; rfl
  unfold whl
  rw [List.any_eq_true]
  have iff : ∀ w, mkN F w F.length &&& (((nI (2 ^ F.length - 1) &&& (nI t ^^^ (-1))) &&& (((1 : Int32) <<< (nI p &&& 31)) ^^^ (-1))) ^^^ (-1)) = 0 ↔ w &&& MF F t = 0 ∧ bt w g = false := fun w => by
    rw [mk_in F w hl, ← mk_hit F hF hl, bi_and0]
    constructor
    · intro h
      refine ⟨fun x hx hb => ?_, ?_⟩
      · rw [bi_mkN F w _ (by omega), Bool.and_eq_true] at hb
        have hxl := of_decide_eq_true hb.1
        have := h x hxl hb.2
        rw [bi_and, bi_and, bi_full hl hxl, bi_not _ (by omega), Bool.true_and, Bool.and_eq_true] at this
        simpa using this.1
      · cases c : bt w g with
        | false => rfl
        | true =>
          have := h p hpl (by rw [eg]; exact c)
          rw [bi_and, bi_not ((1 : Int32) <<< (nI p &&& 31)) (by omega), bi_sh1 (by omega), decide_eq_true rfl] at this
          simp at this
    · rintro ⟨h, hg⟩ x hx hb
      have xp : x ≠ p := fun z => by rw [z, eg, hg] at hb; cases hb
      rw [bi_and, bi_and, bi_full hl hx, bi_not _ (by omega), bi_not ((1 : Int32) <<< (nI p &&& 31)) (by omega), bi_sh1 (by omega), decide_eq_false xp, Bool.true_and, h x (by omega) (by rw [bi_mkN F w _ (by omega), decide_eq_true hx, hb]; rfl)]
      rfl
  exact ⟨fun ⟨w, hw, h⟩ => ⟨w, hw, (iff w).mp (of_decide_eq_true h)⟩, fun ⟨w, hw, h⟩ => ⟨w, hw, decide_eq_true ((iff w).mpr h)⟩⟩
theorem bt_MF_p {F : List Nat} (hF : ∀ f ∈ F, f < 60) (hpF : F.Pairwise (fun a b => a < b)) {p g : Nat} (hp : F[p]? = some g) (t : Nat) : bt (MF F t) g = true ↔ t / 2 ^ p % 2 = 1 := by
  rw [MF_bt F (fun f hf => by have := hF f hf; omega)]
  constructor
  · rintro ⟨x, hx, e⟩
    obtain ⟨h1, h2⟩ := List.getElem?_eq_some_iff.mp hx
    obtain ⟨h3, h4⟩ := List.getElem?_eq_some_iff.mp hp
    have pw := List.pairwise_iff_getElem.mp hpF
    rcases Nat.lt_trichotomy x p with c | c | c
    · have := pw x p h1 h3 c; omega
    · subst c; exact e
    · have := pw p x h3 h1 c; omega
  · exact fun e => ⟨p, hp, e⟩
end LG
