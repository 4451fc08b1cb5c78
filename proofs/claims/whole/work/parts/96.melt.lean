/-! what raw answers melt to -/
section MH
def sel (raw : List Ans) (r : List Int32) : List Ans := raw.filter (fun x => decide (x.1 = r))
def gath (raw : List Ans) (r : List Int32) : List Int64 := (sel raw r).flatMap (fun x => x.2.1)
def cntS (raw : List Ans) (r : List Int32) : Int64 := (sel raw r).foldl (fun a x => a + x.2.2.1) 0
def cstS (raw : List Ans) (r : List Int32) : Int32 := (sel raw r).foldl (fun a x => if x.2.2.2.1 < a then x.2.2.2.1 else a) 1000000000
def truS (raw : List Ans) (r : List Int32) : Int64 := (sel raw r).foldl (fun a x => if x.2.2.2.2 < a then a else x.2.2.2.2) 0
def MeE (raw : List Ans) (e : Ans) : Prop := e.2.1.length ≤ 16 ∧ CW e.2.1 (gath raw e.1) ∧ e.2.2.1 = cntS raw e.1 ∧ e.2.2.2.1 = cstS raw e.1 ∧ e.2.2.2.2 = truS raw e.1
def rowsEq (raw R : List Ans) : Prop := ∀ r, (∃ e ∈ R, e.1 = r) ↔ ∃ x ∈ raw, x.1 = r
/-- R is what raw melts to, in order of the rows; and in any order -/
def OKm (raw R : List Ans) : Prop := R.length ≤ 32 ∧ R.Pairwise (fun a b => rlt a.1 b.1) ∧ rowsEq raw R ∧ ∀ e ∈ R, MeE raw e
def OKr (raw R : List Ans) : Prop := R.length ≤ 32 ∧ (R.map (fun e => e.1)).Nodup ∧ rowsEq raw R ∧ ∀ e ∈ R, MeE raw e
/-- too many -/
def NOm (raw : List Ans) : Prop := (∃ l : List (List Int32), l.Nodup ∧ 32 < l.length ∧ ∀ r ∈ l, ∃ x ∈ raw, x.1 = r) ∨ ∃ (r : List Int32) (l : List Int64), l.Nodup ∧ 16 < l.length ∧ ∀ x ∈ l, x ∈ gath raw r ∧ ∀ y ∈ gath raw r, sb y x → y = x
theorem sel_perm {a b : List Ans} (p : a.Perm b) (r : List Int32) : (sel a r).Perm (sel b r) := p.filter _
theorem gath_perm {a b : List Ans} (p : a.Perm b) (r : List Int32) : (gath a r).Perm (gath b r) := (sel_perm p r).flatMap_right _
theorem cntS_perm {a b : List Ans} (p : a.Perm b) (r : List Int32) : cntS a r = cntS b r := (sel_perm p r).foldl_eq' (fun x _ y _ z => by rw [Int64.add_assoc, Int64.add_comm x.2.2.1, ← Int64.add_assoc]) _
theorem mn_c (x y z : Int32) : (if y < (if x < z then x else z) then y else (if x < z then x else z)) = (if x < (if y < z then y else z) then x else (if y < z then y else z)) := by
  simp only [Int32.lt_iff_toInt_lt]
  repeat' split
  all_goals first
    | rfl
    | (apply Int32.toInt_inj.mp; omega)
    | omega
theorem mx_c (x y z : Int64) : (if y < (if x < z then z else x) then (if x < z then z else x) else y) = (if x < (if y < z then z else y) then (if y < z then z else y) else x) := by
  simp only [Int64.lt_iff_toInt_lt]
  repeat' split
  all_goals first
    | rfl
    | (apply Int64.toInt_inj.mp; omega)
    | omega
theorem cstS_perm {a b : List Ans} (p : a.Perm b) (r : List Int32) : cstS a r = cstS b r := (sel_perm p r).foldl_eq' (fun x _ y _ z => mn_c _ _ _) _
theorem truS_perm {a b : List Ans} (p : a.Perm b) (r : List Int32) : truS a r = truS b r := (sel_perm p r).foldl_eq' (fun x _ y _ z => mx_c _ _ _) _
theorem up_perm {a b : List Int64} (p : a.Perm b) (X : Int64) : Upw a X ↔ Upw b X := ⟨fun ⟨w, hw, h⟩ => ⟨w, p.mem_iff.mp hw, h⟩, fun ⟨w, hw, h⟩ => ⟨w, p.mem_iff.mpr hw, h⟩⟩
theorem MeE.perm {a b : List Ans} (p : a.Perm b) {e : Ans} (h : MeE a e) : MeE b e := ⟨h.1, ⟨h.2.1.1, h.2.1.2.1, fun X => (h.2.1.2.2 X).trans (up_perm (gath_perm p _) X)⟩, h.2.2.1.trans (cntS_perm p _), h.2.2.2.1.trans (cstS_perm p _), h.2.2.2.2.trans (truS_perm p _)⟩
theorem MeE.one {raw : List Ans} {e f : Ans} (h : MeE raw e) (k : MeE raw f) (er : e.1 = f.1) : e = f := by
  obtain ⟨r, ws, c, co, t⟩ := e
  obtain ⟨r2, ws2, c2, co2, t2⟩ := f
  have er : r = r2 := er
  subst er
  have h1 : ws = ws2 := h.2.1.one k.2.1 (fun _ => Iff.rfl)
  have h2 : c = c2 := h.2.2.1.trans k.2.2.1.symm
  have h3 : co = co2 := h.2.2.2.1.trans k.2.2.2.1.symm
  have h4 : t = t2 := h.2.2.2.2.trans k.2.2.2.2.symm
  rw [h1, h2, h3, h4]
theorem rowsEq.perm {a b R : List Ans} (p : a.Perm b) (h : rowsEq a R) : rowsEq b R := fun r => (h r).trans ⟨fun ⟨x, hx, e⟩ => ⟨x, p.mem_iff.mp hx, e⟩, fun ⟨x, hx, e⟩ => ⟨x, p.mem_iff.mpr hx, e⟩⟩
theorem OKm.perm {a b R : List Ans} (p : a.Perm b) (h : OKm a R) : OKm b R := ⟨h.1, h.2.1, h.2.2.1.perm p, fun e he => (h.2.2.2 e he).perm p⟩
theorem OKr.pm {a b R : List Ans} (p : a.Perm b) (h : OKr a R) : OKr b R := ⟨h.1, h.2.1, h.2.2.1.perm p, fun e he => (h.2.2.2 e he).perm p⟩
theorem NOm.perm {a b : List Ans} (p : a.Perm b) (h : NOm a) : NOm b := by
  rcases h with ⟨l, h1, h2, h3⟩ | ⟨r, l, h1, h2, h3⟩
  · exact Or.inl ⟨l, h1, h2, fun r hr => by
      obtain ⟨x, hx, e⟩ := h3 r hr
      exact ⟨x, p.mem_iff.mp hx, e⟩⟩
  · have g := gath_perm p r
    exact Or.inr ⟨r, l, h1, h2, fun x hx => ⟨g.mem_iff.mp (h3 x hx).1, fun y hy e => (h3 x hx).2 y (g.mem_iff.mpr hy) e⟩⟩
theorem OKm.r {raw R : List Ans} (h : OKm raw R) : OKr raw R := by
  refine ⟨h.1, ?_, h.2.2⟩
  unfold List.Nodup
  rw [List.pairwise_map]
  exact h.2.1.imp (fun {a b} z (e : a.1 = b.1) => rlt_ir b.1 (by rw [e] at z; exact z))
theorem OKr.no {raw R : List Ans} (h : OKr raw R) (k : NOm raw) : False := by
  rcases k with ⟨l, h1, h2, h3⟩ | ⟨r, l, h1, h2, h3⟩
  · have : l.length ≤ (R.map (fun e => e.1)).length := h1.length_le_of_subset (fun r hr => by
      obtain ⟨e, he, er⟩ := (h.2.2.1 r).mpr (h3 r hr)
      exact List.mem_map.mpr ⟨e, he, er⟩)
    rw [List.length_map] at this
    have := h.1
    omega
  · cases l with
    | nil => exact absurd h2 (Nat.not_lt_zero _)
    | cons x0 l0 =>
      obtain ⟨y, hy, _⟩ := List.mem_flatMap.mp (h3 x0 List.mem_cons_self).1
      unfold sel at hy
      rw [List.mem_filter] at hy
      obtain ⟨e, he, er⟩ := (h.2.2.1 r).mpr ⟨y, hy.1, of_decide_eq_true hy.2⟩
      have me := h.2.2.2 e he
      have : (x0 :: l0).length ≤ e.2.1.length := h1.length_le_of_subset (fun x hx => me.2.1.min (by rw [er]; exact (h3 x hx).1) (by rw [er]; exact (h3 x hx).2))
      have := me.1
      omega
theorem OKr.nd {raw R : List Ans} (h : OKr raw R) : R.Nodup := by
  have := h.2.1
  unfold List.Nodup at this
  rw [List.pairwise_map] at this
  exact this.imp (fun {a b} z e => z (by rw [e]))
theorem OKr.same {raw R S : List Ans} (h : OKr raw R) (k : OKr raw S) : R.Perm S := by
  rw [List.perm_ext_iff_of_nodup h.nd k.nd]
  intro e
  constructor
  · intro he
    obtain ⟨f, hf, er⟩ := (k.2.2.1 e.1).mpr ((h.2.2.1 e.1).mp ⟨e, he, rfl⟩)
    rw [← (k.2.2.2 f hf).one (h.2.2.2 e he) er]; exact hf
  · intro he
    obtain ⟨f, hf, er⟩ := (h.2.2.1 e.1).mpr ((k.2.2.1 e.1).mp ⟨e, he, rfl⟩)
    rw [← (h.2.2.2 f hf).one (k.2.2.2 e he) er]; exact hf
theorem rows_ext : ∀ {R S : List Ans}, R.Pairwise (fun a b => rlt a.1 b.1) → S.Pairwise (fun a b => rlt a.1 b.1) → (∀ e, e ∈ R ↔ e ∈ S) → R = S
  | [], [], _, _, _ => rfl
  | [], b :: k, _, _, h => absurd ((h b).mpr List.mem_cons_self) List.not_mem_nil
  | a :: l, [], _, _, h => absurd ((h a).mp List.mem_cons_self) List.not_mem_nil
  | a :: l, b :: k, hl, hk, h => by
    rw [List.pairwise_cons] at hl hk
    have e : a = b := by
      rcases List.mem_cons.mp ((h a).mp List.mem_cons_self) with z | z
      · exact z
      · rcases List.mem_cons.mp ((h b).mpr List.mem_cons_self) with y | y
        · exact y.symm
        · exact absurd (rlt_tr (hk.1 a z) (hl.1 b y)) (rlt_ir _)
    subst e
    rw [rows_ext hl.2 hk.2 (fun x => ?_)]
    constructor
    · intro hx
      rcases List.mem_cons.mp ((h x).mp (List.mem_cons_of_mem _ hx)) with z | z
      · have := hl.1 x hx; rw [z] at this; exact absurd this (rlt_ir _)
      · exact z
    · intro hx
      rcases List.mem_cons.mp ((h x).mpr (List.mem_cons_of_mem _ hx)) with z | z
      · have := hk.1 x hx; rw [z] at this; exact absurd this (rlt_ir _)
      · exact z
theorem OKm.one {raw R S : List Ans} (h : OKm raw R) (k : OKm raw S) : R = S := rows_ext h.2.1 k.2.1 (fun e => (h.r.same k.r).mem_iff)
/-- the ways gathered for a row, when they are too many -/
theorem NOm.ways {raw : List Ans} {r : List Int32} {l : List Int64} (ha : Anti l) (hl : 16 < l.length) (hm : ∀ x ∈ l, x ∈ gath raw r) (hu : ∀ X, Upw l X ↔ Upw (gath raw r) X) : NOm raw := by
  refine Or.inr ⟨r, l, ha.nd, hl, fun x hx => ⟨hm x hx, fun y hy e => ?_⟩⟩
  obtain ⟨z, hz, e2⟩ := (hu y).mpr ⟨y, hy, sb_rf y⟩
  have := ha.eq hz hx (sb_tr e2 e)
  subst this
  exact sb_as e e2
theorem sel_s {raw : List Ans} {r : List Int32} {i : Nat} {e : Ans} (he : raw[i]? = some e) : sel (raw.take (i + 1)) r = sel (raw.take i) r ++ (if e.1 = r then [e] else []) := by
  unfold sel
  rw [List.take_add_one, he, List.filter_append]
  congr 1
  show [e].filter _ = _
  by_cases c : e.1 = r
  · rw [if_pos c, List.filter_cons_of_pos (p := fun x => decide (x.1 = r)) (a := e) (decide_eq_true c), List.filter_nil]
  · rw [if_neg c, List.filter_cons_of_neg (p := fun x => decide (x.1 = r)) (a := e) (by rw [decide_eq_false c]; decide), List.filter_nil]
theorem sel_y {raw : List Ans} {r : List Int32} {i : Nat} {e : Ans} (he : raw[i]? = some e) (c : e.1 = r) : gath (raw.take (i + 1)) r = gath (raw.take i) r ++ e.2.1 ∧ cntS (raw.take (i + 1)) r = cntS (raw.take i) r + e.2.2.1 ∧ cstS (raw.take (i + 1)) r = (if e.2.2.2.1 < cstS (raw.take i) r then e.2.2.2.1 else cstS (raw.take i) r) ∧ truS (raw.take (i + 1)) r = (if e.2.2.2.2 < truS (raw.take i) r then truS (raw.take i) r else e.2.2.2.2) := by
  have s := sel_s (r := r) he
  rw [if_pos c] at s
  unfold gath cntS cstS truS
  rw [s, List.flatMap_append, List.foldl_append, List.foldl_append, List.foldl_append]
  exact ⟨by simp, rfl, rfl, rfl⟩
theorem sel_n {raw : List Ans} {r : List Int32} {i : Nat} {e : Ans} (he : raw[i]? = some e) (c : ¬ e.1 = r) : gath (raw.take (i + 1)) r = gath (raw.take i) r ∧ cntS (raw.take (i + 1)) r = cntS (raw.take i) r ∧ cstS (raw.take (i + 1)) r = cstS (raw.take i) r ∧ truS (raw.take (i + 1)) r = truS (raw.take i) r := by
  have s := sel_s (r := r) he
  rw [if_neg c, List.append_nil] at s
  unfold gath cntS cstS truS
  rw [s]
  exact ⟨rfl, rfl, rfl, rfl⟩
theorem gath_len {raw : List Ans} (h : ∀ e ∈ raw, e.2.1.length ≤ 16) (r : List Int32) : (gath raw r).length ≤ 16 * raw.length := by
  unfold gath sel
  induction raw with
  | nil => exact Nat.le_refl _
  | cons a t ih =>
    have ih := ih (fun e he => h e (List.mem_cons_of_mem _ he))
    have ha := h a List.mem_cons_self
    by_cases c : a.1 = r
    · rw [List.filter_cons_of_pos (p := fun x : Ans => decide (x.1 = r)) (a := a) (decide_eq_true c), List.flatMap_cons, List.length_append, List.length_cons]; omega
    · rw [List.filter_cons_of_neg (p := fun x : Ans => decide (x.1 = r)) (a := a) (by rw [decide_eq_false c]; decide), List.length_cons]; omega
theorem gath_mem {raw : List Ans} {r : List Int32} {x : Int64} : x ∈ gath raw r ↔ ∃ e ∈ raw, e.1 = r ∧ x ∈ e.2.1 := by
  unfold gath sel
  rw [List.mem_flatMap]
  constructor
  · rintro ⟨e, he, hx⟩
    rw [List.mem_filter] at he
    exact ⟨e, he.1, of_decide_eq_true he.2, hx⟩
  · rintro ⟨e, he, er, hx⟩
    exact ⟨e, List.mem_filter.mpr ⟨he, decide_eq_true er⟩, hx⟩
end MH
