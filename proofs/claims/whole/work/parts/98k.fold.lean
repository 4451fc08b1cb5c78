/-! a row with the readings of some raw answers -/
section MT
def foldA (r : List Int32) (k : List Int64) (l : List Ans) : Ans := (r, k, l.foldl (fun a x => a + x.2.2.1) 0, l.foldl (fun a x => if x.2.2.2.1 < a then x.2.2.2.1 else a) 1000000000, l.foldl (fun a x => if x.2.2.2.2 < a then a else x.2.2.2.2) 0)
theorem foldA_s (r : List Int32) (k : List Int64) (l : List Ans) (x : Ans) : rdA (foldA r k l) x.2.2.1 x.2.2.2.1 x.2.2.2.2 = foldA r k (l ++ [x]) := by
  unfold rdA foldA
  rw [List.foldl_append, List.foldl_append, List.foldl_append]
  rfl
theorem foldA_me {raw : List Ans} {r : List Int32} {k : List Int64} (h1 : k.length ≤ 16) (h2 : CW k (gath raw r)) : MeE raw (foldA r k (sel raw r)) := ⟨h1, h2, rfl, rfl, rfl⟩
theorem MeE.fold {raw : List Ans} {e : Ans} (h : MeE raw e) : e = foldA e.1 e.2.1 (sel raw e.1) := by
  obtain ⟨r, ws, c, co, t⟩ := e
  have h2 : c = _ := h.2.2.1
  have h3 : co = _ := h.2.2.2.1
  have h4 : t = _ := h.2.2.2.2
  rw [h2, h3, h4]
  rfl
theorem mx_tru {a t : Int64} (ha : tru a) (ht : tru t) : tru (if t < a then a else t) := by split <;> assumption
theorem foldA_tru {r : List Int32} {k : List Int64} : ∀ (l : List Ans), (∀ x ∈ l, tru x.2.2.2.2) → tru (foldA r k l).2.2.2.2 := by
  intro l
  have key : ∀ (l : List Ans) (a : Int64), tru a → (∀ x ∈ l, tru x.2.2.2.2) → tru (l.foldl (fun a x => if x.2.2.2.2 < a then a else x.2.2.2.2) a) := by
    intro l
    induction l with
    | nil => exact fun a ha _ => ha
    | cons x l ih => exact fun a ha h => ih _ (mx_tru ha (h x List.mem_cons_self)) (fun y hy => h y (List.mem_cons_of_mem _ hy))
  exact key l 0 tru_0
theorem sel_app (a b : List Ans) (r : List Int32) : sel (a ++ b) r = sel a r ++ sel b r := List.filter_append _ _
theorem gath_app (a b : List Ans) (r : List Int32) : gath (a ++ b) r = gath a r ++ gath b r := by unfold gath; rw [sel_app, List.flatMap_append]
theorem sel_sub {raw : List Ans} {r : List Int32} {x : Ans} (h : x ∈ sel raw r) : x ∈ raw ∧ x.1 = r := by
  unfold sel at h
  rw [List.mem_filter] at h
  exact ⟨h.1, of_decide_eq_true h.2⟩
theorem sel_nil {raw : List Ans} {r : List Int32} (h : ∀ x ∈ raw, x.1 ≠ r) : sel raw r = [] := by
  unfold sel
  rw [List.filter_eq_nil_iff]
  intro x hx z
  exact h x hx (of_decide_eq_true z)
theorem sel_1y {x : Ans} {r : List Int32} (h : x.1 = r) : sel [x] r = [x] := by
  unfold sel
  rw [List.filter_cons_of_pos (p := fun y : Ans => decide (y.1 = r)) (a := x) (decide_eq_true h), List.filter_nil]
theorem sel_1n {x : Ans} {r : List Int32} (h : x.1 ≠ r) : sel [x] r = [] := sel_nil (fun y hy => by rw [List.mem_singleton.mp hy]; exact h)
theorem MeE.more {raw : List Ans} {e x : Ans} (h : MeE raw e) (n : x.1 ≠ e.1) : MeE (raw ++ [x]) e := by
  have s : sel (raw ++ [x]) e.1 = sel raw e.1 := by rw [sel_app, sel_1n n, List.append_nil]
  unfold MeE gath cntS cstS truS at h ⊢
  rw [s]
  exact h
/-- one raw answer more: the row that it comes to is put anew -/
theorem OKr.upd {raw L : List Ans} {x e : Ans} {n : Nat} (hl : L.length ≤ 32) (hn : (L.map (fun e => e.1)).Nodup) {o : Ans} (ho : L[n]? = some o) (er : o.1 = x.1) (he : e.1 = x.1) (hr : ∀ r, (∃ e ∈ L, e.1 = r) ↔ (∃ y ∈ raw, y.1 = r) ∨ r = x.1) (hm : ∀ f ∈ L, f.1 ≠ x.1 → MeE raw f) (me : MeE (raw ++ [x]) e) : OKr (raw ++ [x]) (L.set n e) := by
  have hnl := (List.getElem?_eq_some_iff.mp ho).1
  have ho2 := (List.getElem?_eq_some_iff.mp ho).2
  have mp : (L.set n e).map (fun e => e.1) = L.map (fun e => e.1) := by
    rw [List.map_set]
    refine List.ext_getElem? (fun i => ?_)
    by_cases c : i = n
    · subst c
      rw [List.getElem?_set_self (by rw [List.length_map]; exact hnl), List.getElem?_map, ho, he]
      exact congrArg some er.symm
    · rw [List.getElem?_set_ne (fun z => c z.symm)]
  refine ⟨by rw [List.length_set]; exact hl, by rw [mp]; exact hn, fun r => ?_, fun f hf => ?_⟩
  · have a : (∃ e' ∈ L.set n e, e'.1 = r) ↔ r ∈ (L.set n e).map (fun e => e.1) := by rw [List.mem_map]
    have b : (∃ e' ∈ L, e'.1 = r) ↔ r ∈ L.map (fun e => e.1) := by rw [List.mem_map]
    rw [a, mp, ← b, hr]
    constructor
    · rintro (⟨y, hy, e⟩ | e)
      · exact ⟨y, List.mem_append_left _ hy, e⟩
      · exact ⟨x, List.mem_append_right _ (List.mem_singleton_self _), e.symm⟩
    · rintro ⟨y, hy, e⟩
      rcases List.mem_append.mp hy with z | z
      · exact Or.inl ⟨y, z, e⟩
      · rw [List.mem_singleton.mp z] at e; exact Or.inr e.symm
  · obtain ⟨i, hi, rfl⟩ := List.mem_iff_getElem.mp hf
    rw [List.length_set] at hi
    by_cases c : i = n
    · subst c
      rw [List.getElem_set_self]; exact me
    · rw [List.getElem_set_ne (fun z => c z.symm)]
      have ne : (L[i]).1 ≠ x.1 := fun z => by
        have pw := List.pairwise_iff_getElem.mp hn
        rw [← er, ← ho2] at z
        rcases Nat.lt_or_gt_of_ne c with y | y
        · have := pw i n (by rw [List.length_map]; exact hi) (by rw [List.length_map]; exact hnl) y
          rw [List.getElem_map, List.getElem_map] at this
          exact this z
        · have := pw n i (by rw [List.length_map]; exact hnl) (by rw [List.length_map]; exact hi) y
          rw [List.getElem_map, List.getElem_map] at this
          exact this z.symm
      exact (hm _ (List.getElem_mem hi) ne).more (fun z => ne z.symm)
theorem Mel_OKr {raw R : List Ans} (hn : (raw.map (fun e => e.1)).Nodup) (h32 : raw.length ≤ 32) (M : Mls R raw) (hg : ∀ x ∈ raw, x.2.2.2.1 ≤ 1000000000 ∧ ¬ x.2.2.2.2 < 0) : OKr raw R := by
  obtain ⟨hl, hm⟩ := M
  have at' : ∀ i (h : i < R.length), Mel1 (raw[i]'(by omega)) R[i] := fun i h => hm i _ _ (List.getElem?_eq_getElem (by omega)) (List.getElem?_eq_getElem h)
  have mp : R.map (fun e => e.1) = raw.map (fun e => e.1) := by
    refine List.ext_getElem (by rw [List.length_map, List.length_map, hl]) (fun i h1 h2 => ?_)
    rw [List.length_map] at h1
    rw [List.getElem_map, List.getElem_map]
    exact (at' i h1).1
  refine ⟨by omega, by rw [mp]; exact hn, fun r => ?_, fun e he => ?_⟩
  · have a : (∃ e ∈ R, e.1 = r) ↔ r ∈ R.map (fun e => e.1) := by rw [List.mem_map]
    have b : (∃ e ∈ raw, e.1 = r) ↔ r ∈ raw.map (fun e => e.1) := by rw [List.mem_map]
    rw [a, b, mp]
  · obtain ⟨i, hi, rfl⟩ := List.mem_iff_getElem.mp he
    have hx : raw[i]'(by omega) ∈ raw := List.getElem_mem (by omega)
    exact Mel_E hn hx (at' i hi) (hg _ hx).1 (hg _ hx).2
end MT
