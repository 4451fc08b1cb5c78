/-! what holds of every value that a run comes to is kept by the calls -/
theorem W_st {V : Vt} (W : WFv V) (s : Int32) : WFv (stV V s) := W
theorem W_ac {V : Vt} {c : Co} {A : Av} (W : WFv V) (wf : WF c) (ok : AOK A c) (e : undoV A c = V.1) (hl : V.1.2.1.length ≤ c.2.1.length) : WFv (acV c A V) := by
  refine ⟨Vd.psh wf ok e W.1, psh_len, W.2.2.1, W.2.2.2.1, W.2.2.2.2.1, fun a ha => ?_⟩
  obtain ⟨h1, h2, h3, h4, h5, h6, h7⟩ := W.2.2.2.2.2 a ha
  exact ⟨h1, h2, h3, h4, h5, fun w hw i hi => h6 w hw i (Nat.le_trans hl hi), h7⟩
theorem app_old {α : Type} {l : List α} {a x : α} {i : Nat} (h : l[i]? = some x) : (l ++ [a])[i]? = some x := by
  rw [List.getElem?_append_left (List.getElem?_eq_some_iff.mp h).1]; exact h
theorem QOK.up {c c' : Co} {i : Nat} {q : Qst} (h : QOK c i q) (h1 : ∀ (t : Nat) (p : Int32), c.1[t]? = some p → c'.1[t]? = some p) (h2 : c.1.length ≤ c'.1.length) (h3 : ∀ (j : Nat) (p : Qst), c.2.2.1[j]? = some p → c'.2.2.1[j]? = some p) : QOK c' i q := by
  obtain ⟨g1, g2, g3, g4, g5⟩ := h
  have up : ∀ {o : Int32} {p : Qst}, qAt c o i p → qAt c' o i p := fun ⟨j, j1, j2, j3⟩ => ⟨j, j1, j2, h3 j _ j3⟩
  refine ⟨g1, g2, g3, fun z => ?_, fun z => ?_⟩
  · obtain ⟨a, b, t, t1, t2, t3⟩ := g4 z
    exact ⟨a, b, t, by omega, t2, h1 t _ t3⟩
  · obtain ⟨p, p1, a1, a2, a3, a4, a5, a6, a7⟩ := g5 z
    refine ⟨p, up p1, a1, a2, a3, a4, a5, a6, fun w => ?_⟩
    obtain ⟨p2, b1, b2⟩ := a7 w
    exact ⟨p2, up b1, b2⟩
theorem W_tab {V : Vt} (W : WFv V) (v : Int32) : WFv (tabV v V).2 := by
  unfold tabV
  by_cases c : v < 1 ∨ ¬ v ≤ 4
  · rw [if_pos c]; exact W
  · rw [if_neg c]
    by_cases d : V.1.1.length = 10
    · rw [if_pos d]; exact W
    · rw [if_neg d]
      obtain ⟨w1, w2, w3, w4, w5, w6, w7⟩ := W.1.wf
      have v0 : ¬ v < 0 := fun w => c (Or.inl (i32_lt1.mpr (Int32.le_of_lt w)))
      obtain ⟨k, hk, rfl⟩ := nI_of v0
      have k4 : k ≤ 4 := (nI_leI (b := 4) hk (by decide)).mp (Classical.byContradiction (fun w => c (Or.inr w)))
      have k1 : 1 ≤ k := by
        have : ¬ k < 1 := fun w => c (Or.inl ((nI_ltI (b := 1) hk (by decide)).mpr w))
        omega
      refine W_ac W ⟨?_, fun i p hp => ?_, w3, fun i f hf => ?_, w5, fun i q hq => (w6 i q hq).up (fun t p => app_old) ?_ (fun _ _ h => h), w7⟩ ⟨by decide, fun _ => by simp, fun z => absurd z (by decide), fun z => absurd z (by decide), fun z => absurd z (by decide), fun z => absurd z (by decide), fun z => absurd z (by decide)⟩ ?_ (Nat.le_refl _)
      · show (V.1.1 ++ [nI k]).length ≤ 10; rw [List.length_append, List.length_singleton]; omega
      · rcases app_get hp with ⟨-, rfl⟩ | ⟨-, e⟩
        · exact ⟨k, k1, k4, rfl⟩
        · exact w2 i p e
      · obtain ⟨⟨t, t1, t2⟩, t3⟩ := w4 i f hf
        exact ⟨⟨t, by show t < (V.1.1 ++ [nI k]).length; rw [List.length_append]; omega, t2⟩, t3⟩
      · show V.1.1.length ≤ (V.1.1 ++ [nI k]).length; rw [List.length_append]; omega
      · unfold undoV
        rw [if_pos rfl]
        show ((V.1.1 ++ [nI k]).dropLast, V.1.2) = V.1
        rw [List.dropLast_concat]
theorem wOK_f : wOK fwei := by
  intro k hk
  match k, hk with
  | 0, _ => exact ⟨by decide, by decide⟩
  | 1, _ => exact ⟨by decide, by decide⟩
  | 2, _ => exact ⟨by decide, by decide⟩
  | 3, _ => exact ⟨by decide, by decide⟩
theorem W_fac {V : Vt} (W : WFv V) (t a b c d : Int32) : WFv (facV t a b c d V).2 := by
  unfold facV
  by_cases z : t < 0 ∨ nI V.1.1.length ≤ t
  · rw [if_pos z]; exact W
  · rw [if_neg z]
    by_cases y : V.1.2.1.length = 60
    · rw [if_pos y]; exact W
    · rw [if_neg y]
      obtain ⟨w1, w2, w3, w4, w5, w6, w7⟩ := W.1.wf
      obtain ⟨k, hk, rfl⟩ : ∃ k, k < V.1.1.length ∧ t = nI k := by
        rcases pk_ix t (n := V.1.1.length) (by omega) with e | e | ⟨j, hj, e⟩
        · exact absurd (Or.inl e) z
        · exact absurd (Or.inr e) z
        · exact ⟨j, hj, e⟩
      refine W_ac W ⟨w1, w2, ?_, fun i f hf => ?_, w5, fun i q hq => (w6 i q hq).up (fun _ _ h => h) (Nat.le_refl _) (fun _ _ h => h), w7⟩ ⟨by decide, fun z => absurd z (by decide), fun _ => by simp, fun z => absurd z (by decide), fun z => absurd z (by decide), fun z => absurd z (by decide), fun z => absurd z (by decide)⟩ ?_ ?_
      · show (V.1.2.1 ++ [_]).length ≤ 60; rw [List.length_append, List.length_singleton]; omega
      · rcases app_get hf with ⟨-, rfl⟩ | ⟨-, e⟩
        · exact ⟨⟨k, hk, rfl⟩, wOK_f⟩
        · exact w4 i f e
      · unfold undoV
        rw [if_neg (by decide), if_pos rfl]
        show (V.1.1, (V.1.2.1 ++ [_]).dropLast, V.1.2.2) = V.1
        rw [List.dropLast_concat]
      · show V.1.2.1.length ≤ (V.1.2.1 ++ [_]).length; rw [List.length_append]; omega
theorem fOf_at {V : Vt} {f : Int32} {x : Fct} (h : fOf V f = some x) : V.1.2.1[ix f]? = some x ∧ ix f < V.1.2.1.length := by
  unfold fOf at h
  by_cases c : f < 0
  · rw [if_pos c] at h; cases h
  · rw [if_neg c] at h; exact ⟨h, (List.getElem?_eq_some_iff.mp h).1⟩
/-- one fact changed in what it weighs and whether it is dropped -/
theorem WF_set {c : Co} (w : WF c) {i : Nat} {x y : Fct} (hx : c.2.1[i]? = some x) (h1 : y.1 = x.1) (h2 : wOK y.2.2.1) : WF (setF c i y) := by
  obtain ⟨w1, w2, w3, w4, w5, w6, w7⟩ := w
  refine ⟨w1, w2, ?_, fun j f hf => ?_, w5, fun j q hq => (w6 j q hq).up (fun _ _ h => h) (Nat.le_refl _) (fun _ _ h => h), w7⟩
  · show (c.2.1.set i y).length ≤ 60; rw [List.length_set]; exact w3
  · rcases set_get hx hf with ⟨-, rfl⟩ | ⟨-, e⟩
    · exact ⟨by rw [h1]; exact (w4 i x hx).1, h2⟩
    · exact w4 j f e
theorem set_set {c : Co} {i : Nat} {x y : Fct} (hx : c.2.1[i]? = some x) : setF (setF c i y) i x = c := by
  unfold setF
  show (c.1, (c.2.1.set i y).set i x, c.2.2) = c
  have : (c.2.1.set i y).set i x = c.2.1 := by
    refine List.ext_getElem? (fun j => ?_)
    rw [List.set_set, List.getElem?_set]
    by_cases e : i = j
    · subst e
      rw [if_pos rfl, if_pos (List.getElem?_eq_some_iff.mp hx).1, hx]
    · rw [if_neg e]
  rw [this]
theorem get_set {c : Co} {i : Nat} {x y : Fct} (hx : c.2.1[i]? = some x) : (setF c i y).2.1[i]? = some y := by
  show (c.2.1.set i y)[i]? = some y
  rw [List.getElem?_set, if_pos rfl, if_pos (List.getElem?_eq_some_iff.mp hx).1]
theorem W_dro {V : Vt} (W : WFv V) (f : Int32) (b : Bool) : WFv (droV f b V).2 := by
  unfold droV
  cases e : fOf V f with
  | none => exact W
  | some x =>
    obtain ⟨hx, hi⟩ := fOf_at e
    have w := W.1.wf
    refine W_ac W (WF_set w hx rfl (w.2.2.2.1 _ x hx).2) ⟨(by decide : 2 < 6), fun z => absurd z (show ¬ 2 = 0 by decide), fun z => absurd z (show ¬ 2 = 1 by decide), fun _ => ⟨?_, ?_⟩, fun z => absurd z (show ¬ 2 = 3 by decide), fun z => absurd z (show ¬ 2 = 4 by decide), fun z => absurd z (show ¬ 2 = 5 by decide)⟩ ?_ ?_
    · show ix f < (V.1.2.1.set _ _).length; rw [List.length_set]; exact hi
    · show b2j x.2.2.2 = 0 ∨ b2j x.2.2.2 = 1
      cases x.2.2.2
      · exact Or.inl rfl
      · exact Or.inr rfl
    · unfold undoV
      rw [if_neg (show ¬ 2 = 0 by decide), if_neg (show ¬ 2 = 1 by decide), if_pos rfl]
      show (match (setF V.1 (ix f) (x.1, x.2.1, x.2.2.1, b)).2.1[ix f]? with
        | none => _
        | some y => _) = _
      rw [get_set hx]
      show setF (setF V.1 (ix f) _) (ix f) (x.1, x.2.1, x.2.2.1, decide (b2j x.2.2.2 ≠ 0)) = V.1
      have : (x.1, x.2.1, x.2.2.1, decide (b2j x.2.2.2 ≠ 0)) = x := by
        obtain ⟨x1, x2, x3, x4⟩ := x
        cases x4 <;> rfl
      rw [this]
      exact set_set hx
    · show V.1.2.1.length ≤ (V.1.2.1.set _ _).length; rw [List.length_set]; exact Nat.le_refl _
theorem W_put {V : Vt} (W : WFv V) (f wh : Int32) (v : Int64) : WFv (putV f wh v V).2 := by
  unfold putV
  cases e : fOf V f with
  | none => exact W
  | some x =>
    show WFv (if wh < 0 ∨ ¬ wh ≤ 3 ∨ v < 0 ∨ mwei (ix wh) < v then _ else _ : Int32 × Vt).2
    by_cases c : wh < 0 ∨ ¬ wh ≤ 3 ∨ v < 0 ∨ mwei (ix wh) < v
    · rw [if_pos c]; exact W
    · rw [if_neg c]
      obtain ⟨hx, hi⟩ := fOf_at e
      have w := W.1.wf
      have hw := (w.2.2.2.1 _ x hx).2
      have w0 : ¬ wh < 0 := fun z => c (Or.inl z)
      obtain ⟨k, hk, rfl⟩ := nI_of w0
      have k3 : k ≤ 3 := (nI_leI (b := 3) hk (by decide)).mp (Classical.byContradiction (fun z => c (Or.inr (Or.inl z))))
      rw [show ix (nI k) = k from nI_clamp hk] at c ⊢
      have v0 : ¬ v < 0 := fun z => c (Or.inr (Or.inr (Or.inl z)))
      have v1 : v ≤ mwei k := Int64.not_lt.mp (fun z => c (Or.inr (Or.inr (Or.inr z))))
      refine W_ac W (WF_set w hx rfl (fun j hj => ?_)) ⟨(by decide : 3 < 6), fun z => absurd z (show ¬ 3 = 0 by decide), fun z => absurd z (show ¬ 3 = 1 by decide), fun z => absurd z (show ¬ 3 = 2 by decide), fun _ => ⟨?_, (by omega : k < 4), (hw k (by omega)).1, (hw k (by omega)).2⟩, fun z => absurd z (show ¬ 3 = 4 by decide), fun z => absurd z (show ¬ 3 = 5 by decide)⟩ ?_ ?_
      · show ¬ upF x.2.2.1 k v j < 0 ∧ upF x.2.2.1 k v j ≤ mwei j
        unfold upF
        by_cases e : j = k
        · rw [if_pos e, e]; exact ⟨v0, v1⟩
        · rw [if_neg e]; exact hw j hj
      · show ix f < (V.1.2.1.set _ _).length; rw [List.length_set]; exact hi
      · unfold undoV
        rw [if_neg (show ¬ 3 = 0 by decide), if_neg (show ¬ 3 = 1 by decide), if_neg (show ¬ 3 = 2 by decide), if_pos rfl]
        show (match (setF V.1 (ix f) (x.1, x.2.1, upF x.2.2.1 k v, x.2.2.2)).2.1[ix f]? with
          | none => _
          | some y => _) = _
        rw [get_set hx]
        show setF (setF V.1 (ix f) _) (ix f) (x.1, x.2.1, upF (upF x.2.2.1 k v) k (x.2.2.1 k), x.2.2.2) = V.1
        have : upF (upF x.2.2.1 k v) k (x.2.2.1 k) = x.2.2.1 := by
          funext j
          unfold upF
          by_cases e : j = k
          · rw [if_pos e, e]
          · rw [if_neg e, if_neg e]
        rw [this]
        exact set_set hx
      · show V.1.2.1.length ≤ (V.1.2.1.set _ _).length; rw [List.length_set]; exact Nat.le_refl _
theorem W_add {V : Vt} (W : WFv V) {q : Qst} (hq : QOK V.1 V.1.2.2.1.length q) : WFv (addQ V q).2 := by
  unfold addQ
  by_cases c : V.1.2.2.1.length = 40
  · rw [if_pos c]; exact W
  · rw [if_neg c]
    obtain ⟨w1, w2, w3, w4, w5, w6, w7⟩ := W.1.wf
    refine W_ac W ⟨w1, w2, w3, w4, ?_, fun i x hx => ?_, w7⟩ ⟨(by decide : 4 < 6), fun z => absurd z (show ¬ 4 = 0 by decide), fun z => absurd z (show ¬ 4 = 1 by decide), fun z => absurd z (show ¬ 4 = 2 by decide), fun z => absurd z (show ¬ 4 = 3 by decide), fun _ => by simp, fun z => absurd z (show ¬ 4 = 5 by decide)⟩ ?_ (Nat.le_refl _)
    · show (V.1.2.2.1 ++ [q]).length ≤ 40; rw [List.length_append, List.length_singleton]; omega
    · rcases app_get hx with ⟨rfl, rfl⟩ | ⟨-, e⟩
      · exact hq.up (fun _ _ h => h) (Nat.le_refl _) (fun _ _ => app_old)
      · exact (w6 i x e).up (fun _ _ h => h) (Nat.le_refl _) (fun _ _ => app_old)
    · unfold undoV
      rw [if_neg (show ¬ 4 = 0 by decide), if_neg (show ¬ 4 = 1 by decide), if_neg (show ¬ 4 = 2 by decide), if_neg (show ¬ 4 = 3 by decide), if_pos rfl]
      show (V.1.1, V.1.2.1, (V.1.2.2.1 ++ [q]).dropLast, V.1.2.2.2) = V.1
      rw [List.dropLast_concat]
theorem qOf_at {V : Vt} (W : WFv V) {q : Int32} {x : Qst} (h : qOf V q = some x) : qAt V.1 q V.1.2.2.1.length x ∧ 1 ≤ x.2.1 ∧ x.2.1 ≤ 6 := by
  unfold qOf at h
  by_cases c : q < 0
  · rw [if_pos c] at h; cases h
  · rw [if_neg c] at h
    have hl := (List.getElem?_eq_some_iff.mp h).1
    obtain ⟨j, hj, rfl⟩ := nI_of c
    rw [show ix (nI j) = j from nI_clamp hj] at h hl
    have := W.1.wf.2.2.2.2.2.1 j x h
    exact ⟨⟨j, hl, rfl, h⟩, this.2.1, this.2.2.1⟩
theorem plc_of {v : Int32} {w : Nat} (hw : w ≤ 6) (h : ¬ badP v w) : plc v w := by
  rcases pk_ix v (n := w) (by omega) with e | e | ⟨j, hj, e⟩
  · exact absurd (Or.inl e) h
  · exact absurd (Or.inr e) h
  · exact ⟨j, hj, e⟩
theorem W_bas {V : Vt} (W : WFv V) (t : Int32) : WFv (basV t V).2 := by
  unfold basV
  by_cases c : t < 0
  · rw [if_pos c]; exact W
  · rw [if_neg c]
    cases e : V.1.1[ix t]? with
    | none => exact W
    | some p =>
      obtain ⟨j, hj, rfl⟩ := nI_of c
      rw [show ix (nI j) = j from nI_clamp hj] at e
      obtain ⟨k, k1, k2, rfl⟩ := W.1.wf.2.1 j p e
      have ik : ix (nI k) = k := nI_clamp (by omega)
      refine W_add W ⟨(by decide : 0 < 8), ?_, ?_, fun _ => ⟨rfl, rfl, j, (List.getElem?_eq_some_iff.mp e).1, rfl, ?_⟩, fun z => absurd rfl z⟩
      · show 1 ≤ ix (nI k); omega
      · show ix (nI k) ≤ 6; omega
      · show V.1.1[j]? = some (nI (ix (nI k))); rw [ik]; exact e
theorem W_pic {V : Vt} (W : WFv V) (q pl v : Int32) : WFv (picV q pl v V).2 := by
  unfold picV
  cases e : qOf V q with
  | none => exact W
  | some p =>
    show WFv (if badP pl p.2.1 then _ else _ : Int32 × Vt).2
    by_cases c : badP pl p.2.1
    · rw [if_pos c]; exact W
    · rw [if_neg c]
      obtain ⟨h1, h2, h3⟩ := qOf_at W e
      exact W_add W ⟨(by decide : 1 < 8), h2, h3, fun z => absurd z (show ¬ 1 = 0 by decide), fun _ => ⟨p, h1, fun _ => ⟨rfl, plc_of h3 c⟩, fun z => absurd z (show ¬ 1 = 2 by decide), fun z => absurd z (show ¬ 1 = 3 by decide), fun z => absurd z (show ¬ 1 = 6 by decide), fun _ => ⟨rfl, rfl⟩, fun z => absurd z (show ¬ 1 = 6 by decide), fun z => absurd z (show ¬ (1 = 4 ∨ 1 = 5 ∨ 1 = 7) by decide)⟩⟩
theorem W_lik {V : Vt} (W : WFv V) (q a b : Int32) : WFv (likV q a b V).2 := by
  unfold likV
  cases e : qOf V q with
  | none => exact W
  | some p =>
    show WFv (if badP a p.2.1 ∨ badP b p.2.1 then _ else _ : Int32 × Vt).2
    by_cases c : badP a p.2.1 ∨ badP b p.2.1
    · rw [if_pos c]; exact W
    · rw [if_neg c]
      obtain ⟨h1, h2, h3⟩ := qOf_at W e
      exact W_add W ⟨(by decide : 2 < 8), h2, h3, fun z => absurd z (show ¬ 2 = 0 by decide), fun _ => ⟨p, h1, fun z => absurd z (show ¬ 2 = 1 by decide), fun _ => ⟨rfl, plc_of h3 (fun z => c (Or.inl z)), plc_of h3 (fun z => c (Or.inr z))⟩, fun z => absurd z (show ¬ 2 = 3 by decide), fun z => absurd z (show ¬ 2 = 6 by decide), fun _ => ⟨rfl, rfl⟩, fun z => absurd z (show ¬ 2 = 6 by decide), fun z => absurd z (show ¬ (2 = 4 ∨ 2 = 5 ∨ 2 = 7) by decide)⟩⟩
theorem W_cut {V : Vt} (W : WFv V) (q n a b c d : Int32) : WFv (cutV q n a b c d V).2 := by
  unfold cutV
  cases e : qOf V q with
  | none => exact W
  | some p =>
    show WFv (if n < 1 ∨ 4 < n ∨ badP a p.2.1 ∨ (¬ n ≤ 1 ∧ badP b p.2.1) ∨ (¬ n ≤ 2 ∧ badP c p.2.1) ∨ (¬ n ≤ 3 ∧ badP d p.2.1) then _ else _ : Int32 × Vt).2
    by_cases z : n < 1 ∨ 4 < n ∨ badP a p.2.1 ∨ (¬ n ≤ 1 ∧ badP b p.2.1) ∨ (¬ n ≤ 2 ∧ badP c p.2.1) ∨ (¬ n ≤ 3 ∧ badP d p.2.1)
    · rw [if_pos z]; exact W
    · rw [if_neg z]
      obtain ⟨h1, h2, h3⟩ := qOf_at W e
      have n0 : ¬ n < 0 := fun w => z (Or.inl (i32_lt1.mpr (Int32.le_of_lt w)))
      obtain ⟨m, hm, rfl⟩ := nI_of n0
      have im : ix (nI m) = m := nI_clamp hm
      have m1 : 1 ≤ m := by
        have : ¬ m < 1 := fun w => z (Or.inl ((nI_ltI (b := 1) hm (by decide)).mpr w))
        omega
      have m4 : m ≤ 4 := by
        have : ¬ 4 < m := fun w => z (Or.inr (Or.inl ((nI_ltI (a := 4) (by decide) hm).mpr w)))
        omega
      rw [im]
      refine W_add W ⟨(by decide : 3 < 8), m1, (by omega : m ≤ 6), fun z => absurd z (show ¬ 3 = 0 by decide), fun _ => ⟨p, h1, fun z => absurd z (show ¬ 3 = 1 by decide), fun z => absurd z (show ¬ 3 = 2 by decide), fun _ => ⟨m4, fun k hk => ?_⟩, fun z => absurd z (show ¬ 3 = 6 by decide), fun _ => ⟨rfl, rfl⟩, fun z => absurd z (show ¬ 3 = 6 by decide), fun z => absurd z (show ¬ (3 = 4 ∨ 3 = 5 ∨ 3 = 7) by decide)⟩⟩
      have hk : k < m := hk
      have L : ∀ j : Nat, j < m → ¬ nI m ≤ nI j := fun j hj => nI_ge hj hm
      show plc (fcell a b c d k) p.2.1
      match k, hk with
      | 0, _ => exact plc_of h3 (fun w => z (Or.inr (Or.inr (Or.inl w))))
      | 1, hk => exact plc_of h3 (fun w => z (Or.inr (Or.inr (Or.inr (Or.inl ⟨L 1 hk, w⟩)))))
      | 2, hk => exact plc_of h3 (fun w => z (Or.inr (Or.inr (Or.inr (Or.inr (Or.inl ⟨L 2 hk, w⟩))))))
      | 3, hk => exact plc_of h3 (fun w => z (Or.inr (Or.inr (Or.inr (Or.inr (Or.inr ⟨L 3 hk, w⟩))))))
      | k + 4, hk => omega
theorem W_pai {V : Vt} (W : WFv V) (o1 o2 a b : Int32) : WFv (paiV o1 o2 a b V).2 := by
  unfold paiV
  cases e : qOf V o1 with
  | none => exact W
  | some p =>
    cases e2 : qOf V o2 with
    | none => exact W
    | some r =>
      show WFv (if badP a p.2.1 ∨ badP b r.2.1 then _ else if 6 < p.2.1 + r.2.1 then _ else _ : Int32 × Vt).2
      by_cases c : badP a p.2.1 ∨ badP b r.2.1
      · rw [if_pos c]; exact W
      · rw [if_neg c]
        by_cases d : 6 < p.2.1 + r.2.1
        · rw [if_pos d]; exact W
        · rw [if_neg d]
          obtain ⟨h1, h2, h3⟩ := qOf_at W e
          obtain ⟨g1, g2, g3⟩ := qOf_at W e2
          exact W_add W ⟨(by decide : 4 < 8), (by omega : 1 ≤ p.2.1 + r.2.1), (by omega : p.2.1 + r.2.1 ≤ 6), fun z => absurd z (show ¬ 4 = 0 by decide), fun _ => ⟨p, h1, fun z => absurd z (show ¬ 4 = 1 by decide), fun z => absurd z (show ¬ 4 = 2 by decide), fun z => absurd z (show ¬ 4 = 3 by decide), fun z => absurd z (show ¬ 4 = 6 by decide), fun z => absurd z (show ¬ (4 = 1 ∨ 4 = 2 ∨ 4 = 3) by decide), fun z => absurd z (show ¬ 4 = 6 by decide), fun _ => ⟨r, g1, rfl, fun _ => ⟨rfl, plc_of h3 (fun z => c (Or.inl z)), plc_of g3 (fun z => c (Or.inr z))⟩, fun z => absurd rfl z⟩⟩⟩
theorem W_eit {V : Vt} (W : WFv V) (s : Nat) (hs : s = 5 ∨ s = 7) (o1 o2 : Int32) : WFv (eitV s o1 o2 V).2 := by
  unfold eitV
  cases e : qOf V o1 with
  | none => exact W
  | some p =>
    cases e2 : qOf V o2 with
    | none => exact W
    | some r =>
      show WFv (if p.2.1 = r.2.1 then _ else _ : Int32 × Vt).2
      by_cases c : p.2.1 = r.2.1
      · rw [if_pos c]
        obtain ⟨h1, h2, h3⟩ := qOf_at W e
        obtain ⟨g1, g2, g3⟩ := qOf_at W e2
        exact W_add W ⟨(by omega : s < 8), h2, h3, fun z => absurd (show s = 0 from z) (by omega), fun _ => ⟨p, h1, fun z => absurd (show s = 1 from z) (by omega), fun z => absurd (show s = 2 from z) (by omega), fun z => absurd (show s = 3 from z) (by omega), fun z => absurd (show s = 6 from z) (by omega), fun z => absurd (show s = 1 ∨ s = 2 ∨ s = 3 from z) (by omega), fun z => absurd (show s = 6 from z) (by omega), fun _ => ⟨r, g1, rfl, fun z => absurd (show s = 4 from z) (by omega), fun _ => ⟨rfl, c.symm⟩⟩⟩⟩
      · rw [if_neg c]; exact W
theorem W_clo {V : Vt} (W : WFv V) (q : Int32) : WFv (cloV q V).2 := by
  unfold cloV
  cases e : qOf V q with
  | none => exact W
  | some p =>
    show WFv (if p.2.1 = 2 then _ else _ : Int32 × Vt).2
    by_cases c : p.2.1 = 2
    · rw [if_pos c]
      obtain ⟨h1, h2, h3⟩ := qOf_at W e
      exact W_add W ⟨(by decide : 6 < 8), (by decide : 1 ≤ 2), (by decide : 2 ≤ 6), fun z => absurd z (show ¬ 6 = 0 by decide), fun _ => ⟨p, h1, fun z => absurd z (show ¬ 6 = 1 by decide), fun z => absurd z (show ¬ 6 = 2 by decide), fun z => absurd z (show ¬ 6 = 3 by decide), fun _ => ⟨rfl, c⟩, fun z => absurd z (show ¬ (6 = 1 ∨ 6 = 2 ∨ 6 = 3) by decide), fun _ => ⟨rfl, rfl⟩, fun z => absurd z (show ¬ (6 = 4 ∨ 6 = 5 ∨ 6 = 7) by decide)⟩⟩
    · rw [if_neg c]; exact W
theorem W_lad {V : Vt} (W : WFv V) {k : Nat} (hk : k < 20) {t : Thg} (ht : TOK t) : WFv (ladV k t V).2 := by
  obtain ⟨w1, w2, w3, w4, w5, w6, w7⟩ := W.1.wf
  refine W_ac W ⟨w1, w2, w3, w4, w5, fun i q hq => (w6 i q hq).up (fun _ _ h => h) (Nat.le_refl _) (fun _ _ h => h), fun j hj => ?_⟩ ⟨(by decide : 5 < 6), fun z => absurd z (show ¬ 5 = 0 by decide), fun z => absurd z (show ¬ 5 = 1 by decide), fun z => absurd z (show ¬ 5 = 2 by decide), fun z => absurd z (show ¬ 5 = 3 by decide), fun z => absurd z (show ¬ 5 = 4 by decide), fun _ => ⟨hk, w7 k hk⟩⟩ ?_ (Nat.le_refl _)
  · show TOK (upF V.1.2.2.2 k t j)
    unfold upF
    by_cases e : j = k
    · rw [if_pos e]; exact ht
    · rw [if_neg e]; exact w7 j hj
  · unfold undoV
    rw [if_neg (show ¬ 5 = 0 by decide), if_neg (show ¬ 5 = 1 by decide), if_neg (show ¬ 5 = 2 by decide), if_neg (show ¬ 5 = 3 by decide), if_neg (show ¬ 5 = 4 by decide)]
    show (V.1.1, V.1.2.1, V.1.2.2.1, upF (upF V.1.2.2.2 k t) k (V.1.2.2.2 k)) = V.1
    have : upF (upF V.1.2.2.2 k t) k (V.1.2.2.2 k) = V.1.2.2.2 := by
      funext j
      unfold upF
      by_cases e : j = k
      · rw [if_pos e, e]
      · rw [if_neg e, if_neg e]
    rw [this]
theorem badS_n {k : Int32} (h : ¬ badS k) : ix k < 20 := by
  rcases pk_ix k (n := 20) (by decide) with e | e | ⟨j, hj, e⟩
  · exact absurd (Or.inl e) h
  · exact absurd (Or.inr e) h
  · rw [e, show ix (nI j) = j from nI_clamp (by omega)]; exact hj
theorem TOK_th {V : Vt} (W : WFv V) {s : Nat} (hs : s < 5) {n : Int32} {t : Thg} (h : thV s n V = some t) : TOK t := by
  unfold thV at h
  by_cases c0 : s = 0
  · rw [if_pos c0] at h; cases h
    exact ⟨(by decide : 0 < 5), fun _ => rfl, fun z => absurd z (show ¬ (0 = 1 ∨ 0 = 2) by decide), fun z => absurd z (show ¬ 0 = 3 by decide), fun z => absurd z (show ¬ 0 = 4 by decide)⟩
  · rw [if_neg c0] at h
    by_cases c1 : s = 1
    · rw [if_pos c1] at h
      cases e : fOf V n with
      | none => rw [e] at h; cases h
      | some x => rw [e] at h; cases h; exact ⟨(by decide : 1 < 5), fun z => absurd z (show ¬ 1 = 0 by decide), fun _ => ⟨n, rfl⟩, fun z => absurd z (show ¬ 1 = 3 by decide), fun z => absurd z (show ¬ 1 = 4 by decide)⟩
    · rw [if_neg c1] at h
      by_cases c2 : s = 2
      · rw [if_pos c2] at h
        cases e : qOf V n with
        | none => rw [e] at h; cases h
        | some x => rw [e] at h; cases h; exact ⟨(by decide : 2 < 5), fun z => absurd z (show ¬ 2 = 0 by decide), fun _ => ⟨n, rfl⟩, fun z => absurd z (show ¬ 2 = 3 by decide), fun z => absurd z (show ¬ 2 = 4 by decide)⟩
      · rw [if_neg c2] at h
        by_cases c3 : s = 3
        · rw [if_pos c3] at h
          cases e : aOf V n with
          | none => rw [e] at h; cases h
          | some x =>
            rw [e] at h; cases h
            have hm := W.2.2.2.2.2 x (aOf_mem e)
            refine ⟨(by decide : 3 < 5), fun z => absurd z (show ¬ 3 = 0 by decide), fun z => absurd z (show ¬ (3 = 1 ∨ 3 = 2) by decide), fun _ => ⟨?_, fun v hv => ?_⟩, fun z => absurd z (show ¬ 3 = 4 by decide)⟩
            · show (x.1.map Int32.toInt64).length ≤ 6; rw [List.length_map, hm.1]; exact W.2.2.2.1
            · have hv : v ∈ x.1.map Int32.toInt64 := hv
              obtain ⟨u, -, e⟩ := List.mem_map.mp hv
              exact ⟨u, e.symm⟩
        · rw [if_neg c3] at h
          cases e : aOf V n with
          | none => rw [e] at h; cases h
          | some x =>
            rw [e] at h; cases h
            have hm := W.2.2.2.2.2 x (aOf_mem e)
            exact ⟨(by decide : 4 < 5), fun z => absurd z (show ¬ 4 = 0 by decide), fun z => absurd z (show ¬ (4 = 1 ∨ 4 = 2) by decide), fun z => absurd z (show ¬ 4 = 3 by decide), fun _ => hm.2.1⟩
theorem W_lay {V : Vt} (W : WFv V) (k s n : Int32) : WFv (layV k s n V).2 := by
  unfold layV
  by_cases c : badS k
  · rw [if_pos c]; exact W
  · rw [if_neg c]
    by_cases d : s < 0 ∨ ¬ s ≤ 4
    · rw [if_pos d]; exact W
    · rw [if_neg d]
      have s0 : ¬ s < 0 := fun z => d (Or.inl z)
      obtain ⟨m, hm, rfl⟩ := nI_of s0
      have m4 : m ≤ 4 := (nI_leI (b := 4) hm (by decide)).mp (Classical.byContradiction (fun z => d (Or.inr z)))
      rw [show ix (nI m) = m from nI_clamp hm]
      cases e : thV m n V with
      | none => exact W
      | some t => exact W_lad W (badS_n c) (TOK_th W (by omega) e)
theorem W_lie {V : Vt} (W : WFv V) (k : Int32) : WFv (lieV k V).2 := by
  unfold lieV
  by_cases c : badS k
  · rw [if_pos c]; exact W
  · rw [if_neg c]; exact W
theorem W_tak {V : Vt} (W : WFv V) (k s i : Int32) : WFv (takV k s i V).2 := by
  unfold takV
  split
  · exact W
  · split
    · exact W
    · split
      · exact W
      · split
        · exact W
        · split <;> exact W
theorem W_cop {V : Vt} (W : WFv V) (j i k m n : Int32) : WFv (copV j i k m n V).2 := by
  unfold copV
  by_cases c : badS j ∨ badS k
  · rw [if_pos c]; exact W
  · rw [if_neg c]
    by_cases d : (V.1.2.2.2 (ix j)).1 ≠ 3 ∨ (V.1.2.2.2 (ix k)).1 ≠ 3
    · rw [if_pos d]; exact W
    · rw [if_neg d]
      by_cases e : i < 0 ∨ m < 0 ∨ n < 0 ∨ (V.1.2.2.2 (ix j)).2.length < ix i + ix n ∨ (V.1.2.2.2 (ix k)).2.length < ix m + ix n
      · rw [if_pos e]; exact W
      · rw [if_neg e]
        have hj := badS_n (fun z => c (Or.inl z))
        have hk := badS_n (fun z => c (Or.inr z))
        have t1 := W.1.wf.2.2.2.2.2.2 (ix j) hj
        have t2 := W.1.wf.2.2.2.2.2.2 (ix k) hk
        have e1 : (V.1.2.2.2 (ix j)).1 = 3 := Classical.byContradiction (fun z => d (Or.inl z))
        have e2 : (V.1.2.2.2 (ix k)).1 = 3 := Classical.byContradiction (fun z => d (Or.inr z))
        have q1 : ix i + ix n ≤ (V.1.2.2.2 (ix j)).2.length := Nat.le_of_not_lt (fun z => e (Or.inr (Or.inr (Or.inr (Or.inl z)))))
        have q2 : ix m + ix n ≤ (V.1.2.2.2 (ix k)).2.length := Nat.le_of_not_lt (fun z => e (Or.inr (Or.inr (Or.inr (Or.inr z)))))
        refine W_lad W hk ⟨(by decide : 3 < 5), fun z => absurd z (show ¬ 3 = 0 by decide), fun z => absurd z (show ¬ (3 = 1 ∨ 3 = 2) by decide), fun _ => ⟨?_, fun v hv => ?_⟩, fun z => absurd z (show ¬ 3 = 4 by decide)⟩
        · show (cpL _ _ _ _ _).length ≤ 6; rw [cpL_len q1 q2]; exact (t2.2.2.2.1 e2).1
        · have hv : v ∈ cpL (V.1.2.2.2 (ix j)).2 (V.1.2.2.2 (ix k)).2 (ix i) (ix m) (ix n) := hv
          obtain ⟨u, hu⟩ := List.mem_iff_getElem?.mp hv
          rw [cpL_get q1 q2] at hu
          by_cases c2 : ix m ≤ u ∧ u < ix m + ix n
          · rw [if_pos c2] at hu; exact (t1.2.2.2.1 e1).2 v (List.mem_of_getElem? hu)
          · rw [if_neg c2] at hu; exact (t2.2.2.2.1 e2).2 v (List.mem_of_getElem? hu)
theorem W_cou {V : Vt} (W : WFv V) (i : Int32) : WFv (couV i V).2 := by
  unfold couV
  split
  · exact W
  · split <;> exact W
theorem W_cos {V : Vt} (W : WFv V) (i : Int32) : WFv (cosV i V).2 := by unfold cosV; split <;> exact W
theorem W_tru {V : Vt} (W : WFv V) (i : Int32) : WFv (truV i V).2 := by unfold truV; split <;> exact W
theorem W_wit {V : Vt} (W : WFv V) (i : Int32) (X : Int64) : WFv (witV i X V).2 := by unfold witV; split <;> exact W
theorem W_sta {V : Vt} (W : WFv V) (i : Int32) : WFv (staV i V).2 := by unfold staV; split <;> exact W
theorem W_und {V : Vt} (W : WFv V) : WFv (undV V).2 := by
  unfold undV
  have hl := W.2.1
  have vd := W.1
  cases e : V.2.1 with
  | nil => exact W
  | cons A r =>
    rw [e] at hl vd
    rw [List.length_cons] at hl
    obtain ⟨wf, aok, vd'⟩ := vd
    refine ⟨vd', (by omega : r.length ≤ 100), ?_⟩
    show laOK (undoV A V.1, r, (if A.1 = 0 ∨ A.1 = 1 then [] else V.2.2.1.1, V.2.2.1.2), V.2.2.2)
    by_cases c : A.1 = 0 ∨ A.1 = 1
    · rw [if_pos c]
      exact ⟨Nat.zero_le _, W.2.2.2.1, List.Pairwise.nil, fun a ha => absurd ha List.not_mem_nil⟩
    · rw [if_neg c]
      have el : (undoV A V.1).2.1.length = V.1.2.1.length := by
        unfold undoV
        rw [if_neg (fun z => c (Or.inl z)), if_neg (fun z => c (Or.inr z))]
        split
        · split
          · rfl
          · show (V.1.2.1.set _ _).length = _; rw [List.length_set]
        · split
          · split
            · rfl
            · show (V.1.2.1.set _ _).length = _; rw [List.length_set]
          · split <;> rfl
      refine ⟨W.2.2.1, W.2.2.2.1, W.2.2.2.2.1, fun a ha => ?_⟩
      obtain ⟨h1, h2, h3, h4, h5, h6, h7⟩ := W.2.2.2.2.2 a ha
      exact ⟨h1, h2, h3, h4, h5, fun w hw i hi => h6 w hw i (by rw [← el]; exact hi), h7⟩
