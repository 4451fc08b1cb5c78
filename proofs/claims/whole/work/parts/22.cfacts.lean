section K4
variable {ad : Ad} {ct : Ct} {σ : St}
theorem sX6_mark (h : Sh ad ct σ) {i : Nat} (hi : i < 64) (v : Int32) {Q : St → Prop} (hQ : ∀ d, (∀ j, j < 64 → bt d j = if j = i then decide (v ≠ 0) else bt (zFj σ 389 (ad 7 0 0)) j) → Q (uFj σ 389 (ad 7 0 0) d)) : wX6_markDropped (ad 7 0 0) (nI i) v σ Q := by
  unfold wX6_markDropped wX6_markDropped_0
  refine ⟨fun c => ⟨k7 h, hQ _ (fun j hj => ?_)⟩, fun c => ⟨k7 h, hQ _ (fun j hj => ?_)⟩⟩
  · rw [bt_and, bt_not _ hj, bt_sh1 hi]
    by_cases e : j = i
    · simp [e, c]
    · simp [e]
  · rw [bt_or, bt_sh1 hi]
    by_cases e : j = i
    · simp [e, c]
    · simp [e]
theorem set_get {α : Type} {l : List α} {i j : Nat} {a b x : α} (hx : l[i]? = some x) (h : (l.set i a)[j]? = some b) : (j = i ∧ b = a) ∨ (j ≠ i ∧ l[j]? = some b) := by
  rw [List.getElem?_set] at h
  by_cases e : i = j
  · rw [if_pos e, if_pos (List.getElem?_eq_some_iff.mp hx).1] at h
    cases h
    exact Or.inl ⟨e.symm, rfl⟩
  · rw [if_neg e] at h
    exact Or.inr ⟨Ne.symm e, h⟩
theorem app_get {α : Type} {l : List α} {a b : α} {j : Nat} (h : (l ++ [a])[j]? = some b) : (j = l.length ∧ b = a) ∨ (j < l.length ∧ l[j]? = some b) := by
  have hj := (List.getElem?_eq_some_iff.mp h).1
  rw [List.length_append, List.length_singleton] at hj
  by_cases c : j < l.length
  · rw [List.getElem?_append_left c] at h
    exact Or.inr ⟨c, h⟩
  · rw [List.getElem?_append_right (by omega), show j - l.length = 0 by omega] at h
    cases h
    exact Or.inl ⟨by omega, rfl⟩
theorem C_mark {V : Vt} (h : Sh ad ct σ) (R : RC ad ct σ V) (hl : V.1.2.1.length ≤ 60) {i : Nat} {x : Fct} (hx : V.1.2.1[i]? = some x) (v : Int32) {Q : St → Prop} (hQ : ∀ σ', Fr ct SC σ σ' → RC ad ct σ' (setF V.1 i (x.1, x.2.1, x.2.2.1, decide (v ≠ 0)), V.2) → Q σ') : wX6_markDropped (ad 7 0 0) (nI i) v σ Q := by
  obtain ⟨h1, ⟨f1, f2⟩, h3, h4, h5, h6, h7, h8⟩ := R
  have hi := (List.getElem?_eq_some_iff.mp hx).1
  refine sX6_mark h (by omega) v (fun d hd => ?_)
  generalize hρ : uFj σ 389 (ad 7 0 0) d = ρ
  have f : Fr ct (fun p => p = (7, 0)) σ ρ := by rw [← hρ]; exact Fr.rf.uFj _ _ _ (Or.inl (c7 h))
  have e7 : ∀ g, zFi ρ g (ad 7 0 0) = zFi σ g (ad 7 0 0) := fun g => by rw [← hρ]; simp only [yK_uFi, yL_uFi, yFj_uFi, yFr_uFi, yAi_uFi, yAj_uFi, yAd_uFi, yAr_uFi, yFi_uFi, yK_uFj, yL_uFj, yFi_uFj, yFr_uFj, yAi_uFj, yAj_uFj, yAd_uFj, yAr_uFj, yFj_uFj, yK_uFr, yL_uFr, yFi_uFr, yFj_uFr, yAi_uFr, yAj_uFr, yAd_uFr, yAr_uFr, yFr_uFr, yK_uAi, yL_uAi, yFi_uAi, yFj_uAi, yFr_uAi, yAj_uAi, yAd_uAi, yAr_uAi, yAi_uAi, yK_uAj, yL_uAj, yFi_uAj, yFj_uAj, yFr_uAj, yAi_uAj, yAd_uAj, yAr_uAj, yAj_uAj, yK_uAd, yL_uAd, yFi_uAd, yFj_uAd, yFr_uAd, yAi_uAd, yAj_uAd, yAr_uAd, yAd_uAd, yK_uAr, yL_uAr, yFi_uAr, yFj_uAr, yFr_uAr, yAi_uAr, yAj_uAr, yAd_uAr, yAr_uAr, yK_uCi, yL_uCi, yFi_uCi, yFj_uCi, yFr_uCi, yAj_uCi, yAd_uCi, yAr_uCi, yK_uCj, yL_uCj, yFi_uCj, yFj_uCj, yFr_uCj, yAi_uCj, yAd_uCj, yAr_uCj, yK_uCx, yL_uCx, yFi_uCx, yFj_uCx, yFr_uCx, yAi_uCx, yAd_uCx, yAr_uCx, yK_nO, yL_nO, yFi_nO, yFj_nO, yFr_nO, yAi_nO, yAj_nO, yAd_nO, yAr_nO, yK_nA, yL_nA, yFi_nA, yFj_nA, yFr_nA, yAi_nA, yAj_nA, yAd_nA, yAr_nA, yK_nC, yL_nC, yFi_nC, yFj_nC, yFr_nC, yAi_nC, yAj_nC, yAd_nC, yAr_nC, yu2, yAi_uCi', yAj_uCj', yAj_uCx']
  have ed : zFj ρ 389 (ad 7 0 0) = d := by rw [← hρ]; simp only [yK_uFi, yL_uFi, yFj_uFi, yFr_uFi, yAi_uFi, yAj_uFi, yAd_uFi, yAr_uFi, yFi_uFi, yK_uFj, yL_uFj, yFi_uFj, yFr_uFj, yAi_uFj, yAj_uFj, yAd_uFj, yAr_uFj, yFj_uFj, yK_uFr, yL_uFr, yFi_uFr, yFj_uFr, yAi_uFr, yAj_uFr, yAd_uFr, yAr_uFr, yFr_uFr, yK_uAi, yL_uAi, yFi_uAi, yFj_uAi, yFr_uAi, yAj_uAi, yAd_uAi, yAr_uAi, yAi_uAi, yK_uAj, yL_uAj, yFi_uAj, yFj_uAj, yFr_uAj, yAi_uAj, yAd_uAj, yAr_uAj, yAj_uAj, yK_uAd, yL_uAd, yFi_uAd, yFj_uAd, yFr_uAd, yAi_uAd, yAj_uAd, yAr_uAd, yAd_uAd, yK_uAr, yL_uAr, yFi_uAr, yFj_uAr, yFr_uAr, yAi_uAr, yAj_uAr, yAd_uAr, yAr_uAr, yK_uCi, yL_uCi, yFi_uCi, yFj_uCi, yFr_uCi, yAj_uCi, yAd_uCi, yAr_uCi, yK_uCj, yL_uCj, yFi_uCj, yFj_uCj, yFr_uCj, yAi_uCj, yAd_uCj, yAr_uCj, yK_uCx, yL_uCx, yFi_uCx, yFj_uCx, yFr_uCx, yAi_uCx, yAd_uCx, yAr_uCx, yK_nO, yL_nO, yFi_nO, yFj_nO, yFr_nO, yAi_nO, yAj_nO, yAd_nO, yAr_nO, yK_nA, yL_nA, yFi_nA, yFj_nA, yFr_nA, yAi_nA, yAj_nA, yAd_nA, yAr_nA, yK_nC, yL_nC, yFi_nC, yFj_nC, yFr_nC, yAi_nC, yAj_nC, yAd_nC, yAr_nC, yu2, yAi_uCi', yAj_uCj', yAj_uCx', Option.some.injEq, exists_eq_left', true_and, and_true, not_false_eq_true, forall_const, false_and, and_false, reduceIte, Nat.reduceEqDiff, ne_eq]
  have e12 : ∀ g, zFi ρ g (ad 12 0 0) = zFi σ g (ad 12 0 0) := fun g => f.fi (k12 h) (by decide) (c12 h) (by decide) g
  refine hQ ρ (f.mono (fun p q => by rw [q]; decide)) ⟨h1.cg h f (by decide) (e7 _), ⟨?_, ?_⟩, h3.cg h f (by decide) (by decide) (e12 _), h4.cg h f (by decide) (by decide), h5.cg h f (by decide) (by decide) (by decide), h6.cg h f (by decide) (by decide) (by decide) (by decide) (by decide) (e12 _), (e12 _).trans h7, h8.cg h f (fun _ _ => by simp)⟩
  · rw [e7, f1]; exact congrArg nI (by show _ = (V.1.2.1.set i _).length; rw [List.length_set])
  · intro j y hy
    have key : ∀ y, V.1.2.1[j]? = some y → zAi ρ (ad 386 0 0) j = y.1 ∧ (∀ k, k < 4 → zAi ρ (ad 387 0 0) (4 * j + k) = y.2.1 k) ∧ (∀ k, k < 4 → zAj ρ (ad 388 0 0) (4 * j + k) = y.2.2.1 k) ∧ bt (zFj σ 389 (ad 7 0 0)) j = y.2.2.2 := fun y q => by
      obtain ⟨g1, g2, g3, g4⟩ := f2 j y q
      exact ⟨(f.ai (k386 h) (by decide) (c386 h) (by decide) j).trans g1, fun k hk => (f.ai (k387 h) (by decide) (c387 h) (by decide) _).trans (g2 k hk), fun k hk => (f.aj (k388 h) (by decide) (c388 h) (by decide) _).trans (g3 k hk), g4⟩
    rcases set_get hx hy with ⟨rfl, rfl⟩ | ⟨n, e⟩
    · obtain ⟨g1, g2, g3, g4⟩ := key _ hx
      exact ⟨g1, g2, g3, by rw [ed, hd _ (by omega), if_pos rfl]⟩
    · obtain ⟨g1, g2, g3, g4⟩ := key _ e
      have := (List.getElem?_eq_some_iff.mp e).1
      exact ⟨g1, g2, g3, by rw [ed, hd _ (by omega), if_neg n]; exact g4⟩
theorem C_weigh {V : Vt} (h : Sh ad ct σ) (R : RC ad ct σ V) (hl : V.1.2.1.length ≤ 60) {i k : Nat} {x : Fct} (hx : V.1.2.1[i]? = some x) (hk : k < 4) (v : Int64) {Q : St → Prop} (hQ : ∀ σ', Fr ct SC σ σ' → RC ad ct σ' (setF V.1 i (x.1, x.2.1, upF x.2.2.1 k v, x.2.2.2), V.2) → Q σ') : wX6_weigh (ad 7 0 0) (nI i) (nI k) v σ Q := by
  obtain ⟨h1, ⟨f1, f2⟩, h3, h4, h5, h6, h7, h8⟩ := R
  have hi := (List.getElem?_eq_some_iff.mp hx).1
  have e4 : nI i * 4 + nI k = nI (4 * i + k) := by rw [show (4 : Int32) = nI 4 from rfl, pk_mul, nI_add, Nat.mul_comm]
  have e5 : ix (nI (4 * i + k)) = 4 * i + k := nI_clamp (by omega)
  unfold wX6_weigh wX6_weigh_0
  rw [e4, e5]
  refine ⟨k7 h, _, p388 h, k388 h, by rw [l388 h]; exact vp_in_nI (by omega) (by decide), ?_⟩
  generalize hρ : uAj σ (ad 388 0 0) (4 * i + k) v = ρ
  have f : Fr ct (fun p => p = (388, 0)) σ ρ := by rw [← hρ]; exact Fr.rf.uAj _ _ _ (Or.inl (c388 h))
  have e7 : ∀ g, zFi ρ g (ad 7 0 0) = zFi σ g (ad 7 0 0) := fun g => f.fi (k7 h) (by decide) (c7 h) (by decide) g
  have e7j : ∀ g, zFj ρ g (ad 7 0 0) = zFj σ g (ad 7 0 0) := fun g => f.fj (k7 h) (by decide) (c7 h) (by decide) g
  have ew : ∀ m, zAj ρ (ad 388 0 0) m = if m = 4 * i + k then v else zAj σ (ad 388 0 0) m := fun m => by rw [← hρ]; simp only [yK_uFi, yL_uFi, yFj_uFi, yFr_uFi, yAi_uFi, yAj_uFi, yAd_uFi, yAr_uFi, yFi_uFi, yK_uFj, yL_uFj, yFi_uFj, yFr_uFj, yAi_uFj, yAj_uFj, yAd_uFj, yAr_uFj, yFj_uFj, yK_uFr, yL_uFr, yFi_uFr, yFj_uFr, yAi_uFr, yAj_uFr, yAd_uFr, yAr_uFr, yFr_uFr, yK_uAi, yL_uAi, yFi_uAi, yFj_uAi, yFr_uAi, yAj_uAi, yAd_uAi, yAr_uAi, yAi_uAi, yK_uAj, yL_uAj, yFi_uAj, yFj_uAj, yFr_uAj, yAi_uAj, yAd_uAj, yAr_uAj, yAj_uAj, yK_uAd, yL_uAd, yFi_uAd, yFj_uAd, yFr_uAd, yAi_uAd, yAj_uAd, yAr_uAd, yAd_uAd, yK_uAr, yL_uAr, yFi_uAr, yFj_uAr, yFr_uAr, yAi_uAr, yAj_uAr, yAd_uAr, yAr_uAr, yK_uCi, yL_uCi, yFi_uCi, yFj_uCi, yFr_uCi, yAj_uCi, yAd_uCi, yAr_uCi, yK_uCj, yL_uCj, yFi_uCj, yFj_uCj, yFr_uCj, yAi_uCj, yAd_uCj, yAr_uCj, yK_uCx, yL_uCx, yFi_uCx, yFj_uCx, yFr_uCx, yAi_uCx, yAd_uCx, yAr_uCx, yK_nO, yL_nO, yFi_nO, yFj_nO, yFr_nO, yAi_nO, yAj_nO, yAd_nO, yAr_nO, yK_nA, yL_nA, yFi_nA, yFj_nA, yFr_nA, yAi_nA, yAj_nA, yAd_nA, yAr_nA, yK_nC, yL_nC, yFi_nC, yFj_nC, yFr_nC, yAi_nC, yAj_nC, yAd_nC, yAr_nC, yu2, yAi_uCi', yAj_uCj', yAj_uCx', Option.some.injEq, exists_eq_left', true_and, and_true, not_false_eq_true, forall_const, false_and, and_false, reduceIte, Nat.reduceEqDiff, ne_eq]
  have e12 : ∀ g, zFi ρ g (ad 12 0 0) = zFi σ g (ad 12 0 0) := fun g => f.fi (k12 h) (by decide) (c12 h) (by decide) g
  refine hQ ρ (f.mono (fun p q => by rw [q]; decide)) ⟨h1.cg h f (by decide) (e7 _), ⟨?_, ?_⟩, h3.cg h f (by decide) (by decide) (e12 _), h4.cg h f (by decide) (by decide), h5.cg h f (by decide) (by decide) (by decide), h6.cg h f (by decide) (by decide) (by decide) (by decide) (by decide) (e12 _), (e12 _).trans h7, h8.cg h f (fun _ _ => by simp)⟩
  · rw [e7, f1]; exact congrArg nI (by show _ = (V.1.2.1.set i _).length; rw [List.length_set])
  · intro j y hy
    have key : ∀ y, V.1.2.1[j]? = some y → zAi ρ (ad 386 0 0) j = y.1 ∧ (∀ k, k < 4 → zAi ρ (ad 387 0 0) (4 * j + k) = y.2.1 k) ∧ (∀ k, k < 4 → zAj σ (ad 388 0 0) (4 * j + k) = y.2.2.1 k) ∧ bt (zFj ρ 389 (ad 7 0 0)) j = y.2.2.2 := fun y q => by
      obtain ⟨g1, g2, g3, g4⟩ := f2 j y q
      exact ⟨(f.ai (k386 h) (by decide) (c386 h) (by decide) j).trans g1, fun k hk => (f.ai (k387 h) (by decide) (c387 h) (by decide) _).trans (g2 k hk), g3, by rw [e7j]; exact g4⟩
    rcases set_get hx hy with ⟨rfl, rfl⟩ | ⟨n, e⟩
    · obtain ⟨g1, g2, g3, g4⟩ := key _ hx
      refine ⟨g1, g2, fun k2 hk2 => ?_, g4⟩
      rw [ew]
      show _ = upF x.2.2.1 k v k2
      unfold upF
      by_cases c : k2 = k
      · rw [if_pos (by omega), if_pos c]
      · rw [if_neg (by omega), if_neg c]; exact g3 k2 hk2
    · obtain ⟨g1, g2, g3, g4⟩ := key _ e
      exact ⟨g1, g2, fun k2 hk2 => by rw [ew, if_neg (by omega)]; exact g3 k2 hk2, g4⟩
theorem fwL_w (k : Nat) (hk : k < 4) : fwL k = fwei k := by
  match k, hk with
  | 0, _ => rfl
  | 1, _ => rfl
  | 2, _ => rfl
  | 3, _ => rfl
theorem mwL_w (k : Nat) (hk : k < 4) : mwL k = mwei k := by
  match k, hk with
  | 0, _ => rfl
  | 1, _ => rfl
  | 2, _ => rfl
  | 3, _ => rfl
set_option maxHeartbeats 1000000 in
theorem C_newFact {V : Vt} (h : Sh ad ct σ) (R : RC ad ct σ V) (hl : V.1.2.1.length < 60) (t a b c d : Int32) {Q : Int32 → St → Prop} (hQ : ∀ σ', Fr ct SC σ σ' → RC ad ct σ' ((V.1.1, V.1.2.1 ++ [(t, fcell a b c d, fwei, false)], V.1.2.2), V.2) → Q (nI V.1.2.1.length) σ') : wX6_newFact (ad 7 0 0) t a b c d σ Q := by
  obtain ⟨h1, ⟨f1, f2⟩, h3, h4, h5, h6, h7, h8⟩ := R
  generalize hn : V.1.2.1.length = n at hl f1 hQ
  have e0 : nI n * 4 = nI (4 * n) := by rw [show (4 : Int32) = nI 4 from rfl, pk_mul, Nat.mul_comm]
  have e1 : nI (4 * n) + 1 = nI (4 * n + 1) := nI_add _ 1
  have e2 : nI (4 * n) + 2 = nI (4 * n + 2) := nI_add _ 2
  have e3 : nI (4 * n) + 3 = nI (4 * n + 3) := nI_add _ 3
  have i : ix (nI n) = n := nI_clamp (by omega)
  have i0 : ix (nI (4 * n)) = 4 * n := nI_clamp (by omega)
  have i1 : ix (nI (4 * n + 1)) = 4 * n + 1 := nI_clamp (by omega)
  have i2 : ix (nI (4 * n + 2)) = 4 * n + 2 := nI_clamp (by omega)
  have i3 : ix (nI (4 * n + 3)) = 4 * n + 3 := nI_clamp (by omega)
  have iz : ix 0 = 0 := by decide
  have i4 : ix 4 = 4 := by decide
  unfold wX6_newFact wX6_newFact_0
  rw [f1, e0, e1, e2, e3, i, i0, i1, i2, i3, iz, i4]
  refine ⟨k7 h, _, p386 h, k386 h, by rw [l386 h]; exact vp_in_nI hl (by decide), _, p387 h, k387 h, by rw [l387 h]; exact vp_in_nI (by omega) (by decide), by rw [l387 h]; exact vp_in_nI (by omega) (by decide), by rw [l387 h]; exact vp_in_nI (by omega) (by decide), by rw [l387 h]; exact vp_in_nI (by omega) (by decide), _, p388 h, k388 h, by decide, nI_pos (by omega), by decide, by decide, by rw [l388 h]; omega, ?_⟩
  generalize hτ : uCx (uAi (uAi (uAi (uAi (uAi (uFi σ 390 (ad 7 0 0) (nI n + 1)) (ad 386 0 0) n t) (ad 387 0 0) (4 * n) a) (ad 387 0 0) (4 * n + 1) b) (ad 387 0 0) (4 * n + 2) c) (ad 387 0 0) (4 * n + 3) d) fwL 0 (ad 388 0 0) (4 * n) 4 = τ
  have fτ : Fr ct (fun p => p = (7, 0) ∨ p = (386, 0) ∨ p = (387, 0) ∨ p = (388, 0)) σ τ := by
    rw [← hτ]
    exact ((((((Fr.rf.uFi _ _ _ (Or.inl (Or.inl (c7 h)))).uAi _ _ _ (Or.inl (Or.inr (Or.inl (c386 h))))).uAi _ _ _ (Or.inl (Or.inr (Or.inr (Or.inl (c387 h)))))).uAi _ _ _ (Or.inl (Or.inr (Or.inr (Or.inl (c387 h)))))).uAi _ _ _ (Or.inl (Or.inr (Or.inr (Or.inl (c387 h)))))).uAi _ _ _ (Or.inl (Or.inr (Or.inr (Or.inl (c387 h)))))).uCx _ _ _ _ _ (Or.inl (Or.inr (Or.inr (Or.inr (c388 h)))))
  have hsτ : Sh ad ct τ := h.fr fτ (by decide) (by decide) (by decide)
  have n1 : ad 386 0 0 ≠ ad 387 0 0 := adne (c386 h) (c387 h) (by decide)
  have n2 : ad 387 0 0 ≠ ad 386 0 0 := adne (c387 h) (c386 h) (by decide)
  refine sX6_mark hsτ (by omega) 0 (fun dd hd => ?_)
  generalize hρ : uFj τ 389 (ad 7 0 0) dd = ρ
  have f : Fr ct (fun p => p = (7, 0) ∨ p = (386, 0) ∨ p = (387, 0) ∨ p = (388, 0)) σ ρ := by rw [← hρ]; exact fτ.uFj _ _ _ (Or.inl (Or.inl (c7 h)))
  have e12 : ∀ g, zFi ρ g (ad 12 0 0) = zFi σ g (ad 12 0 0) := fun g => f.fi (k12 h) (by decide) (c12 h) (by decide) g
  have ed : zFj ρ 389 (ad 7 0 0) = dd := by rw [← hρ]; simp only [yK_uFi, yL_uFi, yFj_uFi, yFr_uFi, yAi_uFi, yAj_uFi, yAd_uFi, yAr_uFi, yFi_uFi, yK_uFj, yL_uFj, yFi_uFj, yFr_uFj, yAi_uFj, yAj_uFj, yAd_uFj, yAr_uFj, yFj_uFj, yK_uFr, yL_uFr, yFi_uFr, yFj_uFr, yAi_uFr, yAj_uFr, yAd_uFr, yAr_uFr, yFr_uFr, yK_uAi, yL_uAi, yFi_uAi, yFj_uAi, yFr_uAi, yAj_uAi, yAd_uAi, yAr_uAi, yAi_uAi, yK_uAj, yL_uAj, yFi_uAj, yFj_uAj, yFr_uAj, yAi_uAj, yAd_uAj, yAr_uAj, yAj_uAj, yK_uAd, yL_uAd, yFi_uAd, yFj_uAd, yFr_uAd, yAi_uAd, yAj_uAd, yAr_uAd, yAd_uAd, yK_uAr, yL_uAr, yFi_uAr, yFj_uAr, yFr_uAr, yAi_uAr, yAj_uAr, yAd_uAr, yAr_uAr, yK_uCi, yL_uCi, yFi_uCi, yFj_uCi, yFr_uCi, yAj_uCi, yAd_uCi, yAr_uCi, yK_uCj, yL_uCj, yFi_uCj, yFj_uCj, yFr_uCj, yAi_uCj, yAd_uCj, yAr_uCj, yK_uCx, yL_uCx, yFi_uCx, yFj_uCx, yFr_uCx, yAi_uCx, yAd_uCx, yAr_uCx, yK_nO, yL_nO, yFi_nO, yFj_nO, yFr_nO, yAi_nO, yAj_nO, yAd_nO, yAr_nO, yK_nA, yL_nA, yFi_nA, yFj_nA, yFr_nA, yAi_nA, yAj_nA, yAd_nA, yAr_nA, yK_nC, yL_nC, yFi_nC, yFj_nC, yFr_nC, yAi_nC, yAj_nC, yAd_nC, yAr_nC, yu2, yAi_uCi', yAj_uCj', yAj_uCx', Option.some.injEq, exists_eq_left', true_and, and_true, not_false_eq_true, forall_const, false_and, and_false, reduceIte, Nat.reduceEqDiff, ne_eq]
  have eo : zFj τ 389 (ad 7 0 0) = zFj σ 389 (ad 7 0 0) := by rw [← hτ]; simp only [yK_uFi, yL_uFi, yFj_uFi, yFr_uFi, yAi_uFi, yAj_uFi, yAd_uFi, yAr_uFi, yFi_uFi, yK_uFj, yL_uFj, yFi_uFj, yFr_uFj, yAi_uFj, yAj_uFj, yAd_uFj, yAr_uFj, yFj_uFj, yK_uFr, yL_uFr, yFi_uFr, yFj_uFr, yAi_uFr, yAj_uFr, yAd_uFr, yAr_uFr, yFr_uFr, yK_uAi, yL_uAi, yFi_uAi, yFj_uAi, yFr_uAi, yAj_uAi, yAd_uAi, yAr_uAi, yAi_uAi, yK_uAj, yL_uAj, yFi_uAj, yFj_uAj, yFr_uAj, yAi_uAj, yAd_uAj, yAr_uAj, yAj_uAj, yK_uAd, yL_uAd, yFi_uAd, yFj_uAd, yFr_uAd, yAi_uAd, yAj_uAd, yAr_uAd, yAd_uAd, yK_uAr, yL_uAr, yFi_uAr, yFj_uAr, yFr_uAr, yAi_uAr, yAj_uAr, yAd_uAr, yAr_uAr, yK_uCi, yL_uCi, yFi_uCi, yFj_uCi, yFr_uCi, yAj_uCi, yAd_uCi, yAr_uCi, yK_uCj, yL_uCj, yFi_uCj, yFj_uCj, yFr_uCj, yAi_uCj, yAd_uCj, yAr_uCj, yK_uCx, yL_uCx, yFi_uCx, yFj_uCx, yFr_uCx, yAi_uCx, yAd_uCx, yAr_uCx, yK_nO, yL_nO, yFi_nO, yFj_nO, yFr_nO, yAi_nO, yAj_nO, yAd_nO, yAr_nO, yK_nA, yL_nA, yFi_nA, yFj_nA, yFr_nA, yAi_nA, yAj_nA, yAd_nA, yAr_nA, yK_nC, yL_nC, yFi_nC, yFj_nC, yFr_nC, yAi_nC, yAj_nC, yAd_nC, yAr_nC, yu2, yAi_uCi', yAj_uCj', yAj_uCx']
  have ek : zFi ρ 390 (ad 7 0 0) = nI (n + 1) := by rw [← hρ, ← hτ]; simp only [yK_uFi, yL_uFi, yFj_uFi, yFr_uFi, yAi_uFi, yAj_uFi, yAd_uFi, yAr_uFi, yFi_uFi, yK_uFj, yL_uFj, yFi_uFj, yFr_uFj, yAi_uFj, yAj_uFj, yAd_uFj, yAr_uFj, yFj_uFj, yK_uFr, yL_uFr, yFi_uFr, yFj_uFr, yAi_uFr, yAj_uFr, yAd_uFr, yAr_uFr, yFr_uFr, yK_uAi, yL_uAi, yFi_uAi, yFj_uAi, yFr_uAi, yAj_uAi, yAd_uAi, yAr_uAi, yAi_uAi, yK_uAj, yL_uAj, yFi_uAj, yFj_uAj, yFr_uAj, yAi_uAj, yAd_uAj, yAr_uAj, yAj_uAj, yK_uAd, yL_uAd, yFi_uAd, yFj_uAd, yFr_uAd, yAi_uAd, yAj_uAd, yAr_uAd, yAd_uAd, yK_uAr, yL_uAr, yFi_uAr, yFj_uAr, yFr_uAr, yAi_uAr, yAj_uAr, yAd_uAr, yAr_uAr, yK_uCi, yL_uCi, yFi_uCi, yFj_uCi, yFr_uCi, yAj_uCi, yAd_uCi, yAr_uCi, yK_uCj, yL_uCj, yFi_uCj, yFj_uCj, yFr_uCj, yAi_uCj, yAd_uCj, yAr_uCj, yK_uCx, yL_uCx, yFi_uCx, yFj_uCx, yFr_uCx, yAi_uCx, yAd_uCx, yAr_uCx, yK_nO, yL_nO, yFi_nO, yFj_nO, yFr_nO, yAi_nO, yAj_nO, yAd_nO, yAr_nO, yK_nA, yL_nA, yFi_nA, yFj_nA, yFr_nA, yAi_nA, yAj_nA, yAd_nA, yAr_nA, yK_nC, yL_nC, yFi_nC, yFj_nC, yFr_nC, yAi_nC, yAj_nC, yAd_nC, yAr_nC, yu2, yAi_uCi', yAj_uCj', yAj_uCx', Option.some.injEq, exists_eq_left', true_and, and_true, not_false_eq_true, forall_const, false_and, and_false, reduceIte, Nat.reduceEqDiff, ne_eq]; exact nI_1 n
  have et : zFi ρ 385 (ad 7 0 0) = zFi σ 385 (ad 7 0 0) := by rw [← hρ, ← hτ]; simp only [yK_uFi, yL_uFi, yFj_uFi, yFr_uFi, yAi_uFi, yAj_uFi, yAd_uFi, yAr_uFi, yFi_uFi, yK_uFj, yL_uFj, yFi_uFj, yFr_uFj, yAi_uFj, yAj_uFj, yAd_uFj, yAr_uFj, yFj_uFj, yK_uFr, yL_uFr, yFi_uFr, yFj_uFr, yAi_uFr, yAj_uFr, yAd_uFr, yAr_uFr, yFr_uFr, yK_uAi, yL_uAi, yFi_uAi, yFj_uAi, yFr_uAi, yAj_uAi, yAd_uAi, yAr_uAi, yAi_uAi, yK_uAj, yL_uAj, yFi_uAj, yFj_uAj, yFr_uAj, yAi_uAj, yAd_uAj, yAr_uAj, yAj_uAj, yK_uAd, yL_uAd, yFi_uAd, yFj_uAd, yFr_uAd, yAi_uAd, yAj_uAd, yAr_uAd, yAd_uAd, yK_uAr, yL_uAr, yFi_uAr, yFj_uAr, yFr_uAr, yAi_uAr, yAj_uAr, yAd_uAr, yAr_uAr, yK_uCi, yL_uCi, yFi_uCi, yFj_uCi, yFr_uCi, yAj_uCi, yAd_uCi, yAr_uCi, yK_uCj, yL_uCj, yFi_uCj, yFj_uCj, yFr_uCj, yAi_uCj, yAd_uCj, yAr_uCj, yK_uCx, yL_uCx, yFi_uCx, yFj_uCx, yFr_uCx, yAi_uCx, yAd_uCx, yAr_uCx, yK_nO, yL_nO, yFi_nO, yFj_nO, yFr_nO, yAi_nO, yAj_nO, yAd_nO, yAr_nO, yK_nA, yL_nA, yFi_nA, yFj_nA, yFr_nA, yAi_nA, yAj_nA, yAd_nA, yAr_nA, yK_nC, yL_nC, yFi_nC, yFj_nC, yFr_nC, yAi_nC, yAj_nC, yAd_nC, yAr_nC, yu2, yAi_uCi', yAj_uCj', yAj_uCx', Option.some.injEq, exists_eq_left', true_and, and_true, not_false_eq_true, forall_const, false_and, and_false, reduceIte, Nat.reduceEqDiff, ne_eq]
  have eh : ∀ m, zAi ρ (ad 386 0 0) m = if m = n then t else zAi σ (ad 386 0 0) m := fun m => by rw [← hρ, ← hτ]; simp only [yK_uFi, yL_uFi, yFj_uFi, yFr_uFi, yAi_uFi, yAj_uFi, yAd_uFi, yAr_uFi, yFi_uFi, yK_uFj, yL_uFj, yFi_uFj, yFr_uFj, yAi_uFj, yAj_uFj, yAd_uFj, yAr_uFj, yFj_uFj, yK_uFr, yL_uFr, yFi_uFr, yFj_uFr, yAi_uFr, yAj_uFr, yAd_uFr, yAr_uFr, yFr_uFr, yK_uAi, yL_uAi, yFi_uAi, yFj_uAi, yFr_uAi, yAj_uAi, yAd_uAi, yAr_uAi, yAi_uAi, yK_uAj, yL_uAj, yFi_uAj, yFj_uAj, yFr_uAj, yAi_uAj, yAd_uAj, yAr_uAj, yAj_uAj, yK_uAd, yL_uAd, yFi_uAd, yFj_uAd, yFr_uAd, yAi_uAd, yAj_uAd, yAr_uAd, yAd_uAd, yK_uAr, yL_uAr, yFi_uAr, yFj_uAr, yFr_uAr, yAi_uAr, yAj_uAr, yAd_uAr, yAr_uAr, yK_uCi, yL_uCi, yFi_uCi, yFj_uCi, yFr_uCi, yAj_uCi, yAd_uCi, yAr_uCi, yK_uCj, yL_uCj, yFi_uCj, yFj_uCj, yFr_uCj, yAi_uCj, yAd_uCj, yAr_uCj, yK_uCx, yL_uCx, yFi_uCx, yFj_uCx, yFr_uCx, yAi_uCx, yAd_uCx, yAr_uCx, yK_nO, yL_nO, yFi_nO, yFj_nO, yFr_nO, yAi_nO, yAj_nO, yAd_nO, yAr_nO, yK_nA, yL_nA, yFi_nA, yFj_nA, yFr_nA, yAi_nA, yAj_nA, yAd_nA, yAr_nA, yK_nC, yL_nC, yFi_nC, yFj_nC, yFr_nC, yAi_nC, yAj_nC, yAd_nC, yAr_nC, yu2, yAi_uCi', yAj_uCj', yAj_uCx', Option.some.injEq, exists_eq_left', true_and, and_true, not_false_eq_true, forall_const, false_and, and_false, reduceIte, Nat.reduceEqDiff, ne_eq, n1]
  have ec : ∀ m, zAi ρ (ad 387 0 0) m = if m = 4 * n + 3 then d else if m = 4 * n + 2 then c else if m = 4 * n + 1 then b else if m = 4 * n then a else zAi σ (ad 387 0 0) m := fun m => by rw [← hρ, ← hτ]; simp only [yK_uFi, yL_uFi, yFj_uFi, yFr_uFi, yAi_uFi, yAj_uFi, yAd_uFi, yAr_uFi, yFi_uFi, yK_uFj, yL_uFj, yFi_uFj, yFr_uFj, yAi_uFj, yAj_uFj, yAd_uFj, yAr_uFj, yFj_uFj, yK_uFr, yL_uFr, yFi_uFr, yFj_uFr, yAi_uFr, yAj_uFr, yAd_uFr, yAr_uFr, yFr_uFr, yK_uAi, yL_uAi, yFi_uAi, yFj_uAi, yFr_uAi, yAj_uAi, yAd_uAi, yAr_uAi, yAi_uAi, yK_uAj, yL_uAj, yFi_uAj, yFj_uAj, yFr_uAj, yAi_uAj, yAd_uAj, yAr_uAj, yAj_uAj, yK_uAd, yL_uAd, yFi_uAd, yFj_uAd, yFr_uAd, yAi_uAd, yAj_uAd, yAr_uAd, yAd_uAd, yK_uAr, yL_uAr, yFi_uAr, yFj_uAr, yFr_uAr, yAi_uAr, yAj_uAr, yAd_uAr, yAr_uAr, yK_uCi, yL_uCi, yFi_uCi, yFj_uCi, yFr_uCi, yAj_uCi, yAd_uCi, yAr_uCi, yK_uCj, yL_uCj, yFi_uCj, yFj_uCj, yFr_uCj, yAi_uCj, yAd_uCj, yAr_uCj, yK_uCx, yL_uCx, yFi_uCx, yFj_uCx, yFr_uCx, yAi_uCx, yAd_uCx, yAr_uCx, yK_nO, yL_nO, yFi_nO, yFj_nO, yFr_nO, yAi_nO, yAj_nO, yAd_nO, yAr_nO, yK_nA, yL_nA, yFi_nA, yFj_nA, yFr_nA, yAi_nA, yAj_nA, yAd_nA, yAr_nA, yK_nC, yL_nC, yFi_nC, yFj_nC, yFr_nC, yAi_nC, yAj_nC, yAd_nC, yAr_nC, yu2, yAi_uCi', yAj_uCj', yAj_uCx', Option.some.injEq, exists_eq_left', true_and, and_true, not_false_eq_true, forall_const, false_and, and_false, reduceIte, Nat.reduceEqDiff, ne_eq, n2]
  have ew : ∀ m, zAj ρ (ad 388 0 0) m = if 4 * n ≤ m ∧ m < 4 * n + 4 then fwL (0 + (m - 4 * n)) else zAj σ (ad 388 0 0) m := fun m => by rw [← hρ, ← hτ]; simp only [yK_uFi, yL_uFi, yFj_uFi, yFr_uFi, yAi_uFi, yAj_uFi, yAd_uFi, yAr_uFi, yFi_uFi, yK_uFj, yL_uFj, yFi_uFj, yFr_uFj, yAi_uFj, yAj_uFj, yAd_uFj, yAr_uFj, yFj_uFj, yK_uFr, yL_uFr, yFi_uFr, yFj_uFr, yAi_uFr, yAj_uFr, yAd_uFr, yAr_uFr, yFr_uFr, yK_uAi, yL_uAi, yFi_uAi, yFj_uAi, yFr_uAi, yAj_uAi, yAd_uAi, yAr_uAi, yAi_uAi, yK_uAj, yL_uAj, yFi_uAj, yFj_uAj, yFr_uAj, yAi_uAj, yAd_uAj, yAr_uAj, yAj_uAj, yK_uAd, yL_uAd, yFi_uAd, yFj_uAd, yFr_uAd, yAi_uAd, yAj_uAd, yAr_uAd, yAd_uAd, yK_uAr, yL_uAr, yFi_uAr, yFj_uAr, yFr_uAr, yAi_uAr, yAj_uAr, yAd_uAr, yAr_uAr, yK_uCi, yL_uCi, yFi_uCi, yFj_uCi, yFr_uCi, yAj_uCi, yAd_uCi, yAr_uCi, yK_uCj, yL_uCj, yFi_uCj, yFj_uCj, yFr_uCj, yAi_uCj, yAd_uCj, yAr_uCj, yK_uCx, yL_uCx, yFi_uCx, yFj_uCx, yFr_uCx, yAi_uCx, yAd_uCx, yAr_uCx, yK_nO, yL_nO, yFi_nO, yFj_nO, yFr_nO, yAi_nO, yAj_nO, yAd_nO, yAr_nO, yK_nA, yL_nA, yFi_nA, yFj_nA, yFr_nA, yAi_nA, yAj_nA, yAd_nA, yAr_nA, yK_nC, yL_nC, yFi_nC, yFj_nC, yFr_nC, yAi_nC, yAj_nC, yAd_nC, yAr_nC, yu2, yAi_uCi', yAj_uCj', yAj_uCx', Option.some.injEq, exists_eq_left', true_and, and_true, not_false_eq_true, forall_const, false_and, and_false, reduceIte, Nat.reduceEqDiff, ne_eq, va_cpy]
  refine hQ ρ (f.mono (fun p q => by rcases q with rfl | rfl | rfl | rfl <;> decide)) ⟨h1.cg h f (by decide) et, ⟨?_, ?_⟩, h3.cg h f (by decide) (by decide) (e12 _), h4.cg h f (by decide) (by decide), h5.cg h f (by decide) (by decide) (by decide), h6.cg h f (by decide) (by decide) (by decide) (by decide) (by decide) (e12 _), (e12 _).trans h7, h8.cg h f (fun _ _ => by simp)⟩
  · rw [ek, List.length_append, List.length_singleton, hn]
  · intro j y hy
    rcases app_get hy with ⟨rfl, rfl⟩ | ⟨hj, e⟩
    · rw [hn]
      refine ⟨by rw [eh, if_pos rfl], fun k hk => ?_, fun k hk => ?_, ?_⟩
      · rw [ec]
        show _ = fcell a b c d k
        unfold fcell
        match k, hk with
        | 0, _ => rw [if_neg (by omega), if_neg (by omega), if_neg (by omega), if_pos (by omega)]; rfl
        | 1, _ => rw [if_neg (by omega), if_neg (by omega), if_pos (by omega)]; rfl
        | 2, _ => rw [if_neg (by omega), if_pos (by omega)]; rfl
        | 3, _ => rw [if_pos (by omega)]; rfl
      · rw [ew, if_pos (by omega), show 0 + (4 * n + k - 4 * n) = k by omega, fwL_w k hk]
      · rw [ed, hd _ (by omega), if_pos rfl]; rfl
    · obtain ⟨g1, g2, g3, g4⟩ := f2 j y e
      rw [hn] at hj
      refine ⟨by rw [eh, if_neg (by omega)]; exact g1, fun k hk => ?_, fun k hk => ?_, ?_⟩
      · rw [ec, if_neg (by omega), if_neg (by omega), if_neg (by omega), if_neg (by omega)]; exact g2 k hk
      · rw [ew, if_neg (by omega)]; exact g3 k hk
      · rw [ed, hd _ (by omega), if_neg (by omega), eo]; exact g4
theorem C_fact {V : Vt} (h : Sh ad ct σ) (R : RC ad ct σ V) (W : WFv V) (t a b c d : Int32) {Q : Int32 → St → Prop} (hQ : ∀ σ', Fr ct SC σ σ' → RC ad ct σ' (facV t a b c d V).2 → Q (facV t a b c d V).1 σ') : wX11_fact 10 100 (ad 12 0 0) t a b c d σ Q := by
  have wf := W.1.wf
  have hl := wf.2.2.1
  unfold wX11_fact wX11_fact_0
  refine ⟨k12 h, _, p704 h, by decide, by decide, k7 h, ?_⟩
  refine C_isTable h R wf.1 t (fun hc => ⟨fun q => absurd rfl q, fun _ => ?_⟩) (fun j hj e n1 => ⟨fun _ => ⟨k12 h, _, p704 h, k7 h, ?_⟩, fun q => absurd q (by decide)⟩)
  · have e : facV t a b c d V = (-1, stV V 1) := if_pos hc
    rw [e] at hQ
    exact ⟨by decide, by decide, k12 h, C_ref h R 1 (fun σ' f r => ⟨by decide, by decide, hQ σ' f r⟩)⟩
  · rw [R.2.1.1]
    refine pk_lt V.1.2.1.length 60 (fun q => ?_) (fun q => ?_)
    · refine ⟨by decide, by decide, fun bb hb => ⟨by decide, by decide, by simp only [yK_uFi, yL_uFi, yFj_uFi, yFr_uFi, yAi_uFi, yAj_uFi, yAd_uFi, yAr_uFi, yFi_uFi, yK_uFj, yL_uFj, yFi_uFj, yFr_uFj, yAi_uFj, yAj_uFj, yAd_uFj, yAr_uFj, yFj_uFj, yK_uFr, yL_uFr, yFi_uFr, yFj_uFr, yAi_uFr, yAj_uFr, yAd_uFr, yAr_uFr, yFr_uFr, yK_uAi, yL_uAi, yFi_uAi, yFj_uAi, yFr_uAi, yAj_uAi, yAd_uAi, yAr_uAi, yAi_uAi, yK_uAj, yL_uAj, yFi_uAj, yFj_uAj, yFr_uAj, yAi_uAj, yAd_uAj, yAr_uAj, yAj_uAj, yK_uAd, yL_uAd, yFi_uAd, yFj_uAd, yFr_uAd, yAi_uAd, yAj_uAd, yAr_uAd, yAd_uAd, yK_uAr, yL_uAr, yFi_uAr, yFj_uAr, yFr_uAr, yAi_uAr, yAj_uAr, yAd_uAr, yAr_uAr, yK_uCi, yL_uCi, yFi_uCi, yFj_uCi, yFr_uCi, yAj_uCi, yAd_uCi, yAr_uCi, yK_uCj, yL_uCj, yFi_uCj, yFj_uCj, yFr_uCj, yAi_uCj, yAd_uCj, yAr_uCj, yK_uCx, yL_uCx, yFi_uCx, yFj_uCx, yFr_uCx, yAi_uCx, yAd_uCx, yAr_uCx, yK_nO, yL_nO, yFi_nO, yFj_nO, yFr_nO, yAi_nO, yAj_nO, yAd_nO, yAr_nO, yK_nA, yL_nA, yFi_nA, yFj_nA, yFr_nA, yAi_nA, yAj_nA, yAd_nA, yAr_nA, yK_nC, yL_nC, yFi_nC, yFj_nC, yFr_nC, yAi_nC, yAj_nC, yAd_nC, yAr_nC, yu2, yAi_uCi', yAj_uCj', yAj_uCx', Option.some.injEq, exists_eq_left', true_and, and_true, not_false_eq_true, forall_const, false_and, and_false, reduceIte, Nat.reduceEqDiff, ne_eq], by decide, by decide, ?_, ?_⟩⟩
      · have fb : Fr ct (fun _ => False) σ (uFr (uFj (uFi (uFi (uFi (nO σ bb 1) 0 bb 1) 1 bb 0) 2 bb 0) 3 bb 0) 4 bb none) := (((((Fr.rf.nO bb 1 hb).uFi _ _ _ (Or.inr hb)).uFi _ _ _ (Or.inr hb)).uFi _ _ _ (Or.inr hb)).uFj _ _ _ (Or.inr hb)).uFr _ _ _ hb
        exact k12 (h.fr fb id id id)
      · refine C_acc h R W.2.1 hb (s := 1) (at_ := 0) (wh := 0) (t := noT) (Or.inl ⟨rfl, rfl⟩) (fun σ1 f1 R1 => ?_)
        have h1 := h.frC f1
        refine ⟨k12 h1, _, p704 h1, by decide, by decide, k7 h1, ?_⟩
        refine C_newFact h1 R1 q t a b c d (fun σ2 f2 R2 => ⟨by decide, by decide, ?_⟩)
        have e : facV t a b c d V = (nI V.1.2.1.length, acV (V.1.1, V.1.2.1 ++ [(t, fcell a b c d, fwei, false)], V.1.2.2) (1, 0, 0, 0, noT) V) := (if_neg n1).trans (if_neg (by omega))
        rw [e] at hQ
        exact hQ σ2 (f1.tr1 f2) R2
    · have e : facV t a b c d V = (-1, stV V 4) := (if_neg n1).trans (if_pos (by omega))
      rw [e] at hQ
      exact ⟨by decide, by decide, C_ref h R 4 (fun σ' f r => ⟨by decide, by decide, hQ σ' f r⟩)⟩
end K4
