/-! the class: tables and facts -/
section K3
variable {ad : Ad} {ct : Ct} {σ : St}
theorem adne {a b : Nat} {p q : Nat × Nat} (h1 : ct a = p) (h2 : ct b = q) (n : p ≠ q) : a ≠ b := fun e => n (by rw [← h1, ← h2, e])
theorem C_isTable {V : Vt} (h : Sh ad ct σ) (R : RC ad ct σ V) (hl : V.1.1.length ≤ 10) (v : Int32) {Q : Int32 → St → Prop} (h0 : (v < 0 ∨ nI V.1.1.length ≤ v) → Q 0 σ) (h1 : ∀ i, i < V.1.1.length → v = nI i → ¬ (v < 0 ∨ nI V.1.1.length ≤ v) → Q 1 σ) : wX6_isTable (ad 7 0 0) v σ Q := by
  unfold wX6_isTable wX6_isTable_0
  rw [R.1.1]
  refine ⟨fun c => h0 (Or.inl c), fun c => ⟨k7 h, fun d => h0 (Or.inr d), fun d => ?_⟩⟩
  rcases pk_ix v (n := V.1.1.length) (by omega) with e | e | ⟨j, hj, e⟩
  · exact absurd e c
  · exact absurd e d
  · exact h1 j hj e (fun q => q.elim c d)
theorem C_isFact {V : Vt} (h : Sh ad ct σ) (R : RC ad ct σ V) (hl : V.1.2.1.length ≤ 60) (v : Int32) {Q : Int32 → St → Prop} (h0 : fOf V v = none → Q 0 σ) (h1 : ∀ i x, i < V.1.2.1.length → v = nI i → V.1.2.1[i]? = some x → fOf V v = some x → Q 1 σ) : wX6_isFact (ad 7 0 0) v σ Q := by
  unfold wX6_isFact wX6_isFact_0
  rw [R.2.1.1]
  refine ⟨fun c => h0 (if_pos c), fun c => ⟨k7 h, fun d => h0 ?_, fun d => ?_⟩⟩
  · unfold fOf
    rw [if_neg c]
    obtain ⟨j, hj, rfl⟩ := nI_of c
    rw [show ix (nI j) = j from nI_clamp hj]
    exact List.getElem?_eq_none ((nI_leI (by omega) hj).mp d)
  · rcases pk_ix v (n := V.1.2.1.length) (by omega) with e | e | ⟨j, hj, e⟩
    · exact absurd e c
    · exact absurd e d
    · refine h1 j (V.1.2.1[j]) hj e (List.getElem?_eq_getElem hj) ?_
      unfold fOf
      rw [if_neg c, e, show ix (nI j) = j from nI_clamp (by omega)]
      exact List.getElem?_eq_getElem hj
theorem C_newTable {V : Vt} (h : Sh ad ct σ) (R : RC ad ct σ V) (hl : V.1.1.length < 10) (v : Int32) {Q : Int32 → St → Prop} (hQ : ∀ σ', Fr ct SC σ σ' → RC ad ct σ' ((V.1.1 ++ [v], V.1.2), V.2) → Q (nI V.1.1.length) σ') : wX6_newTable (ad 7 0 0) v σ Q := by
  obtain ⟨⟨t1, t2⟩, h2, h3, h4, h5, h6, h7, h8⟩ := R
  have ei : ix (nI V.1.1.length) = V.1.1.length := nI_clamp (by omega)
  simp only [wX6_newTable, wX6_newTable_0, t1, ei, k12 h, k7 h, k5 h, k8 h, k6 h, k9 h, k2 h, p704 h, p707 h, p708 h, p710 h, p711 h, p713 h, p256 h, p257 h, p259 h, p260 h, p261 h, p705 h, k705 h, l705 h, p712 h, k712 h, l712 h, p384 h, k384 h, l384 h, p386 h, k386 h, l386 h, p387 h, k387 h, l387 h, p388 h, k388 h, l388 h, p258 h, k258 h, l258 h, p262 h, k262 h, l262 h, p263 h, k263 h, l263 h, p448 h, k448 h, l448 h, p320 h, k320 h, l320 h, p321 h, k321 h, l321 h, p322 h, k322 h, l322 h, p512 h, k512 h, l512 h, p64 h, k64 h, l64 h, yK_uFi, yL_uFi, yFj_uFi, yFr_uFi, yAi_uFi, yAj_uFi, yAd_uFi, yAr_uFi, yFi_uFi, yK_uFj, yL_uFj, yFi_uFj, yFr_uFj, yAi_uFj, yAj_uFj, yAd_uFj, yAr_uFj, yFj_uFj, yK_uFr, yL_uFr, yFi_uFr, yFj_uFr, yAi_uFr, yAj_uFr, yAd_uFr, yAr_uFr, yFr_uFr, yK_uAi, yL_uAi, yFi_uAi, yFj_uAi, yFr_uAi, yAj_uAi, yAd_uAi, yAr_uAi, yAi_uAi, yK_uAj, yL_uAj, yFi_uAj, yFj_uAj, yFr_uAj, yAi_uAj, yAd_uAj, yAr_uAj, yAj_uAj, yK_uAd, yL_uAd, yFi_uAd, yFj_uAd, yFr_uAd, yAi_uAd, yAj_uAd, yAr_uAd, yAd_uAd, yK_uAr, yL_uAr, yFi_uAr, yFj_uAr, yFr_uAr, yAi_uAr, yAj_uAr, yAd_uAr, yAr_uAr, yK_uCi, yL_uCi, yFi_uCi, yFj_uCi, yFr_uCi, yAj_uCi, yAd_uCi, yAr_uCi, yK_uCj, yL_uCj, yFi_uCj, yFj_uCj, yFr_uCj, yAi_uCj, yAd_uCj, yAr_uCj, yK_uCx, yL_uCx, yFi_uCx, yFj_uCx, yFr_uCx, yAi_uCx, yAd_uCx, yAr_uCx, yK_nO, yL_nO, yFi_nO, yFj_nO, yFr_nO, yAi_nO, yAj_nO, yAd_nO, yAr_nO, yK_nA, yL_nA, yFi_nA, yFj_nA, yFr_nA, yAi_nA, yAj_nA, yAd_nA, yAr_nA, yK_nC, yL_nC, yFi_nC, yFj_nC, yFr_nC, yAi_nC, yAj_nC, yAd_nC, yAr_nC, yu2, yAi_uCi', yAj_uCj', yAj_uCx', Option.some.injEq, exists_eq_left', true_and, and_true, not_false_eq_true, forall_const, false_and, and_false, reduceIte, Nat.reduceEqDiff, ne_eq]
  refine ⟨vp_in_nI hl (by decide), ?_⟩
  rw [nI_1, show nI (V.1.1.length + 1) - 1 = nI V.1.1.length from nI_pred _]
  generalize hρ : uFi (uAi σ (ad 384 0 0) V.1.1.length v) 385 (ad 7 0 0) (nI (V.1.1.length + 1)) = ρ
  have f : Fr ct (fun p => p = (384, 0) ∨ p = (7, 0)) σ ρ := by
    rw [← hρ]
    exact (Fr.rf.uAi _ _ _ (Or.inl (Or.inl (c384 h)))).uFi _ _ _ (Or.inl (Or.inr (c7 h)))
  have e12 : ∀ g, zFi ρ g (ad 12 0 0) = zFi σ g (ad 12 0 0) := fun g => f.fi (k12 h) (by decide) (c12 h) (by decide) g
  refine hQ ρ (f.mono (fun p q => by rcases q with rfl | rfl <;> decide)) ⟨⟨?_, ?_⟩, h2.cg h f (by decide) (by decide) (by decide) ?_ ?_, h3.cg h f (by decide) (by decide) (e12 _), h4.cg h f (by decide) (by decide), h5.cg h f (by decide) (by decide) (by decide), h6.cg h f (by decide) (by decide) (by decide) (by decide) (by decide) (e12 _), (e12 _).trans h7, h8.cg h f (fun _ _ => by simp)⟩
  · rw [← hρ]; simp only [yK_uFi, yL_uFi, yFj_uFi, yFr_uFi, yAi_uFi, yAj_uFi, yAd_uFi, yAr_uFi, yFi_uFi, yK_uFj, yL_uFj, yFi_uFj, yFr_uFj, yAi_uFj, yAj_uFj, yAd_uFj, yAr_uFj, yFj_uFj, yK_uFr, yL_uFr, yFi_uFr, yFj_uFr, yAi_uFr, yAj_uFr, yAd_uFr, yAr_uFr, yFr_uFr, yK_uAi, yL_uAi, yFi_uAi, yFj_uAi, yFr_uAi, yAj_uAi, yAd_uAi, yAr_uAi, yAi_uAi, yK_uAj, yL_uAj, yFi_uAj, yFj_uAj, yFr_uAj, yAi_uAj, yAd_uAj, yAr_uAj, yAj_uAj, yK_uAd, yL_uAd, yFi_uAd, yFj_uAd, yFr_uAd, yAi_uAd, yAj_uAd, yAr_uAd, yAd_uAd, yK_uAr, yL_uAr, yFi_uAr, yFj_uAr, yFr_uAr, yAi_uAr, yAj_uAr, yAd_uAr, yAr_uAr, yK_uCi, yL_uCi, yFi_uCi, yFj_uCi, yFr_uCi, yAj_uCi, yAd_uCi, yAr_uCi, yK_uCj, yL_uCj, yFi_uCj, yFj_uCj, yFr_uCj, yAi_uCj, yAd_uCj, yAr_uCj, yK_uCx, yL_uCx, yFi_uCx, yFj_uCx, yFr_uCx, yAi_uCx, yAd_uCx, yAr_uCx, yK_nO, yL_nO, yFi_nO, yFj_nO, yFr_nO, yAi_nO, yAj_nO, yAd_nO, yAr_nO, yK_nA, yL_nA, yFi_nA, yFj_nA, yFr_nA, yAi_nA, yAj_nA, yAd_nA, yAr_nA, yK_nC, yL_nC, yFi_nC, yFj_nC, yFr_nC, yAi_nC, yAj_nC, yAd_nC, yAr_nC, yu2, yAi_uCi', yAj_uCj', yAj_uCx', Option.some.injEq, exists_eq_left', true_and, and_true, not_false_eq_true, forall_const, false_and, and_false, reduceIte, Nat.reduceEqDiff, ne_eq, List.length_append, List.length_singleton]
  · intro i p hp
    rw [← hρ]
    simp only [yK_uFi, yL_uFi, yFj_uFi, yFr_uFi, yAi_uFi, yAj_uFi, yAd_uFi, yAr_uFi, yFi_uFi, yK_uFj, yL_uFj, yFi_uFj, yFr_uFj, yAi_uFj, yAj_uFj, yAd_uFj, yAr_uFj, yFj_uFj, yK_uFr, yL_uFr, yFi_uFr, yFj_uFr, yAi_uFr, yAj_uFr, yAd_uFr, yAr_uFr, yFr_uFr, yK_uAi, yL_uAi, yFi_uAi, yFj_uAi, yFr_uAi, yAj_uAi, yAd_uAi, yAr_uAi, yAi_uAi, yK_uAj, yL_uAj, yFi_uAj, yFj_uAj, yFr_uAj, yAi_uAj, yAd_uAj, yAr_uAj, yAj_uAj, yK_uAd, yL_uAd, yFi_uAd, yFj_uAd, yFr_uAd, yAi_uAd, yAj_uAd, yAr_uAd, yAd_uAd, yK_uAr, yL_uAr, yFi_uAr, yFj_uAr, yFr_uAr, yAi_uAr, yAj_uAr, yAd_uAr, yAr_uAr, yK_uCi, yL_uCi, yFi_uCi, yFj_uCi, yFr_uCi, yAj_uCi, yAd_uCi, yAr_uCi, yK_uCj, yL_uCj, yFi_uCj, yFj_uCj, yFr_uCj, yAi_uCj, yAd_uCj, yAr_uCj, yK_uCx, yL_uCx, yFi_uCx, yFj_uCx, yFr_uCx, yAi_uCx, yAd_uCx, yAr_uCx, yK_nO, yL_nO, yFi_nO, yFj_nO, yFr_nO, yAi_nO, yAj_nO, yAd_nO, yAr_nO, yK_nA, yL_nA, yFi_nA, yFj_nA, yFr_nA, yAi_nA, yAj_nA, yAd_nA, yAr_nA, yK_nC, yL_nC, yFi_nC, yFj_nC, yFr_nC, yAi_nC, yAj_nC, yAd_nC, yAr_nC, yu2, yAi_uCi', yAj_uCj', yAj_uCx', Option.some.injEq, exists_eq_left', true_and, and_true, not_false_eq_true, forall_const, false_and, and_false, reduceIte, Nat.reduceEqDiff, ne_eq]
    by_cases c : i = V.1.1.length
    · subst c
      rw [if_pos rfl]
      rw [List.getElem?_append_right (Nat.le_refl _), Nat.sub_self] at hp
      cases hp; rfl
    · rw [if_neg c]
      have hi : i < V.1.1.length := by
        have := (List.getElem?_eq_some_iff.mp hp).1
        rw [List.length_append, List.length_singleton] at this
        omega
      rw [List.getElem?_append_left hi] at hp
      exact t2 i p hp
  · rw [← hρ]; simp only [yK_uFi, yL_uFi, yFj_uFi, yFr_uFi, yAi_uFi, yAj_uFi, yAd_uFi, yAr_uFi, yFi_uFi, yK_uFj, yL_uFj, yFi_uFj, yFr_uFj, yAi_uFj, yAj_uFj, yAd_uFj, yAr_uFj, yFj_uFj, yK_uFr, yL_uFr, yFi_uFr, yFj_uFr, yAi_uFr, yAj_uFr, yAd_uFr, yAr_uFr, yFr_uFr, yK_uAi, yL_uAi, yFi_uAi, yFj_uAi, yFr_uAi, yAj_uAi, yAd_uAi, yAr_uAi, yAi_uAi, yK_uAj, yL_uAj, yFi_uAj, yFj_uAj, yFr_uAj, yAi_uAj, yAd_uAj, yAr_uAj, yAj_uAj, yK_uAd, yL_uAd, yFi_uAd, yFj_uAd, yFr_uAd, yAi_uAd, yAj_uAd, yAr_uAd, yAd_uAd, yK_uAr, yL_uAr, yFi_uAr, yFj_uAr, yFr_uAr, yAi_uAr, yAj_uAr, yAd_uAr, yAr_uAr, yK_uCi, yL_uCi, yFi_uCi, yFj_uCi, yFr_uCi, yAj_uCi, yAd_uCi, yAr_uCi, yK_uCj, yL_uCj, yFi_uCj, yFj_uCj, yFr_uCj, yAi_uCj, yAd_uCj, yAr_uCj, yK_uCx, yL_uCx, yFi_uCx, yFj_uCx, yFr_uCx, yAi_uCx, yAd_uCx, yAr_uCx, yK_nO, yL_nO, yFi_nO, yFj_nO, yFr_nO, yAi_nO, yAj_nO, yAd_nO, yAr_nO, yK_nA, yL_nA, yFi_nA, yFj_nA, yFr_nA, yAi_nA, yAj_nA, yAd_nA, yAr_nA, yK_nC, yL_nC, yFi_nC, yFj_nC, yFr_nC, yAi_nC, yAj_nC, yAd_nC, yAr_nC, yu2, yAi_uCi', yAj_uCj', yAj_uCx', Option.some.injEq, exists_eq_left', true_and, and_true, not_false_eq_true, forall_const, false_and, and_false, reduceIte, Nat.reduceEqDiff, ne_eq]
  · rw [← hρ]; simp only [yK_uFi, yL_uFi, yFj_uFi, yFr_uFi, yAi_uFi, yAj_uFi, yAd_uFi, yAr_uFi, yFi_uFi, yK_uFj, yL_uFj, yFi_uFj, yFr_uFj, yAi_uFj, yAj_uFj, yAd_uFj, yAr_uFj, yFj_uFj, yK_uFr, yL_uFr, yFi_uFr, yFj_uFr, yAi_uFr, yAj_uFr, yAd_uFr, yAr_uFr, yFr_uFr, yK_uAi, yL_uAi, yFi_uAi, yFj_uAi, yFr_uAi, yAj_uAi, yAd_uAi, yAr_uAi, yAi_uAi, yK_uAj, yL_uAj, yFi_uAj, yFj_uAj, yFr_uAj, yAi_uAj, yAd_uAj, yAr_uAj, yAj_uAj, yK_uAd, yL_uAd, yFi_uAd, yFj_uAd, yFr_uAd, yAi_uAd, yAj_uAd, yAr_uAd, yAd_uAd, yK_uAr, yL_uAr, yFi_uAr, yFj_uAr, yFr_uAr, yAi_uAr, yAj_uAr, yAd_uAr, yAr_uAr, yK_uCi, yL_uCi, yFi_uCi, yFj_uCi, yFr_uCi, yAj_uCi, yAd_uCi, yAr_uCi, yK_uCj, yL_uCj, yFi_uCj, yFj_uCj, yFr_uCj, yAi_uCj, yAd_uCj, yAr_uCj, yK_uCx, yL_uCx, yFi_uCx, yFj_uCx, yFr_uCx, yAi_uCx, yAd_uCx, yAr_uCx, yK_nO, yL_nO, yFi_nO, yFj_nO, yFr_nO, yAi_nO, yAj_nO, yAd_nO, yAr_nO, yK_nA, yL_nA, yFi_nA, yFj_nA, yFr_nA, yAi_nA, yAj_nA, yAd_nA, yAr_nA, yK_nC, yL_nC, yFi_nC, yFj_nC, yFr_nC, yAi_nC, yAj_nC, yAd_nC, yAr_nC, yu2, yAi_uCi', yAj_uCj', yAj_uCx', Option.some.injEq, exists_eq_left', true_and, and_true, not_false_eq_true, forall_const, false_and, and_false, reduceIte, Nat.reduceEqDiff, ne_eq]
theorem C_table {V : Vt} (h : Sh ad ct σ) (R : RC ad ct σ V) (W : WFv V) (v : Int32) {Q : Int32 → St → Prop} (hQ : ∀ σ', Fr ct SC σ σ' → RC ad ct σ' (tabV v V).2 → Q (tabV v V).1 σ') : wX11_table 10 100 (ad 12 0 0) v σ Q := by
  have wf := W.1.wf
  have hl := wf.1
  have href : (v < 1 ∨ ¬ v ≤ 4) → wX11_table_10 10 100 Q 0 0 (ad 12 0 0) σ := fun c => by
    have e : tabV v V = (-1, stV V 2) := if_pos c
    rw [e] at hQ
    exact ⟨by decide, by decide, k12 h, C_ref h R 2 (fun σ' f r => ⟨by decide, by decide, hQ σ' f r⟩)⟩
  unfold wX11_table wX11_table_0
  refine ⟨fun c => href (Or.inl c), fun c => ⟨fun d => ?_, fun d => href (Or.inr d)⟩⟩
  have n1 : ¬ (v < 1 ∨ ¬ v ≤ 4) := fun q => q.elim c (fun z => z d)
  simp only [k12 h, k7 h, k5 h, k8 h, k6 h, k9 h, k2 h, p704 h, p707 h, p708 h, p710 h, p711 h, p713 h, p256 h, p257 h, p259 h, p260 h, p261 h, p705 h, k705 h, l705 h, p712 h, k712 h, l712 h, p384 h, k384 h, l384 h, p386 h, k386 h, l386 h, p387 h, k387 h, l387 h, p388 h, k388 h, l388 h, p258 h, k258 h, l258 h, p262 h, k262 h, l262 h, p263 h, k263 h, l263 h, p448 h, k448 h, l448 h, p320 h, k320 h, l320 h, p321 h, k321 h, l321 h, p322 h, k322 h, l322 h, p512 h, k512 h, l512 h, p64 h, k64 h, l64 h, Option.some.injEq, exists_eq_left', true_and, and_true, not_false_eq_true, forall_const, false_and, and_false, reduceIte, Nat.reduceEqDiff, ne_eq, R.1.1]
  refine pk_lt V.1.1.length 10 (fun q => ?_) (fun q => ?_)
  · refine ⟨by decide, by decide, fun b hb => ⟨by decide, by decide, by simp only [yK_uFi, yL_uFi, yFj_uFi, yFr_uFi, yAi_uFi, yAj_uFi, yAd_uFi, yAr_uFi, yFi_uFi, yK_uFj, yL_uFj, yFi_uFj, yFr_uFj, yAi_uFj, yAj_uFj, yAd_uFj, yAr_uFj, yFj_uFj, yK_uFr, yL_uFr, yFi_uFr, yFj_uFr, yAi_uFr, yAj_uFr, yAd_uFr, yAr_uFr, yFr_uFr, yK_uAi, yL_uAi, yFi_uAi, yFj_uAi, yFr_uAi, yAj_uAi, yAd_uAi, yAr_uAi, yAi_uAi, yK_uAj, yL_uAj, yFi_uAj, yFj_uAj, yFr_uAj, yAi_uAj, yAd_uAj, yAr_uAj, yAj_uAj, yK_uAd, yL_uAd, yFi_uAd, yFj_uAd, yFr_uAd, yAi_uAd, yAj_uAd, yAr_uAd, yAd_uAd, yK_uAr, yL_uAr, yFi_uAr, yFj_uAr, yFr_uAr, yAi_uAr, yAj_uAr, yAd_uAr, yAr_uAr, yK_uCi, yL_uCi, yFi_uCi, yFj_uCi, yFr_uCi, yAj_uCi, yAd_uCi, yAr_uCi, yK_uCj, yL_uCj, yFi_uCj, yFj_uCj, yFr_uCj, yAi_uCj, yAd_uCj, yAr_uCj, yK_uCx, yL_uCx, yFi_uCx, yFj_uCx, yFr_uCx, yAi_uCx, yAd_uCx, yAr_uCx, yK_nO, yL_nO, yFi_nO, yFj_nO, yFr_nO, yAi_nO, yAj_nO, yAd_nO, yAr_nO, yK_nA, yL_nA, yFi_nA, yFj_nA, yFr_nA, yAi_nA, yAj_nA, yAd_nA, yAr_nA, yK_nC, yL_nC, yFi_nC, yFj_nC, yFr_nC, yAi_nC, yAj_nC, yAd_nC, yAr_nC, yu2, yAi_uCi', yAj_uCj', yAj_uCx', Option.some.injEq, exists_eq_left', true_and, and_true, not_false_eq_true, forall_const, false_and, and_false, reduceIte, Nat.reduceEqDiff, ne_eq], by decide, by decide, ?_, ?_⟩⟩
    · have fb : Fr ct (fun _ => False) σ (uFr (uFj (uFi (uFi (uFi (nO σ b 1) 0 b 0) 1 b 0) 2 b 0) 3 b 0) 4 b none) := (((((Fr.rf.nO b 1 hb).uFi _ _ _ (Or.inr hb)).uFi _ _ _ (Or.inr hb)).uFi _ _ _ (Or.inr hb)).uFj _ _ _ (Or.inr hb)).uFr _ _ _ hb
      exact k12 (h.fr fb id id id)
    · refine C_acc h R W.2.1 hb (s := 0) (at_ := 0) (wh := 0) (t := noT) (Or.inl ⟨rfl, rfl⟩) (fun σ1 f1 R1 => ?_)
      have h1 := h.frC f1
      refine ⟨k12 h1, _, p704 h1, by decide, by decide, k7 h1, ?_⟩
      refine C_newTable h1 R1 q v (fun σ2 f2 R2 => ⟨by decide, by decide, ?_⟩)
      have e : tabV v V = (nI V.1.1.length, acV (V.1.1 ++ [v], V.1.2) (0, 0, 0, 0, noT) V) := (if_neg n1).trans (if_neg (by omega))
      rw [e] at hQ
      exact hQ σ2 (f1.tr1 f2) R2
  · have e : tabV v V = (-1, stV V 4) := (if_neg n1).trans (if_pos (by omega))
    rw [e] at hQ
    exact ⟨by decide, by decide, C_ref h R 4 (fun σ' f r => ⟨by decide, by decide, hQ σ' f r⟩)⟩
end K3
