/-! the class: raw answers melt, row by row -/
section MJ
variable {ad : Ad} {ct : Ct} {σ : St}
theorem C_addRead (h : Sh ad ct σ) {s j w : Nat} {cl : Bool} {e : Ans} (hs : s < 43) (hj : j < room s) (q : AnsAt ad σ s j w cl e) {l : List Int64} {c : Int64} {co : Int32} {tr : Int64} {σ' : St} (I : GaI ad ct σ σ' l c co tr) {Q : St → Prop} (hQ : ∀ σ2 x, (cl = false → x = e.2.2.1) → GaI ad ct σ σ2 l (c + x) (if e.2.2.2.1 < co then e.2.2.2.1 else co) (if e.2.2.2.2 < tr then tr else e.2.2.2.2) → Q σ2) : wX7_addReadings (ad 8 0 0) (ad 3 s j) σ' Q := by
  obtain ⟨i1, i2, i3, i4, i5, i6⟩ := I
  have h' := h.frC (i1.mono SG_SC)
  have q' := q.g h hs hj i1
  have z : SG (ct (ad 8 0 0)) ∨ zK σ (ad 8 0 0) = 0 := Or.inl (by rw [c8 h]; decide)
  have ne : ad 3 s j ≠ ad 8 0 0 := fun z => by
    have a := c3 h hs hj
    rw [z, c8 h] at a
    cases a
  refine ⟨k8 h', k3 h' hs hj, hQ _ (zFj σ' 131 (ad 3 s j)) q'.2.2.2.2.2.1 ⟨((i1.uFj _ _ _ z).uFi _ _ _ z).uFj _ _ _ z, ?_, fun k v hv => ?_, ?_, ?_, ?_⟩⟩
  · simp only [yK_uFi, yL_uFi, yFj_uFi, yFr_uFi, yAi_uFi, yAj_uFi, yAd_uFi, yAr_uFi, yFi_uFi, yK_uFj, yL_uFj, yFi_uFj, yFr_uFj, yAi_uFj, yAj_uFj, yAd_uFj, yAr_uFj, yFj_uFj, yK_uFr, yL_uFr, yFi_uFr, yFj_uFr, yAi_uFr, yAj_uFr, yAd_uFr, yAr_uFr, yFr_uFr, yK_uAi, yL_uAi, yFi_uAi, yFj_uAi, yFr_uAi, yAj_uAi, yAd_uAi, yAr_uAi, yAi_uAi, yK_uAj, yL_uAj, yFi_uAj, yFj_uAj, yFr_uAj, yAi_uAj, yAd_uAj, yAr_uAj, yAj_uAj, yK_uAd, yL_uAd, yFi_uAd, yFj_uAd, yFr_uAd, yAi_uAd, yAj_uAd, yAr_uAd, yAd_uAd, yK_uAr, yL_uAr, yFi_uAr, yFj_uAr, yFr_uAr, yAi_uAr, yAj_uAr, yAd_uAr, yAr_uAr, yK_uCi, yL_uCi, yFi_uCi, yFj_uCi, yFr_uCi, yAj_uCi, yAd_uCi, yAr_uCi, yK_uCj, yL_uCj, yFi_uCj, yFj_uCj, yFr_uCj, yAi_uCj, yAd_uCj, yAr_uCj, yK_uCx, yL_uCx, yFi_uCx, yFj_uCx, yFr_uCx, yAi_uCx, yAd_uCx, yAr_uCx, yK_nO, yL_nO, yFi_nO, yFj_nO, yFr_nO, yAi_nO, yAj_nO, yAd_nO, yAr_nO, yK_nA, yL_nA, yFi_nA, yFj_nA, yFr_nA, yAi_nA, yAj_nA, yAd_nA, yAr_nA, yK_nC, yL_nC, yFi_nC, yFj_nC, yFr_nC, yAi_nC, yAj_nC, yAd_nC, yAr_nC, yu2, yAi_uCi', yAj_uCj', yAj_uCx', Option.some.injEq, exists_eq_left', true_and, and_true, not_false_eq_true, forall_const, false_and, and_false, reduceIte, Nat.reduceEqDiff, ne_eq]; exact i2
  · simp only [yK_uFi, yL_uFi, yFj_uFi, yFr_uFi, yAi_uFi, yAj_uFi, yAd_uFi, yAr_uFi, yFi_uFi, yK_uFj, yL_uFj, yFi_uFj, yFr_uFj, yAi_uFj, yAj_uFj, yAd_uFj, yAr_uFj, yFj_uFj, yK_uFr, yL_uFr, yFi_uFr, yFj_uFr, yAi_uFr, yAj_uFr, yAd_uFr, yAr_uFr, yFr_uFr, yK_uAi, yL_uAi, yFi_uAi, yFj_uAi, yFr_uAi, yAj_uAi, yAd_uAi, yAr_uAi, yAi_uAi, yK_uAj, yL_uAj, yFi_uAj, yFj_uAj, yFr_uAj, yAi_uAj, yAd_uAj, yAr_uAj, yAj_uAj, yK_uAd, yL_uAd, yFi_uAd, yFj_uAd, yFr_uAd, yAi_uAd, yAj_uAd, yAr_uAd, yAd_uAd, yK_uAr, yL_uAr, yFi_uAr, yFj_uAr, yFr_uAr, yAi_uAr, yAj_uAr, yAd_uAr, yAr_uAr, yK_uCi, yL_uCi, yFi_uCi, yFj_uCi, yFr_uCi, yAj_uCi, yAd_uCi, yAr_uCi, yK_uCj, yL_uCj, yFi_uCj, yFj_uCj, yFr_uCj, yAi_uCj, yAd_uCj, yAr_uCj, yK_uCx, yL_uCx, yFi_uCx, yFj_uCx, yFr_uCx, yAi_uCx, yAd_uCx, yAr_uCx, yK_nO, yL_nO, yFi_nO, yFj_nO, yFr_nO, yAi_nO, yAj_nO, yAd_nO, yAr_nO, yK_nA, yL_nA, yFi_nA, yFj_nA, yFr_nA, yAi_nA, yAj_nA, yAd_nA, yAr_nA, yK_nC, yL_nC, yFi_nC, yFj_nC, yFr_nC, yAi_nC, yAj_nC, yAd_nC, yAr_nC, yu2, yAi_uCi', yAj_uCj', yAj_uCx', Option.some.injEq, exists_eq_left', true_and, and_true, not_false_eq_true, forall_const, false_and, and_false, reduceIte, Nat.reduceEqDiff, ne_eq]; exact i3 k v hv
  · simp only [yK_uFi, yL_uFi, yFj_uFi, yFr_uFi, yAi_uFi, yAj_uFi, yAd_uFi, yAr_uFi, yFi_uFi, yK_uFj, yL_uFj, yFi_uFj, yFr_uFj, yAi_uFj, yAj_uFj, yAd_uFj, yAr_uFj, yFj_uFj, yK_uFr, yL_uFr, yFi_uFr, yFj_uFr, yAi_uFr, yAj_uFr, yAd_uFr, yAr_uFr, yFr_uFr, yK_uAi, yL_uAi, yFi_uAi, yFj_uAi, yFr_uAi, yAj_uAi, yAd_uAi, yAr_uAi, yAi_uAi, yK_uAj, yL_uAj, yFi_uAj, yFj_uAj, yFr_uAj, yAi_uAj, yAd_uAj, yAr_uAj, yAj_uAj, yK_uAd, yL_uAd, yFi_uAd, yFj_uAd, yFr_uAd, yAi_uAd, yAj_uAd, yAr_uAd, yAd_uAd, yK_uAr, yL_uAr, yFi_uAr, yFj_uAr, yFr_uAr, yAi_uAr, yAj_uAr, yAd_uAr, yAr_uAr, yK_uCi, yL_uCi, yFi_uCi, yFj_uCi, yFr_uCi, yAj_uCi, yAd_uCi, yAr_uCi, yK_uCj, yL_uCj, yFi_uCj, yFj_uCj, yFr_uCj, yAi_uCj, yAd_uCj, yAr_uCj, yK_uCx, yL_uCx, yFi_uCx, yFj_uCx, yFr_uCx, yAi_uCx, yAd_uCx, yAr_uCx, yK_nO, yL_nO, yFi_nO, yFj_nO, yFr_nO, yAi_nO, yAj_nO, yAd_nO, yAr_nO, yK_nA, yL_nA, yFi_nA, yFj_nA, yFr_nA, yAi_nA, yAj_nA, yAd_nA, yAr_nA, yK_nC, yL_nC, yFi_nC, yFj_nC, yFr_nC, yAi_nC, yAj_nC, yAd_nC, yAr_nC, yu2, yAi_uCi', yAj_uCj', yAj_uCx', Option.some.injEq, exists_eq_left', true_and, and_true, not_false_eq_true, forall_const, false_and, and_false, reduceIte, Nat.reduceEqDiff, ne_eq]; rw [i4]
  · simp only [yK_uFi, yL_uFi, yFj_uFi, yFr_uFi, yAi_uFi, yAj_uFi, yAd_uFi, yAr_uFi, yFi_uFi, yK_uFj, yL_uFj, yFi_uFj, yFr_uFj, yAi_uFj, yAj_uFj, yAd_uFj, yAr_uFj, yFj_uFj, yK_uFr, yL_uFr, yFi_uFr, yFj_uFr, yAi_uFr, yAj_uFr, yAd_uFr, yAr_uFr, yFr_uFr, yK_uAi, yL_uAi, yFi_uAi, yFj_uAi, yFr_uAi, yAj_uAi, yAd_uAi, yAr_uAi, yAi_uAi, yK_uAj, yL_uAj, yFi_uAj, yFj_uAj, yFr_uAj, yAi_uAj, yAd_uAj, yAr_uAj, yAj_uAj, yK_uAd, yL_uAd, yFi_uAd, yFj_uAd, yFr_uAd, yAi_uAd, yAj_uAd, yAr_uAd, yAd_uAd, yK_uAr, yL_uAr, yFi_uAr, yFj_uAr, yFr_uAr, yAi_uAr, yAj_uAr, yAd_uAr, yAr_uAr, yK_uCi, yL_uCi, yFi_uCi, yFj_uCi, yFr_uCi, yAj_uCi, yAd_uCi, yAr_uCi, yK_uCj, yL_uCj, yFi_uCj, yFj_uCj, yFr_uCj, yAi_uCj, yAd_uCj, yAr_uCj, yK_uCx, yL_uCx, yFi_uCx, yFj_uCx, yFr_uCx, yAi_uCx, yAd_uCx, yAr_uCx, yK_nO, yL_nO, yFi_nO, yFj_nO, yFr_nO, yAi_nO, yAj_nO, yAd_nO, yAr_nO, yK_nA, yL_nA, yFi_nA, yFj_nA, yFr_nA, yAi_nA, yAj_nA, yAd_nA, yAr_nA, yK_nC, yL_nC, yFi_nC, yFj_nC, yFr_nC, yAi_nC, yAj_nC, yAd_nC, yAr_nC, yu2, yAi_uCi', yAj_uCj', yAj_uCx', Option.some.injEq, exists_eq_left', true_and, and_true, not_false_eq_true, forall_const, false_and, and_false, reduceIte, Nat.reduceEqDiff, ne_eq]; rw [i5, q'.2.2.2.2.2.2.1]
  · simp only [yK_uFi, yL_uFi, yFj_uFi, yFr_uFi, yAi_uFi, yAj_uFi, yAd_uFi, yAr_uFi, yFi_uFi, yK_uFj, yL_uFj, yFi_uFj, yFr_uFj, yAi_uFj, yAj_uFj, yAd_uFj, yAr_uFj, yFj_uFj, yK_uFr, yL_uFr, yFi_uFr, yFj_uFr, yAi_uFr, yAj_uFr, yAd_uFr, yAr_uFr, yFr_uFr, yK_uAi, yL_uAi, yFi_uAi, yFj_uAi, yFr_uAi, yAj_uAi, yAd_uAi, yAr_uAi, yAi_uAi, yK_uAj, yL_uAj, yFi_uAj, yFj_uAj, yFr_uAj, yAi_uAj, yAd_uAj, yAr_uAj, yAj_uAj, yK_uAd, yL_uAd, yFi_uAd, yFj_uAd, yFr_uAd, yAi_uAd, yAj_uAd, yAr_uAd, yAd_uAd, yK_uAr, yL_uAr, yFi_uAr, yFj_uAr, yFr_uAr, yAi_uAr, yAj_uAr, yAd_uAr, yAr_uAr, yK_uCi, yL_uCi, yFi_uCi, yFj_uCi, yFr_uCi, yAj_uCi, yAd_uCi, yAr_uCi, yK_uCj, yL_uCj, yFi_uCj, yFj_uCj, yFr_uCj, yAi_uCj, yAd_uCj, yAr_uCj, yK_uCx, yL_uCx, yFi_uCx, yFj_uCx, yFr_uCx, yAi_uCx, yAd_uCx, yAr_uCx, yK_nO, yL_nO, yFi_nO, yFj_nO, yFr_nO, yAi_nO, yAj_nO, yAd_nO, yAr_nO, yK_nA, yL_nA, yFi_nA, yFj_nA, yFr_nA, yAi_nA, yAj_nA, yAd_nA, yAr_nA, yK_nC, yL_nC, yFi_nC, yFj_nC, yFr_nC, yAi_nC, yAj_nC, yAd_nC, yAr_nC, yu2, yAi_uCi', yAj_uCj', yAj_uCx', Option.some.injEq, exists_eq_left', true_and, and_true, not_false_eq_true, forall_const, false_and, and_false, reduceIte, Nat.reduceEqDiff, ne_eq, ne]; rw [i6, q'.2.2.2.2.2.2.2]
abbrev S39 (s : Nat) : Nat × Nat → Prop := fun p => p = (3, s) ∨ p = (129, s)
theorem C_giveAll (h : Sh ad ct σ) {s j : Nat} (hs : s < 43) (hj : j < room s) {l : List Int64} (hl : l.length ≤ 8208) {τ : St} {c : Int64} {co : Int32} {tr : Int64} (I : GaI ad ct τ σ l c co tr) {Q : Int32 → St → Prop} (h0 : ∀ σ2, 16 < l.length → Fr ct (S39 s) σ σ2 → Q 0 σ2) (h1 : ∀ (σ2 : St) (k : List Int64), l.length ≤ 16 → k.Perm l → k.Pairwise (fun a b => a ≤ b) → Fr ct (S39 s) σ σ2 → Slf ad σ σ2 s j → (∀ cl r, RstAt ad σ2 s j cl (r, k, c, co, tr)) → Q 1 σ2) : wX7_giveAll (ad 8 0 0) (ad 3 s j) σ Q := by
  obtain ⟨i1, i2, i3, i4, i5, i6⟩ := I
  have z3 : S39 s (ct (ad 3 s j)) ∨ zK σ (ad 3 s j) = 0 := Or.inl (by rw [c3 h hs hj]; exact Or.inl rfl)
  have ne : ad 8 0 0 ≠ ad 3 s j := fun z => by
    have a := c3 h hs hj
    rw [← z, c8 h] at a
    cases a
  refine ⟨k8 h, k3 h hs hj, ?_⟩
  have f1 : Fr ct (S39 s) σ (uFj (uFi (uFj σ 131 (ad 3 s j) (zFj σ 450 (ad 8 0 0))) 132 (ad 3 s j) (zFi σ 451 (ad 8 0 0))) 133 (ad 3 s j) (zFj (uFj σ 131 (ad 3 s j) (zFj σ 450 (ad 8 0 0))) 452 (ad 8 0 0))) := ((Fr.rf.uFj _ _ _ z3).uFi _ _ _ z3).uFj _ _ _ z3
  have a1 : zFi (uFj (uFi (uFj σ 131 (ad 3 s j) (zFj σ 450 (ad 8 0 0))) 132 (ad 3 s j) (zFi σ 451 (ad 8 0 0))) 133 (ad 3 s j) (zFj (uFj σ 131 (ad 3 s j) (zFj σ 450 (ad 8 0 0))) 452 (ad 8 0 0))) 449 (ad 8 0 0) = nI l.length := by simp only [yK_uFi, yL_uFi, yFj_uFi, yFr_uFi, yAi_uFi, yAj_uFi, yAd_uFi, yAr_uFi, yFi_uFi, yK_uFj, yL_uFj, yFi_uFj, yFr_uFj, yAi_uFj, yAj_uFj, yAd_uFj, yAr_uFj, yFj_uFj, yK_uFr, yL_uFr, yFi_uFr, yFj_uFr, yAi_uFr, yAj_uFr, yAd_uFr, yAr_uFr, yFr_uFr, yK_uAi, yL_uAi, yFi_uAi, yFj_uAi, yFr_uAi, yAj_uAi, yAd_uAi, yAr_uAi, yAi_uAi, yK_uAj, yL_uAj, yFi_uAj, yFj_uAj, yFr_uAj, yAi_uAj, yAd_uAj, yAr_uAj, yAj_uAj, yK_uAd, yL_uAd, yFi_uAd, yFj_uAd, yFr_uAd, yAi_uAd, yAj_uAd, yAr_uAd, yAd_uAd, yK_uAr, yL_uAr, yFi_uAr, yFj_uAr, yFr_uAr, yAi_uAr, yAj_uAr, yAd_uAr, yAr_uAr, yK_uCi, yL_uCi, yFi_uCi, yFj_uCi, yFr_uCi, yAj_uCi, yAd_uCi, yAr_uCi, yK_uCj, yL_uCj, yFi_uCj, yFj_uCj, yFr_uCj, yAi_uCj, yAd_uCj, yAr_uCj, yK_uCx, yL_uCx, yFi_uCx, yFj_uCx, yFr_uCx, yAi_uCx, yAd_uCx, yAr_uCx, yK_nO, yL_nO, yFi_nO, yFj_nO, yFr_nO, yAi_nO, yAj_nO, yAd_nO, yAr_nO, yK_nA, yL_nA, yFi_nA, yFj_nA, yFr_nA, yAi_nA, yAj_nA, yAd_nA, yAr_nA, yK_nC, yL_nC, yFi_nC, yFj_nC, yFr_nC, yAi_nC, yAj_nC, yAd_nC, yAr_nC, yu2, yAi_uCi', yAj_uCj', yAj_uCx', Option.some.injEq, exists_eq_left', true_and, and_true, not_false_eq_true, forall_const, false_and, and_false, reduceIte, Nat.reduceEqDiff, ne_eq]; exact i2
  have a2 : ∀ k v, l[k]? = some v → zAj (uFj (uFi (uFj σ 131 (ad 3 s j) (zFj σ 450 (ad 8 0 0))) 132 (ad 3 s j) (zFi σ 451 (ad 8 0 0))) 133 (ad 3 s j) (zFj (uFj σ 131 (ad 3 s j) (zFj σ 450 (ad 8 0 0))) 452 (ad 8 0 0))) (ad 448 0 0) k = v := fun k v hv => by simp only [yK_uFi, yL_uFi, yFj_uFi, yFr_uFi, yAi_uFi, yAj_uFi, yAd_uFi, yAr_uFi, yFi_uFi, yK_uFj, yL_uFj, yFi_uFj, yFr_uFj, yAi_uFj, yAj_uFj, yAd_uFj, yAr_uFj, yFj_uFj, yK_uFr, yL_uFr, yFi_uFr, yFj_uFr, yAi_uFr, yAj_uFr, yAd_uFr, yAr_uFr, yFr_uFr, yK_uAi, yL_uAi, yFi_uAi, yFj_uAi, yFr_uAi, yAj_uAi, yAd_uAi, yAr_uAi, yAi_uAi, yK_uAj, yL_uAj, yFi_uAj, yFj_uAj, yFr_uAj, yAi_uAj, yAd_uAj, yAr_uAj, yAj_uAj, yK_uAd, yL_uAd, yFi_uAd, yFj_uAd, yFr_uAd, yAi_uAd, yAj_uAd, yAr_uAd, yAd_uAd, yK_uAr, yL_uAr, yFi_uAr, yFj_uAr, yFr_uAr, yAi_uAr, yAj_uAr, yAd_uAr, yAr_uAr, yK_uCi, yL_uCi, yFi_uCi, yFj_uCi, yFr_uCi, yAj_uCi, yAd_uCi, yAr_uCi, yK_uCj, yL_uCj, yFi_uCj, yFj_uCj, yFr_uCj, yAi_uCj, yAd_uCj, yAr_uCj, yK_uCx, yL_uCx, yFi_uCx, yFj_uCx, yFr_uCx, yAi_uCx, yAd_uCx, yAr_uCx, yK_nO, yL_nO, yFi_nO, yFj_nO, yFr_nO, yAi_nO, yAj_nO, yAd_nO, yAr_nO, yK_nA, yL_nA, yFi_nA, yFj_nA, yFr_nA, yAi_nA, yAj_nA, yAd_nA, yAr_nA, yK_nC, yL_nC, yFi_nC, yFj_nC, yFr_nC, yAi_nC, yAj_nC, yAd_nC, yAr_nC, yu2, yAi_uCi', yAj_uCj', yAj_uCx', Option.some.injEq, exists_eq_left', true_and, and_true, not_false_eq_true, forall_const, false_and, and_false, reduceIte, Nat.reduceEqDiff, ne_eq]; exact i3 k v hv
  have a3 : zFj (uFj (uFi (uFj σ 131 (ad 3 s j) (zFj σ 450 (ad 8 0 0))) 132 (ad 3 s j) (zFi σ 451 (ad 8 0 0))) 133 (ad 3 s j) (zFj (uFj σ 131 (ad 3 s j) (zFj σ 450 (ad 8 0 0))) 452 (ad 8 0 0))) 131 (ad 3 s j) = c := by simp only [yK_uFi, yL_uFi, yFj_uFi, yFr_uFi, yAi_uFi, yAj_uFi, yAd_uFi, yAr_uFi, yFi_uFi, yK_uFj, yL_uFj, yFi_uFj, yFr_uFj, yAi_uFj, yAj_uFj, yAd_uFj, yAr_uFj, yFj_uFj, yK_uFr, yL_uFr, yFi_uFr, yFj_uFr, yAi_uFr, yAj_uFr, yAd_uFr, yAr_uFr, yFr_uFr, yK_uAi, yL_uAi, yFi_uAi, yFj_uAi, yFr_uAi, yAj_uAi, yAd_uAi, yAr_uAi, yAi_uAi, yK_uAj, yL_uAj, yFi_uAj, yFj_uAj, yFr_uAj, yAi_uAj, yAd_uAj, yAr_uAj, yAj_uAj, yK_uAd, yL_uAd, yFi_uAd, yFj_uAd, yFr_uAd, yAi_uAd, yAj_uAd, yAr_uAd, yAd_uAd, yK_uAr, yL_uAr, yFi_uAr, yFj_uAr, yFr_uAr, yAi_uAr, yAj_uAr, yAd_uAr, yAr_uAr, yK_uCi, yL_uCi, yFi_uCi, yFj_uCi, yFr_uCi, yAj_uCi, yAd_uCi, yAr_uCi, yK_uCj, yL_uCj, yFi_uCj, yFj_uCj, yFr_uCj, yAi_uCj, yAd_uCj, yAr_uCj, yK_uCx, yL_uCx, yFi_uCx, yFj_uCx, yFr_uCx, yAi_uCx, yAd_uCx, yAr_uCx, yK_nO, yL_nO, yFi_nO, yFj_nO, yFr_nO, yAi_nO, yAj_nO, yAd_nO, yAr_nO, yK_nA, yL_nA, yFi_nA, yFj_nA, yFr_nA, yAi_nA, yAj_nA, yAd_nA, yAr_nA, yK_nC, yL_nC, yFi_nC, yFj_nC, yFr_nC, yAi_nC, yAj_nC, yAd_nC, yAr_nC, yu2, yAi_uCi', yAj_uCj', yAj_uCx', Option.some.injEq, exists_eq_left', true_and, and_true, not_false_eq_true, forall_const, false_and, and_false, reduceIte, Nat.reduceEqDiff, ne_eq]; exact i4
  have a4 : zFi (uFj (uFi (uFj σ 131 (ad 3 s j) (zFj σ 450 (ad 8 0 0))) 132 (ad 3 s j) (zFi σ 451 (ad 8 0 0))) 133 (ad 3 s j) (zFj (uFj σ 131 (ad 3 s j) (zFj σ 450 (ad 8 0 0))) 452 (ad 8 0 0))) 132 (ad 3 s j) = co := by simp only [yK_uFi, yL_uFi, yFj_uFi, yFr_uFi, yAi_uFi, yAj_uFi, yAd_uFi, yAr_uFi, yFi_uFi, yK_uFj, yL_uFj, yFi_uFj, yFr_uFj, yAi_uFj, yAj_uFj, yAd_uFj, yAr_uFj, yFj_uFj, yK_uFr, yL_uFr, yFi_uFr, yFj_uFr, yAi_uFr, yAj_uFr, yAd_uFr, yAr_uFr, yFr_uFr, yK_uAi, yL_uAi, yFi_uAi, yFj_uAi, yFr_uAi, yAj_uAi, yAd_uAi, yAr_uAi, yAi_uAi, yK_uAj, yL_uAj, yFi_uAj, yFj_uAj, yFr_uAj, yAi_uAj, yAd_uAj, yAr_uAj, yAj_uAj, yK_uAd, yL_uAd, yFi_uAd, yFj_uAd, yFr_uAd, yAi_uAd, yAj_uAd, yAr_uAd, yAd_uAd, yK_uAr, yL_uAr, yFi_uAr, yFj_uAr, yFr_uAr, yAi_uAr, yAj_uAr, yAd_uAr, yAr_uAr, yK_uCi, yL_uCi, yFi_uCi, yFj_uCi, yFr_uCi, yAj_uCi, yAd_uCi, yAr_uCi, yK_uCj, yL_uCj, yFi_uCj, yFj_uCj, yFr_uCj, yAi_uCj, yAd_uCj, yAr_uCj, yK_uCx, yL_uCx, yFi_uCx, yFj_uCx, yFr_uCx, yAi_uCx, yAd_uCx, yAr_uCx, yK_nO, yL_nO, yFi_nO, yFj_nO, yFr_nO, yAi_nO, yAj_nO, yAd_nO, yAr_nO, yK_nA, yL_nA, yFi_nA, yFj_nA, yFr_nA, yAi_nA, yAj_nA, yAd_nA, yAr_nA, yK_nC, yL_nC, yFi_nC, yFj_nC, yFr_nC, yAi_nC, yAj_nC, yAd_nC, yAr_nC, yu2, yAi_uCi', yAj_uCj', yAj_uCx', Option.some.injEq, exists_eq_left', true_and, and_true, not_false_eq_true, forall_const, false_and, and_false, reduceIte, Nat.reduceEqDiff, ne_eq]; exact i5
  have a5 : zFj (uFj (uFi (uFj σ 131 (ad 3 s j) (zFj σ 450 (ad 8 0 0))) 132 (ad 3 s j) (zFi σ 451 (ad 8 0 0))) 133 (ad 3 s j) (zFj (uFj σ 131 (ad 3 s j) (zFj σ 450 (ad 8 0 0))) 452 (ad 8 0 0))) 133 (ad 3 s j) = tr := by simp only [yK_uFi, yL_uFi, yFj_uFi, yFr_uFi, yAi_uFi, yAj_uFi, yAd_uFi, yAr_uFi, yFi_uFi, yK_uFj, yL_uFj, yFi_uFj, yFr_uFj, yAi_uFj, yAj_uFj, yAd_uFj, yAr_uFj, yFj_uFj, yK_uFr, yL_uFr, yFi_uFr, yFj_uFr, yAi_uFr, yAj_uFr, yAd_uFr, yAr_uFr, yFr_uFr, yK_uAi, yL_uAi, yFi_uAi, yFj_uAi, yFr_uAi, yAj_uAi, yAd_uAi, yAr_uAi, yAi_uAi, yK_uAj, yL_uAj, yFi_uAj, yFj_uAj, yFr_uAj, yAi_uAj, yAd_uAj, yAr_uAj, yAj_uAj, yK_uAd, yL_uAd, yFi_uAd, yFj_uAd, yFr_uAd, yAi_uAd, yAj_uAd, yAr_uAd, yAd_uAd, yK_uAr, yL_uAr, yFi_uAr, yFj_uAr, yFr_uAr, yAi_uAr, yAj_uAr, yAd_uAr, yAr_uAr, yK_uCi, yL_uCi, yFi_uCi, yFj_uCi, yFr_uCi, yAj_uCi, yAd_uCi, yAr_uCi, yK_uCj, yL_uCj, yFi_uCj, yFj_uCj, yFr_uCj, yAi_uCj, yAd_uCj, yAr_uCj, yK_uCx, yL_uCx, yFi_uCx, yFj_uCx, yFr_uCx, yAi_uCx, yAd_uCx, yAr_uCx, yK_nO, yL_nO, yFi_nO, yFj_nO, yFr_nO, yAi_nO, yAj_nO, yAd_nO, yAr_nO, yK_nA, yL_nA, yFi_nA, yFj_nA, yFr_nA, yAi_nA, yAj_nA, yAd_nA, yAr_nA, yK_nC, yL_nC, yFi_nC, yFj_nC, yFr_nC, yAi_nC, yAj_nC, yAd_nC, yAr_nC, yu2, yAi_uCi', yAj_uCj', yAj_uCx', Option.some.injEq, exists_eq_left', true_and, and_true, not_false_eq_true, forall_const, false_and, and_false, reduceIte, Nat.reduceEqDiff, ne_eq, ne]; exact i6
  have a6 : Slf ad σ (uFj (uFi (uFj σ 131 (ad 3 s j) (zFj σ 450 (ad 8 0 0))) 132 (ad 3 s j) (zFi σ 451 (ad 8 0 0))) 133 (ad 3 s j) (zFj (uFj σ 131 (ad 3 s j) (zFj σ 450 (ad 8 0 0))) 452 (ad 8 0 0))) s j := fun j' h1 h2 => by
    have m3 : ad 3 s j' ≠ ad 3 s j := fun z => h2 (j3 h hs h1 hj z)
    refine ⟨fun g => ?_, fun g => ?_, fun i => ?_, fun i => ?_⟩
    · simp only [yK_uFi, yL_uFi, yFj_uFi, yFr_uFi, yAi_uFi, yAj_uFi, yAd_uFi, yAr_uFi, yFi_uFi, yK_uFj, yL_uFj, yFi_uFj, yFr_uFj, yAi_uFj, yAj_uFj, yAd_uFj, yAr_uFj, yFj_uFj, yK_uFr, yL_uFr, yFi_uFr, yFj_uFr, yAi_uFr, yAj_uFr, yAd_uFr, yAr_uFr, yFr_uFr, yK_uAi, yL_uAi, yFi_uAi, yFj_uAi, yFr_uAi, yAj_uAi, yAd_uAi, yAr_uAi, yAi_uAi, yK_uAj, yL_uAj, yFi_uAj, yFj_uAj, yFr_uAj, yAi_uAj, yAd_uAj, yAr_uAj, yAj_uAj, yK_uAd, yL_uAd, yFi_uAd, yFj_uAd, yFr_uAd, yAi_uAd, yAj_uAd, yAr_uAd, yAd_uAd, yK_uAr, yL_uAr, yFi_uAr, yFj_uAr, yFr_uAr, yAi_uAr, yAj_uAr, yAd_uAr, yAr_uAr, yK_uCi, yL_uCi, yFi_uCi, yFj_uCi, yFr_uCi, yAj_uCi, yAd_uCi, yAr_uCi, yK_uCj, yL_uCj, yFi_uCj, yFj_uCj, yFr_uCj, yAi_uCj, yAd_uCj, yAr_uCj, yK_uCx, yL_uCx, yFi_uCx, yFj_uCx, yFr_uCx, yAi_uCx, yAd_uCx, yAr_uCx, yK_nO, yL_nO, yFi_nO, yFj_nO, yFr_nO, yAi_nO, yAj_nO, yAd_nO, yAr_nO, yK_nA, yL_nA, yFi_nA, yFj_nA, yFr_nA, yAi_nA, yAj_nA, yAd_nA, yAr_nA, yK_nC, yL_nC, yFi_nC, yFj_nC, yFr_nC, yAi_nC, yAj_nC, yAd_nC, yAr_nC, yu2, yAi_uCi', yAj_uCj', yAj_uCx', Option.some.injEq, exists_eq_left', true_and, and_true, not_false_eq_true, forall_const, false_and, and_false, reduceIte, Nat.reduceEqDiff, ne_eq, m3]
    · simp only [yK_uFi, yL_uFi, yFj_uFi, yFr_uFi, yAi_uFi, yAj_uFi, yAd_uFi, yAr_uFi, yFi_uFi, yK_uFj, yL_uFj, yFi_uFj, yFr_uFj, yAi_uFj, yAj_uFj, yAd_uFj, yAr_uFj, yFj_uFj, yK_uFr, yL_uFr, yFi_uFr, yFj_uFr, yAi_uFr, yAj_uFr, yAd_uFr, yAr_uFr, yFr_uFr, yK_uAi, yL_uAi, yFi_uAi, yFj_uAi, yFr_uAi, yAj_uAi, yAd_uAi, yAr_uAi, yAi_uAi, yK_uAj, yL_uAj, yFi_uAj, yFj_uAj, yFr_uAj, yAi_uAj, yAd_uAj, yAr_uAj, yAj_uAj, yK_uAd, yL_uAd, yFi_uAd, yFj_uAd, yFr_uAd, yAi_uAd, yAj_uAd, yAr_uAd, yAd_uAd, yK_uAr, yL_uAr, yFi_uAr, yFj_uAr, yFr_uAr, yAi_uAr, yAj_uAr, yAd_uAr, yAr_uAr, yK_uCi, yL_uCi, yFi_uCi, yFj_uCi, yFr_uCi, yAj_uCi, yAd_uCi, yAr_uCi, yK_uCj, yL_uCj, yFi_uCj, yFj_uCj, yFr_uCj, yAi_uCj, yAd_uCj, yAr_uCj, yK_uCx, yL_uCx, yFi_uCx, yFj_uCx, yFr_uCx, yAi_uCx, yAd_uCx, yAr_uCx, yK_nO, yL_nO, yFi_nO, yFj_nO, yFr_nO, yAi_nO, yAj_nO, yAd_nO, yAr_nO, yK_nA, yL_nA, yFi_nA, yFj_nA, yFr_nA, yAi_nA, yAj_nA, yAd_nA, yAr_nA, yK_nC, yL_nC, yFi_nC, yFj_nC, yFr_nC, yAi_nC, yAj_nC, yAd_nC, yAr_nC, yu2, yAi_uCi', yAj_uCj', yAj_uCx', Option.some.injEq, exists_eq_left', true_and, and_true, not_false_eq_true, forall_const, false_and, and_false, reduceIte, Nat.reduceEqDiff, ne_eq, m3]
    · simp only [yK_uFi, yL_uFi, yFj_uFi, yFr_uFi, yAi_uFi, yAj_uFi, yAd_uFi, yAr_uFi, yFi_uFi, yK_uFj, yL_uFj, yFi_uFj, yFr_uFj, yAi_uFj, yAj_uFj, yAd_uFj, yAr_uFj, yFj_uFj, yK_uFr, yL_uFr, yFi_uFr, yFj_uFr, yAi_uFr, yAj_uFr, yAd_uFr, yAr_uFr, yFr_uFr, yK_uAi, yL_uAi, yFi_uAi, yFj_uAi, yFr_uAi, yAj_uAi, yAd_uAi, yAr_uAi, yAi_uAi, yK_uAj, yL_uAj, yFi_uAj, yFj_uAj, yFr_uAj, yAi_uAj, yAd_uAj, yAr_uAj, yAj_uAj, yK_uAd, yL_uAd, yFi_uAd, yFj_uAd, yFr_uAd, yAi_uAd, yAj_uAd, yAr_uAd, yAd_uAd, yK_uAr, yL_uAr, yFi_uAr, yFj_uAr, yFr_uAr, yAi_uAr, yAj_uAr, yAd_uAr, yAr_uAr, yK_uCi, yL_uCi, yFi_uCi, yFj_uCi, yFr_uCi, yAj_uCi, yAd_uCi, yAr_uCi, yK_uCj, yL_uCj, yFi_uCj, yFj_uCj, yFr_uCj, yAi_uCj, yAd_uCj, yAr_uCj, yK_uCx, yL_uCx, yFi_uCx, yFj_uCx, yFr_uCx, yAi_uCx, yAd_uCx, yAr_uCx, yK_nO, yL_nO, yFi_nO, yFj_nO, yFr_nO, yAi_nO, yAj_nO, yAd_nO, yAr_nO, yK_nA, yL_nA, yFi_nA, yFj_nA, yFr_nA, yAi_nA, yAj_nA, yAd_nA, yAr_nA, yK_nC, yL_nC, yFi_nC, yFj_nC, yFr_nC, yAi_nC, yAj_nC, yAd_nC, yAr_nC, yu2, yAi_uCi', yAj_uCj', yAj_uCx', Option.some.injEq, exists_eq_left', true_and, and_true, not_false_eq_true, forall_const, false_and, and_false, reduceIte, Nat.reduceEqDiff, ne_eq]
    · simp only [yK_uFi, yL_uFi, yFj_uFi, yFr_uFi, yAi_uFi, yAj_uFi, yAd_uFi, yAr_uFi, yFi_uFi, yK_uFj, yL_uFj, yFi_uFj, yFr_uFj, yAi_uFj, yAj_uFj, yAd_uFj, yAr_uFj, yFj_uFj, yK_uFr, yL_uFr, yFi_uFr, yFj_uFr, yAi_uFr, yAj_uFr, yAd_uFr, yAr_uFr, yFr_uFr, yK_uAi, yL_uAi, yFi_uAi, yFj_uAi, yFr_uAi, yAj_uAi, yAd_uAi, yAr_uAi, yAi_uAi, yK_uAj, yL_uAj, yFi_uAj, yFj_uAj, yFr_uAj, yAi_uAj, yAd_uAj, yAr_uAj, yAj_uAj, yK_uAd, yL_uAd, yFi_uAd, yFj_uAd, yFr_uAd, yAi_uAd, yAj_uAd, yAr_uAd, yAd_uAd, yK_uAr, yL_uAr, yFi_uAr, yFj_uAr, yFr_uAr, yAi_uAr, yAj_uAr, yAd_uAr, yAr_uAr, yK_uCi, yL_uCi, yFi_uCi, yFj_uCi, yFr_uCi, yAj_uCi, yAd_uCi, yAr_uCi, yK_uCj, yL_uCj, yFi_uCj, yFj_uCj, yFr_uCj, yAi_uCj, yAd_uCj, yAr_uCj, yK_uCx, yL_uCx, yFi_uCx, yFj_uCx, yFr_uCx, yAi_uCx, yAd_uCx, yAr_uCx, yK_nO, yL_nO, yFi_nO, yFj_nO, yFr_nO, yAi_nO, yAj_nO, yAd_nO, yAr_nO, yK_nA, yL_nA, yFi_nA, yFj_nA, yFr_nA, yAi_nA, yAj_nA, yAd_nA, yAr_nA, yK_nC, yL_nC, yFi_nC, yFj_nC, yFr_nC, yAi_nC, yAj_nC, yAd_nC, yAr_nC, yu2, yAi_uCi', yAj_uCj', yAj_uCx', Option.some.injEq, exists_eq_left', true_and, and_true, not_false_eq_true, forall_const, false_and, and_false, reduceIte, Nat.reduceEqDiff, ne_eq]
  generalize uFj (uFi (uFj σ 131 (ad 3 s j) (zFj σ 450 (ad 8 0 0))) 132 (ad 3 s j) (zFi σ 451 (ad 8 0 0))) 133 (ad 3 s j) (zFj (uFj σ 131 (ad 3 s j) (zFj σ 450 (ad 8 0 0))) 452 (ad 8 0 0)) = ρ at f1 a1 a2 a3 a4 a5 a6 ⊢
  have hρ : Sh ad ct ρ := h.frC (f1.mono (fun p q => SN_SC s p (by rcases q with q | q <;> simp [SN, q])))
  refine C_give hρ hs hj a1 a2 hl (fun z => ⟨Or.inl rfl, h0 ρ z f1⟩) (fun l16 k σ2 kp ks G ka => ⟨Or.inr rfl, ?_⟩)
  have fG : Fr ct (S39 s) ρ σ2 := G.1.mono (fun p q => Or.inr q)
  have n3 : ∀ j', j' < room s → ct (ad 3 s j') ≠ (129, s) := fun j' hj' z => by rw [c3 h hs hj'] at z; cases z
  refine h1 _ k l16 kp ks ((f1.tr1 fG).uFi _ _ _ z3) (a6.tr (fun j' h1 h2 => ?_)) (fun cl r => ⟨by rw [show (r, k, c, co, tr).2.1 = k from rfl, kp.length_eq]; exact l16, ?_, fun i v hv => ?_, fun _ => ?_, ?_, ?_⟩)
  · have m3 : ad 3 s j' ≠ ad 3 s j := fun z => h2 (j3 h hs h1 hj z)
    have d3 := (G.1 (ad 3 s j') (by rw [k3 hρ hs h1]; decide)).2 (by rw [c3 h hs h1]; intro z; cases z)
    have d128 := (G.1 (ad 128 s j') (by rw [k128 hρ hs h1]; decide)).2 (by rw [c128 h hs h1]; intro z; cases z)
    refine ⟨fun g => ?_, fun g => ?_, fun i => ?_, fun i => ?_⟩
    · rw [yFi_uFi, yu2, if_neg (fun z => m3 z.2)]; exact d3.1 g
    · rw [yFj_uFi]; exact d3.2.1 g
    · rw [yAi_uFi]; exact d128.2.2.1 i
    · rw [yAj_uFi]; exact G.2 j' h1 h2 i
  · rw [yFi_uFi, yu2, if_pos ⟨rfl, rfl⟩, show (r, k, c, co, tr).2.1 = k from rfl, kp.length_eq]
  · rw [yAj_uFi]; exact ka i v hv
  · have d3 := (G.1 (ad 3 s j) (by rw [k3 hρ hs hj]; decide)).2 (by rw [c3 h hs hj]; intro z; cases z)
    rw [yFj_uFi]; exact (d3.2.1 _).trans a3
  · have d3 := (G.1 (ad 3 s j) (by rw [k3 hρ hs hj]; decide)).2 (by rw [c3 h hs hj]; intro z; cases z)
    rw [yFi_uFi, yu2, if_neg (fun z => absurd z.1 (by decide))]; exact (d3.1 _).trans a4
  · have d3 := (G.1 (ad 3 s j) (by rw [k3 hρ hs hj]; decide)).2 (by rw [c3 h hs hj]; intro z; cases z)
    rw [yFj_uFi]; exact (d3.2.1 _).trans a5
theorem C_melt3i (h : Sh ad ct σ) {s w : Nat} {cl : Bool} {RAW : List Ans} (hs : s < 40) (qr : AR ad σ 40 RAW w cl) {rs : List (List Int32)} (hp : rs.Pairwise rlt) (hg : ∀ i e, RAW[i]? = some e → ∃ t, rs[t]? = some e.1 ∧ zAi σ (ad 262 0 0) i = nI t) (hrl : rs.length ≤ 32) {t jt : Nat} {r : List Int32} (ht : rs[t]? = some r) (hjt : jt < room s) (ejt : zAr σ (ad 192 s 0) t = some (ad 3 s jt)) {Q : Int32 → St → Prop} {r83 : Nat → Nat → Int32 → St → Prop} (hgo : ∀ σ3 c, GaI ad ct σ σ3 (addA [] (gath RAW r)) c (cstS RAW r) (truS RAW r) → (cl = false → c = cntS RAW r) → wX7_giveAll (ad 8 0 0) (ad 3 s jt) σ3 (fun y16 σ15 => ((¬ y16 = 0 → r83 (ad 5 0 0) (ad 4 s 0) (nI t + 1) σ15) ∧ (y16 = 0 → Q 0 σ15)))) : ∀ (d i : Nat) (σ3 : St) (c : Int64), i + d = RAW.length → GaI ad ct σ σ3 (addA [] (gath (RAW.take i) r)) c (cstS (RAW.take i) r) (truS (RAW.take i) r) → (cl = false → c = cntS (RAW.take i) r) → lX4_melt_100 Q r83 (d + 1) (ad 5 0 0) (ad 4 s 0) (nI t) (nI i) σ3 := by
  have hL := qr.2.2.2.1
  have hr40 : room 40 = 64 := rfl
  have htl := (List.getElem?_eq_some_iff.mp ht).1
  have hrs := room_pos s
  have w16 : ∀ e ∈ RAW, e.2.1.length ≤ 16 := fun e he => by
    obtain ⟨i, hi, rfl⟩ := List.mem_iff_getElem.mp he
    obtain ⟨j, _, _, q⟩ := qr.2.2.2.2 i _ (List.getElem?_eq_getElem hi)
    exact q.2.2.1
  intro d
  induction d with
  | zero =>
    intro i σ3 c hi J hc
    have hi : i = RAW.length := by omega
    have h3 := h.frC (J.1.mono SG_SC)
    have q3 := qr.cg h J.1 (by decide) (by simp) (by simp) (by simp) (by simp) (by simp)
    rw [hi, List.take_length] at J hc
    refine ⟨k5 h3, _, p260 h3, k4 h3 (by decide), fun _ => ⟨_, p259 h3, k4 h3 (by omega), _, p192 h3 (by omega), k192 h3 (by omega), by rw [l192 h3 (by omega)]; exact vp_in_nI (by omega) (by have := room_le s; omega), _, ?_, k8 h3, hgo σ3 c J hc⟩, fun z => absurd ?_ z⟩
    · rw [show ix (nI t) = t from nI_clamp (by omega)]
      exact (J.1.ar (k192 h (by omega)) (by decide) (c192 h (by omega)) (by simp) t).trans ejt
    · rw [q3.1, hi]; exact nI_le (Nat.le_refl _) (by omega)
  | succ d ih =>
    intro i σ3 c hi J hc
    have h3 := h.frC (J.1.mono SG_SC)
    have q3 := qr.cg h J.1 (by decide) (by simp) (by simp) (by simp) (by simp) (by simp)
    obtain ⟨e, he⟩ : ∃ e, RAW[i]? = some e := ⟨_, List.getElem?_eq_getElem (by omega)⟩
    obtain ⟨j, b1, b2, b3⟩ := qr.2.2.2.2 i e he
    obtain ⟨t2, g1, g2⟩ := hg i e he
    have ht2 := (List.getElem?_eq_some_iff.mp g1).1
    have g3 : zAi σ3 (ad 262 0 0) i = nI t2 := (J.1.ai (k262 h) (by decide) (c262 h) (by simp) i).trans g2
    have b23 : zAr σ3 (ad 192 40 0) i = some (ad 3 40 j) := (J.1.ar (k192 h (by decide)) (by decide) (c192 h (by decide)) (by simp) i).trans b2
    refine ⟨k5 h3, _, p260 h3, k4 h3 (by decide), fun z => absurd z (by rw [q3.1]; exact nI_ge (by omega) (by omega)), fun _ => ⟨_, p262 h3, k262 h3, by rw [l262 h3]; exact vp_in_nI (by omega) (by decide), ?_⟩⟩
    rw [show ix (nI i) = i from nI_clamp (by omega), g3]
    have un : t2 = t ↔ e.1 = r := by
      constructor
      · intro z
        rw [z, ht] at g1
        exact (Option.some.inj g1).symm
      · intro z
        rw [z] at g1
        have pw := List.pairwise_iff_getElem.mp hp
        have e1 := (List.getElem?_eq_some_iff.mp g1).2
        have e2 := (List.getElem?_eq_some_iff.mp ht).2
        rcases Nat.lt_trichotomy t2 t with y | y | y
        · have := pw t2 t ht2 htl y
          rw [e1, e2] at this
          exact absurd this (rlt_ir r)
        · exact y
        · have := pw t t2 htl ht2 y
          rw [e1, e2] at this
          exact absurd this (rlt_ir r)
    refine ⟨fun z => ?_, fun z => ⟨_, p259 h3, _, p192 h3 (by decide), k192 h3 (by decide), by rw [l192 h3 (by decide)]; exact vp_in_nI (by omega) (by decide), _, b23, k8 h3, ?_⟩⟩
    · have ne : ¬ e.1 = r := fun y => z (by rw [un.mpr y])
      obtain ⟨n1, n2, n3, n4⟩ := sel_n he ne
      rw [nI_1]
      exact ih (i + 1) σ3 c (by omega) (by rw [n1, n3, n4]; exact J) (by rw [n2]; exact hc)
    · have ey : e.1 = r := un.mp (by
        have z := congrArg Int32.toInt z
        rw [nI_toInt (by omega), nI_toInt (by omega)] at z
        omega)
      obtain ⟨n1, n2, n3, n4⟩ := sel_y he ey
      have ln := addA_len (gath (RAW.take i) r) []
      have gl := gath_len (raw := RAW.take i) (fun x hx => w16 x (List.mem_of_mem_take hx)) r
      rw [List.length_take] at gl
      have he16 := w16 e (List.mem_of_getElem? he)
      refine C_addWays h (by decide) b1 b3 (addA_anti _ List.Pairwise.nil) (by rw [List.length_nil] at ln; omega) J (fun σ4 J4 => ?_)
      have h4 := h.frC (J4.1.mono SG_SC)
      have b24 : zAr σ4 (ad 192 40 0) i = some (ad 3 40 j) := (J4.1.ar (k192 h (by decide)) (by decide) (c192 h (by decide)) (by simp) i).trans b2
      refine ⟨k5 h4, _, p259 h4, _, p260 h4, k4 h4 (by decide), _, p192 h4 (by decide), k192 h4 (by decide), by rw [l192 h4 (by decide)]; exact vp_in_nI (by omega) (by decide), _, by exact b24, k8 h4, ?_⟩
      refine C_addRead h (by decide) b1 b3 J4 (fun σ5 x hx J5 => ?_)
      rw [nI_1]
      refine ih (i + 1) σ5 (c + x) (by omega) ?_ (fun z => by rw [n2, hc z, hx z])
      rw [n1, n3, n4, addA_app]
      exact J5
end MJ
