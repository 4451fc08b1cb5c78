/-! the class: CLOSE -/
section NG
variable {ad : Ad} {ct : Ct} {σ : St}
theorem RCl.bare {A L : List Ans} (h : RCl A L) : RCl A (L.map bare) := h.rows (bare_rows L).symm
theorem upd3 (h : Sh ad ct σ) {k j : Nat} (hk : k < 43) (hj : j < room k) {e : Ans} (q : AnsAt ad σ k j 2 true e) {co : Int32} {tr : Int64} : Fr ct (fun p => p = (3, k)) σ (uFj (uFi σ 132 (ad 3 k j) co) 133 (ad 3 k j) tr) ∧ Slf ad σ (uFj (uFi σ 132 (ad 3 k j) co) 133 (ad 3 k j) tr) k j ∧ AnsAt ad (uFj (uFi σ 132 (ad 3 k j) co) 133 (ad 3 k j) tr) k j 2 true (e.1, e.2.1, e.2.2.1, co, tr) := by
  have z : (fun p : Nat × Nat => p = (3, k)) (ct (ad 3 k j)) ∨ zK σ (ad 3 k j) = 0 := Or.inl (c3 h hk hj)
  refine ⟨(Fr.rf.uFi _ _ _ z).uFj _ _ _ z, fun j' h1 h2 => ?_, q.1, fun m v hv => ?_, q.2.2.1, ?_, fun m v hv => ?_, fun z => (by cases z), ?_, ?_⟩
  · have m3 : ad 3 k j' ≠ ad 3 k j := fun z => h2 (j3 h hk h1 hj z)
    refine ⟨fun g => ?_, fun g => ?_, fun i => ?_, fun i => ?_⟩
    · simp only [yK_uFi, yL_uFi, yFj_uFi, yFr_uFi, yAi_uFi, yAj_uFi, yAd_uFi, yAr_uFi, yFi_uFi, yK_uFj, yL_uFj, yFi_uFj, yFr_uFj, yAi_uFj, yAj_uFj, yAd_uFj, yAr_uFj, yFj_uFj, yK_uFr, yL_uFr, yFi_uFr, yFj_uFr, yAi_uFr, yAj_uFr, yAd_uFr, yAr_uFr, yFr_uFr, yK_uAi, yL_uAi, yFi_uAi, yFj_uAi, yFr_uAi, yAj_uAi, yAd_uAi, yAr_uAi, yAi_uAi, yK_uAj, yL_uAj, yFi_uAj, yFj_uAj, yFr_uAj, yAi_uAj, yAd_uAj, yAr_uAj, yAj_uAj, yK_uAd, yL_uAd, yFi_uAd, yFj_uAd, yFr_uAd, yAi_uAd, yAj_uAd, yAr_uAd, yAd_uAd, yK_uAr, yL_uAr, yFi_uAr, yFj_uAr, yFr_uAr, yAi_uAr, yAj_uAr, yAd_uAr, yAr_uAr, yK_uCi, yL_uCi, yFi_uCi, yFj_uCi, yFr_uCi, yAj_uCi, yAd_uCi, yAr_uCi, yK_uCj, yL_uCj, yFi_uCj, yFj_uCj, yFr_uCj, yAi_uCj, yAd_uCj, yAr_uCj, yK_uCx, yL_uCx, yFi_uCx, yFj_uCx, yFr_uCx, yAi_uCx, yAd_uCx, yAr_uCx, yK_nO, yL_nO, yFi_nO, yFj_nO, yFr_nO, yAi_nO, yAj_nO, yAd_nO, yAr_nO, yK_nA, yL_nA, yFi_nA, yFj_nA, yFr_nA, yAi_nA, yAj_nA, yAd_nA, yAr_nA, yK_nC, yL_nC, yFi_nC, yFj_nC, yFr_nC, yAi_nC, yAj_nC, yAd_nC, yAr_nC, yu2, yAi_uCi', yAj_uCj', yAj_uCx', Option.some.injEq, exists_eq_left', true_and, and_true, not_false_eq_true, forall_const, false_and, and_false, reduceIte, Nat.reduceEqDiff, ne_eq, m3]
    · simp only [yK_uFi, yL_uFi, yFj_uFi, yFr_uFi, yAi_uFi, yAj_uFi, yAd_uFi, yAr_uFi, yFi_uFi, yK_uFj, yL_uFj, yFi_uFj, yFr_uFj, yAi_uFj, yAj_uFj, yAd_uFj, yAr_uFj, yFj_uFj, yK_uFr, yL_uFr, yFi_uFr, yFj_uFr, yAi_uFr, yAj_uFr, yAd_uFr, yAr_uFr, yFr_uFr, yK_uAi, yL_uAi, yFi_uAi, yFj_uAi, yFr_uAi, yAj_uAi, yAd_uAi, yAr_uAi, yAi_uAi, yK_uAj, yL_uAj, yFi_uAj, yFj_uAj, yFr_uAj, yAi_uAj, yAd_uAj, yAr_uAj, yAj_uAj, yK_uAd, yL_uAd, yFi_uAd, yFj_uAd, yFr_uAd, yAi_uAd, yAj_uAd, yAr_uAd, yAd_uAd, yK_uAr, yL_uAr, yFi_uAr, yFj_uAr, yFr_uAr, yAi_uAr, yAj_uAr, yAd_uAr, yAr_uAr, yK_uCi, yL_uCi, yFi_uCi, yFj_uCi, yFr_uCi, yAj_uCi, yAd_uCi, yAr_uCi, yK_uCj, yL_uCj, yFi_uCj, yFj_uCj, yFr_uCj, yAi_uCj, yAd_uCj, yAr_uCj, yK_uCx, yL_uCx, yFi_uCx, yFj_uCx, yFr_uCx, yAi_uCx, yAd_uCx, yAr_uCx, yK_nO, yL_nO, yFi_nO, yFj_nO, yFr_nO, yAi_nO, yAj_nO, yAd_nO, yAr_nO, yK_nA, yL_nA, yFi_nA, yFj_nA, yFr_nA, yAi_nA, yAj_nA, yAd_nA, yAr_nA, yK_nC, yL_nC, yFi_nC, yFj_nC, yFr_nC, yAi_nC, yAj_nC, yAd_nC, yAr_nC, yu2, yAi_uCi', yAj_uCj', yAj_uCx', Option.some.injEq, exists_eq_left', true_and, and_true, not_false_eq_true, forall_const, false_and, and_false, reduceIte, Nat.reduceEqDiff, ne_eq, m3]
    · simp only [yK_uFi, yL_uFi, yFj_uFi, yFr_uFi, yAi_uFi, yAj_uFi, yAd_uFi, yAr_uFi, yFi_uFi, yK_uFj, yL_uFj, yFi_uFj, yFr_uFj, yAi_uFj, yAj_uFj, yAd_uFj, yAr_uFj, yFj_uFj, yK_uFr, yL_uFr, yFi_uFr, yFj_uFr, yAi_uFr, yAj_uFr, yAd_uFr, yAr_uFr, yFr_uFr, yK_uAi, yL_uAi, yFi_uAi, yFj_uAi, yFr_uAi, yAj_uAi, yAd_uAi, yAr_uAi, yAi_uAi, yK_uAj, yL_uAj, yFi_uAj, yFj_uAj, yFr_uAj, yAi_uAj, yAd_uAj, yAr_uAj, yAj_uAj, yK_uAd, yL_uAd, yFi_uAd, yFj_uAd, yFr_uAd, yAi_uAd, yAj_uAd, yAr_uAd, yAd_uAd, yK_uAr, yL_uAr, yFi_uAr, yFj_uAr, yFr_uAr, yAi_uAr, yAj_uAr, yAd_uAr, yAr_uAr, yK_uCi, yL_uCi, yFi_uCi, yFj_uCi, yFr_uCi, yAj_uCi, yAd_uCi, yAr_uCi, yK_uCj, yL_uCj, yFi_uCj, yFj_uCj, yFr_uCj, yAi_uCj, yAd_uCj, yAr_uCj, yK_uCx, yL_uCx, yFi_uCx, yFj_uCx, yFr_uCx, yAi_uCx, yAd_uCx, yAr_uCx, yK_nO, yL_nO, yFi_nO, yFj_nO, yFr_nO, yAi_nO, yAj_nO, yAd_nO, yAr_nO, yK_nA, yL_nA, yFi_nA, yFj_nA, yFr_nA, yAi_nA, yAj_nA, yAd_nA, yAr_nA, yK_nC, yL_nC, yFi_nC, yFj_nC, yFr_nC, yAi_nC, yAj_nC, yAd_nC, yAr_nC, yu2, yAi_uCi', yAj_uCj', yAj_uCx', Option.some.injEq, exists_eq_left', true_and, and_true, not_false_eq_true, forall_const, false_and, and_false, reduceIte, Nat.reduceEqDiff, ne_eq]
    · simp only [yK_uFi, yL_uFi, yFj_uFi, yFr_uFi, yAi_uFi, yAj_uFi, yAd_uFi, yAr_uFi, yFi_uFi, yK_uFj, yL_uFj, yFi_uFj, yFr_uFj, yAi_uFj, yAj_uFj, yAd_uFj, yAr_uFj, yFj_uFj, yK_uFr, yL_uFr, yFi_uFr, yFj_uFr, yAi_uFr, yAj_uFr, yAd_uFr, yAr_uFr, yFr_uFr, yK_uAi, yL_uAi, yFi_uAi, yFj_uAi, yFr_uAi, yAj_uAi, yAd_uAi, yAr_uAi, yAi_uAi, yK_uAj, yL_uAj, yFi_uAj, yFj_uAj, yFr_uAj, yAi_uAj, yAd_uAj, yAr_uAj, yAj_uAj, yK_uAd, yL_uAd, yFi_uAd, yFj_uAd, yFr_uAd, yAi_uAd, yAj_uAd, yAr_uAd, yAd_uAd, yK_uAr, yL_uAr, yFi_uAr, yFj_uAr, yFr_uAr, yAi_uAr, yAj_uAr, yAd_uAr, yAr_uAr, yK_uCi, yL_uCi, yFi_uCi, yFj_uCi, yFr_uCi, yAj_uCi, yAd_uCi, yAr_uCi, yK_uCj, yL_uCj, yFi_uCj, yFj_uCj, yFr_uCj, yAi_uCj, yAd_uCj, yAr_uCj, yK_uCx, yL_uCx, yFi_uCx, yFj_uCx, yFr_uCx, yAi_uCx, yAd_uCx, yAr_uCx, yK_nO, yL_nO, yFi_nO, yFj_nO, yFr_nO, yAi_nO, yAj_nO, yAd_nO, yAr_nO, yK_nA, yL_nA, yFi_nA, yFj_nA, yFr_nA, yAi_nA, yAj_nA, yAd_nA, yAr_nA, yK_nC, yL_nC, yFi_nC, yFj_nC, yFr_nC, yAi_nC, yAj_nC, yAd_nC, yAr_nC, yu2, yAi_uCi', yAj_uCj', yAj_uCx', Option.some.injEq, exists_eq_left', true_and, and_true, not_false_eq_true, forall_const, false_and, and_false, reduceIte, Nat.reduceEqDiff, ne_eq]
  · simp only [yK_uFi, yL_uFi, yFj_uFi, yFr_uFi, yAi_uFi, yAj_uFi, yAd_uFi, yAr_uFi, yFi_uFi, yK_uFj, yL_uFj, yFi_uFj, yFr_uFj, yAi_uFj, yAj_uFj, yAd_uFj, yAr_uFj, yFj_uFj, yK_uFr, yL_uFr, yFi_uFr, yFj_uFr, yAi_uFr, yAj_uFr, yAd_uFr, yAr_uFr, yFr_uFr, yK_uAi, yL_uAi, yFi_uAi, yFj_uAi, yFr_uAi, yAj_uAi, yAd_uAi, yAr_uAi, yAi_uAi, yK_uAj, yL_uAj, yFi_uAj, yFj_uAj, yFr_uAj, yAi_uAj, yAd_uAj, yAr_uAj, yAj_uAj, yK_uAd, yL_uAd, yFi_uAd, yFj_uAd, yFr_uAd, yAi_uAd, yAj_uAd, yAr_uAd, yAd_uAd, yK_uAr, yL_uAr, yFi_uAr, yFj_uAr, yFr_uAr, yAi_uAr, yAj_uAr, yAd_uAr, yAr_uAr, yK_uCi, yL_uCi, yFi_uCi, yFj_uCi, yFr_uCi, yAj_uCi, yAd_uCi, yAr_uCi, yK_uCj, yL_uCj, yFi_uCj, yFj_uCj, yFr_uCj, yAi_uCj, yAd_uCj, yAr_uCj, yK_uCx, yL_uCx, yFi_uCx, yFj_uCx, yFr_uCx, yAi_uCx, yAd_uCx, yAr_uCx, yK_nO, yL_nO, yFi_nO, yFj_nO, yFr_nO, yAi_nO, yAj_nO, yAd_nO, yAr_nO, yK_nA, yL_nA, yFi_nA, yFj_nA, yFr_nA, yAi_nA, yAj_nA, yAd_nA, yAr_nA, yK_nC, yL_nC, yFi_nC, yFj_nC, yFr_nC, yAi_nC, yAj_nC, yAd_nC, yAr_nC, yu2, yAi_uCi', yAj_uCj', yAj_uCx', Option.some.injEq, exists_eq_left', true_and, and_true, not_false_eq_true, forall_const, false_and, and_false, reduceIte, Nat.reduceEqDiff, ne_eq]; exact q.2.1 m v hv
  · simp only [yK_uFi, yL_uFi, yFj_uFi, yFr_uFi, yAi_uFi, yAj_uFi, yAd_uFi, yAr_uFi, yFi_uFi, yK_uFj, yL_uFj, yFi_uFj, yFr_uFj, yAi_uFj, yAj_uFj, yAd_uFj, yAr_uFj, yFj_uFj, yK_uFr, yL_uFr, yFi_uFr, yFj_uFr, yAi_uFr, yAj_uFr, yAd_uFr, yAr_uFr, yFr_uFr, yK_uAi, yL_uAi, yFi_uAi, yFj_uAi, yFr_uAi, yAj_uAi, yAd_uAi, yAr_uAi, yAi_uAi, yK_uAj, yL_uAj, yFi_uAj, yFj_uAj, yFr_uAj, yAi_uAj, yAd_uAj, yAr_uAj, yAj_uAj, yK_uAd, yL_uAd, yFi_uAd, yFj_uAd, yFr_uAd, yAi_uAd, yAj_uAd, yAr_uAd, yAd_uAd, yK_uAr, yL_uAr, yFi_uAr, yFj_uAr, yFr_uAr, yAi_uAr, yAj_uAr, yAd_uAr, yAr_uAr, yK_uCi, yL_uCi, yFi_uCi, yFj_uCi, yFr_uCi, yAj_uCi, yAd_uCi, yAr_uCi, yK_uCj, yL_uCj, yFi_uCj, yFj_uCj, yFr_uCj, yAi_uCj, yAd_uCj, yAr_uCj, yK_uCx, yL_uCx, yFi_uCx, yFj_uCx, yFr_uCx, yAi_uCx, yAd_uCx, yAr_uCx, yK_nO, yL_nO, yFi_nO, yFj_nO, yFr_nO, yAi_nO, yAj_nO, yAd_nO, yAr_nO, yK_nA, yL_nA, yFi_nA, yFj_nA, yFr_nA, yAi_nA, yAj_nA, yAd_nA, yAr_nA, yK_nC, yL_nC, yFi_nC, yFj_nC, yFr_nC, yAi_nC, yAj_nC, yAd_nC, yAr_nC, yu2, yAi_uCi', yAj_uCj', yAj_uCx', Option.some.injEq, exists_eq_left', true_and, and_true, not_false_eq_true, forall_const, false_and, and_false, reduceIte, Nat.reduceEqDiff, ne_eq]; exact q.2.2.2.1
  · simp only [yK_uFi, yL_uFi, yFj_uFi, yFr_uFi, yAi_uFi, yAj_uFi, yAd_uFi, yAr_uFi, yFi_uFi, yK_uFj, yL_uFj, yFi_uFj, yFr_uFj, yAi_uFj, yAj_uFj, yAd_uFj, yAr_uFj, yFj_uFj, yK_uFr, yL_uFr, yFi_uFr, yFj_uFr, yAi_uFr, yAj_uFr, yAd_uFr, yAr_uFr, yFr_uFr, yK_uAi, yL_uAi, yFi_uAi, yFj_uAi, yFr_uAi, yAj_uAi, yAd_uAi, yAr_uAi, yAi_uAi, yK_uAj, yL_uAj, yFi_uAj, yFj_uAj, yFr_uAj, yAi_uAj, yAd_uAj, yAr_uAj, yAj_uAj, yK_uAd, yL_uAd, yFi_uAd, yFj_uAd, yFr_uAd, yAi_uAd, yAj_uAd, yAr_uAd, yAd_uAd, yK_uAr, yL_uAr, yFi_uAr, yFj_uAr, yFr_uAr, yAi_uAr, yAj_uAr, yAd_uAr, yAr_uAr, yK_uCi, yL_uCi, yFi_uCi, yFj_uCi, yFr_uCi, yAj_uCi, yAd_uCi, yAr_uCi, yK_uCj, yL_uCj, yFi_uCj, yFj_uCj, yFr_uCj, yAi_uCj, yAd_uCj, yAr_uCj, yK_uCx, yL_uCx, yFi_uCx, yFj_uCx, yFr_uCx, yAi_uCx, yAd_uCx, yAr_uCx, yK_nO, yL_nO, yFi_nO, yFj_nO, yFr_nO, yAi_nO, yAj_nO, yAd_nO, yAr_nO, yK_nA, yL_nA, yFi_nA, yFj_nA, yFr_nA, yAi_nA, yAj_nA, yAd_nA, yAr_nA, yK_nC, yL_nC, yFi_nC, yFj_nC, yFr_nC, yAi_nC, yAj_nC, yAd_nC, yAr_nC, yu2, yAi_uCi', yAj_uCj', yAj_uCx', Option.some.injEq, exists_eq_left', true_and, and_true, not_false_eq_true, forall_const, false_and, and_false, reduceIte, Nat.reduceEqDiff, ne_eq]; exact q.2.2.2.2.1 m v hv
  · simp only [yK_uFi, yL_uFi, yFj_uFi, yFr_uFi, yAi_uFi, yAj_uFi, yAd_uFi, yAr_uFi, yFi_uFi, yK_uFj, yL_uFj, yFi_uFj, yFr_uFj, yAi_uFj, yAj_uFj, yAd_uFj, yAr_uFj, yFj_uFj, yK_uFr, yL_uFr, yFi_uFr, yFj_uFr, yAi_uFr, yAj_uFr, yAd_uFr, yAr_uFr, yFr_uFr, yK_uAi, yL_uAi, yFi_uAi, yFj_uAi, yFr_uAi, yAj_uAi, yAd_uAi, yAr_uAi, yAi_uAi, yK_uAj, yL_uAj, yFi_uAj, yFj_uAj, yFr_uAj, yAi_uAj, yAd_uAj, yAr_uAj, yAj_uAj, yK_uAd, yL_uAd, yFi_uAd, yFj_uAd, yFr_uAd, yAi_uAd, yAj_uAd, yAr_uAd, yAd_uAd, yK_uAr, yL_uAr, yFi_uAr, yFj_uAr, yFr_uAr, yAi_uAr, yAj_uAr, yAd_uAr, yAr_uAr, yK_uCi, yL_uCi, yFi_uCi, yFj_uCi, yFr_uCi, yAj_uCi, yAd_uCi, yAr_uCi, yK_uCj, yL_uCj, yFi_uCj, yFj_uCj, yFr_uCj, yAi_uCj, yAd_uCj, yAr_uCj, yK_uCx, yL_uCx, yFi_uCx, yFj_uCx, yFr_uCx, yAi_uCx, yAd_uCx, yAr_uCx, yK_nO, yL_nO, yFi_nO, yFj_nO, yFr_nO, yAi_nO, yAj_nO, yAd_nO, yAr_nO, yK_nA, yL_nA, yFi_nA, yFj_nA, yFr_nA, yAi_nA, yAj_nA, yAd_nA, yAr_nA, yK_nC, yL_nC, yFi_nC, yFj_nC, yFr_nC, yAi_nC, yAj_nC, yAd_nC, yAr_nC, yu2, yAi_uCi', yAj_uCj', yAj_uCx', Option.some.injEq, exists_eq_left', true_and, and_true, not_false_eq_true, forall_const, false_and, and_false, reduceIte, Nat.reduceEqDiff, ne_eq]
  · simp only [yK_uFi, yL_uFi, yFj_uFi, yFr_uFi, yAi_uFi, yAj_uFi, yAd_uFi, yAr_uFi, yFi_uFi, yK_uFj, yL_uFj, yFi_uFj, yFr_uFj, yAi_uFj, yAj_uFj, yAd_uFj, yAr_uFj, yFj_uFj, yK_uFr, yL_uFr, yFi_uFr, yFj_uFr, yAi_uFr, yAj_uFr, yAd_uFr, yAr_uFr, yFr_uFr, yK_uAi, yL_uAi, yFi_uAi, yFj_uAi, yFr_uAi, yAj_uAi, yAd_uAi, yAr_uAi, yAi_uAi, yK_uAj, yL_uAj, yFi_uAj, yFj_uAj, yFr_uAj, yAi_uAj, yAd_uAj, yAr_uAj, yAj_uAj, yK_uAd, yL_uAd, yFi_uAd, yFj_uAd, yFr_uAd, yAi_uAd, yAj_uAd, yAr_uAd, yAd_uAd, yK_uAr, yL_uAr, yFi_uAr, yFj_uAr, yFr_uAr, yAi_uAr, yAj_uAr, yAd_uAr, yAr_uAr, yK_uCi, yL_uCi, yFi_uCi, yFj_uCi, yFr_uCi, yAj_uCi, yAd_uCi, yAr_uCi, yK_uCj, yL_uCj, yFi_uCj, yFj_uCj, yFr_uCj, yAi_uCj, yAd_uCj, yAr_uCj, yK_uCx, yL_uCx, yFi_uCx, yFj_uCx, yFr_uCx, yAi_uCx, yAd_uCx, yAr_uCx, yK_nO, yL_nO, yFi_nO, yFj_nO, yFr_nO, yAi_nO, yAj_nO, yAd_nO, yAr_nO, yK_nA, yL_nA, yFi_nA, yFj_nA, yFr_nA, yAi_nA, yAj_nA, yAd_nA, yAr_nA, yK_nC, yL_nC, yFi_nC, yFj_nC, yFr_nC, yAi_nC, yAj_nC, yAd_nC, yAr_nC, yu2, yAi_uCi', yAj_uCj', yAj_uCx', Option.some.injEq, exists_eq_left', true_and, and_true, not_false_eq_true, forall_const, false_and, and_false, reduceIte, Nat.reduceEqDiff, ne_eq]
theorem S3_SC (k : Nat) : ∀ p : Nat × Nat, p = (3, k) → SC p := fun p q => by subst q; simp [SC]
theorem upd1 (h : Sh ad ct σ) {k j : Nat} (hk : k < 43) (hj : j < room k) {e : Ans} (q : AnsAt ad σ k j 2 true e) {c : Int64} : Fr ct (fun p => p = (3, k)) σ (uFj σ 131 (ad 3 k j) c) ∧ Slf ad σ (uFj σ 131 (ad 3 k j) c) k j ∧ AnsAt ad (uFj σ 131 (ad 3 k j) c) k j 2 true (e.1, e.2.1, c, e.2.2.2) := by
  have z : (fun p : Nat × Nat => p = (3, k)) (ct (ad 3 k j)) ∨ zK σ (ad 3 k j) = 0 := Or.inl (c3 h hk hj)
  refine ⟨Fr.rf.uFj _ _ _ z, fun j' h1 h2 => ?_, q.1, fun m v hv => ?_, q.2.2.1, ?_, fun m v hv => ?_, fun z => (by cases z), ?_, ?_⟩
  · have m3 : ad 3 k j' ≠ ad 3 k j := fun z => h2 (j3 h hk h1 hj z)
    refine ⟨fun g => ?_, fun g => ?_, fun i => ?_, fun i => ?_⟩
    · simp only [yK_uFi, yL_uFi, yFj_uFi, yFr_uFi, yAi_uFi, yAj_uFi, yAd_uFi, yAr_uFi, yFi_uFi, yK_uFj, yL_uFj, yFi_uFj, yFr_uFj, yAi_uFj, yAj_uFj, yAd_uFj, yAr_uFj, yFj_uFj, yK_uFr, yL_uFr, yFi_uFr, yFj_uFr, yAi_uFr, yAj_uFr, yAd_uFr, yAr_uFr, yFr_uFr, yK_uAi, yL_uAi, yFi_uAi, yFj_uAi, yFr_uAi, yAj_uAi, yAd_uAi, yAr_uAi, yAi_uAi, yK_uAj, yL_uAj, yFi_uAj, yFj_uAj, yFr_uAj, yAi_uAj, yAd_uAj, yAr_uAj, yAj_uAj, yK_uAd, yL_uAd, yFi_uAd, yFj_uAd, yFr_uAd, yAi_uAd, yAj_uAd, yAr_uAd, yAd_uAd, yK_uAr, yL_uAr, yFi_uAr, yFj_uAr, yFr_uAr, yAi_uAr, yAj_uAr, yAd_uAr, yAr_uAr, yK_uCi, yL_uCi, yFi_uCi, yFj_uCi, yFr_uCi, yAj_uCi, yAd_uCi, yAr_uCi, yK_uCj, yL_uCj, yFi_uCj, yFj_uCj, yFr_uCj, yAi_uCj, yAd_uCj, yAr_uCj, yK_uCx, yL_uCx, yFi_uCx, yFj_uCx, yFr_uCx, yAi_uCx, yAd_uCx, yAr_uCx, yK_nO, yL_nO, yFi_nO, yFj_nO, yFr_nO, yAi_nO, yAj_nO, yAd_nO, yAr_nO, yK_nA, yL_nA, yFi_nA, yFj_nA, yFr_nA, yAi_nA, yAj_nA, yAd_nA, yAr_nA, yK_nC, yL_nC, yFi_nC, yFj_nC, yFr_nC, yAi_nC, yAj_nC, yAd_nC, yAr_nC, yu2, yAi_uCi', yAj_uCj', yAj_uCx', Option.some.injEq, exists_eq_left', true_and, and_true, not_false_eq_true, forall_const, false_and, and_false, reduceIte, Nat.reduceEqDiff, ne_eq]
    · simp only [yK_uFi, yL_uFi, yFj_uFi, yFr_uFi, yAi_uFi, yAj_uFi, yAd_uFi, yAr_uFi, yFi_uFi, yK_uFj, yL_uFj, yFi_uFj, yFr_uFj, yAi_uFj, yAj_uFj, yAd_uFj, yAr_uFj, yFj_uFj, yK_uFr, yL_uFr, yFi_uFr, yFj_uFr, yAi_uFr, yAj_uFr, yAd_uFr, yAr_uFr, yFr_uFr, yK_uAi, yL_uAi, yFi_uAi, yFj_uAi, yFr_uAi, yAj_uAi, yAd_uAi, yAr_uAi, yAi_uAi, yK_uAj, yL_uAj, yFi_uAj, yFj_uAj, yFr_uAj, yAi_uAj, yAd_uAj, yAr_uAj, yAj_uAj, yK_uAd, yL_uAd, yFi_uAd, yFj_uAd, yFr_uAd, yAi_uAd, yAj_uAd, yAr_uAd, yAd_uAd, yK_uAr, yL_uAr, yFi_uAr, yFj_uAr, yFr_uAr, yAi_uAr, yAj_uAr, yAd_uAr, yAr_uAr, yK_uCi, yL_uCi, yFi_uCi, yFj_uCi, yFr_uCi, yAj_uCi, yAd_uCi, yAr_uCi, yK_uCj, yL_uCj, yFi_uCj, yFj_uCj, yFr_uCj, yAi_uCj, yAd_uCj, yAr_uCj, yK_uCx, yL_uCx, yFi_uCx, yFj_uCx, yFr_uCx, yAi_uCx, yAd_uCx, yAr_uCx, yK_nO, yL_nO, yFi_nO, yFj_nO, yFr_nO, yAi_nO, yAj_nO, yAd_nO, yAr_nO, yK_nA, yL_nA, yFi_nA, yFj_nA, yFr_nA, yAi_nA, yAj_nA, yAd_nA, yAr_nA, yK_nC, yL_nC, yFi_nC, yFj_nC, yFr_nC, yAi_nC, yAj_nC, yAd_nC, yAr_nC, yu2, yAi_uCi', yAj_uCj', yAj_uCx', Option.some.injEq, exists_eq_left', true_and, and_true, not_false_eq_true, forall_const, false_and, and_false, reduceIte, Nat.reduceEqDiff, ne_eq, m3]
    · simp only [yK_uFi, yL_uFi, yFj_uFi, yFr_uFi, yAi_uFi, yAj_uFi, yAd_uFi, yAr_uFi, yFi_uFi, yK_uFj, yL_uFj, yFi_uFj, yFr_uFj, yAi_uFj, yAj_uFj, yAd_uFj, yAr_uFj, yFj_uFj, yK_uFr, yL_uFr, yFi_uFr, yFj_uFr, yAi_uFr, yAj_uFr, yAd_uFr, yAr_uFr, yFr_uFr, yK_uAi, yL_uAi, yFi_uAi, yFj_uAi, yFr_uAi, yAj_uAi, yAd_uAi, yAr_uAi, yAi_uAi, yK_uAj, yL_uAj, yFi_uAj, yFj_uAj, yFr_uAj, yAi_uAj, yAd_uAj, yAr_uAj, yAj_uAj, yK_uAd, yL_uAd, yFi_uAd, yFj_uAd, yFr_uAd, yAi_uAd, yAj_uAd, yAr_uAd, yAd_uAd, yK_uAr, yL_uAr, yFi_uAr, yFj_uAr, yFr_uAr, yAi_uAr, yAj_uAr, yAd_uAr, yAr_uAr, yK_uCi, yL_uCi, yFi_uCi, yFj_uCi, yFr_uCi, yAj_uCi, yAd_uCi, yAr_uCi, yK_uCj, yL_uCj, yFi_uCj, yFj_uCj, yFr_uCj, yAi_uCj, yAd_uCj, yAr_uCj, yK_uCx, yL_uCx, yFi_uCx, yFj_uCx, yFr_uCx, yAi_uCx, yAd_uCx, yAr_uCx, yK_nO, yL_nO, yFi_nO, yFj_nO, yFr_nO, yAi_nO, yAj_nO, yAd_nO, yAr_nO, yK_nA, yL_nA, yFi_nA, yFj_nA, yFr_nA, yAi_nA, yAj_nA, yAd_nA, yAr_nA, yK_nC, yL_nC, yFi_nC, yFj_nC, yFr_nC, yAi_nC, yAj_nC, yAd_nC, yAr_nC, yu2, yAi_uCi', yAj_uCj', yAj_uCx', Option.some.injEq, exists_eq_left', true_and, and_true, not_false_eq_true, forall_const, false_and, and_false, reduceIte, Nat.reduceEqDiff, ne_eq]
    · simp only [yK_uFi, yL_uFi, yFj_uFi, yFr_uFi, yAi_uFi, yAj_uFi, yAd_uFi, yAr_uFi, yFi_uFi, yK_uFj, yL_uFj, yFi_uFj, yFr_uFj, yAi_uFj, yAj_uFj, yAd_uFj, yAr_uFj, yFj_uFj, yK_uFr, yL_uFr, yFi_uFr, yFj_uFr, yAi_uFr, yAj_uFr, yAd_uFr, yAr_uFr, yFr_uFr, yK_uAi, yL_uAi, yFi_uAi, yFj_uAi, yFr_uAi, yAj_uAi, yAd_uAi, yAr_uAi, yAi_uAi, yK_uAj, yL_uAj, yFi_uAj, yFj_uAj, yFr_uAj, yAi_uAj, yAd_uAj, yAr_uAj, yAj_uAj, yK_uAd, yL_uAd, yFi_uAd, yFj_uAd, yFr_uAd, yAi_uAd, yAj_uAd, yAr_uAd, yAd_uAd, yK_uAr, yL_uAr, yFi_uAr, yFj_uAr, yFr_uAr, yAi_uAr, yAj_uAr, yAd_uAr, yAr_uAr, yK_uCi, yL_uCi, yFi_uCi, yFj_uCi, yFr_uCi, yAj_uCi, yAd_uCi, yAr_uCi, yK_uCj, yL_uCj, yFi_uCj, yFj_uCj, yFr_uCj, yAi_uCj, yAd_uCj, yAr_uCj, yK_uCx, yL_uCx, yFi_uCx, yFj_uCx, yFr_uCx, yAi_uCx, yAd_uCx, yAr_uCx, yK_nO, yL_nO, yFi_nO, yFj_nO, yFr_nO, yAi_nO, yAj_nO, yAd_nO, yAr_nO, yK_nA, yL_nA, yFi_nA, yFj_nA, yFr_nA, yAi_nA, yAj_nA, yAd_nA, yAr_nA, yK_nC, yL_nC, yFi_nC, yFj_nC, yFr_nC, yAi_nC, yAj_nC, yAd_nC, yAr_nC, yu2, yAi_uCi', yAj_uCj', yAj_uCx', Option.some.injEq, exists_eq_left', true_and, and_true, not_false_eq_true, forall_const, false_and, and_false, reduceIte, Nat.reduceEqDiff, ne_eq]
  · simp only [yK_uFi, yL_uFi, yFj_uFi, yFr_uFi, yAi_uFi, yAj_uFi, yAd_uFi, yAr_uFi, yFi_uFi, yK_uFj, yL_uFj, yFi_uFj, yFr_uFj, yAi_uFj, yAj_uFj, yAd_uFj, yAr_uFj, yFj_uFj, yK_uFr, yL_uFr, yFi_uFr, yFj_uFr, yAi_uFr, yAj_uFr, yAd_uFr, yAr_uFr, yFr_uFr, yK_uAi, yL_uAi, yFi_uAi, yFj_uAi, yFr_uAi, yAj_uAi, yAd_uAi, yAr_uAi, yAi_uAi, yK_uAj, yL_uAj, yFi_uAj, yFj_uAj, yFr_uAj, yAi_uAj, yAd_uAj, yAr_uAj, yAj_uAj, yK_uAd, yL_uAd, yFi_uAd, yFj_uAd, yFr_uAd, yAi_uAd, yAj_uAd, yAr_uAd, yAd_uAd, yK_uAr, yL_uAr, yFi_uAr, yFj_uAr, yFr_uAr, yAi_uAr, yAj_uAr, yAd_uAr, yAr_uAr, yK_uCi, yL_uCi, yFi_uCi, yFj_uCi, yFr_uCi, yAj_uCi, yAd_uCi, yAr_uCi, yK_uCj, yL_uCj, yFi_uCj, yFj_uCj, yFr_uCj, yAi_uCj, yAd_uCj, yAr_uCj, yK_uCx, yL_uCx, yFi_uCx, yFj_uCx, yFr_uCx, yAi_uCx, yAd_uCx, yAr_uCx, yK_nO, yL_nO, yFi_nO, yFj_nO, yFr_nO, yAi_nO, yAj_nO, yAd_nO, yAr_nO, yK_nA, yL_nA, yFi_nA, yFj_nA, yFr_nA, yAi_nA, yAj_nA, yAd_nA, yAr_nA, yK_nC, yL_nC, yFi_nC, yFj_nC, yFr_nC, yAi_nC, yAj_nC, yAd_nC, yAr_nC, yu2, yAi_uCi', yAj_uCj', yAj_uCx', Option.some.injEq, exists_eq_left', true_and, and_true, not_false_eq_true, forall_const, false_and, and_false, reduceIte, Nat.reduceEqDiff, ne_eq]; exact q.2.1 m v hv
  · simp only [yK_uFi, yL_uFi, yFj_uFi, yFr_uFi, yAi_uFi, yAj_uFi, yAd_uFi, yAr_uFi, yFi_uFi, yK_uFj, yL_uFj, yFi_uFj, yFr_uFj, yAi_uFj, yAj_uFj, yAd_uFj, yAr_uFj, yFj_uFj, yK_uFr, yL_uFr, yFi_uFr, yFj_uFr, yAi_uFr, yAj_uFr, yAd_uFr, yAr_uFr, yFr_uFr, yK_uAi, yL_uAi, yFi_uAi, yFj_uAi, yFr_uAi, yAj_uAi, yAd_uAi, yAr_uAi, yAi_uAi, yK_uAj, yL_uAj, yFi_uAj, yFj_uAj, yFr_uAj, yAi_uAj, yAd_uAj, yAr_uAj, yAj_uAj, yK_uAd, yL_uAd, yFi_uAd, yFj_uAd, yFr_uAd, yAi_uAd, yAj_uAd, yAr_uAd, yAd_uAd, yK_uAr, yL_uAr, yFi_uAr, yFj_uAr, yFr_uAr, yAi_uAr, yAj_uAr, yAd_uAr, yAr_uAr, yK_uCi, yL_uCi, yFi_uCi, yFj_uCi, yFr_uCi, yAj_uCi, yAd_uCi, yAr_uCi, yK_uCj, yL_uCj, yFi_uCj, yFj_uCj, yFr_uCj, yAi_uCj, yAd_uCj, yAr_uCj, yK_uCx, yL_uCx, yFi_uCx, yFj_uCx, yFr_uCx, yAi_uCx, yAd_uCx, yAr_uCx, yK_nO, yL_nO, yFi_nO, yFj_nO, yFr_nO, yAi_nO, yAj_nO, yAd_nO, yAr_nO, yK_nA, yL_nA, yFi_nA, yFj_nA, yFr_nA, yAi_nA, yAj_nA, yAd_nA, yAr_nA, yK_nC, yL_nC, yFi_nC, yFj_nC, yFr_nC, yAi_nC, yAj_nC, yAd_nC, yAr_nC, yu2, yAi_uCi', yAj_uCj', yAj_uCx', Option.some.injEq, exists_eq_left', true_and, and_true, not_false_eq_true, forall_const, false_and, and_false, reduceIte, Nat.reduceEqDiff, ne_eq]; exact q.2.2.2.1
  · simp only [yK_uFi, yL_uFi, yFj_uFi, yFr_uFi, yAi_uFi, yAj_uFi, yAd_uFi, yAr_uFi, yFi_uFi, yK_uFj, yL_uFj, yFi_uFj, yFr_uFj, yAi_uFj, yAj_uFj, yAd_uFj, yAr_uFj, yFj_uFj, yK_uFr, yL_uFr, yFi_uFr, yFj_uFr, yAi_uFr, yAj_uFr, yAd_uFr, yAr_uFr, yFr_uFr, yK_uAi, yL_uAi, yFi_uAi, yFj_uAi, yFr_uAi, yAj_uAi, yAd_uAi, yAr_uAi, yAi_uAi, yK_uAj, yL_uAj, yFi_uAj, yFj_uAj, yFr_uAj, yAi_uAj, yAd_uAj, yAr_uAj, yAj_uAj, yK_uAd, yL_uAd, yFi_uAd, yFj_uAd, yFr_uAd, yAi_uAd, yAj_uAd, yAr_uAd, yAd_uAd, yK_uAr, yL_uAr, yFi_uAr, yFj_uAr, yFr_uAr, yAi_uAr, yAj_uAr, yAd_uAr, yAr_uAr, yK_uCi, yL_uCi, yFi_uCi, yFj_uCi, yFr_uCi, yAj_uCi, yAd_uCi, yAr_uCi, yK_uCj, yL_uCj, yFi_uCj, yFj_uCj, yFr_uCj, yAi_uCj, yAd_uCj, yAr_uCj, yK_uCx, yL_uCx, yFi_uCx, yFj_uCx, yFr_uCx, yAi_uCx, yAd_uCx, yAr_uCx, yK_nO, yL_nO, yFi_nO, yFj_nO, yFr_nO, yAi_nO, yAj_nO, yAd_nO, yAr_nO, yK_nA, yL_nA, yFi_nA, yFj_nA, yFr_nA, yAi_nA, yAj_nA, yAd_nA, yAr_nA, yK_nC, yL_nC, yFi_nC, yFj_nC, yFr_nC, yAi_nC, yAj_nC, yAd_nC, yAr_nC, yu2, yAi_uCi', yAj_uCj', yAj_uCx', Option.some.injEq, exists_eq_left', true_and, and_true, not_false_eq_true, forall_const, false_and, and_false, reduceIte, Nat.reduceEqDiff, ne_eq]; exact q.2.2.2.2.1 m v hv
  · simp only [yK_uFi, yL_uFi, yFj_uFi, yFr_uFi, yAi_uFi, yAj_uFi, yAd_uFi, yAr_uFi, yFi_uFi, yK_uFj, yL_uFj, yFi_uFj, yFr_uFj, yAi_uFj, yAj_uFj, yAd_uFj, yAr_uFj, yFj_uFj, yK_uFr, yL_uFr, yFi_uFr, yFj_uFr, yAi_uFr, yAj_uFr, yAd_uFr, yAr_uFr, yFr_uFr, yK_uAi, yL_uAi, yFi_uAi, yFj_uAi, yFr_uAi, yAj_uAi, yAd_uAi, yAr_uAi, yAi_uAi, yK_uAj, yL_uAj, yFi_uAj, yFj_uAj, yFr_uAj, yAi_uAj, yAd_uAj, yAr_uAj, yAj_uAj, yK_uAd, yL_uAd, yFi_uAd, yFj_uAd, yFr_uAd, yAi_uAd, yAj_uAd, yAr_uAd, yAd_uAd, yK_uAr, yL_uAr, yFi_uAr, yFj_uAr, yFr_uAr, yAi_uAr, yAj_uAr, yAd_uAr, yAr_uAr, yK_uCi, yL_uCi, yFi_uCi, yFj_uCi, yFr_uCi, yAj_uCi, yAd_uCi, yAr_uCi, yK_uCj, yL_uCj, yFi_uCj, yFj_uCj, yFr_uCj, yAi_uCj, yAd_uCj, yAr_uCj, yK_uCx, yL_uCx, yFi_uCx, yFj_uCx, yFr_uCx, yAi_uCx, yAd_uCx, yAr_uCx, yK_nO, yL_nO, yFi_nO, yFj_nO, yFr_nO, yAi_nO, yAj_nO, yAd_nO, yAr_nO, yK_nA, yL_nA, yFi_nA, yFj_nA, yFr_nA, yAi_nA, yAj_nA, yAd_nA, yAr_nA, yK_nC, yL_nC, yFi_nC, yFj_nC, yFr_nC, yAi_nC, yAj_nC, yAd_nC, yAr_nC, yu2, yAi_uCi', yAj_uCj', yAj_uCx', Option.some.injEq, exists_eq_left', true_and, and_true, not_false_eq_true, forall_const, false_and, and_false, reduceIte, Nat.reduceEqDiff, ne_eq]; exact q.2.2.2.2.2.2.1
  · simp only [yK_uFi, yL_uFi, yFj_uFi, yFr_uFi, yAi_uFi, yAj_uFi, yAd_uFi, yAr_uFi, yFi_uFi, yK_uFj, yL_uFj, yFi_uFj, yFr_uFj, yAi_uFj, yAj_uFj, yAd_uFj, yAr_uFj, yFj_uFj, yK_uFr, yL_uFr, yFi_uFr, yFj_uFr, yAi_uFr, yAj_uFr, yAd_uFr, yAr_uFr, yFr_uFr, yK_uAi, yL_uAi, yFi_uAi, yFj_uAi, yFr_uAi, yAj_uAi, yAd_uAi, yAr_uAi, yAi_uAi, yK_uAj, yL_uAj, yFi_uAj, yFj_uAj, yFr_uAj, yAi_uAj, yAd_uAj, yAr_uAj, yAj_uAj, yK_uAd, yL_uAd, yFi_uAd, yFj_uAd, yFr_uAd, yAi_uAd, yAj_uAd, yAr_uAd, yAd_uAd, yK_uAr, yL_uAr, yFi_uAr, yFj_uAr, yFr_uAr, yAi_uAr, yAj_uAr, yAd_uAr, yAr_uAr, yK_uCi, yL_uCi, yFi_uCi, yFj_uCi, yFr_uCi, yAj_uCi, yAd_uCi, yAr_uCi, yK_uCj, yL_uCj, yFi_uCj, yFj_uCj, yFr_uCj, yAi_uCj, yAd_uCj, yAr_uCj, yK_uCx, yL_uCx, yFi_uCx, yFj_uCx, yFr_uCx, yAi_uCx, yAd_uCx, yAr_uCx, yK_nO, yL_nO, yFi_nO, yFj_nO, yFr_nO, yAi_nO, yAj_nO, yAd_nO, yAr_nO, yK_nA, yL_nA, yFi_nA, yFj_nA, yFr_nA, yAi_nA, yAj_nA, yAd_nA, yAr_nA, yK_nC, yL_nC, yFi_nC, yFj_nC, yFr_nC, yAi_nC, yAj_nC, yAd_nC, yAr_nC, yu2, yAi_uCi', yAj_uCj', yAj_uCx', Option.some.injEq, exists_eq_left', true_and, and_true, not_false_eq_true, forall_const, false_and, and_false, reduceIte, Nat.reduceEqDiff, ne_eq]; exact q.2.2.2.2.2.2.2
/-- the chains with their best readings -/
def Wgh (A R : List Ans) : Prop := ∀ e ∈ R, e.2.2.1 = 0 ∧ Bst rdC A (at0 e) (at1 e) e.2.2.2.1 ∧ Bst rdT A (at0 e) (at1 e) e.2.2.2.2
theorem C_weighChains (h : Sh ad ct σ) (hw : Crw ad σ) {k s1 : Nat} {cl1 : Bool} {A L : List Ans} (hk : k < 40) (hs1 : s1 < 40) (n1 : s1 ≠ k) (q1 : AR ad σ s1 A 2 cl1) (qk : AR ad σ k L 2 true) (hd : (A.map (fun e => e.1)).Nodup) (hC : okA rdC A) (hT : okA rdT A) (hR : RCl A L) {Q : St → Prop} (hQ : ∀ σ' R, Fr ct (fun p => p = (3, k)) σ σ' → AR ad σ' k R 2 true → R.map bare = L.map bare → Wgh A R → Q σ') : wX4_weighChains (ad 5 0 0) (ad 4 s1 0) (ad 4 k 0) σ Q := by
  have rm : ∀ s, s < 40 → room s = 32 := fun s hs => by unfold room; rw [if_neg (by omega)]
  have lL : L.length ≤ 32 := by have := qk.2.2.2.1; rw [rm k hk] at this; exact this
  have lA : A.length ≤ 32 := by have := q1.2.2.2.1; rw [rm s1 hs1] at this; exact this
  have q1f : ∀ {σ3 : St}, Fr ct (fun p => p = (3, k)) σ σ3 → AR ad σ3 s1 A 2 cl1 := fun {σ3} F => q1.cg h F (by omega) (by simp) (by simp; exact n1) (by simp) (by simp) (by simp)
  have hwf : ∀ {σ3 : St}, Fr ct (fun p => p = (3, k)) σ σ3 → Crw ad σ3 := fun {σ3} F => hw.cg h F (fun s' _ => by simp)
  have hRf : ∀ {M : List Ans}, M.map bare = L.map bare → RCl A M := fun {M} e => hR.rows (by rw [← bare_rows L, ← e, bare_rows])
  have lnf : ∀ {M : List Ans}, M.map bare = L.map bare → M.length = L.length := fun {M} e => by
    have := congrArg List.length e
    rw [List.length_map, List.length_map] at this
    exact this
  have main : ∀ (d n : Nat) (fl : Int32) (M : List Ans) (σ3 : St), n + d = 1000 → Fr ct (fun p => p = (3, k)) σ σ3 → AR ad σ3 k M 2 true → M.map bare = L.map bare → (∀ e ∈ M, e.2.2.1 = 0) → WI rdC A M (n + 1) 0 → WI rdT A M (n + 1) 0 → (fl = 0 → (∀ e ∈ M, ∀ c ∈ M, ∀ s, mt A c e s → rdC.le (rdC.vl e) (rdC.op (rdC.vl c) (rdC.vl s))) ∧ ∀ e ∈ M, ∀ c ∈ M, ∀ s, mt A c e s → rdT.le (rdT.vl e) (rdT.op (rdT.vl c) (rdT.vl s))) → lX4_weighChains_94 Q (d + 1) (ad 5 0 0) (ad 4 s1 0) (ad 4 k 0) fl (nI n) σ3 := by
    intro d
    induction d with
    | zero =>
      intro n fl M σ3 hn F q eB z0 wc wt _
      have hn : n = 1000 := by omega
      refine ⟨fun _ => hQ σ3 M F q eB (fun e he => ⟨z0 e he, wc.bst32 hC lA (by omega) e he, wt.bst32 hT lA (by omega) e he⟩), fun z => absurd (nI_le (a := 1000) (b := n) (by omega) (by omega)) z⟩
    | succ d ih =>
      intro n fl M σ3 hn F q eB z0 wc wt cl
      refine ⟨fun z => absurd z (nI_ge (a := n) (b := 1000) (by omega) (by decide)), fun _ => ⟨fun z => ?_, fun _ => ⟨M.length + 1, ?_⟩⟩⟩
      · obtain ⟨cc, ctt⟩ := cl z
        exact hQ σ3 M F q eB (fun e he => ⟨z0 e he, wc.bstC hC (hRf eB) (by omega) cc e he, wt.bstC hT (hRf eB) (by omega) ctt e he⟩)
      · have inn : ∀ (d2 i : Nat) (fl : Int32) (M : List Ans) (σ4 : St), i + d2 = L.length → (fl = 0 ∨ fl = 1) → Fr ct (fun p => p = (3, k)) σ σ4 → AR ad σ4 k M 2 true → M.map bare = L.map bare → (∀ e ∈ M, e.2.2.1 = 0) → WI rdC A M (n + 1) i → WI rdT A M (n + 1) i → (fl = 0 → (∀ (j : Nat) e, j < i → M[j]? = some e → ∀ c ∈ M, ∀ s, mt A c e s → rdC.le (rdC.vl e) (rdC.op (rdC.vl c) (rdC.vl s))) ∧ ∀ (j : Nat) e, j < i → M[j]? = some e → ∀ c ∈ M, ∀ s, mt A c e s → rdT.le (rdT.vl e) (rdT.op (rdT.vl c) (rdT.vl s))) → lX4_weighChains_111 Q (lX4_weighChains_94 Q (d + 1)) (d2 + 1) (ad 5 0 0) (ad 4 s1 0) (ad 4 k 0) fl (nI n) (nI i) σ4 := by
          intro d2
          induction d2 with
          | zero =>
            intro i fl M σ4 hi hfl F q eB z0 wc wt cl
            have h4 := h.frC (F.mono (S3_SC k))
            have lM := lnf eB
            have hi : i = M.length := by omega
            refine ⟨k4 h4 (by omega), fun _ => ?_, fun z => absurd ?_ z⟩
            · rw [nI_1]
              refine ih (n + 1) fl M σ4 (by omega) F q eB z0 (wc.next hi) (wt.next hi) (fun z => ?_)
              obtain ⟨c1, c2⟩ := cl z
              have pos : ∀ e ∈ M, ∃ j : Nat, j < i ∧ M[j]? = some e := fun e he => by
                obtain ⟨j, hj, ej⟩ := List.mem_iff_getElem.mp he
                exact ⟨j, by omega, by rw [List.getElem?_eq_getElem hj, ej]⟩
              refine ⟨fun e he => ?_, fun e he => ?_⟩
              · obtain ⟨j, hj, ej⟩ := pos e he
                exact c1 j e hj ej
              · obtain ⟨j, hj, ej⟩ := pos e he
                exact c2 j e hj ej
            · rw [q.1, hi]; exact nI_le (Nat.le_refl _) (by omega)
          | succ d2 ih2 =>
            intro i fl M σ4 hi hfl F q eB z0 wc wt cl
            have h4 := h.frC (F.mono (S3_SC k))
            have lM := lnf eB
            obtain ⟨e, he⟩ : ∃ e, M[i]? = some e := ⟨_, List.getElem?_eq_getElem (by omega)⟩
            have em := List.mem_of_getElem? he
            obtain ⟨j, b1, b2, b3⟩ := q.2.2.2.2 i e he
            refine ⟨k4 h4 (by omega), fun z => absurd z (by rw [q.1]; exact nI_ge (by omega) (by omega)), fun _ => ⟨_, p192 h4 (by omega), k192 h4 (by omega), by rw [l192 h4 (by omega), rm k hk]; exact vp_in_nI (by omega) (by decide), _, by rw [show ix (nI i) = i from nI_clamp (by omega)]; exact b2, k5 h4, ?_⟩⟩
            refine C_betterChain h4 hk hs1 (q1f F) q hd b1 b3 (fun co tr y bc bt hy hy0 => ?_)
            obtain ⟨f5, s5, a5⟩ := upd3 h4 (by omega) b1 b3 (co := co) (tr := tr)
            have ea : (e.1, e.2.1, e.2.2.1, co, tr).2.2.1 = 0 := z0 e em
            have q5 := q.upd h4 (hwf F) (by omega) (by omega) b1 b2 f5 s5 a5
            generalize uFj (uFi σ4 132 (ad 3 k j) co) 133 (ad 3 k j) tr = ρ at f5 q5 ⊢
            rw [nI_1]
            refine ih2 (i + 1) (fl ||| y) (M.set i (e.1, e.2.1, e.2.2.1, co, tr)) ρ (by omega) (by rcases hfl with u | u <;> rcases hy with v | v <;> subst u <;> subst v <;> decide) (F.tr1 f5) q5 ((set_bare (e2 := (e.1, e.2.1, e.2.2.1, co, tr)) he rfl rfl).trans eB) (fun a ha => ?_) (wc.step hC (hRf eB) (by omega) he rfl bc) (wt.step hT (hRf eB) (by omega) he rfl bt) (fun z => ?_)
            · rcases List.mem_or_eq_of_mem_set ha with u | u
              · exact z0 a u
              · rw [u]; exact ea
            · have y0 : y = 0 := by
                rcases hy with u | u
                · exact u
                · rw [u] at z
                  rcases hfl with v | v <;> subst v <;> exact absurd z (by decide)
              have f0 : fl = 0 := by
                rcases hfl with v | v
                · exact v
                · rw [y0, v] at z; exact absurd z (by decide)
              obtain ⟨c1, c2⟩ := cl f0
              obtain ⟨g1, g2⟩ := hy0 y0
              have same : M.set i (e.1, e.2.1, e.2.2.1, co, tr) = M := by
                rw [g1, g2]
                apply List.ext_getElem?
                intro m
                rw [List.getElem?_set]
                by_cases c : i = m
                · subst c
                  rw [if_pos rfl, if_pos (by omega), he]
                · rw [if_neg c]
              rw [same]
              refine ⟨fun m a hm ha => ?_, fun m a hm ha => ?_⟩
              · by_cases c : m = i
                · rw [c, he] at ha
                  cases ha
                  intro c hc s hms
                  have := bc.2.1 c hc s hms
                  rw [g1] at this
                  exact this
                · exact c1 m a (by omega) ha
              · by_cases c : m = i
                · rw [c, he] at ha
                  cases ha
                  intro c hc s hms
                  have := bt.2.1 c hc s hms
                  rw [g2] at this
                  exact this
                · exact c2 m a (by omega) ha
        rw [lnf eB]
        exact inn L.length 0 0 M σ3 (by omega) (Or.inl rfl) F q eB z0 wc wt (fun _ => ⟨fun j e hj => absurd hj (Nat.not_lt_zero _), fun j e hj => absurd hj (Nat.not_lt_zero _)⟩)
  have start : ∀ (d i : Nat) (M : List Ans) (σ3 : St), i + d = L.length → Fr ct (fun p => p = (3, k)) σ σ3 → AR ad σ3 k M 2 true → M.map bare = L.map bare → (∀ (j : Nat) e, j < i → M[j]? = some e → e.2.2.1 = 0 ∧ Ini rdC A e ∧ Ini rdT A e) → lX4_weighChains_2 Q (d + 1) (ad 5 0 0) (ad 4 s1 0) (ad 4 k 0) (nI i) σ3 := by
    intro d
    induction d with
    | zero =>
      intro i M σ3 hi F q eB hI
      have h3 := h.frC (F.mono (S3_SC k))
      have lM := lnf eB
      have hi : i = M.length := by omega
      have pos : ∀ e ∈ M, e.2.2.1 = 0 ∧ Ini rdC A e ∧ Ini rdT A e := fun e he => by
        obtain ⟨j, hj, ej⟩ := List.mem_iff_getElem.mp he
        exact hI j e (by omega) (by rw [List.getElem?_eq_getElem hj, ej])
      refine ⟨k4 h3 (by omega), fun _ => ⟨1001, main 1000 0 1 M σ3 (by omega) F q eB (fun e he => (pos e he).1) (Ini.wi hd (hRf eB) hC (fun e he => (pos e he).2.1)) (Ini.wi hd (hRf eB) hT (fun e he => (pos e he).2.2)) (fun z => absurd z (by decide))⟩, fun z => absurd ?_ z⟩
      rw [q.1, hi]; exact nI_le (Nat.le_refl _) (by omega)
    | succ d ih =>
      intro i M σ3 hi F q eB hI
      have h3 := h.frC (F.mono (S3_SC k))
      have lM := lnf eB
      obtain ⟨e, he⟩ : ∃ e, M[i]? = some e := ⟨_, List.getElem?_eq_getElem (by omega)⟩
      obtain ⟨j, b1, b2, b3⟩ := q.2.2.2.2 i e he
      obtain ⟨x0, x1, xe⟩ := b3.r01
      refine ⟨k4 h3 (by omega), fun z => absurd z (by rw [q.1]; exact nI_ge (by omega) (by omega)), fun _ => ⟨_, p192 h3 (by omega), k192 h3 (by omega), by rw [l192 h3 (by omega), rm k hk]; exact vp_in_nI (by omega) (by decide), _, by rw [show ix (nI i) = i from nI_clamp (by omega)]; exact b2, k3 h3 (by omega) b1, _, p128 h3 (by omega) b1, k128 h3 (by omega) b1, by rw [l128 h3 (by omega) b1]; exact vp_in_nI (n := 0) (by decide) (by decide), by rw [l128 h3 (by omega) b1]; exact vp_in_nI (n := 1) (by decide) (by decide), ?_⟩⟩
      rw [show ix 0 = 0 from rfl, show ix 1 = 1 from rfl, x0, x1]
      obtain ⟨f5, s5, a5⟩ := upd1 h3 (by omega) b1 b3 (c := 0)
      have h5 := h3.frC (f5.mono (S3_SC k))
      have go : ∀ co tr, Ini rdC A (e.1, e.2.1, 0, co, tr) → Ini rdT A (e.1, e.2.1, 0, co, tr) → lX4_weighChains_2 Q (d + 1) (ad 5 0 0) (ad 4 s1 0) (ad 4 k 0) (nI i + 1) (uFj (uFi (uFj σ3 131 (ad 3 k j) 0) 132 (ad 3 k j) co) 133 (ad 3 k j) tr) := fun co tr i1 i2 => by
        obtain ⟨f6, s6, a6⟩ := upd3 h5 (by omega) b1 a5 (co := co) (tr := tr)
        rw [nI_1]
        have q6 := q.upd h3 (hwf F) (by omega) (by omega) b1 b2 (f5.tr1 f6) (s5.tr s6) a6
        refine ih (i + 1) (M.set i (e.1, e.2.1, 0, co, tr)) _ (by omega) ((F.tr1 f5).tr1 f6) q6 ((set_bare (e2 := (e.1, e.2.1, 0, co, tr)) he rfl rfl).trans eB) (fun m a hm ha => ?_)
        rw [List.getElem?_set] at ha
        by_cases c : i = m
        · subst c
          rw [if_pos rfl, if_pos (by omega)] at ha
          cases ha
          exact ⟨rfl, i1, i2⟩
        · rw [if_neg c] at ha
          exact hI m a (by omega) ha
      refine C_stepOf h3 hs1 (q1f F) _ _ (fun no => ⟨k3 h3 (by omega) b1, fun _ => ⟨k3 h5 (by omega) b1, fun _ => ⟨k3 (h5.frC ((Fr.rf.uFi _ _ _ (Or.inl (by rw [c3 h5 (by omega) b1]))).mono (S3_SC k))) (by omega) b1, ?_⟩, fun a z => (by cases z)⟩, fun a z => (by cases z)⟩) (fun m s js hm es hjs qs => ⟨k3 h3 (by omega) b1, fun z => (by cases z), fun a z => ?_⟩)
      · rw [← xe] at no
        exact go 1000000000 0 (Or.inr ⟨no, rfl⟩) (Or.inr ⟨no, rfl⟩)
      · cases z
        have sm := List.mem_of_getElem? hm
        rw [← xe] at es
        have ne : ad 3 s1 js ≠ ad 3 k j := fun z => by
          have a := c3 h3 (by omega) hjs
          rw [z, c3 h3 (by omega) b1] at a
          cases a; exact n1 rfl
        refine ⟨k3 h3 (by omega) hjs, k3 h5 (by omega) b1, fun z => (by cases z), fun a z => ?_⟩
        cases z
        refine ⟨k3 h5 (by omega) hjs, k3 (h5.frC ((Fr.rf.uFi _ _ _ (Or.inl (by rw [c3 h5 (by omega) b1]))).mono (S3_SC k))) (by omega) b1, ?_⟩
        rw [qs.2.2.2.2.2.2.1, yFj_uFj, yu2, if_neg (fun z => ne z.2), qs.2.2.2.2.2.2.2]
        exact go s.2.2.2.1 s.2.2.2.2 (Or.inl ⟨s, sm, es, rfl⟩) (Or.inl ⟨s, sm, es, rfl⟩)
  exact ⟨_, start L.length 0 L σ (by omega) Fr.rf qk rfl (fun j e hj => absurd hj (Nat.not_lt_zero _))⟩
end NG
