/-! the reference: CLOSE: the readings -/
section NK
variable {ad : Ad} {ct : Ct} {σ : St}
theorem RowAt.r01 {s r : Nat} {cl : Bool} {e : Ans} (q : RowAt ad σ s r 2 cl e) : zAi σ (ad 898 s 0) (6 * r) = at0 e ∧ zAi σ (ad 898 s 0) (6 * r + 1) = at1 e ∧ e.1 = [at0 e, at1 e] := by
  have e2 := row_of q.1
  refine ⟨q.2.1 0 _ (by rw [e2]; rfl), q.2.1 1 _ (by rw [e2]; rfl), e2⟩
theorem M_up (h : Sh ad ct σ) {s i w : Nat} {cl : Bool} {L : List Ans} {e : Ans} (hs : s < 42) (q : MR ad σ s L w cl) (he : L[i]? = some e) (co : Int32) (t : Int64) : Fr ct (SS s) σ (uAd (uAi σ (ad 900 s 0) i co) (ad 903 s 0) i t.toUInt64) ∧ MR ad (uAd (uAi σ (ad 900 s 0) i co) (ad 903 s 0) i t.toUInt64) s (L.set i (e.1, e.2.1, e.2.2.1, co, t)) w cl := by
  have hn := (List.getElem?_eq_some_iff.mp he).1
  obtain ⟨b1, b2, b3, b4, b5, b6, b7, b8⟩ := q.2.2.2.2 i e he
  have n9_0 : ad 899 s 0 ≠ ad 900 s 0 := fun z => by have b := c899 h hs; rw [z, c900 h hs] at b; cases b
  have n8_0 : ad 898 s 0 ≠ ad 900 s 0 := fun z => by have b := c898 h hs; rw [z, c900 h hs] at b; cases b
  refine ⟨(Fr.rf.uAi _ _ _ (Or.inl (by rw [c900 h hs]; exact Or.inr (Or.inr (Or.inr (Or.inl rfl)))))).uAd _ _ _ (Or.inl (by rw [c903 h hs]; exact Or.inr (Or.inr (Or.inr (Or.inr (Or.inr (Or.inr rfl))))))), q.set hn ?_ ?_ ⟨fun j hj => ?_, fun j hj => ?_, fun j hj => ?_, fun j hj => ?_, fun j hj => ?_, fun j hj => ?_⟩ ⟨b1, fun u v hv => ?_, b3, ?_, fun u v hv => ?_, fun z => ?_, ?_, ?_⟩⟩
  · simp only [yK_uFi, yL_uFi, yFj_uFi, yFr_uFi, yAi_uFi, yAj_uFi, yAd_uFi, yAr_uFi, yFi_uFi, yK_uFj, yL_uFj, yFi_uFj, yFr_uFj, yAi_uFj, yAj_uFj, yAd_uFj, yAr_uFj, yFj_uFj, yK_uFr, yL_uFr, yFi_uFr, yFj_uFr, yAi_uFr, yAj_uFr, yAd_uFr, yAr_uFr, yFr_uFr, yK_uAi, yL_uAi, yFi_uAi, yFj_uAi, yFr_uAi, yAj_uAi, yAd_uAi, yAr_uAi, yAi_uAi, yK_uAj, yL_uAj, yFi_uAj, yFj_uAj, yFr_uAj, yAi_uAj, yAd_uAj, yAr_uAj, yAj_uAj, yK_uAd, yL_uAd, yFi_uAd, yFj_uAd, yFr_uAd, yAi_uAd, yAj_uAd, yAr_uAd, yAd_uAd, yK_uAr, yL_uAr, yFi_uAr, yFj_uAr, yFr_uAr, yAi_uAr, yAj_uAr, yAd_uAr, yAr_uAr, yK_uCi, yL_uCi, yFi_uCi, yFj_uCi, yFr_uCi, yAj_uCi, yAd_uCi, yAr_uCi, yK_uCj, yL_uCj, yFi_uCj, yFj_uCj, yFr_uCj, yAi_uCj, yAd_uCj, yAr_uCj, yK_uCx, yL_uCx, yFi_uCx, yFj_uCx, yFr_uCx, yAi_uCx, yAd_uCx, yAr_uCx, yK_nO, yL_nO, yFi_nO, yFj_nO, yFr_nO, yAi_nO, yAj_nO, yAd_nO, yAr_nO, yK_nA, yL_nA, yFi_nA, yFj_nA, yFr_nA, yAi_nA, yAj_nA, yAd_nA, yAr_nA, yK_nC, yL_nC, yFi_nC, yFj_nC, yFr_nC, yAi_nC, yAj_nC, yAd_nC, yAr_nC, yu2, yAi_uCi', yAj_uCj', yAj_uCx', Option.some.injEq, exists_eq_left', true_and, and_true, not_false_eq_true, forall_const, false_and, and_false, reduceIte, Nat.reduceEqDiff, ne_eq]
  · simp only [yK_uFi, yL_uFi, yFj_uFi, yFr_uFi, yAi_uFi, yAj_uFi, yAd_uFi, yAr_uFi, yFi_uFi, yK_uFj, yL_uFj, yFi_uFj, yFr_uFj, yAi_uFj, yAj_uFj, yAd_uFj, yAr_uFj, yFj_uFj, yK_uFr, yL_uFr, yFi_uFr, yFj_uFr, yAi_uFr, yAj_uFr, yAd_uFr, yAr_uFr, yFr_uFr, yK_uAi, yL_uAi, yFi_uAi, yFj_uAi, yFr_uAi, yAj_uAi, yAd_uAi, yAr_uAi, yAi_uAi, yK_uAj, yL_uAj, yFi_uAj, yFj_uAj, yFr_uAj, yAi_uAj, yAd_uAj, yAr_uAj, yAj_uAj, yK_uAd, yL_uAd, yFi_uAd, yFj_uAd, yFr_uAd, yAi_uAd, yAj_uAd, yAr_uAd, yAd_uAd, yK_uAr, yL_uAr, yFi_uAr, yFj_uAr, yFr_uAr, yAi_uAr, yAj_uAr, yAd_uAr, yAr_uAr, yK_uCi, yL_uCi, yFi_uCi, yFj_uCi, yFr_uCi, yAj_uCi, yAd_uCi, yAr_uCi, yK_uCj, yL_uCj, yFi_uCj, yFj_uCj, yFr_uCj, yAi_uCj, yAd_uCj, yAr_uCj, yK_uCx, yL_uCx, yFi_uCx, yFj_uCx, yFr_uCx, yAi_uCx, yAd_uCx, yAr_uCx, yK_nO, yL_nO, yFi_nO, yFj_nO, yFr_nO, yAi_nO, yAj_nO, yAd_nO, yAr_nO, yK_nA, yL_nA, yFi_nA, yFj_nA, yFr_nA, yAi_nA, yAj_nA, yAd_nA, yAr_nA, yK_nC, yL_nC, yFi_nC, yFj_nC, yFr_nC, yAi_nC, yAj_nC, yAd_nC, yAr_nC, yu2, yAi_uCi', yAj_uCj', yAj_uCx', Option.some.injEq, exists_eq_left', true_and, and_true, not_false_eq_true, forall_const, false_and, and_false, reduceIte, Nat.reduceEqDiff, ne_eq]
  · simp only [yK_uFi, yL_uFi, yFj_uFi, yFr_uFi, yAi_uFi, yAj_uFi, yAd_uFi, yAr_uFi, yFi_uFi, yK_uFj, yL_uFj, yFi_uFj, yFr_uFj, yAi_uFj, yAj_uFj, yAd_uFj, yAr_uFj, yFj_uFj, yK_uFr, yL_uFr, yFi_uFr, yFj_uFr, yAi_uFr, yAj_uFr, yAd_uFr, yAr_uFr, yFr_uFr, yK_uAi, yL_uAi, yFi_uAi, yFj_uAi, yFr_uAi, yAj_uAi, yAd_uAi, yAr_uAi, yAi_uAi, yK_uAj, yL_uAj, yFi_uAj, yFj_uAj, yFr_uAj, yAi_uAj, yAd_uAj, yAr_uAj, yAj_uAj, yK_uAd, yL_uAd, yFi_uAd, yFj_uAd, yFr_uAd, yAi_uAd, yAj_uAd, yAr_uAd, yAd_uAd, yK_uAr, yL_uAr, yFi_uAr, yFj_uAr, yFr_uAr, yAi_uAr, yAj_uAr, yAd_uAr, yAr_uAr, yK_uCi, yL_uCi, yFi_uCi, yFj_uCi, yFr_uCi, yAj_uCi, yAd_uCi, yAr_uCi, yK_uCj, yL_uCj, yFi_uCj, yFj_uCj, yFr_uCj, yAi_uCj, yAd_uCj, yAr_uCj, yK_uCx, yL_uCx, yFi_uCx, yFj_uCx, yFr_uCx, yAi_uCx, yAd_uCx, yAr_uCx, yK_nO, yL_nO, yFi_nO, yFj_nO, yFr_nO, yAi_nO, yAj_nO, yAd_nO, yAr_nO, yK_nA, yL_nA, yFi_nA, yFj_nA, yFr_nA, yAi_nA, yAj_nA, yAd_nA, yAr_nA, yK_nC, yL_nC, yFi_nC, yFj_nC, yFr_nC, yAi_nC, yAj_nC, yAd_nC, yAr_nC, yu2, yAi_uCi', yAj_uCj', yAj_uCx', Option.some.injEq, exists_eq_left', true_and, and_true, not_false_eq_true, forall_const, false_and, and_false, reduceIte, Nat.reduceEqDiff, ne_eq, n8_0]
  · simp only [yK_uFi, yL_uFi, yFj_uFi, yFr_uFi, yAi_uFi, yAj_uFi, yAd_uFi, yAr_uFi, yFi_uFi, yK_uFj, yL_uFj, yFi_uFj, yFr_uFj, yAi_uFj, yAj_uFj, yAd_uFj, yAr_uFj, yFj_uFj, yK_uFr, yL_uFr, yFi_uFr, yFj_uFr, yAi_uFr, yAj_uFr, yAd_uFr, yAr_uFr, yFr_uFr, yK_uAi, yL_uAi, yFi_uAi, yFj_uAi, yFr_uAi, yAj_uAi, yAd_uAi, yAr_uAi, yAi_uAi, yK_uAj, yL_uAj, yFi_uAj, yFj_uAj, yFr_uAj, yAi_uAj, yAd_uAj, yAr_uAj, yAj_uAj, yK_uAd, yL_uAd, yFi_uAd, yFj_uAd, yFr_uAd, yAi_uAd, yAj_uAd, yAr_uAd, yAd_uAd, yK_uAr, yL_uAr, yFi_uAr, yFj_uAr, yFr_uAr, yAi_uAr, yAj_uAr, yAd_uAr, yAr_uAr, yK_uCi, yL_uCi, yFi_uCi, yFj_uCi, yFr_uCi, yAj_uCi, yAd_uCi, yAr_uCi, yK_uCj, yL_uCj, yFi_uCj, yFj_uCj, yFr_uCj, yAi_uCj, yAd_uCj, yAr_uCj, yK_uCx, yL_uCx, yFi_uCx, yFj_uCx, yFr_uCx, yAi_uCx, yAd_uCx, yAr_uCx, yK_nO, yL_nO, yFi_nO, yFj_nO, yFr_nO, yAi_nO, yAj_nO, yAd_nO, yAr_nO, yK_nA, yL_nA, yFi_nA, yFj_nA, yFr_nA, yAi_nA, yAj_nA, yAd_nA, yAr_nA, yK_nC, yL_nC, yFi_nC, yFj_nC, yFr_nC, yAi_nC, yAj_nC, yAd_nC, yAr_nC, yu2, yAi_uCi', yAj_uCj', yAj_uCx', Option.some.injEq, exists_eq_left', true_and, and_true, not_false_eq_true, forall_const, false_and, and_false, reduceIte, Nat.reduceEqDiff, ne_eq, n9_0]
  · simp only [yK_uFi, yL_uFi, yFj_uFi, yFr_uFi, yAi_uFi, yAj_uFi, yAd_uFi, yAr_uFi, yFi_uFi, yK_uFj, yL_uFj, yFi_uFj, yFr_uFj, yAi_uFj, yAj_uFj, yAd_uFj, yAr_uFj, yFj_uFj, yK_uFr, yL_uFr, yFi_uFr, yFj_uFr, yAi_uFr, yAj_uFr, yAd_uFr, yAr_uFr, yFr_uFr, yK_uAi, yL_uAi, yFi_uAi, yFj_uAi, yFr_uAi, yAj_uAi, yAd_uAi, yAr_uAi, yAi_uAi, yK_uAj, yL_uAj, yFi_uAj, yFj_uAj, yFr_uAj, yAi_uAj, yAd_uAj, yAr_uAj, yAj_uAj, yK_uAd, yL_uAd, yFi_uAd, yFj_uAd, yFr_uAd, yAi_uAd, yAj_uAd, yAr_uAd, yAd_uAd, yK_uAr, yL_uAr, yFi_uAr, yFj_uAr, yFr_uAr, yAi_uAr, yAj_uAr, yAd_uAr, yAr_uAr, yK_uCi, yL_uCi, yFi_uCi, yFj_uCi, yFr_uCi, yAj_uCi, yAd_uCi, yAr_uCi, yK_uCj, yL_uCj, yFi_uCj, yFj_uCj, yFr_uCj, yAi_uCj, yAd_uCj, yAr_uCj, yK_uCx, yL_uCx, yFi_uCx, yFj_uCx, yFr_uCx, yAi_uCx, yAd_uCx, yAr_uCx, yK_nO, yL_nO, yFi_nO, yFj_nO, yFr_nO, yAi_nO, yAj_nO, yAd_nO, yAr_nO, yK_nA, yL_nA, yFi_nA, yFj_nA, yFr_nA, yAi_nA, yAj_nA, yAd_nA, yAr_nA, yK_nC, yL_nC, yFi_nC, yFj_nC, yFr_nC, yAi_nC, yAj_nC, yAd_nC, yAr_nC, yu2, yAi_uCi', yAj_uCj', yAj_uCx', Option.some.injEq, exists_eq_left', true_and, and_true, not_false_eq_true, forall_const, false_and, and_false, reduceIte, Nat.reduceEqDiff, ne_eq]
  · simp only [yK_uFi, yL_uFi, yFj_uFi, yFr_uFi, yAi_uFi, yAj_uFi, yAd_uFi, yAr_uFi, yFi_uFi, yK_uFj, yL_uFj, yFi_uFj, yFr_uFj, yAi_uFj, yAj_uFj, yAd_uFj, yAr_uFj, yFj_uFj, yK_uFr, yL_uFr, yFi_uFr, yFj_uFr, yAi_uFr, yAj_uFr, yAd_uFr, yAr_uFr, yFr_uFr, yK_uAi, yL_uAi, yFi_uAi, yFj_uAi, yFr_uAi, yAj_uAi, yAd_uAi, yAr_uAi, yAi_uAi, yK_uAj, yL_uAj, yFi_uAj, yFj_uAj, yFr_uAj, yAi_uAj, yAd_uAj, yAr_uAj, yAj_uAj, yK_uAd, yL_uAd, yFi_uAd, yFj_uAd, yFr_uAd, yAi_uAd, yAj_uAd, yAr_uAd, yAd_uAd, yK_uAr, yL_uAr, yFi_uAr, yFj_uAr, yFr_uAr, yAi_uAr, yAj_uAr, yAd_uAr, yAr_uAr, yK_uCi, yL_uCi, yFi_uCi, yFj_uCi, yFr_uCi, yAj_uCi, yAd_uCi, yAr_uCi, yK_uCj, yL_uCj, yFi_uCj, yFj_uCj, yFr_uCj, yAi_uCj, yAd_uCj, yAr_uCj, yK_uCx, yL_uCx, yFi_uCx, yFj_uCx, yFr_uCx, yAi_uCx, yAd_uCx, yAr_uCx, yK_nO, yL_nO, yFi_nO, yFj_nO, yFr_nO, yAi_nO, yAj_nO, yAd_nO, yAr_nO, yK_nA, yL_nA, yFi_nA, yFj_nA, yFr_nA, yAi_nA, yAj_nA, yAd_nA, yAr_nA, yK_nC, yL_nC, yFi_nC, yFj_nC, yFr_nC, yAi_nC, yAj_nC, yAd_nC, yAr_nC, yu2, yAi_uCi', yAj_uCj', yAj_uCx', Option.some.injEq, exists_eq_left', true_and, and_true, not_false_eq_true, forall_const, false_and, and_false, reduceIte, Nat.reduceEqDiff, ne_eq]
  · simp only [yK_uFi, yL_uFi, yFj_uFi, yFr_uFi, yAi_uFi, yAj_uFi, yAd_uFi, yAr_uFi, yFi_uFi, yK_uFj, yL_uFj, yFi_uFj, yFr_uFj, yAi_uFj, yAj_uFj, yAd_uFj, yAr_uFj, yFj_uFj, yK_uFr, yL_uFr, yFi_uFr, yFj_uFr, yAi_uFr, yAj_uFr, yAd_uFr, yAr_uFr, yFr_uFr, yK_uAi, yL_uAi, yFi_uAi, yFj_uAi, yFr_uAi, yAj_uAi, yAd_uAi, yAr_uAi, yAi_uAi, yK_uAj, yL_uAj, yFi_uAj, yFj_uAj, yFr_uAj, yAi_uAj, yAd_uAj, yAr_uAj, yAj_uAj, yK_uAd, yL_uAd, yFi_uAd, yFj_uAd, yFr_uAd, yAi_uAd, yAj_uAd, yAr_uAd, yAd_uAd, yK_uAr, yL_uAr, yFi_uAr, yFj_uAr, yFr_uAr, yAi_uAr, yAj_uAr, yAd_uAr, yAr_uAr, yK_uCi, yL_uCi, yFi_uCi, yFj_uCi, yFr_uCi, yAj_uCi, yAd_uCi, yAr_uCi, yK_uCj, yL_uCj, yFi_uCj, yFj_uCj, yFr_uCj, yAi_uCj, yAd_uCj, yAr_uCj, yK_uCx, yL_uCx, yFi_uCx, yFj_uCx, yFr_uCx, yAi_uCx, yAd_uCx, yAr_uCx, yK_nO, yL_nO, yFi_nO, yFj_nO, yFr_nO, yAi_nO, yAj_nO, yAd_nO, yAr_nO, yK_nA, yL_nA, yFi_nA, yFj_nA, yFr_nA, yAi_nA, yAj_nA, yAd_nA, yAr_nA, yK_nC, yL_nC, yFi_nC, yFj_nC, yFr_nC, yAi_nC, yAj_nC, yAd_nC, yAr_nC, yu2, yAi_uCi', yAj_uCj', yAj_uCx', Option.some.injEq, exists_eq_left', true_and, and_true, not_false_eq_true, forall_const, false_and, and_false, reduceIte, Nat.reduceEqDiff, ne_eq, hj]
  · simp only [yK_uFi, yL_uFi, yFj_uFi, yFr_uFi, yAi_uFi, yAj_uFi, yAd_uFi, yAr_uFi, yFi_uFi, yK_uFj, yL_uFj, yFi_uFj, yFr_uFj, yAi_uFj, yAj_uFj, yAd_uFj, yAr_uFj, yFj_uFj, yK_uFr, yL_uFr, yFi_uFr, yFj_uFr, yAi_uFr, yAj_uFr, yAd_uFr, yAr_uFr, yFr_uFr, yK_uAi, yL_uAi, yFi_uAi, yFj_uAi, yFr_uAi, yAj_uAi, yAd_uAi, yAr_uAi, yAi_uAi, yK_uAj, yL_uAj, yFi_uAj, yFj_uAj, yFr_uAj, yAi_uAj, yAd_uAj, yAr_uAj, yAj_uAj, yK_uAd, yL_uAd, yFi_uAd, yFj_uAd, yFr_uAd, yAi_uAd, yAj_uAd, yAr_uAd, yAd_uAd, yK_uAr, yL_uAr, yFi_uAr, yFj_uAr, yFr_uAr, yAi_uAr, yAj_uAr, yAd_uAr, yAr_uAr, yK_uCi, yL_uCi, yFi_uCi, yFj_uCi, yFr_uCi, yAj_uCi, yAd_uCi, yAr_uCi, yK_uCj, yL_uCj, yFi_uCj, yFj_uCj, yFr_uCj, yAi_uCj, yAd_uCj, yAr_uCj, yK_uCx, yL_uCx, yFi_uCx, yFj_uCx, yFr_uCx, yAi_uCx, yAd_uCx, yAr_uCx, yK_nO, yL_nO, yFi_nO, yFj_nO, yFr_nO, yAi_nO, yAj_nO, yAd_nO, yAr_nO, yK_nA, yL_nA, yFi_nA, yFj_nA, yFr_nA, yAi_nA, yAj_nA, yAd_nA, yAr_nA, yK_nC, yL_nC, yFi_nC, yFj_nC, yFr_nC, yAi_nC, yAj_nC, yAd_nC, yAr_nC, yu2, yAi_uCi', yAj_uCj', yAj_uCx', Option.some.injEq, exists_eq_left', true_and, and_true, not_false_eq_true, forall_const, false_and, and_false, reduceIte, Nat.reduceEqDiff, ne_eq, hj]
  · simp only [yK_uFi, yL_uFi, yFj_uFi, yFr_uFi, yAi_uFi, yAj_uFi, yAd_uFi, yAr_uFi, yFi_uFi, yK_uFj, yL_uFj, yFi_uFj, yFr_uFj, yAi_uFj, yAj_uFj, yAd_uFj, yAr_uFj, yFj_uFj, yK_uFr, yL_uFr, yFi_uFr, yFj_uFr, yAi_uFr, yAj_uFr, yAd_uFr, yAr_uFr, yFr_uFr, yK_uAi, yL_uAi, yFi_uAi, yFj_uAi, yFr_uAi, yAj_uAi, yAd_uAi, yAr_uAi, yAi_uAi, yK_uAj, yL_uAj, yFi_uAj, yFj_uAj, yFr_uAj, yAi_uAj, yAd_uAj, yAr_uAj, yAj_uAj, yK_uAd, yL_uAd, yFi_uAd, yFj_uAd, yFr_uAd, yAi_uAd, yAj_uAd, yAr_uAd, yAd_uAd, yK_uAr, yL_uAr, yFi_uAr, yFj_uAr, yFr_uAr, yAi_uAr, yAj_uAr, yAd_uAr, yAr_uAr, yK_uCi, yL_uCi, yFi_uCi, yFj_uCi, yFr_uCi, yAj_uCi, yAd_uCi, yAr_uCi, yK_uCj, yL_uCj, yFi_uCj, yFj_uCj, yFr_uCj, yAi_uCj, yAd_uCj, yAr_uCj, yK_uCx, yL_uCx, yFi_uCx, yFj_uCx, yFr_uCx, yAi_uCx, yAd_uCx, yAr_uCx, yK_nO, yL_nO, yFi_nO, yFj_nO, yFr_nO, yAi_nO, yAj_nO, yAd_nO, yAr_nO, yK_nA, yL_nA, yFi_nA, yFj_nA, yFr_nA, yAi_nA, yAj_nA, yAd_nA, yAr_nA, yK_nC, yL_nC, yFi_nC, yFj_nC, yFr_nC, yAi_nC, yAj_nC, yAd_nC, yAr_nC, yu2, yAi_uCi', yAj_uCj', yAj_uCx', Option.some.injEq, exists_eq_left', true_and, and_true, not_false_eq_true, forall_const, false_and, and_false, reduceIte, Nat.reduceEqDiff, ne_eq, n8_0]; exact b2 u v hv
  · simp only [yK_uFi, yL_uFi, yFj_uFi, yFr_uFi, yAi_uFi, yAj_uFi, yAd_uFi, yAr_uFi, yFi_uFi, yK_uFj, yL_uFj, yFi_uFj, yFr_uFj, yAi_uFj, yAj_uFj, yAd_uFj, yAr_uFj, yFj_uFj, yK_uFr, yL_uFr, yFi_uFr, yFj_uFr, yAi_uFr, yAj_uFr, yAd_uFr, yAr_uFr, yFr_uFr, yK_uAi, yL_uAi, yFi_uAi, yFj_uAi, yFr_uAi, yAj_uAi, yAd_uAi, yAr_uAi, yAi_uAi, yK_uAj, yL_uAj, yFi_uAj, yFj_uAj, yFr_uAj, yAi_uAj, yAd_uAj, yAr_uAj, yAj_uAj, yK_uAd, yL_uAd, yFi_uAd, yFj_uAd, yFr_uAd, yAi_uAd, yAj_uAd, yAr_uAd, yAd_uAd, yK_uAr, yL_uAr, yFi_uAr, yFj_uAr, yFr_uAr, yAi_uAr, yAj_uAr, yAd_uAr, yAr_uAr, yK_uCi, yL_uCi, yFi_uCi, yFj_uCi, yFr_uCi, yAj_uCi, yAd_uCi, yAr_uCi, yK_uCj, yL_uCj, yFi_uCj, yFj_uCj, yFr_uCj, yAi_uCj, yAd_uCj, yAr_uCj, yK_uCx, yL_uCx, yFi_uCx, yFj_uCx, yFr_uCx, yAi_uCx, yAd_uCx, yAr_uCx, yK_nO, yL_nO, yFi_nO, yFj_nO, yFr_nO, yAi_nO, yAj_nO, yAd_nO, yAr_nO, yK_nA, yL_nA, yFi_nA, yFj_nA, yFr_nA, yAi_nA, yAj_nA, yAd_nA, yAr_nA, yK_nC, yL_nC, yFi_nC, yFj_nC, yFr_nC, yAi_nC, yAj_nC, yAd_nC, yAr_nC, yu2, yAi_uCi', yAj_uCj', yAj_uCx', Option.some.injEq, exists_eq_left', true_and, and_true, not_false_eq_true, forall_const, false_and, and_false, reduceIte, Nat.reduceEqDiff, ne_eq, n9_0]; exact b4
  · simp only [yK_uFi, yL_uFi, yFj_uFi, yFr_uFi, yAi_uFi, yAj_uFi, yAd_uFi, yAr_uFi, yFi_uFi, yK_uFj, yL_uFj, yFi_uFj, yFr_uFj, yAi_uFj, yAj_uFj, yAd_uFj, yAr_uFj, yFj_uFj, yK_uFr, yL_uFr, yFi_uFr, yFj_uFr, yAi_uFr, yAj_uFr, yAd_uFr, yAr_uFr, yFr_uFr, yK_uAi, yL_uAi, yFi_uAi, yFj_uAi, yFr_uAi, yAj_uAi, yAd_uAi, yAr_uAi, yAi_uAi, yK_uAj, yL_uAj, yFi_uAj, yFj_uAj, yFr_uAj, yAi_uAj, yAd_uAj, yAr_uAj, yAj_uAj, yK_uAd, yL_uAd, yFi_uAd, yFj_uAd, yFr_uAd, yAi_uAd, yAj_uAd, yAr_uAd, yAd_uAd, yK_uAr, yL_uAr, yFi_uAr, yFj_uAr, yFr_uAr, yAi_uAr, yAj_uAr, yAd_uAr, yAr_uAr, yK_uCi, yL_uCi, yFi_uCi, yFj_uCi, yFr_uCi, yAj_uCi, yAd_uCi, yAr_uCi, yK_uCj, yL_uCj, yFi_uCj, yFj_uCj, yFr_uCj, yAi_uCj, yAd_uCj, yAr_uCj, yK_uCx, yL_uCx, yFi_uCx, yFj_uCx, yFr_uCx, yAi_uCx, yAd_uCx, yAr_uCx, yK_nO, yL_nO, yFi_nO, yFj_nO, yFr_nO, yAi_nO, yAj_nO, yAd_nO, yAr_nO, yK_nA, yL_nA, yFi_nA, yFj_nA, yFr_nA, yAi_nA, yAj_nA, yAd_nA, yAr_nA, yK_nC, yL_nC, yFi_nC, yFj_nC, yFr_nC, yAi_nC, yAj_nC, yAd_nC, yAr_nC, yu2, yAi_uCi', yAj_uCj', yAj_uCx', Option.some.injEq, exists_eq_left', true_and, and_true, not_false_eq_true, forall_const, false_and, and_false, reduceIte, Nat.reduceEqDiff, ne_eq]; exact b5 u v hv
  · simp only [yK_uFi, yL_uFi, yFj_uFi, yFr_uFi, yAi_uFi, yAj_uFi, yAd_uFi, yAr_uFi, yFi_uFi, yK_uFj, yL_uFj, yFi_uFj, yFr_uFj, yAi_uFj, yAj_uFj, yAd_uFj, yAr_uFj, yFj_uFj, yK_uFr, yL_uFr, yFi_uFr, yFj_uFr, yAi_uFr, yAj_uFr, yAd_uFr, yAr_uFr, yFr_uFr, yK_uAi, yL_uAi, yFi_uAi, yFj_uAi, yFr_uAi, yAj_uAi, yAd_uAi, yAr_uAi, yAi_uAi, yK_uAj, yL_uAj, yFi_uAj, yFj_uAj, yFr_uAj, yAi_uAj, yAd_uAj, yAr_uAj, yAj_uAj, yK_uAd, yL_uAd, yFi_uAd, yFj_uAd, yFr_uAd, yAi_uAd, yAj_uAd, yAr_uAd, yAd_uAd, yK_uAr, yL_uAr, yFi_uAr, yFj_uAr, yFr_uAr, yAi_uAr, yAj_uAr, yAd_uAr, yAr_uAr, yK_uCi, yL_uCi, yFi_uCi, yFj_uCi, yFr_uCi, yAj_uCi, yAd_uCi, yAr_uCi, yK_uCj, yL_uCj, yFi_uCj, yFj_uCj, yFr_uCj, yAi_uCj, yAd_uCj, yAr_uCj, yK_uCx, yL_uCx, yFi_uCx, yFj_uCx, yFr_uCx, yAi_uCx, yAd_uCx, yAr_uCx, yK_nO, yL_nO, yFi_nO, yFj_nO, yFr_nO, yAi_nO, yAj_nO, yAd_nO, yAr_nO, yK_nA, yL_nA, yFi_nA, yFj_nA, yFr_nA, yAi_nA, yAj_nA, yAd_nA, yAr_nA, yK_nC, yL_nC, yFi_nC, yFj_nC, yFr_nC, yAi_nC, yAj_nC, yAd_nC, yAr_nC, yu2, yAi_uCi', yAj_uCj', yAj_uCx', Option.some.injEq, exists_eq_left', true_and, and_true, not_false_eq_true, forall_const, false_and, and_false, reduceIte, Nat.reduceEqDiff, ne_eq]; exact b6 z
  · simp only [yK_uFi, yL_uFi, yFj_uFi, yFr_uFi, yAi_uFi, yAj_uFi, yAd_uFi, yAr_uFi, yFi_uFi, yK_uFj, yL_uFj, yFi_uFj, yFr_uFj, yAi_uFj, yAj_uFj, yAd_uFj, yAr_uFj, yFj_uFj, yK_uFr, yL_uFr, yFi_uFr, yFj_uFr, yAi_uFr, yAj_uFr, yAd_uFr, yAr_uFr, yFr_uFr, yK_uAi, yL_uAi, yFi_uAi, yFj_uAi, yFr_uAi, yAj_uAi, yAd_uAi, yAr_uAi, yAi_uAi, yK_uAj, yL_uAj, yFi_uAj, yFj_uAj, yFr_uAj, yAi_uAj, yAd_uAj, yAr_uAj, yAj_uAj, yK_uAd, yL_uAd, yFi_uAd, yFj_uAd, yFr_uAd, yAi_uAd, yAj_uAd, yAr_uAd, yAd_uAd, yK_uAr, yL_uAr, yFi_uAr, yFj_uAr, yFr_uAr, yAi_uAr, yAj_uAr, yAd_uAr, yAr_uAr, yK_uCi, yL_uCi, yFi_uCi, yFj_uCi, yFr_uCi, yAj_uCi, yAd_uCi, yAr_uCi, yK_uCj, yL_uCj, yFi_uCj, yFj_uCj, yFr_uCj, yAi_uCj, yAd_uCj, yAr_uCj, yK_uCx, yL_uCx, yFi_uCx, yFj_uCx, yFr_uCx, yAi_uCx, yAd_uCx, yAr_uCx, yK_nO, yL_nO, yFi_nO, yFj_nO, yFr_nO, yAi_nO, yAj_nO, yAd_nO, yAr_nO, yK_nA, yL_nA, yFi_nA, yFj_nA, yFr_nA, yAi_nA, yAj_nA, yAd_nA, yAr_nA, yK_nC, yL_nC, yFi_nC, yFj_nC, yFr_nC, yAi_nC, yAj_nC, yAd_nC, yAr_nC, yu2, yAi_uCi', yAj_uCj', yAj_uCx', Option.some.injEq, exists_eq_left', true_and, and_true, not_false_eq_true, forall_const, false_and, and_false, reduceIte, Nat.reduceEqDiff, ne_eq]
  · simp only [yK_uFi, yL_uFi, yFj_uFi, yFr_uFi, yAi_uFi, yAj_uFi, yAd_uFi, yAr_uFi, yFi_uFi, yK_uFj, yL_uFj, yFi_uFj, yFr_uFj, yAi_uFj, yAj_uFj, yAd_uFj, yAr_uFj, yFj_uFj, yK_uFr, yL_uFr, yFi_uFr, yFj_uFr, yAi_uFr, yAj_uFr, yAd_uFr, yAr_uFr, yFr_uFr, yK_uAi, yL_uAi, yFi_uAi, yFj_uAi, yFr_uAi, yAj_uAi, yAd_uAi, yAr_uAi, yAi_uAi, yK_uAj, yL_uAj, yFi_uAj, yFj_uAj, yFr_uAj, yAi_uAj, yAd_uAj, yAr_uAj, yAj_uAj, yK_uAd, yL_uAd, yFi_uAd, yFj_uAd, yFr_uAd, yAi_uAd, yAj_uAd, yAr_uAd, yAd_uAd, yK_uAr, yL_uAr, yFi_uAr, yFj_uAr, yFr_uAr, yAi_uAr, yAj_uAr, yAd_uAr, yAr_uAr, yK_uCi, yL_uCi, yFi_uCi, yFj_uCi, yFr_uCi, yAj_uCi, yAd_uCi, yAr_uCi, yK_uCj, yL_uCj, yFi_uCj, yFj_uCj, yFr_uCj, yAi_uCj, yAd_uCj, yAr_uCj, yK_uCx, yL_uCx, yFi_uCx, yFj_uCx, yFr_uCx, yAi_uCx, yAd_uCx, yAr_uCx, yK_nO, yL_nO, yFi_nO, yFj_nO, yFr_nO, yAi_nO, yAj_nO, yAd_nO, yAr_nO, yK_nA, yL_nA, yFi_nA, yFj_nA, yFr_nA, yAi_nA, yAj_nA, yAd_nA, yAr_nA, yK_nC, yL_nC, yFi_nC, yFj_nC, yFr_nC, yAi_nC, yAj_nC, yAd_nC, yAr_nC, yu2, yAi_uCi', yAj_uCj', yAj_uCx', Option.some.injEq, exists_eq_left', true_and, and_true, not_false_eq_true, forall_const, false_and, and_false, reduceIte, Nat.reduceEqDiff, ne_eq]
theorem WI.upd {V : Type} {O : RdO V} {A L : List Ans} (hA : okA O A) (h : WI O A L 1 0) {i : Nat} {e c s e2 : Ans} (he : L[i]? = some e) (hc : c ∈ L) (hm : mt A c e s) (er : e2.1 = e.1) (l : O.le (O.vl e2) (O.vl e)) (o : O.vl e2 = O.vl e ∨ O.vl e2 = O.op (O.vl c) (O.vl s)) : WI O A (L.set i e2) 1 0 := by
  have em := List.mem_of_getElem? he
  have x0 : at0 e2 = at0 e := by unfold at0; rw [er]
  have x1 : at1 e2 = at1 e := by unfold at1; rw [er]
  refine ⟨fun a ha => ?_, fun j a ha => ?_⟩
  · rcases List.mem_or_eq_of_mem_set ha with q | q
    · exact h.1 a q
    · rw [q, x0, x1]
      rcases o with z | z
      · rw [z]; exact h.1 e em
      · obtain ⟨s0, s1⟩ := at0_of hm.2.1
        rcases h.1 c hc with w | ⟨T, w⟩
        · refine Or.inl ?_
          rw [z, w]; exact O.tt (hA s hm.1)
        · refine Or.inr ⟨at1 e :: T, ?_⟩
          rw [z, ← hm.2.2]
          have := Wk.more T (at1 c) (O.vl c) s w hm.1 s0
          rw [s1] at this
          exact this
  · rw [List.getElem?_set] at ha
    by_cases c : i = j
    · subst c
      rw [if_pos rfl, if_pos (List.getElem?_eq_some_iff.mp he).1] at ha
      cases ha
      have := h.2 i e he
      unfold Dpt at this ⊢
      rw [x0, x1]
      exact fun T u w hT => O.tr l (this T u w hT)
    · rw [if_neg c] at ha
      exact h.2 j a ha
/-- what the readings weigh: each bettering lowers it -/
def muE (e : Ans) : Nat := e.2.2.2.1.toInt.toNat + (9223372036854775808 - e.2.2.2.2.toInt).toNat
def mu : List Ans → Nat
  | [] => 0
  | e :: L => muE e + mu L
theorem mu_set : ∀ {L : List Ans} {i : Nat} {e e2 : Ans}, L[i]? = some e → muE e2 < muE e → mu (L.set i e2) < mu L
  | [], i, e, e2, h, _ => by rw [List.getElem?_nil] at h; cases h
  | a :: L, 0, e, e2, h, l => by
    have h : some a = some e := h
    cases h
    show muE e2 + mu L < muE a + mu L
    omega
  | a :: L, i + 1, e, e2, h, l => by
    have := mu_set (L := L) (i := i) (e := e) (e2 := e2) (by rw [List.getElem?_cons_succ] at h; exact h) l
    show muE a + mu (L.set i e2) < muE a + mu L
    omega
def mtE (e c s : Ans) : Ans := (e.1, e.2.1, e.2.2.1, (if csB c.2.2.2.1 s.2.2.2.1 < e.2.2.2.1 then csB c.2.2.2.1 s.2.2.2.1 else e.2.2.2.1), (if mnT c.2.2.2.2 s.2.2.2.2 < e.2.2.2.2 then e.2.2.2.2 else mnT c.2.2.2.2 s.2.2.2.2))
def Cld (A : List Ans) (c e s : Ans) : Prop := mt A c e s → rdC.le (rdC.vl e) (rdC.op (rdC.vl c) (rdC.vl s)) ∧ rdT.le (rdT.vl e) (rdT.op (rdT.vl c) (rdT.vl s))
theorem mtE_mu {e c s : Ans} (he : cOk e.2.2.2.1) (hc : cOk (csB c.2.2.2.1 s.2.2.2.1)) (b : csB c.2.2.2.1 s.2.2.2.1 < e.2.2.2.1 ∨ e.2.2.2.2 < mnT c.2.2.2.2 s.2.2.2.2) : muE (mtE e c s) < muE e := by
  have h1 := cOk_i he
  have h2 := cOk_i hc
  have t1 := Int64.toInt_lt e.2.2.2.2
  have t2 := Int64.toInt_lt (mnT c.2.2.2.2 s.2.2.2.2)
  show (if csB c.2.2.2.1 s.2.2.2.1 < e.2.2.2.1 then csB c.2.2.2.1 s.2.2.2.1 else e.2.2.2.1).toInt.toNat + (9223372036854775808 - (if mnT c.2.2.2.2 s.2.2.2.2 < e.2.2.2.2 then e.2.2.2.2 else mnT c.2.2.2.2 s.2.2.2.2).toInt).toNat < e.2.2.2.1.toInt.toNat + (9223372036854775808 - e.2.2.2.2.toInt).toNat
  generalize csB c.2.2.2.1 s.2.2.2.1 = x at *
  generalize mnT c.2.2.2.2 s.2.2.2.2 = y at *
  by_cases p : x < e.2.2.2.1
  · rw [if_pos p]
    rw [Int32.lt_iff_toInt_lt] at p
    by_cases r : y < e.2.2.2.2
    · rw [if_pos r]; omega
    · rw [if_neg r]
      rw [Int64.lt_iff_toInt_lt] at r
      omega
  · rw [if_neg p]
    rcases b with z | z
    · exact absurd z p
    · rw [if_neg (fun r => absurd (Int64.lt_trans z r) Int64.lt_irrefl)]
      rw [Int64.lt_iff_toInt_lt] at z
      omega
/-- what stays through the betterings -/
def CI (A L0 L : List Ans) : Prop := L.map bare = L0.map bare ∧ (∀ e ∈ L, e.2.2.1 = 0) ∧ WI rdC A L 1 0 ∧ WI rdT A L 1 0
theorem CI.upd {A L0 L : List Ans} (hC : okA rdC A) (hT : okA rdT A) (h : CI A L0 L) {i : Nat} {e c s : Ans} (he : L[i]? = some e) (hc : c ∈ L) (hm : mt A c e s) : CI A L0 (L.set i (mtE e c s)) := by
  obtain ⟨h1, h2, h3, h4⟩ := h
  have pc := mn_pick (csB c.2.2.2.1 s.2.2.2.1) e.2.2.2.1
  have pt := mx_pick (mnT c.2.2.2.2 s.2.2.2.2) e.2.2.2.2
  refine ⟨(set_bare (e2 := mtE e c s) he rfl rfl).trans h1, fun a ha => ?_, h3.upd hC he hc hm rfl pc.1 pc.2.2, h4.upd hT he hc hm rfl pt.1 pt.2.2⟩
  rcases List.mem_or_eq_of_mem_set ha with u | u
  · exact h2 a u
  · rw [u]; exact h2 e (List.mem_of_getElem? he)
theorem CI.row {A L0 L : List Ans} (h : CI A L0 L) {i : Nat} {e e0 : Ans} (he : L[i]? = some e) (h0 : L0[i]? = some e0) : e.1 = e0.1 := by
  have := congrArg (fun l : List Ans => l[i]?) h.1
  simp only [List.getElem?_map, he, h0, Option.map_some] at this
  have b : bare e = bare e0 := Option.some.inj this
  show (bare e).1 = (bare e0).1
  rw [b]
theorem CI.len {A L0 L : List Ans} (h : CI A L0 L) : L.length = L0.length := by
  have := congrArg List.length h.1
  rw [List.length_map, List.length_map] at this
  exact this
theorem M_chains (h : Sh ad ct σ) {k s1 : Nat} {cl1 : Bool} {A L0 : List Ans} (hk : k < 42) (hs1 : s1 < 42) (n1 : s1 ≠ k) (q1 : MR ad σ s1 A 2 cl1) (qk : MR ad σ k L0 2 true) (hd : (A.map (fun e => e.1)).Nodup) (hC : okA rdC A) (hT : okA rdT A) (hR : RCl A L0) (hI : ∀ e ∈ L0, e.2.2.1 = 0 ∧ Ini rdC A e ∧ Ini rdT A e) {Q : St → Prop} (hQ : ∀ σ' R, Fr ct (SS k) σ σ' → MR ad σ' k R 2 true → R.map bare = L0.map bare → Wgh A R → Q σ') : wX16_chains (ad 15 k 0) (ad 15 s1 0) σ Q := by
  have lA := q1.2.2.2.1
  have lL := qk.2.2.2.1
  have q1f : ∀ {σ3 : St}, Fr ct (SS k) σ σ3 → MR ad σ3 s1 A 2 cl1 := fun {σ3} F => q1.ss h F hs1 (fun g hg z => by
    simp only [SS, Prod.mk.injEq] at z
    omega)
  have e6 : ∀ i : Nat, (6 : Int32) * nI i = nI (6 * i) := fun i => by rw [show (6 : Int32) = nI 6 from rfl, pk_mul]
  have lp60 : ∀ (r2 : Nat → Nat → Int32 → St → Prop) (r10 : Nat → Nat → Int32 → Int32 → St → Prop) (r21 : Nat → Nat → Int32 → Int32 → Int32 → St → Prop) (m0 n m : Nat) (c0 s : Ans) (P : List Ans → Prop), L0[n]? = some c0 → A[m]? = some s → at1 c0 = at0 s → (∀ (fl : Int32) (L : List Ans) (σ3 : St), (fl = 0 ∨ fl = 1) → Fr ct (SS k) σ σ3 → MR ad σ3 k L 2 true → CI A L0 L → mu L ≤ m0 → (fl = 1 → mu L < m0) → (fl = 0 → P L ∧ ∀ c, L[n]? = some c → ∀ e ∈ L, Cld A c e s) → r21 (ad 15 k 0) (ad 15 s1 0) fl (nI n) (nI m + 1) σ3) → ∀ (d i : Nat) (fl : Int32) (L : List Ans) (σ3 : St), i + d = L0.length → (fl = 0 ∨ fl = 1) → Fr ct (SS k) σ σ3 → MR ad σ3 k L 2 true → CI A L0 L → mu L ≤ m0 → (fl = 1 → mu L < m0) → (fl = 0 → P L ∧ ∀ c, L[n]? = some c → ∀ (j : Nat) e, j < i → L[j]? = some e → Cld A c e s) → lX16_chains_60 Q r2 r10 r21 (d + 1) (ad 15 k 0) (ad 15 s1 0) fl (nI n) (nI m) (nI i) σ3 := by
    intro r2 r10 r21 m0 n m c0 s P hc0 hs ecs hr d
    have hn := (List.getElem?_eq_some_iff.mp hc0).1
    have hm := (List.getElem?_eq_some_iff.mp hs).1
    have sm := List.mem_of_getElem? hs
    induction d with
    | zero =>
      intro i fl L σ3 hi hfl F q I ml mlt cl
      have h3 := h.frM (F.mono (SS_SM k))
      have ln := I.len
      have hi : i = L.length := by omega
      refine ⟨k15 h3 hk, fun _ => hr fl L σ3 hfl F q I ml mlt (fun z => ⟨(cl z).1, fun c hc e he => ?_⟩), fun z => absurd ?_ z⟩
      · obtain ⟨j, hj, ej⟩ := List.mem_iff_getElem.mp he
        exact (cl z).2 c hc j e (by omega) (by rw [List.getElem?_eq_getElem hj, ej])
      · rw [q.1, hi]; exact nI_le (Nat.le_refl _) (by omega)
    | succ d ih =>
      intro i fl L σ3 hi hfl F q I ml mlt cl
      have h3 := h.frM (F.mono (SS_SM k))
      have ln := I.len
      obtain ⟨e, he⟩ : ∃ e, L[i]? = some e := ⟨_, List.getElem?_eq_getElem (by omega)⟩
      obtain ⟨c, hc⟩ : ∃ c, L[n]? = some c := ⟨_, List.getElem?_eq_getElem (by omega)⟩
      have em := List.mem_of_getElem? he
      have cm := List.mem_of_getElem? hc
      have crow := I.row hc hc0
      have c1e : at1 c = at1 c0 := by unfold at1; rw [crow]
      have rowe := q.2.2.2.2 i e he
      have rowc := q.2.2.2.2 n c hc
      have rows := (q1f F).2.2.2.2 m s hs
      obtain ⟨e0, e1, ee⟩ := rowe.r01
      obtain ⟨x0, x1, xe⟩ := rowc.r01
      obtain ⟨y0, y1, ye⟩ := rows.r01
      have okE := I.2.2.1.1.ok hC e em
      have okC := I.2.2.1.1.ok hC c cm
      have okS := hC s sm
      have tE : tru e.2.2.2.2 := I.2.2.2.1.ok hT e em
      have tC : tru c.2.2.2.2 := I.2.2.2.1.ok hT c cm
      have tS : tru s.2.2.2.2 := hT s sm
      have tM2 : tru (if s.2.2.2.2 < c.2.2.2.2 then s.2.2.2.2 else c.2.2.2.2) := mnT_tru tC tS
      have xi : ix (nI i) = i := nI_clamp (by omega)
      have xn : ix (nI n) = n := nI_clamp (by omega)
      have xm : ix (nI m) = m := nI_clamp (by omega)
      have stay : (fl = 0 → Cld A c e s) → lX16_chains_60 Q r2 r10 r21 (d + 1) (ad 15 k 0) (ad 15 s1 0) fl (nI n) (nI m) (nI i + 1) σ3 := fun cle => by
        rw [nI_1]
        refine ih (i + 1) fl L σ3 (by omega) hfl F q I ml mlt (fun z => ⟨(cl z).1, fun c2 hc2 j e2 hj he2 => ?_⟩)
        by_cases cc : j = i
        · rw [cc, he] at he2
          cases he2
          rw [hc] at hc2
          cases hc2
          exact cle z
        · exact (cl z).2 c2 hc2 j e2 (by omega) he2
      refine ⟨k15 h3 hk, fun z => absurd z (by rw [q.1]; exact nI_ge (by omega) (by omega)), fun _ => ⟨_, p898 h3 hk, k898 h3 hk, by rw [e6, l898 h3 hk]; exact vp_in_nI (by omega) (by decide), by rw [e6, l898 h3 hk]; exact vp_in_nI (by omega) (by decide), ?_⟩⟩
      rw [e6, e6, e6, nI_1 (6 * i), nI_1 (6 * m), show ix (nI (6 * i)) = 6 * i from nI_clamp (by omega), show ix (nI (6 * n)) = 6 * n from nI_clamp (by omega), show ix (nI (6 * i + 1)) = 6 * i + 1 from nI_clamp (by omega), show ix (nI (6 * m + 1)) = 6 * m + 1 from nI_clamp (by omega), e0, x0, e1]
      refine ⟨fun z => stay (fun _ hmt => absurd hmt.2.2.symm z), fun z0 => ⟨by rw [l898 h3 hk]; exact vp_in_nI (by omega) (by decide), k15 h3 hs1, _, p898 h3 hs1, k898 h3 hs1, by rw [l898 h3 hs1]; exact vp_in_nI (by omega) (by decide), fun z1 => ?_, fun z1 => stay (fun _ hmt => absurd (by rw [y1, (at0_of hmt.2.1).2]) z1)⟩⟩
      rw [y1] at z1
      have hmt : mt A c e s := ⟨sm, by rw [ye, z1, c1e, ecs], z0.symm⟩
      refine ⟨_, p900 h3 hk, k900 h3 hk, by rw [l900 h3 hk]; exact vp_in_nI (by omega) (by decide), _, p900 h3 hs1, k900 h3 hs1, by rw [l900 h3 hs1]; exact vp_in_nI (by omega) (by decide), ?_⟩
      rw [xn, xm, rowc.2.2.2.2.2.2.1, rows.2.2.2.2.2.2.1]
      refine ⟨k15 h3 hk, _, p903 h3 hk, k903 h3 hk, by rw [l903 h3 hk]; exact vp_in_nI (by omega) (by decide), k15 h3 hs1, _, p903 h3 hs1, k903 h3 hs1, by rw [l903 h3 hs1]; exact vp_in_nI (by omega) (by decide), by rw [rowc.2.2.2.2.2.2.2]; exact tru_nan tC, by rw [rows.2.2.2.2.2.2.2]; exact tru_nan tS, _, p900 h3 hk, k900 h3 hk, by rw [l900 h3 hk]; exact vp_in_nI (by omega) (by decide), ?_⟩
      rw [xi, rowc.2.2.2.2.2.2.2, rows.2.2.2.2.2.2.2, rowe.2.2.2.2.2.2.1, rowe.2.2.2.2.2.2.2, tru_min tC tS, tru_gt tE tM2]
      have tM : tru (mnT c.2.2.2.2 s.2.2.2.2) := mnT_tru tC tS
      have bet : (csB c.2.2.2.1 s.2.2.2.1 < e.2.2.2.1 ∨ e.2.2.2.2 < mnT c.2.2.2.2 s.2.2.2.2) → wX16_chains_185 Q r2 r10 r21 (lX16_chains_60 Q r2 r10 r21 (d + 1)) (ad 15 k 0) (ad 15 s1 0) (nI n) (nI m) (nI i) (csB c.2.2.2.1 s.2.2.2.1) (mnT c.2.2.2.2 s.2.2.2.2).toUInt64 σ3 := fun b => by
        refine ⟨k15 h3 hk, _, p900 h3 hk, k900 h3 hk, by rw [l900 h3 hk]; exact vp_in_nI (by omega) (by decide), _, p903 h3 hk, k903 h3 hk, by rw [l903 h3 hk]; exact vp_in_nI (by omega) (by decide), ?_, tru_nan tM, ?_⟩
        · rw [xi, rowe.2.2.2.2.2.2.2]; exact tru_nan tE
        · rw [xi, rowe.2.2.2.2.2.2.1, rowe.2.2.2.2.2.2.2, tru_max tE tM, mx_eq, nI_1]
          obtain ⟨F4, q4⟩ := M_up h3 hk q he (if csB c.2.2.2.1 s.2.2.2.1 < e.2.2.2.1 then csB c.2.2.2.1 s.2.2.2.1 else e.2.2.2.1) (if mnT c.2.2.2.2 s.2.2.2.2 < e.2.2.2.2 then e.2.2.2.2 else mnT c.2.2.2.2 s.2.2.2.2)
          have lt := mu_set (e2 := mtE e c s) he (mtE_mu okE (rdC.oo okC okS) b)
          exact ih (i + 1) 1 (L.set i (mtE e c s)) _ (by omega) (Or.inr rfl) (F.tr1 F4) q4 (I.upd hC hT he cm hmt) (by omega) (fun _ => by omega) (fun z => absurd z (by decide))
      refine ⟨fun b => bet (Or.inl b), fun nb => ⟨by rw [l903 h3 hk]; exact vp_in_nI (by omega) (by decide), fun b => bet (Or.inr b), fun nb2 => stay (fun _ _ => ⟨Int32.not_lt.mp nb, Int64.not_lt.mp nb2⟩)⟩⟩
  have lp21 : ∀ (r2 : Nat → Nat → Int32 → St → Prop) (r10 : Nat → Nat → Int32 → Int32 → St → Prop) (m0 n : Nat) (c0 : Ans) (P : List Ans → Prop), L0[n]? = some c0 → (∀ (fl : Int32) (L : List Ans) (σ3 : St), (fl = 0 ∨ fl = 1) → Fr ct (SS k) σ σ3 → MR ad σ3 k L 2 true → CI A L0 L → mu L ≤ m0 → (fl = 1 → mu L < m0) → (fl = 0 → P L ∧ ∀ c, L[n]? = some c → ∀ s ∈ A, ∀ e ∈ L, Cld A c e s) → r10 (ad 15 k 0) (ad 15 s1 0) fl (nI n + 1) σ3) → ∀ (d m : Nat) (fl : Int32) (L : List Ans) (σ3 : St), m + d = A.length → (fl = 0 ∨ fl = 1) → Fr ct (SS k) σ σ3 → MR ad σ3 k L 2 true → CI A L0 L → mu L ≤ m0 → (fl = 1 → mu L < m0) → (fl = 0 → P L ∧ ∀ c, L[n]? = some c → ∀ (b : Nat) s, b < m → A[b]? = some s → ∀ e ∈ L, Cld A c e s) → lX16_chains_21 Q r2 r10 (d + 1) (ad 15 k 0) (ad 15 s1 0) fl (nI n) (nI m) σ3 := by
    intro r2 r10 m0 n c0 P hc0 hr d
    have hn := (List.getElem?_eq_some_iff.mp hc0).1
    induction d with
    | zero =>
      intro m fl L σ3 hm hfl F q I ml mlt cl
      have h3 := h.frM (F.mono (SS_SM k))
      have hm : m = A.length := by omega
      refine ⟨k15 h3 hs1, fun _ => hr fl L σ3 hfl F q I ml mlt (fun z => ⟨(cl z).1, fun c hc s hs e he => ?_⟩), fun z => absurd ?_ z⟩
      · obtain ⟨j, hj, ej⟩ := List.mem_iff_getElem.mp hs
        exact (cl z).2 c hc j s (by omega) (by rw [List.getElem?_eq_getElem hj, ej]) e he
      · rw [(q1f F).1, hm]; exact nI_le (Nat.le_refl _) (by omega)
    | succ d ih =>
      intro m fl L σ3 hm hfl F q I ml mlt cl
      have h3 := h.frM (F.mono (SS_SM k))
      have ln := I.len
      obtain ⟨c, hc⟩ : ∃ c, L[n]? = some c := ⟨_, List.getElem?_eq_getElem (by omega)⟩
      obtain ⟨s, hs⟩ : ∃ s, A[m]? = some s := ⟨_, List.getElem?_eq_getElem (by omega)⟩
      have crow := I.row hc hc0
      have c1e : at1 c = at1 c0 := by unfold at1; rw [crow]
      obtain ⟨x0, x1, xe⟩ := (q.2.2.2.2 n c hc).r01
      obtain ⟨y0, y1, ye⟩ := ((q1f F).2.2.2.2 m s hs).r01
      refine ⟨k15 h3 hs1, fun z => absurd z (by rw [(q1f F).1]; exact nI_ge (by omega) (by omega)), fun _ => ⟨k15 h3 hk, _, p898 h3 hk, k898 h3 hk, by rw [e6, nI_1, l898 h3 hk]; exact vp_in_nI (by omega) (by decide), _, p898 h3 hs1, k898 h3 hs1, by rw [e6, l898 h3 hs1]; exact vp_in_nI (by omega) (by decide), ?_⟩⟩
      rw [e6, e6, nI_1 (6 * n), show ix (nI (6 * m)) = 6 * m from nI_clamp (by omega), show ix (nI (6 * n + 1)) = 6 * n + 1 from nI_clamp (by omega), x1, y0]
      have nxt : ∀ (fl : Int32) (L : List Ans) (σ4 : St), (fl = 0 ∨ fl = 1) → Fr ct (SS k) σ σ4 → MR ad σ4 k L 2 true → CI A L0 L → mu L ≤ m0 → (fl = 1 → mu L < m0) → (fl = 0 → (P L ∧ ∀ c, L[n]? = some c → ∀ (b : Nat) s, b < m → A[b]? = some s → ∀ e ∈ L, Cld A c e s) ∧ ∀ c, L[n]? = some c → ∀ e ∈ L, Cld A c e s) → lX16_chains_21 Q r2 r10 (d + 1) (ad 15 k 0) (ad 15 s1 0) fl (nI n) (nI m + 1) σ4 := fun fl L σ4 hfl F q I ml mlt cl => by
        rw [nI_1]
        refine ih (m + 1) fl L σ4 (by omega) hfl F q I ml mlt (fun z => ⟨(cl z).1.1, fun c2 hc2 b s2 hb hs2 => ?_⟩)
        by_cases cc : b = m
        · rw [cc, hs] at hs2
          cases hs2
          exact (cl z).2 c2 hc2
        · exact (cl z).1.2 c2 hc2 b s2 (by omega) hs2
      refine ⟨fun z => ⟨L0.length + 1, ?_⟩, fun z => nxt fl L σ3 hfl F q I ml mlt (fun y => ⟨cl y, fun c2 hc2 e he hmt => ?_⟩)⟩
      · exact lp60 r2 r10 _ m0 n m c0 s (fun L => P L ∧ ∀ c, L[n]? = some c → ∀ (b : Nat) s, b < m → A[b]? = some s → ∀ e ∈ L, Cld A c e s) hc0 hs (by rw [← c1e]; exact z) (fun fl L σ4 hfl F q I ml mlt cl => nxt fl L σ4 hfl F q I ml mlt cl) L0.length 0 fl L σ3 (by omega) hfl F q I ml mlt (fun y => ⟨cl y, fun c2 hc2 j e hj => absurd hj (Nat.not_lt_zero _)⟩)
      · rw [hc] at hc2
        cases hc2
        exact absurd (at0_of hmt.2.1).1.symm z
  have lp10 : ∀ (r2 : Nat → Nat → Int32 → St → Prop) (m0 : Nat), (∀ (fl : Int32) (L : List Ans) (σ3 : St), (fl = 0 ∨ fl = 1) → Fr ct (SS k) σ σ3 → MR ad σ3 k L 2 true → CI A L0 L → mu L ≤ m0 → (fl = 1 → mu L < m0) → (fl = 0 → ∀ c ∈ L, ∀ s ∈ A, ∀ e ∈ L, Cld A c e s) → r2 (ad 15 k 0) (ad 15 s1 0) fl σ3) → ∀ (d n : Nat) (fl : Int32) (L : List Ans) (σ3 : St), n + d = L0.length → (fl = 0 ∨ fl = 1) → Fr ct (SS k) σ σ3 → MR ad σ3 k L 2 true → CI A L0 L → mu L ≤ m0 → (fl = 1 → mu L < m0) → (fl = 0 → ∀ (a : Nat) c, a < n → L[a]? = some c → ∀ s ∈ A, ∀ e ∈ L, Cld A c e s) → lX16_chains_10 Q r2 (d + 1) (ad 15 k 0) (ad 15 s1 0) fl (nI n) σ3 := by
    intro r2 m0 hr d
    induction d with
    | zero =>
      intro n fl L σ3 hn hfl F q I ml mlt cl
      have h3 := h.frM (F.mono (SS_SM k))
      have ln := I.len
      have hn : n = L.length := by omega
      refine ⟨k15 h3 hk, fun _ => hr fl L σ3 hfl F q I ml mlt (fun z c hc => ?_), fun z => absurd ?_ z⟩
      · obtain ⟨j, hj, ej⟩ := List.mem_iff_getElem.mp hc
        exact cl z j c (by omega) (by rw [List.getElem?_eq_getElem hj, ej])
      · rw [q.1, hn]; exact nI_le (Nat.le_refl _) (by omega)
    | succ d ih =>
      intro n fl L σ3 hn hfl F q I ml mlt cl
      have h3 := h.frM (F.mono (SS_SM k))
      have ln := I.len
      obtain ⟨c0, hc0⟩ : ∃ c0, L0[n]? = some c0 := ⟨_, List.getElem?_eq_getElem (by omega)⟩
      refine ⟨k15 h3 hk, fun z => absurd z (by rw [q.1]; exact nI_ge (by omega) (by omega)), fun _ => ⟨A.length + 1, ?_⟩⟩
      refine lp21 r2 _ m0 n c0 (fun L => ∀ (a : Nat) c, a < n → L[a]? = some c → ∀ s ∈ A, ∀ e ∈ L, Cld A c e s) hc0 (fun fl L σ4 hfl F q I ml mlt cl => ?_) A.length 0 fl L σ3 (by omega) hfl F q I ml mlt (fun z => ⟨cl z, fun c hc b s hb => absurd hb (Nat.not_lt_zero _)⟩)
      rw [nI_1]
      refine ih (n + 1) fl L σ4 (by omega) hfl F q I ml mlt (fun z a c ha hc => ?_)
      by_cases cc : a = n
      · rw [cc] at hc
        exact (cl z).2 c hc
      · exact (cl z).1 a c (by omega) hc
  have lp2 : ∀ (d : Nat) (L : List Ans) (σ3 : St), mu L < d → Fr ct (SS k) σ σ3 → MR ad σ3 k L 2 true → CI A L0 L → lX16_chains_2 Q (d + 1) (ad 15 k 0) (ad 15 s1 0) 1 σ3 := by
    intro d
    induction d with
    | zero => intro L σ3 hd; exact absurd hd (Nat.not_lt_zero _)
    | succ d ih =>
      intro L σ3 hd2 F q I
      refine ⟨fun z => absurd z (by decide), fun _ => ⟨L0.length + 1, ?_⟩⟩
      refine lp10 _ (mu L) (fun fl L2 σ4 hfl F q I ml mlt cl => ?_) L0.length 0 0 L σ3 (by omega) (Or.inl rfl) F q I (Nat.le_refl _) (fun z => absurd z (by decide)) (fun _ a c ha => absurd ha (Nat.not_lt_zero _))
      rcases hfl with z | z
      · subst z
        refine ⟨fun _ => hQ σ4 L2 F q I.1 (fun e he => ?_), fun z => absurd rfl z⟩
        have hR2 : RCl A L2 := hR.rows (by rw [← bare_rows L0, ← I.1, bare_rows])
        have cc := cl rfl
        exact ⟨I.2.1 e he, I.2.2.1.bstC hC hR2 (by decide) (fun e he c hc s hmt => (cc c hc s hmt.1 e he hmt).1) e he, I.2.2.2.bstC hT hR2 (by decide) (fun e he c hc s hmt => (cc c hc s hmt.1 e he hmt).2) e he⟩
      · subst z
        exact ih L2 σ4 (by have := mlt rfl; omega) F q I
  exact ⟨_, lp2 (mu L0 + 1) L0 σ (by omega) Fr.rf qk ⟨rfl, fun e he => (hI e he).1, Ini.wi hd hR hC (fun e he => (hI e he).2.1), Ini.wi hd hR hT (fun e he => (hI e he).2.2)⟩⟩
end NK
