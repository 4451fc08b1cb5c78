/-! the reference: a sheet becomes another -/
section NJ
variable {ad : Ad} {ct : Ct} {σ : St}
theorem M_becomes (h : Sh ad ct σ) {s t w : Nat} {cl : Bool} {L : List Ans} (hs : s < 42) (ht : t < 42) (n : s ≠ t) (q : MR ad σ s L w cl) {Q : St → Prop} (hQ : ∀ σ', Fr ct (SS t) σ σ' → MR ad σ' t L w cl → Q σ') : wX16_becomes (ad 15 t 0) (ad 15 s 0) σ Q := by
  have ns : ∀ g, ¬ SS t (g, s) := fun g z => by
    simp only [SS, Prod.mk.injEq] at z
    omega
  have e15 : ad 15 s 0 ≠ ad 15 t 0 := fun z => by
    have b := c15 h hs
    rw [z, c15 h ht] at b
    cases b; exact n rfl
  have zt : ∀ {τ : St} (g : Nat), (g = 898 ∨ g = 899 ∨ g = 900 ∨ g = 901 ∨ g = 902 ∨ g = 903) → SS t (g, t) := fun {τ} g hg => by rcases hg with rfl | rfl | rfl | rfl | rfl | rfl <;> simp [SS]
  have n90 : ad 899 t 0 ≠ ad 900 t 0 := fun z => by have b := c899 h ht; rw [z, c900 h ht] at b; cases b
  have n80 : ad 898 t 0 ≠ ad 900 t 0 := fun z => by have b := c898 h ht; rw [z, c900 h ht] at b; cases b
  have n89 : ad 898 t 0 ≠ ad 899 t 0 := fun z => by have b := c898 h ht; rw [z, c899 h ht] at b; cases b
  have n12 : ad 901 t 0 ≠ ad 902 t 0 := fun z => by have b := c901 h ht; rw [z, c902 h ht] at b; cases b
  have s09 : ad 900 s 0 ≠ ad 899 t 0 := fun z => by have b := c900 h hs; rw [z, c899 h ht] at b; cases b
  have l3 : ∀ (d i : Nat) (σ3 : St), i + d = 32 → Fr ct (SS t) σ σ3 → zFi σ3 896 (ad 15 t 0) = nI L.length → zFi σ3 897 (ad 15 t 0) = nI w → (∀ m, m < 192 → zAi σ3 (ad 898 t 0) m = zAi σ (ad 898 s 0) m) → (∀ m, m < 512 → zAj σ3 (ad 901 t 0) m = zAj σ (ad 901 s 0) m) → (∀ m, m < i → zAi σ3 (ad 899 t 0) m = zAi σ (ad 899 s 0) m ∧ zAj σ3 (ad 902 t 0) m = zAj σ (ad 902 s 0) m ∧ zAi σ3 (ad 900 t 0) m = zAi σ (ad 900 s 0) m ∧ zAd σ3 (ad 903 t 0) m = zAd σ (ad 903 s 0) m) → lX16_becomes_72 Q (d + 1) (ad 15 t 0) (ad 15 s 0) (nI i) σ3 := by
    intro d
    induction d with
    | zero =>
      intro i σ3 hi F a1 a2 a3 a4 a5
      refine ⟨fun _ => hQ σ3 F ⟨a1, a2, q.2.2.1, q.2.2.2.1, fun r e he => ?_⟩, fun z => absurd (nI_le (a := 32) (b := i) (by omega) (by omega)) z⟩
      have hr := (List.getElem?_eq_some_iff.mp he).1
      have h32 := q.2.2.2.1
      have w6 := q.2.2.1
      obtain ⟨b1, b2, b3, b4, b5, b6, b7, b8⟩ := q.2.2.2.2 r e he
      obtain ⟨c1, c2, c3, c4⟩ := a5 r (by omega)
      refine ⟨b1, fun m v hv => ?_, b3, c1.trans b4, fun m v hv => ?_, fun z => c2.trans (b6 z), c3.trans b7, c4.trans b8⟩
      · have := (List.getElem?_eq_some_iff.mp hv).1
        exact (a3 _ (by omega)).trans (b2 m v hv)
      · have := (List.getElem?_eq_some_iff.mp hv).1
        exact (a4 _ (by omega)).trans (b5 m v hv)
    | succ d ih =>
      intro i σ3 hi F a1 a2 a3 a4 a5
      have h3 := h.frM (F.mono (SS_SM t))
      have f9 : zAi σ3 (ad 899 s 0) i = zAi σ (ad 899 s 0) i := F.ai (k899 h hs) (by decide) (c899 h hs) (ns _) i
      have f2 : zAj σ3 (ad 902 s 0) i = zAj σ (ad 902 s 0) i := F.aj (k902 h hs) (by decide) (c902 h hs) (ns _) i
      have f0 : zAi σ3 (ad 900 s 0) i = zAi σ (ad 900 s 0) i := F.ai (k900 h hs) (by decide) (c900 h hs) (ns _) i
      have f3 : zAd σ3 (ad 903 s 0) i = zAd σ (ad 903 s 0) i := F.adb (k903 h hs) (by decide) (c903 h hs) (ns _) i
      refine ⟨fun z => absurd z (nI_ge (a := i) (b := 32) (by omega) (by decide)), fun _ => ⟨k15 h3 ht, _, p899 h3 ht, k15 h3 hs, _, p899 h3 hs, k899 h3 hs, by rw [l899 h3 hs]; exact vp_in_nI (by omega) (by decide), k899 h3 ht, by rw [l899 h3 ht]; exact vp_in_nI (by omega) (by decide), _, p902 h3 ht, _, p902 h3 hs, k902 h3 hs, by rw [l902 h3 hs]; exact vp_in_nI (by omega) (by decide), k902 h3 ht, by rw [l902 h3 ht]; exact vp_in_nI (by omega) (by decide), _, p900 h3 ht, _, p900 h3 hs, k900 h3 hs, by rw [l900 h3 hs]; exact vp_in_nI (by omega) (by decide), k900 h3 ht, by rw [l900 h3 ht]; exact vp_in_nI (by omega) (by decide), _, p903 h3 ht, _, p903 h3 hs, k903 h3 hs, by rw [l903 h3 hs]; exact vp_in_nI (by omega) (by decide), k903 h3 ht, by rw [l903 h3 ht]; exact vp_in_nI (by omega) (by decide), ?_⟩⟩
      rw [show ix (nI i) = i from nI_clamp (by omega), nI_1, f9, f2, f3]
      have g0 : zAi (uAi σ3 (ad 899 t 0) i (zAi σ (ad 899 s 0) i)) (ad 900 s 0) i = zAi σ (ad 900 s 0) i := by rw [yAi_uAi, yu2, if_neg (fun z => s09 z.1)]; exact f0
      rw [g0]
      have z9 : SS t (ct (ad 899 t 0)) ∨ zK σ (ad 899 t 0) = 0 := Or.inl (by rw [c899 h ht]; exact zt (τ := σ) 899 (by decide))
      have z2 : SS t (ct (ad 902 t 0)) ∨ zK σ (ad 902 t 0) = 0 := Or.inl (by rw [c902 h ht]; exact zt (τ := σ) 902 (by decide))
      have z0 : SS t (ct (ad 900 t 0)) ∨ zK σ (ad 900 t 0) = 0 := Or.inl (by rw [c900 h ht]; exact zt (τ := σ) 900 (by decide))
      have z3 : SS t (ct (ad 903 t 0)) ∨ zK σ (ad 903 t 0) = 0 := Or.inl (by rw [c903 h ht]; exact zt (τ := σ) 903 (by decide))
      refine ih (i + 1) _ (by omega) ((((F.uAi _ _ _ z9).uAj _ _ _ z2).uAi _ _ _ z0).uAd _ _ _ z3) ?_ ?_ (fun m hm => ?_) (fun m hm => ?_) (fun m hm => ?_)
      · simp only [yK_uFi, yL_uFi, yFj_uFi, yFr_uFi, yAi_uFi, yAj_uFi, yAd_uFi, yAr_uFi, yFi_uFi, yK_uFj, yL_uFj, yFi_uFj, yFr_uFj, yAi_uFj, yAj_uFj, yAd_uFj, yAr_uFj, yFj_uFj, yK_uFr, yL_uFr, yFi_uFr, yFj_uFr, yAi_uFr, yAj_uFr, yAd_uFr, yAr_uFr, yFr_uFr, yK_uAi, yL_uAi, yFi_uAi, yFj_uAi, yFr_uAi, yAj_uAi, yAd_uAi, yAr_uAi, yAi_uAi, yK_uAj, yL_uAj, yFi_uAj, yFj_uAj, yFr_uAj, yAi_uAj, yAd_uAj, yAr_uAj, yAj_uAj, yK_uAd, yL_uAd, yFi_uAd, yFj_uAd, yFr_uAd, yAi_uAd, yAj_uAd, yAr_uAd, yAd_uAd, yK_uAr, yL_uAr, yFi_uAr, yFj_uAr, yFr_uAr, yAi_uAr, yAj_uAr, yAd_uAr, yAr_uAr, yK_uCi, yL_uCi, yFi_uCi, yFj_uCi, yFr_uCi, yAj_uCi, yAd_uCi, yAr_uCi, yK_uCj, yL_uCj, yFi_uCj, yFj_uCj, yFr_uCj, yAi_uCj, yAd_uCj, yAr_uCj, yK_uCx, yL_uCx, yFi_uCx, yFj_uCx, yFr_uCx, yAi_uCx, yAd_uCx, yAr_uCx, yK_nO, yL_nO, yFi_nO, yFj_nO, yFr_nO, yAi_nO, yAj_nO, yAd_nO, yAr_nO, yK_nA, yL_nA, yFi_nA, yFj_nA, yFr_nA, yAi_nA, yAj_nA, yAd_nA, yAr_nA, yK_nC, yL_nC, yFi_nC, yFj_nC, yFr_nC, yAi_nC, yAj_nC, yAd_nC, yAr_nC, yu2, yAi_uCi', yAj_uCj', yAj_uCx', Option.some.injEq, exists_eq_left', true_and, and_true, not_false_eq_true, forall_const, false_and, and_false, reduceIte, Nat.reduceEqDiff, ne_eq]; exact a1
      · simp only [yK_uFi, yL_uFi, yFj_uFi, yFr_uFi, yAi_uFi, yAj_uFi, yAd_uFi, yAr_uFi, yFi_uFi, yK_uFj, yL_uFj, yFi_uFj, yFr_uFj, yAi_uFj, yAj_uFj, yAd_uFj, yAr_uFj, yFj_uFj, yK_uFr, yL_uFr, yFi_uFr, yFj_uFr, yAi_uFr, yAj_uFr, yAd_uFr, yAr_uFr, yFr_uFr, yK_uAi, yL_uAi, yFi_uAi, yFj_uAi, yFr_uAi, yAj_uAi, yAd_uAi, yAr_uAi, yAi_uAi, yK_uAj, yL_uAj, yFi_uAj, yFj_uAj, yFr_uAj, yAi_uAj, yAd_uAj, yAr_uAj, yAj_uAj, yK_uAd, yL_uAd, yFi_uAd, yFj_uAd, yFr_uAd, yAi_uAd, yAj_uAd, yAr_uAd, yAd_uAd, yK_uAr, yL_uAr, yFi_uAr, yFj_uAr, yFr_uAr, yAi_uAr, yAj_uAr, yAd_uAr, yAr_uAr, yK_uCi, yL_uCi, yFi_uCi, yFj_uCi, yFr_uCi, yAj_uCi, yAd_uCi, yAr_uCi, yK_uCj, yL_uCj, yFi_uCj, yFj_uCj, yFr_uCj, yAi_uCj, yAd_uCj, yAr_uCj, yK_uCx, yL_uCx, yFi_uCx, yFj_uCx, yFr_uCx, yAi_uCx, yAd_uCx, yAr_uCx, yK_nO, yL_nO, yFi_nO, yFj_nO, yFr_nO, yAi_nO, yAj_nO, yAd_nO, yAr_nO, yK_nA, yL_nA, yFi_nA, yFj_nA, yFr_nA, yAi_nA, yAj_nA, yAd_nA, yAr_nA, yK_nC, yL_nC, yFi_nC, yFj_nC, yFr_nC, yAi_nC, yAj_nC, yAd_nC, yAr_nC, yu2, yAi_uCi', yAj_uCj', yAj_uCx', Option.some.injEq, exists_eq_left', true_and, and_true, not_false_eq_true, forall_const, false_and, and_false, reduceIte, Nat.reduceEqDiff, ne_eq]; exact a2
      · simp only [yK_uFi, yL_uFi, yFj_uFi, yFr_uFi, yAi_uFi, yAj_uFi, yAd_uFi, yAr_uFi, yFi_uFi, yK_uFj, yL_uFj, yFi_uFj, yFr_uFj, yAi_uFj, yAj_uFj, yAd_uFj, yAr_uFj, yFj_uFj, yK_uFr, yL_uFr, yFi_uFr, yFj_uFr, yAi_uFr, yAj_uFr, yAd_uFr, yAr_uFr, yFr_uFr, yK_uAi, yL_uAi, yFi_uAi, yFj_uAi, yFr_uAi, yAj_uAi, yAd_uAi, yAr_uAi, yAi_uAi, yK_uAj, yL_uAj, yFi_uAj, yFj_uAj, yFr_uAj, yAi_uAj, yAd_uAj, yAr_uAj, yAj_uAj, yK_uAd, yL_uAd, yFi_uAd, yFj_uAd, yFr_uAd, yAi_uAd, yAj_uAd, yAr_uAd, yAd_uAd, yK_uAr, yL_uAr, yFi_uAr, yFj_uAr, yFr_uAr, yAi_uAr, yAj_uAr, yAd_uAr, yAr_uAr, yK_uCi, yL_uCi, yFi_uCi, yFj_uCi, yFr_uCi, yAj_uCi, yAd_uCi, yAr_uCi, yK_uCj, yL_uCj, yFi_uCj, yFj_uCj, yFr_uCj, yAi_uCj, yAd_uCj, yAr_uCj, yK_uCx, yL_uCx, yFi_uCx, yFj_uCx, yFr_uCx, yAi_uCx, yAd_uCx, yAr_uCx, yK_nO, yL_nO, yFi_nO, yFj_nO, yFr_nO, yAi_nO, yAj_nO, yAd_nO, yAr_nO, yK_nA, yL_nA, yFi_nA, yFj_nA, yFr_nA, yAi_nA, yAj_nA, yAd_nA, yAr_nA, yK_nC, yL_nC, yFi_nC, yFj_nC, yFr_nC, yAi_nC, yAj_nC, yAd_nC, yAr_nC, yu2, yAi_uCi', yAj_uCj', yAj_uCx', Option.some.injEq, exists_eq_left', true_and, and_true, not_false_eq_true, forall_const, false_and, and_false, reduceIte, Nat.reduceEqDiff, ne_eq, n80, n89]; exact a3 m hm
      · simp only [yK_uFi, yL_uFi, yFj_uFi, yFr_uFi, yAi_uFi, yAj_uFi, yAd_uFi, yAr_uFi, yFi_uFi, yK_uFj, yL_uFj, yFi_uFj, yFr_uFj, yAi_uFj, yAj_uFj, yAd_uFj, yAr_uFj, yFj_uFj, yK_uFr, yL_uFr, yFi_uFr, yFj_uFr, yAi_uFr, yAj_uFr, yAd_uFr, yAr_uFr, yFr_uFr, yK_uAi, yL_uAi, yFi_uAi, yFj_uAi, yFr_uAi, yAj_uAi, yAd_uAi, yAr_uAi, yAi_uAi, yK_uAj, yL_uAj, yFi_uAj, yFj_uAj, yFr_uAj, yAi_uAj, yAd_uAj, yAr_uAj, yAj_uAj, yK_uAd, yL_uAd, yFi_uAd, yFj_uAd, yFr_uAd, yAi_uAd, yAj_uAd, yAr_uAd, yAd_uAd, yK_uAr, yL_uAr, yFi_uAr, yFj_uAr, yFr_uAr, yAi_uAr, yAj_uAr, yAd_uAr, yAr_uAr, yK_uCi, yL_uCi, yFi_uCi, yFj_uCi, yFr_uCi, yAj_uCi, yAd_uCi, yAr_uCi, yK_uCj, yL_uCj, yFi_uCj, yFj_uCj, yFr_uCj, yAi_uCj, yAd_uCj, yAr_uCj, yK_uCx, yL_uCx, yFi_uCx, yFj_uCx, yFr_uCx, yAi_uCx, yAd_uCx, yAr_uCx, yK_nO, yL_nO, yFi_nO, yFj_nO, yFr_nO, yAi_nO, yAj_nO, yAd_nO, yAr_nO, yK_nA, yL_nA, yFi_nA, yFj_nA, yFr_nA, yAi_nA, yAj_nA, yAd_nA, yAr_nA, yK_nC, yL_nC, yFi_nC, yFj_nC, yFr_nC, yAi_nC, yAj_nC, yAd_nC, yAr_nC, yu2, yAi_uCi', yAj_uCj', yAj_uCx', Option.some.injEq, exists_eq_left', true_and, and_true, not_false_eq_true, forall_const, false_and, and_false, reduceIte, Nat.reduceEqDiff, ne_eq, n12]; exact a4 m hm
      · by_cases c : m = i
        · subst c
          refine ⟨?_, ?_, ?_, ?_⟩
          · simp only [yK_uFi, yL_uFi, yFj_uFi, yFr_uFi, yAi_uFi, yAj_uFi, yAd_uFi, yAr_uFi, yFi_uFi, yK_uFj, yL_uFj, yFi_uFj, yFr_uFj, yAi_uFj, yAj_uFj, yAd_uFj, yAr_uFj, yFj_uFj, yK_uFr, yL_uFr, yFi_uFr, yFj_uFr, yAi_uFr, yAj_uFr, yAd_uFr, yAr_uFr, yFr_uFr, yK_uAi, yL_uAi, yFi_uAi, yFj_uAi, yFr_uAi, yAj_uAi, yAd_uAi, yAr_uAi, yAi_uAi, yK_uAj, yL_uAj, yFi_uAj, yFj_uAj, yFr_uAj, yAi_uAj, yAd_uAj, yAr_uAj, yAj_uAj, yK_uAd, yL_uAd, yFi_uAd, yFj_uAd, yFr_uAd, yAi_uAd, yAj_uAd, yAr_uAd, yAd_uAd, yK_uAr, yL_uAr, yFi_uAr, yFj_uAr, yFr_uAr, yAi_uAr, yAj_uAr, yAd_uAr, yAr_uAr, yK_uCi, yL_uCi, yFi_uCi, yFj_uCi, yFr_uCi, yAj_uCi, yAd_uCi, yAr_uCi, yK_uCj, yL_uCj, yFi_uCj, yFj_uCj, yFr_uCj, yAi_uCj, yAd_uCj, yAr_uCj, yK_uCx, yL_uCx, yFi_uCx, yFj_uCx, yFr_uCx, yAi_uCx, yAd_uCx, yAr_uCx, yK_nO, yL_nO, yFi_nO, yFj_nO, yFr_nO, yAi_nO, yAj_nO, yAd_nO, yAr_nO, yK_nA, yL_nA, yFi_nA, yFj_nA, yFr_nA, yAi_nA, yAj_nA, yAd_nA, yAr_nA, yK_nC, yL_nC, yFi_nC, yFj_nC, yFr_nC, yAi_nC, yAj_nC, yAd_nC, yAr_nC, yu2, yAi_uCi', yAj_uCj', yAj_uCx', Option.some.injEq, exists_eq_left', true_and, and_true, not_false_eq_true, forall_const, false_and, and_false, reduceIte, Nat.reduceEqDiff, ne_eq, n90]
          · simp only [yK_uFi, yL_uFi, yFj_uFi, yFr_uFi, yAi_uFi, yAj_uFi, yAd_uFi, yAr_uFi, yFi_uFi, yK_uFj, yL_uFj, yFi_uFj, yFr_uFj, yAi_uFj, yAj_uFj, yAd_uFj, yAr_uFj, yFj_uFj, yK_uFr, yL_uFr, yFi_uFr, yFj_uFr, yAi_uFr, yAj_uFr, yAd_uFr, yAr_uFr, yFr_uFr, yK_uAi, yL_uAi, yFi_uAi, yFj_uAi, yFr_uAi, yAj_uAi, yAd_uAi, yAr_uAi, yAi_uAi, yK_uAj, yL_uAj, yFi_uAj, yFj_uAj, yFr_uAj, yAi_uAj, yAd_uAj, yAr_uAj, yAj_uAj, yK_uAd, yL_uAd, yFi_uAd, yFj_uAd, yFr_uAd, yAi_uAd, yAj_uAd, yAr_uAd, yAd_uAd, yK_uAr, yL_uAr, yFi_uAr, yFj_uAr, yFr_uAr, yAi_uAr, yAj_uAr, yAd_uAr, yAr_uAr, yK_uCi, yL_uCi, yFi_uCi, yFj_uCi, yFr_uCi, yAj_uCi, yAd_uCi, yAr_uCi, yK_uCj, yL_uCj, yFi_uCj, yFj_uCj, yFr_uCj, yAi_uCj, yAd_uCj, yAr_uCj, yK_uCx, yL_uCx, yFi_uCx, yFj_uCx, yFr_uCx, yAi_uCx, yAd_uCx, yAr_uCx, yK_nO, yL_nO, yFi_nO, yFj_nO, yFr_nO, yAi_nO, yAj_nO, yAd_nO, yAr_nO, yK_nA, yL_nA, yFi_nA, yFj_nA, yFr_nA, yAi_nA, yAj_nA, yAd_nA, yAr_nA, yK_nC, yL_nC, yFi_nC, yFj_nC, yFr_nC, yAi_nC, yAj_nC, yAd_nC, yAr_nC, yu2, yAi_uCi', yAj_uCj', yAj_uCx', Option.some.injEq, exists_eq_left', true_and, and_true, not_false_eq_true, forall_const, false_and, and_false, reduceIte, Nat.reduceEqDiff, ne_eq]
          · simp only [yK_uFi, yL_uFi, yFj_uFi, yFr_uFi, yAi_uFi, yAj_uFi, yAd_uFi, yAr_uFi, yFi_uFi, yK_uFj, yL_uFj, yFi_uFj, yFr_uFj, yAi_uFj, yAj_uFj, yAd_uFj, yAr_uFj, yFj_uFj, yK_uFr, yL_uFr, yFi_uFr, yFj_uFr, yAi_uFr, yAj_uFr, yAd_uFr, yAr_uFr, yFr_uFr, yK_uAi, yL_uAi, yFi_uAi, yFj_uAi, yFr_uAi, yAj_uAi, yAd_uAi, yAr_uAi, yAi_uAi, yK_uAj, yL_uAj, yFi_uAj, yFj_uAj, yFr_uAj, yAi_uAj, yAd_uAj, yAr_uAj, yAj_uAj, yK_uAd, yL_uAd, yFi_uAd, yFj_uAd, yFr_uAd, yAi_uAd, yAj_uAd, yAr_uAd, yAd_uAd, yK_uAr, yL_uAr, yFi_uAr, yFj_uAr, yFr_uAr, yAi_uAr, yAj_uAr, yAd_uAr, yAr_uAr, yK_uCi, yL_uCi, yFi_uCi, yFj_uCi, yFr_uCi, yAj_uCi, yAd_uCi, yAr_uCi, yK_uCj, yL_uCj, yFi_uCj, yFj_uCj, yFr_uCj, yAi_uCj, yAd_uCj, yAr_uCj, yK_uCx, yL_uCx, yFi_uCx, yFj_uCx, yFr_uCx, yAi_uCx, yAd_uCx, yAr_uCx, yK_nO, yL_nO, yFi_nO, yFj_nO, yFr_nO, yAi_nO, yAj_nO, yAd_nO, yAr_nO, yK_nA, yL_nA, yFi_nA, yFj_nA, yFr_nA, yAi_nA, yAj_nA, yAd_nA, yAr_nA, yK_nC, yL_nC, yFi_nC, yFj_nC, yFr_nC, yAi_nC, yAj_nC, yAd_nC, yAr_nC, yu2, yAi_uCi', yAj_uCj', yAj_uCx', Option.some.injEq, exists_eq_left', true_and, and_true, not_false_eq_true, forall_const, false_and, and_false, reduceIte, Nat.reduceEqDiff, ne_eq]
          · simp only [yK_uFi, yL_uFi, yFj_uFi, yFr_uFi, yAi_uFi, yAj_uFi, yAd_uFi, yAr_uFi, yFi_uFi, yK_uFj, yL_uFj, yFi_uFj, yFr_uFj, yAi_uFj, yAj_uFj, yAd_uFj, yAr_uFj, yFj_uFj, yK_uFr, yL_uFr, yFi_uFr, yFj_uFr, yAi_uFr, yAj_uFr, yAd_uFr, yAr_uFr, yFr_uFr, yK_uAi, yL_uAi, yFi_uAi, yFj_uAi, yFr_uAi, yAj_uAi, yAd_uAi, yAr_uAi, yAi_uAi, yK_uAj, yL_uAj, yFi_uAj, yFj_uAj, yFr_uAj, yAi_uAj, yAd_uAj, yAr_uAj, yAj_uAj, yK_uAd, yL_uAd, yFi_uAd, yFj_uAd, yFr_uAd, yAi_uAd, yAj_uAd, yAr_uAd, yAd_uAd, yK_uAr, yL_uAr, yFi_uAr, yFj_uAr, yFr_uAr, yAi_uAr, yAj_uAr, yAd_uAr, yAr_uAr, yK_uCi, yL_uCi, yFi_uCi, yFj_uCi, yFr_uCi, yAj_uCi, yAd_uCi, yAr_uCi, yK_uCj, yL_uCj, yFi_uCj, yFj_uCj, yFr_uCj, yAi_uCj, yAd_uCj, yAr_uCj, yK_uCx, yL_uCx, yFi_uCx, yFj_uCx, yFr_uCx, yAi_uCx, yAd_uCx, yAr_uCx, yK_nO, yL_nO, yFi_nO, yFj_nO, yFr_nO, yAi_nO, yAj_nO, yAd_nO, yAr_nO, yK_nA, yL_nA, yFi_nA, yFj_nA, yFr_nA, yAi_nA, yAj_nA, yAd_nA, yAr_nA, yK_nC, yL_nC, yFi_nC, yFj_nC, yFr_nC, yAi_nC, yAj_nC, yAd_nC, yAr_nC, yu2, yAi_uCi', yAj_uCj', yAj_uCx', Option.some.injEq, exists_eq_left', true_and, and_true, not_false_eq_true, forall_const, false_and, and_false, reduceIte, Nat.reduceEqDiff, ne_eq]
        · obtain ⟨x1, x2, x3, x4⟩ := a5 m (by omega)
          refine ⟨?_, ?_, ?_, ?_⟩
          · simp only [yK_uFi, yL_uFi, yFj_uFi, yFr_uFi, yAi_uFi, yAj_uFi, yAd_uFi, yAr_uFi, yFi_uFi, yK_uFj, yL_uFj, yFi_uFj, yFr_uFj, yAi_uFj, yAj_uFj, yAd_uFj, yAr_uFj, yFj_uFj, yK_uFr, yL_uFr, yFi_uFr, yFj_uFr, yAi_uFr, yAj_uFr, yAd_uFr, yAr_uFr, yFr_uFr, yK_uAi, yL_uAi, yFi_uAi, yFj_uAi, yFr_uAi, yAj_uAi, yAd_uAi, yAr_uAi, yAi_uAi, yK_uAj, yL_uAj, yFi_uAj, yFj_uAj, yFr_uAj, yAi_uAj, yAd_uAj, yAr_uAj, yAj_uAj, yK_uAd, yL_uAd, yFi_uAd, yFj_uAd, yFr_uAd, yAi_uAd, yAj_uAd, yAr_uAd, yAd_uAd, yK_uAr, yL_uAr, yFi_uAr, yFj_uAr, yFr_uAr, yAi_uAr, yAj_uAr, yAd_uAr, yAr_uAr, yK_uCi, yL_uCi, yFi_uCi, yFj_uCi, yFr_uCi, yAj_uCi, yAd_uCi, yAr_uCi, yK_uCj, yL_uCj, yFi_uCj, yFj_uCj, yFr_uCj, yAi_uCj, yAd_uCj, yAr_uCj, yK_uCx, yL_uCx, yFi_uCx, yFj_uCx, yFr_uCx, yAi_uCx, yAd_uCx, yAr_uCx, yK_nO, yL_nO, yFi_nO, yFj_nO, yFr_nO, yAi_nO, yAj_nO, yAd_nO, yAr_nO, yK_nA, yL_nA, yFi_nA, yFj_nA, yFr_nA, yAi_nA, yAj_nA, yAd_nA, yAr_nA, yK_nC, yL_nC, yFi_nC, yFj_nC, yFr_nC, yAi_nC, yAj_nC, yAd_nC, yAr_nC, yu2, yAi_uCi', yAj_uCj', yAj_uCx', Option.some.injEq, exists_eq_left', true_and, and_true, not_false_eq_true, forall_const, false_and, and_false, reduceIte, Nat.reduceEqDiff, ne_eq, n90, c]; exact x1
          · simp only [yK_uFi, yL_uFi, yFj_uFi, yFr_uFi, yAi_uFi, yAj_uFi, yAd_uFi, yAr_uFi, yFi_uFi, yK_uFj, yL_uFj, yFi_uFj, yFr_uFj, yAi_uFj, yAj_uFj, yAd_uFj, yAr_uFj, yFj_uFj, yK_uFr, yL_uFr, yFi_uFr, yFj_uFr, yAi_uFr, yAj_uFr, yAd_uFr, yAr_uFr, yFr_uFr, yK_uAi, yL_uAi, yFi_uAi, yFj_uAi, yFr_uAi, yAj_uAi, yAd_uAi, yAr_uAi, yAi_uAi, yK_uAj, yL_uAj, yFi_uAj, yFj_uAj, yFr_uAj, yAi_uAj, yAd_uAj, yAr_uAj, yAj_uAj, yK_uAd, yL_uAd, yFi_uAd, yFj_uAd, yFr_uAd, yAi_uAd, yAj_uAd, yAr_uAd, yAd_uAd, yK_uAr, yL_uAr, yFi_uAr, yFj_uAr, yFr_uAr, yAi_uAr, yAj_uAr, yAd_uAr, yAr_uAr, yK_uCi, yL_uCi, yFi_uCi, yFj_uCi, yFr_uCi, yAj_uCi, yAd_uCi, yAr_uCi, yK_uCj, yL_uCj, yFi_uCj, yFj_uCj, yFr_uCj, yAi_uCj, yAd_uCj, yAr_uCj, yK_uCx, yL_uCx, yFi_uCx, yFj_uCx, yFr_uCx, yAi_uCx, yAd_uCx, yAr_uCx, yK_nO, yL_nO, yFi_nO, yFj_nO, yFr_nO, yAi_nO, yAj_nO, yAd_nO, yAr_nO, yK_nA, yL_nA, yFi_nA, yFj_nA, yFr_nA, yAi_nA, yAj_nA, yAd_nA, yAr_nA, yK_nC, yL_nC, yFi_nC, yFj_nC, yFr_nC, yAi_nC, yAj_nC, yAd_nC, yAr_nC, yu2, yAi_uCi', yAj_uCj', yAj_uCx', Option.some.injEq, exists_eq_left', true_and, and_true, not_false_eq_true, forall_const, false_and, and_false, reduceIte, Nat.reduceEqDiff, ne_eq, c]; exact x2
          · simp only [yK_uFi, yL_uFi, yFj_uFi, yFr_uFi, yAi_uFi, yAj_uFi, yAd_uFi, yAr_uFi, yFi_uFi, yK_uFj, yL_uFj, yFi_uFj, yFr_uFj, yAi_uFj, yAj_uFj, yAd_uFj, yAr_uFj, yFj_uFj, yK_uFr, yL_uFr, yFi_uFr, yFj_uFr, yAi_uFr, yAj_uFr, yAd_uFr, yAr_uFr, yFr_uFr, yK_uAi, yL_uAi, yFi_uAi, yFj_uAi, yFr_uAi, yAj_uAi, yAd_uAi, yAr_uAi, yAi_uAi, yK_uAj, yL_uAj, yFi_uAj, yFj_uAj, yFr_uAj, yAi_uAj, yAd_uAj, yAr_uAj, yAj_uAj, yK_uAd, yL_uAd, yFi_uAd, yFj_uAd, yFr_uAd, yAi_uAd, yAj_uAd, yAr_uAd, yAd_uAd, yK_uAr, yL_uAr, yFi_uAr, yFj_uAr, yFr_uAr, yAi_uAr, yAj_uAr, yAd_uAr, yAr_uAr, yK_uCi, yL_uCi, yFi_uCi, yFj_uCi, yFr_uCi, yAj_uCi, yAd_uCi, yAr_uCi, yK_uCj, yL_uCj, yFi_uCj, yFj_uCj, yFr_uCj, yAi_uCj, yAd_uCj, yAr_uCj, yK_uCx, yL_uCx, yFi_uCx, yFj_uCx, yFr_uCx, yAi_uCx, yAd_uCx, yAr_uCx, yK_nO, yL_nO, yFi_nO, yFj_nO, yFr_nO, yAi_nO, yAj_nO, yAd_nO, yAr_nO, yK_nA, yL_nA, yFi_nA, yFj_nA, yFr_nA, yAi_nA, yAj_nA, yAd_nA, yAr_nA, yK_nC, yL_nC, yFi_nC, yFj_nC, yFr_nC, yAi_nC, yAj_nC, yAd_nC, yAr_nC, yu2, yAi_uCi', yAj_uCj', yAj_uCx', Option.some.injEq, exists_eq_left', true_and, and_true, not_false_eq_true, forall_const, false_and, and_false, reduceIte, Nat.reduceEqDiff, ne_eq, n90.symm, c]; exact x3
          · simp only [yK_uFi, yL_uFi, yFj_uFi, yFr_uFi, yAi_uFi, yAj_uFi, yAd_uFi, yAr_uFi, yFi_uFi, yK_uFj, yL_uFj, yFi_uFj, yFr_uFj, yAi_uFj, yAj_uFj, yAd_uFj, yAr_uFj, yFj_uFj, yK_uFr, yL_uFr, yFi_uFr, yFj_uFr, yAi_uFr, yAj_uFr, yAd_uFr, yAr_uFr, yFr_uFr, yK_uAi, yL_uAi, yFi_uAi, yFj_uAi, yFr_uAi, yAj_uAi, yAd_uAi, yAr_uAi, yAi_uAi, yK_uAj, yL_uAj, yFi_uAj, yFj_uAj, yFr_uAj, yAi_uAj, yAd_uAj, yAr_uAj, yAj_uAj, yK_uAd, yL_uAd, yFi_uAd, yFj_uAd, yFr_uAd, yAi_uAd, yAj_uAd, yAr_uAd, yAd_uAd, yK_uAr, yL_uAr, yFi_uAr, yFj_uAr, yFr_uAr, yAi_uAr, yAj_uAr, yAd_uAr, yAr_uAr, yK_uCi, yL_uCi, yFi_uCi, yFj_uCi, yFr_uCi, yAj_uCi, yAd_uCi, yAr_uCi, yK_uCj, yL_uCj, yFi_uCj, yFj_uCj, yFr_uCj, yAi_uCj, yAd_uCj, yAr_uCj, yK_uCx, yL_uCx, yFi_uCx, yFj_uCx, yFr_uCx, yAi_uCx, yAd_uCx, yAr_uCx, yK_nO, yL_nO, yFi_nO, yFj_nO, yFr_nO, yAi_nO, yAj_nO, yAd_nO, yAr_nO, yK_nA, yL_nA, yFi_nA, yFj_nA, yFr_nA, yAi_nA, yAj_nA, yAd_nA, yAr_nA, yK_nC, yL_nC, yFi_nC, yFj_nC, yFr_nC, yAi_nC, yAj_nC, yAd_nC, yAr_nC, yu2, yAi_uCi', yAj_uCj', yAj_uCx', Option.some.injEq, exists_eq_left', true_and, and_true, not_false_eq_true, forall_const, false_and, and_false, reduceIte, Nat.reduceEqDiff, ne_eq, c]; exact x4
  have l2 : ∀ (d i : Nat) (σ3 : St), i + d = 512 → Fr ct (SS t) σ σ3 → zFi σ3 896 (ad 15 t 0) = nI L.length → zFi σ3 897 (ad 15 t 0) = nI w → (∀ m, m < 192 → zAi σ3 (ad 898 t 0) m = zAi σ (ad 898 s 0) m) → (∀ m, m < i → zAj σ3 (ad 901 t 0) m = zAj σ (ad 901 s 0) m) → lX16_becomes_45 Q (d + 1) (ad 15 t 0) (ad 15 s 0) (nI i) σ3 := by
    intro d
    induction d with
    | zero =>
      intro i σ3 hi F a1 a2 a3 a4
      have hi : i = 512 := by omega
      rw [hi] at a4
      exact ⟨fun _ => ⟨33, l3 32 0 σ3 (by omega) F a1 a2 a3 a4 (fun m hm => absurd hm (Nat.not_lt_zero _))⟩, fun z => absurd (nI_le (a := 512) (b := i) (by omega) (by omega)) z⟩
    | succ d ih =>
      intro i σ3 hi F a1 a2 a3 a4
      have h3 := h.frM (F.mono (SS_SM t))
      have f9 : zAj σ3 (ad 901 s 0) i = zAj σ (ad 901 s 0) i := F.aj (k901 h hs) (by decide) (c901 h hs) (ns _) i
      refine ⟨fun z => absurd z (nI_ge (a := i) (b := 512) (by omega) (by decide)), fun _ => ⟨k15 h3 ht, _, p901 h3 ht, k15 h3 hs, _, p901 h3 hs, k901 h3 hs, by rw [l901 h3 hs]; exact vp_in_nI (by omega) (by decide), k901 h3 ht, by rw [l901 h3 ht]; exact vp_in_nI (by omega) (by decide), ?_⟩⟩
      rw [show ix (nI i) = i from nI_clamp (by omega), nI_1, f9]
      have z9 : SS t (ct (ad 901 t 0)) ∨ zK σ (ad 901 t 0) = 0 := Or.inl (by rw [c901 h ht]; exact zt (τ := σ) 901 (by decide))
      refine ih (i + 1) _ (by omega) (F.uAj _ _ _ z9) (by rw [yFi_uAj]; exact a1) (by rw [yFi_uAj]; exact a2) (fun m hm => by rw [yAi_uAj]; exact a3 m hm) (fun m hm => ?_)
      rw [yAj_uAj, yu2]
      by_cases c : m = i
      · rw [if_pos ⟨rfl, c⟩, c]
      · rw [if_neg (fun z => c z.2)]; exact a4 m (by omega)
  have l1 : ∀ (d i : Nat) (σ3 : St), i + d = 192 → Fr ct (SS t) σ σ3 → zFi σ3 896 (ad 15 t 0) = nI L.length → zFi σ3 897 (ad 15 t 0) = nI w → (∀ m, m < i → zAi σ3 (ad 898 t 0) m = zAi σ (ad 898 s 0) m) → lX16_becomes_18 Q (d + 1) (ad 15 t 0) (ad 15 s 0) (nI i) σ3 := by
    intro d
    induction d with
    | zero =>
      intro i σ3 hi F a1 a2 a3
      have hi : i = 192 := by omega
      rw [hi] at a3
      exact ⟨fun _ => ⟨513, l2 512 0 σ3 (by omega) F a1 a2 a3 (fun m hm => absurd hm (Nat.not_lt_zero _))⟩, fun z => absurd (nI_le (a := 192) (b := i) (by omega) (by omega)) z⟩
    | succ d ih =>
      intro i σ3 hi F a1 a2 a3
      have h3 := h.frM (F.mono (SS_SM t))
      have f9 : zAi σ3 (ad 898 s 0) i = zAi σ (ad 898 s 0) i := F.ai (k898 h hs) (by decide) (c898 h hs) (ns _) i
      refine ⟨fun z => absurd z (nI_ge (a := i) (b := 192) (by omega) (by decide)), fun _ => ⟨k15 h3 ht, _, p898 h3 ht, k15 h3 hs, _, p898 h3 hs, k898 h3 hs, by rw [l898 h3 hs]; exact vp_in_nI (by omega) (by decide), k898 h3 ht, by rw [l898 h3 ht]; exact vp_in_nI (by omega) (by decide), ?_⟩⟩
      rw [show ix (nI i) = i from nI_clamp (by omega), nI_1, f9]
      have z9 : SS t (ct (ad 898 t 0)) ∨ zK σ (ad 898 t 0) = 0 := Or.inl (by rw [c898 h ht]; exact zt (τ := σ) 898 (by decide))
      refine ih (i + 1) _ (by omega) (F.uAi _ _ _ z9) (by rw [yFi_uAi]; exact a1) (by rw [yFi_uAi]; exact a2) (fun m hm => ?_)
      rw [yAi_uAi, yu2]
      by_cases c : m = i
      · rw [if_pos ⟨rfl, c⟩, c]
      · rw [if_neg (fun z => c z.2)]; exact a3 m (by omega)
  have z15 : SS t (ct (ad 15 t 0)) ∨ zK σ (ad 15 t 0) = 0 := Or.inl (by rw [c15 h ht]; exact Or.inl rfl)
  refine ⟨k15 h hs, k15 h ht, 193, ?_⟩
  refine l1 192 0 _ (by omega) ((Fr.rf.uFi _ _ _ z15).uFi _ _ _ z15) ?_ ?_ (fun m hm => absurd hm (Nat.not_lt_zero _))
  · rw [yFi_uFi, yu2, if_neg (fun z => absurd z.1 (by decide)), yFi_uFi, yu2, if_pos ⟨rfl, rfl⟩]; exact q.1
  · rw [yFi_uFi, yu2, if_pos ⟨rfl, rfl⟩, yFi_uFi, yu2, if_neg (fun z => absurd z.1 (by decide))]; exact q.2.1
theorem tru_gt {x y : Int64} (hx : tru x) (hy : tru y) : (0 < (Op.cmpValue (FP.dcmp y.toUInt64 x.toUInt64) .g)) ↔ x < y := by
  obtain ⟨n, h1, en, e⟩ := tru_nat hx
  obtain ⟨m, h2, em, e2⟩ := tru_nat hy
  rw [dcmp_nat (by rw [e2]; omega) (by rw [e]; omega), e, e2]
  have hlt : x < y ↔ n < m := by rw [en, em]; exact pk_lLT (by omega) (by omega)
  rw [hlt]
  rcases Nat.lt_trichotomy m n with q | q | q
  · rw [show compare m n = .lt by simp only [compare, compareOfLessAndEq]; rw [if_pos q]]
    exact ⟨fun z => absurd z (by decide), fun z => by omega⟩
  · rw [show compare m n = .eq by simp only [compare, compareOfLessAndEq]; rw [if_neg (by omega), if_pos q]]
    exact ⟨fun z => absurd z (by decide), fun z => by omega⟩
  · rw [show compare m n = .gt by simp only [compare, compareOfLessAndEq]; rw [if_neg (by omega), if_neg (by omega)]]
    exact ⟨fun _ => q, fun _ => by decide⟩
end NJ
