section M11
variable {ad : Ad} {ct : Ct} {σ : St}
theorem dl_len {α : Type} {l : List α} (h : l ≠ []) : nI l.length - 1 = nI l.dropLast.length := by
  have := List.length_pos_iff.mpr h
  rw [List.length_dropLast]
  exact pk_sub (b := 1) this
set_option maxHeartbeats 1000000 in
theorem M_undo {V : Vt} (h0 : Sh ad ct σ) (R0 : RM ad σ V) (W : WFv V) {Q : Int32 → St → Prop} (hQ0 : ∀ σ', Fr ct SM σ σ' → RM ad σ' (undV V).2 → Q (undV V).1 σ') : wX16_undo (ad 17 0 0) σ Q := by
  have ft := fr17 h0 1024 0
  have R := rmth h0 W.2.1 R0 0
  have h := h0.frM ft
  have hl := W.2.1
  unfold wX16_undo wX16_undo_0
  have ej : zFj (uFi σ 1024 (ad 17 0 0) 0) = zFj σ := yFj_uFi _ _ _ _
  have er : zAr (uFi σ 1024 (ad 17 0 0) 0) = zAr σ := yAr_uFi _ _ _ _
  generalize uFi σ 1024 (ad 17 0 0) 0 = τ at R h ft ej er
  have hQ : ∀ σ', Fr ct SM τ σ' → RM ad σ' (undV V).2 → Q (undV V).1 σ' := fun σ' f r => hQ0 σ' (ft.tr1 f) r
  unfold undV at hQ
  obtain ⟨r1, r2, r3, r4, ⟨a1, π, a2, a3, a4⟩, r6, r7⟩ := R
  rw [a1]
  refine ⟨k17 h0, ?_⟩
  cases hac : V.2.1 with
  | nil =>
    rw [hac] at hQ
    exact ⟨fun c => absurd rfl c, fun _ => hQ τ Fr.rf ⟨r1, r2, r3, r4, ⟨a1, π, a2, a3, a4⟩, r6, r7⟩⟩
  | cons A r =>
    rw [hac] at hQ hl a1 a4
    have vd := W.1
    rw [hac] at vd
    obtain ⟨wf, aok, vd'⟩ := vd
    rw [List.length_cons] at hl
    refine ⟨fun _ => ?_, fun c => absurd c (nI_ne0 (by rw [List.length_cons]; omega) (by rw [List.length_cons]; omega))⟩
    rw [show nI (A :: r).length - 1 = nI r.length from nI_pred _]
    generalize hρ : uFi τ 1027 (ad 17 0 0) (nI r.length) = ρ
    have f : Fr ct (fun c => c = (17, 0)) τ ρ := by rw [← hρ]; exact Fr.rf.uFi _ _ _ (Or.inl (c17 h))
    have hr : Sh ad ct ρ := h.fr f (by decide) (by decide) (by decide)
    have e27 : zFi ρ 1027 (ad 17 0 0) = nI r.length := by rw [← hρ]; simp only [yK_uFi, yL_uFi, yFj_uFi, yFr_uFi, yAi_uFi, yAj_uFi, yAd_uFi, yAr_uFi, yFi_uFi, yK_uFj, yL_uFj, yFi_uFj, yFr_uFj, yAi_uFj, yAj_uFj, yAd_uFj, yAr_uFj, yFj_uFj, yK_uFr, yL_uFr, yFi_uFr, yFj_uFr, yAi_uFr, yAj_uFr, yAd_uFr, yAr_uFr, yFr_uFr, yK_uAi, yL_uAi, yFi_uAi, yFj_uAi, yFr_uAi, yAj_uAi, yAd_uAi, yAr_uAi, yAi_uAi, yK_uAj, yL_uAj, yFi_uAj, yFj_uAj, yFr_uAj, yAi_uAj, yAd_uAj, yAr_uAj, yAj_uAj, yK_uAd, yL_uAd, yFi_uAd, yFj_uAd, yFr_uAd, yAi_uAd, yAj_uAd, yAr_uAd, yAd_uAd, yK_uAr, yL_uAr, yFi_uAr, yFj_uAr, yFr_uAr, yAi_uAr, yAj_uAr, yAd_uAr, yAr_uAr, yK_uCi, yL_uCi, yFi_uCi, yFj_uCi, yFr_uCi, yAj_uCi, yAd_uCi, yAr_uCi, yK_uCj, yL_uCj, yFi_uCj, yFj_uCj, yFr_uCj, yAi_uCj, yAd_uCj, yAr_uCj, yK_uCx, yL_uCx, yFi_uCx, yFj_uCx, yFr_uCx, yAi_uCx, yAd_uCx, yAr_uCx, yK_nO, yL_nO, yFi_nO, yFj_nO, yFr_nO, yAi_nO, yAj_nO, yAd_nO, yAr_nO, yK_nA, yL_nA, yFi_nA, yFj_nA, yFr_nA, yAi_nA, yAj_nA, yAd_nA, yAr_nA, yK_nC, yL_nC, yFi_nC, yFj_nC, yFr_nC, yAi_nC, yAj_nC, yAd_nC, yAr_nC, yu2, yAi_uCi', yAj_uCj', yAj_uCx', Option.some.injEq, exists_eq_left', true_and, and_true, not_false_eq_true, forall_const, false_and, and_false, reduceIte, Nat.reduceEqDiff, ne_eq]
    have e17 : ∀ g, g ≠ 1027 → zFi ρ g (ad 17 0 0) = zFi τ g (ad 17 0 0) := fun g hg => by rw [← hρ]; simp only [yK_uFi, yL_uFi, yFj_uFi, yFr_uFi, yAi_uFi, yAj_uFi, yAd_uFi, yAr_uFi, yFi_uFi, yK_uFj, yL_uFj, yFi_uFj, yFr_uFj, yAi_uFj, yAj_uFj, yAd_uFj, yAr_uFj, yFj_uFj, yK_uFr, yL_uFr, yFi_uFr, yFj_uFr, yAi_uFr, yAj_uFr, yAd_uFr, yAr_uFr, yFr_uFr, yK_uAi, yL_uAi, yFi_uAi, yFj_uAi, yFr_uAi, yAj_uAi, yAd_uAi, yAr_uAi, yAi_uAi, yK_uAj, yL_uAj, yFi_uAj, yFj_uAj, yFr_uAj, yAi_uAj, yAd_uAj, yAr_uAj, yAj_uAj, yK_uAd, yL_uAd, yFi_uAd, yFj_uAd, yFr_uAd, yAi_uAd, yAj_uAd, yAr_uAd, yAd_uAd, yK_uAr, yL_uAr, yFi_uAr, yFj_uAr, yFr_uAr, yAi_uAr, yAj_uAr, yAd_uAr, yAr_uAr, yK_uCi, yL_uCi, yFi_uCi, yFj_uCi, yFr_uCi, yAj_uCi, yAd_uCi, yAr_uCi, yK_uCj, yL_uCj, yFi_uCj, yFj_uCj, yFr_uCj, yAi_uCj, yAd_uCj, yAr_uCj, yK_uCx, yL_uCx, yFi_uCx, yFj_uCx, yFr_uCx, yAi_uCx, yAd_uCx, yAr_uCx, yK_nO, yL_nO, yFi_nO, yFj_nO, yFr_nO, yAi_nO, yAj_nO, yAd_nO, yAr_nO, yK_nA, yL_nA, yFi_nA, yFj_nA, yFr_nA, yAi_nA, yAj_nA, yAd_nA, yAr_nA, yK_nC, yL_nC, yFi_nC, yFj_nC, yFr_nC, yAi_nC, yAj_nC, yAd_nC, yAr_nC, yu2, yAi_uCi', yAj_uCj', yAj_uCx', Option.some.injEq, exists_eq_left', true_and, and_true, not_false_eq_true, forall_const, false_and, and_false, reduceIte, Nat.reduceEqDiff, ne_eq, hg]
    have hpl := (a2 r.length (by omega)).1
    have hAct : MAct ad ρ (π r.length) A := by
      have := a4 0 A rfl
      rw [List.length_cons, show r.length + 1 - 1 - 0 = r.length by omega] at this
      exact this.cg h f hpl (by simp) (by simp) (by simp) (by simp)
    have Rr : RM ad ρ (V.1, r, V.2.2) := by
      refine ⟨r1.cg h f (by decide) (e17 _ (by decide)), r2.cg h f (by decide) (by decide) (by decide) (by decide) (by decide) (by decide) (by decide) (e17 _ (by decide)), r3.cg h f (fun g g1 g2 q => by cases q; omega) (e17 _ (by decide)), r4.cg h f (fun k _ => ⟨by simp, by simp, by simp⟩), ⟨e27, π, fun i hi => ⟨(a2 i hi).1, (f.ar (k1026 h) (by decide) (c1026 h) (by decide) i).trans (a2 i hi).2⟩, a3, fun i B hB => ?_⟩, r6.cg h f (by decide) (fun g g1 g2 q => by cases q) (e17 _ (by decide)), (e17 _ (by decide)).trans r7⟩
      have hi : i < r.length := (List.getElem?_eq_some_iff.mp hB).1
      have := a4 (i + 1) B hB
      rw [List.length_cons, show r.length + 1 - 1 - (i + 1) = r.length - 1 - i by omega] at this
      exact this.cg h f (a2 _ (by omega)).1 (by simp) (by simp) (by simp) (by simp)
    have fS : Fr ct SM τ ρ := f.mono (fun c q => by rw [q]; exact smk _ _ (by decide))
    rw [e27]
    have il : ix (nI r.length) = r.length := nI_clamp (by omega)
    have arw : zAr σ (ad 1026 0 0) (ix (nI r.length)) = some (ad 13 (π r.length) 0) := by
      rw [il, ← er]; exact (a2 r.length (by omega)).2
    refine ⟨_, p1026 h0, k1026 h0, by rw [l1026 h0]; exact vp_in_nI (by omega) (by decide), _, arw, k13 h0 hpl, ?_⟩
    obtain ⟨m1, m2, m3, m4, m5, m6⟩ := hAct
    rw [m1]
    obtain ⟨t1, t2, t3, t4, t5, t6, t7⟩ := Rr
    have hl100 : r.length ≤ 100 := by omega
    have N : ∀ m : Nat, m < 6 → (nI A.1 = nI m ↔ A.1 = m) := fun m hm => nI_eq (by omega) (by omega)
    have c40 := c15 h (i := 40) (by decide)
    have clr : ∀ g : Nat, g = 1028 ∨ g = 1029 → ∀ v : Int32, ∀ ω : St, uFi (uFi ρ g (ad 17 0 0) v) 896 (ad 15 40 0) 0 = ω → Fr ct (fun c => c = (17, 0) ∨ c = (15, 40)) ρ ω ∧ Sh ad ct ω ∧ (∀ g2, g2 ≠ g → zFi ω g2 (ad 17 0 0) = zFi ρ g2 (ad 17 0 0)) ∧ zFi ω g (ad 17 0 0) = v ∧ Mla ad ω [] V.2.2.1.2.1 V.2.2.1.2.2 := by
      intro g hg v ω hω
      have n0 : ad 17 0 0 ≠ ad 15 40 0 := adne (c17 h) c40 (by decide)
      have fω : Fr ct (fun c => c = (17, 0) ∨ c = (15, 40)) ρ ω := by
        rw [← hω]
        have f0 : Fr ct (fun c => c = (17, 0) ∨ c = (15, 40)) ρ ρ := Fr.rf
        have f1 := f0.uFi g (ad 17 0 0) v (Or.inl (Or.inl (c17 h)))
        exact f1.uFi 896 (ad 15 40 0) 0 (Or.inl (Or.inr c40))
      have hω' : Sh ad ct ω := hr.fr fω (by decide) (by decide) (by decide)
      refine ⟨fω, hω', fun g2 h2 => ?_, ?_, ?_⟩
      · rw [← hω]; simp only [yK_uFi, yL_uFi, yFj_uFi, yFr_uFi, yAi_uFi, yAj_uFi, yAd_uFi, yAr_uFi, yFi_uFi, yK_uFj, yL_uFj, yFi_uFj, yFr_uFj, yAi_uFj, yAj_uFj, yAd_uFj, yAr_uFj, yFj_uFj, yK_uFr, yL_uFr, yFi_uFr, yFj_uFr, yAi_uFr, yAj_uFr, yAd_uFr, yAr_uFr, yFr_uFr, yK_uAi, yL_uAi, yFi_uAi, yFj_uAi, yFr_uAi, yAj_uAi, yAd_uAi, yAr_uAi, yAi_uAi, yK_uAj, yL_uAj, yFi_uAj, yFj_uAj, yFr_uAj, yAi_uAj, yAd_uAj, yAr_uAj, yAj_uAj, yK_uAd, yL_uAd, yFi_uAd, yFj_uAd, yFr_uAd, yAi_uAd, yAj_uAd, yAr_uAd, yAd_uAd, yK_uAr, yL_uAr, yFi_uAr, yFj_uAr, yFr_uAr, yAi_uAr, yAj_uAr, yAd_uAr, yAr_uAr, yK_uCi, yL_uCi, yFi_uCi, yFj_uCi, yFr_uCi, yAj_uCi, yAd_uCi, yAr_uCi, yK_uCj, yL_uCj, yFi_uCj, yFj_uCj, yFr_uCj, yAi_uCj, yAd_uCj, yAr_uCj, yK_uCx, yL_uCx, yFi_uCx, yFj_uCx, yFr_uCx, yAi_uCx, yAd_uCx, yAr_uCx, yK_nO, yL_nO, yFi_nO, yFj_nO, yFr_nO, yAi_nO, yAj_nO, yAd_nO, yAr_nO, yK_nA, yL_nA, yFi_nA, yFj_nA, yFr_nA, yAi_nA, yAj_nA, yAd_nA, yAr_nA, yK_nC, yL_nC, yFi_nC, yFj_nC, yFr_nC, yAi_nC, yAj_nC, yAd_nC, yAr_nC, yu2, yAi_uCi', yAj_uCj', yAj_uCx', Option.some.injEq, exists_eq_left', true_and, and_true, not_false_eq_true, forall_const, false_and, and_false, reduceIte, Nat.reduceEqDiff, ne_eq, n0, h2]
      · rw [← hω]; simp only [yK_uFi, yL_uFi, yFj_uFi, yFr_uFi, yAi_uFi, yAj_uFi, yAd_uFi, yAr_uFi, yFi_uFi, yK_uFj, yL_uFj, yFi_uFj, yFr_uFj, yAi_uFj, yAj_uFj, yAd_uFj, yAr_uFj, yFj_uFj, yK_uFr, yL_uFr, yFi_uFr, yFj_uFr, yAi_uFr, yAj_uFr, yAd_uFr, yAr_uFr, yFr_uFr, yK_uAi, yL_uAi, yFi_uAi, yFj_uAi, yFr_uAi, yAj_uAi, yAd_uAi, yAr_uAi, yAi_uAi, yK_uAj, yL_uAj, yFi_uAj, yFj_uAj, yFr_uAj, yAi_uAj, yAd_uAj, yAr_uAj, yAj_uAj, yK_uAd, yL_uAd, yFi_uAd, yFj_uAd, yFr_uAd, yAi_uAd, yAj_uAd, yAr_uAd, yAd_uAd, yK_uAr, yL_uAr, yFi_uAr, yFj_uAr, yFr_uAr, yAi_uAr, yAj_uAr, yAd_uAr, yAr_uAr, yK_uCi, yL_uCi, yFi_uCi, yFj_uCi, yFr_uCi, yAj_uCi, yAd_uCi, yAr_uCi, yK_uCj, yL_uCj, yFi_uCj, yFj_uCj, yFr_uCj, yAi_uCj, yAd_uCj, yAr_uCj, yK_uCx, yL_uCx, yFi_uCx, yFj_uCx, yFr_uCx, yAi_uCx, yAd_uCx, yAr_uCx, yK_nO, yL_nO, yFi_nO, yFj_nO, yFr_nO, yAi_nO, yAj_nO, yAd_nO, yAr_nO, yK_nA, yL_nA, yFi_nA, yFj_nA, yFr_nA, yAi_nA, yAj_nA, yAd_nA, yAr_nA, yK_nC, yL_nC, yFi_nC, yFj_nC, yFr_nC, yAi_nC, yAj_nC, yAd_nC, yAr_nC, yu2, yAi_uCi', yAj_uCj', yAj_uCx', Option.some.injEq, exists_eq_left', true_and, and_true, not_false_eq_true, forall_const, false_and, and_false, reduceIte, Nat.reduceEqDiff, ne_eq, n0]
      · obtain ⟨w, mr, -⟩ := t6
        refine ⟨w, ⟨?_, ?_, mr.2.2.1, Nat.zero_le _, fun i e he => (by cases he)⟩, fun n => absurd rfl n⟩
        · rw [← hω]; simp only [yK_uFi, yL_uFi, yFj_uFi, yFr_uFi, yAi_uFi, yAj_uFi, yAd_uFi, yAr_uFi, yFi_uFi, yK_uFj, yL_uFj, yFi_uFj, yFr_uFj, yAi_uFj, yAj_uFj, yAd_uFj, yAr_uFj, yFj_uFj, yK_uFr, yL_uFr, yFi_uFr, yFj_uFr, yAi_uFr, yAj_uFr, yAd_uFr, yAr_uFr, yFr_uFr, yK_uAi, yL_uAi, yFi_uAi, yFj_uAi, yFr_uAi, yAj_uAi, yAd_uAi, yAr_uAi, yAi_uAi, yK_uAj, yL_uAj, yFi_uAj, yFj_uAj, yFr_uAj, yAi_uAj, yAd_uAj, yAr_uAj, yAj_uAj, yK_uAd, yL_uAd, yFi_uAd, yFj_uAd, yFr_uAd, yAi_uAd, yAj_uAd, yAr_uAd, yAd_uAd, yK_uAr, yL_uAr, yFi_uAr, yFj_uAr, yFr_uAr, yAi_uAr, yAj_uAr, yAd_uAr, yAr_uAr, yK_uCi, yL_uCi, yFi_uCi, yFj_uCi, yFr_uCi, yAj_uCi, yAd_uCi, yAr_uCi, yK_uCj, yL_uCj, yFi_uCj, yFj_uCj, yFr_uCj, yAi_uCj, yAd_uCj, yAr_uCj, yK_uCx, yL_uCx, yFi_uCx, yFj_uCx, yFr_uCx, yAi_uCx, yAd_uCx, yAr_uCx, yK_nO, yL_nO, yFi_nO, yFj_nO, yFr_nO, yAi_nO, yAj_nO, yAd_nO, yAr_nO, yK_nA, yL_nA, yFi_nA, yFj_nA, yFr_nA, yAi_nA, yAj_nA, yAd_nA, yAr_nA, yK_nC, yL_nC, yFi_nC, yFj_nC, yFr_nC, yAi_nC, yAj_nC, yAd_nC, yAr_nC, yu2, yAi_uCi', yAj_uCj', yAj_uCx', Option.some.injEq, exists_eq_left', true_and, and_true, not_false_eq_true, forall_const, false_and, and_false, reduceIte, Nat.reduceEqDiff, ne_eq]; rfl
        · have n97 : (897 : Nat) ≠ g := by omega
          rw [← hω]; simp only [yK_uFi, yL_uFi, yFj_uFi, yFr_uFi, yAi_uFi, yAj_uFi, yAd_uFi, yAr_uFi, yFi_uFi, yK_uFj, yL_uFj, yFi_uFj, yFr_uFj, yAi_uFj, yAj_uFj, yAd_uFj, yAr_uFj, yFj_uFj, yK_uFr, yL_uFr, yFi_uFr, yFj_uFr, yAi_uFr, yAj_uFr, yAd_uFr, yAr_uFr, yFr_uFr, yK_uAi, yL_uAi, yFi_uAi, yFj_uAi, yFr_uAi, yAj_uAi, yAd_uAi, yAr_uAi, yAi_uAi, yK_uAj, yL_uAj, yFi_uAj, yFj_uAj, yFr_uAj, yAi_uAj, yAd_uAj, yAr_uAj, yAj_uAj, yK_uAd, yL_uAd, yFi_uAd, yFj_uAd, yFr_uAd, yAi_uAd, yAj_uAd, yAr_uAd, yAd_uAd, yK_uAr, yL_uAr, yFi_uAr, yFj_uAr, yFr_uAr, yAi_uAr, yAj_uAr, yAd_uAr, yAr_uAr, yK_uCi, yL_uCi, yFi_uCi, yFj_uCi, yFr_uCi, yAj_uCi, yAd_uCi, yAr_uCi, yK_uCj, yL_uCj, yFi_uCj, yFj_uCj, yFr_uCj, yAi_uCj, yAd_uCj, yAr_uCj, yK_uCx, yL_uCx, yFi_uCx, yFj_uCx, yFr_uCx, yAi_uCx, yAd_uCx, yAr_uCx, yK_nO, yL_nO, yFi_nO, yFj_nO, yFr_nO, yAi_nO, yAj_nO, yAd_nO, yAr_nO, yK_nA, yL_nA, yFi_nA, yFj_nA, yFr_nA, yAi_nA, yAj_nA, yAd_nA, yAr_nA, yK_nC, yL_nC, yFi_nC, yFj_nC, yFr_nC, yAi_nC, yAj_nC, yAd_nC, yAr_nC, yu2, yAi_uCi', yAj_uCj', yAj_uCx', Option.some.injEq, exists_eq_left', true_and, and_true, not_false_eq_true, forall_const, false_and, and_false, reduceIte, Nat.reduceEqDiff, ne_eq]
          rw [if_neg (fun q => n97 q.1)]
          exact mr.2.1
    refine ⟨fun z => ?_, fun z => ?_, fun z => ?_, fun z => ?_, fun z => ?_, fun z0 z1 z2 z3 z4 => ?_⟩
    · have z := (N 0 (by decide)).mp z
      have hne := aok.2.1 z
      simp only [undoV, z, if_pos, true_or] at hQ
      refine ⟨_, p1050 h0, k15 h0 (by decide), ?_⟩
      have e28 : zFi ρ 1028 (ad 17 0 0) = nI V.1.1.length := t1.1
      rw [e28, dl_len hne]
      generalize hω : uFi (uFi ρ 1028 (ad 17 0 0) (nI V.1.1.dropLast.length)) 896 (ad 15 40 0) 0 = ω
      obtain ⟨fω, hs, eg, ev, ml⟩ := clr 1028 (Or.inl rfl) _ ω hω
      exact hQ ω (fS.tr1 (fω.mono (fun c q => by rcases q with rfl | rfl <;> exact smk _ _ (by decide)))) ⟨⟨ev, fun i p hp => (fω.ai (k1031 hr) (by decide) (c1031 hr) (by decide) i).trans (t1.2 i p (dl_get hp))⟩, t2.cg hr fω (by decide) (by decide) (by decide) (by decide) (by decide) (by decide) (by decide) (eg _ (by decide)), t3.cg hr fω (fun g g1 g2 q => by rcases q with q | q <;> cases q <;> omega) (eg _ (by decide)), t4.cg hr fω (fun k _ => ⟨by simp, by simp, by simp⟩), t5.cg hr fω (by decide) (fun i _ => ⟨by simp, by simp, by simp, by simp⟩) (eg _ (by decide)) hl100, ml, (eg _ (by decide)).trans t7⟩
    · have z := (N 1 (by decide)).mp z
      have hne := aok.2.2.1 z
      simp only [undoV, z, if_pos, or_true, show ¬ (1 = 0) from by decide, if_false] at hQ
      refine ⟨_, p1050 h0, k15 h0 (by decide), ?_⟩
      have e29 : zFi ρ 1029 (ad 17 0 0) = nI V.1.2.1.length := t2.1
      rw [e29, dl_len hne]
      generalize hω : uFi (uFi ρ 1029 (ad 17 0 0) (nI V.1.2.1.dropLast.length)) 896 (ad 15 40 0) 0 = ω
      obtain ⟨fω, hs, eg, ev, ml⟩ := clr 1029 (Or.inr rfl) _ ω hω
      refine hQ ω (fS.tr1 (fω.mono (fun c q => by rcases q with rfl | rfl <;> exact smk _ _ (by decide)))) ⟨t1.cg hr fω (by decide) (eg _ (by decide)), ⟨ev, fun i p hp => ?_⟩, t3.cg hr fω (fun g g1 g2 q => by rcases q with q | q <;> cases q <;> omega) (eg _ (by decide)), t4.cg hr fω (fun k _ => ⟨by simp, by simp, by simp⟩), t5.cg hr fω (by decide) (fun i _ => ⟨by simp, by simp, by simp, by simp⟩) (eg _ (by decide)) hl100, ml, (eg _ (by decide)).trans t7⟩
      obtain ⟨g1, g2, g3, g4, g5, g6, g7⟩ := t2.2 i p (dl_get hp)
      exact ⟨(fω.ai (k1032 hr) (by decide) (c1032 hr) (by decide) i).trans g1, fun k hk => (fω.ai (k1033 hr) (by decide) (c1033 hr) (by decide) _).trans (g2 k hk), (fω.ai (k1034 hr) (by decide) (c1034 hr) (by decide) i).trans g3, (fω.ai (k1035 hr) (by decide) (c1035 hr) (by decide) i).trans g4, (fω.adb (k1037 hr) (by decide) (c1037 hr) (by decide) i).trans g5, (fω.ai (k1036 hr) (by decide) (c1036 hr) (by decide) i).trans g6, (fω.ai (k1038 hr) (by decide) (c1038 hr) (by decide) i).trans g7⟩
    · have z := (N 2 (by decide)).mp z
      obtain ⟨hat, hbe⟩ := aok.2.2.2.1 z
      have h60 := wf.2.2.1
      have hx := List.getElem?_eq_getElem hat
      simp only [undoV, z, show ¬ (2 = 0) from by decide, show ¬ (2 = 1) from by decide, if_false, if_true, hx, false_or] at hQ
      refine ⟨_, p1038 h0, ?_⟩
      rw [m3 (Or.inl z), m4 z]
      have ii : ix (nI A.2.1) = A.2.1 := nI_clamp (by omega)
      have key : ∀ v : Int32, vp_nar .boolean v = zB (decide (A.2.2.2.1 ≠ 0)) → wX16_undo_135 Q v (nI A.2.1) (ad 1038 0 0) ρ := fun v hv => by
        refine ⟨k1038 hr, by rw [l1038 hr]; exact vp_in_nI (by omega) (by decide), ?_⟩
        rw [ii, hv]
        generalize hω : uAi ρ (ad 1038 0 0) A.2.1 (zB (decide (A.2.2.2.1 ≠ 0))) = ω
        have f3 : Fr ct (fun c => c = (1038, 0)) ρ ω := by rw [← hω]; exact Fr.rf.uAi _ _ _ (Or.inl (c1038 h))
        have g17 := f3.fi (k17 hr) (by decide) (c17 hr) (by decide)
        have y6 : ∀ m, zAi ω (ad 1038 0 0) m = if m = A.2.1 then zB (decide (A.2.2.2.1 ≠ 0)) else zAi ρ (ad 1038 0 0) m := fun m => by rw [← hω]; simp only [yK_uFi, yL_uFi, yFj_uFi, yFr_uFi, yAi_uFi, yAj_uFi, yAd_uFi, yAr_uFi, yFi_uFi, yK_uFj, yL_uFj, yFi_uFj, yFr_uFj, yAi_uFj, yAj_uFj, yAd_uFj, yAr_uFj, yFj_uFj, yK_uFr, yL_uFr, yFi_uFr, yFj_uFr, yAi_uFr, yAj_uFr, yAd_uFr, yAr_uFr, yFr_uFr, yK_uAi, yL_uAi, yFi_uAi, yFj_uAi, yFr_uAi, yAj_uAi, yAd_uAi, yAr_uAi, yAi_uAi, yK_uAj, yL_uAj, yFi_uAj, yFj_uAj, yFr_uAj, yAi_uAj, yAd_uAj, yAr_uAj, yAj_uAj, yK_uAd, yL_uAd, yFi_uAd, yFj_uAd, yFr_uAd, yAi_uAd, yAj_uAd, yAr_uAd, yAd_uAd, yK_uAr, yL_uAr, yFi_uAr, yFj_uAr, yFr_uAr, yAi_uAr, yAj_uAr, yAd_uAr, yAr_uAr, yK_uCi, yL_uCi, yFi_uCi, yFj_uCi, yFr_uCi, yAj_uCi, yAd_uCi, yAr_uCi, yK_uCj, yL_uCj, yFi_uCj, yFj_uCj, yFr_uCj, yAi_uCj, yAd_uCj, yAr_uCj, yK_uCx, yL_uCx, yFi_uCx, yFj_uCx, yFr_uCx, yAi_uCx, yAd_uCx, yAr_uCx, yK_nO, yL_nO, yFi_nO, yFj_nO, yFr_nO, yAi_nO, yAj_nO, yAd_nO, yAr_nO, yK_nA, yL_nA, yFi_nA, yFj_nA, yFr_nA, yAi_nA, yAj_nA, yAd_nA, yAr_nA, yK_nC, yL_nC, yFi_nC, yFj_nC, yFr_nC, yAi_nC, yAj_nC, yAd_nC, yAr_nC, yu2, yAi_uCi', yAj_uCj', yAj_uCx', Option.some.injEq, exists_eq_left', true_and, and_true, not_false_eq_true, forall_const, false_and, and_false, reduceIte, Nat.reduceEqDiff, ne_eq]
        refine hQ ω (fS.tr1 (f3.mono (fun c q => by rw [q]; exact smk _ _ (by decide)))) ⟨t1.cg hr f3 (by decide) (g17 _), ⟨?_, fun j y hy => ?_⟩, t3.cg hr f3 (fun g g1 g2 q => by cases q; omega) (g17 _), t4.cg hr f3 (fun k _ => ⟨by simp, by simp, by simp⟩), t5.cg hr f3 (by decide) (fun i _ => ⟨by simp, by simp, by simp, by simp⟩) (g17 _) hl100, t6.cg hr f3 (by decide) (fun g g1 g2 q => by cases q) (g17 _), (g17 _).trans t7⟩
        · rw [g17, t2.1]; exact congrArg nI (by show _ = (V.1.2.1.set A.2.1 _).length; rw [List.length_set])
        · have kk : ∀ y, V.1.2.1[j]? = some y → zAi ω (ad 1032 0 0) j = y.1 ∧ (∀ k, k < 4 → zAi ω (ad 1033 0 0) (4 * j + k) = y.2.1 k) ∧ zAi ω (ad 1034 0 0) j = (y.2.2.1 0).toInt32 ∧ zAi ω (ad 1035 0 0) j = (y.2.2.1 1).toInt32 ∧ zAd ω (ad 1037 0 0) j = (y.2.2.1 2).toUInt64 ∧ zAi ω (ad 1036 0 0) j = (y.2.2.1 3).toInt32 ∧ zAi ρ (ad 1038 0 0) j = zB y.2.2.2 := fun y q => by
            obtain ⟨g1, g2, g3, g4, g5, g6, g7⟩ := t2.2 j y q
            exact ⟨(f3.ai (k1032 hr) (by decide) (c1032 hr) (by decide) j).trans g1, fun k hk => (f3.ai (k1033 hr) (by decide) (c1033 hr) (by decide) _).trans (g2 k hk), (f3.ai (k1034 hr) (by decide) (c1034 hr) (by decide) j).trans g3, (f3.ai (k1035 hr) (by decide) (c1035 hr) (by decide) j).trans g4, (f3.adb (k1037 hr) (by decide) (c1037 hr) (by decide) j).trans g5, (f3.ai (k1036 hr) (by decide) (c1036 hr) (by decide) j).trans g6, g7⟩
          rcases set_get hx hy with ⟨rfl, rfl⟩ | ⟨n, e⟩
          · obtain ⟨g1, g2, g3, g4, g5, g6, g7⟩ := kk _ hx
            exact ⟨g1, g2, g3, g4, g5, g6, by rw [y6, if_pos rfl]⟩
          · obtain ⟨g1, g2, g3, g4, g5, g6, g7⟩ := kk _ e
            exact ⟨g1, g2, g3, g4, g5, g6, by rw [y6, if_neg n]; exact g7⟩
      rcases hbe with e | e
      · rw [e]
        exact ⟨fun _ => key 0 (by rw [e]; decide), fun w => absurd w (by decide)⟩
      · rw [e]
        exact ⟨fun w => absurd (by decide) w, fun _ => key 1 (by rw [e]; decide)⟩
    · have z := (N 3 (by decide)).mp z
      obtain ⟨hat, hwh, hv0, hv1⟩ := aok.2.2.2.2.1 z
      have hx := List.getElem?_eq_getElem hat
      simp only [undoV, z, show ¬ (3 = 0) from by decide, show ¬ (3 = 1) from by decide, show ¬ (3 = 2) from by decide, if_false, if_true, hx, false_or] at hQ
      have efj : zFj σ 771 (ad 13 (π r.length) 0) = A.2.2.2.1 := by
        rw [← ej, ← f.fj (k13 h hpl) (by decide) (c13 h hpl) (by simp)]
        exact (m5 z).2
      rw [m3 (Or.inr (Or.inl z)), (m5 z).1, efj]
      refine M_weight (V := V) hr t2 wf.2.2.1 hx hwh hv0 hv1 (fun ω fω mω => ?_)
      have g17 := fω.fi (k17 hr) (by decide) (c17 hr) (by decide)
      exact hQ ω (fS.tr1 (fω.mono (fun c q => smk c.1 c.2 (by omega)))) ⟨t1.cg hr fω (by decide) (g17 _), mω, t3.cg hr fω (fun g g1 g2 q => by have := q.2.1; simp at this; omega) (g17 _), t4.cg hr fω (fun k _ => ⟨by simp, by simp, by simp⟩), t5.cg hr fω (by decide) (fun i _ => ⟨by simp, by simp, by simp, by simp⟩) (g17 _) hl100, t6.cg hr fω (by decide) (fun g g1 g2 q => by have := q.1; simp at this; omega) (g17 _), (g17 _).trans t7⟩
    · have z := (N 4 (by decide)).mp z
      have hne := aok.2.2.2.2.2.1 z
      simp only [undoV, z, show ¬ (4 = 0) from by decide, show ¬ (4 = 1) from by decide, show ¬ (4 = 2) from by decide, show ¬ (4 = 3) from by decide, if_false, if_true, false_or] at hQ
      have e30 : zFi ρ 1030 (ad 17 0 0) = nI V.1.2.2.1.length := t3.1
      rw [e30, dl_len hne]
      generalize hω : uFi ρ 1030 (ad 17 0 0) (nI V.1.2.2.1.dropLast.length) = ω
      have fω : Fr ct (fun c => c = (17, 0)) ρ ω := by rw [← hω]; exact Fr.rf.uFi _ _ _ (Or.inl (c17 h))
      have eg : ∀ g, g ≠ 1030 → zFi ω g (ad 17 0 0) = zFi ρ g (ad 17 0 0) := fun g hg => by rw [← hω]; simp only [yK_uFi, yL_uFi, yFj_uFi, yFr_uFi, yAi_uFi, yAj_uFi, yAd_uFi, yAr_uFi, yFi_uFi, yK_uFj, yL_uFj, yFi_uFj, yFr_uFj, yAi_uFj, yAj_uFj, yAd_uFj, yAr_uFj, yFj_uFj, yK_uFr, yL_uFr, yFi_uFr, yFj_uFr, yAi_uFr, yAj_uFr, yAd_uFr, yAr_uFr, yFr_uFr, yK_uAi, yL_uAi, yFi_uAi, yFj_uAi, yFr_uAi, yAj_uAi, yAd_uAi, yAr_uAi, yAi_uAi, yK_uAj, yL_uAj, yFi_uAj, yFj_uAj, yFr_uAj, yAi_uAj, yAd_uAj, yAr_uAj, yAj_uAj, yK_uAd, yL_uAd, yFi_uAd, yFj_uAd, yFr_uAd, yAi_uAd, yAj_uAd, yAr_uAd, yAd_uAd, yK_uAr, yL_uAr, yFi_uAr, yFj_uAr, yFr_uAr, yAi_uAr, yAj_uAr, yAd_uAr, yAr_uAr, yK_uCi, yL_uCi, yFi_uCi, yFj_uCi, yFr_uCi, yAj_uCi, yAd_uCi, yAr_uCi, yK_uCj, yL_uCj, yFi_uCj, yFj_uCj, yFr_uCj, yAi_uCj, yAd_uCj, yAr_uCj, yK_uCx, yL_uCx, yFi_uCx, yFj_uCx, yFr_uCx, yAi_uCx, yAd_uCx, yAr_uCx, yK_nO, yL_nO, yFi_nO, yFj_nO, yFr_nO, yAi_nO, yAj_nO, yAd_nO, yAr_nO, yK_nA, yL_nA, yFi_nA, yFj_nA, yFr_nA, yAi_nA, yAj_nA, yAd_nA, yAr_nA, yK_nC, yL_nC, yFi_nC, yFj_nC, yFr_nC, yAi_nC, yAj_nC, yAd_nC, yAr_nC, yu2, yAi_uCi', yAj_uCj', yAj_uCx', Option.some.injEq, exists_eq_left', true_and, and_true, not_false_eq_true, forall_const, false_and, and_false, reduceIte, Nat.reduceEqDiff, ne_eq, hg]
      refine hQ ω (fS.tr1 (fω.mono (fun c q => by rw [q]; exact smk _ _ (by decide)))) ⟨t1.cg hr fω (by decide) (eg _ (by decide)), t2.cg hr fω (by decide) (by decide) (by decide) (by decide) (by decide) (by decide) (by decide) (eg _ (by decide)), ⟨by rw [← hω]; simp only [yK_uFi, yL_uFi, yFj_uFi, yFr_uFi, yAi_uFi, yAj_uFi, yAd_uFi, yAr_uFi, yFi_uFi, yK_uFj, yL_uFj, yFi_uFj, yFr_uFj, yAi_uFj, yAj_uFj, yAd_uFj, yAr_uFj, yFj_uFj, yK_uFr, yL_uFr, yFi_uFr, yFj_uFr, yAi_uFr, yAj_uFr, yAd_uFr, yAr_uFr, yFr_uFr, yK_uAi, yL_uAi, yFi_uAi, yFj_uAi, yFr_uAi, yAj_uAi, yAd_uAi, yAr_uAi, yAi_uAi, yK_uAj, yL_uAj, yFi_uAj, yFj_uAj, yFr_uAj, yAi_uAj, yAd_uAj, yAr_uAj, yAj_uAj, yK_uAd, yL_uAd, yFi_uAd, yFj_uAd, yFr_uAd, yAi_uAd, yAj_uAd, yAr_uAd, yAd_uAd, yK_uAr, yL_uAr, yFi_uAr, yFj_uAr, yFr_uAr, yAi_uAr, yAj_uAr, yAd_uAr, yAr_uAr, yK_uCi, yL_uCi, yFi_uCi, yFj_uCi, yFr_uCi, yAj_uCi, yAd_uCi, yAr_uCi, yK_uCj, yL_uCj, yFi_uCj, yFj_uCj, yFr_uCj, yAi_uCj, yAd_uCj, yAr_uCj, yK_uCx, yL_uCx, yFi_uCx, yFj_uCx, yFr_uCx, yAi_uCx, yAd_uCx, yAr_uCx, yK_nO, yL_nO, yFi_nO, yFj_nO, yFr_nO, yAi_nO, yAj_nO, yAd_nO, yAr_nO, yK_nA, yL_nA, yFi_nA, yFj_nA, yFr_nA, yAi_nA, yAj_nA, yAd_nA, yAr_nA, yK_nC, yL_nC, yFi_nC, yFj_nC, yFr_nC, yAi_nC, yAj_nC, yAd_nC, yAr_nC, yu2, yAi_uCi', yAj_uCj', yAj_uCx', Option.some.injEq, exists_eq_left', true_and, and_true, not_false_eq_true, forall_const, false_and, and_false, reduceIte, Nat.reduceEqDiff, ne_eq], fun i p hp => ?_⟩, t4.cg hr fω (fun k _ => ⟨by simp, by simp, by simp⟩), t5.cg hr fω (by decide) (fun i _ => ⟨by simp, by simp, by simp, by simp⟩) (eg _ (by decide)) hl100, t6.cg hr fω (by decide) (fun g g1 g2 q => by cases q) (eg _ (by decide)), (eg _ (by decide)).trans t7⟩
      obtain ⟨g1, g2, g3, g4, g5, g6, g7, g8, g9⟩ := t3.2 i p (dl_get hp)
      exact ⟨(fω.ai (k1039 hr) (by decide) (c1039 hr) (by decide) i).trans g1, (fω.ai (k1042 hr) (by decide) (c1042 hr) (by decide) i).trans g2, (fω.ai (k1040 hr) (by decide) (c1040 hr) (by decide) i).trans g3, (fω.ai (k1041 hr) (by decide) (c1041 hr) (by decide) i).trans g4, (fω.ai (k1047 hr) (by decide) (c1047 hr) (by decide) i).trans g5, (fω.ai (k1043 hr) (by decide) (c1043 hr) (by decide) i).trans g6, (fω.ai (k1044 hr) (by decide) (c1044 hr) (by decide) i).trans g7, (fω.ai (k1045 hr) (by decide) (c1045 hr) (by decide) i).trans g8, (fω.ai (k1046 hr) (by decide) (c1046 hr) (by decide) i).trans g9⟩
    · have z : A.1 = 5 := by
        have y0 : A.1 ≠ 0 := fun w => z0 ((N 0 (by decide)).mpr w)
        have y1 : A.1 ≠ 1 := fun w => z1 ((N 1 (by decide)).mpr w)
        have y2 : A.1 ≠ 2 := fun w => z2 ((N 2 (by decide)).mpr w)
        have y3 : A.1 ≠ 3 := fun w => z3 ((N 3 (by decide)).mpr w)
        have y4 : A.1 ≠ 4 := fun w => z4 ((N 4 (by decide)).mpr w)
        omega
      obtain ⟨hat, -⟩ := aok.2.2.2.2.2.2 z
      simp only [undoV, z, show ¬ (5 = 0) from by decide, show ¬ (5 = 1) from by decide, show ¬ (5 = 2) from by decide, show ¬ (5 = 3) from by decide, show ¬ (5 = 4) from by decide, if_false, false_or] at hQ
      rw [m3 (Or.inr (Or.inr z))]
      obtain ⟨v1, v2⟩ := M_shl (V := V) h0 hat
      refine ⟨_, p1052 h0, k1052 h0, v1, _, v2, _, p772 h0 hpl, k16 h0 (by omega), ?_⟩
      refine M_become hr (by omega) (by omega) (by omega) (m6 z) (fun ω fω mω => ?_)
      have o : ∀ {c j : Nat}, c ≠ 16 → c ≠ 963 → c ≠ 964 → ¬ S3 (100 + A.2.1) (c, j) := fun a b d => S3n (Or.inl ⟨a, b, d⟩)
      have g17 := fω.fi (k17 hr) (by decide) (c17 hr) (o (by decide) (by decide) (by decide))
      refine hQ ω (fS.tr1 (fω.mono (fun c q => smk c.1 c.2 (by have := q.1; omega)))) ⟨t1.cg hr fω (o (by decide) (by decide) (by decide)) (g17 _), t2.cg hr fω (o (by decide) (by decide) (by decide)) (o (by decide) (by decide) (by decide)) (o (by decide) (by decide) (by decide)) (o (by decide) (by decide) (by decide)) (o (by decide) (by decide) (by decide)) (o (by decide) (by decide) (by decide)) (o (by decide) (by decide) (by decide)) (g17 _), t3.cg hr fω (fun g g1 g2 => o (by omega) (by omega) (by omega)) (g17 _), fun j hj => ?_, t5.cg hr fω (o (by decide) (by decide) (by decide)) (fun i hi => ⟨o (by decide) (by decide) (by decide), S3n (Or.inr (by omega)), S3n (Or.inr (by omega)), S3n (Or.inr (by omega))⟩) (g17 _) hl100, t6.cg hr fω (o (by decide) (by decide) (by decide)) (fun g g1 g2 => o (by omega) (by omega) (by omega)) (g17 _), (g17 _).trans t7⟩
      show MThg ad ω (100 + j) (upF V.1.2.2.2 A.2.1 A.2.2.2.2 j)
      unfold upF
      by_cases c : j = A.2.1
      · rw [if_pos c, c]; exact mω
      · rw [if_neg c]
        exact (t4 j hj).cg hr fω (by omega) (S3n (Or.inr (by omega))) (S3n (Or.inr (by omega))) (S3n (Or.inr (by omega)))
end M11
