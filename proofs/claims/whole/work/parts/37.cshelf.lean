section K10
variable {ad : Ad} {ct : Ct} {σ : St}
/-- the shelf's place -/
theorem C_shl {V : Vt} (h : Sh ad ct σ) (R : RC ad ct σ V) {k : Nat} (hk : k < 20) : vp_in (nI k) (zL σ (ad 712 0 0)) ∧ isThg ct σ (zAr σ (ad 712 0 0) (ix (nI k))) (V.1.2.2.2 k) := by
  rw [l712 h, show ix (nI k) = k from nI_clamp (by omega)]
  exact ⟨vp_in_nI hk (by decide), R.2.2.2.1 k hk⟩
theorem C_at2 {V : Vt} {P1 P2 : Prop} (h : Sh ad ct σ) (R : RC ad ct σ V) (v : Int32) (p1 : P1) (p2 : P2) {Q : Option Nat → St → Prop} (h0 : aOf V v = none → Q none σ) (h1 : ∀ i e j, v = nI i → i < V.2.2.1.1.length → V.2.2.1.1[i]? = some e → aOf V v = some e → j < room 42 → AnsAt ad σ 42 j V.2.2.1.2.1 V.2.2.1.2.2 e → zFi σ 194 (ad 4 42 0) = nI V.2.2.1.2.1 → zFi σ 709 (ad 12 0 0) = zB V.2.2.1.2.2 → Q (some (ad 3 42 j)) σ) : zK σ (ad 12 0 0) = 12 ∧ ∃ a2 : Nat, zFr σ 708 (ad 12 0 0) = some a2 ∧ P1 ∧ P2 ∧ zK σ a2 = 4 ∧ wX3_at a2 v σ Q := by
  obtain ⟨g1, a2, g2, g3, g4⟩ := C_at h R v h0 h1
  exact ⟨g1, a2, g2, p1, p2, g3, g4⟩
theorem C_thingOf {V : Vt} (h : Sh ad ct σ) (R : RC ad ct σ V) (W : WFv V) {s : Nat} (hs : s < 5) (n : Int32) {Q : Option Nat → St → Prop} (h0 : thV s n V = none ∨ s = 0 → Q none σ) (h1 : ∀ b t σ', thV s n V = some t → s ≠ 0 → nT ct σ σ' b t → Q (some b) σ') : wX11_thingOf 2 20 (ad 12 0 0) (nI s) n σ Q := by
  have wf := W.1.wf
  have t31 : ∀ (y : Int32), (s = 1 ∨ s = 2) → (y = 0 → thV s n V = none) → (¬ y = 0 → thV s n V = some (s, [n.toInt64])) → wX11_thingOf_31 2 20 Q 0 0 (nI s) n y σ := fun y hs12 g0 g1 => by
    refine ⟨fun c => ⟨by decide, by decide, h0 (Or.inl (g0 c))⟩, fun c => ⟨by decide, by decide, fun b hb => ⟨by decide, by decide, fun y2 hy => ?_⟩⟩⟩
    have hby : b ≠ y2 := fun z => by rw [← z, yK_nO, if_pos rfl] at hy; cases hy
    have f0 : Fr ct (fun _ => False) σ (nO σ b 11) := Fr.rf.nO b 11 hb
    have hy0 := f0.fresh hy
    rw [show ix 0 = 0 by decide]
    refine ⟨by rw [yL_nA, if_pos rfl]; exact vp_in_nI (n := 0) (by decide) (by decide), by decide, by decide, ?_, by decide, by decide, h1 b _ _ (g1 c) (by omega) (mkT h ((f0.nA y2 21 1 hy).uAj _ _ _ (Or.inr hy0)) hb hy0 ?_ ?_ ?_ (show 1 ≤ 16 by decide) (fun i v hv => ?_) (by omega) hs)⟩
    · simp only [yK_uFi, yL_uFi, yFj_uFi, yFr_uFi, yAi_uFi, yAj_uFi, yAd_uFi, yAr_uFi, yFi_uFi, yK_uFj, yL_uFj, yFi_uFj, yFr_uFj, yAi_uFj, yAj_uFj, yAd_uFj, yAr_uFj, yFj_uFj, yK_uFr, yL_uFr, yFi_uFr, yFj_uFr, yAi_uFr, yAj_uFr, yAd_uFr, yAr_uFr, yFr_uFr, yK_uAi, yL_uAi, yFi_uAi, yFj_uAi, yFr_uAi, yAj_uAi, yAd_uAi, yAr_uAi, yAi_uAi, yK_uAj, yL_uAj, yFi_uAj, yFj_uAj, yFr_uAj, yAi_uAj, yAd_uAj, yAr_uAj, yAj_uAj, yK_uAd, yL_uAd, yFi_uAd, yFj_uAd, yFr_uAd, yAi_uAd, yAj_uAd, yAr_uAd, yAd_uAd, yK_uAr, yL_uAr, yFi_uAr, yFj_uAr, yFr_uAr, yAi_uAr, yAj_uAr, yAd_uAr, yAr_uAr, yK_uCi, yL_uCi, yFi_uCi, yFj_uCi, yFr_uCi, yAj_uCi, yAd_uCi, yAr_uCi, yK_uCj, yL_uCj, yFi_uCj, yFj_uCj, yFr_uCj, yAi_uCj, yAd_uCj, yAr_uCj, yK_uCx, yL_uCx, yFi_uCx, yFj_uCx, yFr_uCx, yAi_uCx, yAd_uCx, yAr_uCx, yK_nO, yL_nO, yFi_nO, yFj_nO, yFr_nO, yAi_nO, yAj_nO, yAd_nO, yAr_nO, yK_nA, yL_nA, yFi_nA, yFj_nA, yFr_nA, yAi_nA, yAj_nA, yAd_nA, yAr_nA, yK_nC, yL_nC, yFi_nC, yFj_nC, yFr_nC, yAi_nC, yAj_nC, yAd_nC, yAr_nC, yu2, yAi_uCi', yAj_uCj', yAj_uCx', hby, Option.some.injEq, exists_eq_left', true_and, and_true, not_false_eq_true, forall_const, false_and, and_false, reduceIte, Nat.reduceEqDiff, ne_eq]
    · simp only [yK_uFi, yL_uFi, yFj_uFi, yFr_uFi, yAi_uFi, yAj_uFi, yAd_uFi, yAr_uFi, yFi_uFi, yK_uFj, yL_uFj, yFi_uFj, yFr_uFj, yAi_uFj, yAj_uFj, yAd_uFj, yAr_uFj, yFj_uFj, yK_uFr, yL_uFr, yFi_uFr, yFj_uFr, yAi_uFr, yAj_uFr, yAd_uFr, yAr_uFr, yFr_uFr, yK_uAi, yL_uAi, yFi_uAi, yFj_uAi, yFr_uAi, yAj_uAi, yAd_uAi, yAr_uAi, yAi_uAi, yK_uAj, yL_uAj, yFi_uAj, yFj_uAj, yFr_uAj, yAi_uAj, yAd_uAj, yAr_uAj, yAj_uAj, yK_uAd, yL_uAd, yFi_uAd, yFj_uAd, yFr_uAd, yAi_uAd, yAj_uAd, yAr_uAd, yAd_uAd, yK_uAr, yL_uAr, yFi_uAr, yFj_uAr, yFr_uAr, yAi_uAr, yAj_uAr, yAd_uAr, yAr_uAr, yK_uCi, yL_uCi, yFi_uCi, yFj_uCi, yFr_uCi, yAj_uCi, yAd_uCi, yAr_uCi, yK_uCj, yL_uCj, yFi_uCj, yFj_uCj, yFr_uCj, yAi_uCj, yAd_uCj, yAr_uCj, yK_uCx, yL_uCx, yFi_uCx, yFj_uCx, yFr_uCx, yAi_uCx, yAd_uCx, yAr_uCx, yK_nO, yL_nO, yFi_nO, yFj_nO, yFr_nO, yAi_nO, yAj_nO, yAd_nO, yAr_nO, yK_nA, yL_nA, yFi_nA, yFj_nA, yFr_nA, yAi_nA, yAj_nA, yAd_nA, yAr_nA, yK_nC, yL_nC, yFi_nC, yFj_nC, yFr_nC, yAi_nC, yAj_nC, yAd_nC, yAr_nC, yu2, yAi_uCi', yAj_uCj', yAj_uCx', hby, Option.some.injEq, exists_eq_left', true_and, and_true, not_false_eq_true, forall_const, false_and, and_false, reduceIte, Nat.reduceEqDiff, ne_eq]
    · simp only [yK_uFi, yL_uFi, yFj_uFi, yFr_uFi, yAi_uFi, yAj_uFi, yAd_uFi, yAr_uFi, yFi_uFi, yK_uFj, yL_uFj, yFi_uFj, yFr_uFj, yAi_uFj, yAj_uFj, yAd_uFj, yAr_uFj, yFj_uFj, yK_uFr, yL_uFr, yFi_uFr, yFj_uFr, yAi_uFr, yAj_uFr, yAd_uFr, yAr_uFr, yFr_uFr, yK_uAi, yL_uAi, yFi_uAi, yFj_uAi, yFr_uAi, yAj_uAi, yAd_uAi, yAr_uAi, yAi_uAi, yK_uAj, yL_uAj, yFi_uAj, yFj_uAj, yFr_uAj, yAi_uAj, yAd_uAj, yAr_uAj, yAj_uAj, yK_uAd, yL_uAd, yFi_uAd, yFj_uAd, yFr_uAd, yAi_uAd, yAj_uAd, yAr_uAd, yAd_uAd, yK_uAr, yL_uAr, yFi_uAr, yFj_uAr, yFr_uAr, yAi_uAr, yAj_uAr, yAd_uAr, yAr_uAr, yK_uCi, yL_uCi, yFi_uCi, yFj_uCi, yFr_uCi, yAj_uCi, yAd_uCi, yAr_uCi, yK_uCj, yL_uCj, yFi_uCj, yFj_uCj, yFr_uCj, yAi_uCj, yAd_uCj, yAr_uCj, yK_uCx, yL_uCx, yFi_uCx, yFj_uCx, yFr_uCx, yAi_uCx, yAd_uCx, yAr_uCx, yK_nO, yL_nO, yFi_nO, yFj_nO, yFr_nO, yAi_nO, yAj_nO, yAd_nO, yAr_nO, yK_nA, yL_nA, yFi_nA, yFj_nA, yFr_nA, yAi_nA, yAj_nA, yAd_nA, yAr_nA, yK_nC, yL_nC, yFi_nC, yFj_nC, yFr_nC, yAi_nC, yAj_nC, yAd_nC, yAr_nC, yu2, yAi_uCi', yAj_uCj', yAj_uCx', Option.some.injEq, exists_eq_left', true_and, and_true, not_false_eq_true, forall_const, false_and, and_false, reduceIte, Nat.reduceEqDiff, ne_eq]
    · simp only [yK_uFi, yL_uFi, yFj_uFi, yFr_uFi, yAi_uFi, yAj_uFi, yAd_uFi, yAr_uFi, yFi_uFi, yK_uFj, yL_uFj, yFi_uFj, yFr_uFj, yAi_uFj, yAj_uFj, yAd_uFj, yAr_uFj, yFj_uFj, yK_uFr, yL_uFr, yFi_uFr, yFj_uFr, yAi_uFr, yAj_uFr, yAd_uFr, yAr_uFr, yFr_uFr, yK_uAi, yL_uAi, yFi_uAi, yFj_uAi, yFr_uAi, yAj_uAi, yAd_uAi, yAr_uAi, yAi_uAi, yK_uAj, yL_uAj, yFi_uAj, yFj_uAj, yFr_uAj, yAi_uAj, yAd_uAj, yAr_uAj, yAj_uAj, yK_uAd, yL_uAd, yFi_uAd, yFj_uAd, yFr_uAd, yAi_uAd, yAj_uAd, yAr_uAd, yAd_uAd, yK_uAr, yL_uAr, yFi_uAr, yFj_uAr, yFr_uAr, yAi_uAr, yAj_uAr, yAd_uAr, yAr_uAr, yK_uCi, yL_uCi, yFi_uCi, yFj_uCi, yFr_uCi, yAj_uCi, yAd_uCi, yAr_uCi, yK_uCj, yL_uCj, yFi_uCj, yFj_uCj, yFr_uCj, yAi_uCj, yAd_uCj, yAr_uCj, yK_uCx, yL_uCx, yFi_uCx, yFj_uCx, yFr_uCx, yAi_uCx, yAd_uCx, yAr_uCx, yK_nO, yL_nO, yFi_nO, yFj_nO, yFr_nO, yAi_nO, yAj_nO, yAd_nO, yAr_nO, yK_nA, yL_nA, yFi_nA, yFj_nA, yFr_nA, yAi_nA, yAj_nA, yAd_nA, yAr_nA, yK_nC, yL_nC, yFi_nC, yFj_nC, yFr_nC, yAi_nC, yAj_nC, yAd_nC, yAr_nC, yu2, yAi_uCi', yAj_uCj', yAj_uCx', Option.some.injEq, exists_eq_left', true_and, and_true, not_false_eq_true, forall_const, false_and, and_false, reduceIte, Nat.reduceEqDiff, ne_eq]; rfl
    · have := (List.getElem?_eq_some_iff.mp hv).1
      have hi : i = 0 := by simpa using this
      subst hi
      cases hv
      simp only [yK_uFi, yL_uFi, yFj_uFi, yFr_uFi, yAi_uFi, yAj_uFi, yAd_uFi, yAr_uFi, yFi_uFi, yK_uFj, yL_uFj, yFi_uFj, yFr_uFj, yAi_uFj, yAj_uFj, yAd_uFj, yAr_uFj, yFj_uFj, yK_uFr, yL_uFr, yFi_uFr, yFj_uFr, yAi_uFr, yAj_uFr, yAd_uFr, yAr_uFr, yFr_uFr, yK_uAi, yL_uAi, yFi_uAi, yFj_uAi, yFr_uAi, yAj_uAi, yAd_uAi, yAr_uAi, yAi_uAi, yK_uAj, yL_uAj, yFi_uAj, yFj_uAj, yFr_uAj, yAi_uAj, yAd_uAj, yAr_uAj, yAj_uAj, yK_uAd, yL_uAd, yFi_uAd, yFj_uAd, yFr_uAd, yAi_uAd, yAj_uAd, yAr_uAd, yAd_uAd, yK_uAr, yL_uAr, yFi_uAr, yFj_uAr, yFr_uAr, yAi_uAr, yAj_uAr, yAd_uAr, yAr_uAr, yK_uCi, yL_uCi, yFi_uCi, yFj_uCi, yFr_uCi, yAj_uCi, yAd_uCi, yAr_uCi, yK_uCj, yL_uCj, yFi_uCj, yFj_uCj, yFr_uCj, yAi_uCj, yAd_uCj, yAr_uCj, yK_uCx, yL_uCx, yFi_uCx, yFj_uCx, yFr_uCx, yAi_uCx, yAd_uCx, yAr_uCx, yK_nO, yL_nO, yFi_nO, yFj_nO, yFr_nO, yAi_nO, yAj_nO, yAd_nO, yAr_nO, yK_nA, yL_nA, yFi_nA, yFj_nA, yFr_nA, yAi_nA, yAj_nA, yAd_nA, yAr_nA, yK_nC, yL_nC, yFi_nC, yFj_nC, yFr_nC, yAi_nC, yAj_nC, yAd_nC, yAr_nC, yu2, yAi_uCi', yAj_uCj', yAj_uCx', Option.some.injEq, exists_eq_left', true_and, and_true, not_false_eq_true, forall_const, false_and, and_false, reduceIte, Nat.reduceEqDiff, ne_eq]
  have N : ∀ m : Nat, m < 5 → (nI s = nI m ↔ s = m) := fun m hm => nI_eq (by omega) (by omega)
  have t10 : (s = 1 ∨ s = 2) → wX11_thingOf_10 2 20 Q 0 0 (ad 12 0 0) (nI s) n σ := fun hs12 => by
    refine ⟨fun c => ⟨by decide, by decide, k12 h, ?_⟩, fun c => ⟨k12 h, _, p704 h, by decide, by decide, k7 h, ?_⟩⟩
    · have e2 : s = 2 := hs12.elim (fun z => absurd ((N 1 (by decide)).mpr z) c) id
      subst e2
      refine C_isQ h R wf.2.2.2.2.1 n (fun e => t31 0 hs12 (fun _ => ?_) (fun z => absurd rfl z)) (fun i x hi e hx ex => t31 1 hs12 (fun z => absurd z (by decide)) (fun _ => ?_))
      · unfold thV; rw [e]; rfl
      · unfold thV; rw [ex]; rfl
    · have e1 : s = 1 := (N 1 (by decide)).mp c
      subst e1
      refine C_isFact h R wf.2.2.1 n (fun e => t31 0 hs12 (fun _ => ?_) (fun z => absurd rfl z)) (fun i x hi e hx ex => t31 1 hs12 (fun z => absurd z (by decide)) (fun _ => ?_))
      · unfold thV; rw [e]; rfl
      · unfold thV; rw [ex]; rfl
  refine ⟨fun c => t10 (Or.inl ((N 1 (by decide)).mp c)), fun c => ⟨fun d => ?_, fun d => t10 (Or.inr ((N 2 (by decide)).mp d))⟩⟩
  have c1 : s ≠ 1 := fun z => c ((N 1 (by decide)).mpr z)
  have c2 : s ≠ 2 := fun z => d ((N 2 (by decide)).mpr z)
  refine C_at2 h R n (by decide) (by decide)
    (fun e => ⟨fun z => ⟨by decide, by decide, h0 (Or.inr ((N 0 (by decide)).mp z))⟩, fun z => ⟨fun _ => ⟨by decide, by decide, h0 (Or.inl ?_)⟩, fun a w => (by cases w)⟩⟩)
    (fun i e j e1 e2 e3 e4 e5 e6 e7 e8 => ⟨fun z => ⟨by decide, by decide, h0 (Or.inr ((N 0 (by decide)).mp z))⟩, fun z => ⟨fun w => (by cases w), fun a w => ⟨by decide, by decide, fun b hb => ?_⟩⟩⟩)
  · have z0 : s ≠ 0 := fun w => z ((N 0 (by decide)).mpr w)
    unfold thV
    rw [if_neg z0, if_neg c1, if_neg c2, e]
    split <;> rfl
  · cases w
    have z0 : s ≠ 0 := fun w => z ((N 0 (by decide)).mpr w)
    have f0 : Fr ct (fun _ => False) σ (nO σ b 11) := Fr.rf.nO b 11 hb
    have hb1 := h.fr f0 id id id
    have kb : zK (nO σ b 11) b = 11 := by rw [yK_nO, if_pos rfl]
    have e6' := e6.cg h f0 (by decide) e5 id id id
    refine ⟨fun c3 => ⟨k3 hb1 (by decide) e5, _, p129 hb1 (by decide) e5, 1, 16, by decide, by decide, ?_⟩, fun c3 => ⟨k12 hb1, _, p708 hb1, k4 hb1 (by decide), 1, 6, by decide, by decide, k3 hb1 (by decide) e5, ?_⟩⟩
    · have s4 : s = 4 := by
        have : s ≠ 3 := fun w => c3 ((N 3 (by decide)).mpr w)
        omega
      rw [e6'.2.2.2.1]
      refine C_copyOf h f0 e5 e6' hb kb (by decide) (by decide) (fun y ρ fr hy0 k1 k2 k3' k4' => ?_)
      refine ⟨by decide, by decide, k1, by decide, by decide, h1 b (s, e.2.1) _ ?_ z0 (mkT h fr hb hy0 k1 k2 k3' e6.2.2.1 k4' (by omega) hs)⟩
      subst s4
      unfold thV
      rw [e4]; rfl
    · have s3 : s = 3 := (N 3 (by decide)).mp c3
      rw [show zFi (nO σ b 11) 194 (ad 4 42 0) = nI V.2.2.1.2.1 from (f0.fi (k4 h (by decide)) (by decide) (c4 h (by decide)) id _).trans e7]
      refine C_rowOf h f0 e5 W.2.2.2.1 e6' hb kb (by decide) (by decide) (fun y ρ fr hy0 k1 k2 k3' k4' => ?_)
      refine ⟨by decide, by decide, k1, by decide, by decide, h1 b (s, e.1.map Int32.toInt64) _ ?_ z0 (mkT h fr hb hy0 k1 k2 (by rw [List.length_map, e6.1]; exact k3') (by rw [List.length_map, e6.1]; have := W.2.2.2.1; omega) k4' (by omega) hs)⟩
      subst s3
      unfold thV
      rw [e4]; rfl
theorem C_lay {V : Vt} (h : Sh ad ct σ) (R : RC ad ct σ V) (W : WFv V) (k s n : Int32) {Q : Int32 → St → Prop} (hQ : ∀ σ', Fr ct SC σ σ' → RC ad ct σ' (layV k s n V).2 → Q (layV k s n V).1 σ') : wX11_lay 10 100 (ad 12 0 0) k s n σ Q := by
  unfold layV at hQ
  refine ⟨by decide, by decide, k12 h, C_isS k (fun c => ⟨fun z => absurd rfl z, fun _ => ?_⟩) (fun i hi e nb => ⟨fun _ => ?_, fun z => absurd z (by decide)⟩)⟩
  · simp only [if_pos c] at hQ
    exact ⟨by decide, by decide, k12 h, C_ref h R 1 (fun σ' f r => ⟨by decide, by decide, hQ σ' f r⟩)⟩
  · subst e
    simp only [if_neg nb] at hQ
    rw [show ix (nI i) = i from nI_clamp (by omega)] at hQ
    have bad : (s < 0 ∨ ¬ s ≤ 4) → wX11_lay_23 10 100 Q 0 0 (ad 12 0 0) σ := fun c => by
      simp only [if_pos c] at hQ
      exact ⟨by decide, by decide, k12 h, C_ref h R 2 (fun σ' f r => ⟨by decide, by decide, hQ σ' f r⟩)⟩
    refine ⟨fun c => bad (Or.inl c), fun c => ⟨fun d => ?_, fun d => bad (Or.inr d)⟩⟩
    simp only [if_neg (show ¬ (s < 0 ∨ ¬ s ≤ 4) from fun z => z.elim c (fun w => w d))] at hQ
    obtain ⟨m, hm, rfl⟩ := nI_of c
    have hm5 : m < 5 := by have := (nI_leI (b := 4) hm (by decide)).mp d; omega
    rw [show ix (nI m) = m from nI_clamp hm] at hQ
    have n0 : nI m = 0 ↔ m = 0 := nI_eq (b := 0) (by omega) (by decide)
    refine ⟨2, 20, by decide, by decide, k12 h, C_thingOf h R W hm5 n (fun e => ⟨fun _ => ⟨fun z => ?_, fun z => ⟨by decide, by decide, k12 h, ?_⟩⟩, fun a w => (by cases w)⟩) (fun b t σ1 et hm0 q => ⟨fun w => (by cases w), fun a w => ?_⟩)⟩
    · have z := n0.mp z
      subst z
      exact ⟨1, 5, by decide, by decide, k12 h, C_laid h R W hi (t := noT) (Or.inl ⟨rfl, rfl⟩) (by decide) (by decide) (fun σ' f r => ⟨by decide, by decide, hQ σ' f r⟩)⟩
    · have e : thV m n V = none := e.elim id (fun w => absurd (n0.mpr w) z)
      rw [e] at hQ
      exact C_ref h R 1 (fun σ' f r => ⟨by decide, by decide, hQ σ' f r⟩)
    · cases w
      rw [et] at hQ
      have h1 := h.fr q.1 id id id
      have R1 := R.frM h (q.1.mono (fun _ q => q.elim))
      exact ⟨1, 5, by decide, by decide, k12 h1, C_laid h1 R1 W hi q.2.1 (by decide) (by decide) (fun σ' f r => ⟨by decide, by decide, hQ σ' ((q.1.mono (fun _ q => q.elim)).tr1 f) r⟩)⟩
theorem C_lies {V : Vt} (h : Sh ad ct σ) (R : RC ad ct σ V) (k : Int32) {Q : Int32 → St → Prop} (hQ : ∀ σ', Fr ct SC σ σ' → RC ad ct σ' (lieV k V).2 → Q (lieV k V).1 σ') : wX11_lies (ad 12 0 0) k σ Q := by
  unfold lieV at hQ
  refine ⟨k12 h, C_isS k (fun c => ⟨fun z => absurd rfl z, fun _ => ⟨k12 h, ?_⟩⟩) (fun i hi e nb => ⟨fun _ => ⟨k12 h, ?_⟩, fun z => absurd z (by decide)⟩)⟩
  · simp only [if_pos c] at hQ
    exact C_ref h R 1 hQ
  · subst e
    simp only [if_neg nb] at hQ
    rw [show ix (nI i) = i from nI_clamp (by omega)] at hQ
    have h1 := h.frC (frst h 0)
    have R1 := rcst h R 0
    obtain ⟨v1, v2⟩ := C_shl h1 R1 hi
    have hq := hQ _ (frst h 0) R1
    refine ⟨k12 h1, _, p712 h1, k712 h1, v1, fun o eo => ?_⟩
    rw [eo] at v2
    have v2 : isThg ct _ o (V.1.2.2.2 i) := v2
    rcases v2 with ⟨e1, e2⟩ | ⟨x, y, e1, kx, _, es, _⟩
    · refine ⟨fun _ => ?_, fun a w => by rw [e1] at w; cases w⟩
      rw [e2] at hq; exact hq
    · refine ⟨fun w => (by rw [e1] at w; cases w), fun a w => ?_⟩
      rw [e1] at w; cases w
      rw [es]; exact ⟨kx, hq⟩
theorem C_taken {V : Vt} (h : Sh ad ct σ) (R : RC ad ct σ V) (W : WFv V) (k s i : Int32) {Q : Int64 → St → Prop} (hQ : ∀ σ', Fr ct SC σ σ' → RC ad ct σ' (takV k s i V).2 → Q (takV k s i V).1 σ') : wX11_taken (ad 12 0 0) k s i σ Q := by
  unfold takV at hQ
  refine ⟨k12 h, C_isS k (fun c => ⟨fun z => absurd rfl z, fun _ => ⟨k12 h, ?_⟩⟩) (fun m hm e nb => ⟨fun _ => ?_, fun z => absurd z (by decide)⟩)⟩
  · simp only [if_pos c] at hQ
    exact C_ref h R 1 hQ
  · subst e
    simp only [if_neg nb] at hQ
    rw [show ix (nI m) = m from nI_clamp (by omega)] at hQ
    have bad : (s < 1 ∨ ¬ s ≤ 4) → wX11_taken_25 Q (ad 12 0 0) σ := fun c => by
      simp only [if_pos c] at hQ
      exact ⟨k12 h, C_ref h R 2 hQ⟩
    refine ⟨fun c => bad (Or.inl c), fun c => ⟨fun d => ?_, fun d => bad (Or.inr d)⟩⟩
    simp only [if_neg (show ¬ (s < 1 ∨ ¬ s ≤ 4) from fun z => z.elim c (fun w => w d))] at hQ
    have s0 : ¬ s < 0 := fun w => c (i32_lt1.mpr (Int32.le_of_lt w))
    obtain ⟨u, hu, rfl⟩ := nI_of s0
    have hu5 : u ≤ 4 := (nI_leI (b := 4) hu (by decide)).mp d
    have hu1 : 1 ≤ u := by
      have : ¬ u < 1 := fun w => c ((nI_ltI (b := 1) hu (by decide)).mpr w)
      omega
    rw [show ix (nI u) = u from nI_clamp hu] at hQ
    have N : ∀ v : Nat, v < 5 → (nI u = nI v ↔ u = v) := fun v hv => nI_eq (by omega) (by omega)
    obtain ⟨v1, v2⟩ := C_shl h R hm
    refine ⟨k12 h, _, p712 h, k712 h, v1, fun o eo => ?_⟩
    rw [eo] at v2
    have no : (V.1.2.2.2 m).1 ≠ u → wX11_taken_54 Q (ad 12 0 0) σ := fun z => by
      simp only [if_pos z] at hQ
      exact ⟨k12 h, C_ref h R 7 hQ⟩
    rcases v2 with ⟨e1, e2⟩ | ⟨x, y, e1, kx, cx, es, g1, g5, ey, ky, cy, ly, l16, hl⟩
    · exact ⟨fun _ => no (by rw [e2]; show 0 ≠ u; omega), fun a w => by rw [e1] at w; cases w⟩
    · refine ⟨fun w => (by rw [e1] at w; cases w), fun a w => ⟨?_, ?_⟩⟩
      · rw [e1] at w; cases w; exact kx
      · rw [e1] at w; cases w
        rw [es]
        have e3 : nI (V.1.2.2.2 m).1 = nI u ↔ (V.1.2.2.2 m).1 = u := nI_eq (by omega) (by omega)
        refine ⟨fun w => ?_, fun w => no (fun z => w (e3.mpr z))⟩
        have w := e3.mp w
        simp only [if_neg (show ¬ (V.1.2.2.2 m).1 ≠ u from fun z => z w)] at hQ
        have g77 : ∀ z : Int32, (∀ i0 : Nat, z = nI i0 → i0 < (V.1.2.2.2 m).2.length → Q ((V.1.2.2.2 m).2.getD i0 0) (uFi σ 714 (ad 12 0 0) 0)) → ((z < 0 ∨ nI (V.1.2.2.2 m).2.length ≤ z) → wX11_taken_95 Q (ad 12 0 0) σ) → wX11_taken_77 Q (ad 12 0 0) x z σ := fun z gz gb => by
          refine ⟨fun c => gb (Or.inl c), fun c => ⟨kx, y, ey, by rw [ky]; decide, ?_⟩⟩
          rw [ly]
          refine ⟨fun d => ⟨k12 h, ky, ?_, ?_⟩, fun d => gb (Or.inr (Int32.not_lt.mp d))⟩
          · obtain ⟨j, hj, rfl⟩ := nI_of c
            have := (nI_ltI hj (by omega)).mp (show nI j < nI (V.1.2.2.2 m).2.length from d)
            exact vp_in_nI this (by omega)
          · obtain ⟨j, hj, rfl⟩ := nI_of c
            have hjl := (nI_ltI hj (by omega)).mp (show nI j < nI (V.1.2.2.2 m).2.length from d)
            have := gz j rfl hjl
            rw [show ix (nI j) = j from nI_clamp hj, hl j _ (List.getElem?_eq_getElem hjl)]
            rw [List.getD_eq_getElem?_getD, List.getElem?_eq_getElem hjl] at this
            exact this
        have g72 : 3 ≤ u → wX11_taken_72 Q (ad 12 0 0) i x σ := fun z => by
          simp only [if_neg (show ¬ nI u < 3 from nI_nlt (b := 3) z (by omega))] at hQ
          refine g77 i (fun i0 e0 h0 => ?_) (fun b => ?_)
          · subst e0
            simp only [if_neg (show ¬ (nI i0 < 0 ∨ nI (V.1.2.2.2 m).2.length ≤ nI i0) from fun q => q.elim (nI_pos (by omega)) (nI_ge h0 (by omega)))] at hQ
            rw [show ix (nI i0) = i0 from nI_clamp (by omega)] at hQ
            exact hQ _ (frst h 0) (rcst h R 0)
          · simp only [if_pos b] at hQ
            exact ⟨k12 h, C_ref h R 1 hQ⟩
        refine ⟨fun z => g72 (by have := (N 3 (by decide)).mp z; omega), fun z3 => ⟨fun z4 => ?_, fun z => g72 (by have := (N 4 (by decide)).mp z; omega)⟩⟩
        have u3 : u < 3 := by
          have a3 : u ≠ 3 := fun w => z3 ((N 3 (by decide)).mpr w)
          have a4 : u ≠ 4 := fun w => z4 ((N 4 (by decide)).mpr w)
          omega
        simp only [if_pos (show nI u < 3 from nI_lt (b := 3) u3 (by decide))] at hQ
        refine g77 0 (fun i0 e0 h0 => ?_) (fun b => ?_)
        · have e0 : i0 = 0 := ((nI_eq (a := 0) (by decide) (by omega)).mp e0).symm
          subst e0
          exact hQ _ (frst h 0) (rcst h R 0)
        · obtain ⟨v, ev⟩ := (W.1.wf.2.2.2.2.2.2 m hm).2.2.1 (by omega)
          rw [ev] at b
          exact absurd b (show ¬ ((0 : Int32) < 0 ∨ nI 1 ≤ 0) by decide)
end K10
