/-! the reference: tables and facts -/
section M2
variable {ad : Ad} {ct : Ct} {σ : St}
theorem M_isTable {V : Vt} (h : Sh ad ct σ) (R : RM ad σ V) (hl : V.1.1.length ≤ 10) (v : Int32) {Q : Int32 → St → Prop} (h0 : (v < 0 ∨ nI V.1.1.length ≤ v) → Q 0 σ) (h1 : ∀ i, i < V.1.1.length → v = nI i → ¬ (v < 0 ∨ nI V.1.1.length ≤ v) → Q 1 σ) : wX16_isTable (ad 17 0 0) v σ Q := by
  unfold wX16_isTable wX16_isTable_0
  rw [R.1.1]
  refine ⟨fun c => h0 (Or.inl c), fun c => ⟨k17 h, fun d => h0 (Or.inr d), fun d => ?_⟩⟩
  rcases pk_ix v (n := V.1.1.length) (by omega) with e | e | ⟨j, hj, e⟩
  · exact absurd e c
  · exact absurd e d
  · exact h1 j hj e (fun q => q.elim c d)
theorem M_isFact {V : Vt} (h : Sh ad ct σ) (R : RM ad σ V) (hl : V.1.2.1.length ≤ 60) (v : Int32) {Q : Int32 → St → Prop} (h0 : fOf V v = none → Q 0 σ) (h1 : ∀ i x, i < V.1.2.1.length → v = nI i → V.1.2.1[i]? = some x → fOf V v = some x → Q 1 σ) : wX16_isFact (ad 17 0 0) v σ Q := by
  unfold wX16_isFact wX16_isFact_0
  rw [R.2.1.1]
  refine ⟨fun c => h0 (if_pos c), fun c => ⟨k17 h, fun d => h0 ?_, fun d => ?_⟩⟩
  · unfold fOf
    rw [if_neg c]
    obtain ⟨j, hj, rfl⟩ := nI_of c
    rw [show ix (nI j) = j from nI_clamp hj]
    exact List.getElem?_eq_none ((nI_leI (by omega) hj).mp d)
  · rcases pk_ix v (n := V.1.2.1.length) (by omega) with e | e | ⟨j, hj, e⟩
    · exact absurd e c
    · exact absurd e d
    · refine h1 j (V.1.2.1[j]) hj e (List.getElem?_eq_getElem hj) ?_
      unfold fOf
      rw [if_neg c, e, show ix (nI j) = j from nI_clamp (by omega)]
      exact List.getElem?_eq_getElem hj
theorem smk (c i : Nat) (h : (13 ≤ c ∧ c ≤ 17 ∨ 768 ≤ c) ∧ c ≠ 1049 ∧ c ≠ 1052) : SM (c, i) := h
theorem sck (c i : Nat) (h : c ≠ 0 ∧ c ≠ 258 ∧ c < 768 ∧ ¬ (13 ≤ c ∧ c ≤ 17)) : SC (c, i) := h
def SA (p : Nat) : Nat × Nat → Prop := fun c => c = (17, 0) ∨ c = (1026, 0) ∨ c = (13, p)
theorem SA_sm {p : Nat} : ∀ c, SA p c → SM c := fun c q => by rcases q with rfl | rfl | rfl <;> exact smk _ _ (by decide)
theorem SAn {p c i : Nat} (h1 : c ≠ 17) (h2 : c ≠ 1026) (h3 : c ≠ 13) : ¬ SA p (c, i) := by
  rintro (q | q | q)
  · exact h1 (congrArg Prod.fst q)
  · exact h2 (congrArg Prod.fst q)
  · exact h3 (congrArg Prod.fst q)
def RMx (ad : Ad) (σ : St) (p : Nat) (V : Vt) : Prop := Mtb ad σ V.1.1 ∧ Mfs ad σ V.1.2.1 ∧ Mqs ad σ V.1.2.2.1 ∧ Msh ad σ V.1.2.2.2 ∧ MacP ad σ p V.2.1 ∧ Mla ad σ V.2.2.1.1 V.2.2.1.2.1 V.2.2.1.2.2 ∧ zFi σ 1025 (ad 17 0 0) = V.2.2.2
theorem RMx.fin {p : Nat} {V : Vt} {A : Av} (R : RMx ad σ p V) (hA : MAct ad σ p A) : RM ad σ (V.1, psh A V.2.1, V.2.2) := ⟨R.1, R.2.1, R.2.2.1, R.2.2.2.1, R.2.2.2.2.1.fin hA, R.2.2.2.2.2.1, R.2.2.2.2.2.2⟩
theorem M_actR {V : Vt} (h : Sh ad ct σ) (hl : V.2.1.length ≤ 100) (R : RM ad σ V) {v1 v2 v3 : Int32} {Q : Nat → St → Prop}
    (hQ : ∀ p σ', p < 100 → Fr ct (SA p) σ σ' → Sh ad ct σ' → zFi σ' 768 (ad 13 p 0) = v1 → zFi σ' 769 (ad 13 p 0) = v2 → zFi σ' 770 (ad 13 p 0) = v3 → RMx ad σ' p V → Q (ad 13 p 0) σ') : wX16_act (ad 17 0 0) v1 v2 v3 σ Q := by
  obtain ⟨r1, r2, r3, r4, r5, r6, r7⟩ := R
  refine M_act h hl r5 (fun p σ' hp f e1 e2 e3 eg mp => ?_)
  have f : Fr ct (SA p) σ σ' := f
  refine hQ p σ' hp f (h.fr f (SAn (by decide) (by decide) (by decide)) (SAn (by decide) (by decide) (by decide)) (SAn (by decide) (by decide) (by decide))) e1 e2 e3 ⟨r1.cg h f (SAn (by decide) (by decide) (by decide)) (eg _ (by decide)), r2.cg h f (SAn (by decide) (by decide) (by decide)) (SAn (by decide) (by decide) (by decide)) (SAn (by decide) (by decide) (by decide)) (SAn (by decide) (by decide) (by decide)) (SAn (by decide) (by decide) (by decide)) (SAn (by decide) (by decide) (by decide)) (SAn (by decide) (by decide) (by decide)) (eg _ (by decide)), r3.cg h f (fun g g1 g2 => SAn (by omega) (by omega) (by omega)) (eg _ (by decide)), r4.cg h f (fun k _ => ⟨SAn (by decide) (by decide) (by decide), SAn (by decide) (by decide) (by decide), SAn (by decide) (by decide) (by decide)⟩), mp, r6.cg h f (SAn (by decide) (by decide) (by decide)) (fun g g1 g2 => SAn (by omega) (by omega) (by omega)) (eg _ (by decide)), (eg _ (by decide)).trans r7⟩
/-- a change of the reference's own numbers -/
theorem RMx.rt {p : Nat} {V : Vt} (h : Sh ad ct σ) (R : RMx ad σ p V) {g : Nat} {v : Int32} (hg : g ≠ 1025 ∧ g ≠ 1027 ∧ g ≠ 1057) : (g ≠ 1028 → Mtb ad (uFi σ g (ad 17 0 0) v) V.1.1) ∧ (g ≠ 1029 → Mfs ad (uFi σ g (ad 17 0 0) v) V.1.2.1) ∧ (g ≠ 1030 → Mqs ad (uFi σ g (ad 17 0 0) v) V.1.2.2.1) ∧ Msh ad (uFi σ g (ad 17 0 0) v) V.1.2.2.2 ∧ MacP ad (uFi σ g (ad 17 0 0) v) p V.2.1 ∧ Mla ad (uFi σ g (ad 17 0 0) v) V.2.2.1.1 V.2.2.1.2.1 V.2.2.1.2.2 ∧ zFi (uFi σ g (ad 17 0 0) v) 1025 (ad 17 0 0) = V.2.2.2 := by
  obtain ⟨r1, r2, r3, r4, r5, r6, r7⟩ := R
  have f : Fr ct (fun c => c = (17, 0)) σ (uFi σ g (ad 17 0 0) v) := Fr.rf.uFi _ _ _ (Or.inl (c17 h))
  have e : ∀ g2, g2 ≠ g → zFi (uFi σ g (ad 17 0 0) v) g2 (ad 17 0 0) = zFi σ g2 (ad 17 0 0) := fun g2 hg2 => if_neg (fun c => hg2 c.1)
  exact ⟨fun n => r1.cg h f (by decide) (e _ n.symm), fun n => r2.cg h f (by decide) (by decide) (by decide) (by decide) (by decide) (by decide) (by decide) (e _ n.symm), fun n => r3.cg h f (fun g g1 g2 q => by cases q; omega) (e _ n.symm), r4.cg h f (fun k _ => ⟨by simp, by simp, by simp⟩), r5.cg h f (by decide) (fun i _ _ => ⟨by simp, by simp, by simp, by simp⟩) (e _ hg.2.1.symm), r6.cg h f (by decide) (fun g g1 g2 q => by cases q) (e _ hg.2.2.symm), (e _ hg.1.symm).trans r7⟩
theorem MAct.rt (h : Sh ad ct σ) {p : Nat} (hp : p < 100) {A : Av} (hA : MAct ad σ p A) (g : Nat) (v : Int32) : MAct ad (uFi σ g (ad 17 0 0) v) p A := by
  have f : Fr ct (fun c => c = (17, 0)) σ (uFi σ g (ad 17 0 0) v) := Fr.rf.uFi _ _ _ (Or.inl (c17 h))
  exact hA.cg h f hp (by simp) (by simp) (by simp) (by simp)
theorem M_table {V : Vt} (h0 : Sh ad ct σ) (R0 : RM ad σ V) (W : WFv V) (v : Int32) {Q : Int32 → St → Prop} (hQ0 : ∀ σ', Fr ct SM σ σ' → RM ad σ' (tabV v V).2 → Q (tabV v V).1 σ') : wX16_table (ad 17 0 0) v σ Q := by
  have wf := W.1.wf
  have hl := wf.1
  have ft := fr17 h0 1024 0
  have R := rmth h0 W.2.1 R0 0
  have h := h0.frM ft
  unfold wX16_table wX16_table_0
  generalize uFi σ 1024 (ad 17 0 0) 0 = τ at R h ft
  have hQ : ∀ σ', Fr ct SM τ σ' → RM ad σ' (tabV v V).2 → Q (tabV v V).1 σ' := fun σ' f r => hQ0 σ' (ft.tr1 f) r
  have href : (v < 1 ∨ ¬ v ≤ 4) → wX16_table_15 Q (ad 17 0 0) τ := fun c => by
    have e : tabV v V = (-1, stV V 2) := if_pos c
    rw [e] at hQ
    exact ⟨k17 h, M_ref h W.2.1 R 2 hQ⟩
  refine ⟨k17 h0, fun c => href (Or.inl c), fun c => ⟨fun d => ?_, fun d => href (Or.inr d)⟩⟩
  have n1 : ¬ (v < 1 ∨ ¬ v ≤ 4) := fun q => q.elim c (fun z => z d)
  rw [R.1.1]
  have en : ix (nI V.1.1.length) = V.1.1.length := nI_clamp (by omega)
  refine ⟨fun q => ?_, fun q => ?_⟩
  · have q : V.1.1.length ≠ 10 := fun e => q (by rw [e]; rfl)
    refine ⟨_, p1031 h0, k1031 h0, by rw [l1031 h0]; exact vp_in_nI (by omega) (by decide), ?_⟩
    rw [en]
    obtain ⟨r1, r2, r3, r4, r5, r6, r7⟩ := R
    have f1 : Fr ct (fun p => p = (1031, 0)) τ (uAi τ (ad 1031 0 0) V.1.1.length v) := Fr.rf.uAi _ _ _ (Or.inl (c1031 h))
    have h1 : Sh ad ct (uAi τ (ad 1031 0 0) V.1.1.length v) := h.fr f1 (by decide) (by decide) (by decide)
    have e17 := f1.fi (k17 h) (by decide) (c17 h) (by decide)
    have R1 : RM ad (uAi τ (ad 1031 0 0) V.1.1.length v) V := by
      refine ⟨⟨(e17 _).trans r1.1, fun i x hx => ?_⟩, r2.cg h f1 (by decide) (by decide) (by decide) (by decide) (by decide) (by decide) (by decide) (e17 _), r3.cg h f1 (fun g g1 g2 q => by cases q; omega) (e17 _), r4.cg h f1 (fun k _ => ⟨by simp, by simp, by simp⟩), r5.cg h f1 (by decide) (fun i _ => ⟨by simp, by simp, by simp, by simp⟩) (e17 _) W.2.1, r6.cg h f1 (by decide) (fun g g1 g2 q => by cases q) (e17 _), (e17 _).trans r7⟩
      have := (List.getElem?_eq_some_iff.mp hx).1
      simp only [yK_uFi, yL_uFi, yFj_uFi, yFr_uFi, yAi_uFi, yAj_uFi, yAd_uFi, yAr_uFi, yFi_uFi, yK_uFj, yL_uFj, yFi_uFj, yFr_uFj, yAi_uFj, yAj_uFj, yAd_uFj, yAr_uFj, yFj_uFj, yK_uFr, yL_uFr, yFi_uFr, yFj_uFr, yAi_uFr, yAj_uFr, yAd_uFr, yAr_uFr, yFr_uFr, yK_uAi, yL_uAi, yFi_uAi, yFj_uAi, yFr_uAi, yAj_uAi, yAd_uAi, yAr_uAi, yAi_uAi, yK_uAj, yL_uAj, yFi_uAj, yFj_uAj, yFr_uAj, yAi_uAj, yAd_uAj, yAr_uAj, yAj_uAj, yK_uAd, yL_uAd, yFi_uAd, yFj_uAd, yFr_uAd, yAi_uAd, yAj_uAd, yAr_uAd, yAd_uAd, yK_uAr, yL_uAr, yFi_uAr, yFj_uAr, yFr_uAr, yAi_uAr, yAj_uAr, yAd_uAr, yAr_uAr, yK_uCi, yL_uCi, yFi_uCi, yFj_uCi, yFr_uCi, yAj_uCi, yAd_uCi, yAr_uCi, yK_uCj, yL_uCj, yFi_uCj, yFj_uCj, yFr_uCj, yAi_uCj, yAd_uCj, yAr_uCj, yK_uCx, yL_uCx, yFi_uCx, yFj_uCx, yFr_uCx, yAi_uCx, yAd_uCx, yAr_uCx, yK_nO, yL_nO, yFi_nO, yFj_nO, yFr_nO, yAi_nO, yAj_nO, yAd_nO, yAr_nO, yK_nA, yL_nA, yFi_nA, yFj_nA, yFr_nA, yAi_nA, yAj_nA, yAd_nA, yAr_nA, yK_nC, yL_nC, yFi_nC, yFj_nC, yFr_nC, yAi_nC, yAj_nC, yAd_nC, yAr_nC, yu2, yAi_uCi', yAj_uCj', yAj_uCx', Option.some.injEq, exists_eq_left', true_and, and_true, not_false_eq_true, forall_const, false_and, and_false, reduceIte, Nat.reduceEqDiff, ne_eq]
      rw [if_neg (by omega)]
      exact r1.2 i x hx
    refine M_actR h1 W.2.1 R1 (fun p σ2 hp f2 h2 e1 e2 e3 R2 => ⟨k17 h2, ?_⟩)
    rw [R2.1.1, nI_1, show zFi (uFi σ2 1028 (ad 17 0 0) (nI (V.1.1.length + 1))) 1028 (ad 17 0 0) - 1 = nI V.1.1.length by simp only [yK_uFi, yL_uFi, yFj_uFi, yFr_uFi, yAi_uFi, yAj_uFi, yAd_uFi, yAr_uFi, yFi_uFi, yK_uFj, yL_uFj, yFi_uFj, yFr_uFj, yAi_uFj, yAj_uFj, yAd_uFj, yAr_uFj, yFj_uFj, yK_uFr, yL_uFr, yFi_uFr, yFj_uFr, yAi_uFr, yAj_uFr, yAd_uFr, yAr_uFr, yFr_uFr, yK_uAi, yL_uAi, yFi_uAi, yFj_uAi, yFr_uAi, yAj_uAi, yAd_uAi, yAr_uAi, yAi_uAi, yK_uAj, yL_uAj, yFi_uAj, yFj_uAj, yFr_uAj, yAi_uAj, yAd_uAj, yAr_uAj, yAj_uAj, yK_uAd, yL_uAd, yFi_uAd, yFj_uAd, yFr_uAd, yAi_uAd, yAj_uAd, yAr_uAd, yAd_uAd, yK_uAr, yL_uAr, yFi_uAr, yFj_uAr, yFr_uAr, yAi_uAr, yAj_uAr, yAd_uAr, yAr_uAr, yK_uCi, yL_uCi, yFi_uCi, yFj_uCi, yFr_uCi, yAj_uCi, yAd_uCi, yAr_uCi, yK_uCj, yL_uCj, yFi_uCj, yFj_uCj, yFr_uCj, yAi_uCj, yAd_uCj, yAr_uCj, yK_uCx, yL_uCx, yFi_uCx, yFj_uCx, yFr_uCx, yAi_uCx, yAd_uCx, yAr_uCx, yK_nO, yL_nO, yFi_nO, yFj_nO, yFr_nO, yAi_nO, yAj_nO, yAd_nO, yAr_nO, yK_nA, yL_nA, yFi_nA, yFj_nA, yFr_nA, yAi_nA, yAj_nA, yAd_nA, yAr_nA, yK_nC, yL_nC, yFi_nC, yFj_nC, yFr_nC, yAi_nC, yAj_nC, yAd_nC, yAr_nC, yu2, yAi_uCi', yAj_uCj', yAj_uCx', Option.some.injEq, exists_eq_left', true_and, and_true, not_false_eq_true, forall_const, false_and, and_false, reduceIte, Nat.reduceEqDiff, ne_eq]; exact nI_pred _]
    obtain ⟨s1, s2, s3, s4, s5, s6, s7⟩ := R2.rt h2 (g := 1028) (v := nI (V.1.1.length + 1)) (by decide)
    have hA : MAct ad σ2 p (0, 0, 0, 0, noT) := ⟨by rw [e1]; rfl, by decide, by simp, by simp, by simp, by simp⟩
    have f3 : Fr ct SM σ2 (uFi σ2 1028 (ad 17 0 0) (nI (V.1.1.length + 1))) := fr17 h2 _ _
    have h3 := h2.frM f3
    have RR : RM ad (uFi σ2 1028 (ad 17 0 0) (nI (V.1.1.length + 1))) ((V.1.1 ++ [v], V.1.2), psh (0, 0, 0, 0, noT) V.2.1, V.2.2) := by
      refine ⟨⟨?_, fun i x hx => ?_⟩, s2 (by decide), s3 (by decide), s4, s5.fin (hA.rt h2 hp _ _), s6, s7⟩
      · simp only [yK_uFi, yL_uFi, yFj_uFi, yFr_uFi, yAi_uFi, yAj_uFi, yAd_uFi, yAr_uFi, yFi_uFi, yK_uFj, yL_uFj, yFi_uFj, yFr_uFj, yAi_uFj, yAj_uFj, yAd_uFj, yAr_uFj, yFj_uFj, yK_uFr, yL_uFr, yFi_uFr, yFj_uFr, yAi_uFr, yAj_uFr, yAd_uFr, yAr_uFr, yFr_uFr, yK_uAi, yL_uAi, yFi_uAi, yFj_uAi, yFr_uAi, yAj_uAi, yAd_uAi, yAr_uAi, yAi_uAi, yK_uAj, yL_uAj, yFi_uAj, yFj_uAj, yFr_uAj, yAi_uAj, yAd_uAj, yAr_uAj, yAj_uAj, yK_uAd, yL_uAd, yFi_uAd, yFj_uAd, yFr_uAd, yAi_uAd, yAj_uAd, yAr_uAd, yAd_uAd, yK_uAr, yL_uAr, yFi_uAr, yFj_uAr, yFr_uAr, yAi_uAr, yAj_uAr, yAd_uAr, yAr_uAr, yK_uCi, yL_uCi, yFi_uCi, yFj_uCi, yFr_uCi, yAj_uCi, yAd_uCi, yAr_uCi, yK_uCj, yL_uCj, yFi_uCj, yFj_uCj, yFr_uCj, yAi_uCj, yAd_uCj, yAr_uCj, yK_uCx, yL_uCx, yFi_uCx, yFj_uCx, yFr_uCx, yAi_uCx, yAd_uCx, yAr_uCx, yK_nO, yL_nO, yFi_nO, yFj_nO, yFr_nO, yAi_nO, yAj_nO, yAd_nO, yAr_nO, yK_nA, yL_nA, yFi_nA, yFj_nA, yFr_nA, yAi_nA, yAj_nA, yAd_nA, yAr_nA, yK_nC, yL_nC, yFi_nC, yFj_nC, yFr_nC, yAi_nC, yAj_nC, yAd_nC, yAr_nC, yu2, yAi_uCi', yAj_uCj', yAj_uCx', Option.some.injEq, exists_eq_left', true_and, and_true, not_false_eq_true, forall_const, false_and, and_false, reduceIte, Nat.reduceEqDiff, ne_eq, List.length_append, List.length_singleton]
      · simp only [yK_uFi, yL_uFi, yFj_uFi, yFr_uFi, yAi_uFi, yAj_uFi, yAd_uFi, yAr_uFi, yFi_uFi, yK_uFj, yL_uFj, yFi_uFj, yFr_uFj, yAi_uFj, yAj_uFj, yAd_uFj, yAr_uFj, yFj_uFj, yK_uFr, yL_uFr, yFi_uFr, yFj_uFr, yAi_uFr, yAj_uFr, yAd_uFr, yAr_uFr, yFr_uFr, yK_uAi, yL_uAi, yFi_uAi, yFj_uAi, yFr_uAi, yAj_uAi, yAd_uAi, yAr_uAi, yAi_uAi, yK_uAj, yL_uAj, yFi_uAj, yFj_uAj, yFr_uAj, yAi_uAj, yAd_uAj, yAr_uAj, yAj_uAj, yK_uAd, yL_uAd, yFi_uAd, yFj_uAd, yFr_uAd, yAi_uAd, yAj_uAd, yAr_uAd, yAd_uAd, yK_uAr, yL_uAr, yFi_uAr, yFj_uAr, yFr_uAr, yAi_uAr, yAj_uAr, yAd_uAr, yAr_uAr, yK_uCi, yL_uCi, yFi_uCi, yFj_uCi, yFr_uCi, yAj_uCi, yAd_uCi, yAr_uCi, yK_uCj, yL_uCj, yFi_uCj, yFj_uCj, yFr_uCj, yAi_uCj, yAd_uCj, yAr_uCj, yK_uCx, yL_uCx, yFi_uCx, yFj_uCx, yFr_uCx, yAi_uCx, yAd_uCx, yAr_uCx, yK_nO, yL_nO, yFi_nO, yFj_nO, yFr_nO, yAi_nO, yAj_nO, yAd_nO, yAr_nO, yK_nA, yL_nA, yFi_nA, yFj_nA, yFr_nA, yAi_nA, yAj_nA, yAd_nA, yAr_nA, yK_nC, yL_nC, yFi_nC, yFj_nC, yFr_nC, yAi_nC, yAj_nC, yAd_nC, yAr_nC, yu2, yAi_uCi', yAj_uCj', yAj_uCx']
        rcases app_get hx with ⟨rfl, rfl⟩ | ⟨hi, e⟩
        · rw [f2.ai (k1031 h1) (by decide) (c1031 h1) (SAn (by decide) (by decide) (by decide))]; simp only [yK_uFi, yL_uFi, yFj_uFi, yFr_uFi, yAi_uFi, yAj_uFi, yAd_uFi, yAr_uFi, yFi_uFi, yK_uFj, yL_uFj, yFi_uFj, yFr_uFj, yAi_uFj, yAj_uFj, yAd_uFj, yAr_uFj, yFj_uFj, yK_uFr, yL_uFr, yFi_uFr, yFj_uFr, yAi_uFr, yAj_uFr, yAd_uFr, yAr_uFr, yFr_uFr, yK_uAi, yL_uAi, yFi_uAi, yFj_uAi, yFr_uAi, yAj_uAi, yAd_uAi, yAr_uAi, yAi_uAi, yK_uAj, yL_uAj, yFi_uAj, yFj_uAj, yFr_uAj, yAi_uAj, yAd_uAj, yAr_uAj, yAj_uAj, yK_uAd, yL_uAd, yFi_uAd, yFj_uAd, yFr_uAd, yAi_uAd, yAj_uAd, yAr_uAd, yAd_uAd, yK_uAr, yL_uAr, yFi_uAr, yFj_uAr, yFr_uAr, yAi_uAr, yAj_uAr, yAd_uAr, yAr_uAr, yK_uCi, yL_uCi, yFi_uCi, yFj_uCi, yFr_uCi, yAj_uCi, yAd_uCi, yAr_uCi, yK_uCj, yL_uCj, yFi_uCj, yFj_uCj, yFr_uCj, yAi_uCj, yAd_uCj, yAr_uCj, yK_uCx, yL_uCx, yFi_uCx, yFj_uCx, yFr_uCx, yAi_uCx, yAd_uCx, yAr_uCx, yK_nO, yL_nO, yFi_nO, yFj_nO, yFr_nO, yAi_nO, yAj_nO, yAd_nO, yAr_nO, yK_nA, yL_nA, yFi_nA, yFj_nA, yFr_nA, yAi_nA, yAj_nA, yAd_nA, yAr_nA, yK_nC, yL_nC, yFi_nC, yFj_nC, yFr_nC, yAi_nC, yAj_nC, yAd_nC, yAr_nC, yu2, yAi_uCi', yAj_uCj', yAj_uCx', Option.some.injEq, exists_eq_left', true_and, and_true, not_false_eq_true, forall_const, false_and, and_false, reduceIte, Nat.reduceEqDiff, ne_eq]
        · exact R2.1.2 i x e
    refine M_done h3 psh_len RR _ (fun σ4 f4 R4 => ?_)
    have e : tabV v V = (nI V.1.1.length, acV (V.1.1 ++ [v], V.1.2) (0, 0, 0, 0, noT) V) := (if_neg n1).trans (if_neg (by omega))
    rw [e] at hQ
    exact hQ σ4 (((f1.mono (fun c q => by rw [q]; exact smk _ _ (by decide))).tr1 (f2.mono SA_sm)).tr1 (f3.tr1 f4)) R4
  · have q : V.1.1.length = 10 := (nI_eq (b := 10) (by omega) (by decide)).mp q
    have e : tabV v V = (-1, stV V 4) := (if_neg n1).trans (if_pos (by omega))
    rw [e] at hQ
    exact M_ref h W.2.1 R 4 hQ
end M2
