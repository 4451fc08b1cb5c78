/-! the reference: refusals, acts -/
section M1
variable {ad : Ad} {ct : Ct} {σ : St}
theorem rm17 (h : Sh ad ct σ) {V : Vt} (hl : V.2.1.length ≤ 100) (R : RM ad σ V) {ρ : St} (f : Fr ct (fun p => p = (17, 0)) σ ρ) (e : ∀ g, g = 1027 ∨ g = 1028 ∨ g = 1029 ∨ g = 1030 ∨ g = 1057 → zFi ρ g (ad 17 0 0) = zFi σ g (ad 17 0 0)) {s : Int32} (es : zFi ρ 1025 (ad 17 0 0) = s) : RM ad ρ (stV V s) := by
  obtain ⟨h1, h2, h3, h4, h5, h6, h7⟩ := R
  exact ⟨h1.cg h f (by decide) (e _ (by decide)), h2.cg h f (by decide) (by decide) (by decide) (by decide) (by decide) (by decide) (by decide) (e _ (by decide)), h3.cg h f (fun g g1 g2 q => by cases q; omega) (e _ (by decide)), h4.cg h f (fun k _ => ⟨by simp, by simp, by simp⟩), h5.cg h f (by decide) (fun i _ => ⟨by simp, by simp, by simp, by simp⟩) (e _ (by decide)) hl, h6.cg h f (by decide) (fun g g1 g2 q => by cases q) (e _ (by decide)), es⟩
theorem rmst (h : Sh ad ct σ) {V : Vt} (hl : V.2.1.length ≤ 100) (R : RM ad σ V) (s : Int32) : RM ad (uFi σ 1025 (ad 17 0 0) s) (stV V s) := by
  refine rm17 h hl R (Fr.rf.uFi _ _ _ (Or.inl (c17 h))) (fun g hg => ?_) ?_
  · rcases hg with rfl | rfl | rfl | rfl | rfl <;> simp only [yK_uFi, yL_uFi, yFj_uFi, yFr_uFi, yAi_uFi, yAj_uFi, yAd_uFi, yAr_uFi, yFi_uFi, yK_uFj, yL_uFj, yFi_uFj, yFr_uFj, yAi_uFj, yAj_uFj, yAd_uFj, yAr_uFj, yFj_uFj, yK_uFr, yL_uFr, yFi_uFr, yFj_uFr, yAi_uFr, yAj_uFr, yAd_uFr, yAr_uFr, yFr_uFr, yK_uAi, yL_uAi, yFi_uAi, yFj_uAi, yFr_uAi, yAj_uAi, yAd_uAi, yAr_uAi, yAi_uAi, yK_uAj, yL_uAj, yFi_uAj, yFj_uAj, yFr_uAj, yAi_uAj, yAd_uAj, yAr_uAj, yAj_uAj, yK_uAd, yL_uAd, yFi_uAd, yFj_uAd, yFr_uAd, yAi_uAd, yAj_uAd, yAr_uAd, yAd_uAd, yK_uAr, yL_uAr, yFi_uAr, yFj_uAr, yFr_uAr, yAi_uAr, yAj_uAr, yAd_uAr, yAr_uAr, yK_uCi, yL_uCi, yFi_uCi, yFj_uCi, yFr_uCi, yAj_uCi, yAd_uCi, yAr_uCi, yK_uCj, yL_uCj, yFi_uCj, yFj_uCj, yFr_uCj, yAi_uCj, yAd_uCj, yAr_uCj, yK_uCx, yL_uCx, yFi_uCx, yFj_uCx, yFr_uCx, yAi_uCx, yAd_uCx, yAr_uCx, yK_nO, yL_nO, yFi_nO, yFj_nO, yFr_nO, yAi_nO, yAj_nO, yAd_nO, yAr_nO, yK_nA, yL_nA, yFi_nA, yFj_nA, yFr_nA, yAi_nA, yAj_nA, yAd_nA, yAr_nA, yK_nC, yL_nC, yFi_nC, yFj_nC, yFr_nC, yAi_nC, yAj_nC, yAd_nC, yAr_nC, yu2, yAi_uCi', yAj_uCj', yAj_uCx', Option.some.injEq, exists_eq_left', true_and, and_true, not_false_eq_true, forall_const, false_and, and_false, reduceIte, Nat.reduceEqDiff, ne_eq]
  · simp only [yK_uFi, yL_uFi, yFj_uFi, yFr_uFi, yAi_uFi, yAj_uFi, yAd_uFi, yAr_uFi, yFi_uFi, yK_uFj, yL_uFj, yFi_uFj, yFr_uFj, yAi_uFj, yAj_uFj, yAd_uFj, yAr_uFj, yFj_uFj, yK_uFr, yL_uFr, yFi_uFr, yFj_uFr, yAi_uFr, yAj_uFr, yAd_uFr, yAr_uFr, yFr_uFr, yK_uAi, yL_uAi, yFi_uAi, yFj_uAi, yFr_uAi, yAj_uAi, yAd_uAi, yAr_uAi, yAi_uAi, yK_uAj, yL_uAj, yFi_uAj, yFj_uAj, yFr_uAj, yAi_uAj, yAd_uAj, yAr_uAj, yAj_uAj, yK_uAd, yL_uAd, yFi_uAd, yFj_uAd, yFr_uAd, yAi_uAd, yAj_uAd, yAr_uAd, yAd_uAd, yK_uAr, yL_uAr, yFi_uAr, yFj_uAr, yFr_uAr, yAi_uAr, yAj_uAr, yAd_uAr, yAr_uAr, yK_uCi, yL_uCi, yFi_uCi, yFj_uCi, yFr_uCi, yAj_uCi, yAd_uCi, yAr_uCi, yK_uCj, yL_uCj, yFi_uCj, yFj_uCj, yFr_uCj, yAi_uCj, yAd_uCj, yAr_uCj, yK_uCx, yL_uCx, yFi_uCx, yFj_uCx, yFr_uCx, yAi_uCx, yAd_uCx, yAr_uCx, yK_nO, yL_nO, yFi_nO, yFj_nO, yFr_nO, yAi_nO, yAj_nO, yAd_nO, yAr_nO, yK_nA, yL_nA, yFi_nA, yFj_nA, yFr_nA, yAi_nA, yAj_nA, yAd_nA, yAr_nA, yK_nC, yL_nC, yFi_nC, yFj_nC, yFr_nC, yAi_nC, yAj_nC, yAd_nC, yAr_nC, yu2, yAi_uCi', yAj_uCj', yAj_uCx', Option.some.injEq, exists_eq_left', true_and, and_true, not_false_eq_true, forall_const, false_and, and_false, reduceIte, Nat.reduceEqDiff, ne_eq]
theorem rmth (h : Sh ad ct σ) {V : Vt} (hl : V.2.1.length ≤ 100) (R : RM ad σ V) (s : Int32) : RM ad (uFi σ 1024 (ad 17 0 0) s) V := by
  refine rm17 (s := V.2.2.2) h hl R (Fr.rf.uFi _ _ _ (Or.inl (c17 h))) (fun g hg => ?_) ?_
  · rcases hg with rfl | rfl | rfl | rfl | rfl <;> simp only [yK_uFi, yL_uFi, yFj_uFi, yFr_uFi, yAi_uFi, yAj_uFi, yAd_uFi, yAr_uFi, yFi_uFi, yK_uFj, yL_uFj, yFi_uFj, yFr_uFj, yAi_uFj, yAj_uFj, yAd_uFj, yAr_uFj, yFj_uFj, yK_uFr, yL_uFr, yFi_uFr, yFj_uFr, yAi_uFr, yAj_uFr, yAd_uFr, yAr_uFr, yFr_uFr, yK_uAi, yL_uAi, yFi_uAi, yFj_uAi, yFr_uAi, yAj_uAi, yAd_uAi, yAr_uAi, yAi_uAi, yK_uAj, yL_uAj, yFi_uAj, yFj_uAj, yFr_uAj, yAi_uAj, yAd_uAj, yAr_uAj, yAj_uAj, yK_uAd, yL_uAd, yFi_uAd, yFj_uAd, yFr_uAd, yAi_uAd, yAj_uAd, yAr_uAd, yAd_uAd, yK_uAr, yL_uAr, yFi_uAr, yFj_uAr, yFr_uAr, yAi_uAr, yAj_uAr, yAd_uAr, yAr_uAr, yK_uCi, yL_uCi, yFi_uCi, yFj_uCi, yFr_uCi, yAj_uCi, yAd_uCi, yAr_uCi, yK_uCj, yL_uCj, yFi_uCj, yFj_uCj, yFr_uCj, yAi_uCj, yAd_uCj, yAr_uCj, yK_uCx, yL_uCx, yFi_uCx, yFj_uCx, yFr_uCx, yAi_uCx, yAd_uCx, yAr_uCx, yK_nO, yL_nO, yFi_nO, yFj_nO, yFr_nO, yAi_nO, yAj_nO, yAd_nO, yAr_nO, yK_nA, yL_nA, yFi_nA, yFj_nA, yFr_nA, yAi_nA, yAj_nA, yAd_nA, yAr_nA, yK_nC, yL_nC, yFi_nC, yFj_nC, yFr_nC, yAi_nC, yAj_nC, yAd_nC, yAr_nC, yu2, yAi_uCi', yAj_uCj', yAj_uCx', Option.some.injEq, exists_eq_left', true_and, and_true, not_false_eq_true, forall_const, false_and, and_false, reduceIte, Nat.reduceEqDiff, ne_eq]
  · simp only [yK_uFi, yL_uFi, yFj_uFi, yFr_uFi, yAi_uFi, yAj_uFi, yAd_uFi, yAr_uFi, yFi_uFi, yK_uFj, yL_uFj, yFi_uFj, yFr_uFj, yAi_uFj, yAj_uFj, yAd_uFj, yAr_uFj, yFj_uFj, yK_uFr, yL_uFr, yFi_uFr, yFj_uFr, yAi_uFr, yAj_uFr, yAd_uFr, yAr_uFr, yFr_uFr, yK_uAi, yL_uAi, yFi_uAi, yFj_uAi, yFr_uAi, yAj_uAi, yAd_uAi, yAr_uAi, yAi_uAi, yK_uAj, yL_uAj, yFi_uAj, yFj_uAj, yFr_uAj, yAi_uAj, yAd_uAj, yAr_uAj, yAj_uAj, yK_uAd, yL_uAd, yFi_uAd, yFj_uAd, yFr_uAd, yAi_uAd, yAj_uAd, yAr_uAd, yAd_uAd, yK_uAr, yL_uAr, yFi_uAr, yFj_uAr, yFr_uAr, yAi_uAr, yAj_uAr, yAd_uAr, yAr_uAr, yK_uCi, yL_uCi, yFi_uCi, yFj_uCi, yFr_uCi, yAj_uCi, yAd_uCi, yAr_uCi, yK_uCj, yL_uCj, yFi_uCj, yFj_uCj, yFr_uCj, yAi_uCj, yAd_uCj, yAr_uCj, yK_uCx, yL_uCx, yFi_uCx, yFj_uCx, yFr_uCx, yAi_uCx, yAd_uCx, yAr_uCx, yK_nO, yL_nO, yFi_nO, yFj_nO, yFr_nO, yAi_nO, yAj_nO, yAd_nO, yAr_nO, yK_nA, yL_nA, yFi_nA, yFj_nA, yFr_nA, yAi_nA, yAj_nA, yAd_nA, yAr_nA, yK_nC, yL_nC, yFi_nC, yFj_nC, yFr_nC, yAi_nC, yAj_nC, yAd_nC, yAr_nC, yu2, yAi_uCi', yAj_uCj', yAj_uCx', Option.some.injEq, exists_eq_left', true_and, and_true, not_false_eq_true, forall_const, false_and, and_false, reduceIte, Nat.reduceEqDiff, ne_eq]; exact R.2.2.2.2.2.2
theorem fr17 (h : Sh ad ct σ) (g : Nat) (s : Int32) : Fr ct SM σ (uFi σ g (ad 17 0 0) s) := Fr.rf.uFi _ _ _ (Or.inl (by rw [c17 h]; decide))
theorem M_ref (h : Sh ad ct σ) {V : Vt} (hl : V.2.1.length ≤ 100) (R : RM ad σ V) (s : Int32) {Q : Int32 → St → Prop} (hQ : ∀ σ', Fr ct SM σ σ' → RM ad σ' (stV V s) → Q (-1) σ') : wX16_refused (ad 17 0 0) s σ Q :=
  ⟨k17 h, hQ _ (fr17 h 1025 s) (rmst h hl R s)⟩
theorem M_done (h : Sh ad ct σ) {V : Vt} (hl : V.2.1.length ≤ 100) (R : RM ad σ V) (v : Int32) {Q : Int32 → St → Prop} (hQ : ∀ σ', Fr ct SM σ σ' → RM ad σ' (stV V 0) → Q v σ') : wX16_done (ad 17 0 0) v σ Q :=
  ⟨k17 h, hQ _ (fr17 h 1025 0) (rmst h hl R 0)⟩
/-- the acts with a new one at the place p that isn't told whole yet -/
def MacP (ad : Ad) (σ : St) (p : Nat) (ac : List Av) : Prop := zFi σ 1027 (ad 17 0 0) = nI (min (ac.length + 1) 100) ∧ ∃ π : Nat → Nat, (∀ i, i < 100 → π i < 100 ∧ zAr σ (ad 1026 0 0) i = some (ad 13 (π i) 0)) ∧ (∀ i j, i < j → j < 100 → π i ≠ π j) ∧ π (min (ac.length + 1) 100 - 1) = p ∧ ∀ i A, ac[i]? = some A → i + 1 < 100 → MAct ad σ (π (min (ac.length + 1) 100 - 1 - (i + 1))) A
theorem MacP.fin {p : Nat} {ac : List Av} {A : Av} (q : MacP ad σ p ac) (hA : MAct ad σ p A) : Mac ad σ (psh A ac) := by
  obtain ⟨h1, π, h2, h3, h4, h5⟩ := q
  refine ⟨by rw [psh_lenE]; exact h1, π, h2, h3, fun i B hB => ?_⟩
  have hi : i < 100 := Nat.lt_of_lt_of_le (List.getElem?_eq_some_iff.mp hB).1 psh_len
  rw [psh_lenE]
  unfold psh at hB
  rw [List.getElem?_take, if_pos hi] at hB
  cases i with
  | zero => cases hB; rw [Nat.sub_zero, h4]; exact hA
  | succ i => exact h5 i B hB hi
theorem MacP.cg (h : Sh ad ct σ) {σ' : St} {S : Nat × Nat → Prop} (f : Fr ct S σ σ') {p : Nat} {ac : List Av} (s1 : ¬ S (1026, 0)) (s2 : ∀ i, i < 100 → i ≠ p → ¬ S (13, i) ∧ ¬ S (16, i) ∧ ¬ S (963, i) ∧ ¬ S (964, i)) (e : zFi σ' 1027 (ad 17 0 0) = zFi σ 1027 (ad 17 0 0)) (q : MacP ad σ p ac) : MacP ad σ' p ac := by
  obtain ⟨h1, π, h2, h3, h4, h5⟩ := q
  refine ⟨e.trans h1, π, fun i hi => ⟨(h2 i hi).1, (f.ar (k1026 h) (by decide) (c1026 h) s1 i).trans (h2 i hi).2⟩, h3, h4, fun i A hA hi => ?_⟩
  have hl : i < ac.length := (List.getElem?_eq_some_iff.mp hA).1
  have hp := (h2 (min (ac.length + 1) 100 - 1 - (i + 1)) (by omega)).1
  have hn : π (min (ac.length + 1) 100 - 1 - (i + 1)) ≠ p := by rw [← h4]; exact h3 _ _ (by omega) (by omega)
  obtain ⟨a1, a2, a3, a4⟩ := s2 _ hp hn
  exact (h5 i A hA hi).cg h f hp a1 a2 a3 a4
theorem s68 (h : Sh ad ct σ) {m : Nat} (hm : m < 100) (e : zFi σ 1027 (ad 17 0 0) = nI m) {π : Nat → Nat} (hπ : ∀ i, i < 100 → π i < 100 ∧ zAr σ (ad 1026 0 0) i = some (ad 13 (π i) 0)) {v1 v2 v3 : Int32} {Q : Nat → St → Prop} (hQ : Q (ad 13 (π m) 0) (uFi (uFi (uFi (uFi σ 1027 (ad 17 0 0) (nI (m + 1))) 768 (ad 13 (π m) 0) v1) 769 (ad 13 (π m) 0) v2) 770 (ad 13 (π m) 0) v3)) : wX16_act_68 Q (ad 17 0 0) v1 v2 v3 σ := by
  unfold wX16_act_68
  rw [e, nI_1, show ix (nI m) = m from nI_clamp (by omega)]
  exact ⟨k17 h, _, p1026 h, k1026 h, by rw [l1026 h]; exact vp_in_nI hm (by decide), _, (hπ m hm).2, k13 h (hπ m hm).1, hQ⟩
theorem l20 (h : Sh ad ct σ) {π : Nat → Nat} (hπ : ∀ i, i < 100 → π i < 100 ∧ zAr σ (ad 1026 0 0) i = some (ad 13 (π i) 0)) {v1 v2 v3 : Int32} {v4 : Nat} (h4 : zK σ v4 = 13) {Q : Nat → St → Prop}
    (hQ : ∀ τ, Fr ct (fun p => p = (1026, 0)) σ τ → (∀ i, zAr τ (ad 1026 0 0) i = if i = 99 then some v4 else if i < 99 then zAr σ (ad 1026 0 0) (i + 1) else zAr σ (ad 1026 0 0) i) → wX16_act_68 Q (ad 17 0 0) v1 v2 v3 (uFi τ 1027 (ad 17 0 0) (zFi σ 1027 (ad 17 0 0) - 1))) :
    ∀ (d k : Nat) (τ : St), k + d = 100 → 1 ≤ k → Fr ct (fun p => p = (1026, 0)) σ τ → (∀ i, zAr τ (ad 1026 0 0) i = if i + 1 < k then zAr σ (ad 1026 0 0) (i + 1) else zAr σ (ad 1026 0 0) i) → lX16_act_20 Q (d + 1) (ad 17 0 0) v1 v2 v3 v4 (nI k) τ := by
  intro d
  induction d with
  | zero =>
    intro k τ hk h1 f ha
    have hs : Sh ad ct τ := h.fr f (by decide) (by decide) (by decide)
    have hk : k = 100 := by omega
    subst hk
    refine ⟨fun _ => ⟨k17 hs, _, p1026 hs, k1026 hs, by rw [l1026 hs]; exact vp_in_nI (n := 99) (by decide) (by decide), f.kk h4 (by decide), ?_⟩, fun c => absurd (nI_le (Nat.le_refl 100) (by decide)) c⟩
    rw [f.fi (k17 h) (by decide) (c17 h) (by decide), show ix 99 = 99 by decide]
    refine hQ _ (f.uAr _ _ _ (Or.inl (c1026 h))) (fun i => ?_)
    simp only [yK_uFi, yL_uFi, yFj_uFi, yFr_uFi, yAi_uFi, yAj_uFi, yAd_uFi, yAr_uFi, yFi_uFi, yK_uFj, yL_uFj, yFi_uFj, yFr_uFj, yAi_uFj, yAj_uFj, yAd_uFj, yAr_uFj, yFj_uFj, yK_uFr, yL_uFr, yFi_uFr, yFj_uFr, yAi_uFr, yAj_uFr, yAd_uFr, yAr_uFr, yFr_uFr, yK_uAi, yL_uAi, yFi_uAi, yFj_uAi, yFr_uAi, yAj_uAi, yAd_uAi, yAr_uAi, yAi_uAi, yK_uAj, yL_uAj, yFi_uAj, yFj_uAj, yFr_uAj, yAi_uAj, yAd_uAj, yAr_uAj, yAj_uAj, yK_uAd, yL_uAd, yFi_uAd, yFj_uAd, yFr_uAd, yAi_uAd, yAj_uAd, yAr_uAd, yAd_uAd, yK_uAr, yL_uAr, yFi_uAr, yFj_uAr, yFr_uAr, yAi_uAr, yAj_uAr, yAd_uAr, yAr_uAr, yK_uCi, yL_uCi, yFi_uCi, yFj_uCi, yFr_uCi, yAj_uCi, yAd_uCi, yAr_uCi, yK_uCj, yL_uCj, yFi_uCj, yFj_uCj, yFr_uCj, yAi_uCj, yAd_uCj, yAr_uCj, yK_uCx, yL_uCx, yFi_uCx, yFj_uCx, yFr_uCx, yAi_uCx, yAd_uCx, yAr_uCx, yK_nO, yL_nO, yFi_nO, yFj_nO, yFr_nO, yAi_nO, yAj_nO, yAd_nO, yAr_nO, yK_nA, yL_nA, yFi_nA, yFj_nA, yFr_nA, yAi_nA, yAj_nA, yAd_nA, yAr_nA, yK_nC, yL_nC, yFi_nC, yFj_nC, yFr_nC, yAi_nC, yAj_nC, yAd_nC, yAr_nC, yu2, yAi_uCi', yAj_uCj', yAj_uCx', Option.some.injEq, exists_eq_left', true_and, and_true, not_false_eq_true, forall_const, false_and, and_false, reduceIte, Nat.reduceEqDiff, ne_eq]
    by_cases c : i = 99
    · rw [if_pos c, if_pos c]
    · rw [if_neg c, if_neg c, ha]
      by_cases c2 : i < 99
      · rw [if_pos c2, if_pos (by omega)]
      · rw [if_neg c2, if_neg (by omega)]
  | succ d ih =>
    intro k τ hk h1 f ha
    have hs : Sh ad ct τ := h.fr f (by decide) (by decide) (by decide)
    refine pk_le 100 k (fun c => absurd c (by omega)) (fun c => ?_)
    have e1 : nI k - 1 = nI (k - 1) := pk_sub (b := 1) h1
    rw [e1, nI_1, show ix (nI k) = k from nI_clamp (by omega), show ix (nI (k - 1)) = k - 1 from nI_clamp (by omega)]
    refine ⟨k17 hs, _, p1026 hs, k1026 hs, by rw [l1026 hs]; exact vp_in_nI (by omega) (by decide), ad 13 (π k) 0, ?_, by rw [l1026 hs]; exact vp_in_nI (by omega) (by decide), k13 hs (hπ k (by omega)).1, ?_⟩
    · rw [ha, if_neg (by omega)]; exact (hπ k (by omega)).2
    · refine ih (k + 1) _ (by omega) (by omega) (f.uAr _ _ _ (Or.inl (c1026 h))) (fun i => ?_)
      simp only [yK_uFi, yL_uFi, yFj_uFi, yFr_uFi, yAi_uFi, yAj_uFi, yAd_uFi, yAr_uFi, yFi_uFi, yK_uFj, yL_uFj, yFi_uFj, yFr_uFj, yAi_uFj, yAj_uFj, yAd_uFj, yAr_uFj, yFj_uFj, yK_uFr, yL_uFr, yFi_uFr, yFj_uFr, yAi_uFr, yAj_uFr, yAd_uFr, yAr_uFr, yFr_uFr, yK_uAi, yL_uAi, yFi_uAi, yFj_uAi, yFr_uAi, yAj_uAi, yAd_uAi, yAr_uAi, yAi_uAi, yK_uAj, yL_uAj, yFi_uAj, yFj_uAj, yFr_uAj, yAi_uAj, yAd_uAj, yAr_uAj, yAj_uAj, yK_uAd, yL_uAd, yFi_uAd, yFj_uAd, yFr_uAd, yAi_uAd, yAj_uAd, yAr_uAd, yAd_uAd, yK_uAr, yL_uAr, yFi_uAr, yFj_uAr, yFr_uAr, yAi_uAr, yAj_uAr, yAd_uAr, yAr_uAr, yK_uCi, yL_uCi, yFi_uCi, yFj_uCi, yFr_uCi, yAj_uCi, yAd_uCi, yAr_uCi, yK_uCj, yL_uCj, yFi_uCj, yFj_uCj, yFr_uCj, yAi_uCj, yAd_uCj, yAr_uCj, yK_uCx, yL_uCx, yFi_uCx, yFj_uCx, yFr_uCx, yAi_uCx, yAd_uCx, yAr_uCx, yK_nO, yL_nO, yFi_nO, yFj_nO, yFr_nO, yAi_nO, yAj_nO, yAd_nO, yAr_nO, yK_nA, yL_nA, yFi_nA, yFj_nA, yFr_nA, yAi_nA, yAj_nA, yAd_nA, yAr_nA, yK_nC, yL_nC, yFi_nC, yFj_nC, yFr_nC, yAi_nC, yAj_nC, yAd_nC, yAr_nC, yu2, yAi_uCi', yAj_uCj', yAj_uCx', Option.some.injEq, exists_eq_left', true_and, and_true, not_false_eq_true, forall_const, false_and, and_false, reduceIte, Nat.reduceEqDiff, ne_eq]
      by_cases c : i = k - 1
      · rw [if_pos c, if_pos (by omega), c, show k - 1 + 1 = k by omega]; exact ((hπ k (by omega)).2).symm
      · rw [if_neg c, ha]
        by_cases c2 : i + 1 < k
        · rw [if_pos c2, if_pos (by omega)]
        · rw [if_neg c2, if_neg (by omega)]
theorem M_act (h : Sh ad ct σ) {ac : List Av} (hl : ac.length ≤ 100) (q : Mac ad σ ac) {v1 v2 v3 : Int32} {Q : Nat → St → Prop}
    (hQ : ∀ p σ', p < 100 → Fr ct (fun c => c = (17, 0) ∨ c = (1026, 0) ∨ c = (13, p)) σ σ' → zFi σ' 768 (ad 13 p 0) = v1 → zFi σ' 769 (ad 13 p 0) = v2 → zFi σ' 770 (ad 13 p 0) = v3 → (∀ g, g ≠ 1027 → zFi σ' g (ad 17 0 0) = zFi σ g (ad 17 0 0)) → MacP ad σ' p ac → Q (ad 13 p 0) σ') : wX16_act (ad 17 0 0) v1 v2 v3 σ Q := by
  obtain ⟨q1, π, q2, q3, q4⟩ := q
  have fin : ∀ (τ : St) (ψ : Nat → Nat) (m : Nat), m < 100 → Fr ct (fun p => p = (17, 0) ∨ p = (1026, 0)) σ τ → zFi τ 1027 (ad 17 0 0) = nI m → m + 1 = min (ac.length + 1) 100 → (∀ g, g ≠ 1027 → zFi τ g (ad 17 0 0) = zFi σ g (ad 17 0 0)) → (∀ i, i < 100 → ψ i < 100 ∧ zAr τ (ad 1026 0 0) i = some (ad 13 (ψ i) 0)) → (∀ i j, i < j → j < 100 → ψ i ≠ ψ j) → (∀ i A, ac[i]? = some A → i + 1 < 100 → MAct ad σ (ψ (m - (i + 1))) A) → wX16_act_68 Q (ad 17 0 0) v1 v2 v3 τ := by
    intro τ ψ m hm f e em eg hψ hi ha
    have hs : Sh ad ct τ := h.fr f (by decide) (by decide) (by decide)
    refine s68 hs hm e hψ ?_
    have hp := (hψ m hm).1
    have n0 : ad 17 0 0 ≠ ad 13 (ψ m) 0 := adne (c17 h) (c13 h hp) (by simp)
    have f1 : Fr ct (fun c => c = (17, 0) ∨ c = (1026, 0) ∨ c = (13, ψ m)) σ τ := f.mono (fun p q => q.elim Or.inl (fun z => Or.inr (Or.inl z)))
    have f2 : Fr ct (fun c => c = (17, 0) ∨ c = (1026, 0) ∨ c = (13, ψ m)) σ (uFi (uFi (uFi (uFi τ 1027 (ad 17 0 0) (nI (m + 1))) 768 (ad 13 (ψ m) 0) v1) 769 (ad 13 (ψ m) 0) v2) 770 (ad 13 (ψ m) 0) v3) :=
      (((f1.uFi _ _ _ (Or.inl (Or.inl (c17 h)))).uFi _ _ _ (Or.inl (Or.inr (Or.inr (c13 h hp))))).uFi _ _ _ (Or.inl (Or.inr (Or.inr (c13 h hp))))).uFi _ _ _ (Or.inl (Or.inr (Or.inr (c13 h hp))))
    refine hQ (ψ m) _ hp f2 ?_ ?_ ?_ ?_ ⟨?_, ψ, ?_, hi, ?_, ?_⟩
    · simp only [yK_uFi, yL_uFi, yFj_uFi, yFr_uFi, yAi_uFi, yAj_uFi, yAd_uFi, yAr_uFi, yFi_uFi, yK_uFj, yL_uFj, yFi_uFj, yFr_uFj, yAi_uFj, yAj_uFj, yAd_uFj, yAr_uFj, yFj_uFj, yK_uFr, yL_uFr, yFi_uFr, yFj_uFr, yAi_uFr, yAj_uFr, yAd_uFr, yAr_uFr, yFr_uFr, yK_uAi, yL_uAi, yFi_uAi, yFj_uAi, yFr_uAi, yAj_uAi, yAd_uAi, yAr_uAi, yAi_uAi, yK_uAj, yL_uAj, yFi_uAj, yFj_uAj, yFr_uAj, yAi_uAj, yAd_uAj, yAr_uAj, yAj_uAj, yK_uAd, yL_uAd, yFi_uAd, yFj_uAd, yFr_uAd, yAi_uAd, yAj_uAd, yAr_uAd, yAd_uAd, yK_uAr, yL_uAr, yFi_uAr, yFj_uAr, yFr_uAr, yAi_uAr, yAj_uAr, yAd_uAr, yAr_uAr, yK_uCi, yL_uCi, yFi_uCi, yFj_uCi, yFr_uCi, yAj_uCi, yAd_uCi, yAr_uCi, yK_uCj, yL_uCj, yFi_uCj, yFj_uCj, yFr_uCj, yAi_uCj, yAd_uCj, yAr_uCj, yK_uCx, yL_uCx, yFi_uCx, yFj_uCx, yFr_uCx, yAi_uCx, yAd_uCx, yAr_uCx, yK_nO, yL_nO, yFi_nO, yFj_nO, yFr_nO, yAi_nO, yAj_nO, yAd_nO, yAr_nO, yK_nA, yL_nA, yFi_nA, yFj_nA, yFr_nA, yAi_nA, yAj_nA, yAd_nA, yAr_nA, yK_nC, yL_nC, yFi_nC, yFj_nC, yFr_nC, yAi_nC, yAj_nC, yAd_nC, yAr_nC, yu2, yAi_uCi', yAj_uCj', yAj_uCx', Option.some.injEq, exists_eq_left', true_and, and_true, not_false_eq_true, forall_const, false_and, and_false, reduceIte, Nat.reduceEqDiff, ne_eq]
    · simp only [yK_uFi, yL_uFi, yFj_uFi, yFr_uFi, yAi_uFi, yAj_uFi, yAd_uFi, yAr_uFi, yFi_uFi, yK_uFj, yL_uFj, yFi_uFj, yFr_uFj, yAi_uFj, yAj_uFj, yAd_uFj, yAr_uFj, yFj_uFj, yK_uFr, yL_uFr, yFi_uFr, yFj_uFr, yAi_uFr, yAj_uFr, yAd_uFr, yAr_uFr, yFr_uFr, yK_uAi, yL_uAi, yFi_uAi, yFj_uAi, yFr_uAi, yAj_uAi, yAd_uAi, yAr_uAi, yAi_uAi, yK_uAj, yL_uAj, yFi_uAj, yFj_uAj, yFr_uAj, yAi_uAj, yAd_uAj, yAr_uAj, yAj_uAj, yK_uAd, yL_uAd, yFi_uAd, yFj_uAd, yFr_uAd, yAi_uAd, yAj_uAd, yAr_uAd, yAd_uAd, yK_uAr, yL_uAr, yFi_uAr, yFj_uAr, yFr_uAr, yAi_uAr, yAj_uAr, yAd_uAr, yAr_uAr, yK_uCi, yL_uCi, yFi_uCi, yFj_uCi, yFr_uCi, yAj_uCi, yAd_uCi, yAr_uCi, yK_uCj, yL_uCj, yFi_uCj, yFj_uCj, yFr_uCj, yAi_uCj, yAd_uCj, yAr_uCj, yK_uCx, yL_uCx, yFi_uCx, yFj_uCx, yFr_uCx, yAi_uCx, yAd_uCx, yAr_uCx, yK_nO, yL_nO, yFi_nO, yFj_nO, yFr_nO, yAi_nO, yAj_nO, yAd_nO, yAr_nO, yK_nA, yL_nA, yFi_nA, yFj_nA, yFr_nA, yAi_nA, yAj_nA, yAd_nA, yAr_nA, yK_nC, yL_nC, yFi_nC, yFj_nC, yFr_nC, yAi_nC, yAj_nC, yAd_nC, yAr_nC, yu2, yAi_uCi', yAj_uCj', yAj_uCx', Option.some.injEq, exists_eq_left', true_and, and_true, not_false_eq_true, forall_const, false_and, and_false, reduceIte, Nat.reduceEqDiff, ne_eq]
    · simp only [yK_uFi, yL_uFi, yFj_uFi, yFr_uFi, yAi_uFi, yAj_uFi, yAd_uFi, yAr_uFi, yFi_uFi, yK_uFj, yL_uFj, yFi_uFj, yFr_uFj, yAi_uFj, yAj_uFj, yAd_uFj, yAr_uFj, yFj_uFj, yK_uFr, yL_uFr, yFi_uFr, yFj_uFr, yAi_uFr, yAj_uFr, yAd_uFr, yAr_uFr, yFr_uFr, yK_uAi, yL_uAi, yFi_uAi, yFj_uAi, yFr_uAi, yAj_uAi, yAd_uAi, yAr_uAi, yAi_uAi, yK_uAj, yL_uAj, yFi_uAj, yFj_uAj, yFr_uAj, yAi_uAj, yAd_uAj, yAr_uAj, yAj_uAj, yK_uAd, yL_uAd, yFi_uAd, yFj_uAd, yFr_uAd, yAi_uAd, yAj_uAd, yAr_uAd, yAd_uAd, yK_uAr, yL_uAr, yFi_uAr, yFj_uAr, yFr_uAr, yAi_uAr, yAj_uAr, yAd_uAr, yAr_uAr, yK_uCi, yL_uCi, yFi_uCi, yFj_uCi, yFr_uCi, yAj_uCi, yAd_uCi, yAr_uCi, yK_uCj, yL_uCj, yFi_uCj, yFj_uCj, yFr_uCj, yAi_uCj, yAd_uCj, yAr_uCj, yK_uCx, yL_uCx, yFi_uCx, yFj_uCx, yFr_uCx, yAi_uCx, yAd_uCx, yAr_uCx, yK_nO, yL_nO, yFi_nO, yFj_nO, yFr_nO, yAi_nO, yAj_nO, yAd_nO, yAr_nO, yK_nA, yL_nA, yFi_nA, yFj_nA, yFr_nA, yAi_nA, yAj_nA, yAd_nA, yAr_nA, yK_nC, yL_nC, yFi_nC, yFj_nC, yFr_nC, yAi_nC, yAj_nC, yAd_nC, yAr_nC, yu2, yAi_uCi', yAj_uCj', yAj_uCx', Option.some.injEq, exists_eq_left', true_and, and_true, not_false_eq_true, forall_const, false_and, and_false, reduceIte, Nat.reduceEqDiff, ne_eq]
    · intro g hg
      simp only [yK_uFi, yL_uFi, yFj_uFi, yFr_uFi, yAi_uFi, yAj_uFi, yAd_uFi, yAr_uFi, yFi_uFi, yK_uFj, yL_uFj, yFi_uFj, yFr_uFj, yAi_uFj, yAj_uFj, yAd_uFj, yAr_uFj, yFj_uFj, yK_uFr, yL_uFr, yFi_uFr, yFj_uFr, yAi_uFr, yAj_uFr, yAd_uFr, yAr_uFr, yFr_uFr, yK_uAi, yL_uAi, yFi_uAi, yFj_uAi, yFr_uAi, yAj_uAi, yAd_uAi, yAr_uAi, yAi_uAi, yK_uAj, yL_uAj, yFi_uAj, yFj_uAj, yFr_uAj, yAi_uAj, yAd_uAj, yAr_uAj, yAj_uAj, yK_uAd, yL_uAd, yFi_uAd, yFj_uAd, yFr_uAd, yAi_uAd, yAj_uAd, yAr_uAd, yAd_uAd, yK_uAr, yL_uAr, yFi_uAr, yFj_uAr, yFr_uAr, yAi_uAr, yAj_uAr, yAd_uAr, yAr_uAr, yK_uCi, yL_uCi, yFi_uCi, yFj_uCi, yFr_uCi, yAj_uCi, yAd_uCi, yAr_uCi, yK_uCj, yL_uCj, yFi_uCj, yFj_uCj, yFr_uCj, yAi_uCj, yAd_uCj, yAr_uCj, yK_uCx, yL_uCx, yFi_uCx, yFj_uCx, yFr_uCx, yAi_uCx, yAd_uCx, yAr_uCx, yK_nO, yL_nO, yFi_nO, yFj_nO, yFr_nO, yAi_nO, yAj_nO, yAd_nO, yAr_nO, yK_nA, yL_nA, yFi_nA, yFj_nA, yFr_nA, yAi_nA, yAj_nA, yAd_nA, yAr_nA, yK_nC, yL_nC, yFi_nC, yFj_nC, yFr_nC, yAi_nC, yAj_nC, yAd_nC, yAr_nC, yu2, yAi_uCi', yAj_uCj', yAj_uCx', n0, hg, Option.some.injEq, exists_eq_left', true_and, and_true, not_false_eq_true, forall_const, false_and, and_false, reduceIte, Nat.reduceEqDiff, ne_eq]
      exact eg g hg
    · simp only [yK_uFi, yL_uFi, yFj_uFi, yFr_uFi, yAi_uFi, yAj_uFi, yAd_uFi, yAr_uFi, yFi_uFi, yK_uFj, yL_uFj, yFi_uFj, yFr_uFj, yAi_uFj, yAj_uFj, yAd_uFj, yAr_uFj, yFj_uFj, yK_uFr, yL_uFr, yFi_uFr, yFj_uFr, yAi_uFr, yAj_uFr, yAd_uFr, yAr_uFr, yFr_uFr, yK_uAi, yL_uAi, yFi_uAi, yFj_uAi, yFr_uAi, yAj_uAi, yAd_uAi, yAr_uAi, yAi_uAi, yK_uAj, yL_uAj, yFi_uAj, yFj_uAj, yFr_uAj, yAi_uAj, yAd_uAj, yAr_uAj, yAj_uAj, yK_uAd, yL_uAd, yFi_uAd, yFj_uAd, yFr_uAd, yAi_uAd, yAj_uAd, yAr_uAd, yAd_uAd, yK_uAr, yL_uAr, yFi_uAr, yFj_uAr, yFr_uAr, yAi_uAr, yAj_uAr, yAd_uAr, yAr_uAr, yK_uCi, yL_uCi, yFi_uCi, yFj_uCi, yFr_uCi, yAj_uCi, yAd_uCi, yAr_uCi, yK_uCj, yL_uCj, yFi_uCj, yFj_uCj, yFr_uCj, yAi_uCj, yAd_uCj, yAr_uCj, yK_uCx, yL_uCx, yFi_uCx, yFj_uCx, yFr_uCx, yAi_uCx, yAd_uCx, yAr_uCx, yK_nO, yL_nO, yFi_nO, yFj_nO, yFr_nO, yAi_nO, yAj_nO, yAd_nO, yAr_nO, yK_nA, yL_nA, yFi_nA, yFj_nA, yFr_nA, yAi_nA, yAj_nA, yAd_nA, yAr_nA, yK_nC, yL_nC, yFi_nC, yFj_nC, yFr_nC, yAi_nC, yAj_nC, yAd_nC, yAr_nC, yu2, yAi_uCi', yAj_uCj', yAj_uCx', Option.some.injEq, exists_eq_left', true_and, and_true, not_false_eq_true, forall_const, false_and, and_false, reduceIte, Nat.reduceEqDiff, ne_eq]; rw [em]
    · intro i hi
      simp only [yK_uFi, yL_uFi, yFj_uFi, yFr_uFi, yAi_uFi, yAj_uFi, yAd_uFi, yAr_uFi, yFi_uFi, yK_uFj, yL_uFj, yFi_uFj, yFr_uFj, yAi_uFj, yAj_uFj, yAd_uFj, yAr_uFj, yFj_uFj, yK_uFr, yL_uFr, yFi_uFr, yFj_uFr, yAi_uFr, yAj_uFr, yAd_uFr, yAr_uFr, yFr_uFr, yK_uAi, yL_uAi, yFi_uAi, yFj_uAi, yFr_uAi, yAj_uAi, yAd_uAi, yAr_uAi, yAi_uAi, yK_uAj, yL_uAj, yFi_uAj, yFj_uAj, yFr_uAj, yAi_uAj, yAd_uAj, yAr_uAj, yAj_uAj, yK_uAd, yL_uAd, yFi_uAd, yFj_uAd, yFr_uAd, yAi_uAd, yAj_uAd, yAr_uAd, yAd_uAd, yK_uAr, yL_uAr, yFi_uAr, yFj_uAr, yFr_uAr, yAi_uAr, yAj_uAr, yAd_uAr, yAr_uAr, yK_uCi, yL_uCi, yFi_uCi, yFj_uCi, yFr_uCi, yAj_uCi, yAd_uCi, yAr_uCi, yK_uCj, yL_uCj, yFi_uCj, yFj_uCj, yFr_uCj, yAi_uCj, yAd_uCj, yAr_uCj, yK_uCx, yL_uCx, yFi_uCx, yFj_uCx, yFr_uCx, yAi_uCx, yAd_uCx, yAr_uCx, yK_nO, yL_nO, yFi_nO, yFj_nO, yFr_nO, yAi_nO, yAj_nO, yAd_nO, yAr_nO, yK_nA, yL_nA, yFi_nA, yFj_nA, yFr_nA, yAi_nA, yAj_nA, yAd_nA, yAr_nA, yK_nC, yL_nC, yFi_nC, yFj_nC, yFr_nC, yAi_nC, yAj_nC, yAd_nC, yAr_nC, yu2, yAi_uCi', yAj_uCj', yAj_uCx']
      exact hψ i hi
    · rw [← em, Nat.add_sub_cancel]
    · intro i A hA h1
      rw [← em, Nat.add_sub_cancel]
      have hl2 : i < ac.length := (List.getElem?_eq_some_iff.mp hA).1
      have hpi := (hψ (m - (i + 1)) (by omega)).1
      have hn : ψ (m - (i + 1)) ≠ ψ m := hi _ _ (by omega) hm
      refine (ha i A hA h1).cg h f2 hpi ?_ (by simp) (by simp) (by simp)
      rintro (q | q | q)
      · cases q
      · cases q
      · exact hn (congrArg Prod.snd q)
  unfold wX16_act wX16_act_0
  rw [q1]
  refine ⟨k17 h, fun c => ?_, fun c => ?_⟩
  · have c : ac.length ≠ 100 := fun e => c (by rw [e]; rfl)
    refine fin σ π ac.length (by omega) Fr.rf q1 (by omega) (fun _ _ => rfl) q2 q3 (fun i A hA h1 => ?_)
    have := q4 i A hA
    rw [show ac.length - (i + 1) = ac.length - 1 - i by omega]
    exact this
  · have c : ac.length = 100 := (nI_eq (b := 100) (by omega) (by decide)).mp c
    refine ⟨_, p1026 h, k1026 h, by rw [l1026 h]; exact vp_in_nI (n := 0) (by decide) (by decide), ad 13 (π 0) 0, (q2 0 (by decide)).2, 100, ?_⟩
    refine l20 h q2 (k13 h (q2 0 (by decide)).1) (fun τ f ha => ?_) 99 1 σ (by decide) (by decide) Fr.rf (fun i => by rw [if_neg (by omega)])
    rw [q1, c]
    have hs : Sh ad ct τ := h.fr f (by decide) (by decide) (by decide)
    refine fin _ (fun i => π ((i + 1) % 100)) 99 (by decide) ((f.mono (fun p q => Or.inr q)).uFi _ _ _ (Or.inl (Or.inl (c17 h)))) ?_ (by omega) (fun g hg => ?_) (fun i hi => ⟨(q2 _ (Nat.mod_lt _ (by decide))).1, ?_⟩) (fun i j h1 h2 => ?_) (fun i A hA h1 => ?_)
    · simp only [yK_uFi, yL_uFi, yFj_uFi, yFr_uFi, yAi_uFi, yAj_uFi, yAd_uFi, yAr_uFi, yFi_uFi, yK_uFj, yL_uFj, yFi_uFj, yFr_uFj, yAi_uFj, yAj_uFj, yAd_uFj, yAr_uFj, yFj_uFj, yK_uFr, yL_uFr, yFi_uFr, yFj_uFr, yAi_uFr, yAj_uFr, yAd_uFr, yAr_uFr, yFr_uFr, yK_uAi, yL_uAi, yFi_uAi, yFj_uAi, yFr_uAi, yAj_uAi, yAd_uAi, yAr_uAi, yAi_uAi, yK_uAj, yL_uAj, yFi_uAj, yFj_uAj, yFr_uAj, yAi_uAj, yAd_uAj, yAr_uAj, yAj_uAj, yK_uAd, yL_uAd, yFi_uAd, yFj_uAd, yFr_uAd, yAi_uAd, yAj_uAd, yAr_uAd, yAd_uAd, yK_uAr, yL_uAr, yFi_uAr, yFj_uAr, yFr_uAr, yAi_uAr, yAj_uAr, yAd_uAr, yAr_uAr, yK_uCi, yL_uCi, yFi_uCi, yFj_uCi, yFr_uCi, yAj_uCi, yAd_uCi, yAr_uCi, yK_uCj, yL_uCj, yFi_uCj, yFj_uCj, yFr_uCj, yAi_uCj, yAd_uCj, yAr_uCj, yK_uCx, yL_uCx, yFi_uCx, yFj_uCx, yFr_uCx, yAi_uCx, yAd_uCx, yAr_uCx, yK_nO, yL_nO, yFi_nO, yFj_nO, yFr_nO, yAi_nO, yAj_nO, yAd_nO, yAr_nO, yK_nA, yL_nA, yFi_nA, yFj_nA, yFr_nA, yAi_nA, yAj_nA, yAd_nA, yAr_nA, yK_nC, yL_nC, yFi_nC, yFj_nC, yFr_nC, yAi_nC, yAj_nC, yAd_nC, yAr_nC, yu2, yAi_uCi', yAj_uCj', yAj_uCx', Option.some.injEq, exists_eq_left', true_and, and_true, not_false_eq_true, forall_const, false_and, and_false, reduceIte, Nat.reduceEqDiff, ne_eq]; rfl
    · simp only [yK_uFi, yL_uFi, yFj_uFi, yFr_uFi, yAi_uFi, yAj_uFi, yAd_uFi, yAr_uFi, yFi_uFi, yK_uFj, yL_uFj, yFi_uFj, yFr_uFj, yAi_uFj, yAj_uFj, yAd_uFj, yAr_uFj, yFj_uFj, yK_uFr, yL_uFr, yFi_uFr, yFj_uFr, yAi_uFr, yAj_uFr, yAd_uFr, yAr_uFr, yFr_uFr, yK_uAi, yL_uAi, yFi_uAi, yFj_uAi, yFr_uAi, yAj_uAi, yAd_uAi, yAr_uAi, yAi_uAi, yK_uAj, yL_uAj, yFi_uAj, yFj_uAj, yFr_uAj, yAi_uAj, yAd_uAj, yAr_uAj, yAj_uAj, yK_uAd, yL_uAd, yFi_uAd, yFj_uAd, yFr_uAd, yAi_uAd, yAj_uAd, yAr_uAd, yAd_uAd, yK_uAr, yL_uAr, yFi_uAr, yFj_uAr, yFr_uAr, yAi_uAr, yAj_uAr, yAd_uAr, yAr_uAr, yK_uCi, yL_uCi, yFi_uCi, yFj_uCi, yFr_uCi, yAj_uCi, yAd_uCi, yAr_uCi, yK_uCj, yL_uCj, yFi_uCj, yFj_uCj, yFr_uCj, yAi_uCj, yAd_uCj, yAr_uCj, yK_uCx, yL_uCx, yFi_uCx, yFj_uCx, yFr_uCx, yAi_uCx, yAd_uCx, yAr_uCx, yK_nO, yL_nO, yFi_nO, yFj_nO, yFr_nO, yAi_nO, yAj_nO, yAd_nO, yAr_nO, yK_nA, yL_nA, yFi_nA, yFj_nA, yFr_nA, yAi_nA, yAj_nA, yAd_nA, yAr_nA, yK_nC, yL_nC, yFi_nC, yFj_nC, yFr_nC, yAi_nC, yAj_nC, yAd_nC, yAr_nC, yu2, yAi_uCi', yAj_uCj', yAj_uCx', hg, Option.some.injEq, exists_eq_left', true_and, and_true, not_false_eq_true, forall_const, false_and, and_false, reduceIte, Nat.reduceEqDiff, ne_eq]
      exact f.fi (k17 h) (by decide) (c17 h) (by decide) g
    · simp only [yK_uFi, yL_uFi, yFj_uFi, yFr_uFi, yAi_uFi, yAj_uFi, yAd_uFi, yAr_uFi, yFi_uFi, yK_uFj, yL_uFj, yFi_uFj, yFr_uFj, yAi_uFj, yAj_uFj, yAd_uFj, yAr_uFj, yFj_uFj, yK_uFr, yL_uFr, yFi_uFr, yFj_uFr, yAi_uFr, yAj_uFr, yAd_uFr, yAr_uFr, yFr_uFr, yK_uAi, yL_uAi, yFi_uAi, yFj_uAi, yFr_uAi, yAj_uAi, yAd_uAi, yAr_uAi, yAi_uAi, yK_uAj, yL_uAj, yFi_uAj, yFj_uAj, yFr_uAj, yAi_uAj, yAd_uAj, yAr_uAj, yAj_uAj, yK_uAd, yL_uAd, yFi_uAd, yFj_uAd, yFr_uAd, yAi_uAd, yAj_uAd, yAr_uAd, yAd_uAd, yK_uAr, yL_uAr, yFi_uAr, yFj_uAr, yFr_uAr, yAi_uAr, yAj_uAr, yAd_uAr, yAr_uAr, yK_uCi, yL_uCi, yFi_uCi, yFj_uCi, yFr_uCi, yAj_uCi, yAd_uCi, yAr_uCi, yK_uCj, yL_uCj, yFi_uCj, yFj_uCj, yFr_uCj, yAi_uCj, yAd_uCj, yAr_uCj, yK_uCx, yL_uCx, yFi_uCx, yFj_uCx, yFr_uCx, yAi_uCx, yAd_uCx, yAr_uCx, yK_nO, yL_nO, yFi_nO, yFj_nO, yFr_nO, yAi_nO, yAj_nO, yAd_nO, yAr_nO, yK_nA, yL_nA, yFi_nA, yFj_nA, yFr_nA, yAi_nA, yAj_nA, yAd_nA, yAr_nA, yK_nC, yL_nC, yFi_nC, yFj_nC, yFr_nC, yAi_nC, yAj_nC, yAd_nC, yAr_nC, yu2, yAi_uCi', yAj_uCj', yAj_uCx']
      rw [ha]
      by_cases c2 : i = 99
      · rw [if_pos c2, c2]
      · rw [if_neg c2, if_pos (by omega), show (i + 1) % 100 = i + 1 by omega]
        exact (q2 _ (by omega)).2
    · by_cases c2 : j = 99
      · subst c2
        show π ((i + 1) % 100) ≠ π ((99 + 1) % 100)
        rw [show (i + 1) % 100 = i + 1 by omega]
        exact (q3 0 (i + 1) (by omega) (by omega)).symm
      · show π ((i + 1) % 100) ≠ π ((j + 1) % 100)
        rw [show (i + 1) % 100 = i + 1 by omega, show (j + 1) % 100 = j + 1 by omega]
        exact q3 _ _ (by omega) (by omega)
    · have := q4 i A hA
      rw [c] at this
      show MAct ad σ (π ((99 - (i + 1) + 1) % 100)) A
      rw [show (99 - (i + 1) + 1) % 100 = 100 - 1 - i by omega]
      exact this
end M1
