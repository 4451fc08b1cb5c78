/-! the reference: the shelf -/
section M8
variable {ad : Ad} {ct : Ct} {σ : St}
theorem M_isS (v : Int32) {Q : Int32 → St → Prop} (h0 : badS v → Q 0 σ) (h1 : ∀ i, i < 20 → v = nI i → ¬ badS v → Q 1 σ) : wX16_isShelf v σ Q := by
  refine ⟨fun c => h0 (Or.inl c), fun c => ⟨fun d => h0 (Or.inr d), fun d => ?_⟩⟩
  rcases pk_ix v (n := 20) (by decide) with e | e | ⟨j, hj, e⟩
  · exact absurd e c
  · exact absurd e d
  · exact h1 j hj e (fun q => q.elim c d)
/-- the places of one thing -/
def S3 (t : Nat) : Nat × Nat → Prop := fun c => (c.1 = 16 ∨ c.1 = 963 ∨ c.1 = 964) ∧ c.2 = t
theorem S3n {t c i : Nat} (h : (c ≠ 16 ∧ c ≠ 963 ∧ c ≠ 964) ∨ i ≠ t) : ¬ S3 t (c, i) := fun q => h.elim (fun z => q.1.elim z.1 (fun w => w.elim z.2.1 z.2.2)) (fun z => z q.2)
set_option maxHeartbeats 1000000 in
theorem M_become (h : Sh ad ct σ) {t u : Nat} (ht : t < 120) (hu : u < 120) (hn : t ≠ u) {th : Thg} (q : MThg ad σ u th) {Q : St → Prop} (hQ : ∀ σ', Fr ct (S3 t) σ σ' → MThg ad σ' t th → Q σ') : wX15_become (ad 16 t 0) (ad 16 u 0) σ Q := by
  have n16 : ad 16 u 0 ≠ ad 16 t 0 := adne (c16 h hu) (c16 h ht) (by simp [hn.symm])
  have n63 : ad 963 u 0 ≠ ad 963 t 0 := adne (c963 h hu) (c963 h ht) (by simp [hn.symm])
  have n64 : ad 964 u 0 ≠ ad 964 t 0 := adne (c964 h hu) (c964 h ht) (by simp [hn.symm])
  have c1 : S3 t (ct (ad 16 t 0)) := by rw [c16 h ht]; exact ⟨Or.inl rfl, rfl⟩
  have c2 : S3 t (ct (ad 963 t 0)) := by rw [c963 h ht]; exact ⟨Or.inr (Or.inl rfl), rfl⟩
  have c3 : S3 t (ct (ad 964 t 0)) := by rw [c964 h ht]; exact ⟨Or.inr (Or.inr rfl), rfl⟩
  have sh : ∀ {τ : St}, Fr ct (S3 t) σ τ → Sh ad ct τ := fun f => h.fr f (S3n (Or.inl (by decide))) (S3n (Or.inl (by decide))) (S3n (Or.inl (by decide)))
  have u63 : ∀ {τ : St}, Fr ct (S3 t) σ τ → ∀ i, zAi τ (ad 963 u 0) i = zAi σ (ad 963 u 0) i := fun f i => f.ai (k963 h hu) (by decide) (c963 h hu) (S3n (Or.inr hn.symm)) i
  have u64 : ∀ {τ : St}, Fr ct (S3 t) σ τ → ∀ i, zAj τ (ad 964 u 0) i = zAj σ (ad 964 u 0) i := fun f i => f.aj (k964 h hu) (by decide) (c964 h hu) (S3n (Or.inr hn.symm)) i
  let P : St → Prop := fun τ => zFi τ 960 (ad 16 t 0) = zFi σ 960 (ad 16 u 0) ∧ zFi τ 961 (ad 16 t 0) = zFi σ 961 (ad 16 u 0) ∧ zFi τ 962 (ad 16 t 0) = zFi σ 962 (ad 16 u 0)
  have L2 : ∀ (d k : Nat) (τ : St), k + d = 16 → Fr ct (S3 t) σ τ → P τ → (∀ i, i < 6 → zAi τ (ad 963 t 0) i = zAi σ (ad 963 u 0) i) → (∀ i, i < k → zAj τ (ad 964 t 0) i = zAj σ (ad 964 u 0) i) → lX15_become_52 Q (d + 1) (ad 16 t 0) (ad 16 u 0) (nI k) τ := by
    intro d
    induction d with
    | zero =>
      intro k τ hk f p a b
      have hk : k = 16 := by omega
      refine ⟨fun _ => hQ τ f ?_, fun c => absurd (by rw [hk]; exact nI_le (b := 16) (Nat.le_refl _) (by decide)) c⟩
      obtain ⟨g1, g2, g3, g4, g5, g6⟩ := q
      refine ⟨p.1.trans g1, g2, g3, fun z => by rw [p.2.1]; exact g4 z, fun z => ⟨p.2.2.trans (g5 z).1, (g5 z).2.1, fun i v hv => ?_⟩, fun z => ⟨p.2.2.trans (g6 z).1, (g6 z).2.1, fun i v hv => ?_⟩⟩
      · have := (List.getElem?_eq_some_iff.mp hv).1
        rw [a i (by have := (g5 z).2.1; omega)]; exact (g5 z).2.2 i v hv
      · have := (List.getElem?_eq_some_iff.mp hv).1
        rw [b i (by have := (g6 z).2.1; omega)]; exact (g6 z).2.2 i v hv
    | succ d ih =>
      intro k τ hk f p a b
      have hs := sh f
      refine pk_le 16 k (fun c => absurd c (by omega)) (fun c => ⟨k16 hs ht, _, p964 hs ht, k16 hs hu, _, p964 hs hu, k964 hs hu, by rw [l964 hs hu]; exact vp_in_nI (by omega) (by decide), k964 hs ht, by rw [l964 hs ht]; exact vp_in_nI (by omega) (by decide), ?_⟩)
      rw [nI_1, show ix (nI k) = k from nI_clamp (by omega)]
      refine ih (k + 1) _ (by omega) (f.uAj _ _ _ (Or.inl c3)) p a (fun i hi => ?_)
      simp only [yK_uFi, yL_uFi, yFj_uFi, yFr_uFi, yAi_uFi, yAj_uFi, yAd_uFi, yAr_uFi, yFi_uFi, yK_uFj, yL_uFj, yFi_uFj, yFr_uFj, yAi_uFj, yAj_uFj, yAd_uFj, yAr_uFj, yFj_uFj, yK_uFr, yL_uFr, yFi_uFr, yFj_uFr, yAi_uFr, yAj_uFr, yAd_uFr, yAr_uFr, yFr_uFr, yK_uAi, yL_uAi, yFi_uAi, yFj_uAi, yFr_uAi, yAj_uAi, yAd_uAi, yAr_uAi, yAi_uAi, yK_uAj, yL_uAj, yFi_uAj, yFj_uAj, yFr_uAj, yAi_uAj, yAd_uAj, yAr_uAj, yAj_uAj, yK_uAd, yL_uAd, yFi_uAd, yFj_uAd, yFr_uAd, yAi_uAd, yAj_uAd, yAr_uAd, yAd_uAd, yK_uAr, yL_uAr, yFi_uAr, yFj_uAr, yFr_uAr, yAi_uAr, yAj_uAr, yAd_uAr, yAr_uAr, yK_uCi, yL_uCi, yFi_uCi, yFj_uCi, yFr_uCi, yAj_uCi, yAd_uCi, yAr_uCi, yK_uCj, yL_uCj, yFi_uCj, yFj_uCj, yFr_uCj, yAi_uCj, yAd_uCj, yAr_uCj, yK_uCx, yL_uCx, yFi_uCx, yFj_uCx, yFr_uCx, yAi_uCx, yAd_uCx, yAr_uCx, yK_nO, yL_nO, yFi_nO, yFj_nO, yFr_nO, yAi_nO, yAj_nO, yAd_nO, yAr_nO, yK_nA, yL_nA, yFi_nA, yFj_nA, yFr_nA, yAi_nA, yAj_nA, yAd_nA, yAr_nA, yK_nC, yL_nC, yFi_nC, yFj_nC, yFr_nC, yAi_nC, yAj_nC, yAd_nC, yAr_nC, yu2, yAi_uCi', yAj_uCj', yAj_uCx', Option.some.injEq, exists_eq_left', true_and, and_true, not_false_eq_true, forall_const, false_and, and_false, reduceIte, Nat.reduceEqDiff, ne_eq]
      by_cases e : i = k
      · rw [if_pos e, e]; exact u64 f k
      · rw [if_neg e]; exact b i (by omega)
  have L1 : ∀ (d k : Nat) (τ : St), k + d = 6 → Fr ct (S3 t) σ τ → P τ → (∀ i, i < k → zAi τ (ad 963 t 0) i = zAi σ (ad 963 u 0) i) → lX15_become_26 Q (d + 1) (ad 16 t 0) (ad 16 u 0) (nI k) τ := by
    intro d
    induction d with
    | zero =>
      intro k τ hk f p a
      have hk : k = 6 := by omega
      exact ⟨fun _ => ⟨17, L2 16 0 τ (by decide) f p (fun i hi => a i (by omega)) (fun i hi => absurd hi (Nat.not_lt_zero i))⟩, fun c => absurd (by rw [hk]; exact nI_le (b := 6) (Nat.le_refl _) (by decide)) c⟩
    | succ d ih =>
      intro k τ hk f p a
      have hs := sh f
      refine pk_le 6 k (fun c => absurd c (by omega)) (fun c => ⟨k16 hs ht, _, p963 hs ht, k16 hs hu, _, p963 hs hu, k963 hs hu, by rw [l963 hs hu]; exact vp_in_nI (by omega) (by decide), k963 hs ht, by rw [l963 hs ht]; exact vp_in_nI (by omega) (by decide), ?_⟩)
      rw [nI_1, show ix (nI k) = k from nI_clamp (by omega)]
      refine ih (k + 1) _ (by omega) (f.uAi _ _ _ (Or.inl c2)) p (fun i hi => ?_)
      simp only [yK_uFi, yL_uFi, yFj_uFi, yFr_uFi, yAi_uFi, yAj_uFi, yAd_uFi, yAr_uFi, yFi_uFi, yK_uFj, yL_uFj, yFi_uFj, yFr_uFj, yAi_uFj, yAj_uFj, yAd_uFj, yAr_uFj, yFj_uFj, yK_uFr, yL_uFr, yFi_uFr, yFj_uFr, yAi_uFr, yAj_uFr, yAd_uFr, yAr_uFr, yFr_uFr, yK_uAi, yL_uAi, yFi_uAi, yFj_uAi, yFr_uAi, yAj_uAi, yAd_uAi, yAr_uAi, yAi_uAi, yK_uAj, yL_uAj, yFi_uAj, yFj_uAj, yFr_uAj, yAi_uAj, yAd_uAj, yAr_uAj, yAj_uAj, yK_uAd, yL_uAd, yFi_uAd, yFj_uAd, yFr_uAd, yAi_uAd, yAj_uAd, yAr_uAd, yAd_uAd, yK_uAr, yL_uAr, yFi_uAr, yFj_uAr, yFr_uAr, yAi_uAr, yAj_uAr, yAd_uAr, yAr_uAr, yK_uCi, yL_uCi, yFi_uCi, yFj_uCi, yFr_uCi, yAj_uCi, yAd_uCi, yAr_uCi, yK_uCj, yL_uCj, yFi_uCj, yFj_uCj, yFr_uCj, yAi_uCj, yAd_uCj, yAr_uCj, yK_uCx, yL_uCx, yFi_uCx, yFj_uCx, yFr_uCx, yAi_uCx, yAd_uCx, yAr_uCx, yK_nO, yL_nO, yFi_nO, yFj_nO, yFr_nO, yAi_nO, yAj_nO, yAd_nO, yAr_nO, yK_nA, yL_nA, yFi_nA, yFj_nA, yFr_nA, yAi_nA, yAj_nA, yAd_nA, yAr_nA, yK_nC, yL_nC, yFi_nC, yFj_nC, yFr_nC, yAi_nC, yAj_nC, yAd_nC, yAr_nC, yu2, yAi_uCi', yAj_uCj', yAj_uCx', Option.some.injEq, exists_eq_left', true_and, and_true, not_false_eq_true, forall_const, false_and, and_false, reduceIte, Nat.reduceEqDiff, ne_eq]
      by_cases e : i = k
      · rw [if_pos e, e]; exact u63 f k
      · rw [if_neg e]; exact a i (by omega)
  refine ⟨k16 h hu, k16 h ht, 7, ?_⟩
  generalize hρ : uFi (uFi (uFi σ 960 (ad 16 t 0) (zFi σ 960 (ad 16 u 0))) 961 (ad 16 t 0) (zFi (uFi σ 960 (ad 16 t 0) (zFi σ 960 (ad 16 u 0))) 961 (ad 16 u 0))) 962 (ad 16 t 0) (zFi (uFi (uFi σ 960 (ad 16 t 0) (zFi σ 960 (ad 16 u 0))) 961 (ad 16 t 0) (zFi (uFi σ 960 (ad 16 t 0) (zFi σ 960 (ad 16 u 0))) 961 (ad 16 u 0))) 962 (ad 16 u 0)) = ρ
  have f : Fr ct (S3 t) σ ρ := by
    rw [← hρ]
    have f0 : Fr ct (S3 t) σ σ := Fr.rf
    have f1 := f0.uFi 960 (ad 16 t 0) (zFi σ 960 (ad 16 u 0)) (Or.inl c1)
    have f2 := f1.uFi 961 (ad 16 t 0) (zFi (uFi σ 960 (ad 16 t 0) (zFi σ 960 (ad 16 u 0))) 961 (ad 16 u 0)) (Or.inl c1)
    exact f2.uFi 962 _ _ (Or.inl c1)
  refine L1 6 0 ρ (by decide) f ⟨?_, ?_, ?_⟩ (fun i hi => absurd hi (Nat.not_lt_zero i))
  · rw [← hρ]; simp only [yK_uFi, yL_uFi, yFj_uFi, yFr_uFi, yAi_uFi, yAj_uFi, yAd_uFi, yAr_uFi, yFi_uFi, yK_uFj, yL_uFj, yFi_uFj, yFr_uFj, yAi_uFj, yAj_uFj, yAd_uFj, yAr_uFj, yFj_uFj, yK_uFr, yL_uFr, yFi_uFr, yFj_uFr, yAi_uFr, yAj_uFr, yAd_uFr, yAr_uFr, yFr_uFr, yK_uAi, yL_uAi, yFi_uAi, yFj_uAi, yFr_uAi, yAj_uAi, yAd_uAi, yAr_uAi, yAi_uAi, yK_uAj, yL_uAj, yFi_uAj, yFj_uAj, yFr_uAj, yAi_uAj, yAd_uAj, yAr_uAj, yAj_uAj, yK_uAd, yL_uAd, yFi_uAd, yFj_uAd, yFr_uAd, yAi_uAd, yAj_uAd, yAr_uAd, yAd_uAd, yK_uAr, yL_uAr, yFi_uAr, yFj_uAr, yFr_uAr, yAi_uAr, yAj_uAr, yAd_uAr, yAr_uAr, yK_uCi, yL_uCi, yFi_uCi, yFj_uCi, yFr_uCi, yAj_uCi, yAd_uCi, yAr_uCi, yK_uCj, yL_uCj, yFi_uCj, yFj_uCj, yFr_uCj, yAi_uCj, yAd_uCj, yAr_uCj, yK_uCx, yL_uCx, yFi_uCx, yFj_uCx, yFr_uCx, yAi_uCx, yAd_uCx, yAr_uCx, yK_nO, yL_nO, yFi_nO, yFj_nO, yFr_nO, yAi_nO, yAj_nO, yAd_nO, yAr_nO, yK_nA, yL_nA, yFi_nA, yFj_nA, yFr_nA, yAi_nA, yAj_nA, yAd_nA, yAr_nA, yK_nC, yL_nC, yFi_nC, yFj_nC, yFr_nC, yAi_nC, yAj_nC, yAd_nC, yAr_nC, yu2, yAi_uCi', yAj_uCj', yAj_uCx', Option.some.injEq, exists_eq_left', true_and, and_true, not_false_eq_true, forall_const, false_and, and_false, reduceIte, Nat.reduceEqDiff, ne_eq]
  · rw [← hρ]; simp only [yK_uFi, yL_uFi, yFj_uFi, yFr_uFi, yAi_uFi, yAj_uFi, yAd_uFi, yAr_uFi, yFi_uFi, yK_uFj, yL_uFj, yFi_uFj, yFr_uFj, yAi_uFj, yAj_uFj, yAd_uFj, yAr_uFj, yFj_uFj, yK_uFr, yL_uFr, yFi_uFr, yFj_uFr, yAi_uFr, yAj_uFr, yAd_uFr, yAr_uFr, yFr_uFr, yK_uAi, yL_uAi, yFi_uAi, yFj_uAi, yFr_uAi, yAj_uAi, yAd_uAi, yAr_uAi, yAi_uAi, yK_uAj, yL_uAj, yFi_uAj, yFj_uAj, yFr_uAj, yAi_uAj, yAd_uAj, yAr_uAj, yAj_uAj, yK_uAd, yL_uAd, yFi_uAd, yFj_uAd, yFr_uAd, yAi_uAd, yAj_uAd, yAr_uAd, yAd_uAd, yK_uAr, yL_uAr, yFi_uAr, yFj_uAr, yFr_uAr, yAi_uAr, yAj_uAr, yAd_uAr, yAr_uAr, yK_uCi, yL_uCi, yFi_uCi, yFj_uCi, yFr_uCi, yAj_uCi, yAd_uCi, yAr_uCi, yK_uCj, yL_uCj, yFi_uCj, yFj_uCj, yFr_uCj, yAi_uCj, yAd_uCj, yAr_uCj, yK_uCx, yL_uCx, yFi_uCx, yFj_uCx, yFr_uCx, yAi_uCx, yAd_uCx, yAr_uCx, yK_nO, yL_nO, yFi_nO, yFj_nO, yFr_nO, yAi_nO, yAj_nO, yAd_nO, yAr_nO, yK_nA, yL_nA, yFi_nA, yFj_nA, yFr_nA, yAi_nA, yAj_nA, yAd_nA, yAr_nA, yK_nC, yL_nC, yFi_nC, yFj_nC, yFr_nC, yAi_nC, yAj_nC, yAd_nC, yAr_nC, yu2, yAi_uCi', yAj_uCj', yAj_uCx', Option.some.injEq, exists_eq_left', true_and, and_true, not_false_eq_true, forall_const, false_and, and_false, reduceIte, Nat.reduceEqDiff, ne_eq]
  · rw [← hρ]; simp only [yK_uFi, yL_uFi, yFj_uFi, yFr_uFi, yAi_uFi, yAj_uFi, yAd_uFi, yAr_uFi, yFi_uFi, yK_uFj, yL_uFj, yFi_uFj, yFr_uFj, yAi_uFj, yAj_uFj, yAd_uFj, yAr_uFj, yFj_uFj, yK_uFr, yL_uFr, yFi_uFr, yFj_uFr, yAi_uFr, yAj_uFr, yAd_uFr, yAr_uFr, yFr_uFr, yK_uAi, yL_uAi, yFi_uAi, yFj_uAi, yFr_uAi, yAj_uAi, yAd_uAi, yAr_uAi, yAi_uAi, yK_uAj, yL_uAj, yFi_uAj, yFj_uAj, yFr_uAj, yAi_uAj, yAd_uAj, yAr_uAj, yAj_uAj, yK_uAd, yL_uAd, yFi_uAd, yFj_uAd, yFr_uAd, yAi_uAd, yAj_uAd, yAr_uAd, yAd_uAd, yK_uAr, yL_uAr, yFi_uAr, yFj_uAr, yFr_uAr, yAi_uAr, yAj_uAr, yAd_uAr, yAr_uAr, yK_uCi, yL_uCi, yFi_uCi, yFj_uCi, yFr_uCi, yAj_uCi, yAd_uCi, yAr_uCi, yK_uCj, yL_uCj, yFi_uCj, yFj_uCj, yFr_uCj, yAi_uCj, yAd_uCj, yAr_uCj, yK_uCx, yL_uCx, yFi_uCx, yFj_uCx, yFr_uCx, yAi_uCx, yAd_uCx, yAr_uCx, yK_nO, yL_nO, yFi_nO, yFj_nO, yFr_nO, yAi_nO, yAj_nO, yAd_nO, yAr_nO, yK_nA, yL_nA, yFi_nA, yFj_nA, yFr_nA, yAi_nA, yAj_nA, yAd_nA, yAr_nA, yK_nC, yL_nC, yFi_nC, yFj_nC, yFr_nC, yAi_nC, yAj_nC, yAd_nC, yAr_nC, yu2, yAi_uCi', yAj_uCj', yAj_uCx', Option.some.injEq, exists_eq_left', true_and, and_true, not_false_eq_true, forall_const, false_and, and_false, reduceIte, Nat.reduceEqDiff, ne_eq]
/-- the shelf's place -/
theorem M_shl {V : Vt} (h : Sh ad ct σ) {k : Nat} (hk : k < 20) : vp_in (nI k) (zL σ (ad 1052 0 0)) ∧ zAr σ (ad 1052 0 0) (ix (nI k)) = some (ad 16 (100 + k) 0) := by
  rw [l1052 h, show ix (nI k) = k from nI_clamp (by omega)]
  exact ⟨vp_in_nI hk (by decide), w1052 h hk⟩
/-- both things changed: the act's, and the shelf's; the row for copies too -/
def S4 (p k : Nat) : Nat × Nat → Prop := fun c => ((c.1 = 16 ∨ c.1 = 963 ∨ c.1 = 964) ∧ (c.2 = p ∨ c.2 = 100 + k)) ∨ c = (1055, 0)
theorem S4n {p k c i : Nat} (h1 : (c ≠ 16 ∧ c ≠ 963 ∧ c ≠ 964) ∨ (i ≠ p ∧ i ≠ 100 + k)) (h2 : c ≠ 1055) : ¬ S4 p k (c, i) := fun q => q.elim (fun q => h1.elim (fun z => q.1.elim z.1 (fun w => w.elim z.2.1 z.2.2)) (fun z => q.2.elim z.1 z.2)) (fun z => h2 (congrArg Prod.fst z))
theorem S4_sm {p k : Nat} : ∀ c, S4 p k c → SM c := fun c q => by
  rcases q with ⟨q1 | q1 | q1, -⟩ | q
  · exact smk c.1 c.2 (by omega)
  · exact smk c.1 c.2 (by omega)
  · exact smk c.1 c.2 (by omega)
  · rw [q]; exact smk _ _ (by decide)
theorem M_layfin {V : Vt} {p k : Nat} (hp : p < 100) (hk : k < 20) (h : Sh ad ct σ) (R : RMx ad σ p V) (e1 : zFi σ 768 (ad 13 p 0) = 5) (e2 : zFi σ 769 (ad 13 p 0) = nI k) {ρ : St} (f : Fr ct (S4 p k) σ ρ) {t : Thg} (m1 : MThg ad ρ p (V.1.2.2.2 k)) (m2 : MThg ad ρ (100 + k) t) : Sh ad ct ρ ∧ RM ad ρ (setS V.1 k t, psh (5, k, 0, 0, V.1.2.2.2 k) V.2.1, V.2.2) := by
  obtain ⟨r1, r2, r3, r4, r5, r6, r7⟩ := R
  have o : ∀ c i, c ≠ 16 → c ≠ 963 → c ≠ 964 → c ≠ 1055 → ¬ S4 p k (c, i) := fun c i a b d e => S4n (Or.inl ⟨a, b, d⟩) e
  have e17 := f.fi (k17 h) (by decide) (c17 h) (o _ _ (by decide) (by decide) (by decide) (by decide))
  have e13 := f.fi (k13 h hp) (by decide) (c13 h hp) (o _ _ (by decide) (by decide) (by decide) (by decide))
  have hA : MAct ad ρ p (5, k, 0, 0, V.1.2.2.2 k) := ⟨by rw [e13, e1]; rfl, (by decide : 5 < 6), fun _ => by rw [e13, e2], by simp, by simp, fun _ => m1⟩
  refine ⟨h.fr f (o _ _ (by decide) (by decide) (by decide) (by decide)) (o _ _ (by decide) (by decide) (by decide) (by decide)) (o _ _ (by decide) (by decide) (by decide) (by decide)), r1.cg h f (o _ _ (by decide) (by decide) (by decide) (by decide)) (e17 _), r2.cg h f (o _ _ (by decide) (by decide) (by decide) (by decide)) (o _ _ (by decide) (by decide) (by decide) (by decide)) (o _ _ (by decide) (by decide) (by decide) (by decide)) (o _ _ (by decide) (by decide) (by decide) (by decide)) (o _ _ (by decide) (by decide) (by decide) (by decide)) (o _ _ (by decide) (by decide) (by decide) (by decide)) (o _ _ (by decide) (by decide) (by decide) (by decide)) (e17 _), r3.cg h f (fun g g1 g2 => o _ _ (by omega) (by omega) (by omega) (by omega)) (e17 _), fun j hj => ?_, (r5.cg h f (o _ _ (by decide) (by decide) (by decide) (by decide)) (fun i hi hip => ⟨o _ _ (by decide) (by decide) (by decide) (by decide), S4n (Or.inr ⟨hip, by omega⟩) (by decide), S4n (Or.inr ⟨hip, by omega⟩) (by decide), S4n (Or.inr ⟨hip, by omega⟩) (by decide)⟩) (e17 _)).fin hA, r6.cg h f (o _ _ (by decide) (by decide) (by decide) (by decide)) (fun g g1 g2 => o _ _ (by omega) (by omega) (by omega) (by omega)) (e17 _), (e17 _).trans r7⟩
  show MThg ad ρ (100 + j) (upF V.1.2.2.2 k t j)
  unfold upF
  by_cases c : j = k
  · rw [if_pos c, c]; exact m2
  · rw [if_neg c]
    exact (r4 j hj).cg h f (by omega) (S4n (Or.inr ⟨by omega, by omega⟩) (by decide)) (S4n (Or.inr ⟨by omega, by omega⟩) (by decide)) (S4n (Or.inr ⟨by omega, by omega⟩) (by decide))
theorem M_lies {V : Vt} (h0 : Sh ad ct σ) (R0 : RM ad σ V) (W : WFv V) (k : Int32) {Q : Int32 → St → Prop} (hQ0 : ∀ σ', Fr ct SM σ σ' → RM ad σ' (lieV k V).2 → Q (lieV k V).1 σ') : wX16_lies (ad 17 0 0) k σ Q := by
  have ft := fr17 h0 1024 0
  have R := rmth h0 W.2.1 R0 0
  have h := h0.frM ft
  unfold wX16_lies wX16_lies_0
  generalize uFi σ 1024 (ad 17 0 0) 0 = τ at R h ft
  have hQ : ∀ σ', Fr ct SM τ σ' → RM ad σ' (lieV k V).2 → Q (lieV k V).1 σ' := fun σ' f r => hQ0 σ' (ft.tr1 f) r
  unfold lieV at hQ
  refine ⟨k17 h0, M_isS k (fun c => ⟨fun _ => ⟨k17 h, ?_⟩, fun z => absurd rfl z⟩) (fun i hi e nb => ⟨fun z => absurd z (by decide), fun _ => ⟨k17 h, _, p1052 h, k1052 h, ?_⟩⟩)⟩
  · simp only [if_pos c] at hQ
    exact M_ref h W.2.1 R 1 hQ
  · subst e
    simp only [if_neg nb] at hQ
    rw [show ix (nI i) = i from nI_clamp (by omega)] at hQ
    obtain ⟨v1, v2⟩ := M_shl (V := V) h hi
    refine ⟨v1, _, v2, k16 h (by omega), ?_⟩
    rw [(R.2.2.2.1 i hi).1]
    exact M_done h W.2.1 R _ hQ
theorem M_taken {V : Vt} (h0 : Sh ad ct σ) (R0 : RM ad σ V) (W : WFv V) (k s i : Int32) {Q : Int64 → St → Prop} (hQ0 : ∀ σ', Fr ct SM σ σ' → RM ad σ' (takV k s i V).2 → Q (takV k s i V).1 σ') : wX16_taken (ad 17 0 0) k s i σ Q := by
  have ft := fr17 h0 1024 0
  have R := rmth h0 W.2.1 R0 0
  have h := h0.frM ft
  unfold wX16_taken wX16_taken_0
  generalize uFi σ 1024 (ad 17 0 0) 0 = τ at R h ft
  have hQ : ∀ σ', Fr ct SM τ σ' → RM ad σ' (takV k s i V).2 → Q (takV k s i V).1 σ' := fun σ' f r => hQ0 σ' (ft.tr1 f) r
  unfold takV at hQ
  refine ⟨k17 h0, M_isS k (fun c => ⟨fun z => absurd rfl z, fun _ => ⟨k17 h, ?_⟩⟩) (fun m hm e nb => ⟨fun _ => ?_, fun z => absurd z (by decide)⟩)⟩
  · simp only [if_pos c] at hQ
    exact M_ref h W.2.1 R 1 hQ
  · subst e
    simp only [if_neg nb] at hQ
    rw [show ix (nI m) = m from nI_clamp (by omega)] at hQ
    have bad : (s < 1 ∨ ¬ s ≤ 4) → wX16_taken_29 Q (ad 17 0 0) τ := fun c => by
      simp only [if_pos c] at hQ
      exact ⟨k17 h, M_ref h W.2.1 R 2 hQ⟩
    refine ⟨fun c => bad (Or.inl c), fun c => ⟨fun d => ?_, fun d => bad (Or.inr d)⟩⟩
    simp only [if_neg (show ¬ (s < 1 ∨ ¬ s ≤ 4) from fun z => z.elim c (fun w => w d))] at hQ
    have s0 : ¬ s < 0 := fun w => c (i32_lt1.mpr (Int32.le_of_lt w))
    obtain ⟨u, hu, rfl⟩ := nI_of s0
    have hu5 : u ≤ 4 := (nI_leI (b := 4) hu (by decide)).mp d
    have hu1 : 1 ≤ u := by
      have : ¬ u < 1 := fun w => c ((nI_ltI (b := 1) hu (by decide)).mpr w)
      omega
    rw [show ix (nI u) = u from nI_clamp hu] at hQ
    obtain ⟨v1, v2⟩ := M_shl (V := V) h hm
    obtain ⟨g1, g2, g3, g4, g5, g6⟩ := R.2.2.2.1 m hm
    refine ⟨k17 h, _, p1052 h, k1052 h, v1, _, v2, k16 h (by omega), ?_⟩
    rw [g1]
    have e3 : nI (V.1.2.2.2 m).1 = nI u ↔ (V.1.2.2.2 m).1 = u := nI_eq (by omega) (by omega)
    refine ⟨fun w => ?_, fun w => ?_⟩
    · have w := e3.mp w
      simp only [if_neg (show ¬ (V.1.2.2.2 m).1 ≠ u from fun z => z w)] at hQ
      refine pk_le 3 u (fun z => ?_) (fun z => ?_)
      · simp only [if_neg (show ¬ nI u < 3 from nI_nlt (b := 3) z (by omega))] at hQ
        have sz : zFi τ 962 (ad 16 (100 + m) 0) = nI (V.1.2.2.2 m).2.length ∧ (V.1.2.2.2 m).2.length ≤ 16 := by
          by_cases c3 : (V.1.2.2.2 m).1 = 3
          · exact ⟨(g5 c3).1, by have := (g5 c3).2.1; omega⟩
          · exact ⟨(g6 (by omega)).1, (g6 (by omega)).2.1⟩
        have no : (i < 0 ∨ nI (V.1.2.2.2 m).2.length ≤ i) → wX16_taken_90 Q (ad 17 0 0) τ := fun b => by
          simp only [if_pos b] at hQ
          exact ⟨k17 h, M_ref h W.2.1 R 1 hQ⟩
        refine ⟨fun b => no (Or.inl b), fun b => ?_⟩
        rw [sz.1]
        refine ⟨fun y => ?_, fun y => no (Or.inr (Int32.not_lt.mp y))⟩
        obtain ⟨j, hj, rfl⟩ := nI_of b
        have hjl := (nI_ltI hj (by have := sz.2; omega)).mp y
        simp only [if_neg (show ¬ (nI j < 0 ∨ nI (V.1.2.2.2 m).2.length ≤ nI j) from fun q => q.elim b (nI_ge hjl (by have := sz.2; omega)))] at hQ
        rw [show ix (nI j) = j from nI_clamp hj] at hQ ⊢
        rw [List.getD_eq_getElem?_getD, List.getElem?_eq_getElem hjl] at hQ
        have N : nI u = nI 3 ↔ u = 3 := nI_eq (by omega) (by decide)
        refine ⟨fun c3 => ?_, fun c3 => ?_⟩
        · have u4 : (V.1.2.2.2 m).1 = 4 := by
            have : u ≠ 3 := fun q => c3 (N.mpr q)
            omega
          refine ⟨_, p964 h (by omega), k964 h (by omega), by rw [l964 h (by omega)]; exact vp_in_nI (by have := sz.2; omega) (by decide), ?_⟩
          rw [(g6 u4).2.2 j _ (List.getElem?_eq_getElem hjl)]
          exact hQ _ (fr17 h 1025 0) (rmst h W.2.1 R 0)
        · have u3 : (V.1.2.2.2 m).1 = 3 := w.trans (N.mp c3)
          refine ⟨_, p963 h (by omega), k963 h (by omega), by rw [l963 h (by omega)]; exact vp_in_nI (by have := (g5 u3).2.1; omega) (by decide), ?_⟩
          rw [(g5 u3).2.2 j _ (List.getElem?_eq_getElem hjl)]
          exact hQ _ (fr17 h 1025 0) (rmst h W.2.1 R 0)
      · simp only [if_pos (show nI u < 3 from nI_lt (b := 3) z (by decide))] at hQ
        have g := g4 (by omega)
        rw [g] at hQ
        exact M_done h W.2.1 R _ hQ
    · simp only [if_pos (show (V.1.2.2.2 m).1 ≠ u from fun z => w (e3.mpr z))] at hQ
      exact M_ref h W.2.1 R 7 hQ
theorem M_size {V : Vt} (h0 : Sh ad ct σ) (R0 : RM ad σ V) (W : WFv V) (w : Int32) {Q : Int32 → St → Prop} (hQ0 : ∀ σ', Fr ct SM σ σ' → RM ad σ' V → Q (sizV w V) σ') : wX16_size (ad 17 0 0) w σ Q := by
  have ft := fr17 h0 1024 0
  have R := rmth h0 W.2.1 R0 0
  have h := h0.frM ft
  unfold wX16_size wX16_size_0
  generalize uFi σ 1024 (ad 17 0 0) 0 = τ at R h ft
  have hQ := hQ0 τ ft R
  unfold sizV at hQ
  obtain ⟨w', q, -⟩ := R.2.2.2.2.2.1
  refine ⟨k17 h0, fun z => ?_, fun z => ?_, fun z => ?_, fun z => ⟨_, p1050 h0, k15 h0 (by decide), ?_⟩, fun z => ?_, fun z0 z1 z2 z3 z4 => ?_⟩
  · subst z; rw [R.1.1]; exact hQ
  · subst z; rw [R.2.1.1]; exact hQ
  · subst z; rw [R.2.2.1.1]; exact hQ
  · subst z; rw [q.1]; exact hQ
  · subst z; rw [R.2.2.2.2.1.1]; exact hQ
  · rw [if_neg z0, if_neg z1, if_neg z2, if_neg z3, if_neg z4] at hQ; exact hQ
theorem M_status {V : Vt} (h0 : Sh ad ct σ) (R0 : RM ad σ V) (W : WFv V) {Q : Int32 → St → Prop} (hQ0 : ∀ σ', Fr ct SM σ σ' → RM ad σ' V → Q V.2.2.2 σ') : wX16_status (ad 17 0 0) σ Q := by
  have ft := fr17 h0 1024 0
  have R := rmth h0 W.2.1 R0 0
  have h := h0.frM ft
  unfold wX16_status wX16_status_0
  generalize uFi σ 1024 (ad 17 0 0) 0 = τ at R h ft
  have hQ := hQ0 τ ft R
  refine ⟨k17 h0, ?_⟩
  rw [R.2.2.2.2.2.2]; exact hQ
end M8
