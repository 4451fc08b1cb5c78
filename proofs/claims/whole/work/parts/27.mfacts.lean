section M4
variable {ad : Ad} {ct : Ct} {σ : St}
theorem vnz {v : Int32} (hv : v = 0 ∨ v = 1) : vp_nar .boolean v = zB (decide (v ≠ 0)) := by rcases hv with rfl | rfl <;> decide
theorem M_drop {V : Vt} (h0 : Sh ad ct σ) (R0 : RM ad σ V) (W : WFv V) (v v2 : Int32) (hv : v2 = 0 ∨ v2 = 1) {Q : Int32 → St → Prop} (hQ0 : ∀ σ', Fr ct SM σ σ' → RM ad σ' (droV v (decide (v2 ≠ 0)) V).2 → Q (droV v (decide (v2 ≠ 0)) V).1 σ') : wX16_drop (ad 17 0 0) v v2 σ Q := by
  have wf := W.1.wf
  have hl := wf.2.2.1
  have ft := fr17 h0 1024 0
  have R := rmth h0 W.2.1 R0 0
  have h := h0.frM ft
  unfold wX16_drop wX16_drop_0
  generalize uFi σ 1024 (ad 17 0 0) 0 = τ at R h ft
  have hQ : ∀ σ', Fr ct SM τ σ' → RM ad σ' (droV v (decide (v2 ≠ 0)) V).2 → Q (droV v (decide (v2 ≠ 0)) V).1 σ' := fun σ' f r => hQ0 σ' (ft.tr1 f) r
  refine ⟨k17 h0, M_isFact h R hl v (fun e => ⟨fun q => absurd rfl q, fun _ => ⟨k17 h, ?_⟩⟩) (fun i x hi e hx ex => ⟨fun _ => ⟨k17 h, _, p1038 h, k1038 h, ?_, ?_⟩, fun q => absurd q (by decide)⟩)⟩
  · unfold droV at hQ
    rw [e] at hQ
    exact hQ _ (fr17 h 1025 1) (rmst h W.2.1 R 1)
  · rw [l1038 h, e]; exact vp_in_nI (by omega) (by decide)
  · subst e
    have ii : ix (nI i) = i := nI_clamp (by omega)
    have key : ∀ z : Int32, z = (b2j x.2.2.2).toInt32 → wX16_drop_37 Q (ad 17 0 0) (nI i) v2 z (nI i) 2 (ad 17 0 0) τ := fun z hz => by
      refine ⟨k17 h, M_actR h W.2.1 R (fun p σ2 hp f2 h2 e1 e2 e3 R2 => ⟨k17 h2, _, p1038 h2, k1038 h2, by rw [l1038 h2]; exact vp_in_nI (by omega) (by decide), ?_⟩)⟩
      rw [ii, vnz hv]
      obtain ⟨r1, r2, r3, r4, r5, r6, r7⟩ := R2
      generalize hρ : uAi σ2 (ad 1038 0 0) i (zB (decide (v2 ≠ 0))) = ρ
      have f3 : Fr ct (fun c => c = (1038, 0)) σ2 ρ := by rw [← hρ]; exact Fr.rf.uAi _ _ _ (Or.inl (c1038 h))
      have h3 : Sh ad ct ρ := h2.fr f3 (by decide) (by decide) (by decide)
      have e17 := f3.fi (k17 h2) (by decide) (c17 h2) (by decide)
      have y6 : ∀ m, zAi ρ (ad 1038 0 0) m = if m = i then zB (decide (v2 ≠ 0)) else zAi σ2 (ad 1038 0 0) m := fun m => by rw [← hρ]; simp only [yK_uFi, yL_uFi, yFj_uFi, yFr_uFi, yAi_uFi, yAj_uFi, yAd_uFi, yAr_uFi, yFi_uFi, yK_uFj, yL_uFj, yFi_uFj, yFr_uFj, yAi_uFj, yAj_uFj, yAd_uFj, yAr_uFj, yFj_uFj, yK_uFr, yL_uFr, yFi_uFr, yFj_uFr, yAi_uFr, yAj_uFr, yAd_uFr, yAr_uFr, yFr_uFr, yK_uAi, yL_uAi, yFi_uAi, yFj_uAi, yFr_uAi, yAj_uAi, yAd_uAi, yAr_uAi, yAi_uAi, yK_uAj, yL_uAj, yFi_uAj, yFj_uAj, yFr_uAj, yAi_uAj, yAd_uAj, yAr_uAj, yAj_uAj, yK_uAd, yL_uAd, yFi_uAd, yFj_uAd, yFr_uAd, yAi_uAd, yAj_uAd, yAr_uAd, yAd_uAd, yK_uAr, yL_uAr, yFi_uAr, yFj_uAr, yFr_uAr, yAi_uAr, yAj_uAr, yAd_uAr, yAr_uAr, yK_uCi, yL_uCi, yFi_uCi, yFj_uCi, yFr_uCi, yAj_uCi, yAd_uCi, yAr_uCi, yK_uCj, yL_uCj, yFi_uCj, yFj_uCj, yFr_uCj, yAi_uCj, yAd_uCj, yAr_uCj, yK_uCx, yL_uCx, yFi_uCx, yFj_uCx, yFr_uCx, yAi_uCx, yAd_uCx, yAr_uCx, yK_nO, yL_nO, yFi_nO, yFj_nO, yFr_nO, yAi_nO, yAj_nO, yAd_nO, yAr_nO, yK_nA, yL_nA, yFi_nA, yFj_nA, yFr_nA, yAi_nA, yAj_nA, yAd_nA, yAr_nA, yK_nC, yL_nC, yFi_nC, yFj_nC, yFr_nC, yAi_nC, yAj_nC, yAd_nC, yAr_nC, yu2, yAi_uCi', yAj_uCj', yAj_uCx', Option.some.injEq, exists_eq_left', true_and, and_true, not_false_eq_true, forall_const, false_and, and_false, reduceIte, Nat.reduceEqDiff, ne_eq]
      have hA : MAct ad ρ p (2, i, 0, b2j x.2.2.2, noT) := by
        refine MAct.cg h2 f3 hp (by simp) (by simp) (by simp) (by simp) ⟨by rw [e1]; rfl, (by decide : 2 < 6), fun _ => e2, fun _ => by rw [e3]; exact hz, by simp, by simp⟩
      have RR : RM ad ρ (setF V.1 i (x.1, x.2.1, x.2.2.1, decide (v2 ≠ 0)), psh (2, i, 0, b2j x.2.2.2, noT) V.2.1, V.2.2) := by
        refine ⟨r1.cg h2 f3 (by decide) (e17 _), ⟨?_, fun j y hy => ?_⟩, r3.cg h2 f3 (fun g g1 g2 q => by cases q; omega) (e17 _), r4.cg h2 f3 (fun k _ => ⟨by simp, by simp, by simp⟩), (r5.cg h2 f3 (by decide) (fun i _ _ => ⟨by simp, by simp, by simp, by simp⟩) (e17 _)).fin hA, r6.cg h2 f3 (by decide) (fun g g1 g2 q => by cases q) (e17 _), (e17 _).trans r7⟩
        · rw [e17, r2.1]; exact congrArg nI (by show _ = (V.1.2.1.set i _).length; rw [List.length_set])
        · have kk : ∀ y, V.1.2.1[j]? = some y → zAi ρ (ad 1032 0 0) j = y.1 ∧ (∀ k, k < 4 → zAi ρ (ad 1033 0 0) (4 * j + k) = y.2.1 k) ∧ zAi ρ (ad 1034 0 0) j = (y.2.2.1 0).toInt32 ∧ zAi ρ (ad 1035 0 0) j = (y.2.2.1 1).toInt32 ∧ zAd ρ (ad 1037 0 0) j = (y.2.2.1 2).toUInt64 ∧ zAi ρ (ad 1036 0 0) j = (y.2.2.1 3).toInt32 ∧ zAi σ2 (ad 1038 0 0) j = zB y.2.2.2 := fun y q => by
            obtain ⟨g1, g2, g3, g4, g5, g6, g7⟩ := r2.2 j y q
            exact ⟨(f3.ai (k1032 h2) (by decide) (c1032 h2) (by decide) j).trans g1, fun k hk => (f3.ai (k1033 h2) (by decide) (c1033 h2) (by decide) _).trans (g2 k hk), (f3.ai (k1034 h2) (by decide) (c1034 h2) (by decide) j).trans g3, (f3.ai (k1035 h2) (by decide) (c1035 h2) (by decide) j).trans g4, (f3.adb (k1037 h2) (by decide) (c1037 h2) (by decide) j).trans g5, (f3.ai (k1036 h2) (by decide) (c1036 h2) (by decide) j).trans g6, g7⟩
          rcases set_get hx hy with ⟨rfl, rfl⟩ | ⟨n, e⟩
          · obtain ⟨g1, g2, g3, g4, g5, g6, g7⟩ := kk _ hx
            exact ⟨g1, g2, g3, g4, g5, g6, by rw [y6, if_pos rfl]⟩
          · obtain ⟨g1, g2, g3, g4, g5, g6, g7⟩ := kk _ e
            exact ⟨g1, g2, g3, g4, g5, g6, by rw [y6, if_neg n]; exact g7⟩
      unfold droV at hQ
      rw [ex] at hQ
      simp only [ii] at hQ
      exact hQ _ ((f2.mono SA_sm).tr1 ((f3.mono (fun c q => by rw [q]; exact smk _ _ (by decide))).tr1 (fr17 h3 1025 0))) (rmst h3 psh_len RR 0)
    have g := (R.2.1.2 i x hx).2.2.2.2.2.2
    rw [ii, g]
    cases e : x.2.2.2 with
    | false => exact ⟨fun _ => key 0 (by rw [e]; rfl), fun c => absurd rfl c⟩
    | true => exact ⟨fun c => absurd c (by decide), fun _ => key 1 (by rw [e]; rfl)⟩
theorem M_put {V : Vt} (h0 : Sh ad ct σ) (R0 : RM ad σ V) (W : WFv V) (v wh : Int32) (x : Int64) {Q : Int32 → St → Prop} (hQ0 : ∀ σ', Fr ct SM σ σ' → RM ad σ' (putV v wh x V).2 → Q (putV v wh x V).1 σ') : wX16_put (ad 17 0 0) v wh x σ Q := by
  have wf := W.1.wf
  have hl := wf.2.2.1
  have ft := fr17 h0 1024 0
  have R := rmth h0 W.2.1 R0 0
  have h := h0.frM ft
  unfold wX16_put wX16_put_0
  generalize uFi σ 1024 (ad 17 0 0) 0 = τ at R h ft
  have hQ : ∀ σ', Fr ct SM τ σ' → RM ad σ' (putV v wh x V).2 → Q (putV v wh x V).1 σ' := fun σ' f r => hQ0 σ' (ft.tr1 f) r
  refine ⟨k17 h0, M_isFact h R hl v (fun e => ⟨fun q => absurd rfl q, fun _ => ⟨k17 h, ?_⟩⟩) (fun i y hi e hy ey => ⟨fun _ => ?_, fun q => absurd q (by decide)⟩)⟩
  · unfold putV at hQ
    rw [e] at hQ
    exact hQ _ (fr17 h 1025 1) (rmst h W.2.1 R 1)
  · subst e
    have ii : ix (nI i) = i := nI_clamp (by omega)
    unfold putV at hQ
    rw [ey] at hQ
    have bad : (wh < 0 ∨ ¬ wh ≤ 3 ∨ x < 0 ∨ mwei (ix wh) < x) → wX16_put_79 Q (ad 17 0 0) τ := fun c => by
      simp only [if_pos c] at hQ
      exact ⟨k17 h, hQ _ (fr17 h 1025 2) (rmst h W.2.1 R 2)⟩
    have key : ∀ s0 : Int64, (∀ k, k < 4 → wh = nI k → s0 = mwei k) → wX16_put_55 Q (ad 17 0 0) (nI i) wh x s0 τ := by
      intro s0 hs0
      refine ⟨fun c => bad (Or.inl c), fun c => ?_⟩
      obtain ⟨k, hk, rfl⟩ := nI_of c
      have ek : ix (nI k) = k := nI_clamp hk
      refine pk_lt 3 k (fun d => bad (Or.inr (Or.inl (fun z => by have := (nI_leI (b := 3) hk (by decide)).mp z; omega)))) (fun d => ?_)
      have hs0 := hs0 k (by omega) rfl
      subst hs0
      refine ⟨fun c2 => bad (Or.inr (Or.inr (Or.inl c2))), fun c2 => ⟨fun c3 => ⟨k17 h, ?_⟩, fun c3 => bad (Or.inr (Or.inr (Or.inr (by rw [ek]; exact Int64.not_le.mp c3))))⟩⟩
      have n1 : ¬ (nI k < 0 ∨ ¬ nI k ≤ 3 ∨ x < 0 ∨ mwei (ix (nI k)) < x) := by
        rintro (z | z | z | z)
        · exact c z
        · exact z (nI_le (b := 3) (by omega) (by decide))
        · exact c2 z
        · rw [ek] at z; exact absurd c3 (Int64.not_le.mpr z)
      simp only [if_neg n1] at hQ
      simp only [ii, ek] at hQ
      refine M_actR h W.2.1 R (fun p σ2 hp f2 h2 e1 e2 e3 R2 => ⟨k17 h2, ?_⟩)
      refine M_weighs h2 R2.2.1 hl hy (wf.2.2.2.1 i y hy).2 (by omega) ⟨k13 h2 hp, k17 h2, ?_⟩
      obtain ⟨r1, r2, r3, r4, r5, r6, r7⟩ := R2
      generalize hρ : uFj σ2 771 (ad 13 p 0) (y.2.2.1 k) = ρ
      have f3 : Fr ct (fun c => c = (13, p)) σ2 ρ := by rw [← hρ]; exact Fr.rf.uFj _ _ _ (Or.inl (c13 h2 hp))
      have h3 : Sh ad ct ρ := h2.fr f3 (by simp) (by simp) (by simp)
      have e17 := f3.fi (k17 h2) (by decide) (c17 h2) (by simp)
      have hA : MAct ad ρ p (3, i, k, y.2.2.1 k, noT) := by
        refine ⟨?_, (by decide : 3 < 6), fun _ => ?_, by simp, fun _ => ⟨?_, ?_⟩, by simp⟩
        · rw [← hρ]; simp only [yK_uFi, yL_uFi, yFj_uFi, yFr_uFi, yAi_uFi, yAj_uFi, yAd_uFi, yAr_uFi, yFi_uFi, yK_uFj, yL_uFj, yFi_uFj, yFr_uFj, yAi_uFj, yAj_uFj, yAd_uFj, yAr_uFj, yFj_uFj, yK_uFr, yL_uFr, yFi_uFr, yFj_uFr, yAi_uFr, yAj_uFr, yAd_uFr, yAr_uFr, yFr_uFr, yK_uAi, yL_uAi, yFi_uAi, yFj_uAi, yFr_uAi, yAj_uAi, yAd_uAi, yAr_uAi, yAi_uAi, yK_uAj, yL_uAj, yFi_uAj, yFj_uAj, yFr_uAj, yAi_uAj, yAd_uAj, yAr_uAj, yAj_uAj, yK_uAd, yL_uAd, yFi_uAd, yFj_uAd, yFr_uAd, yAi_uAd, yAj_uAd, yAr_uAd, yAd_uAd, yK_uAr, yL_uAr, yFi_uAr, yFj_uAr, yFr_uAr, yAi_uAr, yAj_uAr, yAd_uAr, yAr_uAr, yK_uCi, yL_uCi, yFi_uCi, yFj_uCi, yFr_uCi, yAj_uCi, yAd_uCi, yAr_uCi, yK_uCj, yL_uCj, yFi_uCj, yFj_uCj, yFr_uCj, yAi_uCj, yAd_uCj, yAr_uCj, yK_uCx, yL_uCx, yFi_uCx, yFj_uCx, yFr_uCx, yAi_uCx, yAd_uCx, yAr_uCx, yK_nO, yL_nO, yFi_nO, yFj_nO, yFr_nO, yAi_nO, yAj_nO, yAd_nO, yAr_nO, yK_nA, yL_nA, yFi_nA, yFj_nA, yFr_nA, yAi_nA, yAj_nA, yAd_nA, yAr_nA, yK_nC, yL_nC, yFi_nC, yFj_nC, yFr_nC, yAi_nC, yAj_nC, yAd_nC, yAr_nC, yu2, yAi_uCi', yAj_uCj', yAj_uCx']; rw [e1]; rfl
        · rw [← hρ]; simp only [yK_uFi, yL_uFi, yFj_uFi, yFr_uFi, yAi_uFi, yAj_uFi, yAd_uFi, yAr_uFi, yFi_uFi, yK_uFj, yL_uFj, yFi_uFj, yFr_uFj, yAi_uFj, yAj_uFj, yAd_uFj, yAr_uFj, yFj_uFj, yK_uFr, yL_uFr, yFi_uFr, yFj_uFr, yAi_uFr, yAj_uFr, yAd_uFr, yAr_uFr, yFr_uFr, yK_uAi, yL_uAi, yFi_uAi, yFj_uAi, yFr_uAi, yAj_uAi, yAd_uAi, yAr_uAi, yAi_uAi, yK_uAj, yL_uAj, yFi_uAj, yFj_uAj, yFr_uAj, yAi_uAj, yAd_uAj, yAr_uAj, yAj_uAj, yK_uAd, yL_uAd, yFi_uAd, yFj_uAd, yFr_uAd, yAi_uAd, yAj_uAd, yAr_uAd, yAd_uAd, yK_uAr, yL_uAr, yFi_uAr, yFj_uAr, yFr_uAr, yAi_uAr, yAj_uAr, yAd_uAr, yAr_uAr, yK_uCi, yL_uCi, yFi_uCi, yFj_uCi, yFr_uCi, yAj_uCi, yAd_uCi, yAr_uCi, yK_uCj, yL_uCj, yFi_uCj, yFj_uCj, yFr_uCj, yAi_uCj, yAd_uCj, yAr_uCj, yK_uCx, yL_uCx, yFi_uCx, yFj_uCx, yFr_uCx, yAi_uCx, yAd_uCx, yAr_uCx, yK_nO, yL_nO, yFi_nO, yFj_nO, yFr_nO, yAi_nO, yAj_nO, yAd_nO, yAr_nO, yK_nA, yL_nA, yFi_nA, yFj_nA, yFr_nA, yAi_nA, yAj_nA, yAd_nA, yAr_nA, yK_nC, yL_nC, yFi_nC, yFj_nC, yFr_nC, yAi_nC, yAj_nC, yAd_nC, yAr_nC, yu2, yAi_uCi', yAj_uCj', yAj_uCx']; rw [e2]
        · rw [← hρ]; simp only [yK_uFi, yL_uFi, yFj_uFi, yFr_uFi, yAi_uFi, yAj_uFi, yAd_uFi, yAr_uFi, yFi_uFi, yK_uFj, yL_uFj, yFi_uFj, yFr_uFj, yAi_uFj, yAj_uFj, yAd_uFj, yAr_uFj, yFj_uFj, yK_uFr, yL_uFr, yFi_uFr, yFj_uFr, yAi_uFr, yAj_uFr, yAd_uFr, yAr_uFr, yFr_uFr, yK_uAi, yL_uAi, yFi_uAi, yFj_uAi, yFr_uAi, yAj_uAi, yAd_uAi, yAr_uAi, yAi_uAi, yK_uAj, yL_uAj, yFi_uAj, yFj_uAj, yFr_uAj, yAi_uAj, yAd_uAj, yAr_uAj, yAj_uAj, yK_uAd, yL_uAd, yFi_uAd, yFj_uAd, yFr_uAd, yAi_uAd, yAj_uAd, yAr_uAd, yAd_uAd, yK_uAr, yL_uAr, yFi_uAr, yFj_uAr, yFr_uAr, yAi_uAr, yAj_uAr, yAd_uAr, yAr_uAr, yK_uCi, yL_uCi, yFi_uCi, yFj_uCi, yFr_uCi, yAj_uCi, yAd_uCi, yAr_uCi, yK_uCj, yL_uCj, yFi_uCj, yFj_uCj, yFr_uCj, yAi_uCj, yAd_uCj, yAr_uCj, yK_uCx, yL_uCx, yFi_uCx, yFj_uCx, yFr_uCx, yAi_uCx, yAd_uCx, yAr_uCx, yK_nO, yL_nO, yFi_nO, yFj_nO, yFr_nO, yAi_nO, yAj_nO, yAd_nO, yAr_nO, yK_nA, yL_nA, yFi_nA, yFj_nA, yFr_nA, yAi_nA, yAj_nA, yAd_nA, yAr_nA, yK_nC, yL_nC, yFi_nC, yFj_nC, yFr_nC, yAi_nC, yAj_nC, yAd_nC, yAr_nC, yu2, yAi_uCi', yAj_uCj', yAj_uCx']; rw [e3]
        · rw [← hρ]; simp only [yK_uFi, yL_uFi, yFj_uFi, yFr_uFi, yAi_uFi, yAj_uFi, yAd_uFi, yAr_uFi, yFi_uFi, yK_uFj, yL_uFj, yFi_uFj, yFr_uFj, yAi_uFj, yAj_uFj, yAd_uFj, yAr_uFj, yFj_uFj, yK_uFr, yL_uFr, yFi_uFr, yFj_uFr, yAi_uFr, yAj_uFr, yAd_uFr, yAr_uFr, yFr_uFr, yK_uAi, yL_uAi, yFi_uAi, yFj_uAi, yFr_uAi, yAj_uAi, yAd_uAi, yAr_uAi, yAi_uAi, yK_uAj, yL_uAj, yFi_uAj, yFj_uAj, yFr_uAj, yAi_uAj, yAd_uAj, yAr_uAj, yAj_uAj, yK_uAd, yL_uAd, yFi_uAd, yFj_uAd, yFr_uAd, yAi_uAd, yAj_uAd, yAr_uAd, yAd_uAd, yK_uAr, yL_uAr, yFi_uAr, yFj_uAr, yFr_uAr, yAi_uAr, yAj_uAr, yAd_uAr, yAr_uAr, yK_uCi, yL_uCi, yFi_uCi, yFj_uCi, yFr_uCi, yAj_uCi, yAd_uCi, yAr_uCi, yK_uCj, yL_uCj, yFi_uCj, yFj_uCj, yFr_uCj, yAi_uCj, yAd_uCj, yAr_uCj, yK_uCx, yL_uCx, yFi_uCx, yFj_uCx, yFr_uCx, yAi_uCx, yAd_uCx, yAr_uCx, yK_nO, yL_nO, yFi_nO, yFj_nO, yFr_nO, yAi_nO, yAj_nO, yAd_nO, yAr_nO, yK_nA, yL_nA, yFi_nA, yFj_nA, yFr_nA, yAi_nA, yAj_nA, yAd_nA, yAr_nA, yK_nC, yL_nC, yFi_nC, yFj_nC, yFr_nC, yAi_nC, yAj_nC, yAd_nC, yAr_nC, yu2, yAi_uCi', yAj_uCj', yAj_uCx', Option.some.injEq, exists_eq_left', true_and, and_true, not_false_eq_true, forall_const, false_and, and_false, reduceIte, Nat.reduceEqDiff, ne_eq]
      have hmf : Mfs ad ρ V.1.2.1 := r2.cg h2 f3 (by simp) (by simp) (by simp) (by simp) (by simp) (by simp) (by simp) (e17 _)
      refine M_weight h3 hmf hl hy (by omega) c2 c3 (fun σ4 f4 m4 => ?_)
      have h4 : Sh ad ct σ4 := h3.fr f4 (by simp) (by simp) (by simp)
      refine ⟨k17 h4, ?_⟩
      have f5 : Fr ct (fun c => c = (13, p) ∨ (1034 ≤ c.1 ∧ c.1 ≤ 1037 ∧ c.2 = 0)) σ2 σ4 := f3.tr f4
      have e18 := f5.fi (k17 h2) (by decide) (c17 h2) (by simp)
      have hA4 : MAct ad σ4 p (3, i, k, y.2.2.1 k, noT) := hA.cg h3 f4 hp (by simp) (by simp) (by simp) (by simp)
      have RR : RM ad σ4 (setF V.1 i (y.1, y.2.1, upF y.2.2.1 k x, y.2.2.2), psh (3, i, k, y.2.2.1 k, noT) V.2.1, V.2.2) :=
        ⟨r1.cg h2 f5 (by simp) (e18 _), m4, r3.cg h2 f5 (fun g g1 g2 q => by rcases q with q | q <;> simp at q <;> omega) (e18 _), r4.cg h2 f5 (fun k _ => ⟨by simp, by simp, by simp⟩), (r5.cg h2 f5 (by simp) (fun j _ hj => ⟨by simp [hj], by simp, by simp, by simp⟩) (e18 _)).fin hA4, r6.cg h2 f5 (by simp) (fun g g1 g2 q => by rcases q with q | q <;> simp at q <;> omega) (e18 _), (e18 _).trans r7⟩
      exact hQ _ ((f2.mono SA_sm).tr1 ((f5.mono (fun c q => by
        rcases q with rfl | q
        · exact smk _ _ (by decide)
        · exact smk c.1 c.2 (by omega))).tr1 (fr17 h4 1025 0))) (rmst h4 psh_len RR 0)
    have K : ∀ k : Nat, k < 4 → ∀ m : Nat, m < 4 → nI k = nI m → k = m := fun k hk m hm e => (nI_eq (by omega) (by omega)).mp e
    refine ⟨fun q0 => ⟨fun q1 => ⟨fun q2 => key 8 (fun k hk e => ?_), fun q2 => key _ (fun k hk e => ?_)⟩, fun q1 => key _ (fun k hk e => ?_)⟩, fun q0 => key _ (fun k hk e => ?_)⟩
    · match k, hk with
      | 0, _ => exact absurd e q0
      | 1, _ => exact absurd e q1
      | 2, _ => exact absurd e q2
      | 3, _ => rfl
    · have := K k hk 2 (by decide) (e.symm.trans q2); subst this; rfl
    · have := K k hk 1 (by decide) (e.symm.trans q1); subst this; rfl
    · have := K k hk 0 (by decide) (e.symm.trans q0); subst this; rfl
theorem M_told {V : Vt} (h0 : Sh ad ct σ) (R0 : RM ad σ V) (W : WFv V) (v wh : Int32) {Q : Int64 → St → Prop} (hQ0 : ∀ σ', Fr ct SM σ σ' → RM ad σ' V → Q (tolV v wh V) σ') : wX16_told (ad 17 0 0) v wh σ Q := by
  have wf := W.1.wf
  have hl := wf.2.2.1
  have ft := fr17 h0 1024 0
  have R := rmth h0 W.2.1 R0 0
  have h := h0.frM ft
  unfold wX16_told wX16_told_0
  generalize uFi σ 1024 (ad 17 0 0) 0 = τ at R h ft
  have hQ := hQ0 τ ft R
  refine ⟨k17 h0, M_isFact h R hl v (fun e => ⟨fun _ => ?_, fun q => absurd rfl q⟩) (fun i y hi e hy ey => ⟨fun q => absurd q (by decide), fun _ => ?_⟩)⟩
  · unfold tolV at hQ
    rw [e] at hQ
    exact hQ
  · subst e
    unfold tolV at hQ
    rw [ey] at hQ
    simp only at hQ
    obtain ⟨g1, g2, g3, g4, g5, g6, g7⟩ := R.2.1.2 i y hy
    obtain ⟨⟨t, ht, et⟩, hw⟩ := wf.2.2.2.1 i y hy
    obtain ⟨p, hp⟩ : ∃ p, V.1.1[t]? = some p := ⟨_, List.getElem?_eq_getElem ht⟩
    obtain ⟨pk, hp1, hp2, rfl⟩ := wf.2.1 t p hp
    have it : ix (nI t) = t := nI_clamp (by have := wf.1; omega)
    have ii : ix (nI i) = i := nI_clamp (by omega)
    have ip : ix (nI pk) = pk := nI_clamp (by omega)
    rw [et, it, hp] at hQ
    simp only [ip] at hQ
    refine ⟨fun c => ?_, fun c => ?_⟩
    · rw [if_pos (Or.inl c)] at hQ
      exact hQ
    · obtain ⟨k, hk, rfl⟩ := nI_of c
      have ek : ix (nI k) = k := nI_clamp hk
      rw [ek] at hQ
      refine pk_le k 10 (fun d10 => ?_) (fun d10 => ?_)
      · rw [if_neg (fun q => q.elim c (fun w => w (nI_le (b := 10) d10 (by decide))))] at hQ
        refine pk_le 4 k (fun d => ⟨k17 h, _, p1031 h, _, p1032 h, k1032 h, by rw [l1032 h]; exact vp_in_nI (by omega) (by decide), k1031 h, ?_, ?_⟩) (fun d => ⟨k17 h, ?_⟩)
        · rw [ii, g1, et, l1031 h]; exact vp_in_nI (by have := wf.1; omega) (by decide)
        · rw [if_neg (by omega)] at hQ
          rw [ii, g1, et, it, R.1.2 t _ hp]
          refine ⟨fun q => ?_, fun q => ?_, fun q => ?_, fun q4 q5 q6 => ?_⟩
          · have q := (nI_eq (b := 4) hk (by decide)).mp q
            subst q
            refine ⟨_, p1038 h, k1038 h, by rw [l1038 h]; exact vp_in_nI (by omega) (by decide), ?_⟩
            rw [g7]
            have hQ : Q (b2j y.2.2.2) τ := hQ
            cases e : y.2.2.2 with
            | false => rw [e] at hQ; exact ⟨fun _ => hQ, fun z => absurd rfl z⟩
            | true => rw [e] at hQ; exact ⟨fun z => absurd z (by decide), fun _ => hQ⟩
          · have q := (nI_eq (b := 5) hk (by decide)).mp q
            subst q
            exact hQ
          · have q := (nI_eq (b := 6) hk (by decide)).mp q
            subst q
            exact hQ
          · have e4 : k ≠ 4 := fun e => q4 (by rw [e]; rfl)
            have e5 : k ≠ 5 := fun e => q5 (by rw [e]; rfl)
            have e6 : k ≠ 6 := fun e => q6 (by rw [e]; rfl)
            have em : nI k - 7 = nI (k - 7) := pk_sub (b := 7) (by omega)
            have en : 4 * nI i + nI k - 7 = nI (4 * i + (k - 7)) := by
              rw [show (4 : Int32) = nI 4 from rfl, pk_mul, nI_add]
              exact (pk_sub (b := 7) (by omega)).trans (congrArg nI (by omega))
            rw [em, en, show ix (nI (4 * i + (k - 7))) = 4 * i + (k - 7) from nI_clamp (by omega)]
            rw [if_neg e4, if_neg e5, if_neg e6] at hQ
            refine pk_le pk (k - 7) (fun z => ?_) (fun z => ⟨_, p1033 h, k1033 h, by rw [l1033 h]; exact vp_in_nI (by omega) (by decide), ?_⟩)
            · rw [if_neg (by omega)] at hQ
              exact hQ
            · rw [if_pos z] at hQ
              rw [g2 _ (by omega)]
              exact hQ
        · rw [if_pos d] at hQ
          exact M_weighs h R.2.1 hl hy hw d hQ
      · rw [if_pos (show nI k < 0 ∨ ¬ nI k ≤ 10 from Or.inr (fun w => by have := (nI_leI (b := 10) hk (by decide)).mp w; omega))] at hQ
        exact hQ
end M4
