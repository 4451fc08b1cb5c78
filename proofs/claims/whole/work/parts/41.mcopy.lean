section M10
variable {ad : Ad} {ct : Ct} {σ : St}
theorem bmod32 {z : Int} (h1 : -2147483648 ≤ z) (h2 : z < 2147483648) : z.bmod (2 ^ 32) = z := by
  rw [Int.bmod_def]; omega
theorem sub_T {a i : Nat} (ha : a < 2 ^ 31) (hi : i < 2 ^ 31) : (nI a - nI i).toInt = (a : Int) - i := by
  rw [Int32.toInt_sub, nI_toInt ha, nI_toInt hi]
  exact bmod32 (by omega) (by omega)
theorem sub_lt {a i n : Nat} (ha : a < 2 ^ 31) (hi : i < 2 ^ 31) (hn : n < 2 ^ 31) : nI a - nI i < nI n ↔ a < i + n := by
  rw [Int32.lt_iff_toInt_lt, sub_T ha hi, nI_toInt hn]; omega
theorem le_sub {a i n : Nat} (ha : a < 2 ^ 31) (hi : i < 2 ^ 31) (hn : n < 2 ^ 31) : nI n ≤ nI a - nI i ↔ i + n ≤ a := by
  rw [Int32.le_iff_toInt_le, sub_T ha hi, nI_toInt hn]; omega
set_option maxHeartbeats 1000000 in
theorem M_copy {V : Vt} (h0 : Sh ad ct σ) (R0 : RM ad σ V) (W : WFv V) (j i k m n : Int32) {Q : Int32 → St → Prop} (hQ0 : ∀ σ', Fr ct SM σ σ' → RM ad σ' (copV j i k m n V).2 → Q (copV j i k m n V).1 σ') : wX16_copy (ad 17 0 0) j i k m n σ Q := by
  have ft := fr17 h0 1024 0
  have R := rmth h0 W.2.1 R0 0
  have h := h0.frM ft
  unfold wX16_copy wX16_copy_0
  generalize uFi σ 1024 (ad 17 0 0) 0 = τ at R h ft
  have hQ : ∀ σ', Fr ct SM τ σ' → RM ad σ' (copV j i k m n V).2 → Q (copV j i k m n V).1 σ' := fun σ' f r => hQ0 σ' (ft.tr1 f) r
  unfold copV at hQ
  have c1 : (badS j ∨ badS k) → wX16_copy_19 Q (ad 17 0 0) τ := fun z => by
    simp only [if_pos z] at hQ
    exact ⟨k17 h, M_ref h W.2.1 R 1 hQ⟩
  refine ⟨k17 h0, M_isS j (fun c => ⟨fun _ => c1 (Or.inl c), fun z => absurd rfl z⟩) (fun a ha ea nba => ⟨fun z => absurd z (by decide), fun _ => ?_⟩)⟩
  refine M_isS k (fun c => ⟨fun z => absurd rfl z, fun _ => c1 (Or.inr c)⟩) (fun b hb eb nbb => ⟨fun _ => ?_, fun z => absurd z (by decide)⟩)
  subst ea
  subst eb
  simp only [if_neg (show ¬ (badS (nI a) ∨ badS (nI b)) from fun z => z.elim nba nbb)] at hQ
  rw [show ix (nI a) = a from nI_clamp (by omega), show ix (nI b) = b from nI_clamp (by omega)] at hQ
  obtain ⟨v1, v2⟩ := M_shl (V := V) h ha
  obtain ⟨u1, u2⟩ := M_shl (V := V) h hb
  have ga := R.2.2.2.1 a ha
  have gb := R.2.2.2.1 b hb
  have c7 : ((V.1.2.2.2 a).1 ≠ 3 ∨ (V.1.2.2.2 b).1 ≠ 3) → wX16_copy_59 Q (ad 17 0 0) τ := fun z => by
    simp only [if_pos z] at hQ
    exact ⟨k17 h, M_ref h W.2.1 R 7 hQ⟩
  have a120 : 100 + a < 120 := by omega
  have b120 : 100 + b < 120 := by omega
  refine ⟨k17 h, _, p1052 h, k1052 h, v1, _, v2, u1, _, u2, k16 h a120, ?_⟩
  rw [ga.1, gb.1]
  have E1 : nI (V.1.2.2.2 a).1 = 3 ↔ (V.1.2.2.2 a).1 = 3 := nI_eq (b := 3) (by have := ga.2.1; omega) (by decide)
  have E2 : nI (V.1.2.2.2 b).1 = 3 ↔ (V.1.2.2.2 b).1 = 3 := nI_eq (b := 3) (by have := gb.2.1; omega) (by decide)
  refine ⟨fun w => c7 (Or.inl (fun q => w (E1.mpr q))), fun w1 => ⟨k16 h b120, fun w2 => ?_, fun w => c7 (Or.inr (fun q => w (E2.mpr q)))⟩⟩
  have w1 := E1.mp w1
  have w2 := E2.mp w2
  simp only [if_neg (show ¬ ((V.1.2.2.2 a).1 ≠ 3 ∨ (V.1.2.2.2 b).1 ≠ 3) from fun z => z.elim (fun q => q w1) (fun q => q w2))] at hQ
  obtain ⟨za, zb, zc⟩ := ga.2.2.2.2.1 w1
  obtain ⟨ya, yb, yc⟩ := gb.2.2.2.2.1 w2
  have c2 : (i < 0 ∨ m < 0 ∨ n < 0 ∨ (V.1.2.2.2 a).2.length < ix i + ix n ∨ (V.1.2.2.2 b).2.length < ix m + ix n) → wX16_copy_105 Q (ad 17 0 0) τ := fun z => by
    simp only [if_pos z] at hQ
    exact ⟨k17 h, M_ref h W.2.1 R 2 hQ⟩
  refine ⟨fun z => c2 (Or.inl z), fun i0 => ⟨fun z => c2 (Or.inr (Or.inl z)), fun m0 => ⟨fun z => c2 (Or.inr (Or.inr (Or.inl z))), fun n0 => ?_⟩⟩⟩
  obtain ⟨I, hI, rfl⟩ := nI_of i0
  obtain ⟨M, hM, rfl⟩ := nI_of m0
  obtain ⟨n', hN, rfl⟩ := nI_of n0
  rw [show ix (nI I) = I from nI_clamp hI, show ix (nI M) = M from nI_clamp hM, show ix (nI n') = n' from nI_clamp hN] at hQ c2
  rw [za, ya]
  refine ⟨fun z => c2 (Or.inr (Or.inr (Or.inr (Or.inl ((sub_lt (by omega) hI hN).mp z))))), fun z1 => ⟨fun z2 => ?_, fun z2 => c2 (Or.inr (Or.inr (Or.inr (Or.inr ?_))))⟩⟩
  rotate_left
  · have : ¬ (M + n' ≤ (V.1.2.2.2 b).2.length) := fun w => z2 ((le_sub (by omega) hM hN).mpr w)
    omega
  have q1 : I + n' ≤ (V.1.2.2.2 a).2.length := by
    have : ¬ ((V.1.2.2.2 a).2.length < I + n') := fun w => z1 ((sub_lt (by omega) hI hN).mpr w)
    omega
  have q2 : M + n' ≤ (V.1.2.2.2 b).2.length := (le_sub (by omega) hM hN).mp z2
  simp only [if_neg (show ¬ (nI I < 0 ∨ nI M < 0 ∨ nI n' < 0 ∨ (V.1.2.2.2 a).2.length < I + n' ∨ (V.1.2.2.2 b).2.length < M + n') from fun z => by
    rcases z with z | z | z | z | z
    · exact i0 z
    · exact m0 z
    · exact n0 z
    · omega
    · omega)] at hQ
  refine M_actR h W.2.1 R (fun p σ2 hp f2 h2 e1 e2 e3 R2 => ⟨k13 h2 hp, _, p772 h2 hp, k16 h2 (by omega), ?_⟩)
  refine M_become h2 (by omega) b120 (by omega) (R2.2.2.2.1 b hb) (fun σ3 f3 m3 => ?_)
  have f3' : Fr ct (S4 p b) σ2 σ3 := f3.mono S3_4a
  have h3 : Sh ad ct σ3 := h2.fr f3 (S3n (Or.inl (by decide))) (S3n (Or.inl (by decide))) (S3n (Or.inl (by decide)))
  have ma : MThg ad σ3 (100 + a) (V.1.2.2.2 a) := (R2.2.2.2.1 a ha).cg h2 f3 a120 (S3n (Or.inr (by omega))) (S3n (Or.inr (by omega))) (S3n (Or.inr (by omega)))
  have mb : MThg ad σ3 (100 + b) (V.1.2.2.2 b) := (R2.2.2.2.1 b hb).cg h2 f3 b120 (S3n (Or.inr (by omega))) (S3n (Or.inr (by omega))) (S3n (Or.inr (by omega)))
  have s4r : S4 p b (ct (ad 1055 0 0)) := by rw [c1055 h]; exact Or.inr rfl
  have s4v : S4 p b (ct (ad 963 (100 + b) 0)) := by rw [c963 h b120]; exact Or.inl ⟨Or.inr (Or.inl rfl), Or.inr rfl⟩
  have shr : ∀ {ρ}, Fr ct (S4 p b) σ3 ρ → Sh ad ct ρ := fun fr => h3.fr fr (S4n (Or.inl (by decide)) (by decide)) (S4n (Or.inl (by decide)) (by decide)) (S4n (Or.inl (by decide)) (by decide))
  have nrv : ad 963 (100 + b) 0 ≠ ad 1055 0 0 := adne (c963 h b120) (c1055 h) (by simp)
  have nra : ad 963 (100 + a) 0 ≠ ad 1055 0 0 := adne (c963 h a120) (c1055 h) (by simp)
  have L2 : ∀ (d x : Nat) (ρ : St), x + d = n' → Fr ct (S4 p b) σ3 ρ → (∀ t, t < n' → zAi ρ (ad 1055 0 0) t = zAi σ3 (ad 963 (100 + a) 0) (I + t)) → (∀ t, zAi ρ (ad 963 (100 + b) 0) t = if M ≤ t ∧ t < M + x then zAi σ3 (ad 963 (100 + a) 0) (I + (t - M)) else zAi σ3 (ad 963 (100 + b) 0) t) → (∀ t, zAj ρ (ad 964 (100 + b) 0) t = zAj σ3 (ad 964 (100 + b) 0) t) → (∀ g, zFi ρ g (ad 16 (100 + b) 0) = zFi σ3 g (ad 16 (100 + b) 0)) → MThg ad ρ p (V.1.2.2.2 b) → lX16_copy_162 Q (d + 1) (ad 17 0 0) (nI M) (nI n') (ad 16 (100 + b) 0) (nI x) ρ := by
    intro d
    induction d with
    | zero =>
      intro x ρ hx fr qr qv q64 q16 qp
      have hr := shr fr
      have hx : x = n' := by omega
      refine ⟨fun _ => ⟨k17 hr, ?_⟩, fun c => absurd (nI_le (by omega) (by omega)) c⟩
      have mt : MThg ad ρ (100 + b) (3, cpL (V.1.2.2.2 a).2 (V.1.2.2.2 b).2 I M n') := by
        obtain ⟨g1, g2, g3, g4, g5, g6⟩ := mb
        refine ⟨by rw [q16, g1, w2], (by decide : 3 < 5), fun z => absurd z (show ¬ 3 = 0 by decide), fun z => absurd z (show ¬ (3 = 1 ∨ 3 = 2) by decide), fun _ => ⟨?_, ?_, fun t v hv => ?_⟩, fun z => absurd z (show ¬ 3 = 4 by decide)⟩
        · rw [q16, (g5 w2).1]; show _ = nI (cpL (V.1.2.2.2 a).2 (V.1.2.2.2 b).2 I M n').length; rw [cpL_len q1 q2]
        · show (cpL (V.1.2.2.2 a).2 (V.1.2.2.2 b).2 I M n').length ≤ 6; rw [cpL_len q1 q2]; exact yb
        · have hv : (cpL (V.1.2.2.2 a).2 (V.1.2.2.2 b).2 I M n')[t]? = some v := hv
          rw [cpL_get q1 q2] at hv
          rw [qv, hx]
          by_cases c : M ≤ t ∧ t < M + n'
          · rw [if_pos c] at hv ⊢
            exact (ma.2.2.2.2.1 w1).2.2 _ v hv
          · rw [if_neg c] at hv ⊢
            exact (g5 w2).2.2 _ v hv
      have fa : Fr ct (S4 p b) σ2 ρ := f3'.tr1 fr
      obtain ⟨hr2, RR⟩ := M_layfin hp hb h2 R2 e1 e2 fa qp mt
      exact M_done hr psh_len RR 1 (fun σ4 f4 R4 => hQ σ4 ((f2.mono SA_sm).tr1 ((fa.mono S4_sm).tr1 f4)) R4)
    | succ d ih =>
      intro x ρ hx fr qr qv q64 q16 qp
      have hr := shr fr
      refine ⟨fun c => absurd c (nI_ge (by omega) (by omega)), fun _ => ⟨k16 hr b120, _, p963 hr b120, k17 hr, _, p1055 hr, k1055 hr, by rw [l1055 hr]; exact vp_in_nI (by omega) (by decide), k963 hr b120, by rw [nI_add, l963 hr b120]; exact vp_in_nI (by omega) (by decide), ?_⟩⟩
      rw [nI_add, nI_1, show ix (nI (M + x)) = M + x from nI_clamp (by omega), show ix (nI x) = x from nI_clamp (by omega), qr x (by omega)]
      have fr2 := fr.uAi (ad 963 (100 + b) 0) (M + x) (zAi σ3 (ad 963 (100 + a) 0) (I + x)) (Or.inl s4v)
      refine ih (x + 1) _ (by omega) fr2 (fun t ht => ?_) (fun t => ?_) (fun t => q64 t) (fun g => q16 g) ?_
      · simp only [yK_uFi, yL_uFi, yFj_uFi, yFr_uFi, yAi_uFi, yAj_uFi, yAd_uFi, yAr_uFi, yFi_uFi, yK_uFj, yL_uFj, yFi_uFj, yFr_uFj, yAi_uFj, yAj_uFj, yAd_uFj, yAr_uFj, yFj_uFj, yK_uFr, yL_uFr, yFi_uFr, yFj_uFr, yAi_uFr, yAj_uFr, yAd_uFr, yAr_uFr, yFr_uFr, yK_uAi, yL_uAi, yFi_uAi, yFj_uAi, yFr_uAi, yAj_uAi, yAd_uAi, yAr_uAi, yAi_uAi, yK_uAj, yL_uAj, yFi_uAj, yFj_uAj, yFr_uAj, yAi_uAj, yAd_uAj, yAr_uAj, yAj_uAj, yK_uAd, yL_uAd, yFi_uAd, yFj_uAd, yFr_uAd, yAi_uAd, yAj_uAd, yAr_uAd, yAd_uAd, yK_uAr, yL_uAr, yFi_uAr, yFj_uAr, yFr_uAr, yAi_uAr, yAj_uAr, yAd_uAr, yAr_uAr, yK_uCi, yL_uCi, yFi_uCi, yFj_uCi, yFr_uCi, yAj_uCi, yAd_uCi, yAr_uCi, yK_uCj, yL_uCj, yFi_uCj, yFj_uCj, yFr_uCj, yAi_uCj, yAd_uCj, yAr_uCj, yK_uCx, yL_uCx, yFi_uCx, yFj_uCx, yFr_uCx, yAi_uCx, yAd_uCx, yAr_uCx, yK_nO, yL_nO, yFi_nO, yFj_nO, yFr_nO, yAi_nO, yAj_nO, yAd_nO, yAr_nO, yK_nA, yL_nA, yFi_nA, yFj_nA, yFr_nA, yAi_nA, yAj_nA, yAd_nA, yAr_nA, yK_nC, yL_nC, yFi_nC, yFj_nC, yFr_nC, yAi_nC, yAj_nC, yAd_nC, yAr_nC, yu2, yAi_uCi', yAj_uCj', yAj_uCx', nrv.symm, Option.some.injEq, exists_eq_left', true_and, and_true, not_false_eq_true, forall_const, false_and, and_false, reduceIte, Nat.reduceEqDiff, ne_eq]; exact qr t ht
      · simp only [yK_uFi, yL_uFi, yFj_uFi, yFr_uFi, yAi_uFi, yAj_uFi, yAd_uFi, yAr_uFi, yFi_uFi, yK_uFj, yL_uFj, yFi_uFj, yFr_uFj, yAi_uFj, yAj_uFj, yAd_uFj, yAr_uFj, yFj_uFj, yK_uFr, yL_uFr, yFi_uFr, yFj_uFr, yAi_uFr, yAj_uFr, yAd_uFr, yAr_uFr, yFr_uFr, yK_uAi, yL_uAi, yFi_uAi, yFj_uAi, yFr_uAi, yAj_uAi, yAd_uAi, yAr_uAi, yAi_uAi, yK_uAj, yL_uAj, yFi_uAj, yFj_uAj, yFr_uAj, yAi_uAj, yAd_uAj, yAr_uAj, yAj_uAj, yK_uAd, yL_uAd, yFi_uAd, yFj_uAd, yFr_uAd, yAi_uAd, yAj_uAd, yAr_uAd, yAd_uAd, yK_uAr, yL_uAr, yFi_uAr, yFj_uAr, yFr_uAr, yAi_uAr, yAj_uAr, yAd_uAr, yAr_uAr, yK_uCi, yL_uCi, yFi_uCi, yFj_uCi, yFr_uCi, yAj_uCi, yAd_uCi, yAr_uCi, yK_uCj, yL_uCj, yFi_uCj, yFj_uCj, yFr_uCj, yAi_uCj, yAd_uCj, yAr_uCj, yK_uCx, yL_uCx, yFi_uCx, yFj_uCx, yFr_uCx, yAi_uCx, yAd_uCx, yAr_uCx, yK_nO, yL_nO, yFi_nO, yFj_nO, yFr_nO, yAi_nO, yAj_nO, yAd_nO, yAr_nO, yK_nA, yL_nA, yFi_nA, yFj_nA, yFr_nA, yAi_nA, yAj_nA, yAd_nA, yAr_nA, yK_nC, yL_nC, yFi_nC, yFj_nC, yFr_nC, yAi_nC, yAj_nC, yAd_nC, yAr_nC, yu2, yAi_uCi', yAj_uCj', yAj_uCx', Option.some.injEq, exists_eq_left', true_and, and_true, not_false_eq_true, forall_const, false_and, and_false, reduceIte, Nat.reduceEqDiff, ne_eq]
        by_cases c : t = M + x
        · rw [if_pos c, if_pos (by omega), c, show M + x - M = x by omega]
        · rw [if_neg c, qv]
          by_cases c2 : M ≤ t ∧ t < M + x
          · rw [if_pos c2, if_pos (by omega)]
          · rw [if_neg c2, if_neg (by omega)]
      · have fv : Fr ct (fun c => c = (963, 100 + b)) ρ (uAi ρ (ad 963 (100 + b) 0) (M + x) (zAi σ3 (ad 963 (100 + a) 0) (I + x))) := Fr.rf.uAi _ _ _ (Or.inl (c963 h b120))
        exact qp.cg hr fv (by omega) (by simp) (by simp; omega) (by simp)
  have L1 : ∀ (d x : Nat) (ρ : St), x + d = n' → Fr ct (fun c => c = (1055, 0)) σ3 ρ → (∀ t, t < x → zAi ρ (ad 1055 0 0) t = zAi σ3 (ad 963 (100 + a) 0) (I + t)) → lX16_copy_129 Q (d + 1) (ad 17 0 0) (nI I) (nI M) (nI n') (ad 16 (100 + a) 0) (ad 16 (100 + b) 0) (nI x) ρ := by
    intro d
    induction d with
    | zero =>
      intro x ρ hx fr qr
      have fr4 : Fr ct (S4 p b) σ3 ρ := fr.mono (fun c q => Or.inr q)
      refine ⟨fun _ => ⟨n' + 1, L2 n' 0 ρ (by omega) fr4 (fun t ht => qr t (by omega)) (fun t => ?_) (fun t => ?_) (fun g => ?_) ?_⟩, fun c => absurd (nI_le (by omega) (by omega)) c⟩
      · rw [if_neg (by omega)]; exact fr.ai (k963 h3 b120) (by decide) (c963 h3 b120) (by simp) t
      · exact fr.aj (k964 h3 b120) (by decide) (c964 h3 b120) (by simp) t
      · exact fr.fi (k16 h3 b120) (by decide) (c16 h3 b120) (by simp) g
      · exact m3.cg h3 fr (by omega) (by simp) (by simp) (by simp)
    | succ d ih =>
      intro x ρ hx fr qr
      have hr : Sh ad ct ρ := h3.fr fr (by decide) (by decide) (by decide)
      refine ⟨fun c => absurd c (nI_ge (by omega) (by omega)), fun _ => ⟨k17 hr, _, p1055 hr, k16 hr a120, _, p963 hr a120, k963 hr a120, by rw [nI_add, l963 hr a120]; exact vp_in_nI (by omega) (by decide), k1055 hr, by rw [l1055 hr]; exact vp_in_nI (by omega) (by decide), ?_⟩⟩
      rw [nI_add, nI_1, show ix (nI (I + x)) = I + x from nI_clamp (by omega), show ix (nI x) = x from nI_clamp (by omega)]
      refine ih (x + 1) _ (by omega) (fr.uAi _ _ _ (Or.inl (c1055 h))) (fun t ht => ?_)
      simp only [yK_uFi, yL_uFi, yFj_uFi, yFr_uFi, yAi_uFi, yAj_uFi, yAd_uFi, yAr_uFi, yFi_uFi, yK_uFj, yL_uFj, yFi_uFj, yFr_uFj, yAi_uFj, yAj_uFj, yAd_uFj, yAr_uFj, yFj_uFj, yK_uFr, yL_uFr, yFi_uFr, yFj_uFr, yAi_uFr, yAj_uFr, yAd_uFr, yAr_uFr, yFr_uFr, yK_uAi, yL_uAi, yFi_uAi, yFj_uAi, yFr_uAi, yAj_uAi, yAd_uAi, yAr_uAi, yAi_uAi, yK_uAj, yL_uAj, yFi_uAj, yFj_uAj, yFr_uAj, yAi_uAj, yAd_uAj, yAr_uAj, yAj_uAj, yK_uAd, yL_uAd, yFi_uAd, yFj_uAd, yFr_uAd, yAi_uAd, yAj_uAd, yAr_uAd, yAd_uAd, yK_uAr, yL_uAr, yFi_uAr, yFj_uAr, yFr_uAr, yAi_uAr, yAj_uAr, yAd_uAr, yAr_uAr, yK_uCi, yL_uCi, yFi_uCi, yFj_uCi, yFr_uCi, yAj_uCi, yAd_uCi, yAr_uCi, yK_uCj, yL_uCj, yFi_uCj, yFj_uCj, yFr_uCj, yAi_uCj, yAd_uCj, yAr_uCj, yK_uCx, yL_uCx, yFi_uCx, yFj_uCx, yFr_uCx, yAi_uCx, yAd_uCx, yAr_uCx, yK_nO, yL_nO, yFi_nO, yFj_nO, yFr_nO, yAi_nO, yAj_nO, yAd_nO, yAr_nO, yK_nA, yL_nA, yFi_nA, yFj_nA, yFr_nA, yAi_nA, yAj_nA, yAd_nA, yAr_nA, yK_nC, yL_nC, yFi_nC, yFj_nC, yFr_nC, yAi_nC, yAj_nC, yAd_nC, yAr_nC, yu2, yAi_uCi', yAj_uCj', yAj_uCx', Option.some.injEq, exists_eq_left', true_and, and_true, not_false_eq_true, forall_const, false_and, and_false, reduceIte, Nat.reduceEqDiff, ne_eq]
      by_cases c : t = x
      · rw [if_pos c, c]; exact fr.ai (k963 h3 a120) (by decide) (c963 h3 a120) (by simp) _
      · rw [if_neg c]; exact qr t (by omega)
  exact ⟨n' + 1, L1 n' 0 σ3 (by omega) Fr.rf (fun t ht => absurd ht (Nat.not_lt_zero t))⟩
end M10
