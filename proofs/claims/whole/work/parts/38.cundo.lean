section K11
variable {ad : Ad} {ct : Ct} {σ : St}
theorem C_size {V : Vt} (h : Sh ad ct σ) (R : RC ad ct σ V) (w : Int32) {Q : Int32 → St → Prop} (hQ : Q (sizV w V) σ) : wX11_size (ad 12 0 0) w σ Q := by
  unfold sizV at hQ
  obtain ⟨w', q, -⟩ := R.2.2.2.2.2.1
  refine ⟨fun z => ⟨k12 h, _, p704 h, k7 h, ?_⟩, fun z => ⟨k12 h, _, p704 h, k7 h, ?_⟩, fun z => ⟨k12 h, ?_⟩, fun z => ⟨k12 h, _, p708 h, k4 h (by decide), ?_⟩, fun z => ⟨k12 h, _, p713 h, k2 h, ?_⟩, fun z0 z1 z2 z3 z4 => ?_⟩
  · subst z; rw [R.1.1]; exact hQ
  · subst z; rw [R.2.1.1]; exact hQ
  · subst z; rw [R.2.2.1.1]; exact hQ
  · subst z; rw [q.1]; exact hQ
  · subst z; rw [R.2.2.2.2.1.1]; exact hQ
  · rw [if_neg z0, if_neg z1, if_neg z2, if_neg z3, if_neg z4] at hQ; exact hQ
theorem C_status {V : Vt} (h : Sh ad ct σ) (R : RC ad ct σ V) {Q : Int32 → St → Prop} (hQ : Q V.2.2.2 σ) : wX11_status (ad 12 0 0) σ Q := by
  refine ⟨k12 h, ?_⟩
  rw [R.2.2.2.2.2.2.1]; exact hQ
theorem C_many {x y m n len : Nat} {v1 v2 : Int32} (kx : zK σ x = 11) (ey : zFr σ 641 x = some y) (ky : zK σ y = 21) (ly : zL σ y = len) (l16 : len ≤ 16) {Q : Int32 → St → Prop} (h0 : (v1 < 0 ∨ v2 < 0 ∨ len < ix v1 + ix v2) → Q 0 σ) (h1 : ¬ (v1 < 0 ∨ v2 < 0 ∨ len < ix v1 + ix v2) → Q 1 σ) : wX11_hasSoMany x v1 v2 σ Q := by
  refine ⟨fun c => h0 (Or.inl c), fun c => ⟨fun d => h0 (Or.inr (Or.inl d)), fun d => ⟨kx, y, ey, by rw [ky]; decide, ?_⟩⟩⟩
  obtain ⟨a, ha, rfl⟩ := nI_of c
  obtain ⟨b, hb, rfl⟩ := nI_of d
  rw [show ix (nI a) = a from nI_clamp ha, show ix (nI b) = b from nI_clamp hb] at h0 h1
  rw [ly]
  show (nI len < nI b → _) ∧ (¬ nI len < nI b → _ ∧ ((nI len - nI b < nI a → _) ∧ _))
  refine pk_lt len b (fun z => h0 (Or.inr (Or.inr (by omega)))) (fun z => ⟨by rw [ky]; decide, ?_⟩)
  show (nI len - nI b < nI a → _) ∧ (¬ nI len - nI b < nI a → _)
  rw [pk_sub z]
  refine pk_lt (len - b) a (fun w => h0 (Or.inr (Or.inr (by omega)))) (fun w => h1 ?_)
  rintro (q | q | q)
  · exact c q
  · exact d q
  · omega
theorem C_copy {V : Vt} (h : Sh ad ct σ) (R : RC ad ct σ V) (W : WFv V) (j i k m n : Int32) {Q : Int32 → St → Prop} (hQ : ∀ σ', Fr ct SC σ σ' → RC ad ct σ' (copV j i k m n V).2 → Q (copV j i k m n V).1 σ') : wX11_copy 10 100 (ad 12 0 0) j i k m n σ Q := by
  unfold copV at hQ
  have c1 : (badS j ∨ badS k) → wX11_copy_16 10 100 Q 0 0 (ad 12 0 0) σ := fun z => by
    simp only [if_pos z] at hQ
    exact ⟨by decide, by decide, k12 h, C_ref h R 1 (fun σ' f r => ⟨by decide, by decide, hQ σ' f r⟩)⟩
  refine ⟨by decide, by decide, k12 h, C_isS j (fun c => ⟨fun _ => c1 (Or.inl c), fun z => absurd rfl z⟩) (fun a ha ea nba => ⟨fun z => absurd z (by decide), fun _ => ⟨by decide, by decide, k12 h, ?_⟩⟩)⟩
  refine C_isS k (fun c => ⟨fun z => absurd rfl z, fun _ => c1 (Or.inr c)⟩) (fun b hb eb nbb => ⟨fun _ => ?_, fun z => absurd z (by decide)⟩)
  subst ea
  subst eb
  simp only [if_neg (show ¬ (badS (nI a) ∨ badS (nI b)) from fun z => z.elim nba nbb)] at hQ
  rw [show ix (nI a) = a from nI_clamp (by omega), show ix (nI b) = b from nI_clamp (by omega)] at hQ
  obtain ⟨v1, v2⟩ := C_shl h R ha
  obtain ⟨u1, u2⟩ := C_shl h R hb
  have c7 : ((V.1.2.2.2 a).1 ≠ 3 ∨ (V.1.2.2.2 b).1 ≠ 3) → wX11_copy_66 10 100 Q 0 0 (ad 12 0 0) σ := fun z => by
    simp only [if_pos z] at hQ
    exact ⟨by decide, by decide, k12 h, C_ref h R 7 (fun σ' f r => ⟨by decide, by decide, hQ σ' f r⟩)⟩
  refine ⟨k12 h, _, p712 h, k712 h, v1, fun o16 e16 => ⟨u1, fun o19 e19 => ?_⟩⟩
  rw [e16] at v2
  rw [e19] at u2
  rcases v2 with ⟨x1, x2⟩ | ⟨x, y, x1, kx, cx, es, g1, g5, ey, ky, cy, ly, l16, hl⟩
  · exact ⟨fun _ => c7 (Or.inl (by rw [x2]; decide)), fun a w => by rw [x1] at w; cases w⟩
  · refine ⟨fun w => (by rw [x1] at w; cases w), fun xx w => ?_⟩
    rw [x1] at w; cases w
    rcases u2 with ⟨z1, z2⟩ | ⟨x', y', z1, kx', cx', es', g1', g5', ey', ky', cy', ly', l16', hl'⟩
    · exact ⟨fun _ => c7 (Or.inr (by rw [z2]; decide)), fun a w => by rw [z1] at w; cases w⟩
    · refine ⟨fun w => (by rw [z1] at w; cases w), fun xx w => ⟨kx, ?_⟩⟩
      rw [z1] at w; cases w
      rw [es, es']
      have E1 : nI (V.1.2.2.2 a).1 = 3 ↔ (V.1.2.2.2 a).1 = 3 := nI_eq (b := 3) (by omega) (by decide)
      have E2 : nI (V.1.2.2.2 b).1 = 3 ↔ (V.1.2.2.2 b).1 = 3 := nI_eq (b := 3) (by omega) (by decide)
      refine ⟨fun w => c7 (Or.inl (fun q => w (E1.mpr q))), fun w1 => ⟨kx', fun w2 => ⟨by decide, by decide, ?_⟩, fun w => c7 (Or.inr (fun q => w (E2.mpr q)))⟩⟩
      simp only [if_neg (show ¬ ((V.1.2.2.2 a).1 ≠ 3 ∨ (V.1.2.2.2 b).1 ≠ 3) from fun z => z.elim (fun q => q (E1.mp w1)) (fun q => q (E2.mp w2)))] at hQ
      have c2 : (i < 0 ∨ m < 0 ∨ n < 0 ∨ (V.1.2.2.2 a).2.length < ix i + ix n ∨ (V.1.2.2.2 b).2.length < ix m + ix n) → wX11_copy_96 10 100 Q 0 0 (ad 12 0 0) σ := fun z => by
        simp only [if_pos z] at hQ
        exact ⟨by decide, by decide, k12 h, C_ref h R 2 (fun σ' f r => ⟨by decide, by decide, hQ σ' f r⟩)⟩
      refine C_many (m := 0) (n := 0) kx ey ky ly l16 (fun z => ⟨fun _ => c2 ?_, fun q => absurd rfl q⟩) (fun na => ⟨fun q => absurd q (by decide), fun _ => ⟨by decide, by decide, ?_⟩⟩)
      · rcases z with z | z | z
        · exact Or.inl z
        · exact Or.inr (Or.inr (Or.inl z))
        · exact Or.inr (Or.inr (Or.inr (Or.inl z)))
      refine C_many (m := 0) (n := 0) kx' ey' ky' ly' l16' (fun z => ⟨fun q => absurd rfl q, fun _ => c2 ?_⟩) (fun nb => ⟨fun _ => ?_, fun q => absurd q (by decide)⟩)
      · rcases z with z | z | z
        · exact Or.inr (Or.inl z)
        · exact Or.inr (Or.inr (Or.inl z))
        · exact Or.inr (Or.inr (Or.inr (Or.inr z)))
      simp only [if_neg (show ¬ (i < 0 ∨ m < 0 ∨ n < 0 ∨ (V.1.2.2.2 a).2.length < ix i + ix n ∨ (V.1.2.2.2 b).2.length < ix m + ix n) from fun z => by
        rcases z with z | z | z | z | z
        · exact na (Or.inl z)
        · exact nb (Or.inl z)
        · exact na (Or.inr (Or.inl z))
        · exact na (Or.inr (Or.inr z))
        · exact nb (Or.inr (Or.inr z)))] at hQ
      have q1 : ix i + ix n ≤ (V.1.2.2.2 a).2.length := Nat.le_of_not_lt (fun z => na (Or.inr (Or.inr z)))
      have q2 : ix m + ix n ≤ (V.1.2.2.2 b).2.length := Nat.le_of_not_lt (fun z => nb (Or.inr (Or.inr z)))
      refine ⟨kx', y', ey', ky', by decide, by rw [ly']; omega, fun b39 hb39 => ?_⟩
      have N : ∀ z : Nat, zK σ z ≠ 0 → z ≠ b39 := fun z hz e => hz (by rw [e]; exact hb39)
      have f0 : Fr ct (fun _ => False) σ (nC σ b39 y') := Fr.rf.nC b39 y' hb39
      have ny : y ≠ b39 := N y (by rw [ky]; decide)
      have ly2 : zL (nC σ b39 y') y = (V.1.2.2.2 a).2.length := by rw [yL_nC, if_neg ny]; exact ly
      have ly3 : zL (nC σ b39 y') b39 = (V.1.2.2.2 b).2.length := by rw [yL_nC, if_pos rfl]; exact ly'
      refine ⟨f0.kk kx (by decide), y, by rw [yFr_nC]; exact ey, f0.kk ky (by decide), fun z => na (Or.inl z), fun z => nb (Or.inl z), fun z => na (Or.inr (Or.inl z)), by rw [ly2]; exact q1, by rw [ly3]; exact q2, by decide, by rw [ly']; omega, fun b52 hb52 => ⟨by decide, by rw [ly']; omega, ?_, ?_⟩⟩
      · simp only [yK_uFi, yL_uFi, yFj_uFi, yFr_uFi, yAi_uFi, yAj_uFi, yAd_uFi, yAr_uFi, yFi_uFi, yK_uFj, yL_uFj, yFi_uFj, yFr_uFj, yAi_uFj, yAj_uFj, yAd_uFj, yAr_uFj, yFj_uFj, yK_uFr, yL_uFr, yFi_uFr, yFj_uFr, yAi_uFr, yAj_uFr, yAd_uFr, yAr_uFr, yFr_uFr, yK_uAi, yL_uAi, yFi_uAi, yFj_uAi, yFr_uAi, yAj_uAi, yAd_uAi, yAr_uAi, yAi_uAi, yK_uAj, yL_uAj, yFi_uAj, yFj_uAj, yFr_uAj, yAi_uAj, yAd_uAj, yAr_uAj, yAj_uAj, yK_uAd, yL_uAd, yFi_uAd, yFj_uAd, yFr_uAd, yAi_uAd, yAj_uAd, yAr_uAd, yAd_uAd, yK_uAr, yL_uAr, yFi_uAr, yFj_uAr, yFr_uAr, yAi_uAr, yAj_uAr, yAd_uAr, yAr_uAr, yK_uCi, yL_uCi, yFi_uCi, yFj_uCi, yFr_uCi, yAj_uCi, yAd_uCi, yAr_uCi, yK_uCj, yL_uCj, yFi_uCj, yFj_uCj, yFr_uCj, yAi_uCj, yAd_uCj, yAr_uCj, yK_uCx, yL_uCx, yFi_uCx, yFj_uCx, yFr_uCx, yAi_uCx, yAd_uCx, yAr_uCx, yK_nO, yL_nO, yFi_nO, yFj_nO, yFr_nO, yAi_nO, yAj_nO, yAd_nO, yAr_nO, yK_nA, yL_nA, yFi_nA, yFj_nA, yFr_nA, yAi_nA, yAj_nA, yAd_nA, yAr_nA, yK_nC, yL_nC, yFi_nC, yFj_nC, yFr_nC, yAi_nC, yAj_nC, yAd_nC, yAr_nC, yu2, yAi_uCi', yAj_uCj', yAj_uCx', Option.some.injEq, exists_eq_left', true_and, and_true, not_false_eq_true, forall_const, false_and, and_false, reduceIte, Nat.reduceEqDiff, ne_eq]
      · have hb52' := f0.fresh hb52
        have n52 : b39 ≠ b52 := fun e => by rw [← e, yK_nC, if_pos rfl] at hb52; cases hb52
        have fr : Fr ct (fun _ => False) σ (nO (uCj (nC σ b39 y') y (ix i) b39 (ix m) (ix n)) b52 11) := (f0.uCj _ _ _ _ _ (Or.inr hb39)).nO b52 11 (by simp only [yK_uFi, yL_uFi, yFj_uFi, yFr_uFi, yAi_uFi, yAj_uFi, yAd_uFi, yAr_uFi, yFi_uFi, yK_uFj, yL_uFj, yFi_uFj, yFr_uFj, yAi_uFj, yAj_uFj, yAd_uFj, yAr_uFj, yFj_uFj, yK_uFr, yL_uFr, yFi_uFr, yFj_uFr, yAi_uFr, yAj_uFr, yAd_uFr, yAr_uFr, yFr_uFr, yK_uAi, yL_uAi, yFi_uAi, yFj_uAi, yFr_uAi, yAj_uAi, yAd_uAi, yAr_uAi, yAi_uAi, yK_uAj, yL_uAj, yFi_uAj, yFj_uAj, yFr_uAj, yAi_uAj, yAd_uAj, yAr_uAj, yAj_uAj, yK_uAd, yL_uAd, yFi_uAd, yFj_uAd, yFr_uAd, yAi_uAd, yAj_uAd, yAr_uAd, yAd_uAd, yK_uAr, yL_uAr, yFi_uAr, yFj_uAr, yFr_uAr, yAi_uAr, yAj_uAr, yAd_uAr, yAr_uAr, yK_uCi, yL_uCi, yFi_uCi, yFj_uCi, yFr_uCi, yAj_uCi, yAd_uCi, yAr_uCi, yK_uCj, yL_uCj, yFi_uCj, yFj_uCj, yFr_uCj, yAi_uCj, yAd_uCj, yAr_uCj, yK_uCx, yL_uCx, yFi_uCx, yFj_uCx, yFr_uCx, yAi_uCx, yAd_uCx, yAr_uCx, yK_nO, yL_nO, yFi_nO, yFj_nO, yFr_nO, yAi_nO, yAj_nO, yAd_nO, yAr_nO, yK_nA, yL_nA, yFi_nA, yFj_nA, yFr_nA, yAi_nA, yAj_nA, yAd_nA, yAr_nA, yK_nC, yL_nC, yFi_nC, yFj_nC, yFr_nC, yAi_nC, yAj_nC, yAd_nC, yAr_nC, yu2, yAi_uCi', yAj_uCj', yAj_uCx']; rw [yK_nC] at hb52; exact hb52)
        have T := mkT (l := cpL (V.1.2.2.2 a).2 (V.1.2.2.2 b).2 (ix i) (ix m) (ix n)) (s := 3) h fr hb52' hb39 (by simp only [yK_uFi, yL_uFi, yFj_uFi, yFr_uFi, yAi_uFi, yAj_uFi, yAd_uFi, yAr_uFi, yFi_uFi, yK_uFj, yL_uFj, yFi_uFj, yFr_uFj, yAi_uFj, yAj_uFj, yAd_uFj, yAr_uFj, yFj_uFj, yK_uFr, yL_uFr, yFi_uFr, yFj_uFr, yAi_uFr, yAj_uFr, yAd_uFr, yAr_uFr, yFr_uFr, yK_uAi, yL_uAi, yFi_uAi, yFj_uAi, yFr_uAi, yAj_uAi, yAd_uAi, yAr_uAi, yAi_uAi, yK_uAj, yL_uAj, yFi_uAj, yFj_uAj, yFr_uAj, yAi_uAj, yAd_uAj, yAr_uAj, yAj_uAj, yK_uAd, yL_uAd, yFi_uAd, yFj_uAd, yFr_uAd, yAi_uAd, yAj_uAd, yAr_uAd, yAd_uAd, yK_uAr, yL_uAr, yFi_uAr, yFj_uAr, yFr_uAr, yAi_uAr, yAj_uAr, yAd_uAr, yAr_uAr, yK_uCi, yL_uCi, yFi_uCi, yFj_uCi, yFr_uCi, yAj_uCi, yAd_uCi, yAr_uCi, yK_uCj, yL_uCj, yFi_uCj, yFj_uCj, yFr_uCj, yAi_uCj, yAd_uCj, yAr_uCj, yK_uCx, yL_uCx, yFi_uCx, yFj_uCx, yFr_uCx, yAi_uCx, yAd_uCx, yAr_uCx, yK_nO, yL_nO, yFi_nO, yFj_nO, yFr_nO, yAi_nO, yAj_nO, yAd_nO, yAr_nO, yK_nA, yL_nA, yFi_nA, yFj_nA, yFr_nA, yAi_nA, yAj_nA, yAd_nA, yAr_nA, yK_nC, yL_nC, yFi_nC, yFj_nC, yFr_nC, yAi_nC, yAj_nC, yAd_nC, yAr_nC, yu2, yAi_uCi', yAj_uCj', yAj_uCx', Option.some.injEq, exists_eq_left', true_and, and_true, not_false_eq_true, forall_const, false_and, and_false, reduceIte, Nat.reduceEqDiff, ne_eq]) (by simp only [yK_uFi, yL_uFi, yFj_uFi, yFr_uFi, yAi_uFi, yAj_uFi, yAd_uFi, yAr_uFi, yFi_uFi, yK_uFj, yL_uFj, yFi_uFj, yFr_uFj, yAi_uFj, yAj_uFj, yAd_uFj, yAr_uFj, yFj_uFj, yK_uFr, yL_uFr, yFi_uFr, yFj_uFr, yAi_uFr, yAj_uFr, yAd_uFr, yAr_uFr, yFr_uFr, yK_uAi, yL_uAi, yFi_uAi, yFj_uAi, yFr_uAi, yAj_uAi, yAd_uAi, yAr_uAi, yAi_uAi, yK_uAj, yL_uAj, yFi_uAj, yFj_uAj, yFr_uAj, yAi_uAj, yAd_uAj, yAr_uAj, yAj_uAj, yK_uAd, yL_uAd, yFi_uAd, yFj_uAd, yFr_uAd, yAi_uAd, yAj_uAd, yAr_uAd, yAd_uAd, yK_uAr, yL_uAr, yFi_uAr, yFj_uAr, yFr_uAr, yAi_uAr, yAj_uAr, yAd_uAr, yAr_uAr, yK_uCi, yL_uCi, yFi_uCi, yFj_uCi, yFr_uCi, yAj_uCi, yAd_uCi, yAr_uCi, yK_uCj, yL_uCj, yFi_uCj, yFj_uCj, yFr_uCj, yAi_uCj, yAd_uCj, yAr_uCj, yK_uCx, yL_uCx, yFi_uCx, yFj_uCx, yFr_uCx, yAi_uCx, yAd_uCx, yAr_uCx, yK_nO, yL_nO, yFi_nO, yFj_nO, yFr_nO, yAi_nO, yAj_nO, yAd_nO, yAr_nO, yK_nA, yL_nA, yFi_nA, yFj_nA, yFr_nA, yAi_nA, yAj_nA, yAd_nA, yAr_nA, yK_nC, yL_nC, yFi_nC, yFj_nC, yFr_nC, yAi_nC, yAj_nC, yAd_nC, yAr_nC, yu2, yAi_uCi', yAj_uCj', yAj_uCx', Option.some.injEq, exists_eq_left', true_and, and_true, not_false_eq_true, forall_const, false_and, and_false, reduceIte, Nat.reduceEqDiff, ne_eq, n52]) (by simp only [yK_uFi, yL_uFi, yFj_uFi, yFr_uFi, yAi_uFi, yAj_uFi, yAd_uFi, yAr_uFi, yFi_uFi, yK_uFj, yL_uFj, yFi_uFj, yFr_uFj, yAi_uFj, yAj_uFj, yAd_uFj, yAr_uFj, yFj_uFj, yK_uFr, yL_uFr, yFi_uFr, yFj_uFr, yAi_uFr, yAj_uFr, yAd_uFr, yAr_uFr, yFr_uFr, yK_uAi, yL_uAi, yFi_uAi, yFj_uAi, yFr_uAi, yAj_uAi, yAd_uAi, yAr_uAi, yAi_uAi, yK_uAj, yL_uAj, yFi_uAj, yFj_uAj, yFr_uAj, yAi_uAj, yAd_uAj, yAr_uAj, yAj_uAj, yK_uAd, yL_uAd, yFi_uAd, yFj_uAd, yFr_uAd, yAi_uAd, yAj_uAd, yAr_uAd, yAd_uAd, yK_uAr, yL_uAr, yFi_uAr, yFj_uAr, yFr_uAr, yAi_uAr, yAj_uAr, yAd_uAr, yAr_uAr, yK_uCi, yL_uCi, yFi_uCi, yFj_uCi, yFr_uCi, yAj_uCi, yAd_uCi, yAr_uCi, yK_uCj, yL_uCj, yFi_uCj, yFj_uCj, yFr_uCj, yAi_uCj, yAd_uCj, yAr_uCj, yK_uCx, yL_uCx, yFi_uCx, yFj_uCx, yFr_uCx, yAi_uCx, yAd_uCx, yAr_uCx, yK_nO, yL_nO, yFi_nO, yFj_nO, yFr_nO, yAi_nO, yAj_nO, yAd_nO, yAr_nO, yK_nA, yL_nA, yFi_nA, yFj_nA, yFr_nA, yAi_nA, yAj_nA, yAd_nA, yAr_nA, yK_nC, yL_nC, yFi_nC, yFj_nC, yFr_nC, yAi_nC, yAj_nC, yAd_nC, yAr_nC, yu2, yAi_uCi', yAj_uCj', yAj_uCx', Option.some.injEq, exists_eq_left', true_and, and_true, not_false_eq_true, forall_const, false_and, and_false, reduceIte, Nat.reduceEqDiff, ne_eq]; rw [cpL_len q1 q2]; exact ly') (by rw [cpL_len q1 q2]; exact l16') (fun t v hv => by
          rw [cpL_get q1 q2] at hv
          simp only [yK_uFi, yL_uFi, yFj_uFi, yFr_uFi, yAi_uFi, yAj_uFi, yAd_uFi, yAr_uFi, yFi_uFi, yK_uFj, yL_uFj, yFi_uFj, yFr_uFj, yAi_uFj, yAj_uFj, yAd_uFj, yAr_uFj, yFj_uFj, yK_uFr, yL_uFr, yFi_uFr, yFj_uFr, yAi_uFr, yAj_uFr, yAd_uFr, yAr_uFr, yFr_uFr, yK_uAi, yL_uAi, yFi_uAi, yFj_uAi, yFr_uAi, yAj_uAi, yAd_uAi, yAr_uAi, yAi_uAi, yK_uAj, yL_uAj, yFi_uAj, yFj_uAj, yFr_uAj, yAi_uAj, yAd_uAj, yAr_uAj, yAj_uAj, yK_uAd, yL_uAd, yFi_uAd, yFj_uAd, yFr_uAd, yAi_uAd, yAj_uAd, yAr_uAd, yAd_uAd, yK_uAr, yL_uAr, yFi_uAr, yFj_uAr, yFr_uAr, yAi_uAr, yAj_uAr, yAd_uAr, yAr_uAr, yK_uCi, yL_uCi, yFi_uCi, yFj_uCi, yFr_uCi, yAj_uCi, yAd_uCi, yAr_uCi, yK_uCj, yL_uCj, yFi_uCj, yFj_uCj, yFr_uCj, yAi_uCj, yAd_uCj, yAr_uCj, yK_uCx, yL_uCx, yFi_uCx, yFj_uCx, yFr_uCx, yAi_uCx, yAd_uCx, yAr_uCx, yK_nO, yL_nO, yFi_nO, yFj_nO, yFr_nO, yAi_nO, yAj_nO, yAd_nO, yAr_nO, yK_nA, yL_nA, yFi_nA, yFj_nA, yFr_nA, yAi_nA, yAj_nA, yAd_nA, yAr_nA, yK_nC, yL_nC, yFi_nC, yFj_nC, yFr_nC, yAi_nC, yAj_nC, yAd_nC, yAr_nC, yu2, yAi_uCi', yAj_uCj', yAj_uCx', Option.some.injEq, exists_eq_left', true_and, and_true, not_false_eq_true, forall_const, false_and, and_false, reduceIte, Nat.reduceEqDiff, ne_eq, va_cpy, ny]
          by_cases c : ix m ≤ t ∧ t < ix m + ix n
          · rw [if_pos c] at hv ⊢
            exact hl _ v hv
          · rw [if_neg c] at hv ⊢
            exact hl' _ v hv) (by decide) (by decide)
        have h1 := h.fr T.1 id id id
        have R1 := R.frM h (T.1.mono (fun _ q => q.elim))
        exact ⟨1, 5, by decide, by rw [ly']; omega, k12 h1, C_laid h1 R1 W hb T.2.1 (by decide) (by decide) (fun σ' f r => ⟨by decide, by rw [ly']; omega, hQ σ' ((T.1.mono (fun _ q => q.elim)).tr1 f) r⟩)⟩
theorem dl_get {α : Type} {l : List α} {i : Nat} {x : α} (h : l.dropLast[i]? = some x) : l[i]? = some x := by
  rw [List.getElem?_dropLast] at h
  by_cases c : i < l.length - 1
  · rw [if_pos c] at h; exact h
  · rw [if_neg c] at h; cases h
theorem C_clear {V : Vt} (h : Sh ad ct σ) {ρ : St} (f : Fr ct (fun p => p = (7, 0) ∨ p = (4, 42)) σ ρ) (e1 : zFi ρ 193 (ad 4 42 0) = 0) (e2 : zFi ρ 194 (ad 4 42 0) = 0) {lw : Nat} {lc : Bool} : Cla ad ρ [] lw lc :=
  ⟨0, ⟨by rw [e1]; rfl, by rw [e2]; rfl, by decide, Nat.zero_le _, fun i e he => (by cases he)⟩, fun n => absurd rfl n⟩
set_option maxHeartbeats 1000000 in
theorem C_undo {V : Vt} (h : Sh ad ct σ) (R : RC ad ct σ V) (W : WFv V) {Q : Int32 → St → Prop} (hQ : ∀ σ', Fr ct SC σ σ' → RC ad ct σ' (undV V).2 → Q (undV V).1 σ') : wX11_undo (ad 12 0 0) σ Q := by
  obtain ⟨r1, r2, r3, r4, ⟨a1, nx, hnx, a2, a3⟩, r6, r7, r8⟩ := R
  have hl := W.2.1
  unfold undV at hQ
  refine ⟨k12 h, _, p713 h, k2 h, k2 h, ?_⟩
  rw [a1]
  cases hac : V.2.1 with
  | nil =>
    rw [hac] at hQ
    refine ⟨fun c => absurd c (by decide), fun _ => ⟨fun _ => hQ σ Fr.rf ⟨r1, r2, r3, r4, ?_, r6, r7, r8⟩, fun a w => by cases w⟩⟩
    exact ⟨a1, nx, hnx, a2, a3⟩
  | cons A r =>
    rw [hac] at hQ hl a1 a3
    have vd := W.1
    rw [hac] at vd
    obtain ⟨wf, aok, vd'⟩ := vd
    rw [List.length_cons] at hl
    refine ⟨fun _ => ?_, fun c => absurd (nI_lt (a := 0) (by rw [List.length_cons]; omega) (by rw [List.length_cons]; omega)) c⟩
    have e1 : nI (A :: r).length - 1 = nI r.length := nI_pred _
    rw [e1]
    have e65 : zFi (uFi σ 66 (ad 2 0 0) (nI r.length)) 65 (ad 2 0 0) = nI nx := by simp only [yK_uFi, yL_uFi, yFj_uFi, yFr_uFi, yAi_uFi, yAj_uFi, yAd_uFi, yAr_uFi, yFi_uFi, yK_uFj, yL_uFj, yFi_uFj, yFr_uFj, yAi_uFj, yAj_uFj, yAd_uFj, yAr_uFj, yFj_uFj, yK_uFr, yL_uFr, yFi_uFr, yFj_uFr, yAi_uFr, yAj_uFr, yAd_uFr, yAr_uFr, yFr_uFr, yK_uAi, yL_uAi, yFi_uAi, yFj_uAi, yFr_uAi, yAj_uAi, yAd_uAi, yAr_uAi, yAi_uAi, yK_uAj, yL_uAj, yFi_uAj, yFj_uAj, yFr_uAj, yAi_uAj, yAd_uAj, yAr_uAj, yAj_uAj, yK_uAd, yL_uAd, yFi_uAd, yFj_uAd, yFr_uAd, yAi_uAd, yAj_uAd, yAr_uAd, yAd_uAd, yK_uAr, yL_uAr, yFi_uAr, yFj_uAr, yFr_uAr, yAi_uAr, yAj_uAr, yAd_uAr, yAr_uAr, yK_uCi, yL_uCi, yFi_uCi, yFj_uCi, yFr_uCi, yAj_uCi, yAd_uCi, yAr_uCi, yK_uCj, yL_uCj, yFi_uCj, yFj_uCj, yFr_uCj, yAi_uCj, yAd_uCj, yAr_uCj, yK_uCx, yL_uCx, yFi_uCx, yFj_uCx, yFr_uCx, yAi_uCx, yAd_uCx, yAr_uCx, yK_nO, yL_nO, yFi_nO, yFj_nO, yFr_nO, yAi_nO, yAj_nO, yAd_nO, yAr_nO, yK_nA, yL_nA, yFi_nA, yFj_nA, yFr_nA, yAi_nA, yAj_nA, yAd_nA, yAr_nA, yK_nC, yL_nC, yFi_nC, yFj_nC, yFr_nC, yAi_nC, yAj_nC, yAd_nC, yAr_nC, yu2, yAi_uCi', yAj_uCj', yAj_uCx', Option.some.injEq, exists_eq_left', true_and, and_true, not_false_eq_true, forall_const, false_and, and_false, reduceIte, Nat.reduceEqDiff, ne_eq]; exact a2
    have key : ∀ v : Int32, v = nI ((nx + 99) % 100) → wX1_takeLatest_38 (fun y6 σ5 => ((y6 = none → Q 0 σ5) ∧ (∀ a7 : Nat, y6 = some a7 → zK σ5 (ad 12 0 0) = 12 ∧ wX11_takeBack (ad 12 0 0) a7 σ5 (fun σ9 => Q 1 σ9)))) (ad 2 0 0) v (ad 2 0 0) (uFi σ 66 (ad 2 0 0) (nI r.length)) := by
      intro v hv
      subst hv
      obtain ⟨x, hx1, hx2⟩ := a3 0 A rfl
      have ez : zFi (uFi (uFi σ 66 (ad 2 0 0) (nI r.length)) 65 (ad 2 0 0) (nI ((nx + 99) % 100))) 65 (ad 2 0 0) = nI ((nx + 99) % 100) := by simp only [yK_uFi, yL_uFi, yFj_uFi, yFr_uFi, yAi_uFi, yAj_uFi, yAd_uFi, yAr_uFi, yFi_uFi, yK_uFj, yL_uFj, yFi_uFj, yFr_uFj, yAi_uFj, yAj_uFj, yAd_uFj, yAr_uFj, yFj_uFj, yK_uFr, yL_uFr, yFi_uFr, yFj_uFr, yAi_uFr, yAj_uFr, yAd_uFr, yAr_uFr, yFr_uFr, yK_uAi, yL_uAi, yFi_uAi, yFj_uAi, yFr_uAi, yAj_uAi, yAd_uAi, yAr_uAi, yAi_uAi, yK_uAj, yL_uAj, yFi_uAj, yFj_uAj, yFr_uAj, yAi_uAj, yAd_uAj, yAr_uAj, yAj_uAj, yK_uAd, yL_uAd, yFi_uAd, yFj_uAd, yFr_uAd, yAi_uAd, yAj_uAd, yAr_uAd, yAd_uAd, yK_uAr, yL_uAr, yFi_uAr, yFj_uAr, yFr_uAr, yAi_uAr, yAj_uAr, yAd_uAr, yAr_uAr, yK_uCi, yL_uCi, yFi_uCi, yFj_uCi, yFr_uCi, yAj_uCi, yAd_uCi, yAr_uCi, yK_uCj, yL_uCj, yFi_uCj, yFj_uCj, yFr_uCj, yAi_uCj, yAd_uCj, yAr_uCj, yK_uCx, yL_uCx, yFi_uCx, yFj_uCx, yFr_uCx, yAi_uCx, yAd_uCx, yAr_uCx, yK_nO, yL_nO, yFi_nO, yFj_nO, yFr_nO, yAi_nO, yAj_nO, yAd_nO, yAr_nO, yK_nA, yL_nA, yFi_nA, yFj_nA, yFr_nA, yAi_nA, yAj_nA, yAd_nA, yAr_nA, yK_nC, yL_nC, yFi_nC, yFj_nC, yFr_nC, yAi_nC, yAj_nC, yAd_nC, yAr_nC, yu2, yAi_uCi', yAj_uCj', yAj_uCx', Option.some.injEq, exists_eq_left', true_and, and_true, not_false_eq_true, forall_const, false_and, and_false, reduceIte, Nat.reduceEqDiff, ne_eq]
      unfold wX1_takeLatest_38
      rw [ez]
      have hm : (nx + 99) % 100 < 100 := Nat.mod_lt _ (by decide)
      refine ⟨k2 h, k2 h, _, p64 h, k64 h, by rw [show zL (uFi σ 66 (ad 2 0 0) (nI r.length)) (ad 64 0 0) = 100 from l64 h]; exact vp_in_nI hm (by decide), fun o eo => ?_⟩
      have eo : o = some x := by
        rw [← eo, show ix (nI ((nx + 99) % 100)) = (nx + 99) % 100 from nI_clamp (by omega)]
        rw [Nat.sub_zero] at hx1
        exact hx1
      subst eo
      generalize hτ : uFi (uFi σ 66 (ad 2 0 0) (nI r.length)) 65 (ad 2 0 0) (nI ((nx + 99) % 100)) = τ
      have ft : Fr ct (fun p => p = (2, 0)) σ τ := by
        rw [← hτ]
        have f0 : Fr ct (fun p => p = (2, 0)) σ σ := Fr.rf
        have f1 := f0.uFi 66 (ad 2 0 0) (nI r.length) (Or.inl (c2 h))
        exact f1.uFi 65 (ad 2 0 0) (nI ((nx + 99) % 100)) (Or.inl (c2 h))
      have ht : Sh ad ct τ := h.fr ft (by decide) (by decide) (by decide)
      have e12 : ∀ g, zFi τ g (ad 12 0 0) = zFi σ g (ad 12 0 0) := fun g => ft.fi (k12 h) (by decide) (c12 h) (by decide) g
      have e7 : ∀ g, zFi τ g (ad 7 0 0) = zFi σ g (ad 7 0 0) := fun g => ft.fi (k7 h) (by decide) (c7 h) (by decide) g
      have e7j : ∀ g, zFj τ g (ad 7 0 0) = zFj σ g (ad 7 0 0) := fun g => ft.fj (k7 h) (by decide) (c7 h) (by decide) g
      have Rt : RC ad ct τ (V.1, r, V.2.2) := by
        refine ⟨r1.cg h ft (by decide) (e7 _), r2.cg h ft (by decide) (by decide) (by decide) (e7 _) (e7j _), r3.cg h ft (by decide) (by decide) (e12 _), r4.cg h ft (by decide) (by decide), ⟨?_, (nx + 99) % 100, hm, ?_, fun i B hB => ?_⟩, r6.cg h ft (by decide) (by decide) (by decide) (by decide) (by decide) (e12 _), (e12 _).trans r7, r8.cg h ft (fun _ _ => by simp)⟩
        · rw [← hτ]; simp only [yK_uFi, yL_uFi, yFj_uFi, yFr_uFi, yAi_uFi, yAj_uFi, yAd_uFi, yAr_uFi, yFi_uFi, yK_uFj, yL_uFj, yFi_uFj, yFr_uFj, yAi_uFj, yAj_uFj, yAd_uFj, yAr_uFj, yFj_uFj, yK_uFr, yL_uFr, yFi_uFr, yFj_uFr, yAi_uFr, yAj_uFr, yAd_uFr, yAr_uFr, yFr_uFr, yK_uAi, yL_uAi, yFi_uAi, yFj_uAi, yFr_uAi, yAj_uAi, yAd_uAi, yAr_uAi, yAi_uAi, yK_uAj, yL_uAj, yFi_uAj, yFj_uAj, yFr_uAj, yAi_uAj, yAd_uAj, yAr_uAj, yAj_uAj, yK_uAd, yL_uAd, yFi_uAd, yFj_uAd, yFr_uAd, yAi_uAd, yAj_uAd, yAr_uAd, yAd_uAd, yK_uAr, yL_uAr, yFi_uAr, yFj_uAr, yFr_uAr, yAi_uAr, yAj_uAr, yAd_uAr, yAr_uAr, yK_uCi, yL_uCi, yFi_uCi, yFj_uCi, yFr_uCi, yAj_uCi, yAd_uCi, yAr_uCi, yK_uCj, yL_uCj, yFi_uCj, yFj_uCj, yFr_uCj, yAi_uCj, yAd_uCj, yAr_uCj, yK_uCx, yL_uCx, yFi_uCx, yFj_uCx, yFr_uCx, yAi_uCx, yAd_uCx, yAr_uCx, yK_nO, yL_nO, yFi_nO, yFj_nO, yFr_nO, yAi_nO, yAj_nO, yAd_nO, yAr_nO, yK_nA, yL_nA, yFi_nA, yFj_nA, yFr_nA, yAi_nA, yAj_nA, yAd_nA, yAr_nA, yK_nC, yL_nC, yFi_nC, yFj_nC, yFr_nC, yAi_nC, yAj_nC, yAd_nC, yAr_nC, yu2, yAi_uCi', yAj_uCj', yAj_uCx', Option.some.injEq, exists_eq_left', true_and, and_true, not_false_eq_true, forall_const, false_and, and_false, reduceIte, Nat.reduceEqDiff, ne_eq]
        · rw [← hτ]; simp only [yK_uFi, yL_uFi, yFj_uFi, yFr_uFi, yAi_uFi, yAj_uFi, yAd_uFi, yAr_uFi, yFi_uFi, yK_uFj, yL_uFj, yFi_uFj, yFr_uFj, yAi_uFj, yAj_uFj, yAd_uFj, yAr_uFj, yFj_uFj, yK_uFr, yL_uFr, yFi_uFr, yFj_uFr, yAi_uFr, yAj_uFr, yAd_uFr, yAr_uFr, yFr_uFr, yK_uAi, yL_uAi, yFi_uAi, yFj_uAi, yFr_uAi, yAj_uAi, yAd_uAi, yAr_uAi, yAi_uAi, yK_uAj, yL_uAj, yFi_uAj, yFj_uAj, yFr_uAj, yAi_uAj, yAd_uAj, yAr_uAj, yAj_uAj, yK_uAd, yL_uAd, yFi_uAd, yFj_uAd, yFr_uAd, yAi_uAd, yAj_uAd, yAr_uAd, yAd_uAd, yK_uAr, yL_uAr, yFi_uAr, yFj_uAr, yFr_uAr, yAi_uAr, yAj_uAr, yAd_uAr, yAr_uAr, yK_uCi, yL_uCi, yFi_uCi, yFj_uCi, yFr_uCi, yAj_uCi, yAd_uCi, yAr_uCi, yK_uCj, yL_uCj, yFi_uCj, yFj_uCj, yFr_uCj, yAi_uCj, yAd_uCj, yAr_uCj, yK_uCx, yL_uCx, yFi_uCx, yFj_uCx, yFr_uCx, yAi_uCx, yAd_uCx, yAr_uCx, yK_nO, yL_nO, yFi_nO, yFj_nO, yFr_nO, yAi_nO, yAj_nO, yAd_nO, yAr_nO, yK_nA, yL_nA, yFi_nA, yFj_nA, yFr_nA, yAi_nA, yAj_nA, yAd_nA, yAr_nA, yK_nC, yL_nC, yFi_nC, yFj_nC, yFr_nC, yAi_nC, yAj_nC, yAd_nC, yAr_nC, yu2, yAi_uCi', yAj_uCj', yAj_uCx', Option.some.injEq, exists_eq_left', true_and, and_true, not_false_eq_true, forall_const, false_and, and_false, reduceIte, Nat.reduceEqDiff, ne_eq]
        · obtain ⟨y, y1, y2⟩ := a3 (i + 1) B hB
          have hi : i < r.length := (List.getElem?_eq_some_iff.mp hB).1
          refine ⟨y, ?_, y2.fr ft (by decide)⟩
          rw [ft.ar (k64 h) (by decide) (c64 h) (by decide), ← y1]
          congr 1
          omega
      have fS : Fr ct SC σ τ := ft.mono (fun p q => by rw [q]; decide)
      refine ⟨fun w => (by cases w), fun a w => ⟨k12 ht, ?_⟩⟩
      cases w
      obtain ⟨b1, b2, b3, b4, b5, b6, b7⟩ := hx2.fr ft (by decide)
      obtain ⟨t1, t2, t3, t4, t5, t6, t7, t8⟩ := Rt
      unfold wX11_takeBack wX11_takeBack_0
      rw [b3, b4, b5, b6]
      have N : ∀ m : Nat, m < 6 → (nI A.1 = nI m ↔ A.1 = m) := fun m hm => nI_eq (by have := aok.1; omega) (by omega)
      refine ⟨b1, fun z => ?_, fun z => ?_, fun z => ?_, fun z => ?_, fun z => ?_, fun z0 z1 z2 z3 z4 => ?_⟩
      · have z := (N 0 (by decide)).mp z
        have hne := aok.2.1 z
        simp only [undoV, z, if_pos, true_or] at hQ
        refine ⟨k12 ht, _, p704 ht, k7 ht, _, p708 ht, k4 ht (by decide), k4 ht (by decide), ?_⟩
        have hlen : V.1.1.length = (V.1.1.length - 1) + 1 := by have := List.length_pos_iff.mpr hne; omega
        rw [t1.1, show nI V.1.1.length - 1 = nI (V.1.1.length - 1) by rw [hlen]; exact nI_pred _]
        generalize hρ : uFi (uFi (uFi τ 385 (ad 7 0 0) (nI (V.1.1.length - 1))) 193 (ad 4 42 0) 0) 194 (ad 4 42 0) 0 = ρ
        have f : Fr ct (fun p => p = (7, 0) ∨ p = (4, 42)) τ ρ := by
          rw [← hρ]
          have f0 : Fr ct (fun p => p = (7, 0) ∨ p = (4, 42)) τ τ := Fr.rf
          have f1 := f0.uFi 385 (ad 7 0 0) (nI (V.1.1.length - 1)) (Or.inl (Or.inl (c7 h)))
          have f2 := f1.uFi 193 (ad 4 42 0) 0 (Or.inl (Or.inr (c4 h (by decide))))
          exact f2.uFi 194 (ad 4 42 0) 0 (Or.inl (Or.inr (c4 h (by decide))))
        have n1 : ad 7 0 0 ≠ ad 4 42 0 := adne (c7 h) (c4 h (by decide)) (by decide)
        have g12 : ∀ g, zFi ρ g (ad 12 0 0) = zFi τ g (ad 12 0 0) := fun g => f.fi (k12 ht) (by decide) (c12 ht) (by decide) g
        refine hQ ρ (fS.tr1 (f.mono (fun p q => by rcases q with rfl | rfl <;> decide))) ⟨⟨?_, fun i p hp => ?_⟩, t2.cg ht f (by decide) (by decide) (by decide) ?_ ?_, t3.cg ht f (by decide) (by decide) (g12 _), t4.cg ht f (by decide) (by decide), t5.cg ht f (by decide) (by decide) (by decide), C_clear (V := V) ht f ?_ ?_, (g12 _).trans t7, t8.cg ht f (fun _ _ => by simp)⟩
        · rw [← hρ]; simp only [yK_uFi, yL_uFi, yFj_uFi, yFr_uFi, yAi_uFi, yAj_uFi, yAd_uFi, yAr_uFi, yFi_uFi, yK_uFj, yL_uFj, yFi_uFj, yFr_uFj, yAi_uFj, yAj_uFj, yAd_uFj, yAr_uFj, yFj_uFj, yK_uFr, yL_uFr, yFi_uFr, yFj_uFr, yAi_uFr, yAj_uFr, yAd_uFr, yAr_uFr, yFr_uFr, yK_uAi, yL_uAi, yFi_uAi, yFj_uAi, yFr_uAi, yAj_uAi, yAd_uAi, yAr_uAi, yAi_uAi, yK_uAj, yL_uAj, yFi_uAj, yFj_uAj, yFr_uAj, yAi_uAj, yAd_uAj, yAr_uAj, yAj_uAj, yK_uAd, yL_uAd, yFi_uAd, yFj_uAd, yFr_uAd, yAi_uAd, yAj_uAd, yAr_uAd, yAd_uAd, yK_uAr, yL_uAr, yFi_uAr, yFj_uAr, yFr_uAr, yAi_uAr, yAj_uAr, yAd_uAr, yAr_uAr, yK_uCi, yL_uCi, yFi_uCi, yFj_uCi, yFr_uCi, yAj_uCi, yAd_uCi, yAr_uCi, yK_uCj, yL_uCj, yFi_uCj, yFj_uCj, yFr_uCj, yAi_uCj, yAd_uCj, yAr_uCj, yK_uCx, yL_uCx, yFi_uCx, yFj_uCx, yFr_uCx, yAi_uCx, yAd_uCx, yAr_uCx, yK_nO, yL_nO, yFi_nO, yFj_nO, yFr_nO, yAi_nO, yAj_nO, yAd_nO, yAr_nO, yK_nA, yL_nA, yFi_nA, yFj_nA, yFr_nA, yAi_nA, yAj_nA, yAd_nA, yAr_nA, yK_nC, yL_nC, yFi_nC, yFj_nC, yFr_nC, yAi_nC, yAj_nC, yAd_nC, yAr_nC, yu2, yAi_uCi', yAj_uCj', yAj_uCx', Option.some.injEq, exists_eq_left', true_and, and_true, not_false_eq_true, forall_const, false_and, and_false, reduceIte, Nat.reduceEqDiff, ne_eq, List.length_dropLast]
        · rw [f.ai (k384 ht) (by decide) (c384 ht) (by decide)]; exact t1.2 i p (dl_get hp)
        · rw [← hρ]; simp only [yK_uFi, yL_uFi, yFj_uFi, yFr_uFi, yAi_uFi, yAj_uFi, yAd_uFi, yAr_uFi, yFi_uFi, yK_uFj, yL_uFj, yFi_uFj, yFr_uFj, yAi_uFj, yAj_uFj, yAd_uFj, yAr_uFj, yFj_uFj, yK_uFr, yL_uFr, yFi_uFr, yFj_uFr, yAi_uFr, yAj_uFr, yAd_uFr, yAr_uFr, yFr_uFr, yK_uAi, yL_uAi, yFi_uAi, yFj_uAi, yFr_uAi, yAj_uAi, yAd_uAi, yAr_uAi, yAi_uAi, yK_uAj, yL_uAj, yFi_uAj, yFj_uAj, yFr_uAj, yAi_uAj, yAd_uAj, yAr_uAj, yAj_uAj, yK_uAd, yL_uAd, yFi_uAd, yFj_uAd, yFr_uAd, yAi_uAd, yAj_uAd, yAr_uAd, yAd_uAd, yK_uAr, yL_uAr, yFi_uAr, yFj_uAr, yFr_uAr, yAi_uAr, yAj_uAr, yAd_uAr, yAr_uAr, yK_uCi, yL_uCi, yFi_uCi, yFj_uCi, yFr_uCi, yAj_uCi, yAd_uCi, yAr_uCi, yK_uCj, yL_uCj, yFi_uCj, yFj_uCj, yFr_uCj, yAi_uCj, yAd_uCj, yAr_uCj, yK_uCx, yL_uCx, yFi_uCx, yFj_uCx, yFr_uCx, yAi_uCx, yAd_uCx, yAr_uCx, yK_nO, yL_nO, yFi_nO, yFj_nO, yFr_nO, yAi_nO, yAj_nO, yAd_nO, yAr_nO, yK_nA, yL_nA, yFi_nA, yFj_nA, yFr_nA, yAi_nA, yAj_nA, yAd_nA, yAr_nA, yK_nC, yL_nC, yFi_nC, yFj_nC, yFr_nC, yAi_nC, yAj_nC, yAd_nC, yAr_nC, yu2, yAi_uCi', yAj_uCj', yAj_uCx', Option.some.injEq, exists_eq_left', true_and, and_true, not_false_eq_true, forall_const, false_and, and_false, reduceIte, Nat.reduceEqDiff, ne_eq]
        · rw [← hρ]; simp only [yK_uFi, yL_uFi, yFj_uFi, yFr_uFi, yAi_uFi, yAj_uFi, yAd_uFi, yAr_uFi, yFi_uFi, yK_uFj, yL_uFj, yFi_uFj, yFr_uFj, yAi_uFj, yAj_uFj, yAd_uFj, yAr_uFj, yFj_uFj, yK_uFr, yL_uFr, yFi_uFr, yFj_uFr, yAi_uFr, yAj_uFr, yAd_uFr, yAr_uFr, yFr_uFr, yK_uAi, yL_uAi, yFi_uAi, yFj_uAi, yFr_uAi, yAj_uAi, yAd_uAi, yAr_uAi, yAi_uAi, yK_uAj, yL_uAj, yFi_uAj, yFj_uAj, yFr_uAj, yAi_uAj, yAd_uAj, yAr_uAj, yAj_uAj, yK_uAd, yL_uAd, yFi_uAd, yFj_uAd, yFr_uAd, yAi_uAd, yAj_uAd, yAr_uAd, yAd_uAd, yK_uAr, yL_uAr, yFi_uAr, yFj_uAr, yFr_uAr, yAi_uAr, yAj_uAr, yAd_uAr, yAr_uAr, yK_uCi, yL_uCi, yFi_uCi, yFj_uCi, yFr_uCi, yAj_uCi, yAd_uCi, yAr_uCi, yK_uCj, yL_uCj, yFi_uCj, yFj_uCj, yFr_uCj, yAi_uCj, yAd_uCj, yAr_uCj, yK_uCx, yL_uCx, yFi_uCx, yFj_uCx, yFr_uCx, yAi_uCx, yAd_uCx, yAr_uCx, yK_nO, yL_nO, yFi_nO, yFj_nO, yFr_nO, yAi_nO, yAj_nO, yAd_nO, yAr_nO, yK_nA, yL_nA, yFi_nA, yFj_nA, yFr_nA, yAi_nA, yAj_nA, yAd_nA, yAr_nA, yK_nC, yL_nC, yFi_nC, yFj_nC, yFr_nC, yAi_nC, yAj_nC, yAd_nC, yAr_nC, yu2, yAi_uCi', yAj_uCj', yAj_uCx']
        · rw [← hρ]; simp only [yK_uFi, yL_uFi, yFj_uFi, yFr_uFi, yAi_uFi, yAj_uFi, yAd_uFi, yAr_uFi, yFi_uFi, yK_uFj, yL_uFj, yFi_uFj, yFr_uFj, yAi_uFj, yAj_uFj, yAd_uFj, yAr_uFj, yFj_uFj, yK_uFr, yL_uFr, yFi_uFr, yFj_uFr, yAi_uFr, yAj_uFr, yAd_uFr, yAr_uFr, yFr_uFr, yK_uAi, yL_uAi, yFi_uAi, yFj_uAi, yFr_uAi, yAj_uAi, yAd_uAi, yAr_uAi, yAi_uAi, yK_uAj, yL_uAj, yFi_uAj, yFj_uAj, yFr_uAj, yAi_uAj, yAd_uAj, yAr_uAj, yAj_uAj, yK_uAd, yL_uAd, yFi_uAd, yFj_uAd, yFr_uAd, yAi_uAd, yAj_uAd, yAr_uAd, yAd_uAd, yK_uAr, yL_uAr, yFi_uAr, yFj_uAr, yFr_uAr, yAi_uAr, yAj_uAr, yAd_uAr, yAr_uAr, yK_uCi, yL_uCi, yFi_uCi, yFj_uCi, yFr_uCi, yAj_uCi, yAd_uCi, yAr_uCi, yK_uCj, yL_uCj, yFi_uCj, yFj_uCj, yFr_uCj, yAi_uCj, yAd_uCj, yAr_uCj, yK_uCx, yL_uCx, yFi_uCx, yFj_uCx, yFr_uCx, yAi_uCx, yAd_uCx, yAr_uCx, yK_nO, yL_nO, yFi_nO, yFj_nO, yFr_nO, yAi_nO, yAj_nO, yAd_nO, yAr_nO, yK_nA, yL_nA, yFi_nA, yFj_nA, yFr_nA, yAi_nA, yAj_nA, yAd_nA, yAr_nA, yK_nC, yL_nC, yFi_nC, yFj_nC, yFr_nC, yAi_nC, yAj_nC, yAd_nC, yAr_nC, yu2, yAi_uCi', yAj_uCj', yAj_uCx', Option.some.injEq, exists_eq_left', true_and, and_true, not_false_eq_true, forall_const, false_and, and_false, reduceIte, Nat.reduceEqDiff, ne_eq]
        · rw [← hρ]; simp only [yK_uFi, yL_uFi, yFj_uFi, yFr_uFi, yAi_uFi, yAj_uFi, yAd_uFi, yAr_uFi, yFi_uFi, yK_uFj, yL_uFj, yFi_uFj, yFr_uFj, yAi_uFj, yAj_uFj, yAd_uFj, yAr_uFj, yFj_uFj, yK_uFr, yL_uFr, yFi_uFr, yFj_uFr, yAi_uFr, yAj_uFr, yAd_uFr, yAr_uFr, yFr_uFr, yK_uAi, yL_uAi, yFi_uAi, yFj_uAi, yFr_uAi, yAj_uAi, yAd_uAi, yAr_uAi, yAi_uAi, yK_uAj, yL_uAj, yFi_uAj, yFj_uAj, yFr_uAj, yAi_uAj, yAd_uAj, yAr_uAj, yAj_uAj, yK_uAd, yL_uAd, yFi_uAd, yFj_uAd, yFr_uAd, yAi_uAd, yAj_uAd, yAr_uAd, yAd_uAd, yK_uAr, yL_uAr, yFi_uAr, yFj_uAr, yFr_uAr, yAi_uAr, yAj_uAr, yAd_uAr, yAr_uAr, yK_uCi, yL_uCi, yFi_uCi, yFj_uCi, yFr_uCi, yAj_uCi, yAd_uCi, yAr_uCi, yK_uCj, yL_uCj, yFi_uCj, yFj_uCj, yFr_uCj, yAi_uCj, yAd_uCj, yAr_uCj, yK_uCx, yL_uCx, yFi_uCx, yFj_uCx, yFr_uCx, yAi_uCx, yAd_uCx, yAr_uCx, yK_nO, yL_nO, yFi_nO, yFj_nO, yFr_nO, yAi_nO, yAj_nO, yAd_nO, yAr_nO, yK_nA, yL_nA, yFi_nA, yFj_nA, yFr_nA, yAi_nA, yAj_nA, yAd_nA, yAr_nA, yK_nC, yL_nC, yFi_nC, yFj_nC, yFr_nC, yAi_nC, yAj_nC, yAd_nC, yAr_nC, yu2, yAi_uCi', yAj_uCj', yAj_uCx', Option.some.injEq, exists_eq_left', true_and, and_true, not_false_eq_true, forall_const, false_and, and_false, reduceIte, Nat.reduceEqDiff, ne_eq]
      · have z := (N 1 (by decide)).mp z
        have hne := aok.2.2.1 z
        simp only [undoV, z, if_pos, or_true, show ¬ (1 = 0) from by decide, if_false] at hQ
        refine ⟨k12 ht, _, p704 ht, k7 ht, _, p708 ht, k4 ht (by decide), k4 ht (by decide), ?_⟩
        have hlen : V.1.2.1.length = (V.1.2.1.length - 1) + 1 := by have := List.length_pos_iff.mpr hne; omega
        rw [t2.1, show nI V.1.2.1.length - 1 = nI (V.1.2.1.length - 1) by rw [hlen]; exact nI_pred _]
        generalize hρ : uFi (uFi (uFi τ 390 (ad 7 0 0) (nI (V.1.2.1.length - 1))) 193 (ad 4 42 0) 0) 194 (ad 4 42 0) 0 = ρ
        have f : Fr ct (fun p => p = (7, 0) ∨ p = (4, 42)) τ ρ := by
          rw [← hρ]
          have f0 : Fr ct (fun p => p = (7, 0) ∨ p = (4, 42)) τ τ := Fr.rf
          have f1 := f0.uFi 390 (ad 7 0 0) (nI (V.1.2.1.length - 1)) (Or.inl (Or.inl (c7 h)))
          have f2 := f1.uFi 193 (ad 4 42 0) 0 (Or.inl (Or.inr (c4 h (by decide))))
          exact f2.uFi 194 (ad 4 42 0) 0 (Or.inl (Or.inr (c4 h (by decide))))
        have g12 : ∀ g, zFi ρ g (ad 12 0 0) = zFi τ g (ad 12 0 0) := fun g => f.fi (k12 ht) (by decide) (c12 ht) (by decide) g
        refine hQ ρ (fS.tr1 (f.mono (fun p q => by rcases q with rfl | rfl <;> decide))) ⟨t1.cg ht f (by decide) ?_, ⟨?_, fun i p hp => ?_⟩, t3.cg ht f (by decide) (by decide) (g12 _), t4.cg ht f (by decide) (by decide), t5.cg ht f (by decide) (by decide) (by decide), C_clear (V := V) ht f ?_ ?_, (g12 _).trans t7, t8.cg ht f (fun _ _ => by simp)⟩
        · rw [← hρ]; simp only [yK_uFi, yL_uFi, yFj_uFi, yFr_uFi, yAi_uFi, yAj_uFi, yAd_uFi, yAr_uFi, yFi_uFi, yK_uFj, yL_uFj, yFi_uFj, yFr_uFj, yAi_uFj, yAj_uFj, yAd_uFj, yAr_uFj, yFj_uFj, yK_uFr, yL_uFr, yFi_uFr, yFj_uFr, yAi_uFr, yAj_uFr, yAd_uFr, yAr_uFr, yFr_uFr, yK_uAi, yL_uAi, yFi_uAi, yFj_uAi, yFr_uAi, yAj_uAi, yAd_uAi, yAr_uAi, yAi_uAi, yK_uAj, yL_uAj, yFi_uAj, yFj_uAj, yFr_uAj, yAi_uAj, yAd_uAj, yAr_uAj, yAj_uAj, yK_uAd, yL_uAd, yFi_uAd, yFj_uAd, yFr_uAd, yAi_uAd, yAj_uAd, yAr_uAd, yAd_uAd, yK_uAr, yL_uAr, yFi_uAr, yFj_uAr, yFr_uAr, yAi_uAr, yAj_uAr, yAd_uAr, yAr_uAr, yK_uCi, yL_uCi, yFi_uCi, yFj_uCi, yFr_uCi, yAj_uCi, yAd_uCi, yAr_uCi, yK_uCj, yL_uCj, yFi_uCj, yFj_uCj, yFr_uCj, yAi_uCj, yAd_uCj, yAr_uCj, yK_uCx, yL_uCx, yFi_uCx, yFj_uCx, yFr_uCx, yAi_uCx, yAd_uCx, yAr_uCx, yK_nO, yL_nO, yFi_nO, yFj_nO, yFr_nO, yAi_nO, yAj_nO, yAd_nO, yAr_nO, yK_nA, yL_nA, yFi_nA, yFj_nA, yFr_nA, yAi_nA, yAj_nA, yAd_nA, yAr_nA, yK_nC, yL_nC, yFi_nC, yFj_nC, yFr_nC, yAi_nC, yAj_nC, yAd_nC, yAr_nC, yu2, yAi_uCi', yAj_uCj', yAj_uCx', Option.some.injEq, exists_eq_left', true_and, and_true, not_false_eq_true, forall_const, false_and, and_false, reduceIte, Nat.reduceEqDiff, ne_eq]
        · rw [← hρ]; simp only [yK_uFi, yL_uFi, yFj_uFi, yFr_uFi, yAi_uFi, yAj_uFi, yAd_uFi, yAr_uFi, yFi_uFi, yK_uFj, yL_uFj, yFi_uFj, yFr_uFj, yAi_uFj, yAj_uFj, yAd_uFj, yAr_uFj, yFj_uFj, yK_uFr, yL_uFr, yFi_uFr, yFj_uFr, yAi_uFr, yAj_uFr, yAd_uFr, yAr_uFr, yFr_uFr, yK_uAi, yL_uAi, yFi_uAi, yFj_uAi, yFr_uAi, yAj_uAi, yAd_uAi, yAr_uAi, yAi_uAi, yK_uAj, yL_uAj, yFi_uAj, yFj_uAj, yFr_uAj, yAi_uAj, yAd_uAj, yAr_uAj, yAj_uAj, yK_uAd, yL_uAd, yFi_uAd, yFj_uAd, yFr_uAd, yAi_uAd, yAj_uAd, yAr_uAd, yAd_uAd, yK_uAr, yL_uAr, yFi_uAr, yFj_uAr, yFr_uAr, yAi_uAr, yAj_uAr, yAd_uAr, yAr_uAr, yK_uCi, yL_uCi, yFi_uCi, yFj_uCi, yFr_uCi, yAj_uCi, yAd_uCi, yAr_uCi, yK_uCj, yL_uCj, yFi_uCj, yFj_uCj, yFr_uCj, yAi_uCj, yAd_uCj, yAr_uCj, yK_uCx, yL_uCx, yFi_uCx, yFj_uCx, yFr_uCx, yAi_uCx, yAd_uCx, yAr_uCx, yK_nO, yL_nO, yFi_nO, yFj_nO, yFr_nO, yAi_nO, yAj_nO, yAd_nO, yAr_nO, yK_nA, yL_nA, yFi_nA, yFj_nA, yFr_nA, yAi_nA, yAj_nA, yAd_nA, yAr_nA, yK_nC, yL_nC, yFi_nC, yFj_nC, yFr_nC, yAi_nC, yAj_nC, yAd_nC, yAr_nC, yu2, yAi_uCi', yAj_uCj', yAj_uCx', Option.some.injEq, exists_eq_left', true_and, and_true, not_false_eq_true, forall_const, false_and, and_false, reduceIte, Nat.reduceEqDiff, ne_eq, List.length_dropLast]
        · obtain ⟨g1, g2, g3, g4⟩ := t2.2 i p (dl_get hp)
          exact ⟨(f.ai (k386 ht) (by decide) (c386 ht) (by decide) i).trans g1, fun k hk => (f.ai (k387 ht) (by decide) (c387 ht) (by decide) _).trans (g2 k hk), fun k hk => (f.aj (k388 ht) (by decide) (c388 ht) (by decide) _).trans (g3 k hk), by rw [show zFj ρ 389 (ad 7 0 0) = zFj τ 389 (ad 7 0 0) by rw [← hρ]; simp only [yK_uFi, yL_uFi, yFj_uFi, yFr_uFi, yAi_uFi, yAj_uFi, yAd_uFi, yAr_uFi, yFi_uFi, yK_uFj, yL_uFj, yFi_uFj, yFr_uFj, yAi_uFj, yAj_uFj, yAd_uFj, yAr_uFj, yFj_uFj, yK_uFr, yL_uFr, yFi_uFr, yFj_uFr, yAi_uFr, yAj_uFr, yAd_uFr, yAr_uFr, yFr_uFr, yK_uAi, yL_uAi, yFi_uAi, yFj_uAi, yFr_uAi, yAj_uAi, yAd_uAi, yAr_uAi, yAi_uAi, yK_uAj, yL_uAj, yFi_uAj, yFj_uAj, yFr_uAj, yAi_uAj, yAd_uAj, yAr_uAj, yAj_uAj, yK_uAd, yL_uAd, yFi_uAd, yFj_uAd, yFr_uAd, yAi_uAd, yAj_uAd, yAr_uAd, yAd_uAd, yK_uAr, yL_uAr, yFi_uAr, yFj_uAr, yFr_uAr, yAi_uAr, yAj_uAr, yAd_uAr, yAr_uAr, yK_uCi, yL_uCi, yFi_uCi, yFj_uCi, yFr_uCi, yAj_uCi, yAd_uCi, yAr_uCi, yK_uCj, yL_uCj, yFi_uCj, yFj_uCj, yFr_uCj, yAi_uCj, yAd_uCj, yAr_uCj, yK_uCx, yL_uCx, yFi_uCx, yFj_uCx, yFr_uCx, yAi_uCx, yAd_uCx, yAr_uCx, yK_nO, yL_nO, yFi_nO, yFj_nO, yFr_nO, yAi_nO, yAj_nO, yAd_nO, yAr_nO, yK_nA, yL_nA, yFi_nA, yFj_nA, yFr_nA, yAi_nA, yAj_nA, yAd_nA, yAr_nA, yK_nC, yL_nC, yFi_nC, yFj_nC, yFr_nC, yAi_nC, yAj_nC, yAd_nC, yAr_nC, yu2, yAi_uCi', yAj_uCj', yAj_uCx']]; exact g4⟩
        · rw [← hρ]; simp only [yK_uFi, yL_uFi, yFj_uFi, yFr_uFi, yAi_uFi, yAj_uFi, yAd_uFi, yAr_uFi, yFi_uFi, yK_uFj, yL_uFj, yFi_uFj, yFr_uFj, yAi_uFj, yAj_uFj, yAd_uFj, yAr_uFj, yFj_uFj, yK_uFr, yL_uFr, yFi_uFr, yFj_uFr, yAi_uFr, yAj_uFr, yAd_uFr, yAr_uFr, yFr_uFr, yK_uAi, yL_uAi, yFi_uAi, yFj_uAi, yFr_uAi, yAj_uAi, yAd_uAi, yAr_uAi, yAi_uAi, yK_uAj, yL_uAj, yFi_uAj, yFj_uAj, yFr_uAj, yAi_uAj, yAd_uAj, yAr_uAj, yAj_uAj, yK_uAd, yL_uAd, yFi_uAd, yFj_uAd, yFr_uAd, yAi_uAd, yAj_uAd, yAr_uAd, yAd_uAd, yK_uAr, yL_uAr, yFi_uAr, yFj_uAr, yFr_uAr, yAi_uAr, yAj_uAr, yAd_uAr, yAr_uAr, yK_uCi, yL_uCi, yFi_uCi, yFj_uCi, yFr_uCi, yAj_uCi, yAd_uCi, yAr_uCi, yK_uCj, yL_uCj, yFi_uCj, yFj_uCj, yFr_uCj, yAi_uCj, yAd_uCj, yAr_uCj, yK_uCx, yL_uCx, yFi_uCx, yFj_uCx, yFr_uCx, yAi_uCx, yAd_uCx, yAr_uCx, yK_nO, yL_nO, yFi_nO, yFj_nO, yFr_nO, yAi_nO, yAj_nO, yAd_nO, yAr_nO, yK_nA, yL_nA, yFi_nA, yFj_nA, yFr_nA, yAi_nA, yAj_nA, yAd_nA, yAr_nA, yK_nC, yL_nC, yFi_nC, yFj_nC, yFr_nC, yAi_nC, yAj_nC, yAd_nC, yAr_nC, yu2, yAi_uCi', yAj_uCj', yAj_uCx', Option.some.injEq, exists_eq_left', true_and, and_true, not_false_eq_true, forall_const, false_and, and_false, reduceIte, Nat.reduceEqDiff, ne_eq]
        · rw [← hρ]; simp only [yK_uFi, yL_uFi, yFj_uFi, yFr_uFi, yAi_uFi, yAj_uFi, yAd_uFi, yAr_uFi, yFi_uFi, yK_uFj, yL_uFj, yFi_uFj, yFr_uFj, yAi_uFj, yAj_uFj, yAd_uFj, yAr_uFj, yFj_uFj, yK_uFr, yL_uFr, yFi_uFr, yFj_uFr, yAi_uFr, yAj_uFr, yAd_uFr, yAr_uFr, yFr_uFr, yK_uAi, yL_uAi, yFi_uAi, yFj_uAi, yFr_uAi, yAj_uAi, yAd_uAi, yAr_uAi, yAi_uAi, yK_uAj, yL_uAj, yFi_uAj, yFj_uAj, yFr_uAj, yAi_uAj, yAd_uAj, yAr_uAj, yAj_uAj, yK_uAd, yL_uAd, yFi_uAd, yFj_uAd, yFr_uAd, yAi_uAd, yAj_uAd, yAr_uAd, yAd_uAd, yK_uAr, yL_uAr, yFi_uAr, yFj_uAr, yFr_uAr, yAi_uAr, yAj_uAr, yAd_uAr, yAr_uAr, yK_uCi, yL_uCi, yFi_uCi, yFj_uCi, yFr_uCi, yAj_uCi, yAd_uCi, yAr_uCi, yK_uCj, yL_uCj, yFi_uCj, yFj_uCj, yFr_uCj, yAi_uCj, yAd_uCj, yAr_uCj, yK_uCx, yL_uCx, yFi_uCx, yFj_uCx, yFr_uCx, yAi_uCx, yAd_uCx, yAr_uCx, yK_nO, yL_nO, yFi_nO, yFj_nO, yFr_nO, yAi_nO, yAj_nO, yAd_nO, yAr_nO, yK_nA, yL_nA, yFi_nA, yFj_nA, yFr_nA, yAi_nA, yAj_nA, yAd_nA, yAr_nA, yK_nC, yL_nC, yFi_nC, yFj_nC, yFr_nC, yAi_nC, yAj_nC, yAd_nC, yAr_nC, yu2, yAi_uCi', yAj_uCj', yAj_uCx', Option.some.injEq, exists_eq_left', true_and, and_true, not_false_eq_true, forall_const, false_and, and_false, reduceIte, Nat.reduceEqDiff, ne_eq]
      · have z := (N 2 (by decide)).mp z
        obtain ⟨hat, hbe⟩ := aok.2.2.2.1 z
        have hx := List.getElem?_eq_getElem hat
        simp only [undoV, z, show ¬ (2 = 0) from by decide, show ¬ (2 = 1) from by decide, if_false, if_true, hx, false_or] at hQ
        refine ⟨k12 ht, _, p704 ht, ?_⟩
        have kk : ∀ v : Int32, decide (v ≠ 0) = decide (A.2.2.2.1 ≠ 0) → wX11_takeBack_110 (fun σ9 => Q 1 σ9) v (nI A.2.1) (ad 7 0 0) τ := fun v hv => by
          refine ⟨k7 ht, C_mark (V := (V.1, r, V.2.2)) ht ⟨t1, t2, t3, t4, t5, t6, t7, t8⟩ wf.2.2.1 hx v (fun σ' f r' => ?_)⟩
          rw [hv] at r'
          exact hQ σ' (fS.tr1 f) r'
        refine ⟨fun w => kk 0 (by rw [w]; decide), fun w => kk 1 ?_⟩
        rw [decide_eq_true w]; decide
      · have z := (N 3 (by decide)).mp z
        obtain ⟨hat, hwh, -⟩ := aok.2.2.2.2.1 z
        have hx := List.getElem?_eq_getElem hat
        simp only [undoV, z, show ¬ (3 = 0) from by decide, show ¬ (3 = 1) from by decide, show ¬ (3 = 2) from by decide, if_false, if_true, hx, false_or] at hQ
        refine ⟨k12 ht, _, p704 ht, k7 ht, C_weigh (V := (V.1, r, V.2.2)) ht ⟨t1, t2, t3, t4, t5, t6, t7, t8⟩ wf.2.2.1 hx hwh A.2.2.2.1 (fun σ' f r' => hQ σ' (fS.tr1 f) r')⟩
      · have z := (N 4 (by decide)).mp z
        have hne := aok.2.2.2.2.2.1 z
        simp only [undoV, z, show ¬ (4 = 0) from by decide, show ¬ (4 = 1) from by decide, show ¬ (4 = 2) from by decide, show ¬ (4 = 3) from by decide, if_false, if_true, false_or] at hQ
        refine ⟨k12 ht, ?_⟩
        have hlen : V.1.2.2.1.length = (V.1.2.2.1.length - 1) + 1 := by have := List.length_pos_iff.mpr hne; omega
        rw [t3.1, show nI V.1.2.2.1.length - 1 = nI (V.1.2.2.1.length - 1) by rw [hlen]; exact nI_pred _]
        generalize hρ : uFi τ 706 (ad 12 0 0) (nI (V.1.2.2.1.length - 1)) = ρ
        have f : Fr ct (fun p => p = (12, 0)) τ ρ := by rw [← hρ]; exact Fr.rf.uFi _ _ _ (Or.inl (c12 h))
        have g12 : ∀ g, g ≠ 706 → zFi ρ g (ad 12 0 0) = zFi τ g (ad 12 0 0) := fun g hg => by rw [← hρ]; simp only [yK_uFi, yL_uFi, yFj_uFi, yFr_uFi, yAi_uFi, yAj_uFi, yAd_uFi, yAr_uFi, yFi_uFi, yK_uFj, yL_uFj, yFi_uFj, yFr_uFj, yAi_uFj, yAj_uFj, yAd_uFj, yAr_uFj, yFj_uFj, yK_uFr, yL_uFr, yFi_uFr, yFj_uFr, yAi_uFr, yAj_uFr, yAd_uFr, yAr_uFr, yFr_uFr, yK_uAi, yL_uAi, yFi_uAi, yFj_uAi, yFr_uAi, yAj_uAi, yAd_uAi, yAr_uAi, yAi_uAi, yK_uAj, yL_uAj, yFi_uAj, yFj_uAj, yFr_uAj, yAi_uAj, yAd_uAj, yAr_uAj, yAj_uAj, yK_uAd, yL_uAd, yFi_uAd, yFj_uAd, yFr_uAd, yAi_uAd, yAj_uAd, yAr_uAd, yAd_uAd, yK_uAr, yL_uAr, yFi_uAr, yFj_uAr, yFr_uAr, yAi_uAr, yAj_uAr, yAd_uAr, yAr_uAr, yK_uCi, yL_uCi, yFi_uCi, yFj_uCi, yFr_uCi, yAj_uCi, yAd_uCi, yAr_uCi, yK_uCj, yL_uCj, yFi_uCj, yFj_uCj, yFr_uCj, yAi_uCj, yAd_uCj, yAr_uCj, yK_uCx, yL_uCx, yFi_uCx, yFj_uCx, yFr_uCx, yAi_uCx, yAd_uCx, yAr_uCx, yK_nO, yL_nO, yFi_nO, yFj_nO, yFr_nO, yAi_nO, yAj_nO, yAd_nO, yAr_nO, yK_nA, yL_nA, yFi_nA, yFj_nA, yFr_nA, yAi_nA, yAj_nA, yAd_nA, yAr_nA, yK_nC, yL_nC, yFi_nC, yFj_nC, yFr_nC, yAi_nC, yAj_nC, yAd_nC, yAr_nC, yu2, yAi_uCi', yAj_uCj', yAj_uCx', Option.some.injEq, exists_eq_left', true_and, and_true, not_false_eq_true, forall_const, false_and, and_false, reduceIte, Nat.reduceEqDiff, ne_eq, hg]
        have g7 : ∀ g, zFi ρ g (ad 7 0 0) = zFi τ g (ad 7 0 0) := fun g => f.fi (k7 ht) (by decide) (c7 ht) (by decide) g
        have g7j : ∀ g, zFj ρ g (ad 7 0 0) = zFj τ g (ad 7 0 0) := fun g => f.fj (k7 ht) (by decide) (c7 ht) (by decide) g
        refine hQ ρ (fS.tr1 (f.mono (fun p q => by rw [q]; decide))) ⟨t1.cg ht f (by decide) (g7 _), t2.cg ht f (by decide) (by decide) (by decide) (g7 _) (g7j _), ⟨?_, fun i q hq => ?_⟩, t4.cg ht f (by decide) (by decide), t5.cg ht f (by decide) (by decide) (by decide), t6.cg ht f (by decide) (by decide) (by decide) (by decide) (by decide) (g12 _ (by decide)), (g12 _ (by decide)).trans t7, t8.cg ht f (fun _ _ => by simp)⟩
        · rw [← hρ]; simp only [yK_uFi, yL_uFi, yFj_uFi, yFr_uFi, yAi_uFi, yAj_uFi, yAd_uFi, yAr_uFi, yFi_uFi, yK_uFj, yL_uFj, yFi_uFj, yFr_uFj, yAi_uFj, yAj_uFj, yAd_uFj, yAr_uFj, yFj_uFj, yK_uFr, yL_uFr, yFi_uFr, yFj_uFr, yAi_uFr, yAj_uFr, yAd_uFr, yAr_uFr, yFr_uFr, yK_uAi, yL_uAi, yFi_uAi, yFj_uAi, yFr_uAi, yAj_uAi, yAd_uAi, yAr_uAi, yAi_uAi, yK_uAj, yL_uAj, yFi_uAj, yFj_uAj, yFr_uAj, yAi_uAj, yAd_uAj, yAr_uAj, yAj_uAj, yK_uAd, yL_uAd, yFi_uAd, yFj_uAd, yFr_uAd, yAi_uAd, yAj_uAd, yAr_uAd, yAd_uAd, yK_uAr, yL_uAr, yFi_uAr, yFj_uAr, yFr_uAr, yAi_uAr, yAj_uAr, yAd_uAr, yAr_uAr, yK_uCi, yL_uCi, yFi_uCi, yFj_uCi, yFr_uCi, yAj_uCi, yAd_uCi, yAr_uCi, yK_uCj, yL_uCj, yFi_uCj, yFj_uCj, yFr_uCj, yAi_uCj, yAd_uCj, yAr_uCj, yK_uCx, yL_uCx, yFi_uCx, yFj_uCx, yFr_uCx, yAi_uCx, yAd_uCx, yAr_uCx, yK_nO, yL_nO, yFi_nO, yFj_nO, yFr_nO, yAi_nO, yAj_nO, yAd_nO, yAr_nO, yK_nA, yL_nA, yFi_nA, yFj_nA, yFr_nA, yAi_nA, yAj_nA, yAd_nA, yAr_nA, yK_nC, yL_nC, yFi_nC, yFj_nC, yFr_nC, yAi_nC, yAj_nC, yAd_nC, yAr_nC, yu2, yAi_uCi', yAj_uCj', yAj_uCx', Option.some.injEq, exists_eq_left', true_and, and_true, not_false_eq_true, forall_const, false_and, and_false, reduceIte, Nat.reduceEqDiff, ne_eq, List.length_dropLast]
        · obtain ⟨y, y1, y2⟩ := t3.2 i q (dl_get hq)
          exact ⟨y, (f.ar (k705 ht) (by decide) (c705 ht) (by decide) i).trans y1, y2.fr f (by decide)⟩
      · have z : A.1 = 5 := by
          have h6 := aok.1
          have y0 : A.1 ≠ 0 := fun w => z0 ((N 0 (by decide)).mpr w)
          have y1 : A.1 ≠ 1 := fun w => z1 ((N 1 (by decide)).mpr w)
          have y2 : A.1 ≠ 2 := fun w => z2 ((N 2 (by decide)).mpr w)
          have y3 : A.1 ≠ 3 := fun w => z3 ((N 3 (by decide)).mpr w)
          have y4 : A.1 ≠ 4 := fun w => z4 ((N 4 (by decide)).mpr w)
          omega
        obtain ⟨hat, -⟩ := aok.2.2.2.2.2.2 z
        simp only [undoV, z, show ¬ (5 = 0) from by decide, show ¬ (5 = 1) from by decide, show ¬ (5 = 2) from by decide, show ¬ (5 = 3) from by decide, show ¬ (5 = 4) from by decide, if_false, false_or] at hQ
        refine ⟨k12 ht, _, p712 ht, fun o eo => ⟨k712 ht, by rw [l712 ht]; exact vp_in_nI hat (by decide), fun y hy => ?_, ?_⟩⟩
        · rw [eo] at b7
          rcases b7 with ⟨e, -⟩ | ⟨x', y', e, kx, -⟩
          · rw [e] at hy; cases hy
          · rw [e] at hy; cases hy; exact kx
        · rw [eo] at b7
          rw [show ix (nI A.2.1) = A.2.1 from nI_clamp (by omega)]
          generalize hρ : uAr τ (ad 712 0 0) A.2.1 o = ρ
          have f : Fr ct (fun p => p = (712, 0)) τ ρ := by rw [← hρ]; exact Fr.rf.uAr _ _ _ (Or.inl (c712 h))
          have g12 : ∀ g, zFi ρ g (ad 12 0 0) = zFi τ g (ad 12 0 0) := fun g => f.fi (k12 ht) (by decide) (c12 ht) (by decide) g
          have g7 : ∀ g, zFi ρ g (ad 7 0 0) = zFi τ g (ad 7 0 0) := fun g => f.fi (k7 ht) (by decide) (c7 ht) (by decide) g
          have g7j : ∀ g, zFj ρ g (ad 7 0 0) = zFj τ g (ad 7 0 0) := fun g => f.fj (k7 ht) (by decide) (c7 ht) (by decide) g
          refine hQ ρ (fS.tr1 (f.mono (fun p q => by rw [q]; decide))) ⟨t1.cg ht f (by decide) (g7 _), t2.cg ht f (by decide) (by decide) (by decide) (g7 _) (g7j _), t3.cg ht f (by decide) (by decide) (g12 _), fun k hk => ?_, t5.cg ht f (by decide) (by decide) (by decide), t6.cg ht f (by decide) (by decide) (by decide) (by decide) (by decide) (g12 _), (g12 _).trans t7, t8.cg ht f (fun _ _ => by simp)⟩
          have ea : zAr ρ (ad 712 0 0) k = if k = A.2.1 then o else zAr τ (ad 712 0 0) k := by rw [← hρ]; simp only [yK_uFi, yL_uFi, yFj_uFi, yFr_uFi, yAi_uFi, yAj_uFi, yAd_uFi, yAr_uFi, yFi_uFi, yK_uFj, yL_uFj, yFi_uFj, yFr_uFj, yAi_uFj, yAj_uFj, yAd_uFj, yAr_uFj, yFj_uFj, yK_uFr, yL_uFr, yFi_uFr, yFj_uFr, yAi_uFr, yAj_uFr, yAd_uFr, yAr_uFr, yFr_uFr, yK_uAi, yL_uAi, yFi_uAi, yFj_uAi, yFr_uAi, yAj_uAi, yAd_uAi, yAr_uAi, yAi_uAi, yK_uAj, yL_uAj, yFi_uAj, yFj_uAj, yFr_uAj, yAi_uAj, yAd_uAj, yAr_uAj, yAj_uAj, yK_uAd, yL_uAd, yFi_uAd, yFj_uAd, yFr_uAd, yAi_uAd, yAj_uAd, yAr_uAd, yAd_uAd, yK_uAr, yL_uAr, yFi_uAr, yFj_uAr, yFr_uAr, yAi_uAr, yAj_uAr, yAd_uAr, yAr_uAr, yK_uCi, yL_uCi, yFi_uCi, yFj_uCi, yFr_uCi, yAj_uCi, yAd_uCi, yAr_uCi, yK_uCj, yL_uCj, yFi_uCj, yFj_uCj, yFr_uCj, yAi_uCj, yAd_uCj, yAr_uCj, yK_uCx, yL_uCx, yFi_uCx, yFj_uCx, yFr_uCx, yAi_uCx, yAd_uCx, yAr_uCx, yK_nO, yL_nO, yFi_nO, yFj_nO, yFr_nO, yAi_nO, yAj_nO, yAd_nO, yAr_nO, yK_nA, yL_nA, yFi_nA, yFj_nA, yFr_nA, yAi_nA, yAj_nA, yAd_nA, yAr_nA, yK_nC, yL_nC, yFi_nC, yFj_nC, yFr_nC, yAi_nC, yAj_nC, yAd_nC, yAr_nC, yu2, yAi_uCi', yAj_uCj', yAj_uCx', Option.some.injEq, exists_eq_left', true_and, and_true, not_false_eq_true, forall_const, false_and, and_false, reduceIte, Nat.reduceEqDiff, ne_eq]
          rw [ea]
          show isThg ct ρ _ (upF V.1.2.2.2 A.2.1 A.2.2.2.2 k)
          unfold upF
          by_cases c : k = A.2.1
          · rw [if_pos c, if_pos c]; exact b7.fr f (by decide)
          · rw [if_neg c, if_neg c]; exact (t4 k hk).fr f (by decide)
    rw [e65]
    refine pk_le nx 0 (fun c => key 99 ?_) (fun c => key _ ?_)
    · have : nx = 0 := by omega
      rw [this]; rfl
    · rw [show nI nx - 1 = nI (nx - 1) from pk_sub (b := 1) (by omega), show (nx + 99) % 100 = nx - 1 by omega]
end K11
