section M9
variable {ad : Ad} {ct : Ct} {σ : St}
theorem S3_4a {p k : Nat} : ∀ c, S3 p c → S4 p k c := fun _ q => Or.inl ⟨q.1, Or.inl q.2⟩
theorem S3_4b {p k : Nat} : ∀ c, S3 (100 + k) c → S4 p k c := fun _ q => Or.inl ⟨q.1, Or.inr q.2⟩
set_option maxHeartbeats 1000000 in
theorem M_lay {V : Vt} (h0 : Sh ad ct σ) (R0 : RM ad σ V) (W : WFv V) (k s n : Int32) {Q : Int32 → St → Prop} (hQ0 : ∀ σ', Fr ct SM σ σ' → RM ad σ' (layV k s n V).2 → Q (layV k s n V).1 σ') : wX16_lay (ad 17 0 0) k s n σ Q := by
  have wf := W.1.wf
  have ft := fr17 h0 1024 0
  have R := rmth h0 W.2.1 R0 0
  have h := h0.frM ft
  unfold wX16_lay wX16_lay_0
  generalize uFi σ 1024 (ad 17 0 0) 0 = τ at R h ft
  have hQ : ∀ σ', Fr ct SM τ σ' → RM ad σ' (layV k s n V).2 → Q (layV k s n V).1 σ' := fun σ' f r => hQ0 σ' (ft.tr1 f) r
  unfold layV at hQ
  refine ⟨k17 h0, M_isS k (fun c => ⟨fun z => absurd rfl z, fun _ => ⟨k17 h, ?_⟩⟩) (fun i hi e nb => ⟨fun _ => ?_, fun z => absurd z (by decide)⟩)⟩
  · simp only [if_pos c] at hQ
    exact M_ref h W.2.1 R 1 hQ
  · subst e
    simp only [if_neg nb] at hQ
    rw [show ix (nI i) = i from nI_clamp (by omega)] at hQ
    have bad : (s < 0 ∨ ¬ s ≤ 4) → wX16_lay_27 Q (ad 17 0 0) τ := fun c => by
      simp only [if_pos c] at hQ
      exact ⟨k17 h, M_ref h W.2.1 R 2 hQ⟩
    refine ⟨fun c => bad (Or.inl c), fun c => ⟨fun d => ?_, fun d => bad (Or.inr d)⟩⟩
    simp only [if_neg (show ¬ (s < 0 ∨ ¬ s ≤ 4) from fun z => z.elim c (fun w => w d))] at hQ
    obtain ⟨m, hm, rfl⟩ := nI_of c
    have hm5 : m < 5 := by have := (nI_leI (b := 4) hm (by decide)).mp d; omega
    rw [show ix (nI m) = m from nI_clamp hm] at hQ
    have N : ∀ v : Nat, v < 5 → (nI m = nI v ↔ m = v) := fun v hv => nI_eq (by omega) (by omega)
    have none : thV m n V = none → wX16_lay_81 Q (ad 17 0 0) (nI i) (nI m) n τ := fun e => by
      rw [e] at hQ
      exact ⟨fun z => absurd rfl z, fun _ => ⟨k17 h, M_ref h W.2.1 R 1 hQ⟩⟩
    have some_ : ∀ t, thV m n V = some t → (m = 3 → ∃ a e, n = nI a ∧ a < 32 ∧ t = (3, e.1.map Int32.toInt64) ∧ RowAt ad τ 40 a V.2.2.1.2.1 V.2.2.1.2.2 e ∧ zFi τ 897 (ad 15 40 0) = nI V.2.2.1.2.1) → (m = 4 → ∃ a e, n = nI a ∧ a < 32 ∧ t = (4, e.2.1) ∧ RowAt ad τ 40 a V.2.2.1.2.1 V.2.2.1.2.2 e) → (m = 0 → t = noT) → (m = 1 ∨ m = 2 → t = (m, [n.toInt64])) → wX16_lay_77 Q (ad 17 0 0) (nI i) (nI m) n τ := by
      intro t et t3 t4 t0 t12
      rw [et] at hQ
      refine ⟨fun _ => ⟨k17 h, M_actR h W.2.1 R (fun p σ2 hp f2 h2 e1 e2 e3 R2 => ?_)⟩, fun z => absurd z (by decide)⟩
      obtain ⟨v1, v2⟩ := M_shl (V := V) h2 hi
      refine ⟨k13 h2 hp, _, p772 h2 hp, k17 h2, _, p1052 h2, k1052 h2, v1, _, v2, k16 h2 (by omega), ?_⟩
      refine M_become h2 (by omega) (by omega) (by omega) (R2.2.2.2.1 i hi) (fun σ3 f3 m3 => ?_)
      have f3' : Fr ct (S4 p i) σ2 σ3 := f3.mono S3_4a
      have o : ∀ {c j : Nat}, c ≠ 16 → c ≠ 963 → c ≠ 964 → ¬ S3 p (c, j) := fun a b d => S3n (Or.inl ⟨a, b, d⟩)
      have h3 : Sh ad ct σ3 := h2.fr f3 (o (by decide) (by decide) (by decide)) (o (by decide) (by decide) (by decide)) (o (by decide) (by decide) (by decide))
      obtain ⟨w1, w2⟩ := M_shl (V := V) h3 hi
      have h120 : 100 + i < 120 := by omega
      refine ⟨k17 h3, _, p1052 h3, k1052 h3, w1, _, w2, k16 h3 h120, ?_⟩
      have fin : ∀ ρ, Fr ct (S3 (100 + i)) σ3 ρ → MThg ad ρ (100 + i) t → wX16_done (ad 17 0 0) 1 ρ (fun y σ' => Q y σ') := fun ρ fr mt => by
        have m1 : MThg ad ρ p (V.1.2.2.2 i) := m3.cg h3 fr (by omega) (S3n (Or.inr (by omega))) (S3n (Or.inr (by omega))) (S3n (Or.inr (by omega)))
        have fa : Fr ct (S4 p i) σ2 ρ := f3'.tr1 (fr.mono S3_4b)
        obtain ⟨hr, RR⟩ := M_layfin hp hi h2 R2 e1 e2 fa m1 mt
        exact M_done hr psh_len RR 1 (fun σ4 f4 R4 => hQ σ4 ((f2.mono SA_sm).tr1 ((fa.mono S4_sm).tr1 f4)) R4)
      have ca : S3 (100 + i) (ct (ad 16 (100 + i) 0)) := by rw [c16 h3 h120]; exact ⟨Or.inl rfl, rfl⟩
      have cb : S3 (100 + i) (ct (ad 963 (100 + i) 0)) := by rw [c963 h3 h120]; exact ⟨Or.inr (Or.inl rfl), rfl⟩
      have cc : S3 (100 + i) (ct (ad 964 (100 + i) 0)) := by rw [c964 h3 h120]; exact ⟨Or.inr (Or.inr rfl), rfl⟩
      generalize hρ : uFi (uFi σ3 960 (ad 16 (100 + i) 0) (nI m)) 961 (ad 16 (100 + i) 0) n = ρ0
      have g0 : Fr ct (S3 (100 + i)) σ3 ρ0 := by
        rw [← hρ]
        have f0 : Fr ct (S3 (100 + i)) σ3 σ3 := Fr.rf
        have f1 := f0.uFi 960 (ad 16 (100 + i) 0) (nI m) (Or.inl ca)
        exact f1.uFi 961 (ad 16 (100 + i) 0) n (Or.inl ca)
      have shr : ∀ {ρ}, Fr ct (S3 (100 + i)) σ3 ρ → Sh ad ct ρ := fun fr => h3.fr fr (S3n (Or.inl (by decide))) (S3n (Or.inl (by decide))) (S3n (Or.inl (by decide)))
      have r960 : ∀ z, zFi (uFi ρ0 962 (ad 16 (100 + i) 0) z) 960 (ad 16 (100 + i) 0) = nI m := fun z => by rw [← hρ]; simp only [yK_uFi, yL_uFi, yFj_uFi, yFr_uFi, yAi_uFi, yAj_uFi, yAd_uFi, yAr_uFi, yFi_uFi, yK_uFj, yL_uFj, yFi_uFj, yFr_uFj, yAi_uFj, yAj_uFj, yAd_uFj, yAr_uFj, yFj_uFj, yK_uFr, yL_uFr, yFi_uFr, yFj_uFr, yAi_uFr, yAj_uFr, yAd_uFr, yAr_uFr, yFr_uFr, yK_uAi, yL_uAi, yFi_uAi, yFj_uAi, yFr_uAi, yAj_uAi, yAd_uAi, yAr_uAi, yAi_uAi, yK_uAj, yL_uAj, yFi_uAj, yFj_uAj, yFr_uAj, yAi_uAj, yAd_uAj, yAr_uAj, yAj_uAj, yK_uAd, yL_uAd, yFi_uAd, yFj_uAd, yFr_uAd, yAi_uAd, yAj_uAd, yAr_uAd, yAd_uAd, yK_uAr, yL_uAr, yFi_uAr, yFj_uAr, yFr_uAr, yAi_uAr, yAj_uAr, yAd_uAr, yAr_uAr, yK_uCi, yL_uCi, yFi_uCi, yFj_uCi, yFr_uCi, yAj_uCi, yAd_uCi, yAr_uCi, yK_uCj, yL_uCj, yFi_uCj, yFj_uCj, yFr_uCj, yAi_uCj, yAd_uCj, yAr_uCj, yK_uCx, yL_uCx, yFi_uCx, yFj_uCx, yFr_uCx, yAi_uCx, yAd_uCx, yAr_uCx, yK_nO, yL_nO, yFi_nO, yFj_nO, yFr_nO, yAi_nO, yAj_nO, yAd_nO, yAr_nO, yK_nA, yL_nA, yFi_nA, yFj_nA, yFr_nA, yAi_nA, yAj_nA, yAd_nA, yAr_nA, yK_nC, yL_nC, yFi_nC, yFj_nC, yFr_nC, yAi_nC, yAj_nC, yAd_nC, yAr_nC, yu2, yAi_uCi', yAj_uCj', yAj_uCx', Option.some.injEq, exists_eq_left', true_and, and_true, not_false_eq_true, forall_const, false_and, and_false, reduceIte, Nat.reduceEqDiff, ne_eq]
      have r961 : ∀ z, zFi (uFi ρ0 962 (ad 16 (100 + i) 0) z) 961 (ad 16 (100 + i) 0) = n := fun z => by rw [← hρ]; simp only [yK_uFi, yL_uFi, yFj_uFi, yFr_uFi, yAi_uFi, yAj_uFi, yAd_uFi, yAr_uFi, yFi_uFi, yK_uFj, yL_uFj, yFi_uFj, yFr_uFj, yAi_uFj, yAj_uFj, yAd_uFj, yAr_uFj, yFj_uFj, yK_uFr, yL_uFr, yFi_uFr, yFj_uFr, yAi_uFr, yAj_uFr, yAd_uFr, yAr_uFr, yFr_uFr, yK_uAi, yL_uAi, yFi_uAi, yFj_uAi, yFr_uAi, yAj_uAi, yAd_uAi, yAr_uAi, yAi_uAi, yK_uAj, yL_uAj, yFi_uAj, yFj_uAj, yFr_uAj, yAi_uAj, yAd_uAj, yAr_uAj, yAj_uAj, yK_uAd, yL_uAd, yFi_uAd, yFj_uAd, yFr_uAd, yAi_uAd, yAj_uAd, yAr_uAd, yAd_uAd, yK_uAr, yL_uAr, yFi_uAr, yFj_uAr, yFr_uAr, yAi_uAr, yAj_uAr, yAd_uAr, yAr_uAr, yK_uCi, yL_uCi, yFi_uCi, yFj_uCi, yFr_uCi, yAj_uCi, yAd_uCi, yAr_uCi, yK_uCj, yL_uCj, yFi_uCj, yFj_uCj, yFr_uCj, yAi_uCj, yAd_uCj, yAr_uCj, yK_uCx, yL_uCx, yFi_uCx, yFj_uCx, yFr_uCx, yAi_uCx, yAd_uCx, yAr_uCx, yK_nO, yL_nO, yFi_nO, yFj_nO, yFr_nO, yAi_nO, yAj_nO, yAd_nO, yAr_nO, yK_nA, yL_nA, yFi_nA, yFj_nA, yFr_nA, yAi_nA, yAj_nA, yAd_nA, yAr_nA, yK_nC, yL_nC, yFi_nC, yFj_nC, yFr_nC, yAi_nC, yAj_nC, yAd_nC, yAr_nC, yu2, yAi_uCi', yAj_uCj', yAj_uCx', Option.some.injEq, exists_eq_left', true_and, and_true, not_false_eq_true, forall_const, false_and, and_false, reduceIte, Nat.reduceEqDiff, ne_eq]
      have r962 : ∀ z, zFi (uFi ρ0 962 (ad 16 (100 + i) 0) z) 962 (ad 16 (100 + i) 0) = z := fun z => by simp only [yK_uFi, yL_uFi, yFj_uFi, yFr_uFi, yAi_uFi, yAj_uFi, yAd_uFi, yAr_uFi, yFi_uFi, yK_uFj, yL_uFj, yFi_uFj, yFr_uFj, yAi_uFj, yAj_uFj, yAd_uFj, yAr_uFj, yFj_uFj, yK_uFr, yL_uFr, yFi_uFr, yFj_uFr, yAi_uFr, yAj_uFr, yAd_uFr, yAr_uFr, yFr_uFr, yK_uAi, yL_uAi, yFi_uAi, yFj_uAi, yFr_uAi, yAj_uAi, yAd_uAi, yAr_uAi, yAi_uAi, yK_uAj, yL_uAj, yFi_uAj, yFj_uAj, yFr_uAj, yAi_uAj, yAd_uAj, yAr_uAj, yAj_uAj, yK_uAd, yL_uAd, yFi_uAd, yFj_uAd, yFr_uAd, yAi_uAd, yAj_uAd, yAr_uAd, yAd_uAd, yK_uAr, yL_uAr, yFi_uAr, yFj_uAr, yFr_uAr, yAi_uAr, yAj_uAr, yAd_uAr, yAr_uAr, yK_uCi, yL_uCi, yFi_uCi, yFj_uCi, yFr_uCi, yAj_uCi, yAd_uCi, yAr_uCi, yK_uCj, yL_uCj, yFi_uCj, yFj_uCj, yFr_uCj, yAi_uCj, yAd_uCj, yAr_uCj, yK_uCx, yL_uCx, yFi_uCx, yFj_uCx, yFr_uCx, yAi_uCx, yAd_uCx, yAr_uCx, yK_nO, yL_nO, yFi_nO, yFj_nO, yFr_nO, yAi_nO, yAj_nO, yAd_nO, yAr_nO, yK_nA, yL_nA, yFi_nA, yFj_nA, yFr_nA, yAi_nA, yAj_nA, yAd_nA, yAr_nA, yK_nC, yL_nC, yFi_nC, yFj_nC, yFr_nC, yAi_nC, yAj_nC, yAd_nC, yAr_nC, yu2, yAi_uCi', yAj_uCj', yAj_uCx', Option.some.injEq, exists_eq_left', true_and, and_true, not_false_eq_true, forall_const, false_and, and_false, reduceIte, Nat.reduceEqDiff, ne_eq]
      have gz : ∀ z, Fr ct (S3 (100 + i)) σ3 (uFi ρ0 962 (ad 16 (100 + i) 0) z) := fun z => g0.uFi 962 (ad 16 (100 + i) 0) z (Or.inl ca)
      have k0 := k16 (shr g0) h120
      -- the sheet told is as it was
      have fAll : ∀ {ρ}, Fr ct (S3 (100 + i)) σ3 ρ → Fr ct (fun c => SA p c ∨ S4 p i c) τ ρ := fun fr => f2.tr (f3'.tr1 (fr.mono S3_4b))
      have sn : ∀ {c j : Nat}, c ≠ 16 → c ≠ 963 → c ≠ 964 → c ≠ 1055 → c ≠ 17 → c ≠ 1026 → c ≠ 13 → ¬ (SA p (c, j) ∨ S4 p i (c, j)) := fun a b d e f g hh => fun q => q.elim (SAn f g hh) (S4n (Or.inl ⟨a, b, d⟩) e)
      refine ⟨fun n3 => ⟨fun n4 => ⟨k0, ?_⟩, fun z4 => ?_⟩, fun z3 => ?_⟩
      · refine ⟨1, k16 (shr (gz 0)) h120, fun _ => ⟨k17 (shr (gz 0)), fin _ (gz 0) ?_⟩, fun c => absurd ?_ c⟩
        · have hm3 : m ≠ 3 := fun w => n3 ((N 3 (by decide)).mpr w)
          have hm4 : m ≠ 4 := fun w => n4 ((N 4 (by decide)).mpr w)
          by_cases c0 : m = 0
          · rw [t0 c0]
            exact ⟨by rw [r960, c0]; rfl, (by decide : 0 < 5), fun _ => rfl, fun z => absurd z (by decide), fun z => absurd z (by decide), fun z => absurd z (by decide)⟩
          · rw [t12 (by omega)]
            exact ⟨r960 0, hm5, fun z => absurd z c0, fun _ => by rw [r961], fun z => absurd z hm3, fun z => absurd z hm4⟩
        · rw [r962]; decide
      · have hm4 := (N 4 (by decide)).mp z4
        obtain ⟨a, e, rfl, ha, rfl, hrow⟩ := t4 hm4
        have hrow3 := hrow.cg h (f2.tr f3') (by decide) (fun g g1 g2 => sn (by omega) (by omega) (by omega) (by omega) (by omega) (by omega) (by omega))
        have ia : ix (nI a) = a := nI_clamp (by omega)
        have l16 := hrow.2.2.1
        refine ⟨_, p1050 h3, k15 h3 (by decide), _, p899 h3 (by decide), k899 h3 (by decide), by rw [l899 h3 (by decide)]; exact vp_in_nI ha (by decide), k0, ?_⟩
        rw [ia, hrow3.2.2.2.1]
        have L : ∀ (d x : Nat) (ρ : St), x + d = e.2.1.length → Fr ct (S3 (100 + i)) σ3 ρ → zFi ρ 960 (ad 16 (100 + i) 0) = nI m → zFi ρ 962 (ad 16 (100 + i) 0) = nI e.2.1.length → (∀ j v, j < x → e.2.1[j]? = some v → zAj ρ (ad 964 (100 + i) 0) j = v) → lX16_lay_175 Q (d + 1) (ad 17 0 0) (nI m) (nI a) (ad 16 (100 + i) 0) (nI x) ρ := by
          intro d
          induction d with
          | zero =>
            intro x ρ hx fr q0 q2 qa
            have hr := shr fr
            refine ⟨k16 hr h120, fun _ => ⟨k17 hr, fin ρ fr ⟨by rw [q0, hm4], (by decide : 4 < 5), fun z => absurd z (show ¬ 4 = 0 by decide), fun z => absurd z (show ¬ (4 = 1 ∨ 4 = 2) by decide), fun z => absurd z (show ¬ 4 = 3 by decide), fun _ => ⟨q2, l16, fun j v hv => qa j v ?_ hv⟩⟩⟩, fun c => absurd ?_ c⟩
            · have := (List.getElem?_eq_some_iff.mp hv).1
              have hv2 : j < e.2.1.length := this
              omega
            · rw [q2]; exact nI_le (by omega) (by omega)
          | succ d ih =>
            intro x ρ hx fr q0 q2 qa
            have hr := shr fr
            have hrr := hrow.cg h (fAll fr) (by decide) (fun g g1 g2 => sn (by omega) (by omega) (by omega) (by omega) (by omega) (by omega) (by omega))
            refine ⟨k16 hr h120, fun c => absurd c (by rw [q2]; exact nI_ge (by omega) (by omega)), fun _ => ⟨fun _ => ⟨_, p964 hr h120, k17 hr, _, p1050 hr, k15 hr (by decide), _, p901 hr (by decide), k901 hr (by decide), ?_, k964 hr h120, by rw [l964 hr h120]; exact vp_in_nI (by omega) (by decide), ?_⟩, fun z => absurd z n3⟩⟩
            · rw [l901 hr (by decide), show (16 : Int32) = nI 16 from rfl, pk_mul, nI_add]; exact vp_in_nI (by omega) (by decide)
            · rw [show (16 : Int32) * nI a + nI x = nI (16 * a + x) by rw [show (16 : Int32) = nI 16 from rfl, pk_mul, nI_add], show ix (nI (16 * a + x)) = 16 * a + x from nI_clamp (by omega), nI_1, show ix (nI x) = x from nI_clamp (by omega)]
              refine ih (x + 1) _ (by omega) (fr.uAj _ _ _ (Or.inl cc)) q0 q2 (fun j v hj hv => ?_)
              simp only [yK_uFi, yL_uFi, yFj_uFi, yFr_uFi, yAi_uFi, yAj_uFi, yAd_uFi, yAr_uFi, yFi_uFi, yK_uFj, yL_uFj, yFi_uFj, yFr_uFj, yAi_uFj, yAj_uFj, yAd_uFj, yAr_uFj, yFj_uFj, yK_uFr, yL_uFr, yFi_uFr, yFj_uFr, yAi_uFr, yAj_uFr, yAd_uFr, yAr_uFr, yFr_uFr, yK_uAi, yL_uAi, yFi_uAi, yFj_uAi, yFr_uAi, yAj_uAi, yAd_uAi, yAr_uAi, yAi_uAi, yK_uAj, yL_uAj, yFi_uAj, yFj_uAj, yFr_uAj, yAi_uAj, yAd_uAj, yAr_uAj, yAj_uAj, yK_uAd, yL_uAd, yFi_uAd, yFj_uAd, yFr_uAd, yAi_uAd, yAj_uAd, yAr_uAd, yAd_uAd, yK_uAr, yL_uAr, yFi_uAr, yFj_uAr, yFr_uAr, yAi_uAr, yAj_uAr, yAd_uAr, yAr_uAr, yK_uCi, yL_uCi, yFi_uCi, yFj_uCi, yFr_uCi, yAj_uCi, yAd_uCi, yAr_uCi, yK_uCj, yL_uCj, yFi_uCj, yFj_uCj, yFr_uCj, yAi_uCj, yAd_uCj, yAr_uCj, yK_uCx, yL_uCx, yFi_uCx, yFj_uCx, yFr_uCx, yAi_uCx, yAd_uCx, yAr_uCx, yK_nO, yL_nO, yFi_nO, yFj_nO, yFr_nO, yAi_nO, yAj_nO, yAd_nO, yAr_nO, yK_nA, yL_nA, yFi_nA, yFj_nA, yFr_nA, yAi_nA, yAj_nA, yAd_nA, yAr_nA, yK_nC, yL_nC, yFi_nC, yFj_nC, yFr_nC, yAi_nC, yAj_nC, yAd_nC, yAr_nC, yu2, yAi_uCi', yAj_uCj', yAj_uCx', Option.some.injEq, exists_eq_left', true_and, and_true, not_false_eq_true, forall_const, false_and, and_false, reduceIte, Nat.reduceEqDiff, ne_eq]
              by_cases c : j = x
              · rw [if_pos c]; exact hrr.2.2.2.2.1 x v (by rw [← c]; exact hv)
              · rw [if_neg c]; exact qa j v (by omega) hv
        exact ⟨_, L e.2.1.length 0 _ (by omega) (gz _) (r960 _) (r962 _) (fun j v hj => absurd hj (Nat.not_lt_zero j))⟩
      · have hm3 := (N 3 (by decide)).mp z3
        obtain ⟨a, e, rfl, ha, rfl, hrow, hwid⟩ := t3 hm3
        have hw6 := W.2.2.2.1
        have hel := hrow.1
        have ew : zFi ρ0 897 (ad 15 40 0) = nI V.2.2.1.2.1 := ((fAll g0).fi (k15 h (by decide)) (by decide) (c15 h (by decide)) (sn (by decide) (by decide) (by decide) (by decide) (by decide) (by decide) (by decide)) _).trans hwid
        refine ⟨_, p1050 h3, k15 h3 (by decide), k0, ?_⟩
        rw [ew]
        have L : ∀ (d x : Nat) (ρ : St), x + d = V.2.2.1.2.1 → Fr ct (S3 (100 + i)) σ3 ρ → zFi ρ 960 (ad 16 (100 + i) 0) = nI m → zFi ρ 962 (ad 16 (100 + i) 0) = nI V.2.2.1.2.1 → (∀ j v, j < x → e.1[j]? = some v → zAi ρ (ad 963 (100 + i) 0) j = v) → lX16_lay_175 Q (d + 1) (ad 17 0 0) (nI m) (nI a) (ad 16 (100 + i) 0) (nI x) ρ := by
          intro d
          induction d with
          | zero =>
            intro x ρ hx fr q0 q2 qa
            have hr := shr fr
            refine ⟨k16 hr h120, fun _ => ⟨k17 hr, fin ρ fr ⟨by rw [q0, hm3], (by decide : 3 < 5), fun z => absurd z (show ¬ 3 = 0 by decide), fun z => absurd z (show ¬ (3 = 1 ∨ 3 = 2) by decide), fun _ => ⟨?_, ?_, fun j v hv => ?_⟩, fun z => absurd z (show ¬ 3 = 4 by decide)⟩⟩, fun c => absurd ?_ c⟩
            · rw [q2]; show _ = nI (e.1.map Int32.toInt64).length; rw [List.length_map, hel]
            · show (e.1.map Int32.toInt64).length ≤ 6; rw [List.length_map, hel]; exact hw6
            · have hv : (e.1.map Int32.toInt64)[j]? = some v := hv
              rw [List.getElem?_map] at hv
              cases e1' : e.1[j]? with
              | none => rw [e1'] at hv; cases hv
              | some u =>
                rw [e1'] at hv
                cases hv
                have := (List.getElem?_eq_some_iff.mp e1').1
                rw [qa j u (by omega) e1']
            · rw [q2]; exact nI_le (by omega) (by omega)
          | succ d ih =>
            intro x ρ hx fr q0 q2 qa
            have hr := shr fr
            have hrr := hrow.cg h (fAll fr) (by decide) (fun g g1 g2 => sn (by omega) (by omega) (by omega) (by omega) (by omega) (by omega) (by omega))
            refine ⟨k16 hr h120, fun c => absurd c (by rw [q2]; exact nI_ge (by omega) (by omega)), fun _ => ⟨fun z => absurd z3 z, fun _ => ⟨_, p963 hr h120, k17 hr, _, p1050 hr, k15 hr (by decide), _, p898 hr (by decide), k898 hr (by decide), ?_, k963 hr h120, by rw [l963 hr h120]; exact vp_in_nI (by omega) (by decide), ?_⟩⟩⟩
            · rw [l898 hr (by decide), show (6 : Int32) = nI 6 from rfl, pk_mul, nI_add]; exact vp_in_nI (by omega) (by decide)
            · rw [show (6 : Int32) * nI a + nI x = nI (6 * a + x) by rw [show (6 : Int32) = nI 6 from rfl, pk_mul, nI_add], show ix (nI (6 * a + x)) = 6 * a + x from nI_clamp (by omega), nI_1, show ix (nI x) = x from nI_clamp (by omega)]
              refine ih (x + 1) _ (by omega) (fr.uAi _ _ _ (Or.inl cb)) q0 q2 (fun j v hj hv => ?_)
              simp only [yK_uFi, yL_uFi, yFj_uFi, yFr_uFi, yAi_uFi, yAj_uFi, yAd_uFi, yAr_uFi, yFi_uFi, yK_uFj, yL_uFj, yFi_uFj, yFr_uFj, yAi_uFj, yAj_uFj, yAd_uFj, yAr_uFj, yFj_uFj, yK_uFr, yL_uFr, yFi_uFr, yFj_uFr, yAi_uFr, yAj_uFr, yAd_uFr, yAr_uFr, yFr_uFr, yK_uAi, yL_uAi, yFi_uAi, yFj_uAi, yFr_uAi, yAj_uAi, yAd_uAi, yAr_uAi, yAi_uAi, yK_uAj, yL_uAj, yFi_uAj, yFj_uAj, yFr_uAj, yAi_uAj, yAd_uAj, yAr_uAj, yAj_uAj, yK_uAd, yL_uAd, yFi_uAd, yFj_uAd, yFr_uAd, yAi_uAd, yAj_uAd, yAr_uAd, yAd_uAd, yK_uAr, yL_uAr, yFi_uAr, yFj_uAr, yFr_uAr, yAi_uAr, yAj_uAr, yAd_uAr, yAr_uAr, yK_uCi, yL_uCi, yFi_uCi, yFj_uCi, yFr_uCi, yAj_uCi, yAd_uCi, yAr_uCi, yK_uCj, yL_uCj, yFi_uCj, yFj_uCj, yFr_uCj, yAi_uCj, yAd_uCj, yAr_uCj, yK_uCx, yL_uCx, yFi_uCx, yFj_uCx, yFr_uCx, yAi_uCx, yAd_uCx, yAr_uCx, yK_nO, yL_nO, yFi_nO, yFj_nO, yFr_nO, yAi_nO, yAj_nO, yAd_nO, yAr_nO, yK_nA, yL_nA, yFi_nA, yFj_nA, yFr_nA, yAi_nA, yAj_nA, yAd_nA, yAr_nA, yK_nC, yL_nC, yFi_nC, yFj_nC, yFr_nC, yAi_nC, yAj_nC, yAd_nC, yAr_nC, yu2, yAi_uCi', yAj_uCj', yAj_uCx', Option.some.injEq, exists_eq_left', true_and, and_true, not_false_eq_true, forall_const, false_and, and_false, reduceIte, Nat.reduceEqDiff, ne_eq]
              by_cases c : j = x
              · rw [if_pos c]; exact hrr.2.1 x v (by rw [← c]; exact hv)
              · rw [if_neg c]; exact qa j v (by omega) hv
        exact ⟨_, L V.2.2.1.2.1 0 _ (by omega) (gz _) (r960 _) (r962 _) (fun j v hj => absurd hj (Nat.not_lt_zero j))⟩
    have no3 : ∀ {t : Thg}, m ≠ 3 → (m = 3 → ∃ a e, n = nI a ∧ a < 32 ∧ t = (3, e.1.map Int32.toInt64) ∧ RowAt ad τ 40 a V.2.2.1.2.1 V.2.2.1.2.2 e ∧ zFi τ 897 (ad 15 40 0) = nI V.2.2.1.2.1) := fun z w => absurd w z
    refine ⟨fun z => ?_, fun z => ⟨fun z1 => ⟨fun z2 => ⟨k17 h, ?_⟩, fun z2 => ⟨k17 h, ?_⟩⟩, fun z1 => ⟨k17 h, ?_⟩⟩⟩
    · have z := (N 0 (by decide)).mp z
      exact some_ noT (by unfold thV; rw [if_pos z]) (no3 (by omega)) (fun w => absurd w (by omega)) (fun _ => rfl) (fun w => absurd w (by omega))
    · have z := fun w => z ((N 0 (by decide)).mpr w)
      have z1 := fun w => z1 ((N 1 (by decide)).mpr w)
      have z2 := fun w => z2 ((N 2 (by decide)).mpr w)
      refine M_isAns h R n (fun e => ⟨fun _ => none ?_, fun w => absurd rfl w⟩) (fun a e q1 q2 q3 q4 q5 q6 q7 q8 => ⟨fun w => absurd w (by decide), fun _ => ?_⟩)
      · unfold thV
        rw [if_neg z, if_neg z1, if_neg z2, e]
        split <;> rfl
      · by_cases c3 : m = 3
        · refine some_ (3, e.1.map Int32.toInt64) ?_ (fun _ => ⟨a, e, q1, q2, rfl, q5, q6⟩) (fun w => absurd w (by omega)) (fun w => absurd w z) (fun w => absurd w (by omega))
          unfold thV
          rw [if_neg z, if_neg z1, if_neg z2, if_pos c3, q4]; rfl
        · refine some_ (4, e.2.1) ?_ (fun w => absurd w c3) (fun _ => ⟨a, e, q1, q2, rfl, q5⟩) (fun w => absurd w z) (fun w => w.elim (fun y => absurd y z1) (fun y => absurd y z2))
          unfold thV
          rw [if_neg z, if_neg z1, if_neg z2, if_neg c3, q4]; rfl
    · have z2 := (N 2 (by decide)).mp z2
      refine M_isQ h R wf.2.2.2.2.1 n (fun e => ⟨fun _ => none ?_, fun w => absurd rfl w⟩) (fun i2 x hi2 e hx ex => ⟨fun w => absurd w (by decide), fun _ => ?_⟩)
      · unfold thV; rw [if_neg (by omega), if_neg (by omega), if_pos z2, e]; rfl
      · refine some_ (2, [n.toInt64]) ?_ (no3 (by omega)) (fun w => absurd w (by omega)) (fun w => absurd w (by omega)) (fun _ => by rw [z2])
        unfold thV; rw [if_neg (by omega), if_neg (by omega), if_pos z2, ex]; rfl
    · have z1 := (N 1 (by decide)).mp z1
      refine M_isFact h R wf.2.2.1 n (fun e => ⟨fun _ => none ?_, fun w => absurd rfl w⟩) (fun i2 x hi2 e hx ex => ⟨fun w => absurd w (by decide), fun _ => ?_⟩)
      · unfold thV; rw [if_neg (by omega), if_pos z1, e]; rfl
      · refine some_ (1, [n.toInt64]) ?_ (no3 (by omega)) (fun w => absurd w (by omega)) (fun w => absurd w (by omega)) (fun _ => by rw [z1])
        unfold thV; rw [if_neg (by omega), if_pos z1, ex]; rfl
end M9
