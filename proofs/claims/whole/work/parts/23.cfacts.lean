section K5
variable {ad : Ad} {ct : Ct} {σ : St}
theorem C_isDropped {V : Vt} (h : Sh ad ct σ) (R : RC ad ct σ V) (hl : V.1.2.1.length ≤ 60) {i : Nat} {x : Fct} (hx : V.1.2.1[i]? = some x) {Q : Int32 → St → Prop} (hQ : Q (zB x.2.2.2) σ) : wX6_isDropped (ad 7 0 0) (nI i) σ Q := by
  have hi := (List.getElem?_eq_some_iff.mp hx).1
  have g := (R.2.1.2 i x hx).2.2.2
  refine ⟨k7 h, ⟨fun c => ⟨Or.inl rfl, ?_⟩, fun c => ⟨Or.inr rfl, ?_⟩⟩⟩
  · rw [has_bt _ (by omega), g] at c
    rw [c] at hQ; exact hQ
  · rw [has_bt _ (by omega), g] at c
    rw [show x.2.2.2 = true by cases e : x.2.2.2 <;> simp_all] at hQ; exact hQ
theorem C_weight {V : Vt} (h : Sh ad ct σ) (R : RC ad ct σ V) (hl : V.1.2.1.length ≤ 60) {i k : Nat} {x : Fct} (hx : V.1.2.1[i]? = some x) (hk : k < 4) {Q : Int64 → St → Prop} (hQ : Q (x.2.2.1 k) σ) : wX6_weight (ad 7 0 0) (nI i) (nI k) σ Q := by
  have hi := (List.getElem?_eq_some_iff.mp hx).1
  have e4 : nI i * 4 + nI k = nI (4 * i + k) := by rw [show (4 : Int32) = nI 4 from rfl, pk_mul, nI_add, Nat.mul_comm]
  have e5 : ix (nI (4 * i + k)) = 4 * i + k := nI_clamp (by omega)
  unfold wX6_weight wX6_weight_0
  rw [e4, e5]
  refine ⟨k7 h, _, p388 h, k388 h, by rw [l388 h]; exact vp_in_nI (by omega) (by decide), ?_⟩
  rw [(R.2.1.2 i x hx).2.2.1 k hk]
  exact hQ
theorem C_drop {V : Vt} (h : Sh ad ct σ) (R : RC ad ct σ V) (W : WFv V) (v v2 : Int32) {Q : Int32 → St → Prop} (hQ : ∀ σ', Fr ct SC σ σ' → RC ad ct σ' (droV v (decide (v2 ≠ 0)) V).2 → Q (droV v (decide (v2 ≠ 0)) V).1 σ') : wX11_drop 10 100 (ad 12 0 0) v v2 σ Q := by
  have wf := W.1.wf
  have hl := wf.2.2.1
  unfold wX11_drop wX11_drop_0
  refine ⟨k12 h, _, p704 h, by decide, by decide, k7 h, ?_⟩
  refine C_isFact h R hl v (fun e => ⟨fun q => absurd rfl q, fun _ => ?_⟩) (fun i x hi e hx ex => ⟨fun _ => ⟨by decide, by decide, fun b hb => ?_⟩, fun q => absurd q (by decide)⟩)
  · unfold droV at hQ
    rw [e] at hQ
    exact ⟨k12 h, by decide, by decide, hQ _ (frst h 1) (rcst h R 1)⟩
  · subst e
    have fb : Fr ct (fun _ => False) σ (nO σ b 1) := Fr.rf.nO b 1 hb
    have hb1 := h.fr fb id id id
    have R1 : RC ad ct (nO σ b 1) V := R.frM h (fb.mono (fun _ q => q.elim))
    have key : ∀ z : Nat, lN z = b2j x.2.2.2 → wX11_drop_42 10 100 Q 1 5 (ad 12 0 0) (nI i) v2 (lN z) 0 (nI i) 2 b b (ad 12 0 0) (nO σ b 1) := fun z hz => by
      unfold wX11_drop_42
      refine ⟨by decide, by decide, by simp only [yK_uFi, yL_uFi, yFj_uFi, yFr_uFi, yAi_uFi, yAj_uFi, yAd_uFi, yAr_uFi, yFi_uFi, yK_uFj, yL_uFj, yFi_uFj, yFr_uFj, yAi_uFj, yAj_uFj, yAd_uFj, yAr_uFj, yFj_uFj, yK_uFr, yL_uFr, yFi_uFr, yFj_uFr, yAi_uFr, yAj_uFr, yAd_uFr, yAr_uFr, yFr_uFr, yK_uAi, yL_uAi, yFi_uAi, yFj_uAi, yFr_uAi, yAj_uAi, yAd_uAi, yAr_uAi, yAi_uAi, yK_uAj, yL_uAj, yFi_uAj, yFj_uAj, yFr_uAj, yAi_uAj, yAd_uAj, yAr_uAj, yAj_uAj, yK_uAd, yL_uAd, yFi_uAd, yFj_uAd, yFr_uAd, yAi_uAd, yAj_uAd, yAr_uAd, yAd_uAd, yK_uAr, yL_uAr, yFi_uAr, yFj_uAr, yFr_uAr, yAi_uAr, yAj_uAr, yAd_uAr, yAr_uAr, yK_uCi, yL_uCi, yFi_uCi, yFj_uCi, yFr_uCi, yAj_uCi, yAd_uCi, yAr_uCi, yK_uCj, yL_uCj, yFi_uCj, yFj_uCj, yFr_uCj, yAi_uCj, yAd_uCj, yAr_uCj, yK_uCx, yL_uCx, yFi_uCx, yFj_uCx, yFr_uCx, yAi_uCx, yAd_uCx, yAr_uCx, yK_nO, yL_nO, yFi_nO, yFj_nO, yFr_nO, yAi_nO, yAj_nO, yAd_nO, yAr_nO, yK_nA, yL_nA, yFi_nA, yFj_nA, yFr_nA, yAi_nA, yAj_nA, yAd_nA, yAr_nA, yK_nC, yL_nC, yFi_nC, yFj_nC, yFr_nC, yAi_nC, yAj_nC, yAd_nC, yAr_nC, yu2, yAi_uCi', yAj_uCj', yAj_uCx', Option.some.injEq, exists_eq_left', true_and, and_true, not_false_eq_true, forall_const, false_and, and_false, reduceIte, Nat.reduceEqDiff, ne_eq], by decide, by decide, ?_, ?_⟩
      · have fb : Fr ct (fun _ => False) σ (uFr (uFj (uFi (uFi (uFi (nO σ b 1) 0 b 2) 1 b (nI i)) 2 b 0) 3 b (lN z)) 4 b none) := (((((Fr.rf.nO b 1 hb).uFi _ _ _ (Or.inr hb)).uFi _ _ _ (Or.inr hb)).uFi _ _ _ (Or.inr hb)).uFj _ _ _ (Or.inr hb)).uFr _ _ _ hb
        exact k12 (h.fr fb id id id)
      · refine C_acc h R W.2.1 hb (s := 2) (at_ := i) (wh := 0) (t := noT) (Or.inl ⟨rfl, rfl⟩) (fun σ1 f1 R1 => ?_)
        have h1 := h.frC f1
        refine ⟨k12 h1, _, p704 h1, by decide, by decide, k7 h1, ?_⟩
        refine C_mark h1 R1 hl hx v2 (fun σ2 f2 R2 => ⟨by decide, by decide, ?_⟩)
        unfold droV at hQ
        rw [ex] at hQ
        simp only [show ix (nI i) = i from nI_clamp (by omega), ← hz] at hQ
        exact hQ σ2 (f1.tr1 f2) R2
    refine ⟨k12 hb1, _, p704 hb1, by decide, by decide, k7 hb1, ?_⟩
    refine C_isDropped hb1 R1 hl hx ⟨fun c => ?_, fun c => ?_⟩
    · refine key 0 ?_
      cases e : x.2.2.2 with
      | false => rfl
      | true => rw [e] at c; exact absurd c (by decide)
    · refine key 1 ?_
      cases e : x.2.2.2 with
      | true => rfl
      | false => rw [e] at c; exact absurd rfl c
theorem C_put {V : Vt} (h : Sh ad ct σ) (R : RC ad ct σ V) (W : WFv V) (v wh : Int32) (x : Int64) {Q : Int32 → St → Prop} (hQ : ∀ σ', Fr ct SC σ σ' → RC ad ct σ' (putV v wh x V).2 → Q (putV v wh x V).1 σ') : wX11_put 10 100 (ad 12 0 0) v wh x σ Q := by
  have wf := W.1.wf
  have hl := wf.2.2.1
  unfold wX11_put wX11_put_0
  refine ⟨k12 h, _, p704 h, by decide, by decide, k7 h, ?_⟩
  refine C_isFact h R hl v (fun e => ⟨fun q => absurd rfl q, fun _ => ?_⟩) (fun i y hi e hy ey => ⟨fun _ => ?_, fun q => absurd q (by decide)⟩)
  · unfold putV at hQ
    rw [e] at hQ
    exact ⟨k12 h, by decide, by decide, hQ _ (frst h 1) (rcst h R 1)⟩
  · subst e
    unfold putV at hQ
    rw [ey] at hQ
    have bad : (wh < 0 ∨ ¬ wh ≤ 3 ∨ x < 0 ∨ mwei (ix wh) < x) → wX11_put_43 10 100 Q 0 0 (ad 12 0 0) σ := fun c => by
      simp only [if_pos c] at hQ
      exact ⟨k12 h, by decide, by decide, hQ _ (frst h 2) (rcst h R 2)⟩
    refine ⟨fun c => bad (Or.inl c), fun c => ?_⟩
    obtain ⟨k, hk, rfl⟩ := nI_of c
    have ek : ix (nI k) = k := nI_clamp hk
    refine pk_le 4 k (fun d => bad (Or.inr (Or.inl (fun z => by have := (nI_leI (b := 3) hk (by decide)).mp z; omega)))) (fun d => ?_)
    rw [ek, mwL_w k d]
    refine ⟨fun c2 => bad (Or.inr (Or.inr (Or.inl c2))), fun c2 => ⟨vp_in_nI d (by decide), fun c3 => ⟨by decide, by decide, fun b hb => ?_⟩, fun c3 => bad (Or.inr (Or.inr (Or.inr ?_)))⟩⟩
    · have fb : Fr ct (fun _ => False) σ (nO σ b 1) := Fr.rf.nO b 1 hb
      have hb1 := h.fr fb id id id
      have R1 : RC ad ct (nO σ b 1) V := R.frM h (fb.mono (fun _ q => q.elim))
      refine ⟨k12 hb1, _, p704 hb1, by decide, by decide, k7 hb1, ?_⟩
      refine C_weight hb1 R1 hl hy d ⟨by decide, by decide, by simp only [yK_uFi, yL_uFi, yFj_uFi, yFr_uFi, yAi_uFi, yAj_uFi, yAd_uFi, yAr_uFi, yFi_uFi, yK_uFj, yL_uFj, yFi_uFj, yFr_uFj, yAi_uFj, yAj_uFj, yAd_uFj, yAr_uFj, yFj_uFj, yK_uFr, yL_uFr, yFi_uFr, yFj_uFr, yAi_uFr, yAj_uFr, yAd_uFr, yAr_uFr, yFr_uFr, yK_uAi, yL_uAi, yFi_uAi, yFj_uAi, yFr_uAi, yAj_uAi, yAd_uAi, yAr_uAi, yAi_uAi, yK_uAj, yL_uAj, yFi_uAj, yFj_uAj, yFr_uAj, yAi_uAj, yAd_uAj, yAr_uAj, yAj_uAj, yK_uAd, yL_uAd, yFi_uAd, yFj_uAd, yFr_uAd, yAi_uAd, yAj_uAd, yAr_uAd, yAd_uAd, yK_uAr, yL_uAr, yFi_uAr, yFj_uAr, yFr_uAr, yAi_uAr, yAj_uAr, yAd_uAr, yAr_uAr, yK_uCi, yL_uCi, yFi_uCi, yFj_uCi, yFr_uCi, yAj_uCi, yAd_uCi, yAr_uCi, yK_uCj, yL_uCj, yFi_uCj, yFj_uCj, yFr_uCj, yAi_uCj, yAd_uCj, yAr_uCj, yK_uCx, yL_uCx, yFi_uCx, yFj_uCx, yFr_uCx, yAi_uCx, yAd_uCx, yAr_uCx, yK_nO, yL_nO, yFi_nO, yFj_nO, yFr_nO, yAi_nO, yAj_nO, yAd_nO, yAr_nO, yK_nA, yL_nA, yFi_nA, yFj_nA, yFr_nA, yAi_nA, yAj_nA, yAd_nA, yAr_nA, yK_nC, yL_nC, yFi_nC, yFj_nC, yFr_nC, yAi_nC, yAj_nC, yAd_nC, yAr_nC, yu2, yAi_uCi', yAj_uCj', yAj_uCx', Option.some.injEq, exists_eq_left', true_and, and_true, not_false_eq_true, forall_const, false_and, and_false, reduceIte, Nat.reduceEqDiff, ne_eq], by decide, by decide, ?_, ?_⟩
      · have fb : Fr ct (fun _ => False) σ (uFr (uFj (uFi (uFi (uFi (nO σ b 1) 0 b 3) 1 b (nI i)) 2 b (nI k)) 3 b (y.2.2.1 k)) 4 b none) := (((((Fr.rf.nO b 1 hb).uFi _ _ _ (Or.inr hb)).uFi _ _ _ (Or.inr hb)).uFi _ _ _ (Or.inr hb)).uFj _ _ _ (Or.inr hb)).uFr _ _ _ hb
        exact k12 (h.fr fb id id id)
      · refine C_acc h R W.2.1 hb (s := 3) (at_ := i) (wh := k) (t := noT) (Or.inl ⟨rfl, rfl⟩) (fun σ1 f1 R1 => ?_)
        have h1 := h.frC f1
        refine ⟨k12 h1, _, p704 h1, by decide, by decide, k7 h1, ?_⟩
        refine C_weigh h1 R1 hl hy d x (fun σ2 f2 R2 => ⟨by decide, by decide, ?_⟩)
        have n1 : ¬ (nI k < 0 ∨ ¬ nI k ≤ 3 ∨ x < 0 ∨ mwei (ix (nI k)) < x) := by
          rintro (z | z | z | z)
          · exact c z
          · exact z (nI_le (b := 3) (by omega) (by decide))
          · exact c2 z
          · rw [ek] at z; exact absurd c3 (Int64.not_le.mpr z)
        simp only [if_neg n1] at hQ
        refine hQ σ2 (f1.tr1 f2) ?_
        rw [show ix (nI i) = i from nI_clamp (by omega), ek]
        exact R2
    · rw [ek]; exact Int64.not_le.mp c3
theorem C_told {V : Vt} (h : Sh ad ct σ) (R : RC ad ct σ V) (W : WFv V) (v wh : Int32) {Q : Int64 → St → Prop} (hQ : Q (tolV v wh V) σ) : wX11_told (ad 12 0 0) v wh σ Q := by
  have wf := W.1.wf
  have hl := wf.2.2.1
  unfold wX11_told wX11_told_0
  refine ⟨k12 h, _, p704 h, k7 h, ?_⟩
  refine C_isFact h R hl v (fun e => ⟨fun _ => ?_, fun q => absurd rfl q⟩) (fun i y hi e hy ey => ⟨fun q => absurd q (by decide), fun _ => ?_⟩)
  · unfold tolV at hQ
    rw [e] at hQ
    exact hQ
  · subst e
    unfold tolV at hQ
    rw [ey] at hQ
    simp only at hQ
    obtain ⟨g1, g2, g3, g4⟩ := R.2.1.2 i y hy
    obtain ⟨⟨t, ht, et⟩, -⟩ := wf.2.2.2.1 i y hy
    obtain ⟨p, hp⟩ : ∃ p, V.1.1[t]? = some p := ⟨_, List.getElem?_eq_getElem ht⟩
    obtain ⟨pk, hp1, hp2, rfl⟩ := wf.2.1 t p hp
    have it : ix (nI t) = t := nI_clamp (by have := wf.1; omega)
    have ii : ix (nI i) = i := nI_clamp (by omega)
    have ip : ix (nI pk) = pk := nI_clamp (by omega)
    rw [et, it, hp] at hQ
    simp only [ip] at hQ
    have d0 : ∀ z : Int32, ¬ 0 ≤ z → z < 0 := fun z hz => Int32.not_le.mp hz
    refine ⟨fun c => ?_, fun c => ?_⟩
    · obtain ⟨k, hk, rfl⟩ := nI_of (Int32.not_lt.mpr c)
      have ek : ix (nI k) = k := nI_clamp hk
      rw [ek] at hQ
      have n0 : ¬ nI k < 0 := nI_pos hk
      refine pk_le 4 k (fun d => ⟨k12 h, _, p704 h, k7 h, ?_⟩) (fun d => ⟨k12 h, _, p704 h, k7 h, ?_⟩)
      · unfold wX6_placesOf wX6_placesOf_0
        rw [ii]
        refine ⟨k7 h, _, p384 h, _, p386 h, k386 h, by rw [l386 h]; exact vp_in_nI (by omega) (by decide), k384 h, by rw [l384 h, g1, et]; exact vp_in_nI (by have := wf.1; omega) (by decide), ?_⟩
        rw [g1, et, it, R.1.2 t _ hp]
        refine ⟨fun q => ?_, fun q => ?_, fun q => ?_, fun q4 q5 q6 => ?_⟩
        · have q := (nI_eq (b := 4) hk (by decide)).mp q
          subst q
          refine ⟨k12 h, _, p704 h, k7 h, C_isDropped h R hl hy ?_⟩
          have hQ : Q (b2j y.2.2.2) σ := hQ
          cases e : y.2.2.2 with
          | false => rw [e] at hQ; exact ⟨fun _ => hQ, fun z => absurd rfl z⟩
          | true => rw [e] at hQ; exact ⟨fun z => absurd z (by decide), fun _ => hQ⟩
        · have q := (nI_eq (b := 5) hk (by decide)).mp q
          subst q
          refine ⟨k12 h, _, p704 h, k7 h, _, p386 h, k386 h, by rw [l386 h]; exact vp_in_nI (by omega) (by decide), ?_⟩
          rw [g1, et]
          exact hQ
        · have q := (nI_eq (b := 6) hk (by decide)).mp q
          subst q
          exact hQ
        · have e4 : k ≠ 4 := fun e => q4 (by rw [e]; rfl)
          have e5 : k ≠ 5 := fun e => q5 (by rw [e]; rfl)
          have e6 : k ≠ 6 := fun e => q6 (by rw [e]; rfl)
          have em : nI k - 7 = nI (k - 7) := pk_sub (b := 7) (by omega)
          rw [em]
          refine pk_le pk (k - 7) (fun z => ?_) (fun z => ⟨k12 h, _, p704 h, k7 h, ?_⟩)
          · by_cases c10 : k ≤ 10
            · rw [if_neg (fun q => q.elim n0 (fun w => w (nI_le (b := 10) c10 (by decide)))), if_neg (by omega), if_neg e4, if_neg e5, if_neg e6, if_neg (by omega)] at hQ
              exact hQ
            · rw [if_pos (show nI k < 0 ∨ ¬ nI k ≤ 10 from Or.inr (fun w => c10 ((nI_leI (b := 10) hk (by decide)).mp w)))] at hQ
              exact hQ
          · rw [if_neg (fun q => q.elim n0 (fun w => w (nI_le (b := 10) (by omega) (by decide)))), if_neg (by omega), if_neg e4, if_neg e5, if_neg e6, if_pos z] at hQ
            have e7 : nI i * 4 + nI (k - 7) = nI (4 * i + (k - 7)) := by rw [show (4 : Int32) = nI 4 from rfl, pk_mul, nI_add, Nat.mul_comm]
            unfold wX6_cell wX6_cell_0
            rw [e7, show ix (nI (4 * i + (k - 7))) = 4 * i + (k - 7) from nI_clamp (by omega)]
            refine ⟨k7 h, _, p387 h, k387 h, by rw [l387 h]; exact vp_in_nI (by omega) (by decide), ?_⟩
            rw [g2 _ (by omega)]
            exact hQ
      · rw [if_neg (fun q => q.elim n0 (fun w => w (nI_le (b := 10) (by omega) (by decide)))), if_pos d] at hQ
        exact C_weight h R hl hy d hQ
    · rw [if_pos (Or.inl (d0 _ c))] at hQ
      exact hQ
end K5
