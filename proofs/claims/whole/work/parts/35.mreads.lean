/-! the reference: what is told of the latest answers -/
section M7
variable {ad : Ad} {ct : Ct} {σ : St}
theorem M_isAns {V : Vt} (h : Sh ad ct σ) (R : RM ad σ V) (v : Int32) {Q : Int32 → St → Prop} (h0 : aOf V v = none → Q 0 σ) (h1 : ∀ i e, v = nI i → i < 32 → V.2.2.1.1[i]? = some e → aOf V v = some e → RowAt ad σ 40 i V.2.2.1.2.1 V.2.2.1.2.2 e → zFi σ 897 (ad 15 40 0) = nI V.2.2.1.2.1 → V.2.2.1.2.1 ≤ 6 → zFi σ 1057 (ad 17 0 0) = zB (!V.2.2.1.2.2) → Q 1 σ) : wX16_isAnswer (ad 17 0 0) v σ Q := by
  obtain ⟨w, ⟨q1, q2, q3, q4, q5⟩, hw2⟩ := R.2.2.2.2.2.1
  unfold wX16_isAnswer wX16_isAnswer_0
  refine ⟨fun c => h0 (if_pos c), fun c => ⟨k17 h, _, p1050 h, k15 h (by decide), ?_⟩⟩
  rw [q1]
  refine ⟨fun d => h0 ?_, fun d => ?_⟩
  · unfold aOf
    rw [if_neg c]
    obtain ⟨j, hj, rfl⟩ := nI_of c
    rw [show ix (nI j) = j from nI_clamp hj]
    exact List.getElem?_eq_none ((nI_leI (by omega) hj).mp d)
  · rcases pk_ix v (n := V.2.2.1.1.length) (by omega) with e | e | ⟨j, hj, e⟩
    · exact absurd e c
    · exact absurd e d
    · obtain ⟨rfl, hc⟩ := hw2 (fun z => by rw [z] at hj; exact absurd hj (Nat.not_lt_zero _))
      refine h1 j (V.2.2.1.1[j]) e (by omega) (List.getElem?_eq_getElem hj) ?_ (q5 j _ (List.getElem?_eq_getElem hj)) q2 q3 hc
      unfold aOf
      rw [if_neg c, e, show ix (nI j) = j from nI_clamp (by omega)]
      exact List.getElem?_eq_getElem hj
theorem M_value {V : Vt} (h0 : Sh ad ct σ) (R0 : RM ad σ V) (W : WFv V) (i k : Int32) {Q : Int32 → St → Prop} (hQ0 : ∀ σ', Fr ct SM σ σ' → RM ad σ' V → Q (valV i k V) σ') : wX16_value (ad 17 0 0) i k σ Q := by
  have ft := fr17 h0 1024 0
  have R := rmth h0 W.2.1 R0 0
  have h := h0.frM ft
  unfold wX16_value wX16_value_0
  generalize uFi σ 1024 (ad 17 0 0) 0 = τ at R h ft
  have hQ := hQ0 τ ft R
  unfold valV at hQ
  refine ⟨k17 h0, M_isAns h R i (fun e => ⟨fun _ => ?_, fun z => absurd rfl z⟩) (fun n e e1 e2 e3 e4 e5 e6 e7 e8 => ⟨fun z => absurd z (by decide), fun _ => ?_⟩)⟩
  · rw [e] at hQ; exact hQ
  · rw [e4] at hQ
    simp only at hQ
    subst e1
    refine ⟨fun c => by rw [if_pos c] at hQ; exact hQ, fun c => ⟨k17 h, _, p1050 h, k15 h (by decide), ?_⟩⟩
    rw [if_neg c] at hQ
    rw [e6]
    obtain ⟨m, hm, rfl⟩ := nI_of c
    have em : ix (nI m) = m := nI_clamp hm
    rw [em] at hQ
    refine pk_le V.2.2.1.2.1 m (fun d => ?_) (fun d => ⟨_, p898 h (by decide), k898 h (by decide), ?_, ?_⟩)
    · rw [List.getD_eq_getElem?_getD, List.getElem?_eq_none (by rw [e5.1]; omega)] at hQ
      exact hQ
    · rw [l898 h (by decide), show (6 : Int32) = nI 6 from rfl, pk_mul, nI_add]; exact vp_in_nI (by omega) (by decide)
    · rw [show (6 : Int32) * nI n + nI m = nI (6 * n + m) by rw [show (6 : Int32) = nI 6 from rfl, pk_mul, nI_add], show ix (nI (6 * n + m)) = 6 * n + m from nI_clamp (by omega)]
      have hl : m < e.1.length := by rw [e5.1]; exact d
      rw [e5.2.1 m _ (List.getElem?_eq_getElem hl)]
      rw [List.getD_eq_getElem?_getD, List.getElem?_eq_getElem hl] at hQ
      exact hQ
theorem M_ways {V : Vt} (h0 : Sh ad ct σ) (R0 : RM ad σ V) (W : WFv V) (i : Int32) {Q : Int32 → St → Prop} (hQ0 : ∀ σ', Fr ct SM σ σ' → RM ad σ' V → Q (wysV i V) σ') : wX16_ways (ad 17 0 0) i σ Q := by
  have ft := fr17 h0 1024 0
  have R := rmth h0 W.2.1 R0 0
  have h := h0.frM ft
  unfold wX16_ways wX16_ways_0
  generalize uFi σ 1024 (ad 17 0 0) 0 = τ at R h ft
  have hQ := hQ0 τ ft R
  unfold wysV at hQ
  refine ⟨k17 h0, M_isAns h R i (fun e => ⟨fun _ => ?_, fun z => absurd rfl z⟩) (fun n e e1 e2 e3 e4 e5 e6 e7 e8 => ⟨fun z => absurd z (by decide), fun _ => ?_⟩)⟩
  · rw [e] at hQ; exact hQ
  · rw [e4] at hQ
    subst e1
    refine ⟨k17 h, _, p1050 h, k15 h (by decide), _, p899 h (by decide), k899 h (by decide), by rw [l899 h (by decide)]; exact vp_in_nI e2 (by decide), ?_⟩
    rw [show ix (nI n) = n from nI_clamp (by omega), e5.2.2.2.1]
    exact hQ
theorem M_way {V : Vt} (h0 : Sh ad ct σ) (R0 : RM ad σ V) (W : WFv V) (i k : Int32) {Q : Int64 → St → Prop} (hQ0 : ∀ σ', Fr ct SM σ σ' → RM ad σ' V → Q (wayV i k V) σ') : wX16_way (ad 17 0 0) i k σ Q := by
  have ft := fr17 h0 1024 0
  have R := rmth h0 W.2.1 R0 0
  have h := h0.frM ft
  unfold wX16_way wX16_way_0
  generalize uFi σ 1024 (ad 17 0 0) 0 = τ at R h ft
  have hQ := hQ0 τ ft R
  unfold wayV at hQ
  refine ⟨k17 h0, M_isAns h R i (fun e => ⟨fun _ => ?_, fun z => absurd rfl z⟩) (fun n e e1 e2 e3 e4 e5 e6 e7 e8 => ⟨fun z => absurd z (by decide), fun _ => ?_⟩)⟩
  · rw [e] at hQ; exact hQ
  · rw [e4] at hQ
    simp only at hQ
    subst e1
    refine ⟨fun c => by rw [if_pos c] at hQ; exact hQ, fun c => ⟨k17 h, _, p1050 h, k15 h (by decide), _, p899 h (by decide), k899 h (by decide), by rw [l899 h (by decide)]; exact vp_in_nI e2 (by decide), ?_⟩⟩
    rw [if_neg c] at hQ
    rw [show ix (nI n) = n from nI_clamp (by omega), e5.2.2.2.1]
    have h16 := e5.2.2.1
    obtain ⟨m, hm, rfl⟩ := nI_of c
    have em : ix (nI m) = m := nI_clamp hm
    rw [em] at hQ
    refine pk_le e.2.1.length m (fun d => ?_) (fun d => ⟨_, p901 h (by decide), k901 h (by decide), ?_, ?_⟩)
    · rw [List.getD_eq_getElem?_getD, List.getElem?_eq_none (by omega)] at hQ
      exact hQ
    · rw [l901 h (by decide), show (16 : Int32) = nI 16 from rfl, pk_mul, nI_add]; exact vp_in_nI (by omega) (by decide)
    · rw [show (16 : Int32) * nI n + nI m = nI (16 * n + m) by rw [show (16 : Int32) = nI 16 from rfl, pk_mul, nI_add], show ix (nI (16 * n + m)) = 16 * n + m from nI_clamp (by omega)]
      rw [e5.2.2.2.2.1 m _ (List.getElem?_eq_getElem d)]
      rw [List.getD_eq_getElem?_getD, List.getElem?_eq_getElem d] at hQ
      exact hQ
theorem M_need {V : Vt} (h0 : Sh ad ct σ) (R0 : RM ad σ V) (W : WFv V) (i : Int32) {Q : Int64 → St → Prop} (hQ0 : ∀ σ', Fr ct SM σ σ' → RM ad σ' V → Q (neeV i V) σ') : wX16_need (ad 17 0 0) i σ Q := by
  have ft := fr17 h0 1024 0
  have R := rmth h0 W.2.1 R0 0
  have h := h0.frM ft
  unfold wX16_need wX16_need_0
  generalize uFi σ 1024 (ad 17 0 0) 0 = τ at R h ft
  have hQ := hQ0 τ ft R
  unfold neeV at hQ
  refine ⟨k17 h0, M_isAns h R i (fun e => ⟨fun z => absurd rfl z, fun _ => ?_⟩) (fun n e e1 e2 e3 e4 e5 e6 e7 e8 => ⟨fun _ => ?_, fun z => absurd z (by decide)⟩)⟩
  · rw [e] at hQ; exact hQ
  · rw [e4] at hQ
    subst e1
    obtain ⟨q1, q2, q3, q4, q5, -⟩ := e5
    have er : ix (nI n) = n := nI_clamp (by omega)
    have key : ∀ (l : List Int64) (k : Nat) (x : Int64), k + l.length = e.2.1.length → (∀ m v, l[m]? = some v → zAj τ (ad 901 40 0) (16 * n + (k + m)) = v) → Q (l.foldl (fun x y => x &&& y) x) τ → lX16_need_22 Q (l.length + 1) (ad 17 0 0) (nI n) x (nI k) τ := by
      intro l
      induction l with
      | nil =>
        intro k x hk ha hq
        have hk : k = e.2.1.length := by simpa using hk
        refine ⟨k17 h, _, p1050 h, k15 h (by decide), _, p899 h (by decide), k899 h (by decide), by rw [l899 h (by decide)]; exact vp_in_nI e2 (by decide), fun _ => hq, fun c => absurd ?_ c⟩
        rw [er, q4, hk]; exact nI_le (Nat.le_refl _) (by omega)
      | cons a l ih =>
        intro k x hk ha hq
        rw [List.length_cons] at hk
        refine ⟨k17 h, _, p1050 h, k15 h (by decide), _, p899 h (by decide), k899 h (by decide), by rw [l899 h (by decide)]; exact vp_in_nI e2 (by decide), fun c => absurd c (by rw [er, q4]; exact nI_ge (by omega) (by omega)), fun _ => ⟨_, p901 h (by decide), k901 h (by decide), ?_, ?_⟩⟩
        · rw [l901 h (by decide), show (16 : Int32) = nI 16 from rfl, pk_mul, nI_add]; exact vp_in_nI (by omega) (by decide)
        · rw [show (16 : Int32) * nI n + nI k = nI (16 * n + k) by rw [show (16 : Int32) = nI 16 from rfl, pk_mul, nI_add], show ix (nI (16 * n + k)) = 16 * n + k from nI_clamp (by omega), nI_1, show zAj τ (ad 901 40 0) (16 * n + k) = a from ha 0 a rfl]
          refine ih (k + 1) _ (by omega) (fun m v hv => ?_) hq
          rw [show k + 1 + m = k + (m + 1) by omega]; exact ha (m + 1) v hv
    exact ⟨_, key e.2.1 0 _ (by omega) (fun m v hv => by rw [Nat.zero_add]; exact q5 m v hv) hQ⟩
theorem M_count {V : Vt} (h0 : Sh ad ct σ) (R0 : RM ad σ V) (W : WFv V) (i : Int32) {Q : Int64 → St → Prop} (hQ0 : ∀ σ', Fr ct SM σ σ' → RM ad σ' (couV i V).2 → Q (couV i V).1 σ') : wX16_count (ad 17 0 0) i σ Q := by
  have ft := fr17 h0 1024 0
  have R := rmth h0 W.2.1 R0 0
  have h := h0.frM ft
  unfold wX16_count wX16_count_0
  generalize uFi σ 1024 (ad 17 0 0) 0 = τ at R h ft
  have hQ : ∀ σ', Fr ct SM τ σ' → RM ad σ' (couV i V).2 → Q (couV i V).1 σ' := fun σ' f r => hQ0 σ' (ft.tr1 f) r
  unfold couV at hQ
  refine ⟨k17 h0, M_isAns h R i (fun e => ⟨fun z => absurd rfl z, fun _ => ⟨k17 h, ?_⟩⟩) (fun n e e1 e2 e3 e4 e5 e6 e7 e8 => ⟨fun _ => ⟨k17 h, ?_⟩, fun z => absurd z (by decide)⟩)⟩
  · rw [e] at hQ
    exact hQ _ (fr17 h 1025 1) (rmst h W.2.1 R 1)
  · rw [e4] at hQ
    simp only at hQ
    subst e1
    have e57 : ∀ x : Int32, zFi (uFi τ 1025 (ad 17 0 0) x) 1057 (ad 17 0 0) = zB (!V.2.2.1.2.2) := fun x => by simp only [yK_uFi, yL_uFi, yFj_uFi, yFr_uFi, yAi_uFi, yAj_uFi, yAd_uFi, yAr_uFi, yFi_uFi, yK_uFj, yL_uFj, yFi_uFj, yFr_uFj, yAi_uFj, yAj_uFj, yAd_uFj, yAr_uFj, yFj_uFj, yK_uFr, yL_uFr, yFi_uFr, yFj_uFr, yAi_uFr, yAj_uFr, yAd_uFr, yAr_uFr, yFr_uFr, yK_uAi, yL_uAi, yFi_uAi, yFj_uAi, yFr_uAi, yAj_uAi, yAd_uAi, yAr_uAi, yAi_uAi, yK_uAj, yL_uAj, yFi_uAj, yFj_uAj, yFr_uAj, yAi_uAj, yAd_uAj, yAr_uAj, yAj_uAj, yK_uAd, yL_uAd, yFi_uAd, yFj_uAd, yFr_uAd, yAi_uAd, yAj_uAd, yAr_uAd, yAd_uAd, yK_uAr, yL_uAr, yFi_uAr, yFj_uAr, yFr_uAr, yAi_uAr, yAj_uAr, yAd_uAr, yAr_uAr, yK_uCi, yL_uCi, yFi_uCi, yFj_uCi, yFr_uCi, yAj_uCi, yAd_uCi, yAr_uCi, yK_uCj, yL_uCj, yFi_uCj, yFj_uCj, yFr_uCj, yAi_uCj, yAd_uCj, yAr_uCj, yK_uCx, yL_uCx, yFi_uCx, yFj_uCx, yFr_uCx, yAi_uCx, yAd_uCx, yAr_uCx, yK_nO, yL_nO, yFi_nO, yFj_nO, yFr_nO, yAi_nO, yAj_nO, yAd_nO, yAr_nO, yK_nA, yL_nA, yFi_nA, yFj_nA, yFr_nA, yAi_nA, yAj_nA, yAd_nA, yAr_nA, yK_nC, yL_nC, yFi_nC, yFj_nC, yFr_nC, yAi_nC, yAj_nC, yAd_nC, yAr_nC, yu2, yAi_uCi', yAj_uCj', yAj_uCx', Option.some.injEq, exists_eq_left', true_and, and_true, not_false_eq_true, forall_const, false_and, and_false, reduceIte, Nat.reduceEqDiff, ne_eq]; exact e8
    rw [e8]
    cases hc : V.2.2.1.2.2 with
    | true =>
      rw [hc] at hQ e57
      refine ⟨fun _ => ⟨k17 h, k17 h, ?_⟩, fun z => absurd rfl z⟩
      rw [e57]
      exact ⟨fun _ => hQ _ (fr17 h 1025 6) (rmst h W.2.1 R 6), fun z => absurd rfl z⟩
    | false =>
      rw [hc] at hQ e57 e5
      refine ⟨fun z => absurd z (by decide), fun _ => ⟨k17 h, k17 h, ?_⟩⟩
      rw [e57]
      refine ⟨fun z => absurd z (by decide), fun _ => ⟨_, p1050 h, k15 h (by decide), _, p902 h (by decide), k902 h (by decide), by rw [l902 h (by decide)]; exact vp_in_nI e2 (by decide), ?_⟩⟩
      rw [show ix (nI n) = n from nI_clamp (by omega), e5.2.2.2.2.2.1 rfl]
      exact hQ _ (fr17 h 1025 0) (rmst h W.2.1 R 0)
theorem M_cost {V : Vt} (h0 : Sh ad ct σ) (R0 : RM ad σ V) (W : WFv V) (i : Int32) {Q : Int32 → St → Prop} (hQ0 : ∀ σ', Fr ct SM σ σ' → RM ad σ' (cosV i V).2 → Q (cosV i V).1 σ') : wX16_cost (ad 17 0 0) i σ Q := by
  have ft := fr17 h0 1024 0
  have R := rmth h0 W.2.1 R0 0
  have h := h0.frM ft
  unfold wX16_cost wX16_cost_0
  generalize uFi σ 1024 (ad 17 0 0) 0 = τ at R h ft
  have hQ : ∀ σ', Fr ct SM τ σ' → RM ad σ' (cosV i V).2 → Q (cosV i V).1 σ' := fun σ' f r => hQ0 σ' (ft.tr1 f) r
  unfold cosV at hQ
  refine ⟨k17 h0, M_isAns h R i (fun e => ⟨fun _ => ⟨k17 h, ?_⟩, fun z => absurd rfl z⟩) (fun n e e1 e2 e3 e4 e5 e6 e7 e8 => ⟨fun z => absurd z (by decide), fun _ => ⟨k17 h, _, p1050 h, k15 h (by decide), _, p900 h (by decide), k900 h (by decide), ?_, ?_⟩⟩)⟩
  · rw [e] at hQ
    exact M_ref h W.2.1 R 1 hQ
  · rw [e1, l900 h (by decide)]; exact vp_in_nI e2 (by decide)
  · rw [e4] at hQ
    subst e1
    rw [show ix (nI n) = n from nI_clamp (by omega), e5.2.2.2.2.2.2.1]
    exact M_done h W.2.1 R _ hQ
theorem d2l {x : Int64} (ht : tru x) {Q : Int64 → St → Prop} (hQ : Q x σ) : wJxe99ae_doubleToLongBits_ccdee x.toUInt64 σ Q := by
  refine ⟨fun _ => ⟨fun c => absurd rfl c, fun _ => ?_⟩, fun c => absurd (tru_l ht) c⟩
  show Q x.toUInt64.toInt64 σ
  rw [Int64.toInt64_toUInt64]; exact hQ
theorem aOf_mem {V : Vt} {i : Int32} {e : Ans} (ea : aOf V i = some e) : e ∈ V.2.2.1.1 := by
  unfold aOf at ea
  by_cases c : i < 0
  · rw [if_pos c] at ea; cases ea
  · rw [if_neg c] at ea; exact List.mem_of_getElem? ea
theorem M_trust {V : Vt} (h0 : Sh ad ct σ) (R0 : RM ad σ V) (W : WFv V) (i : Int32) {Q : Int64 → St → Prop} (hQ0 : ∀ σ', Fr ct SM σ σ' → RM ad σ' (truV i V).2 → Q (truV i V).1 σ') : wX16_trust (ad 17 0 0) i σ Q := by
  have ft := fr17 h0 1024 0
  have R := rmth h0 W.2.1 R0 0
  have h := h0.frM ft
  unfold wX16_trust wX16_trust_0
  generalize uFi σ 1024 (ad 17 0 0) 0 = τ at R h ft
  have hQ : ∀ σ', Fr ct SM τ σ' → RM ad σ' (truV i V).2 → Q (truV i V).1 σ' := fun σ' f r => hQ0 σ' (ft.tr1 f) r
  unfold truV at hQ
  refine ⟨k17 h0, M_isAns h R i (fun e => ⟨fun z => absurd rfl z, fun _ => ⟨k17 h, ?_⟩⟩) (fun n e e1 e2 e3 e4 e5 e6 e7 e8 => ⟨fun _ => ⟨k17 h, _, p1050 h, k15 h (by decide), _, p903 h (by decide), k903 h (by decide), ?_, ?_⟩, fun z => absurd z (by decide)⟩)⟩
  · rw [e] at hQ
    exact M_ref h W.2.1 R 1 hQ
  · rw [e1, l903 h (by decide)]; exact vp_in_nI e2 (by decide)
  · rw [e4] at hQ
    have hm := W.2.2.2.2.2 e (aOf_mem e4)
    subst e1
    rw [show ix (nI n) = n from nI_clamp (by omega), e5.2.2.2.2.2.2.2]
    exact d2l ⟨hm.2.2.2.2.2.2.2.2.1, hm.2.2.2.2.2.2.2.2.2.1⟩ (hQ _ (fr17 h 1025 0) (rmst h W.2.1 R 0))
theorem M_stays {V : Vt} (h0 : Sh ad ct σ) (R0 : RM ad σ V) (W : WFv V) (i : Int32) {Q : Int32 → St → Prop} (hQ0 : ∀ σ', Fr ct SM σ σ' → RM ad σ' (staV i V).2 → Q (staV i V).1 σ') : wX16_stays (ad 17 0 0) i σ Q := by
  have ft := fr17 h0 1024 0
  have R := rmth h0 W.2.1 R0 0
  have h := h0.frM ft
  unfold wX16_stays wX16_stays_0
  generalize uFi σ 1024 (ad 17 0 0) 0 = τ at R h ft
  have hQ : ∀ σ', Fr ct SM τ σ' → RM ad σ' (staV i V).2 → Q (staV i V).1 σ' := fun σ' f r => hQ0 σ' (ft.tr1 f) r
  unfold staV at hQ
  refine ⟨k17 h0, M_isAns h R i (fun e => ⟨fun _ => ⟨k17 h, ?_⟩, fun z => absurd rfl z⟩) (fun n e e1 e2 e3 e4 e5 e6 e7 e8 => ⟨fun z => absurd z (by decide), fun _ => ⟨k17 h, _, p1050 h, ?_⟩⟩)⟩
  · rw [e] at hQ
    exact M_ref h W.2.1 R 1 hQ
  · rw [e4] at hQ
    simp only at hQ
    subst e1
    refine S_isTrue h R.2.1 W.1.wf.2.2.1 (by decide) e2 e5 ?_
    cases hb : e.2.1.any (there V.1.2.1) with
    | false => rw [hb] at hQ; exact ⟨fun _ => ⟨k17 h, M_done h W.2.1 R _ hQ⟩, fun z => absurd rfl z⟩
    | true => rw [hb] at hQ; exact ⟨fun z => absurd z (by decide), fun _ => ⟨k17 h, M_done h W.2.1 R _ hQ⟩⟩
theorem M_with {V : Vt} (h0 : Sh ad ct σ) (R0 : RM ad σ V) (W : WFv V) (i : Int32) (X : Int64) {Q : Int32 → St → Prop} (hQ0 : ∀ σ', Fr ct SM σ σ' → RM ad σ' (witV i X V).2 → Q (witV i X V).1 σ') : wX16_with (ad 17 0 0) i X σ Q := by
  have ft := fr17 h0 1024 0
  have R := rmth h0 W.2.1 R0 0
  have h := h0.frM ft
  unfold wX16_with wX16_with_0
  generalize uFi σ 1024 (ad 17 0 0) 0 = τ at R h ft
  have hQ : ∀ σ', Fr ct SM τ σ' → RM ad σ' (witV i X V).2 → Q (witV i X V).1 σ' := fun σ' f r => hQ0 σ' (ft.tr1 f) r
  unfold witV at hQ
  refine ⟨k17 h0, M_isAns h R i (fun e => ⟨fun _ => ⟨k17 h, ?_⟩, fun z => absurd rfl z⟩) (fun n e e1 e2 e3 e4 e5 e6 e7 e8 => ⟨fun z => absurd z (by decide), fun _ => ⟨k17 h, ?_⟩⟩)⟩
  · rw [e] at hQ
    exact M_ref h W.2.1 R 1 hQ
  · rw [e4] at hQ
    simp only at hQ
    subst e1
    refine M_isMade h e2 e5 X ?_
    cases hb : e.2.1.any (fun u => decide (sb u X)) with
    | false => rw [hb] at hQ; exact ⟨fun _ => ⟨k17 h, M_done h W.2.1 R _ hQ⟩, fun z => absurd rfl z⟩
    | true => rw [hb] at hQ; exact ⟨fun z => absurd z (by decide), fun _ => ⟨k17 h, M_done h W.2.1 R _ hQ⟩⟩
theorem M_without {V : Vt} (h0 : Sh ad ct σ) (R0 : RM ad σ V) (W : WFv V) (X : Int64) {Q : Int32 → St → Prop} (hQ0 : ∀ σ', Fr ct SM σ σ' → RM ad σ' V → Q (wouV X V) σ') : wX16_without (ad 17 0 0) X σ Q := by
  have ft := fr17 h0 1024 0
  have R := rmth h0 W.2.1 R0 0
  have h := h0.frM ft
  unfold wX16_without wX16_without_0
  generalize uFi σ 1024 (ad 17 0 0) 0 = τ at R h ft
  have hQ := hQ0 τ ft R
  unfold wouV at hQ
  obtain ⟨w, ⟨q1, q2, q3, q4, q5⟩, -⟩ := R.2.2.2.2.2.1
  have key : ∀ (l : List Ans) (k n : Nat), k + l.length = V.2.2.1.1.length → n ≤ k → (∀ m v, l[m]? = some v → V.2.2.1.1[k + m]? = some v) → Q (nI (n + l.countP (fun e => !(e.2.1.any (fun u => decide (sb u X)))))) τ → lX16_without_10 Q (l.length + 1) (ad 17 0 0) X (nI n) (nI k) τ := by
    intro l
    induction l with
    | nil =>
      intro k n hk hn ha hq
      have hk : k = V.2.2.1.1.length := by simpa using hk
      refine ⟨k17 h, _, p1050 h, k15 h (by decide), fun _ => ?_, fun c => absurd ?_ c⟩
      · simpa using hq
      · rw [q1, hk]; exact nI_le (Nat.le_refl _) (by omega)
    | cons a l ih =>
      intro k n hk hn ha hq
      rw [List.length_cons] at hk
      have j3 := q5 k a (ha 0 a rfl)
      refine ⟨k17 h, _, p1050 h, k15 h (by decide), fun c => absurd c (by rw [q1]; exact nI_ge (by omega) (by omega)), fun c => M_isMade h (by omega) j3 X ?_⟩
      rw [nI_1, nI_1, show nI n + 0 = nI n from nI_add n 0]
      have ha2 : ∀ m v, l[m]? = some v → V.2.2.1.1[k + 1 + m]? = some v := fun m v hv => by rw [show k + 1 + m = k + (m + 1) by omega]; exact ha (m + 1) v hv
      cases hb : a.2.1.any (fun u => decide (sb u X)) with
      | true =>
        rw [List.countP_cons_of_neg (by simp [hb])] at hq
        exact ⟨fun z => absurd z (by decide), fun _ => ih (k + 1) n (by omega) (by omega) ha2 hq⟩
      | false =>
        rw [List.countP_cons_of_pos (by simp [hb]), show n + (l.countP (fun e => !(e.2.1.any (fun u => decide (sb u X)))) + 1) = n + 1 + l.countP (fun e => !(e.2.1.any (fun u => decide (sb u X)))) by omega] at hq
        exact ⟨fun _ => ih (k + 1) (n + 1) (by omega) (by omega) ha2 hq, fun z => absurd rfl z⟩
  refine ⟨k17 h0, _, key V.2.2.1.1 0 0 (by omega) (by omega) (fun m v hv => by rw [Nat.zero_add]; exact hv) ?_⟩
  rw [Nat.zero_add]; exact hQ
theorem M_find {V : Vt} (h0 : Sh ad ct σ) (R0 : RM ad σ V) (W : WFv V) (a b c d e f : Int32) {Q : Int32 → St → Prop} (hQ0 : ∀ σ', Fr ct SM σ σ' → RM ad σ' V → Q (finV [a, b, c, d, e, f] V) σ') : wX16_find (ad 17 0 0) a b c d e f σ Q := by
  have ft := fr17 h0 1024 0
  have R := rmth h0 W.2.1 R0 0
  have h := h0.frM ft
  unfold wX16_find wX16_find_0
  refine ⟨k17 h0, _, p1055 h0, k1055 h0, by rw [l1055 h0]; exact vp_in_nI (n := 0) (by decide) (by decide), by rw [l1055 h0]; exact vp_in_nI (n := 1) (by decide) (by decide), by rw [l1055 h0]; exact vp_in_nI (n := 2) (by decide) (by decide), by rw [l1055 h0]; exact vp_in_nI (n := 3) (by decide) (by decide), by rw [l1055 h0]; exact vp_in_nI (n := 4) (by decide) (by decide), by rw [l1055 h0]; exact vp_in_nI (n := 5) (by decide) (by decide), _, p1050 h0, k15 h0 (by decide), ?_⟩
  rw [show ix 0 = 0 by decide, show ix 1 = 1 by decide, show ix 2 = 2 by decide, show ix 3 = 3 by decide, show ix 4 = 4 by decide, show ix 5 = 5 by decide]
  generalize uFi σ 1024 (ad 17 0 0) 0 = τ at R h ft
  generalize hρ : uAi (uAi (uAi (uAi (uAi (uAi τ (ad 1055 0 0) 0 a) (ad 1055 0 0) 1 b) (ad 1055 0 0) 2 c) (ad 1055 0 0) 3 d) (ad 1055 0 0) 4 e) (ad 1055 0 0) 5 f = ρ
  have fr : Fr ct (fun p => p = (1055, 0)) τ ρ := by
    rw [← hρ]
    have f0 : Fr ct (fun p => p = (1055, 0)) τ τ := Fr.rf
    have f1 := f0.uAi (ad 1055 0 0) 0 a (Or.inl (c1055 h))
    have f2 := f1.uAi (ad 1055 0 0) 1 b (Or.inl (c1055 h))
    have f3 := f2.uAi (ad 1055 0 0) 2 c (Or.inl (c1055 h))
    have f4 := f3.uAi (ad 1055 0 0) 3 d (Or.inl (c1055 h))
    have f5 := f4.uAi (ad 1055 0 0) 4 e (Or.inl (c1055 h))
    exact f5.uAi (ad 1055 0 0) 5 f (Or.inl (c1055 h))
  have h1 : Sh ad ct ρ := h.fr fr (by decide) (by decide) (by decide)
  obtain ⟨r1, r2, r3, r4, r5, r6, r7⟩ := R
  have e17 := fr.fi (k17 h) (by decide) (c17 h) (by decide)
  have R1 : RM ad ρ V := ⟨r1.cg h fr (by decide) (e17 _), r2.cg h fr (by decide) (by decide) (by decide) (by decide) (by decide) (by decide) (by decide) (e17 _), r3.cg h fr (fun g g1 g2 q => by cases q; omega) (e17 _), r4.cg h fr (fun k _ => ⟨by simp, by simp, by simp⟩), r5.cg h fr (by decide) (fun i _ => ⟨by simp, by simp, by simp, by simp⟩) (e17 _) W.2.1, r6.cg h fr (by decide) (fun g g1 g2 q => by cases q) (e17 _), (e17 _).trans r7⟩
  have hq := hQ0 ρ (ft.tr1 (fr.mono (fun c q => by rw [q]; exact smk _ _ (by decide)))) R1
  obtain ⟨w, hw, hw2⟩ := R1.2.2.2.2.2.1
  have hw6 := hw.2.2.1
  refine S_find (at_ := 0) (r := [a, b, c, d, e, f].take w) h1 (by decide) hw.rows (by rw [List.length_take]; show min w 6 = w; omega) (k1055 h1) (by rw [l1055 h1]; omega) (by rw [l1055 h1]; decide) (fun k v hv => ?_) (fun z => ?_) (fun i hi z _ => ?_)
  · have hk := (List.getElem?_eq_some_iff.mp hv).1
    rw [List.length_take] at hk
    rw [List.getElem?_take, if_pos (by omega)] at hv
    have hk6 : k < 6 := by
      have : [a, b, c, d, e, f].length = 6 := rfl
      omega
    rw [Nat.zero_add, ← hρ]; simp only [yK_uFi, yL_uFi, yFj_uFi, yFr_uFi, yAi_uFi, yAj_uFi, yAd_uFi, yAr_uFi, yFi_uFi, yK_uFj, yL_uFj, yFi_uFj, yFr_uFj, yAi_uFj, yAj_uFj, yAd_uFj, yAr_uFj, yFj_uFj, yK_uFr, yL_uFr, yFi_uFr, yFj_uFr, yAi_uFr, yAj_uFr, yAd_uFr, yAr_uFr, yFr_uFr, yK_uAi, yL_uAi, yFi_uAi, yFj_uAi, yFr_uAi, yAj_uAi, yAd_uAi, yAr_uAi, yAi_uAi, yK_uAj, yL_uAj, yFi_uAj, yFj_uAj, yFr_uAj, yAi_uAj, yAd_uAj, yAr_uAj, yAj_uAj, yK_uAd, yL_uAd, yFi_uAd, yFj_uAd, yFr_uAd, yAi_uAd, yAj_uAd, yAr_uAd, yAd_uAd, yK_uAr, yL_uAr, yFi_uAr, yFj_uAr, yFr_uAr, yAi_uAr, yAj_uAr, yAd_uAr, yAr_uAr, yK_uCi, yL_uCi, yFi_uCi, yFj_uCi, yFr_uCi, yAj_uCi, yAd_uCi, yAr_uCi, yK_uCj, yL_uCj, yFi_uCj, yFj_uCj, yFr_uCj, yAi_uCj, yAd_uCj, yAr_uCj, yK_uCx, yL_uCx, yFi_uCx, yFj_uCx, yFr_uCx, yAi_uCx, yAd_uCx, yAr_uCx, yK_nO, yL_nO, yFi_nO, yFj_nO, yFr_nO, yAi_nO, yAj_nO, yAd_nO, yAr_nO, yK_nA, yL_nA, yFi_nA, yFj_nA, yFr_nA, yAi_nA, yAj_nA, yAd_nA, yAr_nA, yK_nC, yL_nC, yFi_nC, yFj_nC, yFr_nC, yAi_nC, yAj_nC, yAd_nC, yAr_nC, yu2, yAi_uCi', yAj_uCj', yAj_uCx', Option.some.injEq, exists_eq_left', true_and, and_true, not_false_eq_true, forall_const, false_and, and_false, reduceIte, Nat.reduceEqDiff, ne_eq]
    match k, hk6 with
    | 0, _ => cases hv; rfl
    | 1, _ => cases hv; rfl
    | 2, _ => cases hv; rfl
    | 3, _ => cases hv; rfl
    | 4, _ => cases hv; rfl
    | 5, _ => cases hv; rfl
  · rw [fin_none (fun n => (hw2 n).1) z] at hq; exact hq
  · rw [List.length_map] at hi
    rw [fin_some W (fun n => (hw2 n).1) hi z] at hq; exact hq
end M7
