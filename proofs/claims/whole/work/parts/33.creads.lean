/-! the class: what is told of the latest answers -/
section K8
variable {ad : Ad} {ct : Ct} {σ : St}
theorem C_at {V : Vt} (h : Sh ad ct σ) (R : RC ad ct σ V) (v : Int32) {Q : Option Nat → St → Prop} (h0 : aOf V v = none → Q none σ) (h1 : ∀ i e j, v = nI i → i < V.2.2.1.1.length → V.2.2.1.1[i]? = some e → aOf V v = some e → j < room 42 → AnsAt ad σ 42 j V.2.2.1.2.1 V.2.2.1.2.2 e → zFi σ 194 (ad 4 42 0) = nI V.2.2.1.2.1 → zFi σ 709 (ad 12 0 0) = zB V.2.2.1.2.2 → Q (some (ad 3 42 j)) σ) : zK σ (ad 12 0 0) = 12 ∧ ∃ a2 : Nat, zFr σ 708 (ad 12 0 0) = some a2 ∧ zK σ a2 = 4 ∧ wX3_at a2 v σ Q := by
  obtain ⟨w, hw, hw2⟩ := R.2.2.2.2.2.1
  refine ⟨k12 h, _, p708 h, k4 h (by decide), A_at h (by decide) hw v h0 (fun i e j e1 e2 e3 e4 e5 e6 => ?_)⟩
  obtain ⟨rfl, hc⟩ := hw2 (fun z => by rw [z] at e2; exact absurd e2 (Nat.not_lt_zero _))
  exact h1 i e j e1 e2 e3 e4 e5 e6 hw.2.1 hc
theorem C_value {V : Vt} (h : Sh ad ct σ) (R : RC ad ct σ V) (W : WFv V) (i k : Int32) {Q : Int32 → St → Prop} (hQ : Q (valV i k V) σ) : wX11_value (ad 12 0 0) i k σ Q := by
  unfold valV at hQ
  refine C_at h R i (fun e => ⟨fun _ => ?_, fun a z => (by cases z)⟩) (fun n e j e1 e2 e3 e4 e5 e6 e7 e8 => ⟨fun z => (by cases z), fun a z => ?_⟩)
  · rw [e] at hQ; exact hQ
  · cases z
    rw [e4] at hQ
    simp only at hQ
    refine ⟨fun c => by rw [if_pos c] at hQ; exact hQ, fun c => ⟨k12 h, _, p708 h, k4 h (by decide), ?_⟩⟩
    rw [if_neg c] at hQ
    rw [e7]
    obtain ⟨m, hm, rfl⟩ := nI_of c
    have em : ix (nI m) = m := nI_clamp hm
    rw [em] at hQ ⊢
    have hw6 := W.2.2.2.1
    refine ⟨fun d => ⟨k3 h (by decide) e5, _, p128 h (by decide) e5, k128 h (by decide) e5, ?_, ?_⟩, fun d => ?_⟩
    · have := (nI_ltI hm (by omega)).mp d
      rw [l128 h (by decide) e5]; exact vp_in_nI (by omega) (by decide)
    · have := (nI_ltI hm (by omega)).mp d
      have hl : m < e.1.length := by rw [e6.1]; exact this
      rw [e6.2.1 m _ (List.getElem?_eq_getElem hl)]
      rw [List.getD_eq_getElem?_getD, List.getElem?_eq_getElem hl] at hQ
      exact hQ
    · have : ¬ m < V.2.2.1.2.1 := fun z => d ((nI_ltI hm (by omega)).mpr z)
      rw [List.getD_eq_getElem?_getD, List.getElem?_eq_none (by rw [e6.1]; omega)] at hQ
      exact hQ
theorem C_ways {V : Vt} (h : Sh ad ct σ) (R : RC ad ct σ V) (i : Int32) {Q : Int32 → St → Prop} (hQ : Q (wysV i V) σ) : wX11_ways (ad 12 0 0) i σ Q := by
  unfold wysV at hQ
  refine C_at h R i (fun e => ⟨fun _ => ?_, fun a z => (by cases z)⟩) (fun n e j e1 e2 e3 e4 e5 e6 e7 e8 => ⟨fun z => (by cases z), fun a z => ?_⟩)
  · rw [e] at hQ; exact hQ
  · cases z
    rw [e4] at hQ
    rw [e6.2.2.2.1]
    exact ⟨k3 h (by decide) e5, hQ⟩
theorem C_way {V : Vt} (h : Sh ad ct σ) (R : RC ad ct σ V) (i k : Int32) {Q : Int64 → St → Prop} (hQ : Q (wayV i k V) σ) : wX11_way (ad 12 0 0) i k σ Q := by
  unfold wayV at hQ
  refine C_at h R i (fun e => ⟨fun _ => ?_, fun a z => (by cases z)⟩) (fun n e j e1 e2 e3 e4 e5 e6 e7 e8 => ⟨fun z => (by cases z), fun a z => ?_⟩)
  · rw [e] at hQ; exact hQ
  · cases z
    rw [e4] at hQ
    simp only at hQ
    refine ⟨fun c => by rw [if_pos c] at hQ; exact hQ, fun c => ⟨k3 h (by decide) e5, ?_⟩⟩
    rw [if_neg c] at hQ
    rw [e6.2.2.2.1]
    have h16 := e6.2.2.1
    obtain ⟨m, hm, rfl⟩ := nI_of c
    have em : ix (nI m) = m := nI_clamp hm
    rw [em] at hQ ⊢
    refine ⟨fun d => ⟨_, p129 h (by decide) e5, k129 h (by decide) e5, ?_, ?_⟩, fun d => ?_⟩
    · have := (nI_ltI hm (by omega)).mp d
      rw [l129 h (by decide) e5]; exact vp_in_nI (by omega) (by decide)
    · have hl := (nI_ltI hm (by omega)).mp d
      rw [e6.2.2.2.2.1 m _ (List.getElem?_eq_getElem hl)]
      rw [List.getD_eq_getElem?_getD, List.getElem?_eq_getElem hl] at hQ
      exact hQ
    · have : ¬ m < e.2.1.length := fun z => d ((nI_ltI hm (by omega)).mpr z)
      rw [List.getD_eq_getElem?_getD, List.getElem?_eq_none (by omega)] at hQ
      exact hQ
theorem C_need {V : Vt} (h : Sh ad ct σ) (R : RC ad ct σ V) (i : Int32) {Q : Int64 → St → Prop} (hQ : Q (neeV i V) σ) : wX11_need (ad 12 0 0) i σ Q := by
  unfold neeV at hQ
  refine C_at h R i (fun e => ⟨fun _ => ?_, fun a z => (by cases z)⟩) (fun n e j e1 e2 e3 e4 e5 e6 e7 e8 => ⟨fun z => (by cases z), fun a z => ?_⟩)
  · rw [e] at hQ; exact hQ
  · cases z
    rw [e4] at hQ
    exact ⟨k3 h (by decide) e5, A_every h (by decide) e5 e6 hQ⟩
theorem C_count {V : Vt} (h : Sh ad ct σ) (R : RC ad ct σ V) (i : Int32) {Q : Int64 → St → Prop} (hQ : ∀ σ', Fr ct SC σ σ' → RC ad ct σ' (couV i V).2 → Q (couV i V).1 σ') : wX11_count (ad 12 0 0) i σ Q := by
  unfold couV at hQ
  refine C_at h R i (fun e => ⟨fun _ => ⟨fun _ => ⟨k12 h, ?_⟩, fun a z => (by cases z)⟩, fun a z => (by cases z)⟩) (fun n e j e1 e2 e3 e4 e5 e6 e7 e8 => ⟨fun z => (by cases z), fun a z => ?_⟩)
  · rw [e] at hQ
    exact hQ _ (frst h 1) (rcst h R 1)
  · cases z
    rw [e4] at hQ
    simp only at hQ
    refine ⟨k12 h, ?_⟩
    rw [e8]
    cases hc : V.2.2.1.2.2 with
    | false =>
      rw [hc] at hQ e6
      refine ⟨fun _ => ⟨k3 h (by decide) e5, ?_⟩, fun z => absurd rfl z⟩
      rw [e6.2.2.2.2.2.1 rfl]
      exact hQ _ (frst h 0) (rcst h R 0)
    | true =>
      rw [hc] at hQ
      exact ⟨fun z => absurd z (by decide), fun _ => ⟨fun z => (by cases z), fun _ _ => ⟨k12 h, hQ _ (frst h 6) (rcst h R 6)⟩⟩⟩
theorem C_cost {V : Vt} (h : Sh ad ct σ) (R : RC ad ct σ V) (i : Int32) {Q : Int32 → St → Prop} (hQ : ∀ σ', Fr ct SC σ σ' → RC ad ct σ' (cosV i V).2 → Q (cosV i V).1 σ') : wX11_cost (ad 12 0 0) i σ Q := by
  unfold cosV at hQ
  refine C_at h R i (fun e => ⟨fun _ => ⟨k12 h, ?_⟩, fun a z => (by cases z)⟩) (fun n e j e1 e2 e3 e4 e5 e6 e7 e8 => ⟨fun z => (by cases z), fun a z => ?_⟩)
  · rw [e] at hQ
    exact C_ref h R 1 hQ
  · cases z
    rw [e4] at hQ
    refine ⟨k12 h, k3 h (by decide) e5, ?_⟩
    have n0 : ad 3 42 j ≠ ad 12 0 0 := adne (c3 h (by decide) e5) (c12 h) (by decide)
    rw [show zFi (uFi σ 714 (ad 12 0 0) 0) 132 (ad 3 42 j) = e.2.2.2.1 by simp only [yK_uFi, yL_uFi, yFj_uFi, yFr_uFi, yAi_uFi, yAj_uFi, yAd_uFi, yAr_uFi, yFi_uFi, yK_uFj, yL_uFj, yFi_uFj, yFr_uFj, yAi_uFj, yAj_uFj, yAd_uFj, yAr_uFj, yFj_uFj, yK_uFr, yL_uFr, yFi_uFr, yFj_uFr, yAi_uFr, yAj_uFr, yAd_uFr, yAr_uFr, yFr_uFr, yK_uAi, yL_uAi, yFi_uAi, yFj_uAi, yFr_uAi, yAj_uAi, yAd_uAi, yAr_uAi, yAi_uAi, yK_uAj, yL_uAj, yFi_uAj, yFj_uAj, yFr_uAj, yAi_uAj, yAd_uAj, yAr_uAj, yAj_uAj, yK_uAd, yL_uAd, yFi_uAd, yFj_uAd, yFr_uAd, yAi_uAd, yAj_uAd, yAr_uAd, yAd_uAd, yK_uAr, yL_uAr, yFi_uAr, yFj_uAr, yFr_uAr, yAi_uAr, yAj_uAr, yAd_uAr, yAr_uAr, yK_uCi, yL_uCi, yFi_uCi, yFj_uCi, yFr_uCi, yAj_uCi, yAd_uCi, yAr_uCi, yK_uCj, yL_uCj, yFi_uCj, yFj_uCj, yFr_uCj, yAi_uCj, yAd_uCj, yAr_uCj, yK_uCx, yL_uCx, yFi_uCx, yFj_uCx, yFr_uCx, yAi_uCx, yAd_uCx, yAr_uCx, yK_nO, yL_nO, yFi_nO, yFj_nO, yFr_nO, yAi_nO, yAj_nO, yAd_nO, yAr_nO, yK_nA, yL_nA, yFi_nA, yFj_nA, yFr_nA, yAi_nA, yAj_nA, yAd_nA, yAr_nA, yK_nC, yL_nC, yFi_nC, yFj_nC, yFr_nC, yAi_nC, yAj_nC, yAd_nC, yAr_nC, yu2, yAi_uCi', yAj_uCj', yAj_uCx', Option.some.injEq, exists_eq_left', true_and, and_true, not_false_eq_true, forall_const, false_and, and_false, reduceIte, Nat.reduceEqDiff, ne_eq]; exact e6.2.2.2.2.2.2.1]
    exact hQ _ (frst h 0) (rcst h R 0)
theorem C_trust {V : Vt} (h : Sh ad ct σ) (R : RC ad ct σ V) (i : Int32) {Q : Int64 → St → Prop} (hQ : ∀ σ', Fr ct SC σ σ' → RC ad ct σ' (truV i V).2 → Q (truV i V).1 σ') : wX11_trust (ad 12 0 0) i σ Q := by
  unfold truV at hQ
  refine C_at h R i (fun e => ⟨fun _ => ⟨k12 h, ?_⟩, fun a z => (by cases z)⟩) (fun n e j e1 e2 e3 e4 e5 e6 e7 e8 => ⟨fun z => (by cases z), fun a z => ?_⟩)
  · rw [e] at hQ
    exact C_ref h R 1 hQ
  · cases z
    rw [e4] at hQ
    refine ⟨k12 h, k3 h (by decide) e5, ?_⟩
    rw [e6.2.2.2.2.2.2.2]
    exact hQ _ (frst h 0) (rcst h R 0)
theorem C_standsW {V : Vt} (h : Sh ad ct σ) (R : RC ad ct σ V) (i : Int32) (X : Int64) {Q : Int32 → St → Prop} (hQ : ∀ σ', Fr ct SC σ σ' → RC ad ct σ' (witV i X V).2 → Q (witV i X V).1 σ') : wX11_standsWith (ad 12 0 0) i X σ Q := by
  unfold witV at hQ
  refine C_at h R i (fun e => ⟨fun _ => ⟨k12 h, ?_⟩, fun a z => (by cases z)⟩) (fun n e j e1 e2 e3 e4 e5 e6 e7 e8 => ⟨fun z => (by cases z), fun a z => ?_⟩)
  · rw [e] at hQ
    exact C_ref h R 1 hQ
  · cases z
    rw [e4] at hQ
    simp only at hQ
    have f : Fr ct (fun p => p = (12, 0)) σ (uFi σ 714 (ad 12 0 0) 0) := Fr.rf.uFi _ _ _ (Or.inl (c12 h))
    refine ⟨k12 h, k3 h (by decide) e5, A_stands (h.frC (frst h 0)) (by decide) e5 (e6.cg h f (by decide) e5 (by decide) (by decide) (by decide)) X ?_⟩
    have hq := hQ _ (frst h 0) (rcst h R 0)
    cases hb : e.2.1.any (fun u => decide (sb u X)) with
    | false => rw [hb] at hq; exact ⟨fun _ => hq, fun z => absurd rfl z⟩
    | true => rw [hb] at hq; exact ⟨fun z => absurd z (by decide), fun _ => hq⟩
theorem C_with {V : Vt} (h : Sh ad ct σ) (R : RC ad ct σ V) (i : Int32) (X : Int64) {Q : Int32 → St → Prop} (hQ : ∀ σ', Fr ct SC σ σ' → RC ad ct σ' (witV i X V).2 → Q (witV i X V).1 σ') : wX11_with (ad 12 0 0) i X σ Q := ⟨k12 h, C_standsW h R i X hQ⟩
theorem any_cong {α : Type} {l : List α} {p q : α → Bool} (h : ∀ x ∈ l, p x = q x) : l.any p = l.any q := by
  induction l with
  | nil => rfl
  | cons a l ih => rw [List.any_cons, List.any_cons, h a List.mem_cons_self, ih (fun x hx => h x (List.mem_cons_of_mem _ hx))]
theorem C_stays {V : Vt} (h : Sh ad ct σ) (R : RC ad ct σ V) (W : WFv V) (i : Int32) {Q : Int32 → St → Prop} (hQ : ∀ σ', Fr ct SC σ σ' → RC ad ct σ' (staV i V).2 → Q (staV i V).1 σ') : wX11_stays (ad 12 0 0) i σ Q := by
  refine ⟨k12 h, _, p704 h, k7 h, C_standsW h R i _ (fun σ' f r => ?_)⟩
  have e : witV i (zFj σ 389 (ad 7 0 0) ^^^ (-1)) V = staV i V := by
    unfold witV staV
    cases ea : aOf V i with
    | none => rfl
    | some e =>
      have hm : e ∈ V.2.2.1.1 := by
        unfold aOf at ea
        by_cases c : i < 0
        · rw [if_pos c] at ea; cases ea
        · rw [if_neg c] at ea; exact List.mem_of_getElem? ea
      obtain ⟨-, -, -, -, -, hb, -⟩ := W.2.2.2.2.2 e hm
      show (zB _, _) = (zB _, _)
      rw [any_cong (fun u hu => there_sb W.1.wf.2.2.1 (hb u hu) (fun k f hf => (R.2.1.2 k f hf).2.2.2))]
  rw [e] at r ⊢
  exact hQ σ' f r
theorem C_without {V : Vt} (h : Sh ad ct σ) (R : RC ad ct σ V) (W : WFv V) (X : Int64) {Q : Int32 → St → Prop} (hQ : Q (wouV X V) σ) : wX11_without (ad 12 0 0) X σ Q := by
  obtain ⟨w, ⟨q1, q2, q3, q4, q5⟩, -⟩ := R.2.2.2.2.2.1
  have h32 := W.2.2.1
  have key : ∀ (l : List Ans) (k n : Nat), k + l.length = V.2.2.1.1.length → n ≤ k → (∀ m v, l[m]? = some v → V.2.2.1.1[k + m]? = some v) → Q (nI (n + l.countP (fun e => !(e.2.1.any (fun u => decide (sb u X)))))) σ → lX11_without_5 Q (l.length + 1) (ad 12 0 0) X (nI n) (nI k) σ := by
    intro l
    induction l with
    | nil =>
      intro k n hk hn ha hq
      have hk : k = V.2.2.1.1.length := by simpa using hk
      refine ⟨k12 h, _, p708 h, k4 h (by decide), fun _ => ?_, fun c => absurd ?_ c⟩
      · simpa using hq
      · rw [q1, hk]; exact nI_le (Nat.le_refl _) (by omega)
    | cons a l ih =>
      intro k n hk hn ha hq
      rw [List.length_cons] at hk
      have hrm := room_le 42
      obtain ⟨j, j1, j2, j3⟩ := q5 k a (ha 0 a rfl)
      refine ⟨k12 h, _, p708 h, k4 h (by decide), fun c => absurd c (by rw [q1]; exact nI_ge (by omega) (by omega)), fun c => ⟨_, p192 h (by decide), k192 h (by decide), by rw [l192 h (by decide)]; exact vp_in_nI (by have := room_pos 42; omega) (by omega), _, by rw [show ix (nI k) = k from nI_clamp (by omega)]; exact j2, k3 h (by decide) j1, A_stands h (by decide) j1 j3 X ?_⟩⟩
      rw [nI_1, nI_1]
      have ha2 : ∀ m v, l[m]? = some v → V.2.2.1.1[k + 1 + m]? = some v := fun m v hv => by rw [show k + 1 + m = k + (m + 1) by omega]; exact ha (m + 1) v hv
      cases hb : a.2.1.any (fun u => decide (sb u X)) with
      | true =>
        rw [List.countP_cons_of_neg (by simp [hb])] at hq
        exact ⟨fun _ => ih (k + 1) n (by omega) (by omega) ha2 hq, fun z => absurd z (by decide)⟩
      | false =>
        rw [List.countP_cons_of_pos (by simp [hb]), show n + (l.countP (fun e => !(e.2.1.any (fun u => decide (sb u X)))) + 1) = n + 1 + l.countP (fun e => !(e.2.1.any (fun u => decide (sb u X)))) by omega] at hq
        exact ⟨fun z => absurd rfl z, fun _ => ih (k + 1) (n + 1) (by omega) (by omega) ha2 hq⟩
  refine ⟨_, key V.2.2.1.1 0 0 (by omega) (by omega) (fun m v hv => by rw [Nat.zero_add]; exact hv) ?_⟩
  rw [Nat.zero_add]; exact hQ
theorem fin_none {V : Vt} {row : List Int32} {w : Nat} (hw : V.2.2.1.1 ≠ [] → w = V.2.2.1.2.1) (hn : ∀ i : Nat, (V.2.2.1.1.map (fun e => e.1))[i]? ≠ some (row.take w)) : finV row V = -1 := by
  unfold finV
  rw [List.findIdx?_eq_none_iff.mpr]
  intro e he
  obtain ⟨i, hi, rfl⟩ := List.getElem_of_mem he
  have e2 := hw (fun z => by rw [z] at hi; exact absurd hi (Nat.not_lt_zero _))
  refine decide_eq_false (fun z => hn i ?_)
  rw [List.getElem?_map, List.getElem?_eq_getElem hi, e2]
  exact congrArg some z
theorem fin_some {V : Vt} (W : WFv V) {row : List Int32} {w i : Nat} (hw : V.2.2.1.1 ≠ [] → w = V.2.2.1.2.1) (hi : i < V.2.2.1.1.length) (he : (V.2.2.1.1.map (fun e => e.1))[i]? = some (row.take w)) : finV row V = nI i := by
  have e2 := hw (fun z => by rw [z] at hi; exact absurd hi (Nat.not_lt_zero _))
  rw [List.getElem?_map, List.getElem?_eq_getElem hi, e2] at he
  have he := Option.some.inj he
  unfold finV
  rw [List.findIdx?_eq_some_iff_getElem.mpr ⟨hi, by simpa using he, fun j hj z => ?_⟩]
  have z : (V.2.2.1.1[j]).1 = row.take V.2.2.1.2.1 := by simpa using z
  have := List.pairwise_iff_getElem.mp W.2.2.2.2.1 j i (by omega) hi hj
  rw [z, ← he] at this
  exact rlt_ir _ this
theorem C_find {V : Vt} (h : Sh ad ct σ) (R : RC ad ct σ V) (W : WFv V) (a b c d e f : Int32) {Q : Int32 → St → Prop} (hQ : ∀ σ', Fr ct SC σ σ' → RC ad ct σ' V → Q (finV [a, b, c, d, e, f] V) σ') : wX11_find 10 100 (ad 12 0 0) a b c d e f σ Q := by
  refine ⟨by decide, by decide, fun y hy => ?_⟩
  have f0 : Fr ct (fun _ => False) σ (nA σ y 20 6) := Fr.rf.nA y 20 6 hy
  have h0 := h.fr f0 id id id
  have ly : zL (nA σ y 20 6) y = 6 := by rw [yL_nA, if_pos rfl]
  rw [ly]
  refine ⟨vp_in_nI (n := 0) (by decide) (by decide), vp_in_nI (n := 1) (by decide) (by decide), vp_in_nI (n := 2) (by decide) (by decide), vp_in_nI (n := 3) (by decide) (by decide), vp_in_nI (n := 4) (by decide) (by decide), vp_in_nI (n := 5) (by decide) (by decide), k12 h0, _, p708 h0, by decide, by decide, k4 h0 (by decide), ?_⟩
  rw [show ix 0 = 0 by decide, show ix 1 = 1 by decide, show ix 2 = 2 by decide, show ix 3 = 3 by decide, show ix 4 = 4 by decide, show ix 5 = 5 by decide]
  generalize hρ : uAi (uAi (uAi (uAi (uAi (uAi (nA σ y 20 6) y 0 a) y 1 b) y 2 c) y 3 d) y 4 e) y 5 f = ρ
  have fr : Fr ct (fun _ => False) σ ρ := by
    rw [← hρ]
    exact (((((f0.uAi _ _ _ (Or.inr hy)).uAi _ _ _ (Or.inr hy)).uAi _ _ _ (Or.inr hy)).uAi _ _ _ (Or.inr hy)).uAi _ _ _ (Or.inr hy)).uAi _ _ _ (Or.inr hy)
  have h1 := h.fr fr id id id
  have R1 := R.frM h (fr.mono (fun _ q => q.elim))
  have hq := hQ ρ (fr.mono (fun _ q => q.elim)) R1
  obtain ⟨w, hw, hw2⟩ := R1.2.2.2.2.2.1
  have hrow : rowIs ρ y ([a, b, c, d, e, f].take w) := by
    refine ⟨by rw [← hρ]; simp only [yK_uFi, yL_uFi, yFj_uFi, yFr_uFi, yAi_uFi, yAj_uFi, yAd_uFi, yAr_uFi, yFi_uFi, yK_uFj, yL_uFj, yFi_uFj, yFr_uFj, yAi_uFj, yAj_uFj, yAd_uFj, yAr_uFj, yFj_uFj, yK_uFr, yL_uFr, yFi_uFr, yFj_uFr, yAi_uFr, yAj_uFr, yAd_uFr, yAr_uFr, yFr_uFr, yK_uAi, yL_uAi, yFi_uAi, yFj_uAi, yFr_uAi, yAj_uAi, yAd_uAi, yAr_uAi, yAi_uAi, yK_uAj, yL_uAj, yFi_uAj, yFj_uAj, yFr_uAj, yAi_uAj, yAd_uAj, yAr_uAj, yAj_uAj, yK_uAd, yL_uAd, yFi_uAd, yFj_uAd, yFr_uAd, yAi_uAd, yAj_uAd, yAr_uAd, yAd_uAd, yK_uAr, yL_uAr, yFi_uAr, yFj_uAr, yFr_uAr, yAi_uAr, yAj_uAr, yAd_uAr, yAr_uAr, yK_uCi, yL_uCi, yFi_uCi, yFj_uCi, yFr_uCi, yAj_uCi, yAd_uCi, yAr_uCi, yK_uCj, yL_uCj, yFi_uCj, yFj_uCj, yFr_uCj, yAi_uCj, yAd_uCj, yAr_uCj, yK_uCx, yL_uCx, yFi_uCx, yFj_uCx, yFr_uCx, yAi_uCx, yAd_uCx, yAr_uCx, yK_nO, yL_nO, yFi_nO, yFj_nO, yFr_nO, yAi_nO, yAj_nO, yAd_nO, yAr_nO, yK_nA, yL_nA, yFi_nA, yFj_nA, yFr_nA, yAi_nA, yAj_nA, yAd_nA, yAr_nA, yK_nC, yL_nC, yFi_nC, yFj_nC, yFr_nC, yAi_nC, yAj_nC, yAd_nC, yAr_nC, yu2, yAi_uCi', yAj_uCj', yAj_uCx', Option.some.injEq, exists_eq_left', true_and, and_true, not_false_eq_true, forall_const, false_and, and_false, reduceIte, Nat.reduceEqDiff, ne_eq], by rw [← hρ]; simp only [yK_uFi, yL_uFi, yFj_uFi, yFr_uFi, yAi_uFi, yAj_uFi, yAd_uFi, yAr_uFi, yFi_uFi, yK_uFj, yL_uFj, yFi_uFj, yFr_uFj, yAi_uFj, yAj_uFj, yAd_uFj, yAr_uFj, yFj_uFj, yK_uFr, yL_uFr, yFi_uFr, yFj_uFr, yAi_uFr, yAj_uFr, yAd_uFr, yAr_uFr, yFr_uFr, yK_uAi, yL_uAi, yFi_uAi, yFj_uAi, yFr_uAi, yAj_uAi, yAd_uAi, yAr_uAi, yAi_uAi, yK_uAj, yL_uAj, yFi_uAj, yFj_uAj, yFr_uAj, yAi_uAj, yAd_uAj, yAr_uAj, yAj_uAj, yK_uAd, yL_uAd, yFi_uAd, yFj_uAd, yFr_uAd, yAi_uAd, yAj_uAd, yAr_uAd, yAd_uAd, yK_uAr, yL_uAr, yFi_uAr, yFj_uAr, yFr_uAr, yAi_uAr, yAj_uAr, yAd_uAr, yAr_uAr, yK_uCi, yL_uCi, yFi_uCi, yFj_uCi, yFr_uCi, yAj_uCi, yAd_uCi, yAr_uCi, yK_uCj, yL_uCj, yFi_uCj, yFj_uCj, yFr_uCj, yAi_uCj, yAd_uCj, yAr_uCj, yK_uCx, yL_uCx, yFi_uCx, yFj_uCx, yFr_uCx, yAi_uCx, yAd_uCx, yAr_uCx, yK_nO, yL_nO, yFi_nO, yFj_nO, yFr_nO, yAi_nO, yAj_nO, yAd_nO, yAr_nO, yK_nA, yL_nA, yFi_nA, yFj_nA, yFr_nA, yAi_nA, yAj_nA, yAd_nA, yAr_nA, yK_nC, yL_nC, yFi_nC, yFj_nC, yFr_nC, yAi_nC, yAj_nC, yAd_nC, yAr_nC, yu2, yAi_uCi', yAj_uCj', yAj_uCx', Option.some.injEq, exists_eq_left', true_and, and_true, not_false_eq_true, forall_const, false_and, and_false, reduceIte, Nat.reduceEqDiff, ne_eq], fun k v hv => ?_⟩
    have hk := (List.getElem?_eq_some_iff.mp hv).1
    rw [List.length_take] at hk
    rw [List.getElem?_take, if_pos (by omega)] at hv
    have hk6 : k < 6 := by
      have : [a, b, c, d, e, f].length = 6 := rfl
      omega
    rw [← hρ]; simp only [yK_uFi, yL_uFi, yFj_uFi, yFr_uFi, yAi_uFi, yAj_uFi, yAd_uFi, yAr_uFi, yFi_uFi, yK_uFj, yL_uFj, yFi_uFj, yFr_uFj, yAi_uFj, yAj_uFj, yAd_uFj, yAr_uFj, yFj_uFj, yK_uFr, yL_uFr, yFi_uFr, yFj_uFr, yAi_uFr, yAj_uFr, yAd_uFr, yAr_uFr, yFr_uFr, yK_uAi, yL_uAi, yFi_uAi, yFj_uAi, yFr_uAi, yAj_uAi, yAd_uAi, yAr_uAi, yAi_uAi, yK_uAj, yL_uAj, yFi_uAj, yFj_uAj, yFr_uAj, yAi_uAj, yAd_uAj, yAr_uAj, yAj_uAj, yK_uAd, yL_uAd, yFi_uAd, yFj_uAd, yFr_uAd, yAi_uAd, yAj_uAd, yAr_uAd, yAd_uAd, yK_uAr, yL_uAr, yFi_uAr, yFj_uAr, yFr_uAr, yAi_uAr, yAj_uAr, yAd_uAr, yAr_uAr, yK_uCi, yL_uCi, yFi_uCi, yFj_uCi, yFr_uCi, yAj_uCi, yAd_uCi, yAr_uCi, yK_uCj, yL_uCj, yFi_uCj, yFj_uCj, yFr_uCj, yAi_uCj, yAd_uCj, yAr_uCj, yK_uCx, yL_uCx, yFi_uCx, yFj_uCx, yFr_uCx, yAi_uCx, yAd_uCx, yAr_uCx, yK_nO, yL_nO, yFi_nO, yFj_nO, yFr_nO, yAi_nO, yAj_nO, yAd_nO, yAr_nO, yK_nA, yL_nA, yFi_nA, yFj_nA, yFr_nA, yAi_nA, yAj_nA, yAd_nA, yAr_nA, yK_nC, yL_nC, yFi_nC, yFj_nC, yFr_nC, yAi_nC, yAj_nC, yAd_nC, yAr_nC, yu2, yAi_uCi', yAj_uCj', yAj_uCx', Option.some.injEq, exists_eq_left', true_and, and_true, not_false_eq_true, forall_const, false_and, and_false, reduceIte, Nat.reduceEqDiff, ne_eq]
    match k, hk6 with
    | 0, _ => cases hv; rfl
    | 1, _ => cases hv; rfl
    | 2, _ => cases hv; rfl
    | 3, _ => cases hv; rfl
    | 4, _ => cases hv; rfl
    | 5, _ => cases hv; rfl
  refine A_spot h1 (by decide) hw.rows (List.pairwise_map.mpr W.2.2.2.2.1) (by rw [List.length_take]; have := hw.2.2.1; show min w 6 = w; omega) hrow (fun z => ⟨by decide, by decide, ?_⟩) (fun i hi z => ⟨by decide, by decide, ?_⟩)
  · rw [fin_none (fun n => (hw2 n).1) z] at hq; exact hq
  · rw [List.length_map] at hi
    rw [fin_some W (fun n => (hw2 n).1) hi z] at hq; exact hq
end K8
