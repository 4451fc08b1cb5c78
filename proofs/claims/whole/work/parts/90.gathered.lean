/-! the class: ways gathered -/
section MB
variable {ad : Ad} {ct : Ct} {σ : St}
abbrev SG : Nat × Nat → Prop := fun p => p = (8, 0) ∨ p = (448, 0)
theorem SG_SC : ∀ p, SG p → SC p := fun p q => by rcases q with rfl | rfl <;> decide
/-- the gathered ways are l; the readings c, co, tr -/
def GaI (ad : Ad) (ct : Ct) (σ σ' : St) (l : List Int64) (c : Int64) (co : Int32) (tr : Int64) : Prop := Fr ct SG σ σ' ∧ zFi σ' 449 (ad 8 0 0) = nI l.length ∧ (∀ k v, l[k]? = some v → zAj σ' (ad 448 0 0) k = v) ∧ zFj σ' 450 (ad 8 0 0) = c ∧ zFi σ' 451 (ad 8 0 0) = co ∧ zFj σ' 452 (ad 8 0 0) = tr
theorem C_gclear (h : Sh ad ct σ) {Q : St → Prop} (hQ : ∀ σ2, GaI ad ct σ σ2 [] 0 1000000000 0 → Q σ2) : wX7_clear (ad 8 0 0) σ Q := by
  have z : ∀ {τ : St}, Fr ct SG σ τ → SG (ct (ad 8 0 0)) ∨ zK σ (ad 8 0 0) = 0 := fun _ => Or.inl (by rw [c8 h]; decide)
  refine ⟨k8 h, hQ _ ⟨(((Fr.rf.uFi _ _ _ (z Fr.rf)).uFj _ _ _ (z Fr.rf)).uFi _ _ _ (z Fr.rf)).uFj _ _ _ (z Fr.rf), ?_, fun k v e => (by rw [List.getElem?_nil] at e; cases e), ?_, ?_, ?_⟩⟩
  · simp only [yK_uFi, yL_uFi, yFj_uFi, yFr_uFi, yAi_uFi, yAj_uFi, yAd_uFi, yAr_uFi, yFi_uFi, yK_uFj, yL_uFj, yFi_uFj, yFr_uFj, yAi_uFj, yAj_uFj, yAd_uFj, yAr_uFj, yFj_uFj, yK_uFr, yL_uFr, yFi_uFr, yFj_uFr, yAi_uFr, yAj_uFr, yAd_uFr, yAr_uFr, yFr_uFr, yK_uAi, yL_uAi, yFi_uAi, yFj_uAi, yFr_uAi, yAj_uAi, yAd_uAi, yAr_uAi, yAi_uAi, yK_uAj, yL_uAj, yFi_uAj, yFj_uAj, yFr_uAj, yAi_uAj, yAd_uAj, yAr_uAj, yAj_uAj, yK_uAd, yL_uAd, yFi_uAd, yFj_uAd, yFr_uAd, yAi_uAd, yAj_uAd, yAr_uAd, yAd_uAd, yK_uAr, yL_uAr, yFi_uAr, yFj_uAr, yFr_uAr, yAi_uAr, yAj_uAr, yAd_uAr, yAr_uAr, yK_uCi, yL_uCi, yFi_uCi, yFj_uCi, yFr_uCi, yAj_uCi, yAd_uCi, yAr_uCi, yK_uCj, yL_uCj, yFi_uCj, yFj_uCj, yFr_uCj, yAi_uCj, yAd_uCj, yAr_uCj, yK_uCx, yL_uCx, yFi_uCx, yFj_uCx, yFr_uCx, yAi_uCx, yAd_uCx, yAr_uCx, yK_nO, yL_nO, yFi_nO, yFj_nO, yFr_nO, yAi_nO, yAj_nO, yAd_nO, yAr_nO, yK_nA, yL_nA, yFi_nA, yFj_nA, yFr_nA, yAi_nA, yAj_nA, yAd_nA, yAr_nA, yK_nC, yL_nC, yFi_nC, yFj_nC, yFr_nC, yAi_nC, yAj_nC, yAd_nC, yAr_nC, yu2, yAi_uCi', yAj_uCj', yAj_uCx', Option.some.injEq, exists_eq_left', true_and, and_true, not_false_eq_true, forall_const, false_and, and_false, reduceIte, Nat.reduceEqDiff, ne_eq]; rfl
  · simp only [yK_uFi, yL_uFi, yFj_uFi, yFr_uFi, yAi_uFi, yAj_uFi, yAd_uFi, yAr_uFi, yFi_uFi, yK_uFj, yL_uFj, yFi_uFj, yFr_uFj, yAi_uFj, yAj_uFj, yAd_uFj, yAr_uFj, yFj_uFj, yK_uFr, yL_uFr, yFi_uFr, yFj_uFr, yAi_uFr, yAj_uFr, yAd_uFr, yAr_uFr, yFr_uFr, yK_uAi, yL_uAi, yFi_uAi, yFj_uAi, yFr_uAi, yAj_uAi, yAd_uAi, yAr_uAi, yAi_uAi, yK_uAj, yL_uAj, yFi_uAj, yFj_uAj, yFr_uAj, yAi_uAj, yAd_uAj, yAr_uAj, yAj_uAj, yK_uAd, yL_uAd, yFi_uAd, yFj_uAd, yFr_uAd, yAi_uAd, yAj_uAd, yAr_uAd, yAd_uAd, yK_uAr, yL_uAr, yFi_uAr, yFj_uAr, yFr_uAr, yAi_uAr, yAj_uAr, yAd_uAr, yAr_uAr, yK_uCi, yL_uCi, yFi_uCi, yFj_uCi, yFr_uCi, yAj_uCi, yAd_uCi, yAr_uCi, yK_uCj, yL_uCj, yFi_uCj, yFj_uCj, yFr_uCj, yAi_uCj, yAd_uCj, yAr_uCj, yK_uCx, yL_uCx, yFi_uCx, yFj_uCx, yFr_uCx, yAi_uCx, yAd_uCx, yAr_uCx, yK_nO, yL_nO, yFi_nO, yFj_nO, yFr_nO, yAi_nO, yAj_nO, yAd_nO, yAr_nO, yK_nA, yL_nA, yFi_nA, yFj_nA, yFr_nA, yAi_nA, yAj_nA, yAd_nA, yAr_nA, yK_nC, yL_nC, yFi_nC, yFj_nC, yFr_nC, yAi_nC, yAj_nC, yAd_nC, yAr_nC, yu2, yAi_uCi', yAj_uCj', yAj_uCx', Option.some.injEq, exists_eq_left', true_and, and_true, not_false_eq_true, forall_const, false_and, and_false, reduceIte, Nat.reduceEqDiff, ne_eq]
  · simp only [yK_uFi, yL_uFi, yFj_uFi, yFr_uFi, yAi_uFi, yAj_uFi, yAd_uFi, yAr_uFi, yFi_uFi, yK_uFj, yL_uFj, yFi_uFj, yFr_uFj, yAi_uFj, yAj_uFj, yAd_uFj, yAr_uFj, yFj_uFj, yK_uFr, yL_uFr, yFi_uFr, yFj_uFr, yAi_uFr, yAj_uFr, yAd_uFr, yAr_uFr, yFr_uFr, yK_uAi, yL_uAi, yFi_uAi, yFj_uAi, yFr_uAi, yAj_uAi, yAd_uAi, yAr_uAi, yAi_uAi, yK_uAj, yL_uAj, yFi_uAj, yFj_uAj, yFr_uAj, yAi_uAj, yAd_uAj, yAr_uAj, yAj_uAj, yK_uAd, yL_uAd, yFi_uAd, yFj_uAd, yFr_uAd, yAi_uAd, yAj_uAd, yAr_uAd, yAd_uAd, yK_uAr, yL_uAr, yFi_uAr, yFj_uAr, yFr_uAr, yAi_uAr, yAj_uAr, yAd_uAr, yAr_uAr, yK_uCi, yL_uCi, yFi_uCi, yFj_uCi, yFr_uCi, yAj_uCi, yAd_uCi, yAr_uCi, yK_uCj, yL_uCj, yFi_uCj, yFj_uCj, yFr_uCj, yAi_uCj, yAd_uCj, yAr_uCj, yK_uCx, yL_uCx, yFi_uCx, yFj_uCx, yFr_uCx, yAi_uCx, yAd_uCx, yAr_uCx, yK_nO, yL_nO, yFi_nO, yFj_nO, yFr_nO, yAi_nO, yAj_nO, yAd_nO, yAr_nO, yK_nA, yL_nA, yFi_nA, yFj_nA, yFr_nA, yAi_nA, yAj_nA, yAd_nA, yAr_nA, yK_nC, yL_nC, yFi_nC, yFj_nC, yFr_nC, yAi_nC, yAj_nC, yAd_nC, yAr_nC, yu2, yAi_uCi', yAj_uCj', yAj_uCx', Option.some.injEq, exists_eq_left', true_and, and_true, not_false_eq_true, forall_const, false_and, and_false, reduceIte, Nat.reduceEqDiff, ne_eq]
  · simp only [yK_uFi, yL_uFi, yFj_uFi, yFr_uFi, yAi_uFi, yAj_uFi, yAd_uFi, yAr_uFi, yFi_uFi, yK_uFj, yL_uFj, yFi_uFj, yFr_uFj, yAi_uFj, yAj_uFj, yAd_uFj, yAr_uFj, yFj_uFj, yK_uFr, yL_uFr, yFi_uFr, yFj_uFr, yAi_uFr, yAj_uFr, yAd_uFr, yAr_uFr, yFr_uFr, yK_uAi, yL_uAi, yFi_uAi, yFj_uAi, yFr_uAi, yAj_uAi, yAd_uAi, yAr_uAi, yAi_uAi, yK_uAj, yL_uAj, yFi_uAj, yFj_uAj, yFr_uAj, yAi_uAj, yAd_uAj, yAr_uAj, yAj_uAj, yK_uAd, yL_uAd, yFi_uAd, yFj_uAd, yFr_uAd, yAi_uAd, yAj_uAd, yAr_uAd, yAd_uAd, yK_uAr, yL_uAr, yFi_uAr, yFj_uAr, yFr_uAr, yAi_uAr, yAj_uAr, yAd_uAr, yAr_uAr, yK_uCi, yL_uCi, yFi_uCi, yFj_uCi, yFr_uCi, yAj_uCi, yAd_uCi, yAr_uCi, yK_uCj, yL_uCj, yFi_uCj, yFj_uCj, yFr_uCj, yAi_uCj, yAd_uCj, yAr_uCj, yK_uCx, yL_uCx, yFi_uCx, yFj_uCx, yFr_uCx, yAi_uCx, yAd_uCx, yAr_uCx, yK_nO, yL_nO, yFi_nO, yFj_nO, yFr_nO, yAi_nO, yAj_nO, yAd_nO, yAr_nO, yK_nA, yL_nA, yFi_nA, yFj_nA, yFr_nA, yAi_nA, yAj_nA, yAd_nA, yAr_nA, yK_nC, yL_nC, yFi_nC, yFj_nC, yFr_nC, yAi_nC, yAj_nC, yAd_nC, yAr_nC, yu2, yAi_uCi', yAj_uCj', yAj_uCx', Option.some.injEq, exists_eq_left', true_and, and_true, not_false_eq_true, forall_const, false_and, and_false, reduceIte, Nat.reduceEqDiff, ne_eq]
def kpW (l : List Int64) (w : Int64) (k : Nat) : List Int64 := (l.take k).filter (fun x => decide (¬ sb w x))
theorem kpW_len (l : List Int64) (w : Int64) (k : Nat) : (kpW l w k).length ≤ k := by
  unfold kpW
  have := List.length_filter_le (fun x => decide (¬ sb w x)) (l.take k)
  rw [List.length_take] at this
  omega
theorem kpW_s {l : List Int64} {w x : Int64} {k : Nat} (hx : l[k]? = some x) : kpW l w (k + 1) = kpW l w k ++ (if sb w x then [] else [x]) := by
  unfold kpW
  rw [List.take_add_one, hx, List.filter_append]
  congr 1
  show [x].filter _ = _
  by_cases c : sb w x
  · rw [if_pos c, List.filter_cons_of_neg (by rw [decide_eq_false (fun z => z c)]; decide), List.filter_nil]
  · rw [if_neg c, List.filter_cons_of_pos (p := fun x => decide (¬ sb w x)) (a := x) (decide_eq_true c), List.filter_nil]
def AwI (ad : Ad) (ct : Ct) (σ σ' : St) (l : List Int64) (w : Int64) (k : Nat) (c : Int64) (co : Int32) (tr : Int64) : Prop := Fr ct SG σ σ' ∧ zFi σ' 449 (ad 8 0 0) = nI l.length ∧ (∀ i v, (kpW l w k)[i]? = some v → zAj σ' (ad 448 0 0) i = v) ∧ (∀ i v, k ≤ i → l[i]? = some v → zAj σ' (ad 448 0 0) i = v) ∧ (∀ x ∈ l.take k, ¬ sb x w) ∧ zFj σ' 450 (ad 8 0 0) = c ∧ zFi σ' 451 (ad 8 0 0) = co ∧ zFj σ' 452 (ad 8 0 0) = tr
theorem C_addWay (h : Sh ad ct σ) {l : List Int64} (ha : Anti l) (hl : l.length < 8208) (w : Int64) {c : Int64} {co : Int32} {tr : Int64} {σ' : St} (I : GaI ad ct σ σ' l c co tr) {Q : St → Prop} (hQ : ∀ σ2, GaI ad ct σ σ2 (addW l w) c co tr → Q σ2) : wX7_addWay (ad 8 0 0) w σ' Q := by
  have key : ∀ (d k : Nat) (σ3 : St), k + d = l.length → AwI ad ct σ σ3 l w k c co tr → lX7_addWay_5 Q (d + 1) (ad 8 0 0) w (nI (kpW l w k).length) (nI k) σ3 := by
    intro d
    induction d with
    | zero =>
      intro k σ3 hk A
      obtain ⟨a1, a2, a3, a4, a5, a6, a7, a8⟩ := A
      have h3 := h.frC (a1.mono SG_SC)
      have hk : k = l.length := by omega
      have kl := kpW_len l w k
      have e0 : ∀ v, zFi (uFi σ3 449 (ad 8 0 0) v) 449 (ad 8 0 0) = v := fun v => by rw [yFi_uFi, yu2, if_pos ⟨rfl, rfl⟩]
      have ea : addW l w = kpW l w k ++ [w] := by
        unfold addW kpW
        rw [hk, List.take_length, if_neg]
        intro z
        obtain ⟨x, hx, hw⟩ := List.any_eq_true.mp z
        exact a5 x (by rw [hk, List.take_length]; exact hx) (of_decide_eq_true hw)
      refine ⟨k8 h3, fun _ => ⟨fun z => absurd z ?_, fun _ => ⟨_, p448 h3, k448 h3, ?_, ?_⟩⟩, fun z => absurd ?_ z⟩
      · rw [e0]; exact nI_ge (b := 8208) (by omega) (by decide)
      · rw [e0, l448 h3]; exact vp_in_nI (by omega) (by decide)
      · rw [e0, show ix (nI (kpW l w k).length) = (kpW l w k).length from nI_clamp (by omega), nI_1]
        refine hQ _ ?_
        rw [ea]
        have z : SG (ct (ad 8 0 0)) ∨ zK σ (ad 8 0 0) = 0 := Or.inl (by rw [c8 h3]; decide)
        refine ⟨((a1.uFi _ _ _ z).uAj _ _ _ (Or.inl (by rw [c448 h3]; decide))).uFi _ _ _ z, ?_, fun i v hi => ?_, ?_, ?_, ?_⟩
        · rw [yFi_uFi, yu2, if_pos ⟨rfl, rfl⟩, List.length_append, List.length_singleton]
        · rw [yAj_uFi, yAj_uAj, yu2, yAj_uFi]
          by_cases y : i = (kpW l w k).length
          · rw [if_pos ⟨rfl, y⟩]
            rw [y, List.getElem?_append_right (Nat.le_refl _), Nat.sub_self] at hi
            exact Option.some.inj hi
          · rw [if_neg (fun q => y q.2)]
            have hl := (List.getElem?_eq_some_iff.mp hi).1
            rw [List.length_append, List.length_singleton] at hl
            rw [List.getElem?_append_left (by omega)] at hi
            exact a3 i v hi
        · simp only [yK_uFi, yL_uFi, yFj_uFi, yFr_uFi, yAi_uFi, yAj_uFi, yAd_uFi, yAr_uFi, yFi_uFi, yK_uFj, yL_uFj, yFi_uFj, yFr_uFj, yAi_uFj, yAj_uFj, yAd_uFj, yAr_uFj, yFj_uFj, yK_uFr, yL_uFr, yFi_uFr, yFj_uFr, yAi_uFr, yAj_uFr, yAd_uFr, yAr_uFr, yFr_uFr, yK_uAi, yL_uAi, yFi_uAi, yFj_uAi, yFr_uAi, yAj_uAi, yAd_uAi, yAr_uAi, yAi_uAi, yK_uAj, yL_uAj, yFi_uAj, yFj_uAj, yFr_uAj, yAi_uAj, yAd_uAj, yAr_uAj, yAj_uAj, yK_uAd, yL_uAd, yFi_uAd, yFj_uAd, yFr_uAd, yAi_uAd, yAj_uAd, yAr_uAd, yAd_uAd, yK_uAr, yL_uAr, yFi_uAr, yFj_uAr, yFr_uAr, yAi_uAr, yAj_uAr, yAd_uAr, yAr_uAr, yK_uCi, yL_uCi, yFi_uCi, yFj_uCi, yFr_uCi, yAj_uCi, yAd_uCi, yAr_uCi, yK_uCj, yL_uCj, yFi_uCj, yFj_uCj, yFr_uCj, yAi_uCj, yAd_uCj, yAr_uCj, yK_uCx, yL_uCx, yFi_uCx, yFj_uCx, yFr_uCx, yAi_uCx, yAd_uCx, yAr_uCx, yK_nO, yL_nO, yFi_nO, yFj_nO, yFr_nO, yAi_nO, yAj_nO, yAd_nO, yAr_nO, yK_nA, yL_nA, yFi_nA, yFj_nA, yFr_nA, yAi_nA, yAj_nA, yAd_nA, yAr_nA, yK_nC, yL_nC, yFi_nC, yFj_nC, yFr_nC, yAi_nC, yAj_nC, yAd_nC, yAr_nC, yu2, yAi_uCi', yAj_uCj', yAj_uCx', Option.some.injEq, exists_eq_left', true_and, and_true, not_false_eq_true, forall_const, false_and, and_false, reduceIte, Nat.reduceEqDiff, ne_eq]; exact a6
        · simp only [yK_uFi, yL_uFi, yFj_uFi, yFr_uFi, yAi_uFi, yAj_uFi, yAd_uFi, yAr_uFi, yFi_uFi, yK_uFj, yL_uFj, yFi_uFj, yFr_uFj, yAi_uFj, yAj_uFj, yAd_uFj, yAr_uFj, yFj_uFj, yK_uFr, yL_uFr, yFi_uFr, yFj_uFr, yAi_uFr, yAj_uFr, yAd_uFr, yAr_uFr, yFr_uFr, yK_uAi, yL_uAi, yFi_uAi, yFj_uAi, yFr_uAi, yAj_uAi, yAd_uAi, yAr_uAi, yAi_uAi, yK_uAj, yL_uAj, yFi_uAj, yFj_uAj, yFr_uAj, yAi_uAj, yAd_uAj, yAr_uAj, yAj_uAj, yK_uAd, yL_uAd, yFi_uAd, yFj_uAd, yFr_uAd, yAi_uAd, yAj_uAd, yAr_uAd, yAd_uAd, yK_uAr, yL_uAr, yFi_uAr, yFj_uAr, yFr_uAr, yAi_uAr, yAj_uAr, yAd_uAr, yAr_uAr, yK_uCi, yL_uCi, yFi_uCi, yFj_uCi, yFr_uCi, yAj_uCi, yAd_uCi, yAr_uCi, yK_uCj, yL_uCj, yFi_uCj, yFj_uCj, yFr_uCj, yAi_uCj, yAd_uCj, yAr_uCj, yK_uCx, yL_uCx, yFi_uCx, yFj_uCx, yFr_uCx, yAi_uCx, yAd_uCx, yAr_uCx, yK_nO, yL_nO, yFi_nO, yFj_nO, yFr_nO, yAi_nO, yAj_nO, yAd_nO, yAr_nO, yK_nA, yL_nA, yFi_nA, yFj_nA, yFr_nA, yAi_nA, yAj_nA, yAd_nA, yAr_nA, yK_nC, yL_nC, yFi_nC, yFj_nC, yFr_nC, yAi_nC, yAj_nC, yAd_nC, yAr_nC, yu2, yAi_uCi', yAj_uCj', yAj_uCx', Option.some.injEq, exists_eq_left', true_and, and_true, not_false_eq_true, forall_const, false_and, and_false, reduceIte, Nat.reduceEqDiff, ne_eq]; exact a7
        · simp only [yK_uFi, yL_uFi, yFj_uFi, yFr_uFi, yAi_uFi, yAj_uFi, yAd_uFi, yAr_uFi, yFi_uFi, yK_uFj, yL_uFj, yFi_uFj, yFr_uFj, yAi_uFj, yAj_uFj, yAd_uFj, yAr_uFj, yFj_uFj, yK_uFr, yL_uFr, yFi_uFr, yFj_uFr, yAi_uFr, yAj_uFr, yAd_uFr, yAr_uFr, yFr_uFr, yK_uAi, yL_uAi, yFi_uAi, yFj_uAi, yFr_uAi, yAj_uAi, yAd_uAi, yAr_uAi, yAi_uAi, yK_uAj, yL_uAj, yFi_uAj, yFj_uAj, yFr_uAj, yAi_uAj, yAd_uAj, yAr_uAj, yAj_uAj, yK_uAd, yL_uAd, yFi_uAd, yFj_uAd, yFr_uAd, yAi_uAd, yAj_uAd, yAr_uAd, yAd_uAd, yK_uAr, yL_uAr, yFi_uAr, yFj_uAr, yFr_uAr, yAi_uAr, yAj_uAr, yAd_uAr, yAr_uAr, yK_uCi, yL_uCi, yFi_uCi, yFj_uCi, yFr_uCi, yAj_uCi, yAd_uCi, yAr_uCi, yK_uCj, yL_uCj, yFi_uCj, yFj_uCj, yFr_uCj, yAi_uCj, yAd_uCj, yAr_uCj, yK_uCx, yL_uCx, yFi_uCx, yFj_uCx, yFr_uCx, yAi_uCx, yAd_uCx, yAr_uCx, yK_nO, yL_nO, yFi_nO, yFj_nO, yFr_nO, yAi_nO, yAj_nO, yAd_nO, yAr_nO, yK_nA, yL_nA, yFi_nA, yFj_nA, yFr_nA, yAi_nA, yAj_nA, yAd_nA, yAr_nA, yK_nC, yL_nC, yFi_nC, yFj_nC, yFr_nC, yAi_nC, yAj_nC, yAd_nC, yAr_nC, yu2, yAi_uCi', yAj_uCj', yAj_uCx', Option.some.injEq, exists_eq_left', true_and, and_true, not_false_eq_true, forall_const, false_and, and_false, reduceIte, Nat.reduceEqDiff, ne_eq]; exact a8
      · rw [a2, hk]; exact nI_le (Nat.le_refl _) (by omega)
    | succ d ih =>
      intro k σ3 hk A
      have A' := A
      obtain ⟨a1, a2, a3, a4, a5, a6, a7, a8⟩ := A
      have h3 := h.frC (a1.mono SG_SC)
      have kl := kpW_len l w k
      obtain ⟨x, hx⟩ : ∃ x, l[k]? = some x := ⟨_, List.getElem?_eq_getElem (by omega)⟩
      have ek : ix (nI k) = k := nI_clamp (by omega)
      have ex := a4 k x (Nat.le_refl _) hx
      have et : l.take (k + 1) = l.take k ++ [x] := by rw [List.take_add_one, hx]; rfl
      have es := kpW_s (w := w) hx
      refine ⟨k8 h3, fun z => absurd z (by rw [a2]; exact nI_ge (by omega) (by omega)), fun _ => ⟨_, p448 h3, k448 h3, by rw [l448 h3]; exact vp_in_nI (by omega) (by decide), ?_⟩⟩
      rw [ek, ex, nI_1]
      refine ⟨fun z => ⟨fun y => ?_, fun y => ⟨by rw [l448 h3]; exact vp_in_nI (by omega) (by decide), ?_⟩⟩, fun z => ?_⟩
      · rw [if_pos (show sb w x from y), List.append_nil] at es
        have t := ih (k + 1) σ3 (by omega) ⟨a1, a2, by rw [es]; exact a3, fun i v hi => a4 i v (by omega), fun u hu => ?_, a6, a7, a8⟩
        · rw [es] at t; exact t
        · rw [et] at hu
          rcases List.mem_append.mp hu with q | q
          · exact a5 u q
          · rw [List.mem_singleton.mp q]; exact z
      · rw [if_neg (show ¬ sb w x from y)] at es
        have t := ih (k + 1) (uAj σ3 (ad 448 0 0) (kpW l w k).length x) (by omega) ⟨a1.uAj _ _ _ (Or.inl (by rw [c448 h3]; decide)), by rw [yFi_uAj]; exact a2, fun i v hi => ?_, fun i v hi hv => ?_, fun u hu => ?_, by rw [yFj_uAj]; exact a6, by rw [yFi_uAj]; exact a7, by rw [yFj_uAj]; exact a8⟩
        · rw [es, List.length_append, List.length_singleton] at t
          rw [show ix (nI (kpW l w k).length) = (kpW l w k).length from nI_clamp (by omega), nI_1]
          exact t
        · rw [yAj_uAj, yu2]
          rw [es] at hi
          by_cases y : i = (kpW l w k).length
          · rw [if_pos ⟨rfl, y⟩]
            rw [y, List.getElem?_append_right (Nat.le_refl _), Nat.sub_self] at hi
            exact Option.some.inj hi
          · rw [if_neg (fun q => y q.2)]
            have hl := (List.getElem?_eq_some_iff.mp hi).1
            rw [List.length_append, List.length_singleton] at hl
            rw [List.getElem?_append_left (by omega)] at hi
            exact a3 i v hi
        · rw [yAj_uAj, yu2, if_neg (fun q => by have := q.2; omega)]
          exact a4 i v (by omega) hv
        · rw [et] at hu
          rcases List.mem_append.mp hu with q | q
          · exact a5 u q
          · rw [List.mem_singleton.mp q]; exact z
      · refine hQ σ3 ?_
        have ea : addW l w = l := by
          unfold addW
          rw [if_pos (List.any_eq_true.mpr ⟨x, List.mem_of_getElem? hx, decide_eq_true z⟩)]
        rw [ea]
        refine ⟨a1, a2, fun i v hi => ?_, a6, a7, a8⟩
        by_cases c : k ≤ i
        · exact a4 i v c hi
        · refine a3 i v ?_
          have ef : kpW l w k = l.take k := by
            unfold kpW
            rw [List.filter_eq_self]
            intro u hu
            refine decide_eq_true (fun q => ?_)
            obtain ⟨m, hm, em⟩ := List.mem_iff_getElem.mp hu
            rw [List.length_take] at hm
            rw [List.getElem_take] at em
            have hkl : k < l.length := by omega
            have ekx : l[k] = x := (List.getElem?_eq_some_iff.mp hx).2
            have pw := (List.pairwise_iff_getElem.mp ha m k (by omega) hkl (by omega)).2
            rw [em, ekx] at pw
            exact pw (sb_tr z q)
          rw [ef, List.getElem?_take, if_pos (by omega)]
          exact hi
  obtain ⟨i1, i2, i3, i4, i5, i6⟩ := I
  exact ⟨_, key l.length 0 σ' (by omega) ⟨i1, i2, fun i v hi => (by rw [show kpW l w 0 = [] from rfl, List.getElem?_nil] at hi; cases hi), fun i v _ hv => i3 i v hv, fun x hx => absurd hx List.not_mem_nil, i4, i5, i6⟩⟩
/-- what an answer's ways are, under the gatherer's changes -/
theorem AnsAt.g (h : Sh ad ct σ) {s j w : Nat} {cl : Bool} {e : Ans} (hs : s < 43) (hj : j < room s) (q : AnsAt ad σ s j w cl e) {σ' : St} (f : Fr ct SG σ σ') : AnsAt ad σ' s j w cl e := q.cg h f hs hj (by simp) (by simp) (by simp)
theorem C_addWays (h : Sh ad ct σ) {s j w : Nat} {cl : Bool} {e : Ans} (hs : s < 43) (hj : j < room s) (q : AnsAt ad σ s j w cl e) {l : List Int64} (ha : Anti l) (hl : l.length + e.2.1.length ≤ 8208) {c : Int64} {co : Int32} {tr : Int64} {σ' : St} (I : GaI ad ct σ σ' l c co tr) {Q : St → Prop} (hQ : ∀ σ2, GaI ad ct σ σ2 (addA l e.2.1) c co tr → Q σ2) : wX7_addWays (ad 8 0 0) (ad 3 s j) σ' Q := by
  have q3 := q.2.2.1
  have key : ∀ (ws : List Int64) (k : Nat) (l : List Int64) (σ3 : St), k + ws.length = e.2.1.length → (∀ m v, ws[m]? = some v → e.2.1[k + m]? = some v) → Anti l → l.length + ws.length ≤ 8208 → GaI ad ct σ σ3 l c co tr → (∀ σ2, GaI ad ct σ σ2 (addA l ws) c co tr → Q σ2) → lX7_addWays_2 Q (ws.length + 1) (ad 8 0 0) (ad 3 s j) (nI k) σ3 := by
    intro ws
    induction ws with
    | nil =>
      intro k l σ3 hk hw ha hl J hq
      have hk : k = e.2.1.length := by simpa using hk
      have h3 := h.frC (J.1.mono SG_SC)
      refine ⟨k3 h3 hs hj, fun _ => hq σ3 J, fun z => absurd ?_ z⟩
      rw [(q.g h hs hj J.1).2.2.2.1, hk]; exact nI_le (Nat.le_refl _) (by omega)
    | cons a ws ih =>
      intro k l σ3 hk hw ha hl J hq
      rw [List.length_cons] at hk hl
      have h3 := h.frC (J.1.mono SG_SC)
      have q' := q.g h hs hj J.1
      refine ⟨k3 h3 hs hj, fun z => absurd z (by rw [q'.2.2.2.1]; exact nI_ge (by omega) (by omega)), fun _ => ⟨_, p129 h3 hs hj, k129 h3 hs hj, by rw [l129 h3 hs hj]; exact vp_in_nI (by omega) (by decide), k8 h3, ?_⟩⟩
      rw [show ix (nI k) = k from nI_clamp (by omega), q'.2.2.2.2.1 k a (by have := hw 0 a rfl; rw [Nat.add_zero] at this; exact this), nI_1]
      have := addW_len l a
      exact C_addWay h ha (by omega) a J (fun σ2 J2 => ih (k + 1) (addW l a) σ2 (by omega) (fun m v hv => by rw [show k + 1 + m = k + (m + 1) by omega]; exact hw (m + 1) v hv) (addW_anti ha a) (by omega) J2 hq)
  exact ⟨_, key e.2.1 0 l σ' (by omega) (fun m v hv => by rw [Nat.zero_add]; exact hv) ha hl I hQ⟩
/-- the unions of two ways each -/
def uni (A B : List Int64) : List Int64 := A.flatMap (fun a => B.map (fun b => a ||| b))
theorem uni_len (A B : List Int64) : (uni A B).length = A.length * B.length := by
  unfold uni
  induction A with
  | nil => simp
  | cons a A ih => rw [List.flatMap_cons, List.length_append, ih, List.length_map, List.length_cons, Nat.add_mul]; omega
theorem C_addUnions (h : Sh ad ct σ) {s j w s2 j2 w2 : Nat} {cl cl2 : Bool} {e e2 : Ans} (hs : s < 43) (hj : j < room s) (q : AnsAt ad σ s j w cl e) (hs2 : s2 < 43) (hj2 : j2 < room s2) (q2 : AnsAt ad σ s2 j2 w2 cl2 e2) {l : List Int64} (ha : Anti l) (hl : l.length + e.2.1.length * e2.2.1.length ≤ 8208) {c : Int64} {co : Int32} {tr : Int64} {σ' : St} (I : GaI ad ct σ σ' l c co tr) {Q : St → Prop} (hQ : ∀ σ2, GaI ad ct σ σ2 (addA l (uni e.2.1 e2.2.1)) c co tr → Q σ2) : wX7_addUnions (ad 8 0 0) (ad 3 s j) (ad 3 s2 j2) σ' Q := by
  have q3 := q.2.2.1
  have q23 := q2.2.2.1
  have inn : ∀ (r : Nat → Nat → Nat → Int32 → St → Prop) (k : Nat) (a : Int64), e.2.1[k]? = some a → ∀ (ws : List Int64) (m : Nat) (l : List Int64) (σ3 : St), m + ws.length = e2.2.1.length → (∀ i v, ws[i]? = some v → e2.2.1[m + i]? = some v) → Anti l → l.length + ws.length ≤ 8208 → GaI ad ct σ σ3 l c co tr → (∀ σ2, GaI ad ct σ σ2 (addA l (ws.map (fun b => a ||| b))) c co tr → r (ad 8 0 0) (ad 3 s j) (ad 3 s2 j2) (nI k + 1) σ2) → lX7_addUnions_13 Q r (ws.length + 1) (ad 8 0 0) (ad 3 s j) (ad 3 s2 j2) (nI k) (nI m) σ3 := by
    intro r k a hka ws
    have hk16 := (List.getElem?_eq_some_iff.mp hka).1
    induction ws with
    | nil =>
      intro m l σ3 hm hw ha hl J hq
      have hm : m = e2.2.1.length := by simpa using hm
      have h3 := h.frC (J.1.mono SG_SC)
      refine ⟨k3 h3 hs2 hj2, fun _ => hq σ3 J, fun z => absurd ?_ z⟩
      rw [(q2.g h hs2 hj2 J.1).2.2.2.1, hm]; exact nI_le (Nat.le_refl _) (by omega)
    | cons b ws ih =>
      intro m l σ3 hm hw ha hl J hq
      rw [List.length_cons] at hm hl
      have h3 := h.frC (J.1.mono SG_SC)
      have q' := q.g h hs hj J.1
      have q2' := q2.g h hs2 hj2 J.1
      refine ⟨k3 h3 hs2 hj2, fun z => absurd z (by rw [q2'.2.2.2.1]; exact nI_ge (by omega) (by omega)), fun _ => ⟨k3 h3 hs hj, _, p129 h3 hs hj, k129 h3 hs hj, by rw [l129 h3 hs hj]; exact vp_in_nI (by omega) (by decide), _, p129 h3 hs2 hj2, k129 h3 hs2 hj2, by rw [l129 h3 hs2 hj2]; exact vp_in_nI (by omega) (by decide), k8 h3, ?_⟩⟩
      rw [show ix (nI k) = k from nI_clamp (by omega), show ix (nI m) = m from nI_clamp (by omega), q'.2.2.2.2.1 k a hka, q2'.2.2.2.2.1 m b (by have := hw 0 b rfl; rw [Nat.add_zero] at this; exact this), nI_1]
      have := addW_len l (a ||| b)
      exact C_addWay h ha (by omega) (a ||| b) J (fun σ2 J2 => ih (m + 1) (addW l (a ||| b)) σ2 (by omega) (fun i v hv => by rw [show m + 1 + i = m + (i + 1) by omega]; exact hw (i + 1) v hv) (addW_anti ha _) (by omega) J2 hq)
  have out : ∀ (ws : List Int64) (k : Nat) (l : List Int64) (σ3 : St), k + ws.length = e.2.1.length → (∀ m v, ws[m]? = some v → e.2.1[k + m]? = some v) → Anti l → l.length + ws.length * e2.2.1.length ≤ 8208 → GaI ad ct σ σ3 l c co tr → (∀ σ2, GaI ad ct σ σ2 (addA l (uni ws e2.2.1)) c co tr → Q σ2) → lX7_addUnions_2 Q (ws.length + 1) (ad 8 0 0) (ad 3 s j) (ad 3 s2 j2) (nI k) σ3 := by
    intro ws
    induction ws with
    | nil =>
      intro k l σ3 hk hw ha hl J hq
      have hk : k = e.2.1.length := by simpa using hk
      have h3 := h.frC (J.1.mono SG_SC)
      refine ⟨k3 h3 hs hj, fun _ => hq σ3 J, fun z => absurd ?_ z⟩
      rw [(q.g h hs hj J.1).2.2.2.1, hk]; exact nI_le (Nat.le_refl _) (by omega)
    | cons a ws ih =>
      intro k l σ3 hk hw ha hl J hq
      rw [List.length_cons] at hk
      rw [List.length_cons, Nat.add_mul] at hl
      have h3 := h.frC (J.1.mono SG_SC)
      have q' := q.g h hs hj J.1
      refine ⟨k3 h3 hs hj, fun z => absurd z (by rw [q'.2.2.2.1]; exact nI_ge (by omega) (by omega)), fun _ => ⟨e2.2.1.length + 1, ?_⟩⟩
      refine inn _ k a (by have := hw 0 a rfl; rw [Nat.add_zero] at this; exact this) e2.2.1 0 l σ3 (by omega) (fun i v hv => by rw [Nat.zero_add]; exact hv) ha (by omega) J (fun σ2 J2 => ?_)
      rw [nI_1]
      have ln := addA_len (e2.2.1.map (fun b => a ||| b)) l
      rw [List.length_map] at ln
      refine ih (k + 1) _ σ2 (by omega) (fun m v hv => by rw [show k + 1 + m = k + (m + 1) by omega]; exact hw (m + 1) v hv) (addA_anti _ ha) (by omega) J2 (fun σ4 J4 => hq σ4 ?_)
      rw [show uni (a :: ws) e2.2.1 = e2.2.1.map (fun b => a ||| b) ++ uni ws e2.2.1 from List.flatMap_cons, addA_app]
      exact J4
  exact ⟨_, out e.2.1 0 l σ' (by omega) (fun m v hv => by rw [Nat.zero_add]; exact hv) ha hl I hQ⟩
end MB
