/-! the class: BASE -/
section ML
variable {ad : Ad} {ct : Ct} {σ : St}
abbrev SWo (k : Nat) : Nat × Nat → Prop := fun p => SNr k p ∨ SNr 40 p ∨ SNr 41 p ∨ p = (8, 0) ∨ p = (448, 0) ∨ p = (262, 0) ∨ p = (263, 0)
theorem SWo_SC (k : Nat) : ∀ p, SWo k p → SC p := fun p q => by
  rcases q with q | q | q | q | q | q | q
  · exact SNr_SC _ p q
  · exact SNr_SC _ p q
  · exact SNr_SC _ p q
  · subst q; decide
  · subst q; decide
  · subst q; decide
  · subst q; decide
theorem SMt_o (k : Nat) : ∀ p, SMt k p → SWo k p := fun p q => by
  rcases q with q | q | q
  · exact Or.inl q
  · rcases q with q | q
    · exact Or.inr (Or.inr (Or.inr (Or.inl q)))
    · exact Or.inr (Or.inr (Or.inr (Or.inr (Or.inl q))))
  · exact Or.inr (Or.inr (Or.inr (Or.inr (Or.inr (Or.inl q)))))
theorem SN40_o (k : Nat) : ∀ p, SN 40 p → SWo k p := fun p q => Or.inr (Or.inl (SN_r 40 p q))
def rowF (w : Nat) (c : Nat → Int32) : List Int32 := (List.range w).map c
theorem rowF_len (w : Nat) (c : Nat → Int32) : (rowF w c).length = w := by unfold rowF; rw [List.length_map, List.length_range]
theorem rowF_get {w : Nat} {c : Nat → Int32} {k : Nat} {v : Int32} (h : (rowF w c)[k]? = some v) : k < w ∧ c k = v := by
  unfold rowF at h
  rw [List.getElem?_map] at h
  by_cases z : k < w
  · rw [List.getElem?_range z] at h
    exact ⟨z, Option.some.inj h⟩
  · rw [List.getElem?_eq_none (by rw [List.length_range]; omega)] at h; cases h
/-- a fact as a raw answer -/
def facA (w i : Nat) (f : Fct) : Ans := (rowF w f.2.1, [bit1 i], f.2.2.1 0, (f.2.2.1 1).toInt32, f.2.2.1 2)
def basR (fs : List Fct) (t : Int32) (w n : Nat) : List Ans := (List.range n).filterMap (fun i => match fs[i]? with
  | none => none
  | some f => if f.1 = t then some (facA w i f) else none)
theorem basR_s {fs : List Fct} {t : Int32} {w n : Nat} {f : Fct} (hf : fs[n]? = some f) : basR fs t w (n + 1) = basR fs t w n ++ (if f.1 = t then [facA w n f] else []) := by
  unfold basR
  rw [List.range_succ, List.filterMap_append]
  congr 1
  rw [List.filterMap_cons, hf]
  by_cases c : f.1 = t
  · simp [c]
  · simp [c]
theorem basR_len (fs : List Fct) (t : Int32) (w n : Nat) : (basR fs t w n).length ≤ n := by
  unfold basR
  have := List.length_filterMap_le (fun i => match fs[i]? with
    | none => none
    | some f => if f.1 = t then some (facA w i f) else none) (List.range n)
  rw [List.length_range] at this
  exact this
theorem Slf.gr (h : Sh ad ct σ) {s j : Nat} (hs : s < 43) (v : Int32) : Slf ad σ (uFi σ 193 (ad 4 s 0) v) s j := fun j' h1 _ => by
  have m4 : ad 3 s j' ≠ ad 4 s 0 := fun z => by
    have a := c3 h hs h1
    rw [z, c4 h hs] at a
    cases a
  exact ⟨fun g => by rw [yFi_uFi, yu2, if_neg (fun z => m4 z.2)], fun g => by rw [yFj_uFi], fun i => by rw [yAi_uFi], fun i => by rw [yAj_uFi]⟩
theorem C_wt (h : Sh ad ct σ) {i k : Nat} (hi : i < 60) (hk : k < 4) {v : Int64} (e : zAj σ (ad 388 0 0) (4 * i + k) = v) {Q : Int64 → St → Prop} (hQ : Q v σ) : wX6_weight (ad 7 0 0) (nI i) (nI k) σ Q := by
  have e4 : nI i * 4 + nI k = nI (4 * i + k) := by rw [show (4 : Int32) = nI 4 from rfl, pk_mul, nI_add, Nat.mul_comm]
  refine ⟨k7 h, _, p388 h, k388 h, ?_, ?_⟩
  · rw [e4, l388 h]; exact vp_in_nI (by omega) (by decide)
  · rw [e4, show ix (nI (4 * i + k)) = 4 * i + k from nI_clamp (by omega), e]; exact hQ
theorem C_ce (h : Sh ad ct σ) {i k : Nat} (hi : i < 60) (hk : k < 4) {v : Int32} (e : zAi σ (ad 387 0 0) (4 * i + k) = v) {Q : Int32 → St → Prop} (hQ : Q v σ) : wX6_cell (ad 7 0 0) (nI i) (nI k) σ Q := by
  have e4 : nI i * 4 + nI k = nI (4 * i + k) := by rw [show (4 : Int32) = nI 4 from rfl, pk_mul, nI_add, Nat.mul_comm]
  refine ⟨k7 h, _, p387 h, k387 h, ?_, ?_⟩
  · rw [e4, l387 h]; exact vp_in_nI (by omega) (by decide)
  · rw [e4, show ix (nI (4 * i + k)) = 4 * i + k from nI_clamp (by omega), e]; exact hQ
theorem C_takeFact (h : Sh ad ct σ) {s j w i : Nat} (cl : Bool) (hs : s < 43) (hj : j < room s) (hw4 : w ≤ 4) (hi : i < 60) {f : Fct} (hc : ∀ k, k < 4 → zAi σ (ad 387 0 0) (4 * i + k) = f.2.1 k) (hv : ∀ k, k < 4 → zAj σ (ad 388 0 0) (4 * i + k) = f.2.2.1 k) {Q : St → Prop} (hQ : ∀ σ', Fr ct (SN s) σ σ' → (∀ x k, zAr σ' x k = zAr σ x k) → (∀ g, zFi σ' g (ad 4 s 0) = zFi σ g (ad 4 s 0)) → Slf ad σ σ' s j → AnsAt ad σ' s j w cl (facA w i f) → Q σ') : wX2_takeFact (ad 3 s j) (ad 7 0 0) (nI i) σ Q := by
  have m43 : ad 4 s 0 ≠ ad 3 s j := fun z => by
    have a := c3 h hs hj
    rw [← z, c4 h hs] at a
    cases a
  have key : ∀ (d k : Nat) (σ3 : St), k + d = 4 → Fr ct (SN s) σ σ3 → (∀ x k, zAr σ3 x k = zAr σ x k) → (∀ g, zFi σ3 g (ad 4 s 0) = zFi σ g (ad 4 s 0)) → Slf ad σ σ3 s j → (∀ m, m < k → zAi σ3 (ad 128 s j) m = f.2.1 m) → lX2_takeFact_2 Q (d + 1) (ad 3 s j) (ad 7 0 0) (nI i) (nI k) σ3 := by
    intro d
    induction d with
    | zero =>
      intro k σ3 hk F a1 a2 a3 a4
      have hk : k = 4 := by omega
      subst hk
      have h3 := h.frC (F.mono (SN_SC s))
      have z3 : SN s (ct (ad 3 s j)) ∨ zK σ (ad 3 s j) = 0 := Or.inl (by rw [c3 h hs hj]; exact Or.inr (Or.inl rfl))
      have z9 : SN s (ct (ad 129 s j)) ∨ zK σ (ad 129 s j) = 0 := Or.inl (by rw [c129 h hs hj]; exact Or.inr (Or.inr (Or.inr rfl)))
      have rd : ∀ {τ : St}, Fr ct (SN s) σ τ → ∀ k, k < 4 → zAj τ (ad 388 0 0) (4 * i + k) = f.2.2.1 k := fun F k hk => (F.aj (k388 h) (by decide) (c388 h) (by simp) _).trans (hv k hk)
      refine ⟨fun _ => ⟨k3 h3 hs hj, _, p129 h3 hs hj, k129 h3 hs hj, by rw [l129 h3 hs hj]; exact vp_in_nI (n := 0) (by decide) (by decide), k7 h3, ?_⟩, fun z => absurd (by decide) z⟩
      rw [show ix 0 = 0 from rfl]
      have Fa := (F.uAj (ad 129 s j) 0 ((1 : Int64) <<< (Int32.toInt64 (nI i) &&& 63)) z9).uFi 130 (ad 3 s j) 1 z3
      have ha := h.frC (Fa.mono (SN_SC s))
      refine C_wt (k := 0) ha hi (by decide) (rd Fa 0 (by decide)) ⟨k3 ha hs hj, k7 ha, ?_⟩
      have Fb := Fa.uFj 131 (ad 3 s j) (f.2.2.1 0) z3
      have hb := h.frC (Fb.mono (SN_SC s))
      refine C_wt (k := 1) hb hi (by decide) (rd Fb 1 (by decide)) ⟨k3 hb hs hj, k7 hb, ?_⟩
      have Fc := Fb.uFi 132 (ad 3 s j) (Int64.toInt32 (f.2.2.1 1)) z3
      have hcc := h.frC (Fc.mono (SN_SC s))
      refine C_wt (k := 2) hcc hi (by decide) (rd Fc 2 (by decide)) ⟨k3 hcc hs hj, ?_⟩
      refine hQ _ (Fc.uFj _ _ _ z3) (fun x k => ?_) (fun g => ?_) (a3.tr (fun j' h1 h2 => ?_)) ⟨rowF_len _ _, fun k v hv => ?_, (show 1 ≤ 16 by decide), ?_, fun k v hv => ?_, fun _ => ?_, ?_, ?_⟩
      · simp only [yK_uFi, yL_uFi, yFj_uFi, yFr_uFi, yAi_uFi, yAj_uFi, yAd_uFi, yAr_uFi, yFi_uFi, yK_uFj, yL_uFj, yFi_uFj, yFr_uFj, yAi_uFj, yAj_uFj, yAd_uFj, yAr_uFj, yFj_uFj, yK_uFr, yL_uFr, yFi_uFr, yFj_uFr, yAi_uFr, yAj_uFr, yAd_uFr, yAr_uFr, yFr_uFr, yK_uAi, yL_uAi, yFi_uAi, yFj_uAi, yFr_uAi, yAj_uAi, yAd_uAi, yAr_uAi, yAi_uAi, yK_uAj, yL_uAj, yFi_uAj, yFj_uAj, yFr_uAj, yAi_uAj, yAd_uAj, yAr_uAj, yAj_uAj, yK_uAd, yL_uAd, yFi_uAd, yFj_uAd, yFr_uAd, yAi_uAd, yAj_uAd, yAr_uAd, yAd_uAd, yK_uAr, yL_uAr, yFi_uAr, yFj_uAr, yFr_uAr, yAi_uAr, yAj_uAr, yAd_uAr, yAr_uAr, yK_uCi, yL_uCi, yFi_uCi, yFj_uCi, yFr_uCi, yAj_uCi, yAd_uCi, yAr_uCi, yK_uCj, yL_uCj, yFi_uCj, yFj_uCj, yFr_uCj, yAi_uCj, yAd_uCj, yAr_uCj, yK_uCx, yL_uCx, yFi_uCx, yFj_uCx, yFr_uCx, yAi_uCx, yAd_uCx, yAr_uCx, yK_nO, yL_nO, yFi_nO, yFj_nO, yFr_nO, yAi_nO, yAj_nO, yAd_nO, yAr_nO, yK_nA, yL_nA, yFi_nA, yFj_nA, yFr_nA, yAi_nA, yAj_nA, yAd_nA, yAr_nA, yK_nC, yL_nC, yFi_nC, yFj_nC, yFr_nC, yAi_nC, yAj_nC, yAd_nC, yAr_nC, yu2, yAi_uCi', yAj_uCj', yAj_uCx', Option.some.injEq, exists_eq_left', true_and, and_true, not_false_eq_true, forall_const, false_and, and_false, reduceIte, Nat.reduceEqDiff, ne_eq]; exact a1 x k
      · simp only [yK_uFi, yL_uFi, yFj_uFi, yFr_uFi, yAi_uFi, yAj_uFi, yAd_uFi, yAr_uFi, yFi_uFi, yK_uFj, yL_uFj, yFi_uFj, yFr_uFj, yAi_uFj, yAj_uFj, yAd_uFj, yAr_uFj, yFj_uFj, yK_uFr, yL_uFr, yFi_uFr, yFj_uFr, yAi_uFr, yAj_uFr, yAd_uFr, yAr_uFr, yFr_uFr, yK_uAi, yL_uAi, yFi_uAi, yFj_uAi, yFr_uAi, yAj_uAi, yAd_uAi, yAr_uAi, yAi_uAi, yK_uAj, yL_uAj, yFi_uAj, yFj_uAj, yFr_uAj, yAi_uAj, yAd_uAj, yAr_uAj, yAj_uAj, yK_uAd, yL_uAd, yFi_uAd, yFj_uAd, yFr_uAd, yAi_uAd, yAj_uAd, yAr_uAd, yAd_uAd, yK_uAr, yL_uAr, yFi_uAr, yFj_uAr, yFr_uAr, yAi_uAr, yAj_uAr, yAd_uAr, yAr_uAr, yK_uCi, yL_uCi, yFi_uCi, yFj_uCi, yFr_uCi, yAj_uCi, yAd_uCi, yAr_uCi, yK_uCj, yL_uCj, yFi_uCj, yFj_uCj, yFr_uCj, yAi_uCj, yAd_uCj, yAr_uCj, yK_uCx, yL_uCx, yFi_uCx, yFj_uCx, yFr_uCx, yAi_uCx, yAd_uCx, yAr_uCx, yK_nO, yL_nO, yFi_nO, yFj_nO, yFr_nO, yAi_nO, yAj_nO, yAd_nO, yAr_nO, yK_nA, yL_nA, yFi_nA, yFj_nA, yFr_nA, yAi_nA, yAj_nA, yAd_nA, yAr_nA, yK_nC, yL_nC, yFi_nC, yFj_nC, yFr_nC, yAi_nC, yAj_nC, yAd_nC, yAr_nC, yu2, yAi_uCi', yAj_uCj', yAj_uCx', Option.some.injEq, exists_eq_left', true_and, and_true, not_false_eq_true, forall_const, false_and, and_false, reduceIte, Nat.reduceEqDiff, ne_eq, m43]; exact a2 g
      · have m3 : ad 3 s j' ≠ ad 3 s j := fun z => h2 (j3 h hs h1 hj z)
        have m129 : ad 129 s j' ≠ ad 129 s j := fun z => h2 (j129 h hs h1 hj z)
        refine ⟨fun g => ?_, fun g => ?_, fun i => ?_, fun i => ?_⟩
        · simp only [yK_uFi, yL_uFi, yFj_uFi, yFr_uFi, yAi_uFi, yAj_uFi, yAd_uFi, yAr_uFi, yFi_uFi, yK_uFj, yL_uFj, yFi_uFj, yFr_uFj, yAi_uFj, yAj_uFj, yAd_uFj, yAr_uFj, yFj_uFj, yK_uFr, yL_uFr, yFi_uFr, yFj_uFr, yAi_uFr, yAj_uFr, yAd_uFr, yAr_uFr, yFr_uFr, yK_uAi, yL_uAi, yFi_uAi, yFj_uAi, yFr_uAi, yAj_uAi, yAd_uAi, yAr_uAi, yAi_uAi, yK_uAj, yL_uAj, yFi_uAj, yFj_uAj, yFr_uAj, yAi_uAj, yAd_uAj, yAr_uAj, yAj_uAj, yK_uAd, yL_uAd, yFi_uAd, yFj_uAd, yFr_uAd, yAi_uAd, yAj_uAd, yAr_uAd, yAd_uAd, yK_uAr, yL_uAr, yFi_uAr, yFj_uAr, yFr_uAr, yAi_uAr, yAj_uAr, yAd_uAr, yAr_uAr, yK_uCi, yL_uCi, yFi_uCi, yFj_uCi, yFr_uCi, yAj_uCi, yAd_uCi, yAr_uCi, yK_uCj, yL_uCj, yFi_uCj, yFj_uCj, yFr_uCj, yAi_uCj, yAd_uCj, yAr_uCj, yK_uCx, yL_uCx, yFi_uCx, yFj_uCx, yFr_uCx, yAi_uCx, yAd_uCx, yAr_uCx, yK_nO, yL_nO, yFi_nO, yFj_nO, yFr_nO, yAi_nO, yAj_nO, yAd_nO, yAr_nO, yK_nA, yL_nA, yFi_nA, yFj_nA, yFr_nA, yAi_nA, yAj_nA, yAd_nA, yAr_nA, yK_nC, yL_nC, yFi_nC, yFj_nC, yFr_nC, yAi_nC, yAj_nC, yAd_nC, yAr_nC, yu2, yAi_uCi', yAj_uCj', yAj_uCx', Option.some.injEq, exists_eq_left', true_and, and_true, not_false_eq_true, forall_const, false_and, and_false, reduceIte, Nat.reduceEqDiff, ne_eq, m3]
        · simp only [yK_uFi, yL_uFi, yFj_uFi, yFr_uFi, yAi_uFi, yAj_uFi, yAd_uFi, yAr_uFi, yFi_uFi, yK_uFj, yL_uFj, yFi_uFj, yFr_uFj, yAi_uFj, yAj_uFj, yAd_uFj, yAr_uFj, yFj_uFj, yK_uFr, yL_uFr, yFi_uFr, yFj_uFr, yAi_uFr, yAj_uFr, yAd_uFr, yAr_uFr, yFr_uFr, yK_uAi, yL_uAi, yFi_uAi, yFj_uAi, yFr_uAi, yAj_uAi, yAd_uAi, yAr_uAi, yAi_uAi, yK_uAj, yL_uAj, yFi_uAj, yFj_uAj, yFr_uAj, yAi_uAj, yAd_uAj, yAr_uAj, yAj_uAj, yK_uAd, yL_uAd, yFi_uAd, yFj_uAd, yFr_uAd, yAi_uAd, yAj_uAd, yAr_uAd, yAd_uAd, yK_uAr, yL_uAr, yFi_uAr, yFj_uAr, yFr_uAr, yAi_uAr, yAj_uAr, yAd_uAr, yAr_uAr, yK_uCi, yL_uCi, yFi_uCi, yFj_uCi, yFr_uCi, yAj_uCi, yAd_uCi, yAr_uCi, yK_uCj, yL_uCj, yFi_uCj, yFj_uCj, yFr_uCj, yAi_uCj, yAd_uCj, yAr_uCj, yK_uCx, yL_uCx, yFi_uCx, yFj_uCx, yFr_uCx, yAi_uCx, yAd_uCx, yAr_uCx, yK_nO, yL_nO, yFi_nO, yFj_nO, yFr_nO, yAi_nO, yAj_nO, yAd_nO, yAr_nO, yK_nA, yL_nA, yFi_nA, yFj_nA, yFr_nA, yAi_nA, yAj_nA, yAd_nA, yAr_nA, yK_nC, yL_nC, yFi_nC, yFj_nC, yFr_nC, yAi_nC, yAj_nC, yAd_nC, yAr_nC, yu2, yAi_uCi', yAj_uCj', yAj_uCx', Option.some.injEq, exists_eq_left', true_and, and_true, not_false_eq_true, forall_const, false_and, and_false, reduceIte, Nat.reduceEqDiff, ne_eq, m3]
        · simp only [yK_uFi, yL_uFi, yFj_uFi, yFr_uFi, yAi_uFi, yAj_uFi, yAd_uFi, yAr_uFi, yFi_uFi, yK_uFj, yL_uFj, yFi_uFj, yFr_uFj, yAi_uFj, yAj_uFj, yAd_uFj, yAr_uFj, yFj_uFj, yK_uFr, yL_uFr, yFi_uFr, yFj_uFr, yAi_uFr, yAj_uFr, yAd_uFr, yAr_uFr, yFr_uFr, yK_uAi, yL_uAi, yFi_uAi, yFj_uAi, yFr_uAi, yAj_uAi, yAd_uAi, yAr_uAi, yAi_uAi, yK_uAj, yL_uAj, yFi_uAj, yFj_uAj, yFr_uAj, yAi_uAj, yAd_uAj, yAr_uAj, yAj_uAj, yK_uAd, yL_uAd, yFi_uAd, yFj_uAd, yFr_uAd, yAi_uAd, yAj_uAd, yAr_uAd, yAd_uAd, yK_uAr, yL_uAr, yFi_uAr, yFj_uAr, yFr_uAr, yAi_uAr, yAj_uAr, yAd_uAr, yAr_uAr, yK_uCi, yL_uCi, yFi_uCi, yFj_uCi, yFr_uCi, yAj_uCi, yAd_uCi, yAr_uCi, yK_uCj, yL_uCj, yFi_uCj, yFj_uCj, yFr_uCj, yAi_uCj, yAd_uCj, yAr_uCj, yK_uCx, yL_uCx, yFi_uCx, yFj_uCx, yFr_uCx, yAi_uCx, yAd_uCx, yAr_uCx, yK_nO, yL_nO, yFi_nO, yFj_nO, yFr_nO, yAi_nO, yAj_nO, yAd_nO, yAr_nO, yK_nA, yL_nA, yFi_nA, yFj_nA, yFr_nA, yAi_nA, yAj_nA, yAd_nA, yAr_nA, yK_nC, yL_nC, yFi_nC, yFj_nC, yFr_nC, yAi_nC, yAj_nC, yAd_nC, yAr_nC, yu2, yAi_uCi', yAj_uCj', yAj_uCx', Option.some.injEq, exists_eq_left', true_and, and_true, not_false_eq_true, forall_const, false_and, and_false, reduceIte, Nat.reduceEqDiff, ne_eq]
        · simp only [yK_uFi, yL_uFi, yFj_uFi, yFr_uFi, yAi_uFi, yAj_uFi, yAd_uFi, yAr_uFi, yFi_uFi, yK_uFj, yL_uFj, yFi_uFj, yFr_uFj, yAi_uFj, yAj_uFj, yAd_uFj, yAr_uFj, yFj_uFj, yK_uFr, yL_uFr, yFi_uFr, yFj_uFr, yAi_uFr, yAj_uFr, yAd_uFr, yAr_uFr, yFr_uFr, yK_uAi, yL_uAi, yFi_uAi, yFj_uAi, yFr_uAi, yAj_uAi, yAd_uAi, yAr_uAi, yAi_uAi, yK_uAj, yL_uAj, yFi_uAj, yFj_uAj, yFr_uAj, yAi_uAj, yAd_uAj, yAr_uAj, yAj_uAj, yK_uAd, yL_uAd, yFi_uAd, yFj_uAd, yFr_uAd, yAi_uAd, yAj_uAd, yAr_uAd, yAd_uAd, yK_uAr, yL_uAr, yFi_uAr, yFj_uAr, yFr_uAr, yAi_uAr, yAj_uAr, yAd_uAr, yAr_uAr, yK_uCi, yL_uCi, yFi_uCi, yFj_uCi, yFr_uCi, yAj_uCi, yAd_uCi, yAr_uCi, yK_uCj, yL_uCj, yFi_uCj, yFj_uCj, yFr_uCj, yAi_uCj, yAd_uCj, yAr_uCj, yK_uCx, yL_uCx, yFi_uCx, yFj_uCx, yFr_uCx, yAi_uCx, yAd_uCx, yAr_uCx, yK_nO, yL_nO, yFi_nO, yFj_nO, yFr_nO, yAi_nO, yAj_nO, yAd_nO, yAr_nO, yK_nA, yL_nA, yFi_nA, yFj_nA, yFr_nA, yAi_nA, yAj_nA, yAd_nA, yAr_nA, yK_nC, yL_nC, yFi_nC, yFj_nC, yFr_nC, yAi_nC, yAj_nC, yAd_nC, yAr_nC, yu2, yAi_uCi', yAj_uCj', yAj_uCx', Option.some.injEq, exists_eq_left', true_and, and_true, not_false_eq_true, forall_const, false_and, and_false, reduceIte, Nat.reduceEqDiff, ne_eq, m129]
      · obtain ⟨b1, b2⟩ := rowF_get hv
        simp only [yK_uFi, yL_uFi, yFj_uFi, yFr_uFi, yAi_uFi, yAj_uFi, yAd_uFi, yAr_uFi, yFi_uFi, yK_uFj, yL_uFj, yFi_uFj, yFr_uFj, yAi_uFj, yAj_uFj, yAd_uFj, yAr_uFj, yFj_uFj, yK_uFr, yL_uFr, yFi_uFr, yFj_uFr, yAi_uFr, yAj_uFr, yAd_uFr, yAr_uFr, yFr_uFr, yK_uAi, yL_uAi, yFi_uAi, yFj_uAi, yFr_uAi, yAj_uAi, yAd_uAi, yAr_uAi, yAi_uAi, yK_uAj, yL_uAj, yFi_uAj, yFj_uAj, yFr_uAj, yAi_uAj, yAd_uAj, yAr_uAj, yAj_uAj, yK_uAd, yL_uAd, yFi_uAd, yFj_uAd, yFr_uAd, yAi_uAd, yAj_uAd, yAr_uAd, yAd_uAd, yK_uAr, yL_uAr, yFi_uAr, yFj_uAr, yFr_uAr, yAi_uAr, yAj_uAr, yAd_uAr, yAr_uAr, yK_uCi, yL_uCi, yFi_uCi, yFj_uCi, yFr_uCi, yAj_uCi, yAd_uCi, yAr_uCi, yK_uCj, yL_uCj, yFi_uCj, yFj_uCj, yFr_uCj, yAi_uCj, yAd_uCj, yAr_uCj, yK_uCx, yL_uCx, yFi_uCx, yFj_uCx, yFr_uCx, yAi_uCx, yAd_uCx, yAr_uCx, yK_nO, yL_nO, yFi_nO, yFj_nO, yFr_nO, yAi_nO, yAj_nO, yAd_nO, yAr_nO, yK_nA, yL_nA, yFi_nA, yFj_nA, yFr_nA, yAi_nA, yAj_nA, yAd_nA, yAr_nA, yK_nC, yL_nC, yFi_nC, yFj_nC, yFr_nC, yAi_nC, yAj_nC, yAd_nC, yAr_nC, yu2, yAi_uCi', yAj_uCj', yAj_uCx', Option.some.injEq, exists_eq_left', true_and, and_true, not_false_eq_true, forall_const, false_and, and_false, reduceIte, Nat.reduceEqDiff, ne_eq]
        rw [← b2]; exact a4 k (by omega)
      · simp only [yK_uFi, yL_uFi, yFj_uFi, yFr_uFi, yAi_uFi, yAj_uFi, yAd_uFi, yAr_uFi, yFi_uFi, yK_uFj, yL_uFj, yFi_uFj, yFr_uFj, yAi_uFj, yAj_uFj, yAd_uFj, yAr_uFj, yFj_uFj, yK_uFr, yL_uFr, yFi_uFr, yFj_uFr, yAi_uFr, yAj_uFr, yAd_uFr, yAr_uFr, yFr_uFr, yK_uAi, yL_uAi, yFi_uAi, yFj_uAi, yFr_uAi, yAj_uAi, yAd_uAi, yAr_uAi, yAi_uAi, yK_uAj, yL_uAj, yFi_uAj, yFj_uAj, yFr_uAj, yAi_uAj, yAd_uAj, yAr_uAj, yAj_uAj, yK_uAd, yL_uAd, yFi_uAd, yFj_uAd, yFr_uAd, yAi_uAd, yAj_uAd, yAr_uAd, yAd_uAd, yK_uAr, yL_uAr, yFi_uAr, yFj_uAr, yFr_uAr, yAi_uAr, yAj_uAr, yAd_uAr, yAr_uAr, yK_uCi, yL_uCi, yFi_uCi, yFj_uCi, yFr_uCi, yAj_uCi, yAd_uCi, yAr_uCi, yK_uCj, yL_uCj, yFi_uCj, yFj_uCj, yFr_uCj, yAi_uCj, yAd_uCj, yAr_uCj, yK_uCx, yL_uCx, yFi_uCx, yFj_uCx, yFr_uCx, yAi_uCx, yAd_uCx, yAr_uCx, yK_nO, yL_nO, yFi_nO, yFj_nO, yFr_nO, yAi_nO, yAj_nO, yAd_nO, yAr_nO, yK_nA, yL_nA, yFi_nA, yFj_nA, yFr_nA, yAi_nA, yAj_nA, yAd_nA, yAr_nA, yK_nC, yL_nC, yFi_nC, yFj_nC, yFr_nC, yAi_nC, yAj_nC, yAd_nC, yAr_nC, yu2, yAi_uCi', yAj_uCj', yAj_uCx', Option.some.injEq, exists_eq_left', true_and, and_true, not_false_eq_true, forall_const, false_and, and_false, reduceIte, Nat.reduceEqDiff, ne_eq]; rfl
      · have hk := (List.getElem?_eq_some_iff.mp hv).1
        have hk : k < 1 := hk
        have hk : k = 0 := by omega
        subst hk
        have hv : some (bit1 i) = some v := hv
        cases hv
        simp only [yK_uFi, yL_uFi, yFj_uFi, yFr_uFi, yAi_uFi, yAj_uFi, yAd_uFi, yAr_uFi, yFi_uFi, yK_uFj, yL_uFj, yFi_uFj, yFr_uFj, yAi_uFj, yAj_uFj, yAd_uFj, yAr_uFj, yFj_uFj, yK_uFr, yL_uFr, yFi_uFr, yFj_uFr, yAi_uFr, yAj_uFr, yAd_uFr, yAr_uFr, yFr_uFr, yK_uAi, yL_uAi, yFi_uAi, yFj_uAi, yFr_uAi, yAj_uAi, yAd_uAi, yAr_uAi, yAi_uAi, yK_uAj, yL_uAj, yFi_uAj, yFj_uAj, yFr_uAj, yAi_uAj, yAd_uAj, yAr_uAj, yAj_uAj, yK_uAd, yL_uAd, yFi_uAd, yFj_uAd, yFr_uAd, yAi_uAd, yAj_uAd, yAr_uAd, yAd_uAd, yK_uAr, yL_uAr, yFi_uAr, yFj_uAr, yFr_uAr, yAi_uAr, yAj_uAr, yAd_uAr, yAr_uAr, yK_uCi, yL_uCi, yFi_uCi, yFj_uCi, yFr_uCi, yAj_uCi, yAd_uCi, yAr_uCi, yK_uCj, yL_uCj, yFi_uCj, yFj_uCj, yFr_uCj, yAi_uCj, yAd_uCj, yAr_uCj, yK_uCx, yL_uCx, yFi_uCx, yFj_uCx, yFr_uCx, yAi_uCx, yAd_uCx, yAr_uCx, yK_nO, yL_nO, yFi_nO, yFj_nO, yFr_nO, yAi_nO, yAj_nO, yAd_nO, yAr_nO, yK_nA, yL_nA, yFi_nA, yFj_nA, yFr_nA, yAi_nA, yAj_nA, yAd_nA, yAr_nA, yK_nC, yL_nC, yFi_nC, yFj_nC, yFr_nC, yAi_nC, yAj_nC, yAd_nC, yAr_nC, yu2, yAi_uCi', yAj_uCj', yAj_uCx', Option.some.injEq, exists_eq_left', true_and, and_true, not_false_eq_true, forall_const, false_and, and_false, reduceIte, Nat.reduceEqDiff, ne_eq]; rfl
      · simp only [yK_uFi, yL_uFi, yFj_uFi, yFr_uFi, yAi_uFi, yAj_uFi, yAd_uFi, yAr_uFi, yFi_uFi, yK_uFj, yL_uFj, yFi_uFj, yFr_uFj, yAi_uFj, yAj_uFj, yAd_uFj, yAr_uFj, yFj_uFj, yK_uFr, yL_uFr, yFi_uFr, yFj_uFr, yAi_uFr, yAj_uFr, yAd_uFr, yAr_uFr, yFr_uFr, yK_uAi, yL_uAi, yFi_uAi, yFj_uAi, yFr_uAi, yAj_uAi, yAd_uAi, yAr_uAi, yAi_uAi, yK_uAj, yL_uAj, yFi_uAj, yFj_uAj, yFr_uAj, yAi_uAj, yAd_uAj, yAr_uAj, yAj_uAj, yK_uAd, yL_uAd, yFi_uAd, yFj_uAd, yFr_uAd, yAi_uAd, yAj_uAd, yAr_uAd, yAd_uAd, yK_uAr, yL_uAr, yFi_uAr, yFj_uAr, yFr_uAr, yAi_uAr, yAj_uAr, yAd_uAr, yAr_uAr, yK_uCi, yL_uCi, yFi_uCi, yFj_uCi, yFr_uCi, yAj_uCi, yAd_uCi, yAr_uCi, yK_uCj, yL_uCj, yFi_uCj, yFj_uCj, yFr_uCj, yAi_uCj, yAd_uCj, yAr_uCj, yK_uCx, yL_uCx, yFi_uCx, yFj_uCx, yFr_uCx, yAi_uCx, yAd_uCx, yAr_uCx, yK_nO, yL_nO, yFi_nO, yFj_nO, yFr_nO, yAi_nO, yAj_nO, yAd_nO, yAr_nO, yK_nA, yL_nA, yFi_nA, yFj_nA, yFr_nA, yAi_nA, yAj_nA, yAd_nA, yAr_nA, yK_nC, yL_nC, yFi_nC, yFj_nC, yFr_nC, yAi_nC, yAj_nC, yAd_nC, yAr_nC, yu2, yAi_uCi', yAj_uCj', yAj_uCx', Option.some.injEq, exists_eq_left', true_and, and_true, not_false_eq_true, forall_const, false_and, and_false, reduceIte, Nat.reduceEqDiff, ne_eq]; rfl
      · simp only [yK_uFi, yL_uFi, yFj_uFi, yFr_uFi, yAi_uFi, yAj_uFi, yAd_uFi, yAr_uFi, yFi_uFi, yK_uFj, yL_uFj, yFi_uFj, yFr_uFj, yAi_uFj, yAj_uFj, yAd_uFj, yAr_uFj, yFj_uFj, yK_uFr, yL_uFr, yFi_uFr, yFj_uFr, yAi_uFr, yAj_uFr, yAd_uFr, yAr_uFr, yFr_uFr, yK_uAi, yL_uAi, yFi_uAi, yFj_uAi, yFr_uAi, yAj_uAi, yAd_uAi, yAr_uAi, yAi_uAi, yK_uAj, yL_uAj, yFi_uAj, yFj_uAj, yFr_uAj, yAi_uAj, yAd_uAj, yAr_uAj, yAj_uAj, yK_uAd, yL_uAd, yFi_uAd, yFj_uAd, yFr_uAd, yAi_uAd, yAj_uAd, yAr_uAd, yAd_uAd, yK_uAr, yL_uAr, yFi_uAr, yFj_uAr, yFr_uAr, yAi_uAr, yAj_uAr, yAd_uAr, yAr_uAr, yK_uCi, yL_uCi, yFi_uCi, yFj_uCi, yFr_uCi, yAj_uCi, yAd_uCi, yAr_uCi, yK_uCj, yL_uCj, yFi_uCj, yFj_uCj, yFr_uCj, yAi_uCj, yAd_uCj, yAr_uCj, yK_uCx, yL_uCx, yFi_uCx, yFj_uCx, yFr_uCx, yAi_uCx, yAd_uCx, yAr_uCx, yK_nO, yL_nO, yFi_nO, yFj_nO, yFr_nO, yAi_nO, yAj_nO, yAd_nO, yAr_nO, yK_nA, yL_nA, yFi_nA, yFj_nA, yFr_nA, yAi_nA, yAj_nA, yAd_nA, yAr_nA, yK_nC, yL_nC, yFi_nC, yFj_nC, yFr_nC, yAi_nC, yAj_nC, yAd_nC, yAr_nC, yu2, yAi_uCi', yAj_uCj', yAj_uCx', Option.some.injEq, exists_eq_left', true_and, and_true, not_false_eq_true, forall_const, false_and, and_false, reduceIte, Nat.reduceEqDiff, ne_eq]; rfl
      · simp only [yK_uFi, yL_uFi, yFj_uFi, yFr_uFi, yAi_uFi, yAj_uFi, yAd_uFi, yAr_uFi, yFi_uFi, yK_uFj, yL_uFj, yFi_uFj, yFr_uFj, yAi_uFj, yAj_uFj, yAd_uFj, yAr_uFj, yFj_uFj, yK_uFr, yL_uFr, yFi_uFr, yFj_uFr, yAi_uFr, yAj_uFr, yAd_uFr, yAr_uFr, yFr_uFr, yK_uAi, yL_uAi, yFi_uAi, yFj_uAi, yFr_uAi, yAj_uAi, yAd_uAi, yAr_uAi, yAi_uAi, yK_uAj, yL_uAj, yFi_uAj, yFj_uAj, yFr_uAj, yAi_uAj, yAd_uAj, yAr_uAj, yAj_uAj, yK_uAd, yL_uAd, yFi_uAd, yFj_uAd, yFr_uAd, yAi_uAd, yAj_uAd, yAr_uAd, yAd_uAd, yK_uAr, yL_uAr, yFi_uAr, yFj_uAr, yFr_uAr, yAi_uAr, yAj_uAr, yAd_uAr, yAr_uAr, yK_uCi, yL_uCi, yFi_uCi, yFj_uCi, yFr_uCi, yAj_uCi, yAd_uCi, yAr_uCi, yK_uCj, yL_uCj, yFi_uCj, yFj_uCj, yFr_uCj, yAi_uCj, yAd_uCj, yAr_uCj, yK_uCx, yL_uCx, yFi_uCx, yFj_uCx, yFr_uCx, yAi_uCx, yAd_uCx, yAr_uCx, yK_nO, yL_nO, yFi_nO, yFj_nO, yFr_nO, yAi_nO, yAj_nO, yAd_nO, yAr_nO, yK_nA, yL_nA, yFi_nA, yFj_nA, yFr_nA, yAi_nA, yAj_nA, yAd_nA, yAr_nA, yK_nC, yL_nC, yFi_nC, yFj_nC, yFr_nC, yAi_nC, yAj_nC, yAd_nC, yAr_nC, yu2, yAi_uCi', yAj_uCj', yAj_uCx', Option.some.injEq, exists_eq_left', true_and, and_true, not_false_eq_true, forall_const, false_and, and_false, reduceIte, Nat.reduceEqDiff, ne_eq]; rfl
    | succ d ih =>
      intro k σ3 hk F a1 a2 a3 a4
      have h3 := h.frC (F.mono (SN_SC s))
      refine ⟨fun z => absurd z (nI_ge (b := 4) (by omega) (by decide)), fun _ => ⟨k3 h3 hs hj, _, p128 h3 hs hj, k7 h3, ?_⟩⟩
      refine C_ce h3 hi (by omega) ((F.ai (k387 h) (by decide) (c387 h) (by simp) _).trans (hc k (by omega))) ⟨k128 h3 hs hj, by rw [l128 h3 hs hj]; exact vp_in_nI (by omega) (by decide), ?_⟩
      rw [show ix (nI k) = k from nI_clamp (by omega), nI_1]
      refine ih (k + 1) _ (by omega) (F.uAi _ _ _ (Or.inl (by rw [c128 h hs hj]; exact Or.inr (Or.inr (Or.inl rfl))))) (fun x m => by rw [yAr_uAi]; exact a1 x m) (fun g => by rw [yFi_uAi]; exact a2 g) (a3.tr (fun j' h1 h2 => ?_)) (fun m hm => ?_)
      · have m128 : ad 128 s j' ≠ ad 128 s j := fun z => h2 (j128 h hs h1 hj z)
        exact ⟨fun g => by rw [yFi_uAi], fun g => by rw [yFj_uAi], fun i => by rw [yAi_uAi, yu2, if_neg (fun z => m128 z.1)], fun i => by rw [yAj_uAi]⟩
      · rw [yAi_uAi, yu2]
        by_cases c : m = k
        · rw [if_pos ⟨rfl, c⟩, c]
        · rw [if_neg (fun z => c z.2)]; exact a4 m (by omega)
  exact ⟨_, key 4 0 σ (by decide) Fr.rf (fun _ _ => rfl) (fun _ => rfl) Slf.rf (fun m hm => absurd hm (Nat.not_lt_zero _))⟩
theorem Cfs.o (h : Sh ad ct σ) {S : Nat × Nat → Prop} {σ' : St} (f : Fr ct S σ σ') (hS : ∀ p, S p → ∃ k, SWo k p) {fs : List Fct} (q : Cfs ad σ fs) : Cfs ad σ' fs := by
  have n : ∀ c i, (c = 386 ∨ c = 387 ∨ c = 388 ∨ c = 7) → ¬ S (c, i) := fun c i hc z => by
    obtain ⟨k, z⟩ := hS _ z
    simp only [SWo, SNr, Prod.mk.injEq] at z
    omega
  exact q.cg h f (n _ _ (by decide)) (n _ _ (by decide)) (n _ _ (by decide)) (f.fi (k7 h) (by decide) (c7 h) (n _ _ (by decide)) _) (f.fj (k7 h) (by decide) (c7 h) (n _ _ (by decide)) _)
theorem C_workBase (h : Sh ad ct σ) (hw : Crw ad σ) {k w : Nat} {cl : Bool} {fs : List Fct} (hk : k < 40) (hw4 : w ≤ 4) (hf : Cfs ad σ fs) (hl : fs.length ≤ 60) (t : Int32) (qr : AR ad σ 40 [] w cl) (qo : AR ad σ k [] w cl) {Q : Int32 → St → Prop} (h0 : ∀ σ', Fr ct (SWo k) σ σ' → Crw ad σ' → NOm (basR fs t w fs.length) → Q 0 σ') (h1 : ∀ σ' R, Fr ct (SWo k) σ σ' → Crw ad σ' → AR ad σ' k R w cl → OKm (basR fs t w fs.length) R → Q 1 σ') : wX4_workBase (ad 5 0 0) t (ad 4 k 0) σ Q := by
  have r40 : room 40 = 64 := rfl
  have key : ∀ (d i : Nat) (σ3 : St), i + d = fs.length → Fr ct (SN 40) σ σ3 → Crw ad σ3 → AR ad σ3 40 (basR fs t w i) w cl → lX4_workBase_2 Q (d + 1) (ad 5 0 0) t (ad 4 k 0) (nI i) σ3 := by
    intro d
    induction d with
    | zero =>
      intro i σ3 hi F c q
      have hi : i = fs.length := by omega
      have h3 := h.frC (F.mono (SN_SC 40))
      have f3 := hf.o h F (fun p q => ⟨k, SN40_o k p q⟩)
      have qo3 := qo.sn h (by omega) (by omega) (F.mono (SN_r 40))
      rw [hi] at q
      refine ⟨k5 h3, _, p256 h3, k7 h3, fun _ => C_melt h3 c hk q qo3 (fun σ4 f4 c4 n => ⟨Or.inl rfl, h0 σ4 ((F.mono (SN40_o k)).tr1 (f4.mono (SMt_o k))) c4 n⟩) (fun σ4 R f4 c4 a o => ⟨Or.inr rfl, h1 σ4 R ((F.mono (SN40_o k)).tr1 (f4.mono (SMt_o k))) c4 a o⟩), fun z => absurd ?_ z⟩
      rw [f3.1, hi]; exact nI_le (Nat.le_refl _) (by omega)
    | succ d ih =>
      intro i σ3 hi F c q
      have h3 := h.frC (F.mono (SN_SC 40))
      have f3 := hf.o h F (fun p q => ⟨k, SN40_o k p q⟩)
      obtain ⟨f, hff⟩ : ∃ f, fs[i]? = some f := ⟨_, List.getElem?_eq_getElem (by omega)⟩
      obtain ⟨g1, g2, g3, g4⟩ := f3.2 i f hff
      have es := basR_s (t := t) (w := w) hff
      have bl := basR_len fs t w i
      refine ⟨k5 h3, _, p256 h3, k7 h3, fun z => absurd z (by rw [f3.1]; exact nI_ge (by omega) (by omega)), fun _ => ⟨_, p386 h3, k386 h3, by rw [l386 h3]; exact vp_in_nI (by omega) (by decide), ?_⟩⟩
      rw [show ix (nI i) = i from nI_clamp (by omega), g1]
      refine ⟨fun z => ⟨_, p260 h3, k4 h3 (by decide), C_grow h3 c (by decide) q.1 q.2.2.2.1 (fun y => by omega) (fun j hl2 hj ej => ⟨fun y => (by cases y), fun a y => ?_⟩)⟩, fun z => ?_⟩
      · cases y
        have Fg : Fr ct (SN 40) σ3 (uFi σ3 193 (ad 4 40 0) (nI ((basR fs t w i).length + 1))) := Fr.rf.uFi _ _ _ (Or.inl (by rw [c4 h3 (by decide)]; exact Or.inl rfl))
        have hg := h3.frC (Fg.mono (SN_SC 40))
        refine ⟨k5 hg, _, p256 hg, k3 hg (by decide) hj, ?_⟩
        refine C_takeFact hg cl (by decide) hj hw4 (by omega) (fun m hm => by rw [yAi_uFi]; exact g2 m hm) (fun m hm => by rw [yAj_uFi]; exact g3 m hm) (fun σ4 F4 a1 a2 sl an => ?_)
        rw [nI_1]
        have F34 := Fg.tr1 F4
        refine ih (i + 1) σ4 (by omega) (F.tr1 F34) (c.cg h3 F34 (fun s' _ z => by rcases z with z | z | z | z <;> cases z)) ?_
        rw [es, if_pos z]
        refine q.push h3 c (by decide) hl2 hj ej ?_ ?_ (fun m => ?_) ((Slf.gr h3 (by decide) _).tr sl) an
        · rw [a2, yFi_uFi, yu2, if_pos ⟨rfl, rfl⟩]
        · rw [a2, yFi_uFi, yu2, if_neg (fun z => absurd z.1 (by decide))]
        · rw [a1, yAr_uFi]
      · rw [nI_1]
        refine ih (i + 1) σ3 (by omega) F c ?_
        rw [es, if_neg z, List.append_nil]; exact q
  exact ⟨_, key fs.length 0 σ (by omega) Fr.rf hw qr⟩
end ML
