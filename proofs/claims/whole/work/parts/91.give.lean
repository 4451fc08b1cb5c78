/-! the class: the gathered ways are handed over in order -/
section MC
variable {ad : Ad} {ct : Ct} {σ : St}
theorem insP {S : List Int64} {x : Int64} {p : Nat} (hs : S.Pairwise (fun a b => a ≤ b)) (hp : p ≤ S.length) (h1 : ∀ i v, p ≤ i → S[i]? = some v → x < v) (h2 : p = 0 ∨ ∀ v, S[p - 1]? = some v → v ≤ x) : (S.take p ++ x :: S.drop p).Pairwise (fun a b => a ≤ b) ∧ (S.take p ++ x :: S.drop p).Perm (x :: S) := by
  constructor
  · rw [List.pairwise_append, List.pairwise_cons]
    have pw := List.pairwise_iff_getElem.mp hs
    have dr : ∀ b ∈ S.drop p, x < b := fun b hb => by
      obtain ⟨i, hi, rfl⟩ := List.mem_iff_getElem.mp hb
      rw [List.length_drop] at hi
      rw [List.getElem_drop]
      exact h1 (p + i) _ (Nat.le_add_right _ _) (List.getElem?_eq_getElem (by omega))
    have tk : ∀ a ∈ S.take p, a ≤ x := fun a ha => by
      obtain ⟨i, hi, rfl⟩ := List.mem_iff_getElem.mp ha
      rw [List.length_take] at hi
      rw [List.getElem_take]
      rcases h2 with h2 | h2
      · omega
      · have l := h2 _ (List.getElem?_eq_getElem (show p - 1 < S.length by omega))
        by_cases c : i = p - 1
        · subst c; exact l
        · exact Int64.le_trans (pw i (p - 1) (by omega) (by omega) (by omega)) l
    refine ⟨hs.sublist (List.take_sublist p S), ⟨fun b hb => Int64.le_of_lt (dr b hb), hs.sublist (List.drop_sublist p S)⟩, fun a ha b hb => ?_⟩
    rcases List.mem_cons.mp hb with z | z
    · rw [z]; exact tk a ha
    · exact Int64.le_trans (tk a ha) (Int64.le_of_lt (dr b z))
  · have := List.perm_middle (a := x) (l₁ := S.take p) (l₂ := S.drop p)
    rw [List.take_append_drop] at this
    exact this
theorem insG {S : List Int64} {x : Int64} {p : Nat} (hp : p ≤ S.length) {a : Nat → Int64} (h1 : ∀ i v, i < p → S[i]? = some v → a i = v) (h2 : ∀ i v, p ≤ i → S[i]? = some v → a (i + 1) = v) (h3 : a p = x) : ∀ i v, (S.take p ++ x :: S.drop p)[i]? = some v → a i = v := by
  intro i v hi
  by_cases c : i < p
  · rw [List.getElem?_append_left (by rw [List.length_take]; omega), List.getElem?_take, if_pos c] at hi
    exact h1 i v c hi
  · rw [List.getElem?_append_right (by rw [List.length_take]; omega), List.length_take, Nat.min_eq_left hp] at hi
    by_cases e : i = p
    · rw [e, Nat.sub_self] at hi
      rw [e, h3]; exact Option.some.inj hi
    · obtain ⟨k, rfl⟩ : ∃ k, i = k + 1 := ⟨i - 1, by omega⟩
      rw [show k + 1 - p = (k - p) + 1 by omega, List.getElem?_cons_succ, List.getElem?_drop, show p + (k - p) = k by omega] at hi
      exact h2 k v (by omega) hi
theorem insL {S : List Int64} {x : Int64} {p : Nat} (hp : p ≤ S.length) : (S.take p ++ x :: S.drop p).length = S.length + 1 := by
  rw [List.length_append, List.length_cons, List.length_take, List.length_drop]; omega
/-- other slots of the answers s are as they were -/
def Slf (ad : Ad) (σ σ' : St) (s j : Nat) : Prop := ∀ j', j' < room s → j' ≠ j → (∀ g, zFi σ' g (ad 3 s j') = zFi σ g (ad 3 s j')) ∧ (∀ g, zFj σ' g (ad 3 s j') = zFj σ g (ad 3 s j')) ∧ (∀ i, zAi σ' (ad 128 s j') i = zAi σ (ad 128 s j') i) ∧ ∀ i, zAj σ' (ad 129 s j') i = zAj σ (ad 129 s j') i
theorem Slf.rf {s j : Nat} : Slf ad σ σ s j := fun _ _ _ => ⟨fun _ => rfl, fun _ => rfl, fun _ => rfl, fun _ => rfl⟩
theorem Slf.tr {s j : Nat} {σ1 σ2 : St} (a : Slf ad σ σ1 s j) (b : Slf ad σ1 σ2 s j) : Slf ad σ σ2 s j := fun j' h1 h2 => ⟨fun g => ((b j' h1 h2).1 g).trans ((a j' h1 h2).1 g), fun g => ((b j' h1 h2).2.1 g).trans ((a j' h1 h2).2.1 g), fun g => ((b j' h1 h2).2.2.1 g).trans ((a j' h1 h2).2.2.1 g), fun g => ((b j' h1 h2).2.2.2 g).trans ((a j' h1 h2).2.2.2 g)⟩
theorem Slf.ans {s j : Nat} {σ' : St} (f : Slf ad σ σ' s j) {j' w : Nat} {cl : Bool} {e : Ans} (hj' : j' < room s) (n : j' ≠ j) (q : AnsAt ad σ s j' w cl e) : AnsAt ad σ' s j' w cl e := by
  obtain ⟨f1, f2, f3, f4⟩ := f j' hj' n
  obtain ⟨q1, q2, q3, q4, q5, q6, q7, q8⟩ := q
  exact ⟨q1, fun k v hv => (f3 k).trans (q2 k v hv), q3, (f1 _).trans q4, fun k v hv => (f4 k).trans (q5 k v hv), fun c => (f2 _).trans (q6 c), (f1 _).trans q7, (f2 _).trans q8⟩
/-- only the ways of the slot j of the answers s have changed, and not how many there are -/
def GvI (ad : Ad) (ct : Ct) (σ σ' : St) (s j : Nat) : Prop := Fr ct (fun p => p = (129, s)) σ σ' ∧ ∀ j', j' < room s → j' ≠ j → ∀ i, zAj σ' (ad 129 s j') i = zAj σ (ad 129 s j') i
theorem GvI.u (h : Sh ad ct σ) {s j : Nat} (hs : s < 43) (hj : j < room s) {σ' : St} (I : GvI ad ct σ σ' s j) (i : Nat) (v : Int64) : GvI ad ct σ (uAj σ' (ad 129 s j) i v) s j := by
  refine ⟨I.1.uAj _ _ _ (Or.inl (c129 h hs hj)), fun j' h1 h2 k => ?_⟩
  rw [yAj_uAj, yu2, if_neg (fun z => h2 (j129 h hs h1 hj z.1))]
  exact I.2 j' h1 h2 k
theorem C_give (h : Sh ad ct σ) {s j : Nat} (hs : s < 43) (hj : j < room s) {l : List Int64} (e1 : zFi σ 449 (ad 8 0 0) = nI l.length) (e2 : ∀ k v, l[k]? = some v → zAj σ (ad 448 0 0) k = v) (hl : l.length ≤ 8208) {Q : Int32 → St → Prop} (h0 : 16 < l.length → Q 0 σ) (h1 : l.length ≤ 16 → ∀ (k : List Int64) (σ2 : St), k.Perm l → k.Pairwise (fun a b => a ≤ b) → GvI ad ct σ σ2 s j → (∀ i v, k[i]? = some v → zAj σ2 (ad 129 s j) i = v) → Q 1 (uFi σ2 130 (ad 3 s j) (nI l.length))) : wX7_giveWays (ad 8 0 0) (ad 3 s j) σ Q := by
  have n129 : ¬ (fun p => p = (129, s)) (8, 0) := fun z => by cases z
  refine ⟨k8 h, fun c => ?_, fun c => h0 ?_⟩
  · rw [e1] at c
    have l16 : l.length ≤ 16 := (nI_leI (b := 16) (by omega) (by decide)).mp c
    have h1 := h1 l16
    have out : ∀ (d k : Nat) (S : List Int64) (σ3 : St), k + d = l.length → S.Perm (l.take k) → S.Pairwise (fun a b => a ≤ b) → GvI ad ct σ σ3 s j → (∀ i v, S[i]? = some v → zAj σ3 (ad 129 s j) i = v) → lX7_giveWays_13 Q (d + 1) (ad 8 0 0) (ad 3 s j) (nI k) σ3 := by
      intro d
      induction d with
      | zero =>
        intro k S σ3 hk hp hS G ha
        have hk : k = l.length := by omega
        have g8 : zFi σ3 449 (ad 8 0 0) = nI l.length := (G.1.fi (k8 h) (by decide) (c8 h) n129 _).trans e1
        refine ⟨G.1.kk (k8 h) (by decide), fun _ => ⟨G.1.kk (k3 h hs hj) (by decide), ?_⟩, fun z => absurd ?_ z⟩
        · rw [g8]
          rw [hk, List.take_length] at hp
          exact h1 S σ3 hp hS G ha
        · rw [g8, hk]; exact nI_le (Nat.le_refl _) (by omega)
      | succ d ih =>
        intro k S σ3 hk hp hS G ha
        obtain ⟨x, hx⟩ : ∃ x, l[k]? = some x := ⟨_, List.getElem?_eq_getElem (by omega)⟩
        have Sl : S.length = k := by rw [hp.length_eq, List.length_take]; omega
        have et : l.take (k + 1) = l.take k ++ [x] := by rw [List.take_add_one, hx]; rfl
        have g8 : zFi σ3 449 (ad 8 0 0) = nI l.length := (G.1.fi (k8 h) (by decide) (c8 h) n129 _).trans e1
        refine ⟨G.1.kk (k8 h) (by decide), fun z => absurd z (by rw [g8]; exact nI_ge (by omega) (by omega)), fun _ => ⟨k + 1, ?_⟩⟩
        have inn : ∀ (p : Nat) (σ4 : St), p ≤ k → GvI ad ct σ σ4 s j → (∀ i v, i < p → S[i]? = some v → zAj σ4 (ad 129 s j) i = v) → (∀ i v, p ≤ i → S[i]? = some v → zAj σ4 (ad 129 s j) (i + 1) = v) → (∀ i v, p ≤ i → S[i]? = some v → x < v) → lX7_giveWays_23 Q (lX7_giveWays_13 Q (d + 1)) (p + 1) (ad 8 0 0) (ad 3 s j) (nI k) (nI p) σ4 := by
          intro p
          have put : ∀ (p : Nat) (σ4 : St), p ≤ k → GvI ad ct σ σ4 s j → (∀ i v, i < p → S[i]? = some v → zAj σ4 (ad 129 s j) i = v) → (∀ i v, p ≤ i → S[i]? = some v → zAj σ4 (ad 129 s j) (i + 1) = v) → (∀ i v, p ≤ i → S[i]? = some v → x < v) → (p = 0 ∨ ∀ v, S[p - 1]? = some v → v ≤ x) → wX7_giveWays_65 Q (lX7_giveWays_13 Q (d + 1)) (ad 8 0 0) (ad 3 s j) (nI k) (nI p) σ4 := by
            intro p σ4 hpk G4 b1 b2 b3 b4
            have x4 : zAj σ4 (ad 448 0 0) k = x := (G4.1.aj (k448 h) (by decide) (c448 h) (fun z => by cases z) k).trans (e2 k x hx)
            refine ⟨G4.1.kk (k3 h hs hj) (by decide), _, (G4.1.rr (k3 h hs hj) (by decide) _).trans (p129 h hs hj), G4.1.kk (k8 h) (by decide), _, (G4.1.rr (k8 h) (by decide) _).trans (p448 h), G4.1.kk (k448 h) (by decide), by rw [G4.1.ll (k448 h) (by decide), l448 h]; exact vp_in_nI (by omega) (by decide), G4.1.kk (k129 h hs hj) (by decide), by rw [G4.1.ll (k129 h hs hj) (by decide), l129 h hs hj]; exact vp_in_nI (by omega) (by decide), ?_⟩
            rw [show ix (nI k) = k from nI_clamp (by omega), show ix (nI p) = p from nI_clamp (by omega), x4, nI_1]
            obtain ⟨c1, c2⟩ := insP hS (p := p) (by omega) b3 b4
            refine ih (k + 1) (S.take p ++ x :: S.drop p) _ (by omega) ?_ c1 (G4.u h hs hj p x) ?_
            · rw [et]
              exact c2.trans ((hp.cons x).trans (List.perm_append_singleton x (l.take k)).symm)
            · refine insG (by omega) (fun i v hi hv => ?_) (fun i v hi hv => ?_) ?_
              · rw [yAj_uAj, yu2, if_neg (fun z => by have := z.2; omega)]; exact b1 i v hi hv
              · rw [yAj_uAj, yu2, if_neg (fun z => by have := z.2; omega)]; exact b2 i v hi hv
              · rw [yAj_uAj, yu2, if_pos ⟨rfl, rfl⟩]
          induction p with
          | zero =>
            intro σ4 hpk G4 b1 b2 b3
            exact ⟨fun _ => put 0 σ4 hpk G4 b1 b2 b3 (Or.inl rfl), fun z => absurd (Int32.le_refl _) z⟩
          | succ p ihp =>
            intro σ4 hpk G4 b1 b2 b3
            have x4 : zAj σ4 (ad 448 0 0) k = x := (G4.1.aj (k448 h) (by decide) (c448 h) (fun z => by cases z) k).trans (e2 k x hx)
            obtain ⟨y, hy⟩ : ∃ y, S[p]? = some y := ⟨_, List.getElem?_eq_getElem (by omega)⟩
            have y4 := b1 p y (by omega) hy
            refine ⟨fun z => put (p + 1) σ4 hpk G4 b1 b2 b3 ?_, fun _ => ⟨G4.1.kk (k3 h hs hj) (by decide), _, (G4.1.rr (k3 h hs hj) (by decide) _).trans (p129 h hs hj), G4.1.kk (k129 h hs hj) (by decide), ?_, G4.1.kk (k8 h) (by decide), _, (G4.1.rr (k8 h) (by decide) _).trans (p448 h), G4.1.kk (k448 h) (by decide), by rw [G4.1.ll (k448 h) (by decide), l448 h]; exact vp_in_nI (by omega) (by decide), ?_⟩⟩
            · exact absurd z (nI_ge (a := 0) (by omega) (by omega))
            · rw [nI_pred, G4.1.ll (k129 h hs hj) (by decide), l129 h hs hj]; exact vp_in_nI (by omega) (by decide)
            · rw [nI_pred, show ix (nI k) = k from nI_clamp (by omega), show ix (nI p) = p from nI_clamp (by omega), show ix (nI (p + 1)) = p + 1 from nI_clamp (by omega), x4, y4]
              refine ⟨fun z => put (p + 1) σ4 hpk G4 b1 b2 b3 (Or.inr (fun v hv => ?_)), fun z => ⟨by rw [G4.1.ll (k129 h hs hj) (by decide), l129 h hs hj]; exact vp_in_nI (by omega) (by decide), ?_⟩⟩
              · rw [Nat.add_sub_cancel, hy] at hv
                rw [← Option.some.inj hv]; exact z
              · rw [show nI (p + 1) + (-1) = nI p from by rw [← Int32.sub_eq_add_neg]; exact nI_pred p]
                refine ihp _ (by omega) (G4.u h hs hj (p + 1) y) (fun i v hi hv => ?_) (fun i v hi hv => ?_) (fun i v hi hv => ?_)
                · rw [yAj_uAj, yu2, if_neg (fun q => by have := q.2; omega)]; exact b1 i v (by omega) hv
                · rw [yAj_uAj, yu2]
                  by_cases q : i = p
                  · rw [if_pos ⟨rfl, by omega⟩]
                    rw [q, hy] at hv
                    exact Option.some.inj hv
                  · rw [if_neg (fun q2 => by have := q2.2; omega)]; exact b2 i v (by omega) hv
                · by_cases q : i = p
                  · rw [q, hy] at hv
                    rw [← Option.some.inj hv]; exact Int64.not_le.mp z
                  · exact b3 i v (by omega) hv
        exact inn k σ3 (Nat.le_refl _) G (fun i v _ hv => ha i v hv) (fun i v hi hv => absurd (List.getElem?_eq_some_iff.mp hv).1 (by omega)) (fun i v hi hv => absurd (List.getElem?_eq_some_iff.mp hv).1 (by omega))
    exact ⟨_, out l.length 0 [] σ (by omega) List.Perm.nil List.Pairwise.nil ⟨Fr.rf, fun _ _ _ _ => rfl⟩ (fun i v hi => by rw [List.getElem?_nil] at hi; cases hi)⟩
  · rw [e1] at c
    by_cases z : 16 < l.length
    · exact z
    · exact absurd (nI_le (b := 16) (by omega) (by decide)) c
end MC
