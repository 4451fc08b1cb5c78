/-! the reference: the pile is laid in order into a row -/
section ME
variable {ad : Ad} {ct : Ct} {σ : St}
abbrev SL (s : Nat) : Nat × Nat → Prop := fun p => p = (1053, 0) ∨ p = (899, s) ∨ p = (901, s)
theorem SL_SM (s : Nat) : ∀ p, SL s p → SM p := fun p q => by rcases q with rfl | rfl | rfl <;> simp [SM]
/-- the row r of the sheet s has these ways now, and no other row has changed -/
def LyR (ad : Ad) (ct : Ct) (σ σ' : St) (s r : Nat) (k : List Int64) : Prop := Fr ct (SL s) σ σ' ∧ (∀ i, zAi σ' (ad 899 s 0) i = if i = r then nI k.length else zAi σ (ad 899 s 0) i) ∧ (∀ i v, k[i]? = some v → zAj σ' (ad 901 s 0) (16 * r + i) = v) ∧ ∀ m, (m < 16 * r ∨ 16 * r + 16 ≤ m) → zAj σ' (ad 901 s 0) m = zAj σ (ad 901 s 0) m
theorem M_lcopy (h : Sh ad ct σ) {s r : Nat} (hs : s < 42) (hr : r < 32) {o k : List Int64} (hk16 : k.length ≤ 16) (e1 : zFi σ 1054 (ad 17 0 0) = nI k.length) (e2 : ∀ i v, k[i]? = some v → zAj σ (ad 1053 0 0) i = v) (o2 : ∀ i v, o[i]? = some v → zAj σ (ad 901 s 0) (16 * r + i) = v) {Q : Int32 → St → Prop} {E : St → Prop} (hQ : ∀ σ2, LyR ad ct σ σ2 s r k → Q (zB (decide (o ≠ k))) σ2) : wX16_lays_110 Q E (ad 17 0 0) (ad 15 s 0) (nI r) (zB (decide (o.length ≠ k.length))) σ := by
  have key : ∀ (d i : Nat) (b : Bool) (σ3 : St), i + d = k.length → Fr ct (SL s) σ σ3 → (∀ m, zAi σ3 (ad 899 s 0) m = zAi σ (ad 899 s 0) m) → (∀ m v, m < i → k[m]? = some v → zAj σ3 (ad 901 s 0) (16 * r + m) = v) → (∀ m, (m < 16 * r ∨ 16 * r + i ≤ m) → zAj σ3 (ad 901 s 0) m = zAj σ (ad 901 s 0) m) → (∀ m, zAj σ3 (ad 1053 0 0) m = zAj σ (ad 1053 0 0) m) → (b = true ↔ (o.length ≠ k.length ∨ o.take i ≠ k.take i)) → lX16_lays_114 Q E (d + 1) (ad 17 0 0) (ad 15 s 0) (nI r) (zB b) (nI i) σ3 := by
    intro d
    induction d with
    | zero =>
      intro i b σ3 hi f0 f1 f2 f3 f4 hb
      have hi : i = k.length := by omega
      have h3 := h.frM (f0.mono (SL_SM s))
      have g1 : zFi σ3 1054 (ad 17 0 0) = nI k.length := (f0.fi (k17 h) (by decide) (c17 h) (by simp) _).trans e1
      refine ⟨k17 h3, fun _ => ⟨k15 h3 hs, _, p899 h3 hs, k899 h3 hs, by rw [l899 h3 hs]; exact vp_in_nI hr (by decide), by cases b <;> simp [zB], ?_⟩, fun z => absurd ?_ z⟩
      · rw [show ix (nI r) = r from nI_clamp (by omega), g1]
        have eb : b = decide (o ≠ k) := by
          rw [Bool.eq_iff_iff, hb, decide_eq_true_iff]
          constructor
          · rintro (z | z) y
            · rw [y] at z; exact z rfl
            · rw [y] at z; exact z rfl
          · intro z
            by_cases y : o.length = k.length
            · refine Or.inr (fun q => z ?_)
              rw [hi, List.take_length, ← y, List.take_length] at q
              exact q
            · exact Or.inl y
        rw [eb]
        refine hQ _ ⟨f0.uAi _ _ _ (Or.inl (by rw [c899 h3 hs]; exact Or.inr (Or.inl rfl))), fun m => ?_, fun m v hv => ?_, fun m hm => ?_⟩
        · rw [yAi_uAi, yu2]
          by_cases z : m = r
          · rw [if_pos ⟨rfl, z⟩, if_pos z]
          · rw [if_neg (fun q => z q.2), if_neg z]; exact f1 m
        · rw [yAj_uAi]; exact f2 m v (by have := (List.getElem?_eq_some_iff.mp hv).1; omega) hv
        · rw [yAj_uAi]; exact f3 m (by omega)
      · rw [g1, hi]; exact nI_le (Nat.le_refl _) (by omega)
    | succ d ih =>
      intro i b σ3 hi f0 f1 f2 f3 f4 hb
      have h3 := h.frM (f0.mono (SL_SM s))
      have g1 : zFi σ3 1054 (ad 17 0 0) = nI k.length := (f0.fi (k17 h) (by decide) (c17 h) (by simp) _).trans e1
      obtain ⟨x, hx⟩ : ∃ x, k[i]? = some x := ⟨_, List.getElem?_eq_getElem (by omega)⟩
      have ex : zAj σ3 (ad 1053 0 0) i = x := (f4 i).trans (e2 i x hx)
      obtain ⟨x1, x2⟩ := ix16 (r := r) (k := i) hr (by omega)
      have ek : k.take (i + 1) = k.take i ++ [x] := by rw [List.take_add_one, hx]; rfl
      have put : ∀ b2 : Bool, (b2 = true ↔ (o.length ≠ k.length ∨ o.take (i + 1) ≠ k.take (i + 1))) → wX16_lays_155 Q E (lX16_lays_114 Q E (d + 1)) (ad 17 0 0) (ad 15 s 0) (nI r) (nI i) (zB b2) σ3 := fun b2 hb2 => by
        refine ⟨k15 h3 hs, _, p901 h3 hs, k17 h3, _, p1053 h3, k1053 h3, by rw [l1053 h3]; exact vp_in_nI (by omega) (by decide), k901 h3 hs, by rw [l901 h3 hs, x2]; exact vp_in_nI (by omega) (by decide), ?_⟩
        rw [x1, show ix (nI i) = i from nI_clamp (by omega), ex, nI_1]
        have ne : ad 1053 0 0 ≠ ad 901 s 0 := fun z => by
          have a := c1053 h3
          rw [z, c901 h3 hs] at a
          cases a
        refine ih (i + 1) b2 _ (by omega) (f0.uAj _ _ _ (Or.inl (by rw [c901 h3 hs]; exact Or.inr (Or.inr rfl)))) (fun m => by rw [yAi_uAj]; exact f1 m) (fun m v hm hv => ?_) (fun m hm => ?_) (fun m => ?_) hb2
        · rw [yAj_uAj, yu2]
          by_cases z : m = i
          · rw [if_pos ⟨rfl, by omega⟩]
            rw [z, hx] at hv
            exact Option.some.inj hv
          · rw [if_neg (fun q => by have := q.2; omega)]; exact f2 m v (by omega) hv
        · rw [yAj_uAj, yu2, if_neg (fun q => by have := q.2; omega)]; exact f3 m (by omega)
        · rw [yAj_uAj, yu2, if_neg (fun q => ne q.1)]; exact f4 m
      refine ⟨k17 h3, fun z => absurd z (by rw [g1]; exact nI_ge (by omega) (by omega)), fun _ => ⟨fun z => ?_, fun z => ⟨k15 h3 hs, _, p901 h3 hs, k901 h3 hs, by rw [l901 h3 hs, x2]; exact vp_in_nI (by omega) (by decide), _, p1053 h3, k1053 h3, by rw [l1053 h3]; exact vp_in_nI (by omega) (by decide), ?_⟩⟩⟩
      · refine put true ⟨fun _ => ?_, fun _ => rfl⟩
        have bt : b = true := by
          cases b with
          | true => rfl
          | false => exact absurd rfl z
        rcases hb.mp bt with y | y
        · exact Or.inl y
        · refine Or.inr (fun q => y ?_)
          have := congrArg (fun t => t.take i) q
          simpa [List.take_take] using this
      · have bf : b = false := by
          cases b with
          | false => rfl
          | true => exact absurd z (by decide)
        have nb : ¬ (o.length ≠ k.length ∨ o.take i ≠ k.take i) := fun y => by rw [hb.mpr y] at bf; cases bf
        have ol : o.length = k.length := by
          by_cases y : o.length = k.length
          · exact y
          · exact absurd (Or.inl y) nb
        have ot : o.take i = k.take i := by
          by_cases y : o.take i = k.take i
          · exact y
          · exact absurd (Or.inr y) nb
        obtain ⟨u, hu⟩ : ∃ u, o[i]? = some u := ⟨_, List.getElem?_eq_getElem (by omega)⟩
        have eo : o.take (i + 1) = o.take i ++ [u] := by rw [List.take_add_one, hu]; rfl
        rw [x1, show ix (nI i) = i from nI_clamp (by omega), ex, show zAj σ3 (ad 901 s 0) (16 * r + i) = u from (f3 _ (by omega)).trans (o2 i u hu)]
        refine ⟨fun y => put false ⟨fun q => (by cases q), fun q => ?_⟩, fun y => put true ⟨fun _ => Or.inr (fun q => y ?_), fun _ => rfl⟩⟩
        · rcases q with q | q
          · exact absurd ol q
          · exact absurd (by rw [eo, ek, ot, y]) q
        · rw [eo, ek, ot] at q
          exact (List.cons.inj (List.append_cancel_left q)).1
  exact ⟨_, key k.length 0 _ σ (by omega) Fr.rf (fun _ => rfl) (fun m v hm => absurd hm (Nat.not_lt_zero _)) (fun _ _ => rfl) (fun _ => rfl) (by rw [decide_eq_true_iff]; exact ⟨Or.inl, fun z => z.elim id (fun y => absurd rfl y)⟩)⟩
theorem M_lays (h : Sh ad ct σ) {s r : Nat} (hs : s < 42) (hr : r < 32) {o l : List Int64} (hl : l.length ≤ 8208) (e1 : zFi σ 1054 (ad 17 0 0) = nI l.length) (e2 : ∀ i v, l[i]? = some v → zAj σ (ad 1053 0 0) i = v) (ho : o.length ≤ 16) (o1 : zAi σ (ad 899 s 0) r = nI o.length) (o2 : ∀ i v, o[i]? = some v → zAj σ (ad 901 s 0) (16 * r + i) = v) {Q : Int32 → St → Prop} {E : St → Prop} (h0 : 16 < l.length → E σ) (h1 : l.length ≤ 16 → ∀ (k : List Int64) (σ2 : St), k.Perm l → k.Pairwise (fun a b => a ≤ b) → LyR ad ct σ σ2 s r k → Q (zB (decide (o ≠ k))) σ2) : wX16_lays (ad 17 0 0) (ad 15 s 0) (nI r) σ Q E := by
  refine ⟨k17 h, fun c => ?_, fun c => ⟨_, p1048 h, k14 h, h0 ?_⟩⟩
  · rw [e1] at c
    have l16 : l.length ≤ 16 := (nI_leI (b := 16) (by omega) (by decide)).mp c
    have h1 := h1 l16
    have fin : ∀ (S : List Int64) (σ3 : St), S.Perm l → S.Pairwise (fun a b => a ≤ b) → Fr ct (fun p => p = (1053, 0)) σ σ3 → (∀ i v, S[i]? = some v → zAj σ3 (ad 1053 0 0) i = v) → zK σ3 (ad 15 s 0) = 15 ∧ ∃ a3 : Nat, zFr σ3 899 (ad 15 s 0) = some a3 ∧ zK σ3 a3 = 20 ∧ vp_in (nI r) (zL σ3 a3) ∧ (((zAi σ3 a3 (ix (nI r))) = (zFi σ3 1054 (ad 17 0 0)) → wX16_lays_110 Q E (ad 17 0 0) (ad 15 s 0) (nI r) 0 σ3) ∧ (¬ (zAi σ3 a3 (ix (nI r))) = (zFi σ3 1054 (ad 17 0 0)) → wX16_lays_110 Q E (ad 17 0 0) (ad 15 s 0) (nI r) 1 σ3)) := fun S σ3 hp hS f ha => by
      have h3 := h.frM (f.mono (fun p q => SL_SM s p (Or.inl q)))
      have Sl := hp.length_eq
      have g1 : zFi σ3 1054 (ad 17 0 0) = nI S.length := by rw [Sl]; exact (f.fi (k17 h) (by decide) (c17 h) (by simp) _).trans e1
      have g2 : zAi σ3 (ad 899 s 0) r = nI o.length := (f.ai (k899 h hs) (by decide) (c899 h hs) (by simp) _).trans o1
      have go := M_lcopy h3 hs hr (o := o) (k := S) (by omega) g1 ha (fun i v hv => (f.aj (k901 h hs) (by decide) (c901 h hs) (by simp) _).trans (o2 i v hv)) (Q := Q) (E := E) (fun σ2 L => h1 S σ2 hp hS ⟨(f.mono (fun p q => Or.inl q)).tr1 L.1, fun i => by rw [L.2.1 i, (f.ai (k899 h hs) (by decide) (c899 h hs) (by simp) _)], L.2.2.1, fun m hm => (L.2.2.2 m hm).trans (f.aj (k901 h hs) (by decide) (c901 h hs) (by simp) _)⟩)
      refine ⟨k15 h3 hs, _, p899 h3 hs, k899 h3 hs, by rw [l899 h3 hs]; exact vp_in_nI hr (by decide), ?_⟩
      rw [show ix (nI r) = r from nI_clamp (by omega), g1, g2]
      refine ⟨fun z => ?_, fun z => ?_⟩
      · have z := congrArg Int32.toInt z
        rw [nI_toInt (by omega), nI_toInt (by omega)] at z
        rw [decide_eq_false (fun y : o.length ≠ S.length => y (by omega))] at go
        exact go
      · rw [decide_eq_true (show o.length ≠ S.length from fun y => z (by rw [y]))] at go
        exact go
    have out : ∀ (d k : Nat) (S : List Int64) (σ3 : St), 1 ≤ k → (k ≤ l.length ∨ k = 1) → l.length ≤ k + d → S.Perm (l.take k) → S.Pairwise (fun a b => a ≤ b) → Fr ct (fun p => p = (1053, 0)) σ σ3 → (∀ i v, S[i]? = some v → zAj σ3 (ad 1053 0 0) i = v) → (∀ i v, k ≤ i → l[i]? = some v → zAj σ3 (ad 1053 0 0) i = v) → lX16_lays_16 Q E (d + 1) (ad 17 0 0) (ad 15 s 0) (nI r) (nI k) σ3 := by
      have done : ∀ (k : Nat) (S : List Int64) (σ3 : St) (r16 : Nat → Nat → Int32 → Int32 → St → Prop), (k ≤ l.length ∨ k = 1) → l.length ≤ k → S.Perm (l.take k) → S.Pairwise (fun a b => a ≤ b) → Fr ct (fun p => p = (1053, 0)) σ σ3 → (∀ i v, S[i]? = some v → zAj σ3 (ad 1053 0 0) i = v) → wX16_lays_16 Q E r16 (ad 17 0 0) (ad 15 s 0) (nI r) (nI k) σ3 := by
        intro k S σ3 r16 hk1 hk hp hS f ha
        have g1 : zFi σ3 1054 (ad 17 0 0) = nI l.length := (f.fi (k17 h) (by decide) (c17 h) (by simp) _).trans e1
        rw [List.take_of_length_le hk] at hp
        exact ⟨f.kk (k17 h) (by decide), fun _ => fin S σ3 hp hS f ha, fun z => absurd (by rw [g1]; exact nI_le (by omega) (by omega)) z⟩
      intro d
      induction d with
      | zero =>
        intro k S σ3 k1 hk1 hk hp hS f ha hb
        exact done k S σ3 _ hk1 (by omega) hp hS f ha
      | succ d ih =>
        intro k S σ3 k1 hk1 hk hp hS f ha hb
        by_cases c2 : l.length ≤ k
        · exact done k S σ3 _ hk1 c2 hp hS f ha
        · have g1 : zFi σ3 1054 (ad 17 0 0) = nI l.length := (f.fi (k17 h) (by decide) (c17 h) (by simp) _).trans e1
          obtain ⟨x, hx⟩ : ∃ x, l[k]? = some x := ⟨_, List.getElem?_eq_getElem (by omega)⟩
          have Sl : S.length = k := by rw [hp.length_eq, List.length_take]; omega
          have et : l.take (k + 1) = l.take k ++ [x] := by rw [List.take_add_one, hx]; rfl
          have kk : ∀ {τ : St}, Fr ct (fun p => p = (1053, 0)) σ τ → zK τ (ad 17 0 0) = 17 ∧ zFr τ 1053 (ad 17 0 0) = some (ad 1053 0 0) ∧ zK τ (ad 1053 0 0) = 21 ∧ zL τ (ad 1053 0 0) = 8208 := fun f => ⟨f.kk (k17 h) (by decide), (f.rr (k17 h) (by decide) _).trans (p1053 h), f.kk (k1053 h) (by decide), (f.ll (k1053 h) (by decide)).trans (l1053 h)⟩
          refine ⟨(kk f).1, fun z => absurd z (by rw [g1]; exact nI_ge (by omega) (by omega)), fun _ => ⟨_, (kk f).2.1, (kk f).2.2.1, by rw [(kk f).2.2.2]; exact vp_in_nI (by omega) (by decide), k + 1, ?_⟩⟩
          rw [show ix (nI k) = k from nI_clamp (by omega), hb k x (Nat.le_refl _) hx]
          have put : ∀ (p : Nat) (σ4 : St), p ≤ k → Fr ct (fun p => p = (1053, 0)) σ σ4 → (∀ i v, i < p → S[i]? = some v → zAj σ4 (ad 1053 0 0) i = v) → (∀ i v, p ≤ i → S[i]? = some v → zAj σ4 (ad 1053 0 0) (i + 1) = v) → (∀ i v, p ≤ i → S[i]? = some v → x < v) → (∀ i v, k + 1 ≤ i → l[i]? = some v → zAj σ4 (ad 1053 0 0) i = v) → (p = 0 ∨ ∀ v, S[p - 1]? = some v → v ≤ x) → wX16_lays_77 Q E (lX16_lays_16 Q E (d + 1)) (ad 17 0 0) (ad 15 s 0) (nI r) (nI k) x (nI p) σ4 := by
            intro p σ4 hpk f4 b1 b2 b3 b5 b4
            refine ⟨(kk f4).1, _, (kk f4).2.1, (kk f4).2.2.1, by rw [(kk f4).2.2.2]; exact vp_in_nI (by omega) (by decide), ?_⟩
            rw [show ix (nI p) = p from nI_clamp (by omega), nI_1]
            obtain ⟨c1, c2⟩ := insP hS (p := p) (by omega) b3 b4
            refine ih (k + 1) (S.take p ++ x :: S.drop p) _ (by omega) (Or.inl (by omega)) (by omega) ?_ c1 (f4.uAj _ _ _ (Or.inl (c1053 h))) ?_ (fun i v hi hv => ?_)
            · rw [et]
              exact c2.trans ((hp.cons x).trans (List.perm_append_singleton x (l.take k)).symm)
            · refine insG (by omega) (fun i v hi hv => ?_) (fun i v hi hv => ?_) ?_
              · rw [yAj_uAj, yu2, if_neg (fun z => by have := z.2; omega)]; exact b1 i v hi hv
              · rw [yAj_uAj, yu2, if_neg (fun z => by have := z.2; omega)]; exact b2 i v hi hv
              · rw [yAj_uAj, yu2, if_pos ⟨rfl, rfl⟩]
            · rw [yAj_uAj, yu2, if_neg (fun z => by have := z.2; omega)]; exact b5 i v hi hv
          have inn : ∀ (p : Nat) (σ4 : St), p ≤ k → Fr ct (fun p => p = (1053, 0)) σ σ4 → (∀ i v, i < p → S[i]? = some v → zAj σ4 (ad 1053 0 0) i = v) → (∀ i v, p ≤ i → S[i]? = some v → zAj σ4 (ad 1053 0 0) (i + 1) = v) → (∀ i v, p ≤ i → S[i]? = some v → x < v) → (∀ i v, k + 1 ≤ i → l[i]? = some v → zAj σ4 (ad 1053 0 0) i = v) → lX16_lays_35 Q E (lX16_lays_16 Q E (d + 1)) (p + 1) (ad 17 0 0) (ad 15 s 0) (nI r) (nI k) x (nI p) σ4 := by
            intro p
            induction p with
            | zero =>
              intro σ4 hpk f4 b1 b2 b3 b5
              exact ⟨fun _ => put 0 σ4 hpk f4 b1 b2 b3 b5 (Or.inl rfl), fun z => absurd (Int32.le_refl _) z⟩
            | succ p ihp =>
              intro σ4 hpk f4 b1 b2 b3 b5
              obtain ⟨y, hy⟩ : ∃ y, S[p]? = some y := ⟨_, List.getElem?_eq_getElem (by omega)⟩
              have y4 := b1 p y (by omega) hy
              refine ⟨fun z => absurd z (nI_ge (a := 0) (by omega) (by omega)), fun _ => ⟨(kk f4).1, _, (kk f4).2.1, (kk f4).2.2.1, by rw [nI_pred, (kk f4).2.2.2]; exact vp_in_nI (by omega) (by decide), ?_⟩⟩
              rw [nI_pred, show ix (nI p) = p from nI_clamp (by omega), show ix (nI (p + 1)) = p + 1 from nI_clamp (by omega), y4]
              refine ⟨fun z => put (p + 1) σ4 hpk f4 b1 b2 b3 b5 (Or.inr (fun v hv => ?_)), fun z => ⟨by rw [(kk f4).2.2.2]; exact vp_in_nI (by omega) (by decide), ?_⟩⟩
              · rw [Nat.add_sub_cancel, hy] at hv
                rw [← Option.some.inj hv]; exact z
              · rw [show nI (p + 1) + (-1) = nI p from by rw [← Int32.sub_eq_add_neg]; exact nI_pred p]
                refine ihp _ (by omega) (f4.uAj _ _ _ (Or.inl (c1053 h))) (fun i v hi hv => ?_) (fun i v hi hv => ?_) (fun i v hi hv => ?_) (fun i v hi hv => ?_)
                · rw [yAj_uAj, yu2, if_neg (fun q => by have := q.2; omega)]; exact b1 i v (by omega) hv
                · rw [yAj_uAj, yu2]
                  by_cases q : i = p
                  · rw [if_pos ⟨rfl, by omega⟩]
                    rw [q, hy] at hv
                    exact Option.some.inj hv
                  · rw [if_neg (fun q2 => by have := q2.2; omega)]; exact b2 i v (by omega) hv
                · by_cases q : i = p
                  · rw [q, hy] at hv
                    rw [← Option.some.inj hv]; exact Int64.not_le.mp z
                  · exact b3 i v (by omega) hv
                · rw [yAj_uAj, yu2, if_neg (fun q => by have := q.2; omega)]; exact b5 i v hi hv
          exact inn k σ3 (Nat.le_refl _) f (fun i v _ hv => ha i v hv) (fun i v hi hv => absurd (List.getElem?_eq_some_iff.mp hv).1 (by omega)) (fun i v hi hv => absurd (List.getElem?_eq_some_iff.mp hv).1 (by omega)) (fun i v hi hv => hb i v (by omega) hv)
    refine ⟨l.length + 1, out l.length 1 (l.take 1) σ (Nat.le_refl _) (Or.inr rfl) (by omega) (List.Perm.refl _) ?_ Fr.rf (fun i v hv => e2 i v ?_) (fun i v _ hv => e2 i v hv)⟩
    · cases l with
      | nil => exact List.Pairwise.nil
      | cons a t => exact List.pairwise_singleton _ _
    · rw [List.getElem?_take] at hv
      split at hv
      · exact hv
      · cases hv
  · rw [e1] at c
    by_cases z : 16 < l.length
    · exact z
    · exact absurd (nI_le (b := 16) (by omega) (by decide)) c
end ME
