/-! the class: CLOSE: the rows of a round -/
section NB
variable {ad : Ad} {ct : Ct} {σ : St}
theorem AnsAt.r01 {s j : Nat} {cl : Bool} {e : Ans} (q : AnsAt ad σ s j 2 cl e) : zAi σ (ad 128 s j) 0 = at0 e ∧ zAi σ (ad 128 s j) 1 = at1 e ∧ e.1 = [at0 e, at1 e] := by
  have e2 := row2 q.1
  refine ⟨q.2.1 0 _ (by rw [e2]; rfl), q.2.1 1 _ (by rw [e2]; rfl), e2⟩
theorem C_stepOf (h : Sh ad ct σ) {s1 : Nat} {cl : Bool} {A : List Ans} (hs1 : s1 < 40) (q : AR ad σ s1 A 2 cl) (x y : Int32) {Q : Option Nat → St → Prop} (h0 : (∀ s ∈ A, s.1 ≠ [x, y]) → Q none σ) (h1 : ∀ (m : Nat) s j, A[m]? = some s → s.1 = [x, y] → j < room s1 → AnsAt ad σ s1 j 2 cl s → Q (some (ad 3 s1 j)) σ) : wX4_stepOf (ad 4 s1 0) x y σ Q := by
  have rm : room s1 = 32 := by unfold room; rw [if_neg (by omega)]
  have lA : A.length ≤ 32 := by have := q.2.2.2.1; rw [rm] at this; exact this
  have key : ∀ (d i : Nat), i + d = A.length → (∀ s ∈ A.take i, s.1 ≠ [x, y]) → lX4_stepOf_2 Q (d + 1) (ad 4 s1 0) x y (nI i) σ := by
    intro d
    induction d with
    | zero =>
      intro i hi hn
      have hi : i = A.length := by omega
      rw [hi, List.take_length] at hn
      refine ⟨k4 h (by omega), fun _ => h0 hn, fun z => absurd ?_ z⟩
      rw [q.1, hi]; exact nI_le (Nat.le_refl _) (by omega)
    | succ d ih =>
      intro i hi hn
      obtain ⟨s, hs⟩ : ∃ s, A[i]? = some s := ⟨_, List.getElem?_eq_getElem (by omega)⟩
      obtain ⟨j, b1, b2, b3⟩ := q.2.2.2.2 i s hs
      obtain ⟨r0, r1, re⟩ := b3.r01
      have et : A.take (i + 1) = A.take i ++ [s] := by rw [List.take_add_one, hs]; rfl
      have nx : s.1 ≠ [x, y] → ∀ s2 ∈ A.take (i + 1), s2.1 ≠ [x, y] := fun ne s2 h2 => by
        rw [et] at h2
        rcases List.mem_append.mp h2 with z | z
        · exact hn s2 z
        · rw [List.mem_singleton.mp z]; exact ne
      refine ⟨k4 h (by omega), fun z => absurd z (by rw [q.1]; exact nI_ge (by omega) (by omega)), fun _ => ⟨_, p192 h (by omega), k192 h (by omega), by rw [l192 h (by omega), rm]; exact vp_in_nI (by omega) (by decide), _, by rw [show ix (nI i) = i from nI_clamp (by omega)]; exact b2, k3 h (by omega) b1, _, p128 h (by omega) b1, k128 h (by omega) b1, by rw [l128 h (by omega) b1]; exact vp_in_nI (n := 0) (by decide) (by decide), ?_⟩⟩
      rw [show ix 0 = 0 from rfl, show ix 1 = 1 from rfl, r0, r1, nI_1]
      refine ⟨fun z => ih (i + 1) (by omega) (nx (fun e => z ?_)), fun z => ⟨by rw [l128 h (by omega) b1]; exact vp_in_nI (n := 1) (by decide) (by decide), fun z2 => ih (i + 1) (by omega) (nx (fun e => z2 ?_)), fun z2 => h1 i s j hs ?_ b1 b3⟩⟩
      · rw [re] at e; exact (List.cons.inj e).1
      · rw [re] at e; exact (List.cons.inj (List.cons.inj e).2).1
      · rw [re, z, z2]
  exact ⟨_, key A.length 0 (by omega) (fun s hs => absurd hs List.not_mem_nil)⟩
/-- the rows of a round, chain by chain -/
def rrC (A : List Ans) (c : Ans) : List (List Int32) := c.1 :: (A.filter (fun s => decide (at1 c = at0 s))).map (fun s => [at0 c, at1 s])
theorem rr_mem {A L : List Ans} {r : List Int32} : r ∈ L.flatMap (rrC A) ↔ ∃ x ∈ rndR A (L.map bare), x.1 = r := by
  rw [List.mem_flatMap]
  constructor
  · rintro ⟨c, hc, h⟩
    rcases List.mem_cons.mp h with z | z
    · exact ⟨bare c, rndR_mem.mpr (Or.inl (List.mem_map.mpr ⟨c, hc, rfl⟩)), z.symm⟩
    · obtain ⟨s, hs, rfl⟩ := List.mem_map.mp z
      rw [List.mem_filter] at hs
      exact ⟨stpJ (bare c) s, rndR_mem.mpr (Or.inr ⟨bare c, List.mem_map.mpr ⟨c, hc, rfl⟩, s, hs.1, of_decide_eq_true hs.2, rfl⟩), rfl⟩
  · rintro ⟨x, hx, rfl⟩
    rcases rndR_mem.mp hx with z | ⟨b, hb, s, hs, es, rfl⟩
    · obtain ⟨c, hc, rfl⟩ := List.mem_map.mp z
      exact ⟨c, hc, List.mem_cons_self⟩
    · obtain ⟨c, hc, rfl⟩ := List.mem_map.mp hb
      exact ⟨c, hc, List.mem_cons_of_mem _ (List.mem_map.mpr ⟨s, List.mem_filter.mpr ⟨hs, decide_eq_true es⟩, rfl⟩)⟩
abbrev SRo : Nat × Nat → Prop := fun p => SNr 41 p ∨ p = (263, 0)
theorem SRo_SC : ∀ p, SRo p → SC p := fun p q => by
  rcases q with q | q
  · exact SNr_SC 41 p q
  · subst q; decide
theorem AR.ro (h : Sh ad ct σ) {s w : Nat} {cl : Bool} {L : List Ans} (hs : s < 40) (q : AR ad σ s L w cl) {σ' : St} (f : Fr ct SRo σ σ') : AR ad σ' s L w cl := by
  have n : ∀ c, (c = 4 ∨ c = 3 ∨ c = 128 ∨ c = 129 ∨ c = 192) → ¬ SRo (c, s) := fun c hc z => by
    simp only [SRo, SNr, Prod.mk.injEq] at z
    omega
  exact q.cg h f (by omega) (n _ (by decide)) (n _ (by decide)) (n _ (by decide)) (n _ (by decide)) (n _ (by decide))
theorem C_reach (h : Sh ad ct σ) (hw : Crw ad σ) {k s1 : Nat} {cl1 cl : Bool} {A L : List Ans} (hk : k < 40) (hs1 : s1 < 40) (q1 : AR ad σ s1 A 2 cl1) (qk : AR ad σ k L 2 cl) {Q : Int32 → St → Prop} (h0 : ∀ σ', Fr ct SRo σ σ' → Crw ad σ' → NOm (rndR A (L.map bare)) → Q 0 σ') (h1 : ∀ σ' rs, Fr ct SRo σ σ' → Crw ad σ' → ARr ad σ' 41 rs 2 → rs.Pairwise rlt → (∀ r, r ∈ rs ↔ ∃ x ∈ rndR A (L.map bare), x.1 = r) → Q 1 σ') : wX4_reach (ad 5 0 0) (ad 4 s1 0) (ad 4 k 0) σ Q := by
  have rm : ∀ s, s < 40 → room s = 32 := fun s hs => by unfold room; rw [if_neg (by omega)]
  have r41 : room 41 = 32 := rfl
  have lA : A.length ≤ 32 := by have := q1.2.2.2.1; rw [rm s1 hs1] at this; exact this
  have lL : L.length ≤ 32 := by have := qk.2.2.2.1; rw [rm k hk] at this; exact this
  have sr : ∀ p, SNr 41 p → SRo p := fun p q => Or.inl q
  have nof : ∀ (T : List (List Int32)) (rs : List (List Int32)) (r : List Int32), (∀ y, y ∈ rs ↔ y ∈ T) → rs.Pairwise rlt → rs.length = 32 → (∀ i : Nat, rs[i]? ≠ some r) → (∀ y ∈ T, y ∈ L.flatMap (rrC A)) → r ∈ L.flatMap (rrC A) → NOm (rndR A (L.map bare)) := fun T rs r hT hp hl hno hsub hr => by
    refine Or.inl ⟨rs ++ [r], ?_, by rw [List.length_append, hl, List.length_singleton]; decide, fun y hy => ?_⟩
    · unfold List.Nodup
      rw [List.pairwise_append]
      refine ⟨hp.imp (fun {a b} z (y : a = b) => rlt_ir b (by rw [y] at z; exact z)), List.pairwise_singleton _ _, fun a ha b hb z => ?_⟩
      rw [List.mem_singleton.mp hb] at z
      obtain ⟨m, hm, em⟩ := List.mem_iff_getElem.mp ha
      exact hno m (by rw [List.getElem?_eq_getElem hm, em, z])
    · rcases List.mem_append.mp hy with z | z
      · exact rr_mem.mp (hsub y ((hT y).mp z))
      · rw [List.mem_singleton.mp z]; exact rr_mem.mp hr
  have insm : ∀ (T rs : List (List Int32)) (r : List Int32) (p : Nat), (∀ y, y ∈ rs ↔ y ∈ T) → ∀ y, y ∈ (rs.take p ++ r :: rs.drop p) ↔ y ∈ T ++ [r] := fun T rs r p hT y => by
    rw [List.mem_append, List.mem_cons, List.mem_append, List.mem_singleton, ← hT]
    constructor
    · rintro (z | z | z)
      · exact Or.inl (List.mem_of_mem_take z)
      · exact Or.inr z
      · exact Or.inl (List.mem_of_mem_drop z)
    · rintro (z | z)
      · rw [← List.take_append_drop p rs] at z
        rcases List.mem_append.mp z with u | u
        · exact Or.inl u
        · exact Or.inr (Or.inr u)
      · exact Or.inr (Or.inl z)
  have old : ∀ (T rs : List (List Int32)) (r : List Int32) (i : Nat), (∀ y, y ∈ rs ↔ y ∈ T) → rs[i]? = some r → ∀ y, y ∈ rs ↔ y ∈ T ++ [r] := fun T rs r i hT hi y => by
    rw [List.mem_append, List.mem_singleton, ← hT]
    exact ⟨Or.inl, fun z => z.elim id (fun e => by rw [e]; exact List.mem_of_getElem? hi)⟩
  have out : ∀ (d i : Nat) (rs : List (List Int32)) (σ3 : St), i + d = L.length → Fr ct SRo σ σ3 → Crw ad σ3 → ARr ad σ3 41 rs 2 → rs.Pairwise rlt → (∀ y, y ∈ rs ↔ y ∈ (L.take i).flatMap (rrC A)) → lX4_reach_10 Q (d + 1) (ad 5 0 0) (ad 4 s1 0) (ad 4 k 0) (nI i) σ3 := by
    intro d
    induction d with
    | zero =>
      intro i rs σ3 hi F c q hp hm
      have hi : i = L.length := by omega
      have h3 := h.frC (F.mono SRo_SC)
      have qk3 := qk.ro h hk F
      rw [hi, List.take_length] at hm
      refine ⟨k4 h3 (by omega), fun _ => h1 σ3 rs F c q hp (fun r => (hm r).trans rr_mem), fun z => absurd ?_ z⟩
      rw [qk3.1, hi]; exact nI_le (Nat.le_refl _) (by omega)
    | succ d ih =>
      intro i rs σ3 hi F c q hp hm
      have h3 := h.frC (F.mono SRo_SC)
      have qk3 := qk.ro h hk F
      obtain ⟨e, he⟩ : ∃ e, L[i]? = some e := ⟨_, List.getElem?_eq_getElem (by omega)⟩
      have em := List.mem_of_getElem? he
      obtain ⟨j, b1, b2, b3⟩ := qk3.2.2.2.2 i e he
      obtain ⟨_, _, ere⟩ := b3.r01
      have et : L.take (i + 1) = L.take i ++ [e] := by rw [List.take_add_one, he]; rfl
      have subT : ∀ y ∈ (L.take i).flatMap (rrC A), y ∈ L.flatMap (rrC A) := fun y hy => by
        obtain ⟨c, hc, z⟩ := List.mem_flatMap.mp hy
        exact List.mem_flatMap.mpr ⟨c, List.mem_of_mem_take hc, z⟩
      have er : e.1 ∈ L.flatMap (rrC A) := List.mem_flatMap.mpr ⟨e, em, List.mem_cons_self⟩
      have inn : ∀ (d2 m : Nat) (rs : List (List Int32)) (σ4 : St), m + d2 = A.length → Fr ct SRo σ σ4 → Crw ad σ4 → ARr ad σ4 41 rs 2 → rs.Pairwise rlt → (∀ y, y ∈ rs ↔ y ∈ (L.take i).flatMap (rrC A) ++ (e.1 :: ((A.take m).filter (fun s => decide (at1 e = at0 s))).map (fun s => [at0 e, at1 s]))) → lX4_reach_46 Q (lX4_reach_10 Q (d + 1)) (d2 + 1) (ad 5 0 0) (ad 4 s1 0) (ad 4 k 0) (nI i) (ad 128 k j) (nI m) σ4 := by
        intro d2
        induction d2 with
        | zero =>
          intro m rs σ4 hm2 F4 c4 q4 hp4 hm4
          have hm2 : m = A.length := by omega
          have h4 := h.frC (F4.mono SRo_SC)
          have q14 := q1.ro h hs1 F4
          rw [hm2, List.take_length] at hm4
          refine ⟨k4 h4 (by omega), fun _ => ?_, fun z => absurd ?_ z⟩
          · rw [nI_1]
            refine ih (i + 1) rs σ4 (by omega) F4 c4 q4 hp4 (fun y => ?_)
            rw [hm4, et, List.flatMap_append, List.flatMap_singleton]
            rfl
          · rw [q14.1, hm2]; exact nI_le (Nat.le_refl _) (by omega)
        | succ d2 ih2 =>
          intro m rs σ4 hm2 F4 cw4 q4 hp4 hm4
          have h4 := h.frC (F4.mono SRo_SC)
          have q14 := q1.ro h hs1 F4
          have qk4 := qk.ro h hk F4
          obtain ⟨s, hs⟩ : ∃ s, A[m]? = some s := ⟨_, List.getElem?_eq_getElem (by omega)⟩
          have sm := List.mem_of_getElem? hs
          obtain ⟨js, a1, a2, a3⟩ := q14.2.2.2.2 m s hs
          obtain ⟨u0, u1, ue⟩ := a3.r01
          obtain ⟨j', d1, d2', d3⟩ := qk4.2.2.2.2 i e he
          have jj : j' = j := by
            have x1 := (F4.ar (k192 h (by omega)) (by decide) (c192 h (by omega)) (by simp [SRo, SNr]; omega) i).symm.trans d2'
            have x2 := (F.ar (k192 h (by omega)) (by decide) (c192 h (by omega)) (by simp [SRo, SNr]; omega) i).symm.trans b2
            exact j3 h (by omega) d1 b1 (Option.some.inj (x1.symm.trans x2))
          subst jj
          obtain ⟨v0, v1, ve⟩ := d3.r01
          have es := List.take_add_one (l := A) (i := m)
          rw [hs] at es
          have nA : ad 128 s1 js ≠ ad 263 0 0 := fun z => by
            have b := c128 h4 (by omega) a1
            rw [z, c263 h4] at b
            cases b
          have nL : ad 128 k j' ≠ ad 263 0 0 := fun z => by
            have b := c128 h4 (by omega) d1
            rw [z, c263 h4] at b
            cases b
          refine ⟨k4 h4 (by omega), fun z => absurd z (by rw [q14.1]; exact nI_ge (by omega) (by omega)), fun _ => ⟨_, p192 h4 (by omega), k192 h4 (by omega), by rw [l192 h4 (by omega), rm s1 hs1]; exact vp_in_nI (by omega) (by decide), _, by rw [show ix (nI m) = m from nI_clamp (by omega)]; exact a2, k3 h4 (by omega) a1, _, p128 h4 (by omega) a1, k5 h4, _, p263 h4, k128 h4 (by omega) d1, by rw [l128 h4 (by omega) d1]; exact vp_in_nI (n := 0) (by decide) (by decide), k263 h4, by rw [l263 h4]; exact vp_in_nI (n := 0) (by decide) (by decide), k128 h4 (by omega) a1, by rw [l128 h4 (by omega) a1]; exact vp_in_nI (n := 1) (by decide) (by decide), by rw [l263 h4]; exact vp_in_nI (n := 1) (by decide) (by decide), by rw [l128 h4 (by omega) a1]; exact vp_in_nI (n := 0) (by decide) (by decide), by rw [l128 h4 (by omega) d1]; exact vp_in_nI (n := 1) (by decide) (by decide), ?_⟩⟩
          rw [show ix 0 = 0 from rfl, show ix 1 = 1 from rfl, v0]
          have w1 : zAi (uAi σ4 (ad 263 0 0) 0 (at0 e)) (ad 128 s1 js) 1 = at1 s := by rw [yAi_uAi, yu2, if_neg (fun z => nA z.1)]; exact u1
          rw [w1]
          have w2 : zAi (uAi (uAi σ4 (ad 263 0 0) 0 (at0 e)) (ad 263 0 0) 1 (at1 s)) (ad 128 s1 js) 0 = at0 s := by rw [yAi_uAi, yu2, if_neg (fun z => nA z.1), yAi_uAi, yu2, if_neg (fun z => nA z.1)]; exact u0
          have w3 : zAi (uAi (uAi σ4 (ad 263 0 0) 0 (at0 e)) (ad 263 0 0) 1 (at1 s)) (ad 128 k j') 1 = at1 e := by rw [yAi_uAi, yu2, if_neg (fun z => nL z.1), yAi_uAi, yu2, if_neg (fun z => nL z.1)]; exact v1
          have Fu : Fr ct SRo σ4 (uAi (uAi σ4 (ad 263 0 0) 0 (at0 e)) (ad 263 0 0) 1 (at1 s)) := (Fr.rf.uAi _ _ _ (Or.inl (by rw [c263 h4]; exact Or.inr rfl))).uAi _ _ _ (Or.inl (by rw [c263 h4]; exact Or.inr rfl))
          have g0 : zAi (uAi (uAi σ4 (ad 263 0 0) 0 (at0 e)) (ad 263 0 0) 1 (at1 s)) (ad 263 0 0) 0 = at0 e := by rw [yAi_uAi, yu2, if_neg (fun z => absurd z.2 (by decide)), yAi_uAi, yu2, if_pos ⟨rfl, rfl⟩]
          have g1 : zAi (uAi (uAi σ4 (ad 263 0 0) 0 (at0 e)) (ad 263 0 0) 1 (at1 s)) (ad 263 0 0) 1 = at1 s := by rw [yAi_uAi, yu2, if_pos ⟨rfl, rfl⟩]
          have F26 : Fr ct (fun p => p = (263, 0)) σ4 (uAi (uAi σ4 (ad 263 0 0) 0 (at0 e)) (ad 263 0 0) 1 (at1 s)) := (Fr.rf.uAi _ _ _ (Or.inl (by rw [c263 h4]))).uAi _ _ _ (Or.inl (by rw [c263 h4]))
          have qu : ARr ad (uAi (uAi σ4 (ad 263 0 0) 0 (at0 e)) (ad 263 0 0) 1 (at1 s)) 41 rs 2 := q4.cg h4 F26 (by decide) (by simp) (by simp) (by simp)
          have cu : Crw ad (uAi (uAi σ4 (ad 263 0 0) 0 (at0 e)) (ad 263 0 0) 1 (at1 s)) := cw4.cg h4 F26 (fun s' _ => by simp)
          rw [w2, w3]
          generalize uAi (uAi σ4 (ad 263 0 0) 0 (at0 e)) (ad 263 0 0) 1 (at1 s) = ρ at Fu g0 g1 qu cu ⊢
          have F5 := F4.tr1 Fu
          have h5 := h.frC (F5.mono SRo_SC)
          refine ⟨fun z => ?_, fun z => ⟨_, p261 h4, k4 h4 (by decide), ?_⟩⟩
          · rw [nI_1]
            refine ih2 (m + 1) rs ρ (by omega) F5 cu qu hp4 (fun y => ?_)
            rw [hm4, es, List.filter_append]
            have : [s].filter (fun s => decide (at1 e = at0 s)) = [] := by
              rw [List.filter_cons_of_neg (p := fun s : Ans => decide (at1 e = at0 s)) (a := s) (by rw [decide_eq_false (fun q => z q.symm)]; decide), List.filter_nil]
            show _ ↔ y ∈ _ ++ (e.1 :: (((A.take m).filter (fun s => decide (at1 e = at0 s))) ++ [s].filter (fun s => decide (at1 e = at0 s))).map (fun s => [at0 e, at1 s]))
            rw [this, List.append_nil]
          · have fs : [s].filter (fun s => decide (at1 e = at0 s)) = [s] := by
              rw [List.filter_cons_of_pos (p := fun s : Ans => decide (at1 e = at0 s)) (a := s) (decide_eq_true z.symm), List.filter_nil]
            have eT : (L.take i).flatMap (rrC A) ++ (e.1 :: ((A.take (m + 1)).filter (fun s => decide (at1 e = at0 s))).map (fun s => [at0 e, at1 s])) = ((L.take i).flatMap (rrC A) ++ (e.1 :: ((A.take m).filter (fun s => decide (at1 e = at0 s))).map (fun s => [at0 e, at1 s]))) ++ [[at0 e, at1 s]] := by
              rw [es, List.filter_append]
              show _ ++ (e.1 :: (((A.take m).filter (fun s => decide (at1 e = at0 s))) ++ [s].filter (fun s => decide (at1 e = at0 s))).map (fun s => [at0 e, at1 s])) = _
              rw [fs, List.map_append, List.append_assoc]
              rfl
            have mem : [at0 e, at1 s] ∈ L.flatMap (rrC A) := List.mem_flatMap.mpr ⟨e, em, List.mem_cons_of_mem _ (List.mem_map.mpr ⟨s, List.mem_filter.mpr ⟨sm, decide_eq_true z.symm⟩, rfl⟩)⟩
            refine C_insert (r := [at0 e, at1 s]) h5 cu (by decide) qu hp4 rfl ⟨k263 h5, l263 h5, fun y v hv => ?_⟩ (fun hl hno => ⟨fun y => absurd rfl y, fun _ => h0 ρ F5 cu (nof _ rs _ hm4 hp4 hl hno (fun y hy => ?_) mem)⟩) (fun y hy => ⟨fun _ => ?_, fun y => absurd y (by decide)⟩) (fun p σ6 hpl hno hlr f6 c6 q6 hp6 => ⟨fun _ => ?_, fun y => absurd y (by decide)⟩)
            · cases y with
              | zero => have hv : some (at0 e) = some v := hv; cases hv; exact g0
              | succ y => cases y with
                | zero => have hv : some (at1 s) = some v := hv; cases hv; exact g1
                | succ y => cases hv
            · rcases List.mem_append.mp hy with u | u
              · exact subT y u
              · rcases List.mem_cons.mp u with w | w
                · rw [w]; exact er
                · obtain ⟨s2, hs2, rfl⟩ := List.mem_map.mp w
                  rw [List.mem_filter] at hs2
                  exact List.mem_flatMap.mpr ⟨e, em, List.mem_cons_of_mem _ (List.mem_map.mpr ⟨s2, List.mem_filter.mpr ⟨List.mem_of_mem_take hs2.1, hs2.2⟩, rfl⟩)⟩
            · rw [nI_1]
              exact ih2 (m + 1) rs ρ (by omega) F5 cu qu hp4 (by rw [eT]; exact old _ rs _ y hm4 hy)
            · rw [nI_1]
              exact ih2 (m + 1) _ σ6 (by omega) (F5.tr1 (f6.mono sr)) c6 q6 hp6 (by rw [eT]; exact insm _ rs _ p hm4)
      refine ⟨k4 h3 (by omega), fun z => absurd z (by rw [qk3.1]; exact nI_ge (by omega) (by omega)), fun _ => ⟨_, p192 h3 (by omega), k192 h3 (by omega), by rw [l192 h3 (by omega), rm k hk]; exact vp_in_nI (by omega) (by decide), _, by rw [show ix (nI i) = i from nI_clamp (by omega)]; exact b2, k3 h3 (by omega) b1, _, p128 h3 (by omega) b1, k5 h3, _, p261 h3, k4 h3 (by decide), ?_⟩⟩
      have e0 : ((A.take 0).filter (fun s => decide (at1 e = at0 s))).map (fun s => [at0 e, at1 s]) = [] := rfl
      refine C_insert h3 c (by decide) q hp b3.1 ⟨k128 h3 (by omega) b1, l128 h3 (by omega) b1, b3.2.1⟩ (fun hl hno => ⟨fun y => absurd rfl y, fun _ => h0 σ3 F c (nof _ rs _ hm hp hl hno subT er)⟩) (fun y hy => ⟨fun _ => ⟨A.length + 1, inn A.length 0 rs σ3 (by omega) F c q hp (by rw [e0]; exact old _ rs _ y hm hy)⟩, fun y => absurd y (by decide)⟩) (fun p σ4 hpl hno hlr f4 c4 q4 hp4 => ⟨fun _ => ⟨A.length + 1, inn A.length 0 _ σ4 (by omega) (F.tr1 (f4.mono sr)) c4 q4 hp4 (by rw [e0]; exact insm _ rs _ p hm)⟩, fun y => absurd y (by decide)⟩)
  refine ⟨k5 h, _, p261 h, k4 h (by decide), C_aclear (w := 2) h true (by decide) (by decide) (fun σ1 f1 a1 q => ⟨L.length + 1, out L.length 0 [] σ1 (by omega) (f1.mono (fun p q => Or.inl (SN_r 41 p q))) (fun s' hs' => ?_) q.rows List.Pairwise.nil (fun y => Iff.rfl)⟩)⟩
  obtain ⟨π, p1, p2⟩ := hw s' hs'
  exact ⟨π, fun j hj => ⟨(p1 j hj).1, (a1 _ _).trans (p1 j hj).2⟩, p2⟩
end NB
