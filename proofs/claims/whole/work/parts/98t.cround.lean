/-! the class: CLOSE: a round, and whether it brought something -/
section NE
variable {ad : Ad} {ct : Ct} {σ : St}
theorem C_giveW (h : Sh ad ct σ) {s j : Nat} (hs : s < 43) (hj : j < room s) {l : List Int64} (hl : l.length ≤ 8208) {τ : St} {c : Int64} {co : Int32} {tr : Int64} (I : GaI ad ct τ σ l c co tr) {Q : Int32 → St → Prop} (h0 : 16 < l.length → Q 0 σ) (h1 : ∀ (σ2 : St) (k : List Int64), l.length ≤ 16 → k.Perm l → k.Pairwise (fun a b => a ≤ b) → Fr ct (S39 s) σ σ2 → Slf ad σ σ2 s j → (∀ i v, k[i]? = some v → zAj σ2 (ad 129 s j) i = v) → zFi σ2 130 (ad 3 s j) = nI k.length → Q 1 σ2) : wX7_giveWays (ad 8 0 0) (ad 3 s j) σ Q := by
  obtain ⟨i1, i2, i3, i4, i5, i6⟩ := I
  refine C_give h hs hj i2 i3 hl h0 (fun l16 k σ2 kp ks G ka => ?_)
  have z3 : S39 s (ct (ad 3 s j)) ∨ zK σ (ad 3 s j) = 0 := Or.inl (by rw [c3 h hs hj]; exact Or.inl rfl)
  have fG : Fr ct (S39 s) σ σ2 := G.1.mono (fun p q => Or.inr q)
  refine h1 _ k l16 kp ks (fG.uFi _ _ _ z3) (fun j' h1 h2 => ?_) (fun i v hv => ?_) ?_
  · have m3 : ad 3 s j' ≠ ad 3 s j := fun z => h2 (j3 h hs h1 hj z)
    have d3 := (G.1 (ad 3 s j') (by rw [k3 h hs h1]; decide)).2 (by rw [c3 h hs h1]; intro z; cases z)
    have d128 := (G.1 (ad 128 s j') (by rw [k128 h hs h1]; decide)).2 (by rw [c128 h hs h1]; intro z; cases z)
    refine ⟨fun g => ?_, fun g => ?_, fun i => ?_, fun i => ?_⟩
    · rw [yFi_uFi, yu2, if_neg (fun z => m3 z.2)]; exact d3.1 g
    · rw [yFj_uFi]; exact d3.2.1 g
    · rw [yAi_uFi]; exact d128.2.2.1 i
    · rw [yAj_uFi]; exact G.2 j' h1 h2 i
  · rw [yAj_uFi]; exact ka i v hv
  · rw [yFi_uFi, yu2, if_pos ⟨rfl, rfl⟩, kp.length_eq]
theorem AR.w16 {s w : Nat} {cl : Bool} {L : List Ans} (q : AR ad σ s L w cl) : ∀ e ∈ L, e.2.1.length ≤ 16 := fun e he => by
  obtain ⟨i, hi, rfl⟩ := List.mem_iff_getElem.mp he
  obtain ⟨j, _, _, q⟩ := q.2.2.2.2 i _ (List.getElem?_eq_getElem hi)
  exact q.2.2.1
theorem AR.l2 {s w : Nat} {cl : Bool} {L : List Ans} (q : AR ad σ s L w cl) : ∀ e ∈ L, e.1.length = w := fun e he => by
  obtain ⟨i, hi, rfl⟩ := List.mem_iff_getElem.mp he
  obtain ⟨j, _, _, q⟩ := q.2.2.2.2 i _ (List.getElem?_eq_getElem hi)
  exact q.1
theorem C_gatherRound (h : Sh ad ct σ) (hw : Crw ad σ) {k s1 : Nat} {cl1 cl : Bool} {A L : List Ans} (hk : k < 40) (hs1 : s1 < 40) (q1 : AR ad σ s1 A 2 cl1) (qk : AR ad σ k L 2 cl) (hd : (A.map (fun e => e.1)).Nodup) (hL : (L.map (fun e => e.1)).Nodup) {rs : List (List Int32)} (q : ARr ad σ 41 rs 2) (hp : rs.Pairwise rlt) (hm : ∀ r, r ∈ rs ↔ ∃ x ∈ rndR A (L.map bare), x.1 = r) {Q : Int32 → St → Prop} (h0 : ∀ σ', Fr ct (S3g 41) σ σ' → NOm (rndR A (L.map bare)) → Q 0 σ') (h1 : ∀ σ' R, Fr ct (S3g 41) σ σ' → AR ad σ' 41 R 2 true → OKw (rndR A (L.map bare)) (R.map bare) → Q 1 σ') : wX4_gatherRound (ad 5 0 0) (ad 4 s1 0) (ad 4 k 0) σ Q := by
  have rm : ∀ s, s < 40 → room s = 32 := fun s hs => by unfold room; rw [if_neg (by omega)]
  have r41 : room 41 = 32 := rfl
  have lL : L.length ≤ 32 := by have := qk.2.2.2.1; rw [rm k hk] at this; exact this
  have hrl : rs.length ≤ 32 := q.2.2.2.1
  have key : ∀ (d t : Nat) (Ld : List Ans) (σ3 : St), t + d = rs.length → Fr ct (S3g 41) σ σ3 → Ld.length = t → (∀ (i : Nat) e, Ld[i]? = some e → rs[i]? = some e.1 ∧ MeW (rndR A (L.map bare)) (bare e) ∧ ∃ j, j < room 41 ∧ zAr σ3 (ad 192 41 0) i = some (ad 3 41 j) ∧ AnsAt ad σ3 41 j 2 true e) → lX4_gatherRound_2 Q (d + 1) (ad 5 0 0) (ad 4 s1 0) (ad 4 k 0) (nI t) σ3 := by
    intro d
    induction d with
    | zero =>
      intro t Ld σ3 ht f hl hdd
      have ht : t = rs.length := by omega
      have h3 := h.frC (f.mono (S3g_SC 41))
      have q3 := q.cg h f (by decide) (by simp) (by simp) (by simp)
      refine ⟨k5 h3, _, p261 h3, k4 h3 (by decide), fun _ => h1 σ3 Ld f ⟨by rw [hl, ht]; exact q3.1, q3.2.1, q3.2.2.1, by omega, fun i e he => (hdd i e he).2.2⟩ ⟨by rw [List.length_map]; omega, ?_, fun r => ?_, fun e he => ?_⟩, fun z => absurd ?_ z⟩
      · rw [List.pairwise_map, List.pairwise_iff_getElem]
        intro i j hi hj hij
        have a := List.getElem?_eq_some_iff.mp (hdd i _ (List.getElem?_eq_getElem hi)).1
        have b := List.getElem?_eq_some_iff.mp (hdd j _ (List.getElem?_eq_getElem hj)).1
        show rlt Ld[i].1 Ld[j].1
        rw [← a.2, ← b.2]
        exact List.pairwise_iff_getElem.mp hp i j a.1 b.1 hij
      · rw [← hm]
        constructor
        · rintro ⟨e, he, rfl⟩
          obtain ⟨e2, he2, rfl⟩ := List.mem_map.mp he
          obtain ⟨i, hi, rfl⟩ := List.mem_iff_getElem.mp he2
          exact List.mem_of_getElem? (hdd i _ (List.getElem?_eq_getElem hi)).1
        · intro hr
          obtain ⟨i, hi, er⟩ := List.mem_iff_getElem.mp hr
          have hiL : i < Ld.length := by omega
          have a := (hdd i _ (List.getElem?_eq_getElem hiL)).1
          rw [List.getElem?_eq_getElem hi, er] at a
          exact ⟨bare Ld[i], List.mem_map.mpr ⟨_, List.getElem_mem hiL, rfl⟩, (Option.some.inj a).symm⟩
      · obtain ⟨e2, he2, rfl⟩ := List.mem_map.mp he
        obtain ⟨i, hi, rfl⟩ := List.mem_iff_getElem.mp he2
        exact (hdd i _ (List.getElem?_eq_getElem hi)).2.1
      · rw [q3.1, ht]; exact nI_le (Nat.le_refl _) (by omega)
    | succ d ih =>
      intro t Ld σ3 ht f hl hdd
      have h3 := h.frC (f.mono (S3g_SC 41))
      have q3 := q.cg h f (by decide) (by simp) (by simp) (by simp)
      have q13 := q1.cg h f (by omega) (by simp) (by simp; omega) (by simp) (by simp; omega) (by simp)
      have qk3 := qk.cg h f (by omega) (by simp) (by simp; omega) (by simp) (by simp; omega) (by simp)
      have hw3 : Crw ad σ3 := hw.cg h f (fun s' _ => by simp)
      obtain ⟨r, hr⟩ : ∃ r, rs[t]? = some r := ⟨_, List.getElem?_eq_getElem (by omega)⟩
      obtain ⟨jt, a1, a2, a3, a4⟩ := q3.2.2.2.2 t r hr
      have re := row2 a3
      have z0 : zAi σ3 (ad 128 41 jt) 0 = r.getD 0 0 := a4 0 _ (by rw [re]; rfl)
      have z1 : zAi σ3 (ad 128 41 jt) 1 = r.getD 1 0 := a4 1 _ (by rw [re]; rfl)
      refine ⟨k5 h3, _, p261 h3, k4 h3 (by decide), fun z => absurd z (by rw [q3.1]; exact nI_ge (by omega) (by omega)), fun _ => ⟨_, p192 h3 (by decide), k192 h3 (by decide), by rw [l192 h3 (by decide)]; exact vp_in_nI (by omega) (by decide), _, by rw [show ix (nI t) = t from nI_clamp (by omega)]; exact a2, k3 h3 (by decide) a1, _, p128 h3 (by decide) a1, ?_⟩⟩
      refine C_gatherChains h3 hk hs1 q13 qk3 hd hL a1 z0 z1 (fun σ5 J5 => ?_)
      rw [← re] at J5
      have h5 := h3.frC (J5.1.mono SG_SC)
      have ln := addA_len (L.flatMap (gc1 A r)) []
      rw [List.length_nil] at ln
      have gl := (gc_len hd q1.w16 hL qk.w16 (r := r)).1
      have an : Anti (addA [] (L.flatMap (gc1 A r))) := addA_anti _ List.Pairwise.nil
      have gm : ∀ x, x ∈ L.flatMap (gc1 A r) ↔ x ∈ gath (rndR A (L.map bare)) r := fun x => gc_mem q1.l2 a3
      have up : ∀ X, Upw (addA [] (L.flatMap (gc1 A r))) X ↔ Upw (gath (rndR A (L.map bare)) r) X := fun X => by
        rw [addA_up]
        constructor
        · rintro (⟨w, hw, _⟩ | ⟨w, hw, hx⟩)
          · exact absurd hw List.not_mem_nil
          · exact ⟨w, (gm w).mp hw, hx⟩
        · exact fun ⟨w, hw, hx⟩ => Or.inr ⟨w, (gm w).mpr hw, hx⟩
      have sg3 : ∀ p, SG p → S3g 41 p := fun p q => by rcases q with q | q <;> simp [S3g, q]
      have s39 : ∀ p, S39 41 p → S3g 41 p := fun p q => by rcases q with q | q <;> simp [S3g, q]
      have a25 : zAr σ5 (ad 192 41 0) t = some (ad 3 41 jt) := (J5.1.ar (k192 h3 (by decide)) (by decide) (c192 h3 (by decide)) (by simp) t).trans a2
      refine ⟨k5 h5, _, p259 h5, _, p261 h5, k4 h5 (by decide), _, p192 h5 (by decide), k192 h5 (by decide), by rw [l192 h5 (by decide)]; exact vp_in_nI (by omega) (by decide), _, by rw [show ix (nI t) = t from nI_clamp (by omega)]; exact a25, k8 h5, ?_⟩
      refine C_giveW h5 (by decide) a1 (by omega) J5 (fun big => ⟨fun y => absurd rfl y, fun _ => h0 σ5 (f.tr1 (J5.1.mono sg3)) (NOm.ways an big (fun x hx => (addA_mem _ hx).elim (fun z => absurd z List.not_mem_nil) (gm x).mp) up)⟩) (fun σ6 kk l16 kp ks f6 sl ka kn => ⟨fun _ => ?_, fun y => absurd y (by decide)⟩)
      have f36 : Fr ct (S3g 41) σ3 σ6 := (J5.1.mono sg3).tr1 (f6.mono s39)
      have cw : CW kk (gath (rndR A (L.map bare)) r) := CW.of an up kp ks
      have k16 : kk.length ≤ 16 := by rw [kp.length_eq]; exact l16
      rw [nI_1]
      refine ih (t + 1) (Ld ++ [(r, kk, 0, zFi σ6 132 (ad 3 41 jt), zFj σ6 133 (ad 3 41 jt))]) σ6 (by omega) (f.tr1 f36) (by rw [List.length_append, List.length_singleton, hl]) (fun i e he => ?_)
      by_cases c1 : i < Ld.length
      · rw [List.getElem?_append_left c1] at he
        obtain ⟨b1, b2, j, b3, b4, b5⟩ := hdd i e he
        have ne := hw3.ne h3 (by decide) (show i < room 41 by omega) (show t < room 41 by omega) (by omega) b3 b4 a1 a2
        exact ⟨b1, b2, j, b3, (f36.ar (k192 h3 (by decide)) (by decide) (c192 h3 (by decide)) (by simp) i).trans b4, sl.ans b3 ne (b5.g h3 (by decide) b3 J5.1)⟩
      · have hb := (List.getElem?_eq_some_iff.mp he).1
        rw [List.length_append, List.length_singleton] at hb
        have ei : i = Ld.length := by omega
        rw [ei, List.getElem?_append_right (Nat.le_refl _), Nat.sub_self] at he
        have he : some (r, kk, (0 : Int64), zFi σ6 132 (ad 3 41 jt), zFj σ6 133 (ad 3 41 jt)) = some e := he
        cases he
        refine ⟨by rw [ei, hl]; exact hr, ⟨rfl, k16, cw⟩, jt, a1, ?_, a3, fun m v hv => ?_, k16, kn, ka, fun z => (by cases z), rfl, rfl⟩
        · rw [ei, hl]
          exact (f36.ar (k192 h3 (by decide)) (by decide) (c192 h3 (by decide)) (by simp) t).trans a2
        · exact (f36.ai (k128 h3 (by decide) a1) (by decide) (c128 h3 (by decide) a1) (by simp) m).trans (a4 m v hv)
  exact ⟨_, key rs.length 0 [] σ (by omega) Fr.rf rfl (fun i e he => by rw [List.getElem?_nil] at he; cases he)⟩
theorem C_hasWaysOf (h : Sh ad ct σ) {s j s2 j2 w w2 : Nat} {cl cl2 : Bool} {e e2 : Ans} (hs : s < 43) (hj : j < room s) (q : AnsAt ad σ s j w cl e) (hs2 : s2 < 43) (hj2 : j2 < room s2) (q2 : AnsAt ad σ s2 j2 w2 cl2 e2) {Q : Int32 → St → Prop} (h0 : e.2.1 ≠ e2.2.1 → Q 0 σ) (h1 : e.2.1 = e2.2.1 → Q 1 σ) : wX2_hasWaysOf (ad 3 s j) (ad 3 s2 j2) σ Q := by
  obtain ⟨-, -, a16, a1, a2, -⟩ := q
  obtain ⟨-, -, b16, b1, b2, -⟩ := q2
  refine ⟨k3 h hs hj, k3 h hs2 hj2, fun z => ?_, fun z => h0 (fun y => z (by rw [a1, b1, y]))⟩
  have le : e.2.1.length = e2.2.1.length := by
    rw [a1, b1] at z
    have z := congrArg Int32.toInt z
    rw [nI_toInt (by omega), nI_toInt (by omega)] at z
    omega
  have key : ∀ (d i : Nat), i + d = e.2.1.length → (∀ m : Nat, m < i → e.2.1[m]? = e2.2.1[m]?) → lX2_hasWaysOf_15 Q (d + 1) (ad 3 s j) (ad 3 s2 j2) (nI i) σ := by
    intro d
    induction d with
    | zero =>
      intro i hi hm
      have hi : i = e.2.1.length := by omega
      refine ⟨k3 h hs hj, fun _ => h1 (List.ext_getElem? (fun m => ?_)), fun y => absurd ?_ y⟩
      · by_cases c : m < i
        · exact hm m c
        · rw [List.getElem?_eq_none (by omega), List.getElem?_eq_none (by omega)]
      · rw [a1, hi]; exact nI_le (Nat.le_refl _) (by omega)
    | succ d ih =>
      intro i hi hm
      obtain ⟨x, hx⟩ : ∃ x, e.2.1[i]? = some x := ⟨_, List.getElem?_eq_getElem (by omega)⟩
      obtain ⟨y, hy⟩ : ∃ y, e2.2.1[i]? = some y := ⟨_, List.getElem?_eq_getElem (by omega)⟩
      refine ⟨k3 h hs hj, fun z => absurd z (by rw [a1]; exact nI_ge (by omega) (by omega)), fun _ => ⟨_, p129 h hs hj, k129 h hs hj, by rw [l129 h hs hj]; exact vp_in_nI (by omega) (by decide), k3 h hs2 hj2, _, p129 h hs2 hj2, k129 h hs2 hj2, by rw [l129 h hs2 hj2]; exact vp_in_nI (by omega) (by decide), ?_⟩⟩
      rw [show ix (nI i) = i from nI_clamp (by omega), a2 i x hx, b2 i y hy, nI_1]
      refine ⟨fun z => ih (i + 1) (by omega) (fun m hmm => ?_), fun z => h0 (fun ee => z ?_)⟩
      · by_cases c : m = i
        · rw [c, hx, hy, z]
        · exact hm m (by omega)
      · rw [ee, hy] at hx
        exact (Option.some.inj hx).symm
  exact ⟨_, key e.2.1.length 0 (by omega) (fun m hm => absurd hm (Nat.not_lt_zero _))⟩
theorem C_sameWays (h : Sh ad ct σ) {s s2 w w2 : Nat} {cl cl2 : Bool} {L L2 : List Ans} (hs : s < 43) (q : AR ad σ s L w cl) (hs2 : s2 < 43) (q2 : AR ad σ s2 L2 w2 cl2) {Q : Int32 → St → Prop} (h0 : L.map (fun e => e.2.1) ≠ L2.map (fun e => e.2.1) → Q 0 σ) (h1 : L.map (fun e => e.2.1) = L2.map (fun e => e.2.1) → Q 1 σ) : wX3_sameWays (ad 4 s 0) (ad 4 s2 0) σ Q := by
  have r1 := room_le s
  have r2 := room_le s2
  have l1 := q.2.2.2.1
  have l2 := q2.2.2.2.1
  refine ⟨k4 h hs, k4 h hs2, fun z => ?_, fun z => h0 (fun y => z ?_)⟩
  · have le : L.length = L2.length := by
      rw [q.1, q2.1] at z
      have z := congrArg Int32.toInt z
      rw [nI_toInt (by omega), nI_toInt (by omega)] at z
      omega
    have key : ∀ (d i : Nat), i + d = L.length → (∀ m : Nat, m < i → (L.map (fun e => e.2.1))[m]? = (L2.map (fun e => e.2.1))[m]?) → lX3_sameWays_15 Q (d + 1) (ad 4 s 0) (ad 4 s2 0) (nI i) σ := by
      intro d
      induction d with
      | zero =>
        intro i hi hm
        have hi : i = L.length := by omega
        refine ⟨k4 h hs, fun _ => h1 (List.ext_getElem? (fun m => ?_)), fun y => absurd ?_ y⟩
        · by_cases c : m < i
          · exact hm m c
          · rw [List.getElem?_eq_none (by rw [List.length_map]; omega), List.getElem?_eq_none (by rw [List.length_map]; omega)]
        · rw [q.1, hi]; exact nI_le (Nat.le_refl _) (by omega)
      | succ d ih =>
        intro i hi hm
        obtain ⟨x, hx⟩ : ∃ x, L[i]? = some x := ⟨_, List.getElem?_eq_getElem (by omega)⟩
        obtain ⟨y, hy⟩ : ∃ y, L2[i]? = some y := ⟨_, List.getElem?_eq_getElem (by omega)⟩
        obtain ⟨j, a1, a2, a3⟩ := q.2.2.2.2 i x hx
        obtain ⟨j2, b1, b2, b3⟩ := q2.2.2.2.2 i y hy
        refine ⟨k4 h hs, fun z => absurd z (by rw [q.1]; exact nI_ge (by omega) (by omega)), fun _ => ⟨_, p192 h hs, k192 h hs, by rw [l192 h hs]; exact vp_in_nI (by omega) (by omega), _, by rw [show ix (nI i) = i from nI_clamp (by omega)]; exact a2, k4 h hs2, _, p192 h hs2, k192 h hs2, by rw [l192 h hs2]; exact vp_in_nI (by omega) (by omega), _, by rw [show ix (nI i) = i from nI_clamp (by omega)]; exact b2, k3 h hs a1, ?_⟩⟩
        refine C_hasWaysOf h hs a1 a3 hs2 b1 b3 (fun z => ⟨fun y => absurd rfl y, fun _ => h0 (fun ee => z ?_)⟩) (fun z => ⟨fun _ => ?_, fun y => absurd y (by decide)⟩)
        · have ee := congrArg (fun l : List (List Int64) => l[i]?) ee
          simp only [List.getElem?_map, hx, hy, Option.map_some] at ee
          exact Option.some.inj ee
        · rw [nI_1]
          refine ih (i + 1) (by omega) (fun m hmm => ?_)
          by_cases c : m = i
          · rw [c, List.getElem?_map, List.getElem?_map, hx, hy]
            show some x.2.1 = some y.2.1
            rw [z]
          · exact hm m (by omega)
    exact ⟨_, key L.length 0 (by omega) (fun m hm => absurd hm (Nat.not_lt_zero _))⟩
  · have := congrArg List.length y
    rw [List.length_map, List.length_map] at this
    rw [q.1, q2.1, this]
/-- the same ways: the rounds have ended -/
theorem same_end {A K R : List Ans} (hK : K.Pairwise (fun a b => rlt a.1 b.1)) (hb : ∀ e ∈ K, e = bare e) (o : OKw (rndR A K) R) (e : R.map (fun e => e.2.1) = K.map (fun e => e.2.1)) : R = K := by
  have sub : ∀ e ∈ K.map (fun e => e.1), e ∈ R.map (fun e => e.1) := fun r hr => by
    obtain ⟨x, hx, rfl⟩ := List.mem_map.mp hr
    obtain ⟨y, hy, ey⟩ := (o.2.2.1 x.1).mpr ⟨x, rndR_mem.mpr (Or.inl hx), rfl⟩
    exact List.mem_map.mpr ⟨y, hy, ey⟩
  have le := congrArg List.length e
  rw [List.length_map, List.length_map] at le
  have nK : (K.map (fun e => e.1)).Nodup := rows_nd hK
  have nR : (R.map (fun e => e.1)).Nodup := rows_nd o.2.1
  have sub2 : ∀ e ∈ R.map (fun e => e.1), e ∈ K.map (fun e => e.1) := fun r hr => by
    by_cases c : r ∈ K.map (fun e => e.1)
    · exact c
    · have := (List.nodup_cons.mpr ⟨c, nK⟩).length_le_of_subset (l₂ := R.map (fun e => e.1)) (fun y hy => by
        rcases List.mem_cons.mp hy with z | z
        · rw [z]; exact hr
        · exact sub y z)
      rw [List.length_cons, List.length_map, List.length_map] at this
      omega
  have pR : (R.map (fun e => e.1)).Pairwise rlt := by rw [List.pairwise_map]; exact o.2.1
  have pK : (K.map (fun e => e.1)).Pairwise rlt := by rw [List.pairwise_map]; exact hK
  have er : R.map (fun e => e.1) = K.map (fun e => e.1) := by
    have g : ∀ l : List (List Int32), (l.map (fun r => ((r, [], 0, 0, 0) : Ans))).map (fun e => e.1) = l := fun l => by rw [List.map_map]; exact List.map_id l
    have := rows_ext (R := (R.map (fun e => e.1)).map (fun r => ((r, [], 0, 0, 0) : Ans))) (S := (K.map (fun e => e.1)).map (fun r => ((r, [], 0, 0, 0) : Ans))) (by rw [List.pairwise_map]; exact pR) (by rw [List.pairwise_map]; exact pK) (fun x => by
      constructor
      · intro hx
        obtain ⟨r, hr, rfl⟩ := List.mem_map.mp hx
        exact List.mem_map.mpr ⟨r, sub2 r hr, rfl⟩
      · intro hx
        obtain ⟨r, hr, rfl⟩ := List.mem_map.mp hx
        exact List.mem_map.mpr ⟨r, sub r hr, rfl⟩)
    have := congrArg (fun l : List Ans => l.map (fun e => e.1)) this
    simp only [g] at this
    exact this
  apply List.ext_getElem?
  intro i
  have a := congrArg (fun l : List (List Int32) => l[i]?) er
  have b := congrArg (fun l : List (List Int64) => l[i]?) e
  simp only [List.getElem?_map] at a b
  cases hx : R[i]? with
  | none =>
    rw [hx] at a
    cases hy : K[i]? with
    | none => rfl
    | some y => rw [hy] at a; cases a
  | some x =>
    rw [hx] at a b
    cases hy : K[i]? with
    | none => rw [hy] at a; cases a
    | some y =>
      rw [hy] at a b
      have a : x.1 = y.1 := Option.some.inj a
      have b : x.2.1 = y.2.1 := Option.some.inj b
      rw [(o.2.2.2 x (List.mem_of_getElem? hx)).1, hb y (List.mem_of_getElem? hy)]
      unfold bare
      rw [a, b]
end NE
