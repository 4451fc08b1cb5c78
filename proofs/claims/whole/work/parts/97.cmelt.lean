/-! the class: raw answers melt -/
section MI
variable {ad : Ad} {ct : Ct} {σ : St}
abbrev SMt (s : Nat) : Nat × Nat → Prop := fun p => SNr s p ∨ SG p ∨ p = (262, 0)
theorem SMt_SC (s : Nat) : ∀ p, SMt s p → SC p := fun p q => by
  rcases q with q | q | q
  · exact SNr_SC s p q
  · exact SG_SC p q
  · subst q; decide
theorem Crw.cg2 (h : Sh ad ct σ) (hw : Crw ad σ) {σ' : St} {S : Nat × Nat → Prop} (f : Fr ct S σ σ') {s : Nat} (hs : s < 43) (e : ∀ i, zAr σ' (ad 192 s 0) i = zAr σ (ad 192 s 0) i) (n : ∀ s', s' ≠ s → ¬ S (192, s')) : Crw ad σ' := fun s' hs' => by
  obtain ⟨π, p1, p2⟩ := hw s' hs'
  by_cases c : s' = s
  · subst c; exact ⟨π, fun j hj => ⟨(p1 j hj).1, (e j).trans (p1 j hj).2⟩, p2⟩
  · exact ⟨π, fun j hj => ⟨(p1 j hj).1, (f.ar (k192 h hs') (by decide) (c192 h hs') (n s' c) j).trans (p1 j hj).2⟩, p2⟩
theorem AR.mt (h : Sh ad ct σ) {s s0 w : Nat} {cl : Bool} {L : List Ans} (hs0 : s0 < 43) (hne : s0 ≠ s) (q : AR ad σ s0 L w cl) {σ' : St} (f : Fr ct (SMt s) σ σ') : AR ad σ' s0 L w cl := q.cg h f hs0 (by simp [SNr]; exact hne) (by simp [SNr]; exact hne) (by simp [SNr]; exact hne) (by simp [SNr]; exact hne) (by simp [SNr]; exact hne)
/-- the rows are there: those of the first i raw ones -/
theorem C_melt1 (h : Sh ad ct σ) (hw : Crw ad σ) {s w : Nat} {cl : Bool} {RAW : List Ans} (hs : s < 40) (qr : AR ad σ 40 RAW w cl) (qo : ARr ad σ s [] w) {Q : Int32 → St → Prop} (h0 : ∀ σ', Fr ct (SNr s) σ σ' → Crw ad σ' → NOm RAW → Q 0 σ') (h1 : ∀ σ' rs, Fr ct (SNr s) σ σ' → Crw ad σ' → ARr ad σ' s rs w → rs.Pairwise rlt → (∀ r, r ∈ rs ↔ ∃ x ∈ RAW, x.1 = r) → ∃ f, lX4_melt_42 Q f (ad 5 0 0) (ad 4 s 0) 0 σ') : wX4_melt (ad 5 0 0) (ad 4 s 0) σ Q := by
  have hL := qr.2.2.2.1
  have hr40 : room 40 = 64 := rfl
  have key : ∀ (d i : Nat) (rs : List (List Int32)) (σ3 : St), i + d = RAW.length → Fr ct (SNr s) σ σ3 → Crw ad σ3 → ARr ad σ3 s rs w → rs.Pairwise rlt → (∀ r, r ∈ rs ↔ ∃ x ∈ RAW.take i, x.1 = r) → lX4_melt_2 Q (d + 1) (ad 5 0 0) (ad 4 s 0) (nI i) σ3 := by
    intro d
    induction d with
    | zero =>
      intro i rs σ3 hi f c q hp hm
      have hi : i = RAW.length := by omega
      have h3 := h.frC (f.mono (SNr_SC s))
      have q3 := qr.sn h (by decide) (by omega) f
      rw [hi, List.take_length] at hm
      refine ⟨k5 h3, _, p260 h3, k4 h3 (by decide), fun _ => h1 σ3 rs f c q hp hm, fun z => absurd ?_ z⟩
      rw [q3.1, hi]; exact nI_le (Nat.le_refl _) (by omega)
    | succ d ih =>
      intro i rs σ3 hi f c q hp hm
      have h3 := h.frC (f.mono (SNr_SC s))
      have q3 := qr.sn h (by decide) (by omega) f
      obtain ⟨e, he⟩ : ∃ e, RAW[i]? = some e := ⟨_, List.getElem?_eq_getElem (by omega)⟩
      obtain ⟨j, b1, b2, b3⟩ := q3.2.2.2.2 i e he
      have et : RAW.take (i + 1) = RAW.take i ++ [e] := by rw [List.take_add_one, he]; rfl
      refine ⟨k5 h3, _, p260 h3, k4 h3 (by decide), fun z => absurd z (by rw [q3.1]; exact nI_ge (by omega) (by omega)), fun _ => ⟨_, p192 h3 (by decide), k192 h3 (by decide), by rw [l192 h3 (by decide)]; exact vp_in_nI (by omega) (by decide), _, by rw [show ix (nI i) = i from nI_clamp (by omega)]; exact b2, k3 h3 (by decide) b1, _, p128 h3 (by decide) b1, k4 h3 (by omega), ?_⟩⟩
      have mem : ∀ rs' : List (List Int32), (∀ r, r ∈ rs' ↔ r ∈ rs ∨ r = e.1) → ∀ r, r ∈ rs' ↔ ∃ x ∈ RAW.take (i + 1), x.1 = r := fun rs' hrs r => by
        rw [hrs, hm, et]
        constructor
        · rintro (⟨x, hx, er⟩ | er)
          · exact ⟨x, List.mem_append_left _ hx, er⟩
          · exact ⟨e, List.mem_append_right _ (List.mem_singleton_self _), er.symm⟩
        · rintro ⟨x, hx, er⟩
          rcases List.mem_append.mp hx with z | z
          · exact Or.inl ⟨x, z, er⟩
          · rw [List.mem_singleton.mp z] at er; exact Or.inr er.symm
      refine C_insert h3 c (by omega) q hp b3.1 ⟨k128 h3 (by decide) b1, l128 h3 (by decide) b1, b3.2.1⟩ (fun hl hno => ⟨fun y => absurd rfl y, fun _ => h0 σ3 f c (Or.inl ⟨rs ++ [e.1], ?_, ?_, fun r hr => ?_⟩)⟩) (fun k hk => ⟨fun _ => ?_, fun y => absurd y (by decide)⟩) (fun p σ4 hpl hno hlr f4 c4 q4 hp4 => ⟨fun _ => ?_, fun y => absurd y (by decide)⟩)
      · unfold List.Nodup
        rw [List.pairwise_append]
        refine ⟨hp.imp (fun {a b} z (y : a = b) => rlt_ir b (by rw [y] at z; exact z)), List.pairwise_singleton _ _, fun a ha b hb z => ?_⟩
        rw [List.mem_singleton.mp hb] at z
        obtain ⟨m, hm2, em⟩ := List.mem_iff_getElem.mp ha
        exact hno m (by rw [List.getElem?_eq_getElem hm2, em, z])
      · rw [List.length_append, List.length_singleton, hl]
        have := room_pos s
        omega
      · rcases List.mem_append.mp hr with z | z
        · obtain ⟨x, hx, er⟩ := (hm r).mp z
          exact ⟨x, List.mem_of_mem_take hx, er⟩
        · exact ⟨e, List.mem_of_getElem? he, (List.mem_singleton.mp z).symm⟩
      · rw [nI_1]
        exact ih (i + 1) rs σ3 (by omega) f c q hp (mem rs (fun r => ⟨Or.inl, fun z => z.elim id (fun y => by rw [y]; exact List.mem_of_getElem? hk)⟩))
      · rw [nI_1]
        refine ih (i + 1) _ σ4 (by omega) (f.tr1 f4) c4 q4 hp4 (mem _ (fun r => ?_))
        rw [List.mem_append, List.mem_cons]
        constructor
        · rintro (z | z | z)
          · exact Or.inl (List.mem_of_mem_take z)
          · exact Or.inr z
          · exact Or.inl (List.mem_of_mem_drop z)
        · rintro (z | z)
          · rw [← List.take_append_drop p rs] at z
            rcases List.mem_append.mp z with y | y
            · exact Or.inl y
            · exact Or.inr (Or.inr y)
          · exact Or.inr (Or.inl z)
  exact ⟨_, key RAW.length 0 [] σ (by omega) Fr.rf hw qo List.Pairwise.nil (fun r => ⟨fun z => absurd z List.not_mem_nil, fun ⟨x, hx, _⟩ => absurd hx List.not_mem_nil⟩)⟩
theorem ARr.cg (h : Sh ad ct σ) {S : Nat × Nat → Prop} {σ' : St} (f : Fr ct S σ σ') {s w : Nat} (hs : s < 43) (s0 : ¬ S (4, s)) (s2 : ¬ S (128, s)) (s4 : ¬ S (192, s)) {rs : List (List Int32)} (q : ARr ad σ s rs w) : ARr ad σ' s rs w := by
  obtain ⟨h1, h2, h3, h4, h5⟩ := q
  have e := f.fi (k4 h hs) (by decide) (c4 h hs) s0
  refine ⟨(e _).trans h1, (e _).trans h2, h3, h4, fun i a ha => ?_⟩
  obtain ⟨j, hj, h6, h7, h8⟩ := h5 i a ha
  exact ⟨j, hj, (f.ar (k192 h hs) (by decide) (c192 h hs) s4 i).trans h6, h7, fun k v hv => (f.ai (k128 h hs hj) (by decide) (c128 h hs hj) s2 k).trans (h8 k v hv)⟩
/-- to which row each raw one goes -/
theorem C_melt2 (h : Sh ad ct σ) {s w : Nat} {cl : Bool} {RAW : List Ans} (hs : s < 40) (qr : AR ad σ 40 RAW w cl) {rs : List (List Int32)} (q : ARr ad σ s rs w) (hp : rs.Pairwise rlt) (hm : ∀ x ∈ RAW, x.1 ∈ rs) {Q : Int32 → St → Prop} (h1 : ∀ σ', Fr ct (fun p => p = (262, 0)) σ σ' → (∀ i e, RAW[i]? = some e → ∃ t, rs[t]? = some e.1 ∧ zAi σ' (ad 262 0 0) i = nI t) → ∃ f, lX4_melt_83 Q f (ad 5 0 0) (ad 4 s 0) 0 σ') : ∃ f, lX4_melt_42 Q f (ad 5 0 0) (ad 4 s 0) 0 σ := by
  have hL := qr.2.2.2.1
  have hr40 : room 40 = 64 := rfl
  have hC : ∀ p : Nat × Nat, (fun p => p = (262, 0)) p → SC p := fun p q => by have q : p = (262, 0) := q; subst q; decide
  have key : ∀ (d i : Nat) (σ3 : St), i + d = RAW.length → Fr ct (fun p => p = (262, 0)) σ σ3 → (∀ m e, m < i → RAW[m]? = some e → ∃ t, rs[t]? = some e.1 ∧ zAi σ3 (ad 262 0 0) m = nI t) → lX4_melt_42 Q (d + 1) (ad 5 0 0) (ad 4 s 0) (nI i) σ3 := by
    intro d
    induction d with
    | zero =>
      intro i σ3 hi f hg
      have hi : i = RAW.length := by omega
      have h3 := h.frC (f.mono hC)
      have q3 := qr.cg h f (by decide) (by simp) (by simp) (by simp) (by simp) (by simp)
      refine ⟨k5 h3, _, p260 h3, k4 h3 (by decide), fun _ => h1 σ3 f (fun m e he => hg m e (by have := (List.getElem?_eq_some_iff.mp he).1; omega) he), fun z => absurd ?_ z⟩
      rw [q3.1, hi]; exact nI_le (Nat.le_refl _) (by omega)
    | succ d ih =>
      intro i σ3 hi f hg
      have h3 := h.frC (f.mono hC)
      have q3 := qr.cg h f (by decide) (by simp) (by simp) (by simp) (by simp) (by simp)
      have qo3 := q.cg h f (by omega) (by simp) (by simp) (by simp)
      obtain ⟨e, he⟩ : ∃ e, RAW[i]? = some e := ⟨_, List.getElem?_eq_getElem (by omega)⟩
      obtain ⟨j, b1, b2, b3⟩ := q3.2.2.2.2 i e he
      refine ⟨k5 h3, _, p260 h3, k4 h3 (by decide), fun z => absurd z (by rw [q3.1]; exact nI_ge (by omega) (by omega)), fun _ => ⟨_, p262 h3, _, p192 h3 (by decide), k192 h3 (by decide), by rw [l192 h3 (by decide)]; exact vp_in_nI (by omega) (by decide), _, by rw [show ix (nI i) = i from nI_clamp (by omega)]; exact b2, k3 h3 (by decide) b1, _, p128 h3 (by decide) b1, k4 h3 (by omega), ?_⟩⟩
      refine A_spot h3 (by omega) qo3 hp b3.1 ⟨k128 h3 (by decide) b1, l128 h3 (by decide) b1, b3.2.1⟩ (fun hno => ?_) (fun t ht et => ⟨k262 h3, by rw [l262 h3]; exact vp_in_nI (by omega) (by decide), ?_⟩)
      · obtain ⟨m, hm2, em⟩ := List.mem_iff_getElem.mp (hm e (List.mem_of_getElem? he))
        exact absurd (by rw [List.getElem?_eq_getElem hm2, em]) (hno m)
      · rw [nI_1, show ix (nI i) = i from nI_clamp (by omega)]
        refine ih (i + 1) _ (by omega) (f.uAi _ _ _ (Or.inl (c262 h3))) (fun m e2 hm2 he2 => ?_)
        by_cases c : m = i
        · subst c
          rw [he] at he2
          cases he2
          exact ⟨t, et, by rw [yAi_uAi, yu2, if_pos ⟨rfl, rfl⟩]⟩
        · obtain ⟨t2, a1, a2⟩ := hg m e2 (by omega) he2
          exact ⟨t2, a1, by rw [yAi_uAi, yu2, if_neg (fun z => c z.2)]; exact a2⟩
  exact ⟨_, key RAW.length 0 σ (by omega) Fr.rf (fun m e hm2 => absurd hm2 (Nat.not_lt_zero _))⟩
end MI
