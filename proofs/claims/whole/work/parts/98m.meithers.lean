/-! the reference: EITHER -/
section MV
variable {ad : Ad} {ct : Ct} {σ : St}
theorem PiI.self {l : List Int64} (e1 : zFi σ 1054 (ad 17 0 0) = nI l.length) (e2 : ∀ k v, l[k]? = some v → zAj σ (ad 1053 0 0) k = v) : PiI ad ct σ σ l := ⟨Fr.rf, fun _ _ => rfl, e1, e2⟩
theorem PiI.ss (h : Sh ad ct σ) {σ1 σ2 : St} {l : List Int64} {k : Nat} (I : PiI ad ct σ σ1 l) (f : Fr ct (SS k) σ1 σ2) : PiI ad ct σ2 σ2 l := by
  have h1 := h.frM (I.1.mono SP_SM)
  exact PiI.self ((f.fi (k17 h1) (by decide) (c17 h1) (by simp) _).trans I.2.2.1) (fun m v hv => (f.aj (k1053 h1) (by decide) (c1053 h1) (by simp) _).trans (I.2.2.2 m v hv))
theorem CnE.fold {e : Ans} (h : CnE e) : e = foldA e.1 e.2.1 [e] := by
  have := rd0 h e.1 e.2.1 e.2.2.1
  have t : rdA (foldA e.1 e.2.1 []) e.2.2.1 e.2.2.2.1 e.2.2.2.2 = foldA e.1 e.2.1 [e] := foldA_s _ _ [] e
  rw [← t]
  exact this.symm
def nAr (A : List Ans) (e : Ans) : Bool := !(A.any (fun a => decide (a.1 = e.1)))
theorem nAr_f {A : List Ans} {e : Ans} : nAr A e = true ↔ ∀ a ∈ A, a.1 ≠ e.1 := by
  unfold nAr
  rw [Bool.not_eq_true', List.any_eq_false]
  exact ⟨fun h a ha z => h a ha (decide_eq_true z), fun h a ha z => h a ha (of_decide_eq_true z)⟩
theorem M_eithers (h : Sh ad ct σ) {k s1 s2 w : Nat} {cl cl1 cl2 : Bool} {A B : List Ans} (hk : k < 40) (hs1 : s1 < 40) (hs2 : s2 < 40) (n1 : s1 ≠ k) (n2 : s2 ≠ k) (q1 : MR ad σ s1 A w cl1) (q2 : MR ad σ s2 B w cl2) (hc1 : cl1 = true → cl = true) (hc2 : cl2 = true → cl = true) (nA : (A.map (fun e => e.1)).Nodup) (nB : (B.map (fun e => e.1)).Nodup) (cA : ∀ e ∈ A, CnE e) (cB : ∀ e ∈ B, CnE e) (qo : MR ad σ k [] w cl) {Q : St → Prop} {E : St → Prop} (h0 : ∀ σ', WkH ad ct σ σ' k → NOm (A ++ B) → E σ') (h1 : ∀ σ' R, WkH ad ct σ σ' k → MR ad σ' k R w cl → OKr (A ++ B) R → Q σ') : wX16_eithers (ad 17 0 0) (ad 15 k 0) (ad 15 s1 0) (ad 15 s2 0) σ Q E := by
  have lA := q1.2.2.2.1
  have lB := q2.2.2.2.1
  have hw6 := q1.2.2.1
  have two : ∀ (LA : List Ans), LA.length = A.length → (∀ (m : Nat) x e, A[m]? = some x → LA[m]? = some e → e.1 = x.1 ∧ MeE (A ++ B) e) → ∀ (d j : Nat) (σ3 : St), j + d = B.length → WkH ad ct σ σ3 k → MR ad σ3 k (LA ++ (B.take j).filter (nAr A)) w cl → lX16_eithers_140 Q E (d + 1) (ad 17 0 0) (ad 15 k 0) (ad 15 s1 0) (ad 15 s2 0) (nI j) σ3 := by
    intro LA hLA hLm d
    have mpA : LA.map (fun e => e.1) = A.map (fun e => e.1) := by
      refine List.ext_getElem (by rw [List.length_map, List.length_map, hLA]) (fun i h1 h2 => ?_)
      rw [List.length_map] at h1 h2
      rw [List.getElem_map, List.getElem_map]
      exact (hLm i _ _ (List.getElem?_eq_getElem h2) (List.getElem?_eq_getElem h1)).1
    have ndx : ∀ T : List Ans, T.Sublist B → ((LA ++ T.filter (nAr A)).map (fun e => e.1)).Nodup := fun T hT => by
      rw [List.map_append, mpA]
      unfold List.Nodup
      rw [List.pairwise_append]
      refine ⟨nA, List.Pairwise.sublist ((List.filter_sublist.trans hT).map _) nB, fun a ha b hb e => ?_⟩
      obtain ⟨x, hx, rfl⟩ := List.mem_map.mp ha
      obtain ⟨y, hy, rfl⟩ := List.mem_map.mp hb
      exact nAr_f.mp (List.mem_filter.mp hy).2 x hx e
    induction d with
    | zero =>
      intro j σ3 hj F qq
      have hj : j = B.length := by omega
      have h3 := h.wx F
      have q23 := F.mr h (by omega) n2 q2
      rw [hj, List.take_length] at qq
      refine ⟨k15 h3 (by omega), fun _ => h1 σ3 _ F qq ⟨qq.2.2.2.1, ndx B (List.Sublist.refl _), fun r => ?_, fun e he => ?_⟩, fun z => absurd ?_ z⟩
      · have a : (∃ e ∈ LA ++ B.filter (nAr A), e.1 = r) ↔ r ∈ (LA ++ B.filter (nAr A)).map (fun e => e.1) := by rw [List.mem_map]
        rw [a, List.map_append, mpA, List.mem_append, List.mem_map, List.mem_map]
        constructor
        · rintro (⟨x, hx, e⟩ | ⟨x, hx, e⟩)
          · exact ⟨x, List.mem_append_left _ hx, e⟩
          · exact ⟨x, List.mem_append_right _ (List.mem_filter.mp hx).1, e⟩
        · rintro ⟨x, hx, e⟩
          rcases List.mem_append.mp hx with u | u
          · exact Or.inl ⟨x, u, e⟩
          · by_cases c : nAr A x = true
            · exact Or.inr ⟨x, List.mem_filter.mpr ⟨u, c⟩, e⟩
            · unfold nAr at c
              rw [Bool.not_eq_true', Bool.not_eq_false, List.any_eq_true] at c
              obtain ⟨y, hy, ey⟩ := c
              exact Or.inl ⟨y, hy, (of_decide_eq_true ey).trans e⟩
      · rcases List.mem_append.mp he with u | u
        · obtain ⟨i, hi, rfl⟩ := List.mem_iff_getElem.mp u
          exact (hLm i _ _ (List.getElem?_eq_getElem (by omega)) (List.getElem?_eq_getElem hi)).2
        · have hb := (List.mem_filter.mp u).1
          have na := nAr_f.mp (List.mem_filter.mp u).2
          have s : sel (A ++ B) e.1 = [e] := by rw [sel_app, sel_nil na, sel_one nB hb]; rfl
          have ce := cB e hb
          have me : MeE (A ++ B) (foldA e.1 e.2.1 (sel (A ++ B) e.1)) := by
            refine foldA_me ce.1 ?_
            unfold gath
            rw [s]
            simpa using ce.cw
          rw [s, ← ce.fold] at me
          exact me
      · rw [q23.1, hj]; exact nI_le (Nat.le_refl _) (by omega)
    | succ d ih =>
      intro j σ3 hj F qq
      have h3 := h.wx F
      have q13 := F.mr h (by omega) n1 q1
      have q23 := F.mr h (by omega) n2 q2
      obtain ⟨b, hb⟩ : ∃ b, B[j]? = some b := ⟨_, List.getElem?_eq_getElem (by omega)⟩
      have row := q23.2.2.2.2 j b hb
      have es := take_flt (p := nAr A) hb
      have et : B.take (j + 1) = B.take j ++ [b] := by rw [List.take_add_one, hb]; rfl
      have e6 : (6 : Int32) * nI j = nI (6 * j) := by rw [show (6 : Int32) = nI 6 from rfl, pk_mul]
      refine ⟨k15 h3 (by omega), fun z => absurd z (by rw [q23.1]; exact nI_ge (by omega) (by omega)), fun _ => ⟨_, p898 h3 (by omega), k15 h3 (by omega), ?_⟩⟩
      rw [e6]
      refine S_find h3 (by omega) q13.rows row.1 (k898 h3 (by omega)) (by rw [l898 h3 (by omega)]; omega) (by rw [l898 h3 (by omega)]; decide) row.2.1 (fun hno => ⟨fun y => absurd rfl y, fun _ => ⟨k17 h3, ?_⟩⟩) (fun m hm em _ => ⟨fun _ => ?_, fun y => absurd y (nI_m1 (by rw [List.length_map] at hm; omega))⟩)
      · have na : nAr A b = true := nAr_f.mpr (fun a ha e => by
          obtain ⟨i, hi, rfl⟩ := List.mem_iff_getElem.mp ha
          exact hno i (by rw [List.getElem?_map, List.getElem?_eq_getElem hi]; exact congrArg some e))
        rw [if_pos na] at es
        refine M_copies h3 (by omega) (by omega) n2 q23 hb (cB b (List.mem_of_getElem? hb)) hc2 qq (fun full => h0 σ3 F (Or.inl ⟨(LA ++ (B.take (j + 1)).filter (nAr A)).map (fun e => e.1), ndx _ (List.take_sublist _ _), ?_, fun r hr => ?_⟩)) (fun σ4 _ W4 q4 => ?_)
        · rw [List.length_map, es, ← List.append_assoc, List.length_append, full, List.length_singleton]; decide
        · obtain ⟨e, he, rfl⟩ := List.mem_map.mp hr
          rcases List.mem_append.mp he with u | u
          · have : e.1 ∈ LA.map (fun e => e.1) := List.mem_map.mpr ⟨e, u, rfl⟩
            rw [mpA] at this
            obtain ⟨x, hx, ex⟩ := List.mem_map.mp this
            exact ⟨x, List.mem_append_left _ hx, ex⟩
          · exact ⟨e, List.mem_append_right _ (List.mem_of_mem_take (List.mem_filter.mp u).1), rfl⟩
        · rw [nI_1]
          refine ih (j + 1) σ4 (by omega) (F.tr W4.x) ?_
          rw [es, ← List.append_assoc]; exact q4
      · rw [List.length_map] at hm
        rw [List.getElem?_map, List.getElem?_eq_getElem hm] at em
        have em : (A[m]).1 = b.1 := Option.some.inj em
        have na : ¬ nAr A b = true := fun z => nAr_f.mp z _ (List.getElem_mem hm) em
        rw [if_neg na, List.append_nil] at es
        rw [nI_1]
        exact ih (j + 1) σ3 (by omega) F (by rw [es]; exact qq)
  have one : ∀ (d i : Nat) (L : List Ans) (σ3 : St), i + d = A.length → WkH ad ct σ σ3 k → L.length = i → MR ad σ3 k L w cl → (∀ (m : Nat) x e, A[m]? = some x → L[m]? = some e → e.1 = x.1 ∧ MeE (A ++ B) e) → lX16_eithers_3 Q E (d + 1) (ad 17 0 0) (ad 15 k 0) (ad 15 s1 0) (ad 15 s2 0) (nI i) σ3 := by
    intro d
    induction d with
    | zero =>
      intro i L σ3 hi F hL qq hm
      have hi : i = A.length := by omega
      have h3 := h.wx F
      have q13 := F.mr h (by omega) n1 q1
      refine ⟨k15 h3 (by omega), fun _ => ⟨B.length + 1, two L (by omega) hm B.length 0 σ3 (by omega) F (by rw [List.take_zero, List.filter_nil, List.append_nil]; exact qq)⟩, fun z => absurd ?_ z⟩
      rw [q13.1, hi]; exact nI_le (Nat.le_refl _) (by omega)
    | succ d ih =>
      intro i L σ3 hi F hL qq hm
      have h3 := h.wx F
      have q13 := F.mr h (by omega) n1 q1
      have q23 := F.mr h (by omega) n2 q2
      obtain ⟨a, ha⟩ : ∃ a, A[i]? = some a := ⟨_, List.getElem?_eq_getElem (by omega)⟩
      have am := List.mem_of_getElem? ha
      have ca := cA a am
      have row := q13.2.2.2.2 i a ha
      have e6 : (6 : Int32) * nI i = nI (6 * i) := by rw [show (6 : Int32) = nI 6 from rfl, pk_mul]
      have xi : ix (nI i) = i := nI_clamp (by omega)
      have xL : ix (nI L.length) = L.length := nI_clamp (by omega)
      refine ⟨k15 h3 (by omega), fun z => absurd z (by rw [q13.1]; exact nI_ge (by omega) (by omega)), fun _ => ⟨_, p898 h3 (by omega), k15 h3 (by omega), ?_⟩⟩
      rw [e6]
      have go : ∀ (y7 : Int32) (lb : List Ans), sel B a.1 = lb → ((y7 = -1 ∧ lb = []) ∨ ∃ m b, m < 32 ∧ y7 = nI m ∧ B[m]? = some b ∧ lb = [b]) → zK σ3 (ad 15 s1 0) = 15 ∧ ∃ a9 : Nat, zFr σ3 898 (ad 15 s1 0) = some a9 ∧ zK σ3 (ad 17 0 0) = 17 ∧ wX16_adds (ad 17 0 0) (ad 15 k 0) a9 (nI (6 * i)) σ3 (fun y13 σ12 => zK σ12 (ad 17 0 0) = 17 ∧ wX16_pilesAll (ad 17 0 0) (ad 15 s1 0) (nI i) (uFi σ12 1054 (ad 17 0 0) 0) (fun σ15 => zK σ15 (ad 15 s1 0) = 15 ∧ ∃ a17 : Nat, zFr σ15 902 (ad 15 s1 0) = some a17 ∧ zK σ15 a17 = 21 ∧ vp_in (nI i) (zL σ15 a17) ∧ ∃ a21 : Nat, zFr σ15 900 (ad 15 s1 0) = some a21 ∧ zK σ15 a21 = 20 ∧ vp_in (nI i) (zL σ15 a21) ∧ ∃ a25 : Nat, zFr σ15 903 (ad 15 s1 0) = some a25 ∧ zK σ15 a25 = 22 ∧ vp_in (nI i) (zL σ15 a25) ∧ wX16_weighs_ (ad 15 k 0) y13 (zAj σ15 a17 (ix (nI i))) (zAi σ15 a21 (ix (nI i))) (zAd σ15 a25 (ix (nI i))) σ15 (fun σ29 => ((y7 = ((-1) : Int32) → wX16_eithers_122 Q E (lX16_eithers_3 Q E (d + 1)) (ad 17 0 0) (ad 15 k 0) (ad 15 s1 0) (ad 15 s2 0) (nI i) y13 σ29) ∧ (¬ y7 = ((-1) : Int32) → zK σ29 (ad 17 0 0) = 17 ∧ wX16_pilesAll (ad 17 0 0) (ad 15 s2 0) y7 σ29 (fun σ31 => zK σ31 (ad 15 s2 0) = 15 ∧ ∃ a33 : Nat, zFr σ31 902 (ad 15 s2 0) = some a33 ∧ zK σ31 a33 = 21 ∧ vp_in y7 (zL σ31 a33) ∧ ∃ a37 : Nat, zFr σ31 900 (ad 15 s2 0) = some a37 ∧ zK σ31 a37 = 20 ∧ vp_in y7 (zL σ31 a37) ∧ ∃ a41 : Nat, zFr σ31 903 (ad 15 s2 0) = some a41 ∧ zK σ31 a41 = 22 ∧ vp_in y7 (zL σ31 a41) ∧ wX16_weighs_ (ad 15 k 0) y13 (zAj σ31 a33 (ix y7)) (zAi σ31 a37 (ix y7)) (zAd σ31 a41 (ix y7)) σ31 (fun σ45 => wX16_eithers_122 Q E (lX16_eithers_3 Q E (d + 1)) (ad 17 0 0) (ad 15 k 0) (ad 15 s1 0) (ad 15 s2 0) (nI i) y13 σ45))))))) E := by
        intro y7 lb hsel hy
        refine ⟨k15 h3 (by omega), _, p898 h3 (by omega), k17 h3, ?_⟩
        refine M_adds h3 (by omega) qq (k898 h3 (by omega)) (by rw [l898 h3 (by omega)]; omega) (by rw [l898 h3 (by omega)]; decide) (n898 h3 (by omega) (by omega) n1) row.1 row.2.1 (fun z => by omega) (fun σ4 hl4 F4 q4 => ?_)
        have W4 : WkH ad ct σ σ4 k := F.tr (WkF.ss h3 F4).x
        have h4 := h.wx W4
        have q14 := W4.mr h (by omega) n1 q1
        have I0 := pi_0 h4
        refine ⟨k17 h4, M_pilesAll h4 (by omega) (by omega) (q14.2.2.2.2 i a ha) (by rw [List.length_nil]; have := ca.1; omega) I0 (fun σ5 I5 => ?_)⟩
        have W5 : WkH ad ct σ σ5 k := W4.tr (WkF.pi (k := k) I5).x
        have h5 := h.wx W5
        have q15 := W5.mr h (by omega) n1 q1
        have q5 := I5.mr h4 (by omega) q4
        have row5 := q15.2.2.2.2 i a ha
        have g5 : (L ++ [foldA a.1 [] []])[L.length]? = some (foldA a.1 [] []) := by simp
        refine ⟨k15 h5 (by omega), _, p902 h5 (by omega), k902 h5 (by omega), by rw [l902 h5 (by omega)]; exact vp_in_nI (by omega) (by decide), _, p900 h5 (by omega), k900 h5 (by omega), by rw [l900 h5 (by omega)]; exact vp_in_nI (by omega) (by decide), _, p903 h5 (by omega), k903 h5 (by omega), by rw [l903 h5 (by omega)]; exact vp_in_nI (by omega) (by decide), ?_⟩
        rw [xi, row5.2.2.2.2.2.2.1, row5.2.2.2.2.2.2.2]
        refine M_wgh h5 (by omega) q5 g5 (c := a.2.2.1) (t := a.2.2.2.2) tru_0 ca.2.2.2.2.2 (fun z => row5.2.2.2.2.2.1 (by cases cl1 with | false => rfl | true => rw [hc1 rfl] at z; cases z)) (fun σ6 F6 q6 => ?_)
        rw [foldA_s, set_last, List.nil_append] at q6
        have W6 : WkH ad ct σ σ6 k := W5.tr (WkF.ss h5 F6).x
        have h6 := h.wx W6
        have I6 : PiI ad ct σ6 σ6 (addA [] a.2.1) := I5.ss h4 F6
        have ln := addA_len a.2.1 []
        rw [List.length_nil] at ln
        have a16 := ca.1
        have fin : ∀ (σ7 : St) (l : List Int64), WkH ad ct σ σ7 k → MR ad σ7 k (L ++ [foldA a.1 [] ([a] ++ lb)]) w cl → zFi σ7 1054 (ad 17 0 0) = nI l.length → (∀ m v, l[m]? = some v → zAj σ7 (ad 1053 0 0) m = v) → l = addA [] (a.2.1 ++ lb.flatMap (fun x => x.2.1)) → l.length ≤ 8208 → wX16_eithers_122 Q E (lX16_eithers_3 Q E (d + 1)) (ad 17 0 0) (ad 15 k 0) (ad 15 s1 0) (ad 15 s2 0) (nI i) (nI L.length) σ7 := by
          intro σ7 l W7 q7 e7 p7 el ll
          have h7 := h.wx W7
          have g7 : (L ++ [foldA a.1 [] ([a] ++ lb)])[L.length]? = some (foldA a.1 [] ([a] ++ lb)) := by simp
          have row7 := q7.2.2.2.2 _ _ g7
          have an : Anti l := by rw [el]; exact addA_anti _ List.Pairwise.nil
          have se : sel (A ++ B) a.1 = [a] ++ lb := by rw [sel_app, sel_one nA am, hsel]
          have gt : gath (A ++ B) a.1 = a.2.1 ++ lb.flatMap (fun x => x.2.1) := by unfold gath; rw [se, List.flatMap_append]; simp
          have up : ∀ X, Upw l X ↔ Upw (gath (A ++ B) a.1) X := fun X => by rw [el, up0, gt]
          refine ⟨k17 h7, M_lays h7 (by omega) hl4 (o := []) ll e7 p7 (Nat.zero_le _) row7.2.2.2.1 row7.2.2.2.2.1 (fun big => h0 σ7 W7 (NOm.ways (r := a.1) an big (fun x hx => ?_) up)) (fun s16 kk σ8 kp ks Y => ?_)⟩
          · rw [gt]
            rw [el] at hx
            exact (addA_mem _ hx).elim (fun z => absurd z List.not_mem_nil) id
          · have W8 : WkH ad ct σ σ8 k := W7.tr (WkF.sl h7 Y.1).x
            have kl : kk.length ≤ 16 := by rw [kp.length_eq]; exact s16
            have q8 := Y.mr h7 (by omega) q7 g7 kl
            rw [set_last] at q8
            rw [nI_1]
            refine ih (i + 1) _ σ8 (by omega) W8 (by rw [List.length_append, List.length_singleton, hL]) q8 (fun m x e hx he => ?_)
            by_cases c : m < L.length
            · rw [List.getElem?_append_left c] at he
              exact hm m x e hx he
            · have hb := (List.getElem?_eq_some_iff.mp he).1
              rw [List.length_append, List.length_singleton] at hb
              have em : m = L.length := by omega
              rw [em, List.getElem?_append_right (Nat.le_refl _), Nat.sub_self] at he
              have he := Option.some.inj he
              rw [em, hL, ha] at hx
              cases hx
              subst he
              refine ⟨rfl, ?_⟩
              have me : MeE (A ++ B) (foldA a.1 kk (sel (A ++ B) a.1)) := foldA_me kl (CW.of an up kp ks)
              rw [se] at me
              exact me
        refine ⟨fun z => ?_, fun z => ⟨k17 h6, ?_⟩⟩
        · have elb : lb = [] := by
            rcases hy with ⟨_, e⟩ | ⟨m, b, hm32, em, _⟩
            · exact e
            · rw [em] at z; exact absurd z (nI_m1 (by omega))
          exact fin σ6 _ W6 (by rw [elb]; exact q6) I6.2.2.1 I6.2.2.2 (by rw [elb]; simp) (by omega)
        · rcases hy with ⟨e, _⟩ | ⟨m, b, hm32, em, hbm, elb⟩
          · exact absurd e z
          · have q26 := W6.mr h (by omega) n2 q2
            have hmB := (List.getElem?_eq_some_iff.mp hbm).1
            have cb := cB b (List.mem_of_getElem? hbm)
            have b16 := cb.1
            subst em
            refine M_pilesAll h6 (by omega) hm32 (q26.2.2.2.2 m b hbm) (by omega) I6 (fun σ7 I7 => ?_)
            have W7 : WkH ad ct σ σ7 k := W6.tr (WkF.pi (k := k) I7).x
            have h7 := h.wx W7
            have q27 := W7.mr h (by omega) n2 q2
            have q7 := I7.mr h6 (by omega) q6
            have row7 := q27.2.2.2.2 m b hbm
            have g7 : (L ++ [foldA a.1 [] [a]])[L.length]? = some (foldA a.1 [] [a]) := by simp
            refine ⟨k15 h7 (by omega), _, p902 h7 (by omega), k902 h7 (by omega), by rw [l902 h7 (by omega)]; exact vp_in_nI (by omega) (by decide), _, p900 h7 (by omega), k900 h7 (by omega), by rw [l900 h7 (by omega)]; exact vp_in_nI (by omega) (by decide), _, p903 h7 (by omega), k903 h7 (by omega), by rw [l903 h7 (by omega)]; exact vp_in_nI (by omega) (by decide), ?_⟩
            rw [show ix (nI m) = m from nI_clamp (by omega), row7.2.2.2.2.2.2.1, row7.2.2.2.2.2.2.2]
            refine M_wgh h7 (by omega) q7 g7 (c := b.2.2.1) (t := b.2.2.2.2) (foldA_tru [a] (fun x hx => by rw [List.mem_singleton.mp hx]; exact ca.2.2.2.2.2)) cb.2.2.2.2.2 (fun z => row7.2.2.2.2.2.1 (by cases cl2 with | false => rfl | true => rw [hc2 rfl] at z; cases z)) (fun σ8 F8 q8 => ?_)
            rw [foldA_s, set_last] at q8
            have W8 : WkH ad ct σ σ8 k := W7.tr (WkF.ss h7 F8).x
            have I8 : PiI ad ct σ8 σ8 (addA (addA [] a.2.1) b.2.1) := I7.ss h6 F8
            have ln8 := addA_len b.2.1 (addA [] a.2.1)
            exact fin σ8 _ W8 (by rw [elb]; exact q8) I8.2.2.1 I8.2.2.2 (by rw [elb]; simp [addA_app]) (by omega)
      refine S_find h3 (by omega) q23.rows row.1 (k898 h3 (by omega)) (by rw [l898 h3 (by omega)]; omega) (by rw [l898 h3 (by omega)]; decide) row.2.1 (fun hno => go (-1) [] (sel_nil (fun b hb e => ?_)) (Or.inl ⟨rfl, rfl⟩)) (fun m hm2 em _ => ?_)
      · obtain ⟨m, hm2, rfl⟩ := List.mem_iff_getElem.mp hb
        exact hno m (by rw [List.getElem?_map, List.getElem?_eq_getElem hm2]; exact congrArg some e)
      · rw [List.length_map] at hm2
        rw [List.getElem?_map, List.getElem?_eq_getElem hm2] at em
        have em : (B[m]).1 = a.1 := Option.some.inj em
        exact go (nI m) [B[m]] (by rw [← em]; exact sel_one nB (List.getElem_mem hm2)) (Or.inr ⟨m, B[m], by omega, rfl, List.getElem?_eq_getElem hm2, rfl⟩)
  exact ⟨_, one A.length 0 [] σ (by omega) WkH.rf rfl qo (fun m x e _ he => by rw [List.getElem?_nil] at he; cases he)⟩
end MV
