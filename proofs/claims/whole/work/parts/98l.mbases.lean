/-! the reference: BASE -/
section MU
variable {ad : Ad} {ct : Ct} {σ : St}
theorem bit1_sb {i j : Nat} (hi : i < 64) (hj : j < 64) (h : sb (bit1 i) (bit1 j)) : i = j := by
  have := sb_bt.mp h i hi (by rw [bt_bit1 hi]; exact decide_eq_true rfl)
  rw [bt_bit1 hj] at this
  exact of_decide_eq_true this
theorem basR_get {fs : List Fct} {t : Int32} {w n : Nat} {x : Ans} (h : x ∈ basR fs t w n) : ∃ i f, i < n ∧ fs[i]? = some f ∧ f.1 = t ∧ x = facA w i f := by
  unfold basR at h
  rw [List.mem_filterMap] at h
  obtain ⟨i, hi, e⟩ := h
  rw [List.mem_range] at hi
  cases hf : fs[i]? with
  | none => rw [hf] at e; cases e
  | some f =>
    rw [hf] at e
    by_cases c : f.1 = t
    · have e : (if f.1 = t then some (facA w i f) else none) = some x := e
      rw [if_pos c] at e
      exact ⟨i, f, hi, hf, c, (Option.some.inj e).symm⟩
    · have e : (if f.1 = t then some (facA w i f) else none) = some x := e
      rw [if_neg c] at e; cases e
theorem basR_mem {fs : List Fct} {t : Int32} {w n : Nat} {i : Nat} {f : Fct} (hi : i < n) (hf : fs[i]? = some f) (ht : f.1 = t) : facA w i f ∈ basR fs t w n := by
  unfold basR
  rw [List.mem_filterMap]
  exact ⟨i, List.mem_range.mpr hi, by rw [hf]; exact if_pos ht⟩
theorem basR_sub {fs : List Fct} {t : Int32} {w n m : Nat} (h : n ≤ m) {x : Ans} (hx : x ∈ basR fs t w n) : x ∈ basR fs t w m := by
  obtain ⟨i, f, h1, h2, h3, rfl⟩ := basR_get hx
  exact basR_mem (by omega) h2 h3
theorem bas_min {fs : List Fct} {t : Int32} {w n : Nat} (hn : n ≤ 60) {r : List Int32} {x y : Int64} (hx : x ∈ gath (basR fs t w n) r) (hy : y ∈ gath (basR fs t w n) r) (h : sb y x) : y = x := by
  obtain ⟨a, ha, _, hxa⟩ := gath_mem.mp hx
  obtain ⟨b, hb, _, hyb⟩ := gath_mem.mp hy
  obtain ⟨i, f, h1, h2, h3, rfl⟩ := basR_get ha
  obtain ⟨j, g, h4, h5, h6, rfl⟩ := basR_get hb
  have e1 : x = bit1 i := List.mem_singleton.mp hxa
  have e2 : y = bit1 j := List.mem_singleton.mp hyb
  rw [e1, e2] at h
  rw [e1, e2, bit1_sb (by omega) (by omega) h]
theorem M_bases {V : Vt} (W : WF V.1) (h : Sh ad ct σ) (hf : Mfs ad σ V.1.2.1) {k w : Nat} {cl : Bool} (hk : k < 40) (hw4 : w ≤ 4) (t : Int32) (qo : MR ad σ k [] w cl) {Q : St → Prop} {E : St → Prop} (h0 : ∀ σ', WkH ad ct σ σ' k → NOm (basR V.1.2.1 t w V.1.2.1.length) → E σ') (h1 : ∀ σ' R, WkH ad ct σ σ' k → MR ad σ' k R w cl → OKr (basR V.1.2.1 t w V.1.2.1.length) R → Q σ') : wX16_bases (ad 17 0 0) (ad 15 k 0) t σ Q E := by
  have hl : V.1.2.1.length ≤ 60 := W.2.2.1
  have wts : ∀ (i : Nat) (f : Fct), V.1.2.1[i]? = some f → wOK f.2.2.1 := fun i f hf => (W.2.2.2.1 i f hf).2
  have key : ∀ (d i : Nat) (L : List Ans) (σ3 : St), i + d = V.1.2.1.length → WkH ad ct σ σ3 k → MR ad σ3 k L w cl → OKr (basR V.1.2.1 t w i) L → lX16_bases_2 Q E (d + 1) (ad 17 0 0) (ad 15 k 0) t (nI i) σ3 := by
    intro d
    induction d with
    | zero =>
      intro i L σ3 hi F q o
      have hi : i = V.1.2.1.length := by omega
      have h3 := h.wx F
      have f3 := hf.x h F
      rw [hi] at o
      refine ⟨k17 h3, fun _ => h1 σ3 L F q o, fun z => absurd ?_ z⟩
      rw [f3.1, hi]; exact nI_le (Nat.le_refl _) (by omega)
    | succ d ih =>
      intro i L σ3 hi F q o
      have h3 := h.wx F
      have f3 := hf.x h F
      obtain ⟨f, hff⟩ : ∃ f, V.1.2.1[i]? = some f := ⟨_, List.getElem?_eq_getElem (by omega)⟩
      obtain ⟨g1, g2, g3, g4, g5, g6, g7⟩ := f3.2 i f hff
      have es := basR_s (t := t) (w := w) hff
      have xi : ix (nI i) = i := nI_clamp (by omega)
      have e4 : (4 : Int32) * nI i = nI (4 * i) := by rw [show (4 : Int32) = nI 4 from rfl, pk_mul]
      refine ⟨k17 h3, fun z => absurd z (by rw [f3.1]; exact nI_ge (by omega) (by omega)), fun _ => ⟨_, p1032 h3, k1032 h3, by rw [l1032 h3]; exact vp_in_nI (by omega) (by decide), ?_⟩⟩
      rw [xi, g1]
      refine ⟨fun z => ⟨_, p1033 h3, k15 h3 (by omega), ?_⟩, fun z => ?_⟩
      · rw [if_pos z] at es
        rw [e4]
        have rowv : ∀ m v, (facA w i f).1[m]? = some v → zAi σ3 (ad 1033 0 0) (4 * i + m) = v := fun m v hv => by
          obtain ⟨c1, c2⟩ := rowF_get hv
          rw [← c2]; exact g2 m (by omega)
        have lr : (facA w i f).1.length = w := rowF_len _ _
        have wk := wts i f hff
        have tx : tru (facA w i f).2.2.2.2 := wk 2 (by decide)
        have hLl := q.2.2.2.1
        have go : ∀ (n : Nat) (L1 : List Ans) (σ4 : St) (ol : Ans), WkH ad ct σ σ4 k → MR ad σ4 k L1 w cl → L1[n]? = some ol → ol.1 = (facA w i f).1 → ol = foldA ol.1 ol.2.1 (sel (basR V.1.2.1 t w i) ol.1) → ol.2.1.length ≤ 16 → (∀ X, Upw ol.2.1 X ↔ Upw (gath (basR V.1.2.1 t w i) ol.1) X) → (∀ y ∈ ol.2.1, y ∈ gath (basR V.1.2.1 t w i) ol.1) → (L1.map (fun e => e.1)).Nodup → (∀ r, (∃ e ∈ L1, e.1 = r) ↔ (∃ y ∈ basR V.1.2.1 t w i, y.1 = r) ∨ r = (facA w i f).1) → (∀ g ∈ L1, g.1 ≠ (facA w i f).1 → MeE (basR V.1.2.1 t w i) g) → wX16_bases_56 Q E (lX16_bases_2 Q E (d + 1)) (ad 17 0 0) (ad 15 k 0) t (nI i) (nI n) σ4 := by
          intro n L1 σ4 ol F4 q4 ho er efd l16 up sub nd rws oth
          have h4 := h.wx F4
          have hn := (List.getElem?_eq_some_iff.mp ho).1
          have L132 := q4.2.2.2.1
          have I0 := pi_0 h4
          refine ⟨k17 h4, M_pilesAll h4 (by omega) (by omega) (q4.2.2.2.2 n ol ho) (by rw [List.length_nil]; omega) I0 (fun σ5 I5 => ?_)⟩
          have h5 := h4.frM (I5.1.mono SP_SM)
          have ln := addA_len ol.2.1 []
          rw [List.length_nil] at ln
          refine ⟨k17 h5, M_piles h4 (by omega) _ I5 (fun σ6 I6 => ?_)⟩
          have W6 : WkF ad ct σ4 σ6 k := WkF.pi I6
          have h6 := h4.wk W6
          have q6 := I6.mr h4 (by omega) q4
          have row6 := q6.2.2.2.2 n ol ho
          have e6 : addW (addA [] ol.2.1) ((1 : Int64) <<< (Int32.toInt64 (nI i) &&& 63)) = addA [] (ol.2.1 ++ [bit1 i]) := by rw [addA_app]; rfl
          rw [e6] at I6
          have ln6 := addA_len (ol.2.1 ++ [bit1 i]) []
          rw [List.length_nil, List.length_append, List.length_singleton] at ln6
          have an6 : Anti (addA [] (ol.2.1 ++ [bit1 i])) := addA_anti _ List.Pairwise.nil
          have up6 : ∀ X, Upw (addA [] (ol.2.1 ++ [bit1 i])) X ↔ Upw (gath (basR V.1.2.1 t w (i + 1)) ol.1) X := fun X => by
            rw [up0, es, gath_app]
            have a : gath [facA w i f] ol.1 = [bit1 i] := by
              unfold gath
              rw [sel_1y er.symm]
              rfl
            rw [a]
            constructor
            · rintro ⟨y, hy, hX⟩
              rcases List.mem_append.mp hy with u | u
              · obtain ⟨v, hv, hvX⟩ := (up X).mp ⟨y, u, hX⟩
                exact ⟨v, List.mem_append_left _ hv, hvX⟩
              · exact ⟨y, List.mem_append_right _ u, hX⟩
            · rintro ⟨y, hy, hX⟩
              rcases List.mem_append.mp hy with u | u
              · obtain ⟨v, hv, hvX⟩ := (up X).mpr ⟨y, u, hX⟩
                exact ⟨v, List.mem_append_left _ hv, hvX⟩
              · exact ⟨y, List.mem_append_right _ u, hX⟩
          refine ⟨k17 h6, M_lays h6 (by omega) (by omega) (o := ol.2.1) (by omega) I6.2.2.1 I6.2.2.2 l16 row6.2.2.2.1 row6.2.2.2.2.1 (fun big => h0 σ6 (F4.tr W6.x) (Or.inr ⟨ol.1, addA [] (ol.2.1 ++ [bit1 i]), an6.nd, big, fun y hy => ?_⟩)) (fun s16 kk σ7 kp ks Y => ?_)⟩
          · have ym : y ∈ gath (basR V.1.2.1 t w V.1.2.1.length) ol.1 := by
              rcases addA_mem _ hy with u | u
              · exact absurd u List.not_mem_nil
              · rcases List.mem_append.mp u with v | v
                · obtain ⟨b, hb, be, yb⟩ := gath_mem.mp (sub y v)
                  exact gath_mem.mpr ⟨b, basR_sub (by omega) hb, be, yb⟩
                · exact gath_mem.mpr ⟨facA w i f, basR_mem (by omega) hff z, er.symm, v⟩
            exact ⟨ym, fun v hv hs => bas_min hl ym hv hs⟩
          · have W7 : WkF ad ct σ4 σ7 k := W6.tr (WkF.sl h6 Y.1)
            have h7 := h4.wk W7
            have F7 := F4.tr W7.x
            have f7 := (hf.x h F7).2 i f hff
            have cw : CW kk (gath (basR V.1.2.1 t w (i + 1)) ol.1) := CW.of an6 up6 kp ks
            have kl : kk.length ≤ 16 := by rw [kp.length_eq]; exact s16
            have q7 := Y.mr h6 (by omega) q6 ho kl
            refine ⟨k17 h7, _, p1034 h7, k1034 h7, by rw [l1034 h7]; exact vp_in_nI (by omega) (by decide), _, p1035 h7, k1035 h7, by rw [l1035 h7]; exact vp_in_nI (by omega) (by decide), _, p1037 h7, k1037 h7, by rw [l1037 h7]; exact vp_in_nI (by omega) (by decide), ?_⟩
            rw [xi, f7.2.2.1, f7.2.2.2.1, f7.2.2.2.2.1]
            have ho7 : (L1.set n (ol.1, kk, ol.2.2))[n]? = some (ol.1, kk, ol.2.2) := List.getElem?_set_self hn
            have fo : (ol.1, kk, ol.2.2) = foldA ol.1 kk (sel (basR V.1.2.1 t w i) ol.1) := by
              have := congrArg (fun y : Ans => (ol.1, kk, y.2.2)) efd
              exact this
            have tro : tru ol.2.2.2.2 := by
              rw [efd]
              exact foldA_tru _ (fun y hy => by
                obtain ⟨i2, f2, _, b2, _, rfl⟩ := basR_get (sel_sub hy).1
                exact wts i2 f2 b2 2 (by decide))
            have cnt : Int32.toInt64 (f.2.2.1 0).toInt32 = f.2.2.1 0 := by
              have a := wk 0 (by decide)
              have a1 := a.1
              have a2 : f.2.2.1 0 ≤ 9 := a.2
              rw [Int64.lt_iff_toInt_lt] at a1
              rw [Int64.le_iff_toInt_le] at a2
              have a1 : ¬ (f.2.2.1 0).toInt < 0 := a1
              have a2 : (f.2.2.1 0).toInt ≤ 9 := a2
              apply Int64.toInt_inj.mp
              rw [Int32.toInt_toInt64, Int64.toInt_toInt32]
              exact Int.bmod_eq_of_le (by omega) (by omega)
            refine M_wgh h7 (by omega) q7 ho7 (c := f.2.2.1 0) (t := f.2.2.1 2) tro (wk 2 (by decide)) (fun _ => cnt) (fun σ8 F8 q8 => ?_)
            rw [nI_1]
            have W8 := W7.tr (WkF.ss h7 F8)
            rw [List.set_set, fo, show rdA (foldA ol.1 kk (sel (basR V.1.2.1 t w i) ol.1)) (f.2.2.1 0) (f.2.2.1 1).toInt32 (f.2.2.1 2) = foldA ol.1 kk (sel (basR V.1.2.1 t w i) ol.1 ++ [facA w i f]) from foldA_s _ _ _ (facA w i f)] at q8
            have se : sel (basR V.1.2.1 t w i) ol.1 ++ [facA w i f] = sel (basR V.1.2.1 t w (i + 1)) ol.1 := by rw [es, sel_app, sel_1y er.symm]
            rw [se] at q8
            refine ih (i + 1) _ σ8 (by omega) (F4.tr W8.x) q8 ?_
            have me : MeE (basR V.1.2.1 t w (i + 1)) (foldA ol.1 kk (sel (basR V.1.2.1 t w (i + 1)) ol.1)) := foldA_me kl cw
            rw [es] at me ⊢
            exact OKr.upd L132 nd ho er er rws oth me
        refine S_find h3 (by omega) q.rows lr (k1033 h3) (by rw [l1033 h3]; omega) (by rw [l1033 h3]; decide) rowv (fun hno => ⟨fun y => absurd rfl y, fun _ => ⟨k17 h3, _, p1033 h3, ?_⟩⟩) (fun n hn en _ => ⟨fun _ => ?_, fun y => absurd y (nI_m1 (by rw [List.length_map] at hn; omega))⟩)
        · have nor : ∀ e ∈ L, e.1 ≠ (facA w i f).1 := fun e he z => by
            obtain ⟨m, hm, rfl⟩ := List.mem_iff_getElem.mp he
            exact hno m (by rw [List.getElem?_map, List.getElem?_eq_getElem hm]; exact congrArg some z)
          have norw : ∀ y ∈ basR V.1.2.1 t w i, y.1 ≠ (facA w i f).1 := fun y hy e => by
            obtain ⟨g, hg, eg⟩ := (o.2.2.1 _).mpr ⟨y, hy, e⟩
            exact nor g hg eg
          have nx : ad 1033 0 0 ≠ ad 898 k 0 := fun z => by
            have b := c1033 h3
            rw [z, c898 h3 (by omega)] at b
            cases b
          refine M_adds h3 (by omega) q (k1033 h3) (by rw [l1033 h3]; omega) (by rw [l1033 h3]; decide) nx lr rowv (fun full => h0 σ3 F (Or.inl ⟨L.map (fun e => e.1) ++ [(facA w i f).1], ?_, ?_, fun r hr => ?_⟩)) (fun σ4 hl32 F4 q4 => ?_)
          · unfold List.Nodup
            rw [List.pairwise_append]
            refine ⟨o.2.1, List.pairwise_singleton _ _, fun a ha b hb e => ?_⟩
            rw [List.mem_singleton.mp hb] at e
            obtain ⟨g, hg, eg⟩ := List.mem_map.mp ha
            exact nor g hg (eg.trans e)
          · rw [List.length_append, List.length_map, full, List.length_singleton]; decide
          · rcases List.mem_append.mp hr with u | u
            · obtain ⟨g, hg, eg⟩ := List.mem_map.mp u
              obtain ⟨y, hy, ey⟩ := (o.2.2.1 r).mp ⟨g, hg, eg⟩
              exact ⟨y, basR_sub (by omega) hy, ey⟩
            · exact ⟨facA w i f, basR_mem (by omega) hff z, (List.mem_singleton.mp u).symm⟩
          · have W4 : WkH ad ct σ3 σ4 k := (WkF.ss h3 F4).x
            have sn := sel_nil norw
            have gn : gath (basR V.1.2.1 t w i) (facA w i f).1 = [] := by unfold gath; rw [sn]; rfl
            refine go L.length _ σ4 ((facA w i f).1, [], 0, 1000000000, 0) (F.tr W4) q4 (by simp) rfl (by show _ = foldA _ _ (sel _ (facA w i f).1); rw [sn]; rfl) (Nat.zero_le _) (fun X => by show Upw [] X ↔ Upw (gath _ (facA w i f).1) X; rw [gn]) (fun y hy => absurd hy List.not_mem_nil) ?_ (fun r => ?_) (fun g hg ne => ?_)
            · rw [List.map_append]
              unfold List.Nodup
              rw [List.pairwise_append]
              refine ⟨o.2.1, List.pairwise_singleton _ _, fun a ha b hb e => ?_⟩
              have hb : b = (facA w i f).1 := List.mem_singleton.mp hb
              rw [hb] at e
              obtain ⟨g, hg, eg⟩ := List.mem_map.mp ha
              exact nor g hg (eg.trans e)
            · constructor
              · rintro ⟨g, hg, eg⟩
                rcases List.mem_append.mp hg with u | u
                · exact Or.inl ((o.2.2.1 r).mp ⟨g, u, eg⟩)
                · rw [List.mem_singleton.mp u] at eg; exact Or.inr eg.symm
              · rintro (u | u)
                · obtain ⟨g, hg, eg⟩ := (o.2.2.1 r).mpr u
                  exact ⟨g, List.mem_append_left _ hg, eg⟩
                · exact ⟨_, List.mem_append_right _ (List.mem_singleton_self _), u.symm⟩
            · rcases List.mem_append.mp hg with u | u
              · exact o.2.2.2 g u
              · rw [List.mem_singleton.mp u] at ne; exact absurd rfl ne
        · rw [List.length_map] at hn
          rw [List.getElem?_map, List.getElem?_eq_getElem hn] at en
          have en : (L[n]).1 = (facA w i f).1 := Option.some.inj en
          have me := o.2.2.2 L[n] (List.getElem_mem hn)
          refine go n L σ3 L[n] F q (List.getElem?_eq_getElem hn) en me.fold me.1 me.2.1.2.2 (fun y hy => me.2.1.sub hy) o.2.1 (fun r => ?_) (fun g hg _ => o.2.2.2 g hg)
          rw [o.2.2.1 r]
          constructor
          · exact Or.inl
          · rintro (u | u)
            · exact u
            · rw [u, ← en]
              exact (o.2.2.1 _).mp ⟨_, List.getElem_mem hn, rfl⟩
      · rw [nI_1]
        rw [if_neg z, List.append_nil] at es
        exact ih (i + 1) L σ3 (by omega) F q (by rw [es]; exact o)
  exact ⟨_, key V.1.2.1.length 0 [] σ (by omega) WkH.rf qo ⟨by decide, List.nodup_nil, fun r => ⟨fun ⟨e, he, _⟩ => absurd he List.not_mem_nil, fun ⟨e, he, _⟩ => absurd he (by rw [show basR V.1.2.1 t w 0 = [] from rfl]; exact List.not_mem_nil)⟩, fun e he => absurd he List.not_mem_nil⟩⟩
end MU
