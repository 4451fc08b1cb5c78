/-! the reference: PAIR -/
section MW
variable {ad : Ad} {ct : Ct} {σ : St}
theorem fold1 {x : Ans} {k : List Int64} (hc : x.2.2.2.1 ≤ 1000000000) (ht : ¬ x.2.2.2.2 < 0) : foldA x.1 k [x] = (x.1, k, x.2.2) := by
  show (x.1, k, 0 + x.2.2.1, (if x.2.2.2.1 < 1000000000 then x.2.2.2.1 else 1000000000), (if x.2.2.2.2 < 0 then 0 else x.2.2.2.2)) = _
  rw [Int64.zero_add, if_neg ht]
  by_cases c : x.2.2.2.1 < 1000000000
  · rw [if_pos c]
  · rw [if_neg c, ← Int32.le_antisymm hc (Int32.not_lt.mp c)]
theorem csB_le (x y : Int32) : csB x y ≤ 1000000000 := by
  unfold csB
  split
  · exact Int32.le_refl _
  · exact Int32.not_lt.mp (by assumption)
theorem mnT_tru {x y : Int64} (hx : tru x) (hy : tru y) : tru (mnT x y) := by unfold mnT; split <;> assumption
theorem row55 (h : Sh ad ct σ) {k : Nat} {i : Nat} {v : Int32} : WkH ad ct σ (uAi σ (ad 1055 0 0) i v) k := WkH.of h (Fr.rf.uAi _ _ _ (Or.inl (c1055 h)) : Fr ct (fun p => p = (1055, 0)) σ _) (fun p q => Or.inr (Or.inr (Or.inr (Or.inr (Or.inl q))))) (by simp)
theorem MR.r55 (h : Sh ad ct σ) {s w : Nat} {cl : Bool} {L : List Ans} (hs : s < 42) (q : MR ad σ s L w cl) (i : Nat) (v : Int32) : MR ad (uAi σ (ad 1055 0 0) i v) s L w cl := q.ss h (Fr.rf.uAi _ _ _ (Or.inl (c1055 h)) : Fr ct (fun p => p = (1055, 0)) σ _) hs (fun g hg z => by
  have z : (g, s) = (1055, 0) := z
  cases z
  omega)
theorem M_pairs (h : Sh ad ct σ) {qi k s1 s2 w1 w2 : Nat} {cl cl1 cl2 : Bool} {A B : List Ans} {q : Qst} (hqi : qi < 40) (hk : k < 40) (hs1 : s1 < 40) (hs2 : s2 < 40) (n1 : s1 ≠ k) (n2 : s2 ≠ k) (hq : QA ad σ qi q) (hp0 : plc (q.2.2.2.2.2 0) w1) (hp1 : plc (q.2.2.2.2.2 1) w2) (hw6 : w1 + w2 ≤ 6) (q1 : MR ad σ s1 A w1 cl1) (q2 : MR ad σ s2 B w2 cl2) (hc1 : cl1 = true → cl = true) (hc2 : cl2 = true → cl = true) (nP : ((paiR q.2.2.2.2.2 A B).map (fun e => e.1)).Nodup) (cA : ∀ e ∈ A, CnE e) (cB : ∀ e ∈ B, CnE e) (qo : MR ad σ k [] (w1 + w2) cl) {Q : St → Prop} {E : St → Prop} (h0 : ∀ σ', WkH ad ct σ σ' k → NOm (paiR q.2.2.2.2.2 A B) → E σ') (h1 : ∀ σ' R, WkH ad ct σ σ' k → MR ad σ' k R (w1 + w2) cl → OKr (paiR q.2.2.2.2.2 A B) R → Q σ') : wX16_pairs (ad 17 0 0) (nI qi) (ad 15 k 0) (ad 15 s1 0) (ad 15 s2 0) σ Q E := by
  have lA := q1.2.2.2.1
  have lB := q2.2.2.2.1
  have xq : ix (nI qi) = qi := nI_clamp (by omega)
  have out : ∀ (d i : Nat) (R : List Ans) (σ3 : St), i + d = A.length → WkH ad ct σ σ3 k → MR ad σ3 k R (w1 + w2) cl → Mls R (paiR q.2.2.2.2.2 (A.take i) B) → lX16_pairs_3 Q E (d + 1) (ad 17 0 0) (nI qi) (ad 15 k 0) (ad 15 s1 0) (ad 15 s2 0) (nI i) σ3 := by
    intro d
    induction d with
    | zero =>
      intro i R σ3 hi F qq M
      have hi : i = A.length := by omega
      have h3 := h.wx F
      have q13 := F.mr h (by omega) n1 q1
      rw [hi, List.take_length] at M
      refine ⟨k15 h3 (by omega), fun _ => h1 σ3 R F qq (Mel_OKr nP (by rw [← M.1]; exact qq.2.2.2.1) M (fun x hx => ?_)), fun z => absurd ?_ z⟩
      · unfold paiR at hx
        obtain ⟨a, ha, hx⟩ := List.mem_flatMap.mp hx
        obtain ⟨b, hb, rfl⟩ := List.mem_map.mp hx
        exact ⟨csB_le _ _, (mnT_tru (cA a ha).2.2.2.2.2 (cB b (List.mem_filter.mp hb).1).2.2.2.2.2).1⟩
      · rw [q13.1, hi]; exact nI_le (Nat.le_refl _) (by omega)
    | succ d ih =>
      intro i R σ3 hi F qq M
      have h3 := h.wx F
      have q13 := F.mr h (by omega) n1 q1
      obtain ⟨a, ha⟩ : ∃ a, A[i]? = some a := ⟨_, List.getElem?_eq_getElem (by omega)⟩
      have i32 : i < 32 := by omega
      refine ⟨k15 h3 (by omega), fun z => absurd z (by rw [q13.1]; exact nI_ge (by omega) (by omega)), fun _ => ⟨B.length + 1, ?_⟩⟩
      have inn : ∀ (d2 m : Nat) (R : List Ans) (σ4 : St), m + d2 = B.length → WkH ad ct σ σ4 k → MR ad σ4 k R (w1 + w2) cl → Mls R (paiR q.2.2.2.2.2 (A.take i) B ++ ((B.take m).filter (mtc q.2.2.2.2.2 a)).map (joiA a)) → lX16_pairs_15 Q E (lX16_pairs_3 Q E (d + 1)) (d2 + 1) (ad 17 0 0) (nI qi) (ad 15 k 0) (ad 15 s1 0) (ad 15 s2 0) (nI i) (nI m) σ4 := by
        intro d2
        induction d2 with
        | zero =>
          intro m R σ4 hm F4 q4 M4
          have hm : m = B.length := by omega
          have h4 := h.wx F4
          have q24 := F4.mr h (by omega) n2 q2
          rw [hm, List.take_length] at M4
          refine ⟨k15 h4 (by omega), fun _ => ?_, fun z => absurd ?_ z⟩
          · rw [nI_1]
            refine ih (i + 1) R σ4 (by omega) F4 q4 ?_
            rw [show A.take (i + 1) = A.take i ++ [a] by rw [List.take_add_one, ha]; rfl]
            unfold paiR at M4 ⊢
            rw [List.flatMap_append, List.flatMap_singleton]
            exact M4
          · rw [q24.1, hm]; exact nI_le (Nat.le_refl _) (by omega)
        | succ d2 ih2 =>
          intro m R σ4 hm F4 q4 M4
          have h4 := h.wx F4
          have q14 := F4.mr h (by omega) n1 q1
          have q24 := F4.mr h (by omega) n2 q2
          obtain ⟨z1, z2, z3, z4, z5, z6, z7, z8⟩ := hq.x h F4
          obtain ⟨b, hb⟩ : ∃ b, B[m]? = some b := ⟨_, List.getElem?_eq_getElem (by omega)⟩
          have m32 : m < 32 := by omega
          have rowa := q14.2.2.2.2 i a ha
          have rowb := q24.2.2.2.2 m b hb
          obtain ⟨u1, u2⟩ := rowa.rowD hp0 (by omega) i32
          obtain ⟨v1, v2⟩ := rowb.rowD hp1 (by omega) m32
          have es := take_flt (p := mtc q.2.2.2.2.2 a) hb
          refine ⟨k15 h4 (by omega), fun z => absurd z (by rw [q24.1]; exact nI_ge (by omega) (by omega)), fun _ => ⟨k15 h4 (by omega), _, p898 h4 (by omega), k17 h4, _, p1043 h4, k1043 h4, by rw [l1043 h4]; exact vp_in_nI (by omega) (by decide), k898 h4 (by omega), by rw [xq, z5, l898 h4 (by omega)]; exact u1, _, p898 h4 (by omega), _, p1044 h4, k1044 h4, by rw [l1044 h4]; exact vp_in_nI (by omega) (by decide), k898 h4 (by omega), by rw [xq, z6, l898 h4 (by omega)]; exact v1, ?_⟩⟩
          rw [xq, z5, z6, u2, v2]
          refine ⟨fun z => ⟨w1 + w2 + 1, ?_⟩, fun z => ?_⟩
          · have mt : mtc q.2.2.2.2.2 a b = true := decide_eq_true z
            obtain ⟨rest, er⟩ := paiR_split ha hb mt
            have jm : joiA a b ∈ paiR q.2.2.2.2.2 A B := by rw [er]; exact List.mem_append_right _ List.mem_cons_self
            rw [if_pos mt] at es
            have eM : paiR q.2.2.2.2.2 (A.take i) B ++ ((B.take (m + 1)).filter (mtc q.2.2.2.2.2 a)).map (joiA a) = (paiR q.2.2.2.2.2 (A.take i) B ++ ((B.take m).filter (mtc q.2.2.2.2.2 a)).map (joiA a)) ++ [joiA a b] := by rw [es, List.map_append, List.map_singleton, List.append_assoc]
            have am := List.mem_of_getElem? ha
            have bm := List.mem_of_getElem? hb
            have ca := cA a am
            have cb := cB b bm
            have la := rowa.1
            have lb := rowb.1
            have roww : ∀ (d3 u : Nat) (σ5 : St), u + d3 = w1 + w2 → WkH ad ct σ σ5 k → MR ad σ5 k R (w1 + w2) cl → (∀ y v, y < u → (a.1 ++ b.1)[y]? = some v → zAi σ5 (ad 1055 0 0) y = v) → lX16_pairs_69 Q E (lX16_pairs_3 Q E (d + 1)) (lX16_pairs_15 Q E (lX16_pairs_3 Q E (d + 1)) (d2 + 1)) (d3 + 1) (ad 17 0 0) (nI qi) (ad 15 k 0) (ad 15 s1 0) (ad 15 s2 0) (nI i) (nI m) (nI u) σ5 := by
              intro d3
              induction d3 with
              | zero =>
                intro u σ5 hu F5 q5 hr
                have hu : u = w1 + w2 := by omega
                have h5 := h.wx F5
                refine ⟨k15 h5 (by omega), fun _ => ⟨k17 h5, _, p1055 h5, ?_⟩, fun z => absurd ?_ z⟩
                · have nx : ad 1055 0 0 ≠ ad 898 k 0 := fun z => by
                    have b := c1055 h5
                    rw [z, c898 h5 (by omega)] at b
                    cases b
                  have lab : (a.1 ++ b.1).length = w1 + w2 := by rw [List.length_append, la, lb]
                  refine M_adds (a := 0) (r := a.1 ++ b.1) h5 (by omega) q5 (k1055 h5) (by rw [l1055 h5]; omega) (by rw [l1055 h5]; decide) nx lab (fun y v hv => by rw [Nat.zero_add]; exact hr y v (by have := (List.getElem?_eq_some_iff.mp hv).1; omega) hv) (fun full => h0 σ5 F5 (Or.inl ⟨((paiR q.2.2.2.2.2 (A.take i) B ++ ((B.take m).filter (mtc q.2.2.2.2.2 a)).map (joiA a)) ++ [joiA a b]).map (fun e => e.1), ?_, ?_, fun r hr2 => ?_⟩)) (fun σ6 hl6 F6 q6 => ?_)
                  · refine List.Pairwise.sublist (List.Sublist.map _ ?_) nP
                    rw [er]
                    exact List.Sublist.append (List.Sublist.refl _) (List.cons_sublist_cons.mpr (List.nil_sublist _))
                  · rw [List.length_map, List.length_append, List.length_singleton, ← M4.1, full]; decide
                  · obtain ⟨e, he, rfl⟩ := List.mem_map.mp hr2
                    refine ⟨e, ?_, rfl⟩
                    rw [er]
                    rcases List.mem_append.mp he with y | y
                    · exact List.mem_append_left _ y
                    · rw [List.mem_singleton.mp y]; exact List.mem_append_right _ List.mem_cons_self
                  · have W6 : WkH ad ct σ σ6 k := F5.tr (WkF.ss h5 F6).x
                    have h6 := h.wx W6
                    have q16 := W6.mr h (by omega) n1 q1
                    have q26 := W6.mr h (by omega) n2 q2
                    have I0 := pi_0 h6
                    have b256 : a.2.1.length * b.2.1.length ≤ 256 := Nat.mul_le_mul ca.1 cb.1
                    refine ⟨k17 h6, M_pilesBoth h6 (by omega) i32 (q16.2.2.2.2 i a ha) (by omega) m32 (q26.2.2.2.2 m b hb) (by rw [List.length_nil]; omega) I0 (fun σ7 I7 => ?_)⟩
                    have W7 : WkH ad ct σ σ7 k := W6.tr (WkF.pi (k := k) I7).x
                    have h7 := h.wx W7
                    have q7 := I7.mr h6 (by omega) q6
                    have g7 : (R ++ [foldA (a.1 ++ b.1) [] []])[R.length]? = some (foldA (a.1 ++ b.1) [] []) := by simp
                    have row7 := q7.2.2.2.2 _ _ g7
                    have ln := addA_len (uni a.2.1 b.2.1) []
                    rw [List.length_nil, uni_len] at ln
                    have an : Anti (addA [] (uni a.2.1 b.2.1)) := addA_anti _ List.Pairwise.nil
                    have gt : gath (paiR q.2.2.2.2.2 A B) (joiA a b).1 = uni a.2.1 b.2.1 := gath_one nP jm
                    refine ⟨k17 h7, M_lays h7 (by omega) hl6 (o := []) (by omega) I7.2.2.1 I7.2.2.2 (Nat.zero_le _) row7.2.2.2.1 row7.2.2.2.2.1 (fun big => h0 σ7 W7 (NOm.ways (r := (joiA a b).1) an big (fun x hx => ?_) (fun X => by rw [gt]; exact up0 _ X))) (fun s16 kk σ8 kp ks Y => ?_)⟩
                    · rw [gt]
                      exact (addA_mem _ hx).elim (fun z => absurd z List.not_mem_nil) id
                    · have W8 : WkH ad ct σ σ8 k := W7.tr (WkF.sl h7 Y.1).x
                      have h8 := h.wx W8
                      have q18 := W8.mr h (by omega) n1 q1
                      have q28 := W8.mr h (by omega) n2 q2
                      have ra := q18.2.2.2.2 i a ha
                      have rb := q28.2.2.2.2 m b hb
                      have kl : kk.length ≤ 16 := by rw [kp.length_eq]; exact s16
                      have q8 := Y.mr h7 (by omega) q7 g7 kl
                      rw [set_last] at q8
                      have xi : ix (nI i) = i := nI_clamp (by omega)
                      have xm : ix (nI m) = m := nI_clamp (by omega)
                      refine ⟨k15 h8 (by omega), _, p902 h8 (by omega), k902 h8 (by omega), by rw [l902 h8 (by omega)]; exact vp_in_nI i32 (by decide), k15 h8 (by omega), _, p902 h8 (by omega), k902 h8 (by omega), by rw [l902 h8 (by omega)]; exact vp_in_nI m32 (by decide), _, p900 h8 (by omega), k900 h8 (by omega), by rw [l900 h8 (by omega)]; exact vp_in_nI i32 (by decide), _, p900 h8 (by omega), k900 h8 (by omega), by rw [l900 h8 (by omega)]; exact vp_in_nI m32 (by decide), ?_⟩
                      rw [xi, xm, ra.2.2.2.2.2.2.1, rb.2.2.2.2.2.2.1]
                      show _ ∧ _
                      refine ⟨k15 h8 (by omega), _, p903 h8 (by omega), k903 h8 (by omega), by rw [l903 h8 (by omega)]; exact vp_in_nI i32 (by decide), k15 h8 (by omega), _, p903 h8 (by omega), k903 h8 (by omega), by rw [l903 h8 (by omega)]; exact vp_in_nI m32 (by decide), ?_, ?_, ?_⟩
                      · rw [ra.2.2.2.2.2.2.2]; exact tru_nan ca.2.2.2.2.2
                      · rw [rb.2.2.2.2.2.2.2]; exact tru_nan cb.2.2.2.2.2
                      · rw [ra.2.2.2.2.2.2.2, rb.2.2.2.2.2.2.2, tru_min ca.2.2.2.2.2 cb.2.2.2.2.2]
                        have g8 : (R ++ [((foldA (a.1 ++ b.1) [] []).1, kk, (foldA (a.1 ++ b.1) [] []).2.2)])[R.length]? = some ((foldA (a.1 ++ b.1) [] []).1, kk, (foldA (a.1 ++ b.1) [] []).2.2) := by simp
                        refine M_wgh h8 (by omega) q8 g8 (c := a.2.2.1 * b.2.2.1) (co := csB a.2.2.2.1 b.2.2.2.1) (t := mnT a.2.2.2.2 b.2.2.2.2) tru_0 (mnT_tru ca.2.2.2.2.2 cb.2.2.2.2.2) (fun z => ?_) (fun σ9 F9 q9 => ?_)
                        · rw [ra.2.2.2.2.2.1 (by cases cl1 with | false => rfl | true => rw [hc1 rfl] at z; cases z), rb.2.2.2.2.2.1 (by cases cl2 with | false => rfl | true => rw [hc2 rfl] at z; cases z)]
                        · rw [set_last] at q9
                          have ef : rdA ((foldA (a.1 ++ b.1) [] []).1, kk, (foldA (a.1 ++ b.1) [] []).2.2) (a.2.2.1 * b.2.2.1) (csB a.2.2.2.1 b.2.2.2.1) (mnT a.2.2.2.2 b.2.2.2.2) = ((joiA a b).1, kk, (joiA a b).2.2) := (foldA_s (joiA a b).1 kk [] (joiA a b)).trans (fold1 (csB_le _ _) (mnT_tru ca.2.2.2.2.2 cb.2.2.2.2.2).1)
                          rw [ef] at q9
                          rw [nI_1]
                          refine ih2 (m + 1) _ σ9 (by omega) (W8.tr (WkF.ss h8 F9).x) q9 ?_
                          rw [eM]
                          exact M4.push ⟨rfl, kl, CW.of an (up0 _) kp ks, rfl⟩
                · rw [q5.2.1, hu]; exact nI_le (Nat.le_refl _) (by omega)
              | succ d3 ih3 =>
                intro u σ5 hu F5 q5 hr
                have h5 := h.wx F5
                have q15 := F5.mr h (by omega) n1 q1
                have q25 := F5.mr h (by omega) n2 q2
                have ra := q15.2.2.2.2 i a ha
                have rb := q25.2.2.2.2 m b hb
                have put : ∀ v, (a.1 ++ b.1)[u]? = some v → wX16_pairs_128 Q E (lX16_pairs_3 Q E (d + 1)) (lX16_pairs_15 Q E (lX16_pairs_3 Q E (d + 1)) (d2 + 1)) (lX16_pairs_69 Q E (lX16_pairs_3 Q E (d + 1)) (lX16_pairs_15 Q E (lX16_pairs_3 Q E (d + 1)) (d2 + 1)) (d3 + 1)) (ad 17 0 0) (nI qi) (ad 15 k 0) (ad 15 s1 0) (ad 15 s2 0) (nI i) (nI m) (nI u) v (nI u) (ad 1055 0 0) σ5 := fun v hv => by
                  refine ⟨k1055 h5, by rw [l1055 h5]; exact vp_in_nI (by omega) (by decide), ?_⟩
                  rw [show ix (nI u) = u from nI_clamp (by omega), nI_1]
                  refine ih3 (u + 1) _ (by omega) (F5.tr (row55 h5)) (q5.r55 h5 (by omega) _ _) (fun y v2 hy hv2 => ?_)
                  rw [yAi_uAi, yu2]
                  by_cases c : y = u
                  · rw [if_pos ⟨rfl, c⟩]
                    rw [c, hv] at hv2
                    exact Option.some.inj hv2
                  · rw [if_neg (fun q => c q.2)]; exact hr y v2 (by omega) hv2
                refine ⟨k15 h5 (by omega), fun z => absurd z (by rw [q5.2.1]; exact nI_ge (by omega) (by omega)), fun _ => ⟨k17 h5, _, p1055 h5, k15 h5 (by omega), ?_⟩⟩
                rw [q15.2.1]
                refine pk_le w1 u (fun c => ⟨k15 h5 (by omega), _, p898 h5 (by omega), k898 h5 (by omega), ?_, ?_⟩) (fun c => ⟨_, p898 h5 (by omega), k898 h5 (by omega), ?_, ?_⟩)
                · have e1 : (6 : Int32) * nI m + nI u - nI w1 = nI (6 * m + (u - w1)) := by
                    rw [show (6 : Int32) = nI 6 from rfl, pk_mul, nI_add]
                    apply Int32.toInt_inj.mp
                    rw [Int32.toInt_sub, nI_toInt (by omega), nI_toInt (by omega), nI_toInt (by omega), Int.bmod_eq_of_le (by omega) (by omega)]
                    omega
                  rw [e1, l898 h5 (by omega)]; exact vp_in_nI (by omega) (by decide)
                · have e1 : (6 : Int32) * nI m + nI u - nI w1 = nI (6 * m + (u - w1)) := by
                    rw [show (6 : Int32) = nI 6 from rfl, pk_mul, nI_add]
                    apply Int32.toInt_inj.mp
                    rw [Int32.toInt_sub, nI_toInt (by omega), nI_toInt (by omega), nI_toInt (by omega), Int.bmod_eq_of_le (by omega) (by omega)]
                    omega
                  rw [e1, show ix (nI (6 * m + (u - w1))) = 6 * m + (u - w1) from nI_clamp (by omega)]
                  obtain ⟨v, hv⟩ : ∃ v, b.1[u - w1]? = some v := ⟨_, List.getElem?_eq_getElem (by omega)⟩
                  rw [rb.2.1 (u - w1) v hv]
                  exact put v (by rw [List.getElem?_append_right (by omega), la]; exact hv)
                · rw [(ix6 (r := i) (k := u) i32 (by omega)).2, l898 h5 (by omega)]; exact vp_in_nI (by omega) (by decide)
                · rw [(ix6 (r := i) (k := u) i32 (by omega)).1]
                  obtain ⟨v, hv⟩ : ∃ v, a.1[u]? = some v := ⟨_, List.getElem?_eq_getElem (by omega)⟩
                  rw [ra.2.1 u v hv]
                  exact put v (by rw [List.getElem?_append_left (by omega)]; exact hv)
            exact roww (w1 + w2) 0 σ4 (by omega) F4 q4 (fun y v hy => absurd hy (Nat.not_lt_zero _))
          · rw [if_neg (by unfold mtc; rw [decide_eq_false z]; decide), List.append_nil] at es
            rw [nI_1]
            exact ih2 (m + 1) R σ4 (by omega) F4 q4 (by rw [es]; exact M4)
      exact inn B.length 0 R σ3 (by omega) F qq (by rw [List.take_zero, List.filter_nil, List.map_nil, List.append_nil]; exact M)
  exact ⟨_, out A.length 0 [] σ (by omega) WkH.rf qo ⟨rfl, fun i x e hx => by rw [show paiR q.2.2.2.2.2 (A.take 0) B = [] from rfl, List.getElem?_nil] at hx; cases hx⟩⟩
end MW
