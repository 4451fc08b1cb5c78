/-! the reference: CUT -/
section MX
variable {ad : Ad} {ct : Ct} {σ : St}
theorem go56 (h : Sh ad ct σ) {k : Nat} {i : Nat} {v : Int32} : WkH ad ct σ (uAi σ (ad 1056 0 0) i v) k := WkH.of h (Fr.rf.uAi _ _ _ (Or.inl (c1056 h)) : Fr ct (fun p => p = (1056, 0)) σ _) (fun p q => Or.inr (Or.inr (Or.inr (Or.inr (Or.inr q))))) (by simp)
theorem MR.r56 (h : Sh ad ct σ) {s w : Nat} {cl : Bool} {L : List Ans} (hs : s < 42) (q : MR ad σ s L w cl) (i : Nat) (v : Int32) : MR ad (uAi σ (ad 1056 0 0) i v) s L w cl := q.ss h (Fr.rf.uAi _ _ _ (Or.inl (c1056 h)) : Fr ct (fun p => p = (1056, 0)) σ _) hs (fun g hg z => by
  have z : (g, s) = (1056, 0) := z
  cases z
  omega)
theorem rd1056 (h : Sh ad ct σ) {k : Nat} {σ1 : St} (W : WkF ad ct σ σ1 k) (i : Nat) : zAi σ1 (ad 1056 0 0) i = zAi σ (ad 1056 0 0) i := W.1.ai (k1056 h) (by decide) (c1056 h) (by simp [SS]) i
theorem M_cuts (h : Sh ad ct σ) {qi k s1 w w1 : Nat} {cl cl1 : Bool} {A : List Ans} {q : Qst} (hqi : qi < 40) (hk : k < 40) (hs1 : s1 < 40) (n1 : s1 ≠ k) (hq : QA ad σ qi q) (hw4 : w ≤ 4) (hp : ∀ m, m < w → plc (q.2.2.2.2.2 m) w1) (q1 : MR ad σ s1 A w1 cl1) (hc1 : cl1 = true → cl = true) (cA : ∀ e ∈ A, CnE e) (qo : MR ad σ k [] w cl) {Q : St → Prop} {E : St → Prop} (h0 : ∀ σ', WkH ad ct σ σ' k → NOm (A.map (cutA w q.2.2.2.2.2)) → E σ') (h1 : ∀ σ' R, WkH ad ct σ σ' k → MR ad σ' k R w cl → OKr (A.map (cutA w q.2.2.2.2.2)) R → Q σ') : wX16_cuts (ad 17 0 0) (nI qi) (ad 15 k 0) (ad 15 s1 0) σ Q E := by
  have lA := q1.2.2.2.1
  have hw6 := q1.2.2.1
  have xq : ix (nI qi) = qi := nI_clamp (by omega)
  have gR : ∀ (i : Nat) a, A[i]? = some a → (A.map (cutA w q.2.2.2.2.2))[i]? = some (cutA w q.2.2.2.2.2 a) := fun i a ha => by rw [List.getElem?_map, ha]; rfl
  have lR : (A.map (cutA w q.2.2.2.2.2)).length = A.length := List.length_map _
  have w16 : ∀ e ∈ A.map (cutA w q.2.2.2.2.2), e.2.1.length ≤ 16 := fun e he => by
    obtain ⟨a, ha, rfl⟩ := List.mem_map.mp he
    exact (cA a ha).1
  have tR : ∀ e ∈ A.map (cutA w q.2.2.2.2.2), tru e.2.2.2.2 := fun e he => by
    obtain ⟨a, ha, rfl⟩ := List.mem_map.mp he
    exact (cA a ha).2.2.2.2.2
  -- the ways of each row
  have two : ∀ (d t : Nat) (L : List Ans) (σ3 : St), t + d = L.length → WkH ad ct σ σ3 k → MR ad σ3 k L w cl → (L.map (fun e => e.1)).Nodup → rowsEq (A.map (cutA w q.2.2.2.2.2)) L → (∀ (n : Nat) e, L[n]? = some e → (n < t → MeE (A.map (cutA w q.2.2.2.2.2)) e) ∧ (t ≤ n → e = foldA e.1 [] (sel (A.map (cutA w q.2.2.2.2.2)) e.1))) → (∀ (m : Nat) x, (A.map (cutA w q.2.2.2.2.2))[m]? = some x → ∃ n e, L[n]? = some e ∧ e.1 = x.1 ∧ zAi σ3 (ad 1056 0 0) m = nI n) → lX16_cuts_172 Q E (d + 1) (ad 17 0 0) (ad 15 k 0) (ad 15 s1 0) (nI t) σ3 := by
    intro d
    induction d with
    | zero =>
      intro t L σ3 ht F qq nd re hm hg
      have ht : t = L.length := by omega
      have h3 := h.wx F
      have l32 := qq.2.2.2.1
      refine ⟨k15 h3 (by omega), fun _ => h1 σ3 L F qq ⟨l32, nd, re, fun e he => ?_⟩, fun z => absurd ?_ z⟩
      · obtain ⟨n, hn, rfl⟩ := List.mem_iff_getElem.mp he
        exact (hm n _ (List.getElem?_eq_getElem hn)).1 (by omega)
      · rw [qq.1, ht]; exact nI_le (Nat.le_refl _) (by omega)
    | succ d ih =>
      intro t L σ3 ht F qq nd re hm hg
      have h3 := h.wx F
      have l32 := qq.2.2.2.1
      obtain ⟨e, he⟩ : ∃ e, L[t]? = some e := ⟨_, List.getElem?_eq_getElem (by omega)⟩
      have ef := (hm t e he).2 (Nat.le_refl _)
      have tl := (List.getElem?_eq_some_iff.mp he).1
      have I0 := pi_0 h3
      refine ⟨k15 h3 (by omega), fun z => absurd z (by rw [qq.1]; exact nI_ge (by omega) (by omega)), fun _ => ⟨k17 h3, A.length + 1, ?_⟩⟩
      have inn : ∀ (d2 m : Nat) (σ4 : St), m + d2 = A.length → PiI ad ct σ3 σ4 (addA [] (gath ((A.map (cutA w q.2.2.2.2.2)).take m) e.1)) → lX16_cuts_189 Q E (lX16_cuts_172 Q E (d + 1)) (d2 + 1) (ad 17 0 0) (ad 15 k 0) (ad 15 s1 0) (nI t) (nI m) σ4 := by
        intro d2
        induction d2 with
        | zero =>
          intro m σ4 hm2 I4
          have hm2 : m = A.length := by omega
          have W4 : WkF ad ct σ3 σ4 k := WkF.pi I4
          have F4 := F.tr W4.x
          have h4 := h.wx F4
          have q14 := F4.mr h (by omega) n1 q1
          have q4 := I4.mr h3 (by omega) qq
          have row4 := q4.2.2.2.2 t e he
          rw [hm2, ← lR, List.take_length] at I4
          have ln := addA_len (gath (A.map (cutA w q.2.2.2.2.2)) e.1) []
          have gl := gath_len w16 e.1
          rw [List.length_nil] at ln
          rw [lR] at gl
          have an : Anti (addA [] (gath (A.map (cutA w q.2.2.2.2.2)) e.1)) := addA_anti _ List.Pairwise.nil
          have e0 : e.2.1 = [] := by rw [ef]; rfl
          refine ⟨k15 h4 (by omega), fun _ => ⟨k17 h4, M_lays h4 (by omega) (by omega) (o := []) (by omega) I4.2.2.1 I4.2.2.2 (Nat.zero_le _) (by have := row4.2.2.2.1; rw [e0] at this; exact this) (fun i v hv => by rw [List.getElem?_nil] at hv; cases hv) (fun big => h0 σ4 F4 (NOm.ways (r := e.1) an big (fun x hx => (addA_mem _ hx).elim (fun z => absurd z List.not_mem_nil) id) (up0 _))) (fun s16 kk σ5 kp ks Y => ?_)⟩, fun z => absurd ?_ z⟩
          · have W5 := W4.tr (WkF.sl h4 Y.1)
            have kl : kk.length ≤ 16 := by rw [kp.length_eq]; exact s16
            have q5 := Y.mr h4 (by omega) q4 he kl
            have fo : (e.1, kk, e.2.2) = foldA e.1 kk (sel (A.map (cutA w q.2.2.2.2.2)) e.1) := congrArg (fun y : Ans => (e.1, kk, y.2.2)) ef
            have mp : (L.set t (e.1, kk, e.2.2)).map (fun e => e.1) = L.map (fun e => e.1) := by
              rw [List.map_set]
              refine List.ext_getElem? (fun i => ?_)
              by_cases c : i = t
              · subst c
                rw [List.getElem?_set_self (by rw [List.length_map]; exact tl), List.getElem?_map, he]
                rfl
              · rw [List.getElem?_set_ne (fun z => c z.symm)]
            rw [nI_1]
            refine ih (t + 1) _ σ5 (by rw [List.length_set]; omega) (F.tr W5.x) q5 (by rw [mp]; exact nd) (fun r => ?_) (fun n g hg2 => ?_) (fun m2 x hx => ?_)
            · have a : (∃ e' ∈ L.set t (e.1, kk, e.2.2), e'.1 = r) ↔ r ∈ (L.set t (e.1, kk, e.2.2)).map (fun e => e.1) := by rw [List.mem_map]
              have b : (∃ e' ∈ L, e'.1 = r) ↔ r ∈ L.map (fun e => e.1) := by rw [List.mem_map]
              rw [a, mp, ← b]; exact re r
            · by_cases c : n = t
              · subst c
                rw [List.getElem?_set_self tl] at hg2
                have hg2 := Option.some.inj hg2
                refine ⟨fun _ => ?_, fun z => absurd z (by omega)⟩
                rw [← hg2, fo]
                exact foldA_me kl (CW.of an (up0 _) kp ks)
              · rw [List.getElem?_set_ne (fun z => c z.symm)] at hg2
                obtain ⟨b1, b2⟩ := hm n g hg2
                exact ⟨fun z => b1 (by omega), fun z => b2 (by omega)⟩
            · obtain ⟨n, g, b1, b2, b3⟩ := hg m2 x hx
              by_cases c : n = t
              · subst c
                refine ⟨n, (e.1, kk, e.2.2), List.getElem?_set_self tl, ?_, (rd1056 h3 W5 m2).trans b3⟩
                rw [he] at b1
                cases b1
                exact b2
              · exact ⟨n, g, by rw [List.getElem?_set_ne (fun z => c z.symm)]; exact b1, b2, (rd1056 h3 W5 m2).trans b3⟩
          · rw [q14.1, hm2]; exact nI_le (Nat.le_refl _) (by omega)
        | succ d2 ih2 =>
          intro m σ4 hm2 I4
          have W4 : WkF ad ct σ3 σ4 k := WkF.pi I4
          have F4 := F.tr W4.x
          have h4 := h.wx F4
          have q14 := F4.mr h (by omega) n1 q1
          obtain ⟨a, ha⟩ : ∃ a, A[m]? = some a := ⟨_, List.getElem?_eq_getElem (by omega)⟩
          have hx := gR m a ha
          obtain ⟨n, g, b1, b2, b3⟩ := hg m _ hx
          have b34 : zAi σ4 (ad 1056 0 0) m = nI n := (rd1056 h3 W4 m).trans b3
          have nl := (List.getElem?_eq_some_iff.mp b1).1
          refine ⟨k15 h4 (by omega), fun z => absurd z (by rw [q14.1]; exact nI_ge (by omega) (by omega)), fun _ => ⟨k17 h4, _, p1056 h4, k1056 h4, by rw [l1056 h4]; exact vp_in_nI (by omega) (by decide), ?_⟩⟩
          rw [show ix (nI m) = m from nI_clamp (by omega), b34]
          have un : n = t ↔ (cutA w q.2.2.2.2.2 a).1 = e.1 := by
            constructor
            · intro z
              rw [z, he] at b1
              cases b1
              exact b2.symm
            · intro z
              have pw := List.pairwise_iff_getElem.mp nd
              have g1 := (List.getElem?_eq_some_iff.mp b1).2
              have g2 := (List.getElem?_eq_some_iff.mp he).2
              rcases Nat.lt_trichotomy n t with y | y | y
              · have := pw n t (by rw [List.length_map]; exact nl) (by rw [List.length_map]; exact tl) y
                rw [List.getElem_map, List.getElem_map, g1, g2, b2, z] at this
                exact absurd rfl this
              · exact y
              · have := pw t n (by rw [List.length_map]; exact tl) (by rw [List.length_map]; exact nl) y
                rw [List.getElem_map, List.getElem_map, g1, g2, b2, z] at this
                exact absurd rfl this
          refine ⟨fun z => ?_, fun z => ?_⟩
          · have ne : ¬ (cutA w q.2.2.2.2.2 a).1 = e.1 := fun y => z (by rw [un.mpr y])
            rw [nI_1]
            exact ih2 (m + 1) σ4 (by omega) (by rw [(sel_n hx ne).1]; exact I4)
          · have ey : (cutA w q.2.2.2.2.2 a).1 = e.1 := un.mp (by
              have z := congrArg Int32.toInt z
              rw [nI_toInt (by omega), nI_toInt (by omega)] at z
              omega)
            have ln := addA_len (gath ((A.map (cutA w q.2.2.2.2.2)).take m) e.1) []
            have gl := gath_len (raw := (A.map (cutA w q.2.2.2.2.2)).take m) (fun x hx => w16 x (List.mem_of_mem_take hx)) e.1
            rw [List.length_nil] at ln
            rw [List.length_take, lR] at gl
            have a16 := (cA a (List.mem_of_getElem? ha)).1
            refine M_pilesAll h3 (by omega) (by omega) ((F.mr h (by omega) n1 q1).2.2.2.2 m a ha) (by omega) I4 (fun σ5 I5 => ?_)
            rw [nI_1]
            refine ih2 (m + 1) σ5 (by omega) ?_
            rw [(sel_y hx ey).1, addA_app]
            exact I5
      exact inn A.length 0 _ (by omega) I0
  have one : ∀ (d i : Nat) (L : List Ans) (σ3 : St), i + d = A.length → WkH ad ct σ σ3 k → L.length ≤ i → MR ad σ3 k L w cl → (L.map (fun e => e.1)).Nodup → rowsEq ((A.map (cutA w q.2.2.2.2.2)).take i) L → (∀ e ∈ L, e = foldA e.1 [] (sel ((A.map (cutA w q.2.2.2.2.2)).take i) e.1)) → (∀ (m : Nat) x, m < i → (A.map (cutA w q.2.2.2.2.2))[m]? = some x → ∃ n e, L[n]? = some e ∧ e.1 = x.1 ∧ zAi σ3 (ad 1056 0 0) m = nI n) → lX16_cuts_3 Q E (d + 1) (ad 17 0 0) (nI qi) (ad 15 k 0) (ad 15 s1 0) (nI i) σ3 := by
    intro d
    induction d with
    | zero =>
      intro i L σ3 hi F hL qq nd re hm hg
      have hi : i = A.length := by omega
      have h3 := h.wx F
      have q13 := F.mr h (by omega) n1 q1
      rw [hi, ← lR, List.take_length] at re hm
      refine ⟨k15 h3 (by omega), fun _ => ⟨L.length + 1, two L.length 0 L σ3 (by omega) F qq nd re (fun n e he => ⟨fun z => absurd z (Nat.not_lt_zero _), fun _ => hm e (List.mem_of_getElem? he)⟩) (fun m x hx => hg m x (by have := (List.getElem?_eq_some_iff.mp hx).1; omega) hx)⟩, fun z => absurd ?_ z⟩
      rw [q13.1, hi]; exact nI_le (Nat.le_refl _) (by omega)
    | succ d ih =>
      intro i L σ3 hi F hL qq nd re hm hg
      have h3 := h.wx F
      have q13 := F.mr h (by omega) n1 q1
      obtain ⟨a, ha⟩ : ∃ a, A[i]? = some a := ⟨_, List.getElem?_eq_getElem (by omega)⟩
      have hx := gR i a ha
      have ca := cA a (List.mem_of_getElem? ha)
      have i32 : i < 32 := by omega
      have xi : ix (nI i) = i := nI_clamp (by omega)
      have et : (A.map (cutA w q.2.2.2.2.2)).take (i + 1) = (A.map (cutA w q.2.2.2.2.2)).take i ++ [cutA w q.2.2.2.2.2 a] := by rw [List.take_add_one, hx]; rfl
      refine ⟨k15 h3 (by omega), fun z => absurd z (by rw [q13.1]; exact nI_ge (by omega) (by omega)), fun _ => ⟨w + 1, ?_⟩⟩
      have inn : ∀ (d2 u : Nat) (σ4 : St), u + d2 = w → WkH ad ct σ σ4 k → MR ad σ4 k L w cl → (∀ m, zAi σ4 (ad 1056 0 0) m = zAi σ3 (ad 1056 0 0) m) → (∀ y v, y < u → (cutA w q.2.2.2.2.2 a).1[y]? = some v → zAi σ4 (ad 1055 0 0) y = v) → lX16_cuts_15 Q E (lX16_cuts_3 Q E (d + 1)) (d2 + 1) (ad 17 0 0) (nI qi) (ad 15 k 0) (ad 15 s1 0) (nI i) (nI u) σ4 := by
        intro d2
        induction d2 with
        | zero =>
          intro u σ4 hu F4 q4 g56 hr
          have hu : u = w := by omega
          have h4 := h.wx F4
          have lr : (cutA w q.2.2.2.2.2 a).1.length = w := rowF_len _ _
          have rv : ∀ y v, (cutA w q.2.2.2.2.2 a).1[y]? = some v → zAi σ4 (ad 1055 0 0) (0 + y) = v := fun y v hv => by rw [Nat.zero_add]; exact hr y v (by have := (List.getElem?_eq_some_iff.mp hv).1; omega) hv
          have go : ∀ (n : Nat) (L1 : List Ans) (σ5 : St) (o : Ans), WkH ad ct σ σ5 k → MR ad σ5 k L1 w cl → (∀ m, zAi σ5 (ad 1056 0 0) m = zAi σ3 (ad 1056 0 0) m) → L1[n]? = some o → o.1 = (cutA w q.2.2.2.2.2 a).1 → L1.length ≤ i + 1 → (L1.map (fun e => e.1)).Nodup → (∀ r, (∃ e ∈ L1, e.1 = r) ↔ (∃ y ∈ (A.map (cutA w q.2.2.2.2.2)).take i, y.1 = r) ∨ r = (cutA w q.2.2.2.2.2 a).1) → (∀ e ∈ L1, e = foldA e.1 [] (sel ((A.map (cutA w q.2.2.2.2.2)).take i) e.1)) → (∀ (m : Nat) x, m < i → (A.map (cutA w q.2.2.2.2.2))[m]? = some x → ∃ n e, L1[n]? = some e ∧ e.1 = x.1 ∧ zAi σ3 (ad 1056 0 0) m = nI n) → wX16_cuts_127 Q E (lX16_cuts_3 Q E (d + 1)) (ad 17 0 0) (nI qi) (ad 15 k 0) (ad 15 s1 0) (nI i) (nI n) σ5 := by
            intro n L1 σ5 o F5 q5 g5 ho er ll nd1 re1 hm1 hg1
            have h5 := h.wx F5
            have q15 := F5.mr h (by omega) n1 q1
            have row5 := q15.2.2.2.2 i a ha
            have nl := (List.getElem?_eq_some_iff.mp ho).1
            have l132 := q5.2.2.2.1
            have eo := hm1 o (List.mem_of_getElem? ho)
            refine ⟨k17 h5, _, p1056 h5, k1056 h5, by rw [l1056 h5]; exact vp_in_nI i32 (by decide), k15 h5 (by omega), _, p902 h5 (by omega), k902 h5 (by omega), by rw [l902 h5 (by omega)]; exact vp_in_nI i32 (by decide), _, p900 h5 (by omega), k900 h5 (by omega), by rw [l900 h5 (by omega)]; exact vp_in_nI i32 (by decide), _, p903 h5 (by omega), k903 h5 (by omega), by rw [l903 h5 (by omega)]; exact vp_in_nI i32 (by decide), ?_⟩
            have F6 := F5.tr (go56 (k := k) (i := i) (v := nI n) h5)
            have h6 := h.wx F6
            have q6 := q5.r56 h5 (by omega) i (nI n)
            have c900 : zAi (uAi σ5 (ad 1056 0 0) i (nI n)) (ad 900 s1 0) i = a.2.2.2.1 := by
              have := (F6.mr h (by omega) n1 q1).2.2.2.2 i a ha
              exact this.2.2.2.2.2.2.1
            have g6 : ∀ m, zAi (uAi σ5 (ad 1056 0 0) i (nI n)) (ad 1056 0 0) m = if m = i then nI n else zAi σ3 (ad 1056 0 0) m := fun m => by
              rw [yAi_uAi, yu2]
              by_cases c : m = i
              · rw [if_pos ⟨rfl, c⟩, if_pos c]
              · rw [if_neg (fun z => c z.2), if_neg c]; exact g5 m
            rw [xi, c900, row5.2.2.2.2.2.2.2]
            generalize uAi σ5 (ad 1056 0 0) i (nI n) = ρ at F6 h6 q6 g6 ⊢
            refine M_wgh h6 (by omega) q6 ho (c := a.2.2.1) (t := a.2.2.2.2) ?_ ca.2.2.2.2.2 (fun z => row5.2.2.2.2.2.1 (by cases cl1 with | false => rfl | true => rw [hc1 rfl] at z; cases z)) (fun σ7 F7 q7 => ?_)
            · rw [eo]
              exact foldA_tru _ (fun x hx => tR x (List.mem_of_mem_take (sel_sub hx).1))
            · have W7 := WkF.ss h6 F7
              rw [eo, show rdA (foldA o.1 [] (sel ((A.map (cutA w q.2.2.2.2.2)).take i) o.1)) a.2.2.1 a.2.2.2.1 a.2.2.2.2 = foldA o.1 [] (sel ((A.map (cutA w q.2.2.2.2.2)).take i) o.1 ++ [cutA w q.2.2.2.2.2 a]) from foldA_s _ _ _ (cutA w q.2.2.2.2.2 a)] at q7
              have se : sel ((A.map (cutA w q.2.2.2.2.2)).take i) o.1 ++ [cutA w q.2.2.2.2.2 a] = sel ((A.map (cutA w q.2.2.2.2.2)).take (i + 1)) o.1 := by rw [et, sel_app, sel_1y er.symm]
              rw [se] at q7
              have mp : (L1.set n (foldA o.1 [] (sel ((A.map (cutA w q.2.2.2.2.2)).take (i + 1)) o.1))).map (fun e => e.1) = L1.map (fun e => e.1) := by
                rw [List.map_set]
                refine List.ext_getElem? (fun m => ?_)
                by_cases c : m = n
                · subst c
                  rw [List.getElem?_set_self (by rw [List.length_map]; exact nl), List.getElem?_map, ho]
                  rfl
                · rw [List.getElem?_set_ne (fun z => c z.symm)]
              rw [nI_1]
              refine ih (i + 1) _ σ7 (by omega) (F6.tr W7.x) (by rw [List.length_set]; exact ll) q7 (by rw [mp]; exact nd1) (fun r => ?_) (fun e he => ?_) (fun m x hm2 hx2 => ?_)
              · have a1 : (∃ e' ∈ L1.set n (foldA o.1 [] (sel ((A.map (cutA w q.2.2.2.2.2)).take (i + 1)) o.1)), e'.1 = r) ↔ r ∈ (L1.set n (foldA o.1 [] (sel ((A.map (cutA w q.2.2.2.2.2)).take (i + 1)) o.1))).map (fun e => e.1) := by rw [List.mem_map]
                have b1 : (∃ e' ∈ L1, e'.1 = r) ↔ r ∈ L1.map (fun e => e.1) := by rw [List.mem_map]
                rw [a1, mp, ← b1, re1, et]
                constructor
                · rintro (⟨y, hy, e⟩ | e)
                  · exact ⟨y, List.mem_append_left _ hy, e⟩
                  · exact ⟨_, List.mem_append_right _ (List.mem_singleton_self _), e.symm⟩
                · rintro ⟨y, hy, e⟩
                  rcases List.mem_append.mp hy with z | z
                  · exact Or.inl ⟨y, z, e⟩
                  · rw [List.mem_singleton.mp z] at e; exact Or.inr e.symm
              · obtain ⟨m, hm2, rfl⟩ := List.mem_iff_getElem.mp he
                rw [List.length_set] at hm2
                by_cases c : m = n
                · subst c
                  rw [List.getElem_set_self]
                  rfl
                · rw [List.getElem_set_ne (fun z => c z.symm)]
                  have me := hm1 _ (List.getElem_mem hm2)
                  have ne : (cutA w q.2.2.2.2.2 a).1 ≠ (L1[m]).1 := fun z => by
                    have pw := List.pairwise_iff_getElem.mp nd1
                    have ho2 := (List.getElem?_eq_some_iff.mp ho).2
                    rcases Nat.lt_or_gt_of_ne c with y | y
                    · have := pw m n (by rw [List.length_map]; exact hm2) (by rw [List.length_map]; exact nl) y
                      rw [List.getElem_map, List.getElem_map, ho2, er] at this
                      exact this z.symm
                    · have := pw n m (by rw [List.length_map]; exact nl) (by rw [List.length_map]; exact hm2) y
                      rw [List.getElem_map, List.getElem_map, ho2, er] at this
                      exact this z
                  have s2 : sel ((A.map (cutA w q.2.2.2.2.2)).take (i + 1)) (L1[m]).1 = sel ((A.map (cutA w q.2.2.2.2.2)).take i) (L1[m]).1 := by
                    generalize (L1[m]).1 = rr at ne
                    rw [et, sel_app, sel_1n ne, List.append_nil]
                  exact me.trans (congrArg (foldA (L1[m]).1 []) s2.symm)
              · have key2 : ∀ (n2 : Nat) e2, L1[n2]? = some e2 → ∃ e3, (L1.set n (foldA o.1 [] (sel ((A.map (cutA w q.2.2.2.2.2)).take (i + 1)) o.1)))[n2]? = some e3 ∧ e3.1 = e2.1 := fun n2 e2 h2 => by
                  by_cases c : n2 = n
                  · subst c
                    rw [ho] at h2
                    cases h2
                    exact ⟨_, List.getElem?_set_self nl, rfl⟩
                  · exact ⟨e2, by rw [List.getElem?_set_ne (fun z => c z.symm)]; exact h2, rfl⟩
                by_cases c : m = i
                · subst c
                  rw [hx] at hx2
                  cases hx2
                  obtain ⟨e3, c1, c2⟩ := key2 n o ho
                  exact ⟨n, e3, c1, c2.trans er, by rw [rd1056 h6 W7, g6, if_pos rfl]⟩
                · obtain ⟨n2, e2, c1, c2, c3⟩ := hg1 m x (by omega) hx2
                  obtain ⟨e3, c4, c5⟩ := key2 n2 e2 c1
                  exact ⟨n2, e3, c4, c5.trans c2, by rw [rd1056 h6 W7, g6, if_neg c]; exact c3⟩
          refine ⟨k15 h4 (by omega), fun _ => ⟨k17 h4, _, p1055 h4, ?_⟩, fun z => absurd ?_ z⟩
          · refine S_find (at_ := 0) h4 (by omega) q4.rows lr (k1055 h4) (by rw [l1055 h4]; omega) (by rw [l1055 h4]; decide) rv (fun hno => ⟨fun y => absurd rfl y, fun _ => ⟨k17 h4, _, p1055 h4, ?_⟩⟩) (fun n hn en _ => ⟨fun _ => ?_, fun y => absurd y (nI_m1 (by rw [List.length_map] at hn; have := q4.2.2.2.1; omega))⟩)
            · have nor : ∀ e ∈ L, e.1 ≠ (cutA w q.2.2.2.2.2 a).1 := fun e he z => by
                obtain ⟨m, hm2, rfl⟩ := List.mem_iff_getElem.mp he
                exact hno m (by rw [List.getElem?_map, List.getElem?_eq_getElem hm2]; exact congrArg some z)
              have norw : ∀ y ∈ (A.map (cutA w q.2.2.2.2.2)).take i, y.1 ≠ (cutA w q.2.2.2.2.2 a).1 := fun y hy e => by
                obtain ⟨g, hg2, eg⟩ := (re _).mpr ⟨y, hy, e⟩
                exact nor g hg2 eg
              have nx : ad 1055 0 0 ≠ ad 898 k 0 := fun z => by
                have b := c1055 h4
                rw [z, c898 h4 (by omega)] at b
                cases b
              refine M_adds (a := 0) h4 (by omega) q4 (k1055 h4) (by rw [l1055 h4]; omega) (by rw [l1055 h4]; decide) nx lr rv (fun full => by omega) (fun σ5 hl5 F5 q5 => ?_)
              have W5 := WkF.ss h4 F5
              refine go L.length _ σ5 (foldA (cutA w q.2.2.2.2.2 a).1 [] []) (F4.tr W5.x) q5 (fun m => (rd1056 h4 W5 m).trans (g56 m)) (by simp [foldA]) rfl (by rw [List.length_append, List.length_singleton]; omega) ?_ (fun r => ?_) (fun e he => ?_) (fun m x hm2 hx2 => ?_)
              · rw [List.map_append]
                unfold List.Nodup
                rw [List.pairwise_append]
                refine ⟨nd, List.pairwise_singleton _ _, fun p hp2 b hb e => ?_⟩
                have hb : b = (cutA w q.2.2.2.2.2 a).1 := List.mem_singleton.mp hb
                rw [hb] at e
                obtain ⟨g, hg2, eg⟩ := List.mem_map.mp hp2
                exact nor g hg2 (eg.trans e)
              · constructor
                · rintro ⟨g, hg2, eg⟩
                  rcases List.mem_append.mp hg2 with u | u
                  · exact Or.inl ((re r).mp ⟨g, u, eg⟩)
                  · rw [List.mem_singleton.mp u] at eg; exact Or.inr eg.symm
                · rintro (u | u)
                  · obtain ⟨g, hg2, eg⟩ := (re r).mpr u
                    exact ⟨g, List.mem_append_left _ hg2, eg⟩
                  · exact ⟨_, List.mem_append_right _ (List.mem_singleton_self _), u.symm⟩
              · rcases List.mem_append.mp he with u | u
                · exact hm e u
                · have ee := List.mem_singleton.mp u
                  rw [ee]
                  show _ = foldA (cutA w q.2.2.2.2.2 a).1 [] (sel _ (cutA w q.2.2.2.2.2 a).1)
                  rw [sel_nil norw]
                  rfl
              · obtain ⟨n2, e2, c1, c2, c3⟩ := hg m x hm2 hx2
                exact ⟨n2, e2, by rw [List.getElem?_append_left (List.getElem?_eq_some_iff.mp c1).1]; exact c1, c2, c3⟩
            · rw [List.length_map] at hn
              rw [List.getElem?_map, List.getElem?_eq_getElem hn] at en
              have en : (L[n]).1 = (cutA w q.2.2.2.2.2 a).1 := Option.some.inj en
              refine go n L σ4 L[n] F4 q4 g56 (List.getElem?_eq_getElem hn) en (by omega) nd (fun r => ?_) hm hg
              rw [re r]
              constructor
              · exact Or.inl
              · rintro (u | u)
                · exact u
                · rw [u, ← en]
                  exact (re _).mp ⟨_, List.getElem_mem hn, rfl⟩
          · rw [q4.2.1, hu]; exact nI_le (Nat.le_refl _) (by omega)
        | succ d2 ih2 =>
          intro u σ4 hu F4 q4 g56 hr
          have h4 := h.wx F4
          have q14 := F4.mr h (by omega) n1 q1
          have row := q14.2.2.2.2 i a ha
          obtain ⟨z1, z2, z3, z4, z5, z6, z7, z8⟩ := hq.x h F4
          obtain ⟨v1, v2⟩ := row.rowD (hp u (by omega)) hw6 i32
          have put : ∀ s4 : Int32, s4 = q.2.2.2.2.2 u → wX16_cuts_89 Q E (lX16_cuts_3 Q E (d + 1)) (lX16_cuts_15 Q E (lX16_cuts_3 Q E (d + 1)) (d2 + 1)) (ad 17 0 0) (nI qi) (ad 15 k 0) (ad 15 s1 0) (nI i) (nI u) s4 (6 * nI i) (ad 898 s1 0) (nI u) (ad 1055 0 0) σ4 := fun s4 e4 => by
            subst e4
            refine ⟨k898 h4 (by omega), by rw [l898 h4 (by omega)]; exact v1, k1055 h4, by rw [l1055 h4]; exact vp_in_nI (by omega) (by decide), ?_⟩
            rw [show ix (nI u) = u from nI_clamp (by omega), v2, nI_1]
            have n56 : ad 1056 0 0 ≠ ad 1055 0 0 := fun z => by
              have b := c1056 h4
              rw [z, c1055 h4] at b
              exact absurd b (by decide)
            refine ih2 (u + 1) _ (by omega) (F4.tr (row55 h4)) (q4.r55 h4 (by omega) _ _) (fun m => ?_) (fun y v hy hv => ?_)
            · rw [yAi_uAi, yu2, if_neg (fun z => n56 z.1)]; exact g56 m
            · rw [yAi_uAi, yu2]
              by_cases c : y = u
              · rw [if_pos ⟨rfl, c⟩]
                have := (rowF_get hv).2
                rw [← this, c]
              · rw [if_neg (fun z => c z.2)]; exact hr y v (by omega) hv
          refine ⟨k15 h4 (by omega), fun z => absurd z (by rw [q4.2.1]; exact nI_ge (by omega) (by omega)), fun _ => ⟨k17 h4, _, p1055 h4, k15 h4 (by omega), _, p898 h4 (by omega), ?_⟩⟩
          have ne : ∀ c : Nat, c < 4 → u ≠ c → ¬ nI u = nI c := fun c hc n z => by
            have z := congrArg Int32.toInt z
            rw [nI_toInt (by omega), nI_toInt (by omega)] at z
            omega
          refine ⟨fun c0 => ⟨fun c1 => ⟨fun c2 => ⟨_, p1046 h4, k1046 h4, by rw [l1046 h4]; exact vp_in_nI (by omega) (by decide), ?_⟩, fun c2 => ⟨_, p1045 h4, k1045 h4, by rw [l1045 h4]; exact vp_in_nI (by omega) (by decide), ?_⟩⟩, fun c1 => ⟨_, p1044 h4, k1044 h4, by rw [l1044 h4]; exact vp_in_nI (by omega) (by decide), ?_⟩⟩, fun c0 => ⟨_, p1043 h4, k1043 h4, by rw [l1043 h4]; exact vp_in_nI (by omega) (by decide), ?_⟩⟩
          · rw [xq, z8]
            refine put _ ?_
            have u0 : u ≠ 0 := fun z => c0 (by rw [z]; rfl)
            have u1 : u ≠ 1 := fun z => c1 (by rw [z]; rfl)
            have u2 : u ≠ 2 := fun z => c2 (by rw [z]; rfl)
            rw [show u = 3 by omega]
          · rw [xq, z7]
            refine put _ ?_
            have : u = 2 := by
              by_cases z : u = 2
              · exact z
              · exact absurd c2 (ne 2 (by decide) z)
            rw [this]
          · rw [xq, z6]
            refine put _ ?_
            have : u = 1 := by
              by_cases z : u = 1
              · exact z
              · exact absurd c1 (ne 1 (by decide) z)
            rw [this]
          · rw [xq, z5]
            refine put _ ?_
            have : u = 0 := by
              by_cases z : u = 0
              · exact z
              · exact absurd c0 (ne 0 (by decide) z)
            rw [this]
      exact inn w 0 σ3 (by omega) F qq (fun _ => rfl) (fun y v hy => absurd hy (Nat.not_lt_zero _))
  exact ⟨_, one A.length 0 [] σ (by omega) WkH.rf (Nat.zero_le _) qo List.nodup_nil (fun r => ⟨fun ⟨e, he, _⟩ => absurd he List.not_mem_nil, fun ⟨e, he, _⟩ => absurd he (by rw [List.take_zero]; exact List.not_mem_nil)⟩) (fun e he => absurd he List.not_mem_nil) (fun m x hm => absurd hm (Nat.not_lt_zero _))⟩
end MX
