/-! the class: PAIR -/
section MP
variable {ad : Ad} {ct : Ct} {σ : St}
def mtc (td : Nat → Int32) (a b : Ans) : Bool := decide (a.1.getD (ix (td 0)) 0 = b.1.getD (ix (td 1)) 0)
def paiR (td : Nat → Int32) (A B : List Ans) : List Ans := A.flatMap (fun a => (B.filter (mtc td a)).map (joiA a))
theorem rlt_a1 : ∀ {a c : List Int32} (b d : List Int32), a.length = c.length → rlt a c → rlt (a ++ b) (c ++ d)
  | [], _, _, _, _, h => h.elim
  | _ :: _, [], _, _, _, h => h.elim
  | x :: a, y :: c, b, d, hl, h => by
    rcases h with h | ⟨e, h⟩
    · exact Or.inl h
    · exact Or.inr ⟨e, rlt_a1 b d (by simpa using hl) h⟩
theorem rlt_a2 : ∀ (a : List Int32) {b d : List Int32}, rlt b d → rlt (a ++ b) (a ++ d)
  | [], _, _, h => h
  | x :: a, _, _, h => Or.inr ⟨rfl, rlt_a2 a h⟩
theorem paiR_pw {td : Nat → Int32} {A B : List Ans} {w1 : Nat} (hA : A.Pairwise (fun a b => rlt a.1 b.1)) (lA : ∀ a ∈ A, a.1.length = w1) (hB : B.Pairwise (fun a b => rlt a.1 b.1)) : (paiR td A B).Pairwise (fun a b => rlt a.1 b.1) := by
  unfold paiR
  rw [List.pairwise_flatMap]
  refine ⟨fun a _ => ?_, ?_⟩
  · rw [List.pairwise_map]
    exact (List.Pairwise.filter _ hB).imp (fun {x y} z => rlt_a2 a.1 z)
  · rw [List.pairwise_iff_getElem] at hA ⊢
    intro i j hi hj hij x hx y hy
    obtain ⟨b, _, rfl⟩ := List.mem_map.mp hx
    obtain ⟨d, _, rfl⟩ := List.mem_map.mp hy
    exact rlt_a1 _ _ ((lA _ (List.getElem_mem hi)).trans (lA _ (List.getElem_mem hj)).symm) (hA i j hi hj hij)
theorem paiR_split {td : Nat → Int32} {A B : List Ans} {i m : Nat} {a b : Ans} (ha : A[i]? = some a) (hb : B[m]? = some b) (hm : mtc td a b = true) : ∃ rest, paiR td A B = (paiR td (A.take i) B ++ ((B.take m).filter (mtc td a)).map (joiA a)) ++ joiA a b :: rest := by
  obtain ⟨hi, ea⟩ := List.getElem?_eq_some_iff.mp ha
  obtain ⟨hj, eb⟩ := List.getElem?_eq_some_iff.mp hb
  have eA : A = A.take i ++ a :: A.drop (i + 1) := by rw [← ea, ← List.drop_eq_getElem_cons hi, List.take_append_drop]
  have eB : B = B.take m ++ b :: B.drop (m + 1) := by rw [← eb, ← List.drop_eq_getElem_cons hj, List.take_append_drop]
  refine ⟨((B.drop (m + 1)).filter (mtc td a)).map (joiA a) ++ paiR td (A.drop (i + 1)) B, ?_⟩
  have e1 : paiR td A B = paiR td (A.take i) B ++ ((B.filter (mtc td a)).map (joiA a) ++ paiR td (A.drop (i + 1)) B) := by
    unfold paiR
    conv => lhs; rw [eA]
    rw [List.flatMap_append, List.flatMap_cons]
  have e2 : (B.filter (mtc td a)).map (joiA a) = ((B.take m).filter (mtc td a)).map (joiA a) ++ joiA a b :: ((B.drop (m + 1)).filter (mtc td a)).map (joiA a) := by
    conv => lhs; rw [eB]
    rw [List.filter_append, List.filter_cons_of_pos hm, List.map_append, List.map_cons]
  rw [e1, e2]
  simp
def Mls (R raw : List Ans) : Prop := R.length = raw.length ∧ ∀ (i : Nat) x e, raw[i]? = some x → R[i]? = some e → Mel1 x e
theorem Mls.push {R raw : List Ans} (h : Mls R raw) {x e : Ans} (m : Mel1 x e) : Mls (R ++ [e]) (raw ++ [x]) := by
  obtain ⟨h1, h2⟩ := h
  refine ⟨by rw [List.length_append, List.length_append, h1, List.length_singleton, List.length_singleton], fun i y f hy hf => ?_⟩
  by_cases c : i < raw.length
  · rw [List.getElem?_append_left c] at hy
    rw [List.getElem?_append_left (by omega)] at hf
    exact h2 i y f hy hf
  · have hb := (List.getElem?_eq_some_iff.mp hy).1
    rw [List.length_append, List.length_singleton] at hb
    have ei : i = raw.length := by omega
    rw [ei, List.getElem?_append_right (Nat.le_refl _), Nat.sub_self] at hy
    rw [ei, List.getElem?_append_right (by omega), h1, Nat.sub_self] at hf
    have hy : some x = some y := hy
    have hf : some e = some f := hf
    cases hy
    cases hf
    exact m
theorem C_workPair (h : Sh ad ct σ) (hw : Crw ad σ) {k s1 s2 x w1 w2 : Nat} {cl1 cl2 cl : Bool} {A B : List Ans} {qs : Qst} (hk : k < 40) (hs1 : s1 < 40) (hs2 : s2 < 40) (n1 : s1 ≠ k) (n2 : s2 ≠ k) (hx : isQ ct σ x qs) (hp0 : plc (qs.2.2.2.2.2 0) w1) (hp1 : plc (qs.2.2.2.2.2 1) w2) (hw6 : w1 + w2 ≤ 6) (q1 : AR ad σ s1 A w1 cl1) (q2 : AR ad σ s2 B w2 cl2) (hc1 : cl1 = true → cl = true) (hc2 : cl2 = true → cl = true) (pA : A.Pairwise (fun a b => rlt a.1 b.1)) (pB : B.Pairwise (fun a b => rlt a.1 b.1)) (tA : ∀ a ∈ A, ¬ a.2.2.2.2 < 0) (tB : ∀ b ∈ B, ¬ b.2.2.2.2 < 0) (qo : AR ad σ k [] (w1 + w2) cl) {Q : Int32 → St → Prop} (h0 : ∀ σ', Fr ct (SWo k) σ σ' → Crw ad σ' → NOm (paiR qs.2.2.2.2.2 A B) → Q 0 σ') (h1 : ∀ σ' R, Fr ct (SWo k) σ σ' → Crw ad σ' → AR ad σ' k R (w1 + w2) cl → OKm (paiR qs.2.2.2.2.2 A B) R → Q 1 σ') : wX4_workPair (ad 5 0 0) x (ad 4 s1 0) (ad 4 s2 0) (ad 4 k 0) σ Q := by
  have rm : ∀ s, s < 40 → room s = 32 := fun s hs => by unfold room; rw [if_neg (by omega)]
  have rk := rm k hk
  have lA : A.length ≤ 32 := by have := q1.2.2.2.1; rw [rm s1 hs1] at this; exact this
  have lB : B.length ≤ 32 := by have := q2.2.2.2.1; rw [rm s2 hs2] at this; exact this
  have wA : ∀ a ∈ A, a.1.length = w1 := fun a ha => by
    obtain ⟨i, hi, rfl⟩ := List.mem_iff_getElem.mp ha
    obtain ⟨j, _, _, q⟩ := q1.2.2.2.2 i _ (List.getElem?_eq_getElem hi)
    exact q.1
  have pR := paiR_pw (td := qs.2.2.2.2.2) pA wA pB
  have SPo : ∀ p, SN k p ∨ SJ k p → SWo k p := fun p q => q.elim (SNk_o k p) (SJ_o k p)
  have hS4 : ∀ c, (c = 4 ∨ c = 3 ∨ c = 128 ∨ c = 129 ∨ c = 192) → ∀ s, s ≠ k → ¬ (fun p => SN k p ∨ SJ k p) (c, s) := fun c hc s hs z => by
    simp only [SN, SJ, Prod.mk.injEq] at z
    omega
  have AR' : ∀ {τ τ' : St} {s w : Nat} {cl : Bool} {L : List Ans}, Sh ad ct τ → Fr ct (fun p => SN k p ∨ SJ k p) τ τ' → s < 43 → s ≠ k → AR ad τ s L w cl → AR ad τ' s L w cl := fun hh f hs hn q => q.cg hh f hs (hS4 _ (by decide) _ hn) (hS4 _ (by decide) _ hn) (hS4 _ (by decide) _ hn) (hS4 _ (by decide) _ hn) (hS4 _ (by decide) _ hn)
  have SPC : ∀ p, SN k p ∨ SJ k p → SC p := fun p q => SWo_SC k p (SPo p q)
  have n192 : ∀ s', ¬ (fun p => SN k p ∨ SJ k p) (192, s') := fun s' z => by
    simp only [SN, SJ, Prod.mk.injEq] at z
    omega
  have out : ∀ (d i : Nat) (R : List Ans) (σ3 : St), i + d = A.length → Fr ct (fun p => SN k p ∨ SJ k p) σ σ3 → Crw ad σ3 → AR ad σ3 k R (w1 + w2) cl → Mls R (paiR qs.2.2.2.2.2 (A.take i) B) → lX4_workPair_3 Q (d + 1) (ad 5 0 0) x (ad 4 s1 0) (ad 4 s2 0) (ad 4 k 0) (nI i) σ3 := by
    intro d
    induction d with
    | zero =>
      intro i R σ3 hi F c q M
      have hi : i = A.length := by omega
      have h3 := h.frC (F.mono SPC)
      have q3 := AR' h F (by omega) n1 q1
      rw [hi, List.take_length] at M
      refine ⟨k4 h3 (by omega), fun _ => h1 σ3 R (F.mono SPo) c q (Mel_OKm pR ?_ M.1 M.2 (fun y hy => ?_)), fun z => absurd ?_ z⟩
      · rw [← M.1]; have := q.2.2.2.1; rw [rk] at this; exact this
      · unfold paiR at hy
        obtain ⟨a, ha, hy⟩ := List.mem_flatMap.mp hy
        obtain ⟨b, hb, rfl⟩ := List.mem_map.mp hy
        have hb := (List.mem_filter.mp hb).1
        refine ⟨?_, ?_⟩
        · show csB _ _ ≤ _
          unfold csB
          split
          · exact Int32.le_refl _
          · exact Int32.not_lt.mp (by assumption)
        · show ¬ mnT _ _ < 0
          unfold mnT
          split
          · exact tB b hb
          · exact tA a ha
      · rw [q3.1, hi]; exact nI_le (Nat.le_refl _) (by omega)
    | succ d ih =>
      intro i R σ3 hi F c q M
      have h3 := h.frC (F.mono SPC)
      have q3 := AR' h F (by omega) n1 q1
      obtain ⟨a, ha⟩ : ∃ a, A[i]? = some a := ⟨_, List.getElem?_eq_getElem (by omega)⟩
      refine ⟨k4 h3 (by omega), fun z => absurd z (by rw [q3.1]; exact nI_ge (by omega) (by omega)), fun _ => ⟨B.length + 1, ?_⟩⟩
      have inn : ∀ (d2 m : Nat) (R : List Ans) (σ4 : St), m + d2 = B.length → Fr ct (fun p => SN k p ∨ SJ k p) σ σ4 → Crw ad σ4 → AR ad σ4 k R (w1 + w2) cl → Mls R (paiR qs.2.2.2.2.2 (A.take i) B ++ ((B.take m).filter (mtc qs.2.2.2.2.2 a)).map (joiA a)) → lX4_workPair_15 Q (lX4_workPair_3 Q (d + 1)) (d2 + 1) (ad 5 0 0) x (ad 4 s1 0) (ad 4 s2 0) (ad 4 k 0) (nI i) (nI m) σ4 := by
        intro d2
        induction d2 with
        | zero =>
          intro m R σ4 hm F4 cw4 q4 M4
          have hm : m = B.length := by omega
          have h4 := h.frC (F4.mono SPC)
          have q24 := AR' h F4 (by omega) n2 q2
          rw [hm, List.take_length] at M4
          refine ⟨k4 h4 (by omega), fun _ => ?_, fun z => absurd ?_ z⟩
          · rw [nI_1]
            refine ih (i + 1) R σ4 (by omega) F4 cw4 q4 ?_
            rw [show A.take (i + 1) = A.take i ++ [a] by rw [List.take_add_one, ha]; rfl]
            unfold paiR at M4 ⊢
            rw [List.flatMap_append, List.flatMap_singleton]
            exact M4
          · rw [q24.1, hm]; exact nI_le (Nat.le_refl _) (by omega)
        | succ d2 ih2 =>
          intro m R σ4 hm F4 cw4 q4 M4
          have h4 := h.frC (F4.mono SPC)
          have q14 := AR' h F4 (by omega) n1 q1
          have q24 := AR' h F4 (by omega) n2 q2
          obtain ⟨b, hb⟩ : ∃ b, B[m]? = some b := ⟨_, List.getElem?_eq_getElem (by omega)⟩
          obtain ⟨j1, a1, a2, a3⟩ := q14.2.2.2.2 i a ha
          obtain ⟨j2, b1, b2, b3⟩ := q24.2.2.2.2 m b hb
          obtain ⟨x1, x2, x3a, x4, x5, x6, x7, y, y1, y2, y3, y4, y5⟩ := hx.o h F4 SPo
          obtain ⟨u1, u2⟩ := a3.rowD hp0 (by omega)
          obtain ⟨v1, v2⟩ := b3.rowD hp1 (by omega)
          have es := take_flt (p := mtc qs.2.2.2.2.2 a) hb
          refine ⟨k4 h4 (by omega), fun z => absurd z (by rw [q24.1]; exact nI_ge (by omega) (by omega)), fun _ => ⟨k4 h4 (by omega), _, p192 h4 (by omega), k192 h4 (by omega), by rw [l192 h4 (by omega), rm s1 hs1]; exact vp_in_nI (by omega) (by decide), _, by rw [show ix (nI i) = i from nI_clamp (by omega)]; exact a2, k3 h4 (by omega) a1, _, p128 h4 (by omega) a1, x1, _, y1, y2, by rw [y4]; exact vp_in_nI (n := 0) (by decide) (by decide), k128 h4 (by omega) a1, ?_, _, p192 h4 (by omega), k192 h4 (by omega), by rw [l192 h4 (by omega), rm s2 hs2]; exact vp_in_nI (by omega) (by decide), _, by rw [show ix (nI m) = m from nI_clamp (by omega)]; exact b2, k3 h4 (by omega) b1, _, p128 h4 (by omega) b1, by rw [y4]; exact vp_in_nI (n := 1) (by decide) (by decide), k128 h4 (by omega) b1, ?_, ?_⟩⟩
          · rw [show ix 0 = 0 from rfl, y5 0 (by decide), l128 h4 (by omega) a1]; exact u1
          · rw [show ix 1 = 1 from rfl, y5 1 (by decide), l128 h4 (by omega) b1]; exact v1
          · rw [show ix 0 = 0 from rfl, show ix 1 = 1 from rfl, y5 0 (by decide), y5 1 (by decide), u2, v2]
            refine ⟨fun z => ⟨k4 h4 (by omega), ?_⟩, fun z => ?_⟩
            · have mt : mtc qs.2.2.2.2.2 a b = true := decide_eq_true z
              obtain ⟨rest, er⟩ := paiR_split ha hb mt
              have jm : joiA a b ∈ paiR qs.2.2.2.2.2 A B := by rw [er]; exact List.mem_append_right _ List.mem_cons_self
              rw [if_pos mt] at es
              have eM : paiR qs.2.2.2.2.2 (A.take i) B ++ ((B.take (m + 1)).filter (mtc qs.2.2.2.2.2 a)).map (joiA a) = (paiR qs.2.2.2.2.2 (A.take i) B ++ ((B.take m).filter (mtc qs.2.2.2.2.2 a)).map (joiA a)) ++ [joiA a b] := by rw [es, List.map_append, List.map_singleton, List.append_assoc]
              refine C_grow h4 cw4 (by omega) q4.1 q4.2.2.2.1 (fun full => ⟨fun _ => h0 σ4 (F4.mono SPo) cw4 (Or.inl ⟨((paiR qs.2.2.2.2.2 (A.take i) B ++ ((B.take m).filter (mtc qs.2.2.2.2.2 a)).map (joiA a)) ++ [joiA a b]).map (fun e => e.1), ?_, ?_, fun r hr => ?_⟩), fun p y => (by cases y)⟩) (fun j hl2 hj ej => ⟨fun y => (by cases y), fun p y => ?_⟩)
              · refine rows_nd (pR.sublist ?_)
                rw [er]
                exact List.Sublist.append (List.Sublist.refl _) (List.cons_sublist_cons.mpr (List.nil_sublist _))
              · rw [List.length_map, List.length_append, List.length_singleton, ← M4.1, full, rk]; decide
              · obtain ⟨e, he, rfl⟩ := List.mem_map.mp hr
                refine ⟨e, ?_, rfl⟩
                rw [er]
                rcases List.mem_append.mp he with q | q
                · exact List.mem_append_left _ q
                · rw [List.mem_singleton.mp q]; exact List.mem_append_right _ List.mem_cons_self
              · cases y
                have Fg : Fr ct (fun p => SN k p ∨ SJ k p) σ4 (uFi σ4 193 (ad 4 k 0) (nI (R.length + 1))) := Fr.rf.uFi _ _ _ (Or.inl (by rw [c4 h4 (by omega)]; exact Or.inl (Or.inl rfl)))
                have hg := h4.frC (Fg.mono SPC)
                have sg : Slf ad σ4 (uFi σ4 193 (ad 4 k 0) (nI (R.length + 1))) k j := Slf.gr h4 (by omega) _
                have g193 : zFi (uFi σ4 193 (ad 4 k 0) (nI (R.length + 1))) 193 (ad 4 k 0) = nI (R.length + 1) := by rw [yFi_uFi, yu2, if_pos ⟨rfl, rfl⟩]
                have g194 : zFi (uFi σ4 193 (ad 4 k 0) (nI (R.length + 1))) 194 (ad 4 k 0) = zFi σ4 194 (ad 4 k 0) := by rw [yFi_uFi, yu2, if_neg (fun z => absurd z.1 (by decide))]
                have gar : ∀ x m, zAr (uFi σ4 193 (ad 4 k 0) (nI (R.length + 1))) x m = zAr σ4 x m := fun x m => by rw [yAr_uFi]
                have q1g := AR' h4 Fg (by omega) n1 q14
                have q2g := AR' h4 Fg (by omega) n2 q24
                generalize uFi σ4 193 (ad 4 k 0) (nI (R.length + 1)) = ρ at Fg hg sg g193 g194 gar q1g q2g ⊢
                obtain ⟨j1', a1', a2', a3'⟩ := q1g.2.2.2.2 i a ha
                obtain ⟨j2', b1', b2', b3'⟩ := q2g.2.2.2.2 m b hb
                refine ⟨k4 hg (by omega), _, p192 hg (by omega), k192 hg (by omega), by rw [l192 hg (by omega), rm s1 hs1]; exact vp_in_nI (by omega) (by decide), _, by rw [show ix (nI i) = i from nI_clamp (by omega)]; exact a2', k4 hg (by omega), _, p192 hg (by omega), k192 hg (by omega), by rw [l192 hg (by omega), rm s2 hs2]; exact vp_in_nI (by omega) (by decide), _, by rw [show ix (nI m) = m from nI_clamp (by omega)]; exact b2', k5 hg, ?_⟩
                rw [q1g.2.1, q2g.2.1]
                have mJ : ∀ p, SJ k p → SN k p ∨ SJ k p := fun p q => Or.inr q
                refine C_join hg hk hj hs1 a1' hs2 b1' n1 n2 a3' b3' hw6 hc1 hc2 (fun σ5 big F5 => ⟨fun y => absurd rfl y, fun _ => ?_⟩) (fun σ5 e M5 F5 sl5 an5 => ⟨fun _ => ?_, fun y => absurd y (by decide)⟩)
                · have F45 := Fg.tr1 (F5.mono mJ)
                  refine h0 σ5 ((F4.tr1 F45).mono SPo) (cw4.cg h4 F45 (fun s' _ => n192 s')) (NOm.ways (r := (joiA a b).1) (addA_anti _ List.Pairwise.nil) big (fun y hy => ?_) (fun X => ?_))
                  · rw [gath_one (rows_nd pR) jm]
                    exact (addA_mem _ hy).elim (fun z => absurd z List.not_mem_nil) id
                  · rw [gath_one (rows_nd pR) jm, addA_up]
                    exact ⟨fun z => z.elim (fun ⟨w, hw, _⟩ => absurd hw List.not_mem_nil) id, Or.inr⟩
                · have F45 := Fg.tr1 (F5.mono mJ)
                  have d4 := (F5 (ad 4 k 0) (by rw [k4 hg (by omega)]; decide)).2 (by rw [c4 hg (by omega)]; simp)
                  have d192 := (F5 (ad 192 k 0) (by rw [k192 hg (by omega)]; decide)).2 (by rw [c192 hg (by omega)]; simp)
                  rw [nI_1]
                  refine ih2 (m + 1) (R ++ [e]) σ5 (by omega) (F4.tr1 F45) (cw4.cg h4 F45 (fun s' _ => n192 s')) ?_ (by rw [eM]; exact M4.push M5)
                  exact q4.push h4 cw4 (by omega) hl2 hj ej ((d4.1 _).trans g193) ((d4.1 _).trans g194) (fun m => (d192.2.2.2.2.2 m).trans (gar _ _)) (sg.tr sl5) an5
            · rw [if_neg (by unfold mtc; rw [decide_eq_false z]; decide), List.append_nil] at es
              rw [nI_1]
              exact ih2 (m + 1) R σ4 (by omega) F4 cw4 q4 (by rw [es]; exact M4)
      exact inn B.length 0 R σ3 (by omega) F c q (by rw [List.take_zero, List.filter_nil, List.map_nil, List.append_nil]; exact M)
  exact ⟨_, out A.length 0 [] σ (by omega) Fr.rf hw qo ⟨rfl, fun i x e hx => by rw [show paiR qs.2.2.2.2.2 (A.take 0) B = [] from rfl, List.getElem?_nil] at hx; cases hx⟩⟩
end MP
