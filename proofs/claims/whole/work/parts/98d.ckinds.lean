/-! the class: EITHER, CUT, PICK, LIKE, MOST -/
section MM
variable {ad : Ad} {ct : Ct} {σ : St}
theorem SNk_o (k : Nat) : ∀ p, SN k p → SWo k p := fun p q => Or.inl (SN_r k p q)
theorem AR.o (h : Sh ad ct σ) {S : Nat × Nat → Prop} {σ' : St} {k : Nat} (f : Fr ct S σ σ') (hS : ∀ p, S p → SWo k p) {s w : Nat} {cl : Bool} {L : List Ans} (hs : s < 43) (n1 : s ≠ k) (n2 : s ≠ 40) (n3 : s ≠ 41) (q : AR ad σ s L w cl) : AR ad σ' s L w cl := by
  have n : ∀ c, (c = 4 ∨ c = 3 ∨ c = 128 ∨ c = 129 ∨ c = 192) → ¬ S (c, s) := fun c hc z => by
    have z := hS _ z
    simp only [SWo, SNr, Prod.mk.injEq] at z
    omega
  exact q.cg h f hs (n _ (by decide)) (n _ (by decide)) (n _ (by decide)) (n _ (by decide)) (n _ (by decide))
theorem C_workEither (h : Sh ad ct σ) (hw : Crw ad σ) {k s1 s2 w : Nat} {cl1 cl2 cl : Bool} {A B : List Ans} (hk : k < 40) (hs1 : s1 < 40) (hs2 : s2 < 40) (n1 : s1 ≠ k) (n2 : s2 ≠ k) (q1 : AR ad σ s1 A w cl1) (q2 : AR ad σ s2 B w cl2) (hc1 : cl1 = true → cl = true) (hc2 : cl2 = true → cl = true) (qr : AR ad σ 40 [] w cl) (qo : AR ad σ k [] w cl) {Q : Int32 → St → Prop} (h0 : ∀ σ', Fr ct (SWo k) σ σ' → Crw ad σ' → NOm (A ++ B) → Q 0 σ') (h1 : ∀ σ' R, Fr ct (SWo k) σ σ' → Crw ad σ' → AR ad σ' k R w cl → OKm (A ++ B) R → Q 1 σ') : wX4_workEither (ad 5 0 0) (ad 4 s1 0) (ad 4 s2 0) (ad 4 k 0) σ Q := by
  have r40 : room 40 = 64 := rfl
  have rm : ∀ s, s < 40 → room s = 32 := fun s hs => by unfold room; rw [if_neg (by omega)]
  have lA : A.length ≤ 32 := by have := q1.2.2.2.1; rw [rm s1 hs1] at this; exact this
  have lB : B.length ≤ 32 := by have := q2.2.2.2.1; rw [rm s2 hs2] at this; exact this
  have two : ∀ (d i : Nat) (σ3 : St), i + d = B.length → Fr ct (SN 40) σ σ3 → Crw ad σ3 → AR ad σ3 40 (A ++ B.take i) w cl → lX4_workEither_36 Q (d + 1) (ad 5 0 0) (ad 4 s2 0) (ad 4 k 0) (nI i) σ3 := by
    intro d
    induction d with
    | zero =>
      intro i σ3 hi F c q
      have hi : i = B.length := by omega
      have h3 := h.frC (F.mono (SN_SC 40))
      have q3 := q2.sn h (by omega) (by omega) (F.mono (SN_r 40))
      have qo3 := qo.sn h (by omega) (by omega) (F.mono (SN_r 40))
      rw [hi, List.take_length] at q
      refine ⟨k4 h3 (by omega), fun _ => ⟨k5 h3, C_melt h3 c hk q qo3 (fun σ4 f4 c4 n => ⟨Or.inl rfl, h0 σ4 ((F.mono (SN40_o k)).tr1 (f4.mono (SMt_o k))) c4 n⟩) (fun σ4 R f4 c4 a o => ⟨Or.inr rfl, h1 σ4 R ((F.mono (SN40_o k)).tr1 (f4.mono (SMt_o k))) c4 a o⟩)⟩, fun z => absurd ?_ z⟩
      rw [q3.1, hi]; exact nI_le (Nat.le_refl _) (by omega)
    | succ d ih =>
      intro i σ3 hi F c q
      have h3 := h.frC (F.mono (SN_SC 40))
      have q3 := q2.sn h (by omega) (by omega) (F.mono (SN_r 40))
      obtain ⟨e, he⟩ : ∃ e, B[i]? = some e := ⟨_, List.getElem?_eq_getElem (by omega)⟩
      obtain ⟨j, b1, b2, b3⟩ := q3.2.2.2.2 i e he
      refine ⟨k4 h3 (by omega), fun z => absurd z (by rw [q3.1]; exact nI_ge (by omega) (by omega)), fun _ => ⟨k5 h3, _, p260 h3, _, p192 h3 (by omega), k192 h3 (by omega), by rw [l192 h3 (by omega), rm s2 hs2]; exact vp_in_nI (by omega) (by decide), _, by rw [show ix (nI i) = i from nI_clamp (by omega)]; exact b2, k4 h3 (by decide), ?_⟩⟩
      refine C_add h3 c (by decide) q (by omega) b1 (by omega) (b3.weak hc2) (fun y => ?_) (fun σ4 f4 c4 q4 => ?_)
      · rw [List.length_append, List.length_take] at y; omega
      · rw [nI_1]
        refine ih (i + 1) σ4 (by omega) (F.tr1 f4) c4 ?_
        rw [show B.take (i + 1) = B.take i ++ [e] by rw [List.take_add_one, he]; rfl, ← List.append_assoc]
        exact q4
  have one : ∀ (d i : Nat) (σ3 : St), i + d = A.length → Fr ct (SN 40) σ σ3 → Crw ad σ3 → AR ad σ3 40 (A.take i) w cl → lX4_workEither_3 Q (d + 1) (ad 5 0 0) (ad 4 s1 0) (ad 4 s2 0) (ad 4 k 0) (nI i) σ3 := by
    intro d
    induction d with
    | zero =>
      intro i σ3 hi F c q
      have hi : i = A.length := by omega
      have h3 := h.frC (F.mono (SN_SC 40))
      have q3 := q1.sn h (by omega) (by omega) (F.mono (SN_r 40))
      rw [hi, List.take_length] at q
      refine ⟨k4 h3 (by omega), fun _ => ⟨_, two B.length 0 σ3 (by omega) F c (by rw [List.take_zero, List.append_nil]; exact q)⟩, fun z => absurd ?_ z⟩
      rw [q3.1, hi]; exact nI_le (Nat.le_refl _) (by omega)
    | succ d ih =>
      intro i σ3 hi F c q
      have h3 := h.frC (F.mono (SN_SC 40))
      have q3 := q1.sn h (by omega) (by omega) (F.mono (SN_r 40))
      obtain ⟨e, he⟩ : ∃ e, A[i]? = some e := ⟨_, List.getElem?_eq_getElem (by omega)⟩
      obtain ⟨j, b1, b2, b3⟩ := q3.2.2.2.2 i e he
      refine ⟨k4 h3 (by omega), fun z => absurd z (by rw [q3.1]; exact nI_ge (by omega) (by omega)), fun _ => ⟨k5 h3, _, p260 h3, _, p192 h3 (by omega), k192 h3 (by omega), by rw [l192 h3 (by omega), rm s1 hs1]; exact vp_in_nI (by omega) (by decide), _, by rw [show ix (nI i) = i from nI_clamp (by omega)]; exact b2, k4 h3 (by decide), ?_⟩⟩
      refine C_add h3 c (by decide) q (by omega) b1 (by omega) (b3.weak hc1) (fun y => ?_) (fun σ4 f4 c4 q4 => ?_)
      · rw [List.length_take] at y; omega
      · rw [nI_1]
        refine ih (i + 1) σ4 (by omega) (F.tr1 f4) c4 ?_
        rw [show A.take (i + 1) = A.take i ++ [e] by rw [List.take_add_one, he]; rfl]
        exact q4
  exact ⟨_, one A.length 0 σ (by omega) Fr.rf hw (by rw [List.take_zero]; exact qr)⟩
theorem take_flt {A : List Ans} {p : Ans → Bool} {i : Nat} {e : Ans} (he : A[i]? = some e) : (A.take (i + 1)).filter p = (A.take i).filter p ++ (if p e = true then [e] else []) := by
  rw [List.take_add_one, he, List.filter_append]
  congr 1
  show [e].filter p = _
  by_cases c : p e = true
  · rw [if_pos c, List.filter_cons_of_pos c, List.filter_nil]
  · rw [if_neg c, List.filter_cons_of_neg c, List.filter_nil]
/-- the rows that stay -/
def pikP (td : Nat → Int32) (e : Ans) : Bool := decide (e.1.getD (ix (td 0)) 0 = td 1)
def likP (td : Nat → Int32) (e : Ans) : Bool := decide (e.1.getD (ix (td 0)) 0 = e.1.getD (ix (td 1)) 0)
theorem AnsAt.rowD {s j w : Nat} {cl : Bool} {e : Ans} (q : AnsAt ad σ s j w cl e) {v : Int32} (hp : plc v w) (hw : w ≤ 6) : vp_in v 6 ∧ zAi σ (ad 128 s j) (ix v) = e.1.getD (ix v) 0 := by
  obtain ⟨a, ha, rfl⟩ := hp
  have ea : ix (nI a) = a := nI_clamp (by omega)
  refine ⟨vp_in_nI (by omega) (by decide), ?_⟩
  rw [ea]
  have hl := q.1
  rw [List.getD_eq_getElem?_getD, List.getElem?_eq_getElem (by omega)]
  exact q.2.1 a _ (List.getElem?_eq_getElem (by omega))
theorem isQ.o (h : Sh ad ct σ) {S : Nat × Nat → Prop} {σ' : St} {k : Nat} (f : Fr ct S σ σ') (hS : ∀ p, S p → SWo k p) {x : Nat} {q : Qst} (z : isQ ct σ x q) : isQ ct σ' x q := z.fr f (fun y => by
  have y := hS _ y
  simp [SWo, SNr] at y)
theorem C_workFilter (h : Sh ad ct σ) (hw : Crw ad σ) {k s1 x w : Nat} {cl : Bool} {A : List Ans} {qs : Qst} (hk : k < 40) (hs1 : s1 < 40) (n1 : s1 ≠ k) (hx : isQ ct σ x qs) (hq1 : qs.1 = 1 ∨ qs.1 = 2) (hp0 : plc (qs.2.2.2.2.2 0) w) (hp1 : qs.1 = 2 → plc (qs.2.2.2.2.2 1) w) (q1 : AR ad σ s1 A w cl) (qo : AR ad σ k [] w cl) {Q : Int32 → St → Prop} (h1 : ∀ σ', Fr ct (SWo k) σ σ' → Crw ad σ' → AR ad σ' k (A.filter (if qs.1 = 1 then pikP qs.2.2.2.2.2 else likP qs.2.2.2.2.2)) w cl → Q 1 σ') : wX4_workFilter (ad 5 0 0) x (ad 4 s1 0) (ad 4 k 0) σ Q := by
  have rm : ∀ s, s < 40 → room s = 32 := fun s hs => by unfold room; rw [if_neg (by omega)]
  have lA : A.length ≤ 32 := by have := q1.2.2.2.1; rw [rm s1 hs1] at this; exact this
  have hw6 := q1.2.2.1
  have key : ∀ (d i : Nat) (σ3 : St), i + d = A.length → Fr ct (SN k) σ σ3 → Crw ad σ3 → AR ad σ3 k ((A.take i).filter (if qs.1 = 1 then pikP qs.2.2.2.2.2 else likP qs.2.2.2.2.2)) w cl → lX4_workFilter_3 Q (d + 1) x (ad 4 s1 0) (ad 4 k 0) (nI i) σ3 := by
    intro d
    induction d with
    | zero =>
      intro i σ3 hi F c q
      have hi : i = A.length := by omega
      have h3 := h.frC (F.mono (SN_SC k))
      have q3 := q1.sn h (by omega) n1 (F.mono (SN_r k))
      rw [hi, List.take_length] at q
      refine ⟨k4 h3 (by omega), fun _ => h1 σ3 (F.mono (SNk_o k)) c q, fun z => absurd ?_ z⟩
      rw [q3.1, hi]; exact nI_le (Nat.le_refl _) (by omega)
    | succ d ih =>
      intro i σ3 hi F c q
      have h3 := h.frC (F.mono (SN_SC k))
      have q3 := q1.sn h (by omega) n1 (F.mono (SN_r k))
      have x3 := hx.o h F (SNk_o k)
      obtain ⟨x1, x2, x3a, x4, x5, x6, x7, y, y1, y2, y3, y4, y5⟩ := x3
      obtain ⟨e, he⟩ : ∃ e, A[i]? = some e := ⟨_, List.getElem?_eq_getElem (by omega)⟩
      obtain ⟨j, b1, b2, b3⟩ := q3.2.2.2.2 i e he
      have es := take_flt (p := if qs.1 = 1 then pikP qs.2.2.2.2.2 else likP qs.2.2.2.2.2) he
      have fl := List.length_filter_le (if qs.1 = 1 then pikP qs.2.2.2.2.2 else likP qs.2.2.2.2.2) (A.take i)
      rw [List.length_take] at fl
      obtain ⟨r1, r2⟩ := b3.rowD hp0 hw6
      have g50 : ∀ s0 : Int32, ((if qs.1 = 1 then pikP qs.2.2.2.2.2 else likP qs.2.2.2.2.2) e = true ↔ e.1.getD (ix (qs.2.2.2.2.2 0)) 0 = s0) → wX4_workFilter_50 Q (lX4_workFilter_3 Q (d + 1)) x (ad 4 s1 0) (ad 4 k 0) (nI i) (ad 128 s1 j) s0 σ3 := fun s0 hs0 => by
        refine ⟨x1, _, y1, y2, by rw [y4]; exact vp_in_nI (n := 0) (by decide) (by decide), k128 h3 (by omega) b1, ?_, ?_⟩
        · rw [show ix 0 = 0 from rfl, y5 0 (by decide), l128 h3 (by omega) b1]; exact r1
        · rw [show ix 0 = 0 from rfl, y5 0 (by decide), r2]
          refine ⟨fun z => ?_, fun z => ⟨k4 h3 (by omega), _, p192 h3 (by omega), k192 h3 (by omega), by rw [l192 h3 (by omega), rm s1 hs1]; exact vp_in_nI (by omega) (by decide), _, by rw [show ix (nI i) = i from nI_clamp (by omega)]; exact b2, k4 h3 (by omega), ?_⟩⟩
          · rw [if_neg (fun y => z (hs0.mp y)), List.append_nil] at es
            rw [nI_1]
            exact ih (i + 1) σ3 (by omega) F c (by rw [es]; exact q)
          · rw [if_pos (hs0.mpr z)] at es
            refine C_add h3 c (by omega) q (by omega) b1 n1 b3 (fun y => ?_) (fun σ4 f4 c4 q4 => ⟨fun _ => ?_, fun y => absurd y (by decide)⟩)
            · rw [rm k hk] at y; omega
            · rw [nI_1]
              exact ih (i + 1) σ4 (by omega) (F.tr1 f4) c4 (by rw [es]; exact q4)
      refine ⟨k4 h3 (by omega), fun z => absurd z (by rw [q3.1]; exact nI_ge (by omega) (by omega)), fun _ => ⟨_, p192 h3 (by omega), k192 h3 (by omega), by rw [l192 h3 (by omega), rm s1 hs1]; exact vp_in_nI (by omega) (by decide), _, by rw [show ix (nI i) = i from nI_clamp (by omega)]; exact b2, k3 h3 (by omega) b1, _, p128 h3 (by omega) b1, x1, fun z => ?_, fun z => ?_⟩⟩
      · have h2 : qs.1 = 2 := by
          rcases hq1 with a | a
          · rw [x3a, a] at z; exact absurd rfl z
          · exact a
        obtain ⟨u1, u2⟩ := b3.rowD (hp1 h2) hw6
        refine ⟨_, y1, y2, by rw [y4]; exact vp_in_nI (n := 1) (by decide) (by decide), k128 h3 (by omega) b1, ?_, ?_⟩
        · rw [show ix 1 = 1 from rfl, y5 1 (by decide), l128 h3 (by omega) b1]; exact u1
        · rw [show ix 1 = 1 from rfl, y5 1 (by decide), u2]
          refine g50 _ ?_
          rw [if_neg (by omega)]
          unfold likP
          rw [decide_eq_true_iff]
      · have h2 : qs.1 = 1 := by
          rcases hq1 with a | a
          · exact a
          · rw [x3a, a] at z; exact absurd z (by decide)
        refine ⟨_, y1, y2, by rw [y4]; exact vp_in_nI (n := 1) (by decide) (by decide), ?_⟩
        rw [show ix 1 = 1 from rfl, y5 1 (by decide)]
        refine g50 _ ?_
        rw [if_pos h2]
        unfold pikP
        rw [decide_eq_true_iff]
  exact ⟨_, key A.length 0 σ (by omega) Fr.rf hw (by rw [List.take_zero]; exact qo)⟩
/-- the row is taken away by one of B that stands -/
def tkn (fs : List Fct) (B : List Ans) (e : Ans) : Bool := B.any (fun b => decide (b.1 = e.1) && b.2.1.any (there fs))
theorem C_workMost (h : Sh ad ct σ) (hw : Crw ad σ) {k s1 s2 w : Nat} {cl1 cl2 cl : Bool} {A B : List Ans} {fs : List Fct} (hk : k < 40) (hs1 : s1 < 40) (hs2 : s2 < 40) (n1 : s1 ≠ k) (n2 : s2 ≠ k) (q1 : AR ad σ s1 A w cl1) (q2 : AR ad σ s2 B w cl2) (hc1 : cl1 = true → cl = true) (hp : B.Pairwise (fun a b => rlt a.1 b.1)) (hf : Cfs ad σ fs) (hl : fs.length ≤ 60) (hB : ∀ b ∈ B, ∀ x ∈ b.2.1, ∀ i, fs.length ≤ i → bt x i = false) (qo : AR ad σ k [] w cl) {Q : Int32 → St → Prop} (h1 : ∀ σ', Fr ct (SWo k) σ σ' → Crw ad σ' → AR ad σ' k (A.filter (fun e => !tkn fs B e)) w cl → Q 1 σ') : wX4_workMost (ad 5 0 0) (ad 4 s1 0) (ad 4 s2 0) (ad 4 k 0) σ Q := by
  have rm : ∀ s, s < 40 → room s = 32 := fun s hs => by unfold room; rw [if_neg (by omega)]
  have lA : A.length ≤ 32 := by have := q1.2.2.2.1; rw [rm s1 hs1] at this; exact this
  have lB : B.length ≤ 32 := by have := q2.2.2.2.1; rw [rm s2 hs2] at this; exact this
  have key : ∀ (d i : Nat) (σ3 : St), i + d = A.length → Fr ct (SN k) σ σ3 → Crw ad σ3 → AR ad σ3 k ((A.take i).filter (fun e => !tkn fs B e)) w cl → lX4_workMost_3 Q (d + 1) (ad 5 0 0) (ad 4 s1 0) (ad 4 s2 0) (ad 4 k 0) (nI i) σ3 := by
    intro d
    induction d with
    | zero =>
      intro i σ3 hi F c q
      have hi : i = A.length := by omega
      have h3 := h.frC (F.mono (SN_SC k))
      have q3 := q1.sn h (by omega) n1 (F.mono (SN_r k))
      rw [hi, List.take_length] at q
      refine ⟨k4 h3 (by omega), fun _ => h1 σ3 (F.mono (SNk_o k)) c q, fun z => absurd ?_ z⟩
      rw [q3.1, hi]; exact nI_le (Nat.le_refl _) (by omega)
    | succ d ih =>
      intro i σ3 hi F c q
      have h3 := h.frC (F.mono (SN_SC k))
      have q3 := q1.sn h (by omega) n1 (F.mono (SN_r k))
      have q23 := q2.sn h (by omega) n2 (F.mono (SN_r k))
      have f3 := hf.o h F (fun p q => ⟨k, SNk_o k p q⟩)
      obtain ⟨e, he⟩ : ∃ e, A[i]? = some e := ⟨_, List.getElem?_eq_getElem (by omega)⟩
      obtain ⟨j, b1, b2, b3⟩ := q3.2.2.2.2 i e he
      have es := take_flt (p := fun e => !tkn fs B e) he
      have fl := List.length_filter_le (fun e => !tkn fs B e) (A.take i)
      rw [List.length_take] at fl
      have keep : tkn fs B e = false → wX4_workMost_60 Q (lX4_workMost_3 Q (d + 1)) (ad 5 0 0) (ad 4 s1 0) (ad 4 s2 0) (ad 4 k 0) (nI i) σ3 := fun z => by
        rw [if_pos (by rw [z]; rfl)] at es
        refine ⟨fun y => absurd rfl y, fun _ => ⟨k4 h3 (by omega), _, p192 h3 (by omega), k192 h3 (by omega), by rw [l192 h3 (by omega), rm s1 hs1]; exact vp_in_nI (by omega) (by decide), _, by rw [show ix (nI i) = i from nI_clamp (by omega)]; exact b2, k4 h3 (by omega), ?_⟩⟩
        refine C_add h3 c (by omega) q (by omega) b1 n1 (b3.weak hc1) (fun y => ?_) (fun σ4 f4 c4 q4 => ⟨fun _ => ?_, fun y => absurd y (by decide)⟩)
        · rw [rm k hk] at y; omega
        · rw [nI_1]
          exact ih (i + 1) σ4 (by omega) (F.tr1 f4) c4 (by rw [es]; exact q4)
      have away : tkn fs B e = true → wX4_workMost_61 Q (lX4_workMost_3 Q (d + 1)) (ad 5 0 0) (ad 4 s1 0) (ad 4 s2 0) (ad 4 k 0) (nI i) 1 σ3 := fun z => by
        rw [if_neg (by rw [z]; decide), List.append_nil] at es
        refine ⟨fun _ => ?_, fun y => absurd y (by decide)⟩
        rw [nI_1]
        exact ih (i + 1) σ3 (by omega) F c (by rw [es]; exact q)
      refine ⟨k4 h3 (by omega), fun z => absurd z (by rw [q3.1]; exact nI_ge (by omega) (by omega)), fun _ => ⟨_, p192 h3 (by omega), k192 h3 (by omega), by rw [l192 h3 (by omega), rm s1 hs1]; exact vp_in_nI (by omega) (by decide), _, by rw [show ix (nI i) = i from nI_clamp (by omega)]; exact b2, k3 h3 (by omega) b1, _, p128 h3 (by omega) b1, k4 h3 (by omega), ?_⟩⟩
      have pr : (B.map (fun e => e.1)).Pairwise rlt := by rw [List.pairwise_map]; exact hp
      refine A_spot h3 (by omega) q23.rows pr b3.1 ⟨k128 h3 (by omega) b1, l128 h3 (by omega) b1, b3.2.1⟩ (fun hno => ⟨k4 h3 (by omega), A_at h3 (by omega) q23 (-1) (fun _ => ⟨fun _ => keep ?_, fun a y => (by cases y)⟩) (fun m b jj em em2 => absurd em.symm (nI_m1 (by omega)))⟩) (fun m hm em => ⟨k4 h3 (by omega), ?_⟩)
      · unfold tkn
        rw [List.any_eq_false]
        intro b hb
        obtain ⟨m, hm, rfl⟩ := List.mem_iff_getElem.mp hb
        rw [decide_eq_false (fun z => hno m (by rw [List.getElem?_map, List.getElem?_eq_getElem hm]; exact congrArg some z)), Bool.false_and]
        decide
      · rw [List.length_map] at hm
        rw [List.getElem?_map, List.getElem?_eq_getElem hm] at em
        have em : B[m].1 = e.1 := Option.some.inj em
        have bm : B[m] ∈ B := List.getElem_mem hm
        have tk : tkn fs B e = B[m].2.1.any (there fs) := by
          unfold tkn
          rw [Bool.eq_iff_iff, List.any_eq_true]
          constructor
          · rintro ⟨b, hb, z⟩
            rw [Bool.and_eq_true] at z
            have er := of_decide_eq_true z.1
            obtain ⟨m2, hm2, rfl⟩ := List.mem_iff_getElem.mp hb
            have pw := List.pairwise_iff_getElem.mp hp
            rcases Nat.lt_trichotomy m m2 with y | y | y
            · have := pw m m2 hm hm2 y
              rw [er, em] at this
              exact absurd this (rlt_ir _)
            · subst y; exact z.2
            · have := pw m2 m hm2 hm y
              rw [er, em] at this
              exact absurd this (rlt_ir _)
          · intro z
            exact ⟨B[m], bm, by rw [decide_eq_true em, z]; rfl⟩
        refine A_at h3 (by omega) q23 (nI m) (fun z => ?_) (fun m2 b jj e1 e2 e3 e4 e5 e6 => ⟨fun y => (by cases y), fun a y => ?_⟩)
        · rw [if_neg (nI_pos (by omega)), show ix (nI m) = m from nI_clamp (by omega), List.getElem?_eq_getElem hm] at z
          cases z
        · cases y
          have em2 : m2 = m := by
            have e1 := congrArg Int32.toInt e1
            rw [nI_toInt (by omega), nI_toInt (by omega)] at e1
            omega
          subst em2
          rw [List.getElem?_eq_getElem hm] at e3
          cases e3
          refine ⟨k5 h3, _, p256 h3, k7 h3, k3 h3 (by omega) e5, A_stands h3 (by omega) e5 e6 _ ?_⟩
          have an : (B[m2].2.1.any (fun u => decide (sb u (zFj σ3 389 (ad 7 0 0) ^^^ (-1))))) = B[m2].2.1.any (there fs) := by
            rw [Bool.eq_iff_iff, List.any_eq_true, List.any_eq_true]
            have ts : ∀ u ∈ B[m2].2.1, decide (sb u (zFj σ3 389 (ad 7 0 0) ^^^ (-1))) = there fs u := fun u hu => there_sb hl (hB _ bm u hu) (fun i f hf2 => (f3.2 i f hf2).2.2.2)
            exact ⟨fun ⟨u, hu, z⟩ => ⟨u, hu, by rw [← ts u hu]; exact z⟩, fun ⟨u, hu, z⟩ => ⟨u, hu, by rw [ts u hu]; exact z⟩⟩
          rw [an, ← tk]
          refine ⟨fun y => keep ?_, fun y => away ?_⟩
          · cases z : tkn fs B e with
            | false => rfl
            | true => rw [z] at y; exact absurd y (by decide)
          · cases z : tkn fs B e with
            | true => rfl
            | false => rw [z] at y; exact absurd rfl y
  exact ⟨_, key A.length 0 σ (by omega) Fr.rf hw (by rw [List.take_zero]; exact qo)⟩
end MM
