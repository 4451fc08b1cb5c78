/-! the class: melt -/
section MK
variable {ad : Ad} {ct : Ct} {σ : St}
abbrev S3g (s : Nat) : Nat × Nat → Prop := fun p => p = (3, s) ∨ p = (129, s) ∨ p = (8, 0) ∨ p = (448, 0)
theorem S3g_SC (s : Nat) : ∀ p, S3g s p → SC p := fun p q => by rcases q with rfl | rfl | rfl | rfl <;> simp [SC]
theorem C_melt3 (h : Sh ad ct σ) (hw : Crw ad σ) {s w : Nat} {cl : Bool} {RAW : List Ans} (hs : s < 40) (qr : AR ad σ 40 RAW w cl) {rs : List (List Int32)} (q : ARr ad σ s rs w) (hp : rs.Pairwise rlt) (hm : ∀ r, r ∈ rs ↔ ∃ x ∈ RAW, x.1 = r) (hg : ∀ i e, RAW[i]? = some e → ∃ t, rs[t]? = some e.1 ∧ zAi σ (ad 262 0 0) i = nI t) {Q : Int32 → St → Prop} (h0 : ∀ σ', Fr ct (S3g s) σ σ' → NOm RAW → Q 0 σ') (h1 : ∀ σ' R, Fr ct (S3g s) σ σ' → AR ad σ' s R w cl → OKm RAW R → Q 1 σ') : ∃ f, lX4_melt_83 Q f (ad 5 0 0) (ad 4 s 0) 0 σ := by
  have hrm : room s = 32 := by unfold room; rw [if_neg (by omega)]
  have hL := qr.2.2.2.1
  have hr40 : room 40 = 64 := rfl
  have hrl : rs.length ≤ 32 := by rw [← hrm]; exact q.2.2.2.1
  have w16 : ∀ e ∈ RAW, e.2.1.length ≤ 16 := fun e he => by
    obtain ⟨i, hi, rfl⟩ := List.mem_iff_getElem.mp he
    obtain ⟨j, _, _, q⟩ := qr.2.2.2.2 i _ (List.getElem?_eq_getElem hi)
    exact q.2.2.1
  have key : ∀ (d t : Nat) (Ld : List Ans) (σ3 : St), t + d = rs.length → Fr ct (S3g s) σ σ3 → Ld.length = t → (∀ i e, Ld[i]? = some e → rs[i]? = some e.1 ∧ MeE RAW e ∧ ∃ j, j < room s ∧ zAr σ3 (ad 192 s 0) i = some (ad 3 s j) ∧ AnsAt ad σ3 s j w cl e) → lX4_melt_83 Q (d + 1) (ad 5 0 0) (ad 4 s 0) (nI t) σ3 := by
    intro d
    induction d with
    | zero =>
      intro t Ld σ3 ht f hl hd
      have ht : t = rs.length := by omega
      have h3 := h.frC (f.mono (S3g_SC s))
      have q3 := q.cg h f (by omega) (by simp) (by simp) (by simp)
      refine ⟨k4 h3 (by omega), fun _ => h1 σ3 Ld f ⟨by rw [hl, ht]; exact q3.1, q3.2.1, q3.2.2.1, by omega, fun i e he => (hd i e he).2.2⟩ ⟨by omega, ?_, fun r => ?_, fun e he => ?_⟩, fun z => absurd ?_ z⟩
      · rw [List.pairwise_iff_getElem]
        intro i j hi hj hij
        have a := List.getElem?_eq_some_iff.mp (hd i _ (List.getElem?_eq_getElem hi)).1
        have b := List.getElem?_eq_some_iff.mp (hd j _ (List.getElem?_eq_getElem hj)).1
        rw [← a.2, ← b.2]
        exact List.pairwise_iff_getElem.mp hp i j a.1 b.1 hij
      · rw [← hm]
        constructor
        · rintro ⟨e, he, rfl⟩
          obtain ⟨i, hi, rfl⟩ := List.mem_iff_getElem.mp he
          exact List.mem_of_getElem? (hd i _ (List.getElem?_eq_getElem hi)).1
        · intro hr
          obtain ⟨i, hi, er⟩ := List.mem_iff_getElem.mp hr
          have hiL : i < Ld.length := by omega
          have a := (hd i _ (List.getElem?_eq_getElem hiL)).1
          rw [List.getElem?_eq_getElem hi, er] at a
          exact ⟨Ld[i], List.getElem_mem hiL, (Option.some.inj a).symm⟩
      · obtain ⟨i, hi, rfl⟩ := List.mem_iff_getElem.mp he
        exact (hd i _ (List.getElem?_eq_getElem hi)).2.1
      · rw [q3.1, ht]; exact nI_le (Nat.le_refl _) (by omega)
    | succ d ih =>
      intro t Ld σ3 ht f hl hd
      have h3 := h.frC (f.mono (S3g_SC s))
      have q3 := q.cg h f (by omega) (by simp) (by simp) (by simp)
      have qr3 := qr.cg h f (by decide) (by simp) (by simp; omega) (by simp) (by simp; omega) (by simp)
      have hw3 : Crw ad σ3 := hw.cg h f (fun s' _ => by simp)
      have hg3 : ∀ i e, RAW[i]? = some e → ∃ t, rs[t]? = some e.1 ∧ zAi σ3 (ad 262 0 0) i = nI t := fun i e he => by
        obtain ⟨t, a, b⟩ := hg i e he
        exact ⟨t, a, (f.ai (k262 h) (by decide) (c262 h) (by simp) i).trans b⟩
      obtain ⟨r, hr⟩ : ∃ r, rs[t]? = some r := ⟨_, List.getElem?_eq_getElem (by omega)⟩
      obtain ⟨jt, a1, a2, a3, a4⟩ := q3.2.2.2.2 t r hr
      refine ⟨k4 h3 (by omega), fun z => absurd z (by rw [q3.1]; exact nI_ge (by omega) (by omega)), fun _ => ⟨k5 h3, _, p259 h3, k8 h3, C_gclear h3 (fun σ4 J4 => ⟨RAW.length + 1, ?_⟩)⟩⟩
      refine C_melt3i h3 hs qr3 hp hg3 hrl hr a1 a2 (fun σ5 c J5 hc => ?_) RAW.length 0 σ4 0 (by omega) J4 (fun _ => rfl)
      have h5 := h3.frC (J5.1.mono SG_SC)
      have ln := addA_len (gath RAW r) []
      have gl := gath_len w16 r
      rw [List.length_nil] at ln
      have an : Anti (addA [] (gath RAW r)) := addA_anti _ List.Pairwise.nil
      have up : ∀ X, Upw (addA [] (gath RAW r)) X ↔ Upw (gath RAW r) X := fun X => by
        rw [addA_up]
        exact ⟨fun z => z.elim (fun ⟨w, hw, _⟩ => absurd hw List.not_mem_nil) id, Or.inr⟩
      have sg3 : ∀ p, SG p → S3g s p := fun p q => by rcases q with q | q <;> simp [S3g, q]
      have s39 : ∀ p, S39 s p → S3g s p := fun p q => by rcases q with q | q <;> simp [S3g, q]
      refine C_giveAll h5 (by omega) a1 (by omega) J5 (fun σ6 big f6 => ⟨fun y => absurd rfl y, fun _ => h0 σ6 ((f.tr1 (J5.1.mono sg3)).tr1 (f6.mono s39)) (NOm.ways an big (fun x hx => (addA_mem _ hx).elim (fun z => absurd z List.not_mem_nil) id) up)⟩) (fun σ6 k l16 kp ks f6 sl rst => ⟨fun _ => ?_, fun y => absurd y (by decide)⟩)
      have f36 : Fr ct (S3g s) σ3 σ6 := (J5.1.mono sg3).tr1 (f6.mono s39)
      have cw : CW k (gath RAW r) := CW.of an up kp ks
      rw [nI_1]
      refine ih (t + 1) (Ld ++ [(r, k, cntS RAW r, cstS RAW r, truS RAW r)]) σ6 (by omega) (f.tr1 f36) (by rw [List.length_append, List.length_singleton, hl]) (fun i e he => ?_)
      by_cases c1 : i < Ld.length
      · rw [List.getElem?_append_left c1] at he
        obtain ⟨b1, b2, j, b3, b4, b5⟩ := hd i e he
        have ne := hw3.ne h3 (by omega) (show i < room s by omega) (show t < room s by omega) (by omega) b3 b4 a1 a2
        refine ⟨b1, b2, j, b3, (f36.ar (k192 h3 (by omega)) (by decide) (c192 h3 (by omega)) (by simp) i).trans b4, ?_⟩
        exact sl.ans b3 ne (b5.g h3 (by omega) b3 J5.1)
      · have hb := (List.getElem?_eq_some_iff.mp he).1
        rw [List.length_append, List.length_singleton] at hb
        have ei : i = Ld.length := by omega
        rw [ei, List.getElem?_append_right (Nat.le_refl _), Nat.sub_self] at he
        have he : some (r, k, cntS RAW r, cstS RAW r, truS RAW r) = some e := he
        cases he
        refine ⟨by rw [ei, hl]; exact hr, ⟨by rw [show (r, k, cntS RAW r, cstS RAW r, truS RAW r).2.1 = k from rfl, kp.length_eq]; exact l16, cw, rfl, rfl, rfl⟩, jt, a1, ?_, a3, fun m v hv => ?_, ?_⟩
        · rw [ei, hl]
          exact (f36.ar (k192 h3 (by omega)) (by decide) (c192 h3 (by omega)) (by simp) t).trans a2
        · exact (f36.ai (k128 h3 (by omega) a1) (by decide) (c128 h3 (by omega) a1) (by simp) m).trans (a4 m v hv)
        · obtain ⟨r1, r2, r3, r4, r5, r6⟩ := rst cl r
          exact ⟨r1, r2, r3, fun z => by rw [r4 z]; exact hc z, r5, r6⟩
  exact ⟨_, key rs.length 0 [] σ (by omega) Fr.rf rfl (fun i e he => by rw [List.getElem?_nil] at he; cases he)⟩
theorem C_melt (h : Sh ad ct σ) (hw : Crw ad σ) {s w : Nat} {cl : Bool} {RAW : List Ans} (hs : s < 40) (qr : AR ad σ 40 RAW w cl) (qo : AR ad σ s [] w cl) {Q : Int32 → St → Prop} (h0 : ∀ σ', Fr ct (SMt s) σ σ' → Crw ad σ' → NOm RAW → Q 0 σ') (h1 : ∀ σ' R, Fr ct (SMt s) σ σ' → Crw ad σ' → AR ad σ' s R w cl → OKm RAW R → Q 1 σ') : wX4_melt (ad 5 0 0) (ad 4 s 0) σ Q := by
  have m1 : ∀ p, SNr s p → SMt s p := fun p q => Or.inl q
  have m2 : ∀ p : Nat × Nat, (fun p => p = (262, 0)) p → SMt s p := fun p q => Or.inr (Or.inr q)
  have m3 : ∀ p, S3g s p → SMt s p := fun p q => by rcases q with q | q | q | q <;> simp [SMt, SNr, SG, q]
  refine C_melt1 h hw hs qr qo.rows (fun σ1 f1 c1 n => h0 σ1 (f1.mono m1) c1 n) (fun σ1 rs f1 c1 q1 hp hm => ?_)
  have h1' := h.frC (f1.mono (SNr_SC s))
  have qr1 := qr.sn h (by decide) (by omega) f1
  refine C_melt2 h1' hs qr1 q1 hp (fun x hx => (hm x.1).mpr ⟨x, hx, rfl⟩) (fun σ2 f2 hg => ?_)
  have h2 := h1'.frC (f2.mono (fun p q => SMt_SC s p (m2 p q)))
  have c2 : Crw ad σ2 := c1.cg h1' f2 (fun s' _ => by simp)
  have qr2 := qr1.cg h1' f2 (by decide) (by simp) (by simp) (by simp) (by simp) (by simp)
  have q2 := q1.cg h1' f2 (by omega) (by simp) (by simp) (by simp)
  exact C_melt3 h2 c2 hs qr2 q2 hp hm hg (fun σ3 f3 n => h0 σ3 (((f1.mono m1).tr1 (f2.mono m2)).tr1 (f3.mono m3)) (c2.cg h2 f3 (fun s' _ => by simp)) n) (fun σ3 R f3 a o => h1 σ3 R (((f1.mono m1).tr1 (f2.mono m2)).tr1 (f3.mono m3)) (c2.cg h2 f3 (fun s' _ => by simp)) a o)
end MK
