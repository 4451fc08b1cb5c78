/-! the reference: ways piled -/
section MD
variable {ad : Ad} {ct : Ct} {σ : St}
abbrev SP : Nat × Nat → Prop := fun p => p = (17, 0) ∨ p = (1053, 0)
theorem SP_SM : ∀ p, SP p → SM p := fun p q => by rcases q with rfl | rfl <;> decide
def PiI (ad : Ad) (ct : Ct) (σ σ' : St) (l : List Int64) : Prop := Fr ct SP σ σ' ∧ (∀ g, g ≠ 1054 → zFi σ' g (ad 17 0 0) = zFi σ g (ad 17 0 0)) ∧ zFi σ' 1054 (ad 17 0 0) = nI l.length ∧ ∀ k v, l[k]? = some v → zAj σ' (ad 1053 0 0) k = v
theorem pi_0 (h : Sh ad ct σ) : PiI ad ct σ (uFi σ 1054 (ad 17 0 0) 0) [] := by
  refine ⟨Fr.rf.uFi _ _ _ (Or.inl (by rw [c17 h]; decide)), fun g hg => ?_, ?_, fun k v e => ?_⟩
  · rw [yFi_uFi, yu2, if_neg (fun z => hg z.1)]
  · rw [yFi_uFi, yu2, if_pos ⟨rfl, rfl⟩]; rfl
  · rw [List.getElem?_nil] at e; cases e
theorem M_piles (h : Sh ad ct σ) {l : List Int64} (hl : l.length < 8208) (w : Int64) {σ' : St} (I : PiI ad ct σ σ' l) {Q : St → Prop} (hQ : ∀ σ2, PiI ad ct σ σ2 (addW l w) → Q σ2) : wX16_piles (ad 17 0 0) w σ' Q := by
  have two : (∀ x ∈ l, ¬ sb x w) → ∀ (d k : Nat) (σ3 : St), k + d = l.length → Fr ct SP σ σ3 → (∀ g, zFi σ3 g (ad 17 0 0) = zFi σ' g (ad 17 0 0)) → (∀ i v, (kpW l w k)[i]? = some v → zAj σ3 (ad 1053 0 0) i = v) → (∀ i v, k ≤ i → l[i]? = some v → zAj σ3 (ad 1053 0 0) i = v) → lX16_piles_42 Q (d + 1) (ad 17 0 0) w (nI (kpW l w k).length) (nI k) σ3 := by
    intro hno d
    induction d with
    | zero =>
      intro k σ3 hk f0 f1 f2 f3
      have h3 := h.frM (f0.mono SP_SM)
      have hk : k = l.length := by omega
      have kl := kpW_len l w k
      have ea : addW l w = kpW l w k ++ [w] := by
        unfold addW kpW
        rw [hk, List.take_length, if_neg]
        intro z
        obtain ⟨x, hx, hw⟩ := List.any_eq_true.mp z
        exact hno x hx (of_decide_eq_true hw)
      refine ⟨k17 h3, fun _ => ⟨_, p1053 h3, k1053 h3, by rw [l1053 h3]; exact vp_in_nI (by omega) (by decide), ?_⟩, fun z => absurd ?_ z⟩
      · rw [show ix (nI (kpW l w k).length) = (kpW l w k).length from nI_clamp (by omega), nI_1]
        refine hQ _ ?_
        rw [ea]
        refine ⟨(f0.uAj _ _ _ (Or.inl (by rw [c1053 h3]; decide))).uFi _ _ _ (Or.inl (by rw [c17 h3]; decide)), fun g hg => ?_, ?_, fun i v hi => ?_⟩
        · rw [yFi_uFi, yu2, if_neg (fun z => hg z.1), yFi_uAj, f1]; exact I.2.1 g hg
        · rw [yFi_uFi, yu2, if_pos ⟨rfl, rfl⟩, List.length_append, List.length_singleton]
        · rw [yAj_uFi, yAj_uAj, yu2]
          by_cases y : i = (kpW l w k).length
          · rw [if_pos ⟨rfl, y⟩]
            rw [y, List.getElem?_append_right (Nat.le_refl _), Nat.sub_self] at hi
            exact Option.some.inj hi
          · rw [if_neg (fun q => y q.2)]
            have hl := (List.getElem?_eq_some_iff.mp hi).1
            rw [List.length_append, List.length_singleton] at hl
            rw [List.getElem?_append_left (by omega)] at hi
            exact f2 i v hi
      · rw [f1, I.2.2.1, hk]; exact nI_le (Nat.le_refl _) (by omega)
    | succ d ih =>
      intro k σ3 hk f0 f1 f2 f3
      have h3 := h.frM (f0.mono SP_SM)
      have kl := kpW_len l w k
      obtain ⟨x, hx⟩ : ∃ x, l[k]? = some x := ⟨_, List.getElem?_eq_getElem (by omega)⟩
      have ex := f3 k x (Nat.le_refl _) hx
      have es := kpW_s (w := w) hx
      refine ⟨k17 h3, fun z => absurd z (by rw [f1, I.2.2.1]; exact nI_ge (by omega) (by omega)), fun _ => ⟨_, p1053 h3, k1053 h3, by rw [l1053 h3]; exact vp_in_nI (by omega) (by decide), ?_⟩⟩
      rw [show ix (nI k) = k from nI_clamp (by omega), ex, nI_1]
      refine ⟨fun y => ⟨by rw [l1053 h3]; exact vp_in_nI (by omega) (by decide), ?_⟩, fun y => ?_⟩
      · rw [if_neg (show ¬ sb w x from y)] at es
        have t := ih (k + 1) (uAj σ3 (ad 1053 0 0) (kpW l w k).length x) (by omega) (f0.uAj _ _ _ (Or.inl (by rw [c1053 h3]; decide))) (fun g => by rw [yFi_uAj]; exact f1 g) (fun i v hi => ?_) (fun i v hi hv => ?_)
        · rw [es, List.length_append, List.length_singleton] at t
          rw [show ix (nI (kpW l w k).length) = (kpW l w k).length from nI_clamp (by omega), nI_1]
          exact t
        · rw [yAj_uAj, yu2]
          rw [es] at hi
          by_cases y : i = (kpW l w k).length
          · rw [if_pos ⟨rfl, y⟩]
            rw [y, List.getElem?_append_right (Nat.le_refl _), Nat.sub_self] at hi
            exact Option.some.inj hi
          · rw [if_neg (fun q => y q.2)]
            have hl := (List.getElem?_eq_some_iff.mp hi).1
            rw [List.length_append, List.length_singleton] at hl
            rw [List.getElem?_append_left (by omega)] at hi
            exact f2 i v hi
        · rw [yAj_uAj, yu2, if_neg (fun q => by have := q.2; omega)]
          exact f3 i v (by omega) hv
      · rw [if_pos (show sb w x from y), List.append_nil] at es
        have t := ih (k + 1) σ3 (by omega) f0 f1 (by rw [es]; exact f2) (fun i v hi => f3 i v (by omega))
        rw [es] at t
        rw [nI_1]
        exact t
  have h' := h.frM (I.1.mono SP_SM)
  have one : ∀ (d k : Nat), k + d = l.length → (∀ x ∈ l.take k, ¬ sb x w) → lX16_piles_5 Q (d + 1) (ad 17 0 0) w 0 (nI k) σ' := by
    intro d
    induction d with
    | zero =>
      intro k hk hn
      have hk : k = l.length := by omega
      rw [hk, List.take_length] at hn
      refine ⟨k17 h', fun _ => ⟨_, two hn l.length 0 σ' (by omega) I.1 (fun _ => rfl) (fun i v hi => ?_) (fun i v _ hv => I.2.2.2 i v hv)⟩, fun z => absurd ?_ z⟩
      · rw [show kpW l w 0 = [] from rfl, List.getElem?_nil] at hi; cases hi
      · rw [I.2.2.1, hk]; exact nI_le (Nat.le_refl _) (by omega)
    | succ d ih =>
      intro k hk hn
      obtain ⟨x, hx⟩ : ∃ x, l[k]? = some x := ⟨_, List.getElem?_eq_getElem (by omega)⟩
      have et : l.take (k + 1) = l.take k ++ [x] := by rw [List.take_add_one, hx]; rfl
      refine ⟨k17 h', fun z => absurd z (by rw [I.2.2.1]; exact nI_ge (by omega) (by omega)), fun _ => ⟨_, p1053 h', k1053 h', by rw [l1053 h']; exact vp_in_nI (by omega) (by decide), ?_⟩⟩
      rw [show ix (nI k) = k from nI_clamp (by omega), I.2.2.2 k x hx, nI_1]
      refine ⟨fun z => ih (k + 1) (by omega) (fun u hu => ?_), fun z => hQ σ' ?_⟩
      · rw [et] at hu
        rcases List.mem_append.mp hu with q | q
        · exact hn u q
        · rw [List.mem_singleton.mp q]; exact z
      · have ea : addW l w = l := by
          unfold addW
          rw [if_pos (List.any_eq_true.mpr ⟨x, List.mem_of_getElem? hx, decide_eq_true z⟩)]
        rw [ea]; exact I
  exact ⟨_, one l.length 0 (by omega) (fun x hx => absurd hx List.not_mem_nil)⟩
theorem RowAt.p (h : Sh ad ct σ) {s r w : Nat} {cl : Bool} {e : Ans} (hs : s < 42) (q : RowAt ad σ s r w cl e) {σ' : St} (f : Fr ct SP σ σ') : RowAt ad σ' s r w cl e := q.cg h f hs (fun g g1 g2 q => by rcases q with q | q <;> cases q <;> omega)
theorem ix16 {r k : Nat} (hr : r < 32) (hk : k < 16) : ix ((16 : Int32) * nI r + nI k) = 16 * r + k ∧ (16 : Int32) * nI r + nI k = nI (16 * r + k) := by
  have e : (16 : Int32) * nI r + nI k = nI (16 * r + k) := by rw [show (16 : Int32) = nI 16 from rfl, pk_mul, nI_add]
  exact ⟨by rw [e]; exact nI_clamp (by omega), e⟩
theorem M_pilesAll (h : Sh ad ct σ) {s r w : Nat} {cl : Bool} {e : Ans} (hs : s < 42) (hr : r < 32) (q : RowAt ad σ s r w cl e) {l : List Int64} (hl : l.length + e.2.1.length ≤ 8208) {σ' : St} (I : PiI ad ct σ σ' l) {Q : St → Prop} (hQ : ∀ σ2, PiI ad ct σ σ2 (addA l e.2.1) → Q σ2) : wX16_pilesAll (ad 17 0 0) (ad 15 s 0) (nI r) σ' Q := by
  have q3 := q.2.2.1
  have er : ix (nI r) = r := nI_clamp (by omega)
  have key : ∀ (ws : List Int64) (k : Nat) (l : List Int64) (σ3 : St), k + ws.length = e.2.1.length → (∀ m v, ws[m]? = some v → e.2.1[k + m]? = some v) → l.length + ws.length ≤ 8208 → PiI ad ct σ σ3 l → (∀ σ2, PiI ad ct σ σ2 (addA l ws) → Q σ2) → lX16_pilesAll_2 Q (ws.length + 1) (ad 17 0 0) (ad 15 s 0) (nI r) (nI k) σ3 := by
    intro ws
    induction ws with
    | nil =>
      intro k l σ3 hk hw hl J hq
      have hk : k = e.2.1.length := by simpa using hk
      have h3 := h.frM (J.1.mono SP_SM)
      refine ⟨k15 h3 hs, _, p899 h3 hs, k899 h3 hs, by rw [l899 h3 hs]; exact vp_in_nI hr (by decide), fun _ => hq σ3 J, fun z => absurd ?_ z⟩
      rw [er, (q.p h hs J.1).2.2.2.1, hk]; exact nI_le (Nat.le_refl _) (by omega)
    | cons a ws ih =>
      intro k l σ3 hk hw hl J hq
      rw [List.length_cons] at hk hl
      have h3 := h.frM (J.1.mono SP_SM)
      have q' := q.p h hs J.1
      obtain ⟨x1, x2⟩ := ix16 (r := r) (k := k) hr (by omega)
      refine ⟨k15 h3 hs, _, p899 h3 hs, k899 h3 hs, by rw [l899 h3 hs]; exact vp_in_nI hr (by decide), fun z => absurd z (by rw [er, q'.2.2.2.1]; exact nI_ge (by omega) (by omega)), fun _ => ⟨_, p901 h3 hs, k901 h3 hs, by rw [l901 h3 hs, x2]; exact vp_in_nI (by omega) (by decide), k17 h3, ?_⟩⟩
      rw [x1, q'.2.2.2.2.1 k a (by have := hw 0 a rfl; rw [Nat.add_zero] at this; exact this), nI_1]
      have := addW_len l a
      exact M_piles h (by omega) a J (fun σ2 J2 => ih (k + 1) (addW l a) σ2 (by omega) (fun m v hv => by rw [show k + 1 + m = k + (m + 1) by omega]; exact hw (m + 1) v hv) (by omega) J2 hq)
  exact ⟨_, key e.2.1 0 l σ' (by omega) (fun m v hv => by rw [Nat.zero_add]; exact hv) hl I hQ⟩
theorem M_pilesBoth (h : Sh ad ct σ) {s r w s2 r2 w2 : Nat} {cl cl2 : Bool} {e e2 : Ans} (hs : s < 42) (hr : r < 32) (q : RowAt ad σ s r w cl e) (hs2 : s2 < 42) (hr2 : r2 < 32) (q2 : RowAt ad σ s2 r2 w2 cl2 e2) {l : List Int64} (hl : l.length + e.2.1.length * e2.2.1.length ≤ 8208) {σ' : St} (I : PiI ad ct σ σ' l) {Q : St → Prop} (hQ : ∀ σ2, PiI ad ct σ σ2 (addA l (uni e.2.1 e2.2.1)) → Q σ2) : wX16_pilesBoth (ad 17 0 0) (ad 15 s 0) (nI r) (ad 15 s2 0) (nI r2) σ' Q := by
  have q3 := q.2.2.1
  have q23 := q2.2.2.1
  have er : ix (nI r) = r := nI_clamp (by omega)
  have er2 : ix (nI r2) = r2 := nI_clamp (by omega)
  have inn : ∀ (rr : Nat → Nat → Int32 → Nat → Int32 → Int32 → St → Prop) (k : Nat) (a : Int64), e.2.1[k]? = some a → ∀ (ws : List Int64) (m : Nat) (l : List Int64) (σ3 : St), m + ws.length = e2.2.1.length → (∀ i v, ws[i]? = some v → e2.2.1[m + i]? = some v) → l.length + ws.length ≤ 8208 → PiI ad ct σ σ3 l → (∀ σ2, PiI ad ct σ σ2 (addA l (ws.map (fun b => a ||| b))) → rr (ad 17 0 0) (ad 15 s 0) (nI r) (ad 15 s2 0) (nI r2) (nI k + 1) σ2) → lX16_pilesBoth_17 Q rr (ws.length + 1) (ad 17 0 0) (ad 15 s 0) (nI r) (ad 15 s2 0) (nI r2) (nI k) (nI m) σ3 := by
    intro rr k a hka ws
    have hk16 := (List.getElem?_eq_some_iff.mp hka).1
    obtain ⟨x1, x2⟩ := ix16 (r := r) (k := k) hr (by omega)
    induction ws with
    | nil =>
      intro m l σ3 hm hw hl J hq
      have hm : m = e2.2.1.length := by simpa using hm
      have h3 := h.frM (J.1.mono SP_SM)
      refine ⟨k15 h3 hs2, _, p899 h3 hs2, k899 h3 hs2, by rw [l899 h3 hs2]; exact vp_in_nI hr2 (by decide), fun _ => hq σ3 J, fun z => absurd ?_ z⟩
      rw [er2, (q2.p h hs2 J.1).2.2.2.1, hm]; exact nI_le (Nat.le_refl _) (by omega)
    | cons b ws ih =>
      intro m l σ3 hm hw hl J hq
      rw [List.length_cons] at hm hl
      have h3 := h.frM (J.1.mono SP_SM)
      have q' := q.p h hs J.1
      have q2' := q2.p h hs2 J.1
      obtain ⟨y1, y2⟩ := ix16 (r := r2) (k := m) hr2 (by omega)
      refine ⟨k15 h3 hs2, _, p899 h3 hs2, k899 h3 hs2, by rw [l899 h3 hs2]; exact vp_in_nI hr2 (by decide), fun z => absurd z (by rw [er2, q2'.2.2.2.1]; exact nI_ge (by omega) (by omega)), fun _ => ⟨k15 h3 hs, _, p901 h3 hs, k901 h3 hs, by rw [l901 h3 hs, x2]; exact vp_in_nI (by omega) (by decide), _, p901 h3 hs2, k901 h3 hs2, by rw [l901 h3 hs2, y2]; exact vp_in_nI (by omega) (by decide), k17 h3, ?_⟩⟩
      rw [x1, y1, q'.2.2.2.2.1 k a hka, q2'.2.2.2.2.1 m b (by have := hw 0 b rfl; rw [Nat.add_zero] at this; exact this), nI_1]
      have := addW_len l (a ||| b)
      exact M_piles h (by omega) (a ||| b) J (fun σ2 J2 => ih (m + 1) (addW l (a ||| b)) σ2 (by omega) (fun i v hv => by rw [show m + 1 + i = m + (i + 1) by omega]; exact hw (i + 1) v hv) (by omega) J2 hq)
  have out : ∀ (ws : List Int64) (k : Nat) (l : List Int64) (σ3 : St), k + ws.length = e.2.1.length → (∀ m v, ws[m]? = some v → e.2.1[k + m]? = some v) → l.length + ws.length * e2.2.1.length ≤ 8208 → PiI ad ct σ σ3 l → (∀ σ2, PiI ad ct σ σ2 (addA l (uni ws e2.2.1)) → Q σ2) → lX16_pilesBoth_3 Q (ws.length + 1) (ad 17 0 0) (ad 15 s 0) (nI r) (ad 15 s2 0) (nI r2) (nI k) σ3 := by
    intro ws
    induction ws with
    | nil =>
      intro k l σ3 hk hw hl J hq
      have hk : k = e.2.1.length := by simpa using hk
      have h3 := h.frM (J.1.mono SP_SM)
      refine ⟨k15 h3 hs, _, p899 h3 hs, k899 h3 hs, by rw [l899 h3 hs]; exact vp_in_nI hr (by decide), fun _ => hq σ3 J, fun z => absurd ?_ z⟩
      rw [er, (q.p h hs J.1).2.2.2.1, hk]; exact nI_le (Nat.le_refl _) (by omega)
    | cons a ws ih =>
      intro k l σ3 hk hw hl J hq
      rw [List.length_cons] at hk
      rw [List.length_cons, Nat.add_mul] at hl
      have h3 := h.frM (J.1.mono SP_SM)
      have q' := q.p h hs J.1
      refine ⟨k15 h3 hs, _, p899 h3 hs, k899 h3 hs, by rw [l899 h3 hs]; exact vp_in_nI hr (by decide), fun z => absurd z (by rw [er, q'.2.2.2.1]; exact nI_ge (by omega) (by omega)), fun _ => ⟨e2.2.1.length + 1, ?_⟩⟩
      refine inn _ k a (by have := hw 0 a rfl; rw [Nat.add_zero] at this; exact this) e2.2.1 0 l σ3 (by omega) (fun i v hv => by rw [Nat.zero_add]; exact hv) (by omega) J (fun σ2 J2 => ?_)
      rw [nI_1]
      have ln := addA_len (e2.2.1.map (fun b => a ||| b)) l
      rw [List.length_map] at ln
      refine ih (k + 1) _ σ2 (by omega) (fun m v hv => by rw [show k + 1 + m = k + (m + 1) by omega]; exact hw (m + 1) v hv) (by omega) J2 (fun σ4 J4 => hq σ4 ?_)
      rw [show uni (a :: ws) e2.2.1 = e2.2.1.map (fun b => a ||| b) ++ uni ws e2.2.1 from List.flatMap_cons, addA_app]
      exact J4
  exact ⟨_, out e.2.1 0 l σ' (by omega) (fun m v hv => by rw [Nat.zero_add]; exact hv) hl I hQ⟩
end MD
