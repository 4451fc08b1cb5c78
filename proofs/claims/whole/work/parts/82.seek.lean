/-! the class: the search for the smallest set -/
section LB
variable {ad : Ad} {ct : Ct} {σ : St}
def HitI (ad : Ad) (ct : Ct) (σ σ' : St) (S : List Int64) : Prop := Fr ct SW σ σ' ∧ zFi σ' 513 (ad 9 0 0) = nI S.length ∧ S.length ≤ 16 ∧ ∀ k s, S[k]? = some s → zAj σ' (ad 512 0 0) k = s
theorem HitI.b (h : Sh ad ct σ) {σ' : St} {S : List Int64} (I : HitI ad ct σ σ' S) (v : Int64) : HitI ad ct σ (uFj σ' 514 (ad 9 0 0) v) S := by
  obtain ⟨i1, i2, i3, i4⟩ := I
  have h' := h.frC (i1.mono SW_SC)
  exact ⟨i1.uFj _ _ _ (Or.inl (by rw [c9 h']; decide)), by rw [yFi_uFj]; exact i2, i3, fun k s e => by rw [yAj_uFj]; exact i4 k s e⟩
theorem C_missed (h : Sh ad ct σ) {σ' : St} {S : List Int64} (I : HitI ad ct σ σ' S) (c : Int64) {Q : Int64 → St → Prop} (hQ : Q (fmis S c) σ') : wX8_firstMissed (ad 9 0 0) c σ' Q := by
  obtain ⟨i1, i2, i3, i4⟩ := I
  have h' := h.frC (i1.mono SW_SC)
  have key : ∀ (l : List Int64) (k : Nat), k + l.length = S.length → (∀ m v, l[m]? = some v → zAj σ' (ad 512 0 0) (k + m) = v) → Q (fmis l c) σ' → lX8_firstMissed_2 Q (l.length + 1) (ad 9 0 0) c (nI k) σ' := by
    intro l
    induction l with
    | nil =>
      intro k hk ha hq
      have hk : k = S.length := by simpa using hk
      refine ⟨k9 h', fun _ => hq, fun z => absurd ?_ z⟩
      rw [i2, hk]
      exact nI_le (Nat.le_refl _) (by omega)
    | cons a l ih =>
      intro k hk ha hq
      rw [List.length_cons] at hk
      refine ⟨k9 h', fun z => absurd z (by rw [i2]; exact nI_ge (by omega) (by omega)), fun _ => ⟨_, p512 h', k512 h', by rw [l512 h']; exact vp_in_nI (by omega) (by decide), ?_⟩⟩
      rw [show ix (nI k) = k from nI_clamp (by omega), nI_1, show zAj σ' (ad 512 0 0) k = a from ha 0 a rfl]
      unfold fmis at hq
      rw [List.find?_cons] at hq
      refine ⟨fun z => ih (k + 1) (by omega) (fun m v hv => ?_) ?_, fun z => ?_⟩
      · rw [show k + 1 + m = k + (m + 1) by omega]; exact ha (m + 1) v hv
      · rw [decide_eq_false z] at hq; exact hq
      · rw [decide_eq_true z] at hq; exact hq
  exact ⟨_, key S 0 (by omega) (fun m v hv => by rw [Nat.zero_add]; exact i4 m v hv) hQ⟩
theorem C_seek (h : Sh ad ct σ) {S : List Int64} : ∀ (d : Nat) (c : Int64) (l : Nat) (σ' : St) (Q : St → Prop), l ≤ 16 → l < d → HitI ad ct σ σ' S → (∀ σ2, HitI ad ct σ σ2 S → zFj σ2 514 (ad 9 0 0) = (cand S d c l).foldl updB (zFj σ' 514 (ad 9 0 0)) → Q σ2) → wX8_seek d (ad 9 0 0) c (nI l) σ' Q
  | 0, _, _, _, _, _, hd, _, _ => absurd hd (Nat.not_lt_zero _)
  | d + 1, c, l, σ', Q, hl, hd, I, hQ => by
    have h' := h.frC (I.1.mono SW_SC)
    rw [cand_s] at hQ
    show wX8_seek_0 (wX8_seek d) Q (ad 9 0 0) c (nI l) σ'
    refine ⟨k9 h', C_missed h I c ⟨fun c1 => ?_, fun c1 => ?_⟩⟩
    · rw [if_neg c1] at hQ
      refine ⟨fun c2 => pop_eq _ ⟨(bits (fmis S c)).length + 1, ?_⟩, fun c2 => ?_⟩
      · have hl0 : l ≠ 0 := fun z => by rw [z] at c2; exact absurd c2 (by decide)
        rw [if_neg hl0] at hQ
        have key : ∀ (L : List Nat) (m : Int64) (k : Nat) (σ3 : St), bits m = L → k + L.length = (bits (fmis S c)).length → HitI ad ct σ σ3 S → (∀ σ2, HitI ad ct σ σ2 S → zFj σ2 514 (ad 9 0 0) = (L.flatMap (fun i => cand S d (c ||| bit1 i) (l - 1))).foldl updB (zFj σ3 514 (ad 9 0 0)) → Q σ2) → lX8_seek_57 (wX8_seek d) Q (L.length + 1) (ad 9 0 0) c (nI l) m (nI (bits (fmis S c)).length) (nI k) σ3 := by
          intro L
          have hb := bits_le64 (fmis S c)
          induction L with
          | nil =>
            intro m k σ3 hm hk J hq
            have hk : k = (bits (fmis S c)).length := by simpa using hk
            exact ⟨fun _ => hq σ3 J rfl, fun z => absurd (by rw [hk]; exact nI_le (Nat.le_refl _) (by omega)) z⟩
          | cons i L ih =>
            intro m k σ3 hm hk J hq
            rw [List.length_cons] at hk
            obtain ⟨b1, b2, b3, b4⟩ := bits_low hm
            have h3 := h.frC (J.1.mono SW_SC)
            refine ⟨fun z => absurd z (nI_ge (by omega) (by omega)), fun _ => ⟨k9 h3, ?_⟩⟩
            obtain ⟨l', rfl⟩ : ∃ x, l = x + 1 := ⟨l - 1, by omega⟩
            rw [b3, show nI (l' + 1) - 1 = nI l' from nI_pred _, nI_1]
            rw [b3] at b4
            refine C_seek h d (c ||| bit1 i) l' σ3 _ (by omega) (by omega) J (fun σ4 J4 e4 => ih _ (k + 1) σ4 b4 (by omega) J4 (fun σ2 J2 e2 => hq σ2 J2 ?_))
            rw [e2, e4, List.flatMap_cons, List.foldl_append]
            rfl
        exact key (bits (fmis S c)) (fmis S c) 0 σ' rfl (by omega) I hQ
      · have hl0 : l = 0 := by
          by_cases z : l = 0
          · exact z
          · exact absurd (Int32.lt_iff_toInt_lt.mpr (by rw [nI_toInt (by omega)]; show (0 : Int) < _; omega)) c2
        rw [if_pos hl0] at hQ
        exact hQ σ' I rfl
    · rw [if_pos c1] at hQ
      have e0 : ∀ v, zFj (uFj σ' 514 (ad 9 0 0) v) 514 (ad 9 0 0) = v := fun v => by rw [yFj_uFj, yu2, if_pos ⟨rfl, rfl⟩]
      refine ⟨k9 h', fun c2 => ⟨k9 h', hQ _ (I.b h _) ?_⟩, fun c2 => ⟨k9 h', hQ _ (I.b h _) ?_⟩⟩
      · rw [e0]
        show _ = updB _ c
        unfold updB
        rw [if_neg c2]
      · rw [e0]
        show _ = updB _ c
        unfold updB
        rw [if_pos c2]
theorem C_small (h : Sh ad ct σ) {S : List Int64} (h0 : ∀ s ∈ S, s ≠ 0) (h60 : ∀ s ∈ S, ∀ i, 60 ≤ i → bt s i = false) {σ' : St} (I : HitI ad ct σ σ' S) {Q : Int64 → St → Prop} (hQ : ∀ B σ2, HitI ad ct σ σ2 S → Lst S B → Q B σ2) : wX8_smallest (ad 9 0 0) σ' Q := by
  have h16 := I.2.2.1
  have nm1 : ∀ B : Int64, sb B (bit1 60 - 1) → B ≠ -1 := fun B hB z => by
    have t := sb_bt.mp hB 60 (by decide) (by rw [z]; exact bt_m1 60 (by decide))
    exact absurd t (by decide +kernel)
  have up : ∀ s ∈ S, sb s (bit1 60 - 1) := fun s hs => sb_bt.mpr (fun i hi hb => by
    by_cases c : i < 60
    · exact (by decide +kernel : ∀ i, i < 60 → bt (bit1 60 - 1) i = true) i c
    · rw [h60 s hs i (by omega)] at hb; cases hb)
  have key : ∀ (dd s : Nat) (σ3 : St), s + dd = S.length + 1 → HitI ad ct σ σ3 S → ((zFj σ3 514 (ad 9 0 0) = -1 ∧ ∀ Y, hit S Y → s ≤ sz Y) ∨ Lst S (zFj σ3 514 (ad 9 0 0))) → lX8_smallest_9 Q (dd + 1) (ad 9 0 0) (nI s) σ3 := by
    intro dd
    induction dd with
    | zero =>
      intro s σ3 hs J hh
      have h3 := h.frC (J.1.mono SW_SC)
      refine ⟨k9 h3, fun _ => ?_, fun z => absurd ?_ z⟩
      · rcases hh with hh | hh
        · obtain ⟨Y, y1, y2⟩ := hit_few S h0
          have := hh.2 Y y1
          omega
        · exact hQ _ σ3 J hh
      · rw [J.2.1, Int32.lt_iff_toInt_lt, nI_toInt (by omega), nI_toInt (by omega)]
        omega
    | succ dd ih =>
      intro s σ3 hs J hh
      have h3 := h.frC (J.1.mono SW_SC)
      refine ⟨k9 h3, fun z => absurd z ?_, fun _ => ⟨fun c => ?_, fun c => ?_⟩⟩
      · rw [J.2.1, Int32.lt_iff_toInt_lt, nI_toInt (by omega), nI_toInt (by omega)]
        omega
      · rcases hh with hh | hh
        · exact absurd hh.1 c
        · exact hQ _ σ3 J hh
      · rcases hh with hh | hh
        · refine C_seek h 18 0 s σ3 _ (by omega) (by omega) J (fun σ4 J4 e4 => ?_)
          rw [nI_1]
          refine ih (s + 1) σ4 (by omega) J4 ?_
          rw [hh.1] at e4
          rcases updB_0 (cand S 18 0 s) (fun x hx => nm1 x ((cand_1 h0 18 0 s x hx).2.2.2 _ (sb_bt.mpr (fun i _ z => by rw [bt_0] at z; cases z)) up)) with ⟨g1, g2⟩ | ⟨g1, g2⟩
          · exact Or.inl ⟨e4.trans g2, cand_no h0 (by omega) hh.2 g1⟩
          · rw [e4]
            exact Or.inr (cand_Lst h0 (by omega) hh.2 g1 g2)
        · exact absurd c (nm1 _ (hh.2.1 _ up))
  refine ⟨k9 (h.frC (I.1.mono SW_SC)), _, key (S.length + 1) 0 _ (by omega) (I.b h (-1)) (Or.inl ⟨?_, fun Y _ => Nat.zero_le _⟩)⟩
  rw [yFj_uFj, yu2, if_pos ⟨rfl, rfl⟩]
theorem C_leastOf (h : Sh ad ct σ) {j w : Nat} {cl : Bool} {e : Ans} (hj : j < room 42) (q : AnsAt ad σ 42 j w cl e) (h0 : ∀ s ∈ e.2.1, s ≠ 0) (h60 : ∀ s ∈ e.2.1, ∀ i, 60 ≤ i → bt s i = false) {Q : Int64 → St → Prop} (hQ : ∀ B σ2, Fr ct SW σ σ2 → Lst e.2.1 B → Q B σ2) : wX8_leastOf (ad 9 0 0) (ad 3 42 j) σ Q := by
  obtain ⟨q1, q2, q3, q4, q5, -⟩ := q
  have e0 : zFi (uFi σ 513 (ad 9 0 0) (zFi σ 130 (ad 3 42 j))) 513 (ad 9 0 0) = nI e.2.1.length := by rw [yFi_uFi, yu2, if_pos ⟨rfl, rfl⟩]; exact q4
  have ex : ix (nI e.2.1.length) = e.2.1.length := nI_clamp (by omega)
  refine ⟨k3 h (by decide) hj, k9 h, _, p129 h (by decide) hj, _, p512 h, k129 h (by decide) hj, k512 h, by decide, by decide, ?_, ?_, ?_, ?_⟩
  · rw [e0]; exact nI_pos (by omega)
  · rw [e0, ex, l129 h (by decide) hj, show ix 0 = 0 from rfl]; omega
  · rw [e0, ex, l512 h, show ix 0 = 0 from rfl]; omega
  · rw [e0, ex, show ix 0 = 0 from rfl]
    refine C_small h h0 h60 ⟨(Fr.rf.uFi _ _ _ (Or.inl (by rw [c9 h]; decide))).uCj _ _ _ _ _ (Or.inl (by rw [c512 h]; decide)), ?_, q3, fun k s hk => ?_⟩ (fun B σ2 I L => hQ B σ2 I.1 L)
    · rw [yFi_uCj]; exact e0
    · have hk16 := (List.getElem?_eq_some_iff.mp hk).1
      rw [yAj_uCj', if_pos rfl, yAj_uFi]
      show (if 0 ≤ k ∧ k < 0 + e.2.1.length then zAj σ (ad 129 42 j) (0 + (k - 0)) else _) = s
      rw [if_pos ⟨Nat.zero_le _, by omega⟩, Nat.zero_add, Nat.sub_zero]
      exact q5 k s hk
end LB
