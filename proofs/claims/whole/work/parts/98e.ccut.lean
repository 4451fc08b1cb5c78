/-! the class: CUT -/
section MN
variable {ad : Ad} {ct : Ct} {σ : St}
def cutA (w : Nat) (td : Nat → Int32) (e : Ans) : Ans := (rowF w (fun m => e.1.getD (ix (td m)) 0), e.2)
theorem C_workCut (h : Sh ad ct σ) (hw : Crw ad σ) {k s1 x w w1 : Nat} {cl : Bool} {A : List Ans} {qs : Qst} (hk : k < 40) (hs1 : s1 < 40) (n1 : s1 ≠ k) (hx : isQ ct σ x qs) (hqw : qs.2.1 = w) (hw4 : w ≤ 4) (hp : ∀ m, m < w → plc (qs.2.2.2.2.2 m) w1) (q1 : AR ad σ s1 A w1 cl) (qr : AR ad σ 40 [] w cl) (qo : AR ad σ k [] w cl) {Q : Int32 → St → Prop} (h0 : ∀ σ', Fr ct (SWo k) σ σ' → Crw ad σ' → NOm (A.map (cutA w qs.2.2.2.2.2)) → Q 0 σ') (h1 : ∀ σ' R, Fr ct (SWo k) σ σ' → Crw ad σ' → AR ad σ' k R w cl → OKm (A.map (cutA w qs.2.2.2.2.2)) R → Q 1 σ') : wX4_workCut (ad 5 0 0) x (ad 4 s1 0) (ad 4 k 0) σ Q := by
  have r40 : room 40 = 64 := rfl
  have rm : ∀ s, s < 40 → room s = 32 := fun s hs => by unfold room; rw [if_neg (by omega)]
  have lA : A.length ≤ 32 := by have := q1.2.2.2.1; rw [rm s1 hs1] at this; exact this
  have hw6 := q1.2.2.1
  have key : ∀ (d i : Nat) (σ3 : St), i + d = A.length → Fr ct (SN 40) σ σ3 → Crw ad σ3 → AR ad σ3 40 ((A.take i).map (cutA w qs.2.2.2.2.2)) w cl → lX4_workCut_3 Q (d + 1) (ad 5 0 0) x (ad 4 s1 0) (ad 4 k 0) (nI i) σ3 := by
    intro d
    induction d with
    | zero =>
      intro i σ3 hi F c q
      have hi : i = A.length := by omega
      have h3 := h.frC (F.mono (SN_SC 40))
      have q3 := q1.sn h (by omega) (by omega) (F.mono (SN_r 40))
      have qo3 := qo.sn h (by omega) (by omega) (F.mono (SN_r 40))
      rw [hi, List.take_length] at q
      refine ⟨k4 h3 (by omega), fun _ => ⟨k5 h3, C_melt h3 c hk q qo3 (fun σ4 f4 c4 n => ⟨Or.inl rfl, h0 σ4 ((F.mono (SN40_o k)).tr1 (f4.mono (SMt_o k))) c4 n⟩) (fun σ4 R f4 c4 a o => ⟨Or.inr rfl, h1 σ4 R ((F.mono (SN40_o k)).tr1 (f4.mono (SMt_o k))) c4 a o⟩)⟩, fun z => absurd ?_ z⟩
      rw [q3.1, hi]; exact nI_le (Nat.le_refl _) (by omega)
    | succ d ih =>
      intro i σ3 hi F c q
      have h3 := h.frC (F.mono (SN_SC 40))
      have q3 := q1.sn h (by omega) (by omega) (F.mono (SN_r 40))
      have ql := q.1
      have ql2 := q.2.2.2.1
      rw [List.length_map, List.length_take, Nat.min_eq_left (by omega)] at ql ql2
      obtain ⟨e, he⟩ : ∃ e, A[i]? = some e := ⟨_, List.getElem?_eq_getElem (by omega)⟩
      refine ⟨k4 h3 (by omega), fun z => absurd z (by rw [q3.1]; exact nI_ge (by omega) (by omega)), fun _ => ⟨k5 h3, _, p260 h3, k4 h3 (by decide), C_grow h3 c (by decide) ql ql2 (fun y => by omega) (fun j hl2 hj ej => ⟨fun y => (by cases y), fun a y => ?_⟩)⟩⟩
      cases y
      have Fg : Fr ct (SN 40) σ3 (uFi σ3 193 (ad 4 40 0) (nI (i + 1))) := Fr.rf.uFi _ _ _ (Or.inl (by rw [c4 h3 (by decide)]; exact Or.inl rfl))
      have sg : Slf ad σ3 (uFi σ3 193 (ad 4 40 0) (nI (i + 1))) 40 j := Slf.gr h3 (by decide) _
      have a193 : zFi (uFi σ3 193 (ad 4 40 0) (nI (i + 1))) 193 (ad 4 40 0) = nI (i + 1) := by rw [yFi_uFi, yu2, if_pos ⟨rfl, rfl⟩]
      have a194 : zFi (uFi σ3 193 (ad 4 40 0) (nI (i + 1))) 194 (ad 4 40 0) = zFi σ3 194 (ad 4 40 0) := by rw [yFi_uFi, yu2, if_neg (fun z => absurd z.1 (by decide))]
      have ar0 : ∀ y m, zAr (uFi σ3 193 (ad 4 40 0) (nI (i + 1))) y m = zAr σ3 y m := fun y m => by rw [yAr_uFi]
      generalize uFi σ3 193 (ad 4 40 0) (nI (i + 1)) = ρ at Fg sg a193 a194 ar0 ⊢
      refine ⟨w + 1, ?_⟩
      have inn : ∀ (d2 m : Nat) (σ4 : St), m + d2 = w → Fr ct (SN 40) σ3 σ4 → (∀ y m, zAr σ4 y m = zAr σ3 y m) → (∀ g, zFi σ4 g (ad 4 40 0) = zFi ρ g (ad 4 40 0)) → Slf ad σ3 σ4 40 j → (∀ u, u < m → zAi σ4 (ad 128 40 j) u = e.1.getD (ix (qs.2.2.2.2.2 u)) 0) → lX4_workCut_31 Q (lX4_workCut_3 Q (d + 1)) (d2 + 1) (ad 5 0 0) x (ad 4 s1 0) (ad 4 k 0) (nI i) (ad 3 40 j) (nI m) σ4 := by
        intro d2
        induction d2 with
        | zero =>
          intro m σ4 hm F4 r1 r2 sl ha
          have hm : m = w := by omega
          have h4 := h3.frC (F4.mono (SN_SC 40))
          have q4 := q3.sn h3 (by omega) (by omega) (F4.mono (SN_r 40))
          obtain ⟨x1, x2, x3a, x4, x5, x6, x7, y, y1, y2, y3, y4, y5⟩ := hx.o h (F.tr1 F4) (SN40_o k)
          obtain ⟨j0, b1, b2, b3⟩ := q4.2.2.2.2 i e he
          refine ⟨x1, fun _ => ⟨k4 h4 (by omega), _, p192 h4 (by omega), k192 h4 (by omega), by rw [l192 h4 (by omega), rm s1 hs1]; exact vp_in_nI (by omega) (by decide), _, by rw [show ix (nI i) = i from nI_clamp (by omega)]; exact b2, k3 h4 (by decide) hj, ?_⟩, fun z => absurd ?_ z⟩
          · refine C_takeRest h4 (by decide) hj (by omega) b1 (by omega) (cl := cl) (e := cutA w qs.2.2.2.2.2 e) b3.rst (fun σ5 g1 g2 g3 g4 g5 g6 => ?_)
            have n4 : ad 4 40 0 ≠ ad 3 40 j := fun z => by
              have a := c3 h3 (by decide) hj
              rw [← z, c4 h3 (by decide)] at a
              cases a
            have F35 := F4.tr1 g1
            rw [nI_1]
            refine ih (i + 1) σ5 (by omega) (F.tr1 F35) (c.cg h3 F35 (fun s' _ z => by rcases z with z | z | z | z <;> cases z)) ?_
            rw [show A.take (i + 1) = A.take i ++ [e] by rw [List.take_add_one, he]; rfl, List.map_append, List.map_singleton]
            have lm : ((A.take i).map (cutA w qs.2.2.2.2.2)).length = i := by rw [List.length_map, List.length_take]; omega
            refine q.push h3 c (by decide) (by rw [lm]; omega) hj (by rw [lm]; exact ej) ?_ ?_ (fun m => (g3 _ _).trans (r1 _ _)) (sl.tr g5) ⟨rowF_len _ _, fun m2 v hv => ?_, g6⟩
            · rw [lm, g4 _ _ n4, r2]; exact a193
            · rw [g4 _ _ n4, r2]; exact a194
            · obtain ⟨c1, c2⟩ := rowF_get hv
              rw [g2, ← c2]
              exact ha m2 (by omega)
          · rw [x4, hqw, hm]; exact nI_le (Nat.le_refl _) (by omega)
        | succ d2 ih2 =>
          intro m σ4 hm F4 r1 r2 sl ha
          have h4 := h3.frC (F4.mono (SN_SC 40))
          have q4 := q3.sn h3 (by omega) (by omega) (F4.mono (SN_r 40))
          obtain ⟨x1, x2, x3a, x4, x5, x6, x7, y, y1, y2, y3, y4, y5⟩ := hx.o h (F.tr1 F4) (SN40_o k)
          obtain ⟨j0, b1, b2, b3⟩ := q4.2.2.2.2 i e he
          obtain ⟨u1, u2⟩ := b3.rowD (hp m (by omega)) hw6
          refine ⟨x1, fun z => absurd z (by rw [x4, hqw]; exact nI_ge (by omega) (by omega)), fun _ => ⟨k3 h4 (by decide) hj, _, p128 h4 (by decide) hj, k4 h4 (by omega), _, p192 h4 (by omega), k192 h4 (by omega), by rw [l192 h4 (by omega), rm s1 hs1]; exact vp_in_nI (by omega) (by decide), _, by rw [show ix (nI i) = i from nI_clamp (by omega)]; exact b2, k3 h4 (by omega) b1, _, p128 h4 (by omega) b1, _, y1, y2, by rw [y4]; exact vp_in_nI (by omega) (by decide), k128 h4 (by omega) b1, ?_, k128 h4 (by decide) hj, by rw [l128 h4 (by decide) hj]; exact vp_in_nI (by omega) (by decide), ?_⟩⟩
          · rw [show ix (nI m) = m from nI_clamp (by omega), y5 m (by omega), l128 h4 (by omega) b1]; exact u1
          · rw [show ix (nI m) = m from nI_clamp (by omega), y5 m (by omega), u2, nI_1]
            refine ih2 (m + 1) _ (by omega) (F4.uAi _ _ _ (Or.inl (by rw [c128 h4 (by decide) hj]; exact Or.inr (Or.inr (Or.inl rfl))))) (fun y m => by rw [yAr_uAi]; exact r1 y m) (fun g => by rw [yFi_uAi]; exact r2 g) (sl.tr (fun j' h1 h2 => ?_)) (fun u hu => ?_)
            · have m128 : ad 128 40 j' ≠ ad 128 40 j := fun z => h2 (j128 h3 (by decide) h1 hj z)
              exact ⟨fun g => by rw [yFi_uAi], fun g => by rw [yFj_uAi], fun i => by rw [yAi_uAi, yu2, if_neg (fun z => m128 z.1)], fun i => by rw [yAj_uAi]⟩
            · rw [yAi_uAi, yu2]
              by_cases cc : u = m
              · rw [if_pos ⟨rfl, cc⟩, cc]
              · rw [if_neg (fun z => cc z.2)]; exact ha u (by omega)
      exact inn w 0 ρ (by omega) Fg ar0 (fun _ => rfl) sg (fun u hu => absurd hu (Nat.not_lt_zero _))
  exact ⟨_, key A.length 0 σ (by omega) Fr.rf hw (by rw [List.take_zero]; exact qr)⟩
end MN
