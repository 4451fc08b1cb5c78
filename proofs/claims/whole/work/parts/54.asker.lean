/-! the asker is made -/
def ASK (o : Ow) (τ : St) (v f q : Nat) : Prop := o v = some (5, 0, 0) ∧ zK τ v = 5 ∧ zFr τ 256 v = some f ∧ zFr τ 257 v = some q ∧ (∃ (w : Nat) (ys : Nat → Nat), zFr τ 258 v = some w ∧ o w = some (258, 0, 0) ∧ zK τ w = 26 ∧ zL τ w = 40 ∧ ∀ i, i < 40 → zAr τ w i = some (ys i) ∧ ANS o τ i (ys i)) ∧ (∃ g, zFr τ 259 v = some g ∧ Obj o τ (8, 0, 0) 8 lX7 g) ∧ (∃ y, zFr τ 260 v = some y ∧ ANS o τ 40 y) ∧ (∃ y, zFr τ 261 v = some y ∧ ANS o τ 41 y) ∧ (∃ b, AFb o τ v 0 0 262 20 64 b) ∧ ∃ b, AFb o τ v 0 0 263 20 6 b
theorem ASK.keep {o o' : Ow} {τ τ' : St} {v f q x : Nat} (h : ASK o τ v f q) (S : Sp x o τ o' τ') {nv : Nat × Nat × Nat} (hx : o x = some nv) (hn : nv.1 ≠ 5 ∧ nv.1 ≠ 258 ∧ nv.1 ≠ 8 ∧ nv.1 ≠ 448 ∧ nv.1 ≠ 4 ∧ nv.1 ≠ 192 ∧ nv.1 ≠ 3 ∧ nv.1 ≠ 128 ∧ nv.1 ≠ 129 ∧ nv.1 ≠ 262 ∧ nv.1 ≠ 263) : ASK o' τ' v f q := by
  obtain ⟨h1, h2, h3, h4, ⟨w, ys, w1, w2, w3, w4, w5⟩, ⟨g, g1, g2⟩, ⟨y, y1, y2⟩, ⟨z, z1, z2⟩, ⟨a, a1⟩, ⟨c, c1⟩⟩ := h
  have ne : ∀ {u : Nat} {nm : Nat × Nat × Nat}, o u = some nm → nv.1 ≠ nm.1 → u ≠ x := fun e n z => by rw [z, hx] at e; exact n (by rw [Option.some.inj e])
  have v0 : zK τ v ≠ 0 := by rw [h2]; decide
  have w0 : zK τ w ≠ 0 := by rw [w3]; decide
  have sv := S.1 v (ne h1 hn.1) v0
  have sw := S.1 w (ne w2 hn.2.1) w0
  have ka : ∀ {g b len : Nat}, nv.1 ≠ g → AFb o τ v 0 0 g 20 len b → AFb o' τ' v 0 0 g 20 len b := fun n ⟨q1, q2, q3, q4, q5⟩ => by
    have b0 := S.1 _ (ne q2 n) (by rw [q3]; decide)
    exact ⟨(sv.2.2.1 _).trans q1, (S.2.1 _ (by rw [q3]; decide)).trans q2, b0.1.trans q3, b0.2.1.trans q4, fun k => (b0.2.2.2.2.2.2.2.2 k).trans (q5 k)⟩
  have an : (nv.1 ≠ 4 ∧ nv.1 ≠ 192 ∧ nv.1 ≠ 3 ∧ nv.1 ≠ 128 ∧ nv.1 ≠ 129) := ⟨hn.2.2.2.2.1, hn.2.2.2.2.2.1, hn.2.2.2.2.2.2.1, hn.2.2.2.2.2.2.2.1, hn.2.2.2.2.2.2.2.2.1⟩
  refine ⟨(S.2.1 v v0).trans h1, sv.1.trans h2, (sv.2.2.1 _).trans h3, (sv.2.2.1 _).trans h4, ⟨w, ys, (sv.2.2.1 _).trans w1, (S.2.1 w w0).trans w2, sw.1.trans w3, sw.2.1.trans w4, fun i hi => ⟨(sw.2.2.2.2.2.2.2.2 i).trans (w5 i hi).1, (w5 i hi).2.keep S hx (Or.inl an)⟩⟩, ⟨g, (sv.2.2.1 _).trans g1, g2.keep S hx (fun e => hn.2.2.1 (by rw [e])) (fun q hq => ?_)⟩, ⟨y, (sv.2.2.1 _).trans y1, y2.keep S hx (Or.inl an)⟩, ⟨z, (sv.2.2.1 _).trans z1, z2.keep S hx (Or.inl an)⟩, ⟨a, ka hn.2.2.2.2.2.2.2.2.2.1 a1⟩, ⟨c, ka hn.2.2.2.2.2.2.2.2.2.2 c1⟩⟩
  simp only [lX7, List.mem_singleton] at hq
  rw [hq]
  exact hn.2.2.2.1.symm
theorem I_4l {σ : St} {o : Ow} {v f q : Nat} (kv : zK σ v = 5) {Q : St → Prop} (hQ : ∀ o' τ, Sp v o σ o' τ → ASK o' τ v f q → Q τ) {b1 b2 b3 b4 b5 b6 : Nat} (hb1 : zK σ b1 = 0) : ∀ (d i k n : Nat) (p : Ow) (τ : St), i + d = 40 → k ≤ 400 + 98 * i → n ≤ 12000 + 931 * i → Sp v o σ p τ → p v = some (5, 0, 0) → zFr τ 256 v = some f → zFr τ 257 v = some q → (zFr τ 258 v = some b1 ∧ p b1 = some (258, 0, 0) ∧ zK τ b1 = 26 ∧ zL τ b1 = 40) → (∃ ys : Nat → Nat, ∀ j, j < i → zAr τ b1 j = some (ys j) ∧ ANS p τ j (ys j)) → (zFr τ 259 v = some b2 ∧ Obj p τ (8, 0, 0) 8 lX7 b2) → (zFr τ 260 v = some b3 ∧ ANS p τ 40 b3) → (zFr τ 261 v = some b4 ∧ ANS p τ 41 b4) → AFb p τ v 0 0 262 20 64 b5 → AFb p τ v 0 0 263 20 6 b6 → lX4_init_78 5000 60000 Q (d + 1) k n v (nI i) τ := by
  intro d
  induction d with
  | zero =>
    intro i k n p τ hi hk hn S pv g1 g2 g3 g4 g5 g6 g7 g8 g9
    obtain ⟨ys, hys⟩ := g4
    have hi : i = 40 := by omega
    exact ⟨fun _ => ⟨by omega, by omega, hQ p τ S ⟨pv, S.2.2.2.trans kv, g1, g2, ⟨b1, ys, g3.1, g3.2.1, g3.2.2.1, g3.2.2.2, fun j hj => hys j (by omega)⟩, ⟨b2, g5⟩, ⟨b3, g6⟩, ⟨b4, g7⟩, ⟨b5, g8⟩, ⟨b6, g9⟩⟩⟩, fun c => absurd (by rw [hi]; exact nI_le (b := 40) (Nat.le_refl _) (by decide)) c⟩
  | succ d ih =>
    intro i k n p τ hi hk hn S pv g1 g2 g3 g4 g5 g6 g7 g8 g9
    obtain ⟨ys, hys⟩ := g4
    have kvτ : zK τ v = 5 := S.2.2.2.trans kv
    have kz : zK τ v ≠ 0 := by rw [kvτ]; decide
    have r32 : room i = 32 := by unfold room; rw [if_neg (by omega)]
    refine pk_le 40 i (fun c => absurd c (by omega)) (fun c => ⟨kvτ, b1, g3.1, by omega, by omega, fun b hb => ⟨97, 928, by omega, by omega, ?_⟩⟩)
    have hvb : v ≠ b := fun z => kz (by rw [z]; exact hb)
    have Sb := Sp.new S.2.2.1 kz hb (by decide : (4 : Nat) ≠ 0) (4, i, 0)
    rw [show (32 : Int32) = nI (room i) by rw [r32]; rfl]
    refine I_3 Sb.2.2.1 (if_pos rfl) (by rw [yK_nO, if_pos rfl]) (fun g => by rw [yFi_nO, if_pos rfl]) (by rw [r32]; decide) (by rw [r32]; decide) (fun p3 τ3 T3 an => ?_)
    have Sv := Sb.sub hb hvb kz T3
    have w0 : zK τ b1 ≠ 0 := by rw [g3.2.2.1]; decide
    have wv : b1 ≠ v := fun z => by have := g3.2.2.1; rw [z, kvτ] at this; cases this
    have sw := Sv.1 b1 wv w0
    have kw1 : zK τ3 b1 = 26 := sw.1.trans g3.2.2.1
    have pw : p3 b1 = some (258, 0, 0) := (Sv.2.1 b1 w0).trans g3.2.1
    refine ⟨kw1, by rw [sw.2.1, g3.2.2.2]; exact vp_in_nI (by omega) (by decide), an.2.1, ?_⟩
    rw [nI_1, show ix (nI i) = i from nI_clamp (by omega)]
    have So := Sp.own Sv.2.2.1 (r := b1) i (some b)
    have svv := T3.1 v hvb (by rw [yK_nO, if_neg hvb]; exact kz)
    have ev : ∀ g, zFr (uAr τ3 b1 i (some b)) g v = zFr τ g v := fun g => by
      rw [yFr_uAr, svv.2.2.1 g, yFr_nO, if_neg hvb]
    have pv3 : p3 v = some (5, 0, 0) := (Sv.2.1 v kz).trans pv
    have hσ1 : zK σ b1 = 0 := hb1
    have kA : ∀ {s y : Nat}, s ≠ i → ANS p τ s y → ANS p3 (uAr τ3 b1 i (some b)) s y := fun hs a =>
      ((a.keep Sb pv (Or.inl (by decide))).keep T3 (nv := (4, i, 0)) (if_pos rfl) (Or.inr ⟨fun z => hs z.symm, (by decide : (4 : Nat) ≠ 128), (by decide : (4 : Nat) ≠ 129)⟩)).keep So pw (Or.inl (by decide))
    have kR : ∀ (g c len : Nat), 5 ≠ g → 258 ≠ g → 4 ≠ g → AFb p τ v 0 0 g 20 len c → AFb p3 (uAr τ3 b1 i (some b)) v 0 0 g 20 len c := fun g c len n1 n2 n4 ⟨q1, q2, q3, q4, q5⟩ => by
      have c0 : zK τ c ≠ 0 := by rw [q3]; decide
      have cv := Sv.1 c (fun z : c = v => by rw [z, pv] at q2; exact n1 (by have := Option.some.inj q2; rw [Prod.mk.injEq] at this; exact this.1)) c0
      have pc := (Sv.2.1 c c0).trans q2
      have cw := So.1 c (fun z : c = b1 => by rw [z, pw] at pc; exact n2 (by have := Option.some.inj pc; rw [Prod.mk.injEq] at this; exact this.1)) (by rw [cv.1]; exact c0)
      exact ⟨(ev _).trans q1, pc, (cw.1.trans cv.1).trans q3, (cw.2.1.trans cv.2.1).trans q4, fun k => ((cw.2.2.2.2.2.2.2.2 k).trans (cv.2.2.2.2.2.2.2.2 k)).trans (q5 k)⟩
    refine ih (i + 1) _ _ p3 _ (by omega) (by omega) (by omega) (((S.tr Sb).sub (S.fresh hb) hvb (by rw [kv]; decide) T3).arr hσ1 i (some b)) pv3 ((ev _).trans g1) ((ev _).trans g2) ⟨(ev _).trans g3.1, pw, kw1, sw.2.1.trans g3.2.2.2⟩ ⟨fun j => if j = i then b else ys j, fun j hj => ?_⟩ ⟨(ev _).trans g5.1, ?_⟩ ⟨(ev _).trans g6.1, kA (by omega) g6.2⟩ ⟨(ev _).trans g7.1, kA (by omega) g7.2⟩ (kR _ _ _ (by decide) (by decide) (by decide) g8) (kR _ _ _ (by decide) (by decide) (by decide) g9)
    · have ear : zAr (uAr τ3 b1 i (some b)) b1 j = if j = i then some b else zAr τ3 b1 j := by simp only [yK_uFi, yL_uFi, yFj_uFi, yFr_uFi, yAi_uFi, yAj_uFi, yAd_uFi, yAr_uFi, yFi_uFi, yK_uFj, yL_uFj, yFi_uFj, yFr_uFj, yAi_uFj, yAj_uFj, yAd_uFj, yAr_uFj, yFj_uFj, yK_uFr, yL_uFr, yFi_uFr, yFj_uFr, yAi_uFr, yAj_uFr, yAd_uFr, yAr_uFr, yFr_uFr, yK_uAi, yL_uAi, yFi_uAi, yFj_uAi, yFr_uAi, yAj_uAi, yAd_uAi, yAr_uAi, yAi_uAi, yK_uAj, yL_uAj, yFi_uAj, yFj_uAj, yFr_uAj, yAi_uAj, yAd_uAj, yAr_uAj, yAj_uAj, yK_uAd, yL_uAd, yFi_uAd, yFj_uAd, yFr_uAd, yAi_uAd, yAj_uAd, yAr_uAd, yAd_uAd, yK_uAr, yL_uAr, yFi_uAr, yFj_uAr, yFr_uAr, yAi_uAr, yAj_uAr, yAd_uAr, yAr_uAr, yK_uCi, yL_uCi, yFi_uCi, yFj_uCi, yFr_uCi, yAj_uCi, yAd_uCi, yAr_uCi, yK_uCj, yL_uCj, yFi_uCj, yFj_uCj, yFr_uCj, yAi_uCj, yAd_uCj, yAr_uCj, yK_uCx, yL_uCx, yFi_uCx, yFj_uCx, yFr_uCx, yAi_uCx, yAd_uCx, yAr_uCx, yK_nO, yL_nO, yFi_nO, yFj_nO, yFr_nO, yAi_nO, yAj_nO, yAd_nO, yAr_nO, yK_nA, yL_nA, yFi_nA, yFj_nA, yFr_nA, yAi_nA, yAj_nA, yAd_nA, yAr_nA, yK_nC, yL_nC, yFi_nC, yFj_nC, yFr_nC, yAi_nC, yAj_nC, yAd_nC, yAr_nC, yu2, yAi_uCi', yAj_uCj', yAj_uCx', Option.some.injEq, exists_eq_left', true_and, and_true, not_false_eq_true, forall_const, false_and, and_false, reduceIte, Nat.reduceEqDiff, ne_eq]
      show zAr (uAr τ3 b1 i (some b)) b1 j = some (if j = i then b else ys j) ∧ ANS p3 (uAr τ3 b1 i (some b)) j (if j = i then b else ys j)
      by_cases c : j = i
      · rw [ear, if_pos c, if_pos c, c]
        exact ⟨rfl, an.keep So pw (Or.inl (by decide))⟩
      · rw [ear, if_neg c, if_neg c, sw.2.2.2.2.2.2.2.2 j]
        exact ⟨(hys j (by omega)).1, kA c (hys j (by omega)).2⟩
    · have k1 := g5.2.keep Sb (nv := (5, 0, 0)) pv (by decide) (by decide)
      have k2 := k1.keep T3 (nv := (4, i, 0)) (if_pos rfl) (by simp) (fun q hq => by simp only [lX7, List.mem_singleton] at hq; rw [hq]; exact (by decide : (448 : Nat) ≠ 4))
      exact k2.keep So pw (by decide) (by decide)
set_option maxHeartbeats 4000000 in
theorem I_4 {σ : St} {o : Ow} {v f q : Nat} (h0 : okO o σ) (hv : o v = some (5, 0, 0)) (kv : zK σ v = 5) (hz : ∀ g, zFi σ g v = 0) {Q : St → Prop} (hQ : ∀ o' τ, Sp v o σ o' τ → ASK o' τ v f q → Q τ) : wX4_init 5000 60000 v f q σ Q := by
  have S0 : Sp v o σ o σ := Sp.rf h0
  have SS0 : Sp v o σ o σ := Sp.rf h0
  have kw : zK σ v = 5 := kv
  have kz : zK σ v ≠ 0 := by rw [kv]; decide
  refine ⟨by decide, by decide, fun b1 hb1 => ?_⟩
  obtain ⟨o1, S1, ov1, R258, pr1, zi1, E1⟩ := rowT S0.2.2.1 kz 0 0 hb1 (by decide) (g := 258) (κ := 26) (len := 40) rfl
  have ov1 := ov1.trans hv
  have zv1 : ∀ g, zFi _ g v = 0 := fun g => (zi1 g).trans (hz g)
  have SS1 := SS0.tr S1
  have kz : zK _ v ≠ 0 := fun z => kz (S1.2.2.2.symm.trans z)
  have kw : zK _ v = 5 := S1.2.2.2.trans kw
  generalize uFr (nA σ b1 26 40) 258 v (some b1) = τ1 at S1 SS1 E1 zv1 kz kw R258 ⊢
  refine ⟨by rw [← E1]; exact kw, by decide, by decide, fun b2 hb2 => ⟨1, 8208, by decide, by decide, ?_⟩⟩
  rw [← E1] at hb2
  have Sb2 := Sp.new S1.2.2.1 kz hb2 (by decide : (8 : Nat) ≠ 0) (8, 0, 0)
  refine I_7 Sb2.2.2.1 (if_pos rfl) (by rw [yK_nO, if_pos rfl]) (fun g => by rw [yFi_nO, if_pos rfl]) (fun p2 ρ2 T2 G8 => ?_)
  obtain ⟨S2, ov2, P259, pr2, zi2, E2, sf2⟩ := subT S1.2.2.1 kz hb2 (by decide) T2 (g := 259) rfl
  have G8 := G8.keep sf2 (ov2.trans ov1) (by decide) (by decide)
  have R258 := R258.keep S2 (by decide) ov1 (by decide) (pr2 _ (by decide))
  have ov2 := ov2.trans ov1
  have zv2 : ∀ g, zFi _ g v = 0 := fun g => (zi2 g).trans (zv1 g)
  have SS2 := SS1.tr S2
  have kz : zK _ v ≠ 0 := fun z => kz (S2.2.2.2.symm.trans z)
  have kw : zK _ v = 5 := S2.2.2.2.trans kw
  generalize uFr ρ2 259 v (some b2) = τ2 at S2 SS2 E2 zv2 kz kw R258 P259 G8 ⊢
  refine ⟨by rw [← E2]; exact kw, by decide, by decide, fun b3 hb3 => ⟨193, 1856, by decide, by decide, ?_⟩⟩
  rw [← E2] at hb3
  have Sb3 := Sp.new S2.2.2.1 kz hb3 (by decide : (4 : Nat) ≠ 0) (4, 40, 0)
  refine I_3x (s := 40) Sb3.2.2.1 (if_pos rfl) (by rw [yK_nO, if_pos rfl]) (fun g => by rw [yFi_nO, if_pos rfl]) (by decide) (by decide) (by decide) (fun p3 ρ3 T3 A40 => ?_)
  obtain ⟨S3, ov3, P260, pr3, zi3, E3, sf3⟩ := subT S2.2.2.1 kz hb3 (by decide) T3 (g := 260) rfl
  have A40 := A40.keep sf3 (ov3.trans ov2) (Or.inl (by decide))
  have R258 := R258.keep S3 (by decide) ov2 (by decide) (pr3 _ (by decide))
  have P259 := (pr3 _ (by decide)).trans P259
  have G8 := G8.keep S3 ov2 (by decide) (by decide)
  have ov3 := ov3.trans ov2
  have zv3 : ∀ g, zFi _ g v = 0 := fun g => (zi3 g).trans (zv2 g)
  have SS3 := SS2.tr S3
  have kz : zK _ v ≠ 0 := fun z => kz (S3.2.2.2.symm.trans z)
  have kw : zK _ v = 5 := S3.2.2.2.trans kw
  generalize uFr ρ3 260 v (some b3) = τ3 at S3 SS3 E3 zv3 kz kw R258 P259 G8 P260 A40 ⊢
  refine ⟨by rw [← E3]; exact kw, by decide, by decide, fun b4 hb4 => ⟨97, 928, by decide, by decide, ?_⟩⟩
  rw [← E3] at hb4
  have Sb4 := Sp.new S3.2.2.1 kz hb4 (by decide : (4 : Nat) ≠ 0) (4, 41, 0)
  refine I_3x (s := 41) Sb4.2.2.1 (if_pos rfl) (by rw [yK_nO, if_pos rfl]) (fun g => by rw [yFi_nO, if_pos rfl]) (by decide) (by decide) (by decide) (fun p4 ρ4 T4 A41 => ?_)
  obtain ⟨S4, ov4, P261, pr4, zi4, E4, sf4⟩ := subT S3.2.2.1 kz hb4 (by decide) T4 (g := 261) rfl
  have A41 := A41.keep sf4 (ov4.trans ov3) (Or.inl (by decide))
  have R258 := R258.keep S4 (by decide) ov3 (by decide) (pr4 _ (by decide))
  have P259 := (pr4 _ (by decide)).trans P259
  have G8 := G8.keep S4 ov3 (by decide) (by decide)
  have P260 := (pr4 _ (by decide)).trans P260
  have A40 := A40.keep S4 ov3 (Or.inl (by decide))
  have ov4 := ov4.trans ov3
  have zv4 : ∀ g, zFi _ g v = 0 := fun g => (zi4 g).trans (zv3 g)
  have SS4 := SS3.tr S4
  have kz : zK _ v ≠ 0 := fun z => kz (S4.2.2.2.symm.trans z)
  have kw : zK _ v = 5 := S4.2.2.2.trans kw
  generalize uFr ρ4 261 v (some b4) = τ4 at S4 SS4 E4 zv4 kz kw R258 P259 G8 P260 A40 P261 A41 ⊢
  refine ⟨by rw [← E4]; exact kw, by decide, by decide, fun b5 hb5 => ?_⟩
  rw [← E4] at hb5
  obtain ⟨o5, S5, ov5, R262, pr5, zi5, E5⟩ := rowT S4.2.2.1 kz 0 0 hb5 (by decide) (g := 262) (κ := 20) (len := 64) rfl
  have R258 := R258.keep S5 (by decide) ov4 (by decide) (pr5 _ (by decide))
  have P259 := (pr5 _ (by decide)).trans P259
  have G8 := G8.keep S5 ov4 (by decide) (by decide)
  have P260 := (pr5 _ (by decide)).trans P260
  have A40 := A40.keep S5 ov4 (Or.inl (by decide))
  have P261 := (pr5 _ (by decide)).trans P261
  have A41 := A41.keep S5 ov4 (Or.inl (by decide))
  have ov5 := ov5.trans ov4
  have zv5 : ∀ g, zFi _ g v = 0 := fun g => (zi5 g).trans (zv4 g)
  have SS5 := SS4.tr S5
  have kz : zK _ v ≠ 0 := fun z => kz (S5.2.2.2.symm.trans z)
  have kw : zK _ v = 5 := S5.2.2.2.trans kw
  generalize uFr (nA τ4 b5 20 64) 262 v (some b5) = τ5 at S5 SS5 E5 zv5 kz kw R258 P259 G8 P260 A40 P261 A41 R262 ⊢
  refine ⟨by rw [← E5]; exact kw, by decide, by decide, fun b6 hb6 => ?_⟩
  rw [← E5] at hb6
  obtain ⟨o6, S6, ov6, R263, pr6, zi6, E6⟩ := rowT S5.2.2.1 kz 0 0 hb6 (by decide) (g := 263) (κ := 20) (len := 6) rfl
  have R258 := R258.keep S6 (by decide) ov5 (by decide) (pr6 _ (by decide))
  have P259 := (pr6 _ (by decide)).trans P259
  have G8 := G8.keep S6 ov5 (by decide) (by decide)
  have P260 := (pr6 _ (by decide)).trans P260
  have A40 := A40.keep S6 ov5 (Or.inl (by decide))
  have P261 := (pr6 _ (by decide)).trans P261
  have A41 := A41.keep S6 ov5 (Or.inl (by decide))
  have R262 := R262.keep S6 (by decide) ov5 (by decide) (pr6 _ (by decide))
  have ov6 := ov6.trans ov5
  have zv6 : ∀ g, zFi _ g v = 0 := fun g => (zi6 g).trans (zv5 g)
  have SS6 := SS5.tr S6
  have kz : zK _ v ≠ 0 := fun z => kz (S6.2.2.2.symm.trans z)
  have kw : zK _ v = 5 := S6.2.2.2.trans kw
  generalize uFr (nA τ5 b6 20 6) 263 v (some b6) = τ6 at S6 SS6 E6 zv6 kz kw R258 P259 G8 P260 A40 P261 A41 R262 R263 ⊢
  refine ⟨by rw [← E6]; exact kw, 41, ?_⟩
  have ex : ∀ g, g ≠ 256 → g ≠ 257 → zFr (uFr (uFr τ6 256 v (some f)) 257 v (some q)) g v = zFr τ6 g v := fun g a c => by simp only [yK_uFi, yL_uFi, yFj_uFi, yFr_uFi, yAi_uFi, yAj_uFi, yAd_uFi, yAr_uFi, yFi_uFi, yK_uFj, yL_uFj, yFi_uFj, yFr_uFj, yAi_uFj, yAj_uFj, yAd_uFj, yAr_uFj, yFj_uFj, yK_uFr, yL_uFr, yFi_uFr, yFj_uFr, yAi_uFr, yAj_uFr, yAd_uFr, yAr_uFr, yFr_uFr, yK_uAi, yL_uAi, yFi_uAi, yFj_uAi, yFr_uAi, yAj_uAi, yAd_uAi, yAr_uAi, yAi_uAi, yK_uAj, yL_uAj, yFi_uAj, yFj_uAj, yFr_uAj, yAi_uAj, yAd_uAj, yAr_uAj, yAj_uAj, yK_uAd, yL_uAd, yFi_uAd, yFj_uAd, yFr_uAd, yAi_uAd, yAj_uAd, yAr_uAd, yAd_uAd, yK_uAr, yL_uAr, yFi_uAr, yFj_uAr, yFr_uAr, yAi_uAr, yAj_uAr, yAd_uAr, yAr_uAr, yK_uCi, yL_uCi, yFi_uCi, yFj_uCi, yFr_uCi, yAj_uCi, yAd_uCi, yAr_uCi, yK_uCj, yL_uCj, yFi_uCj, yFj_uCj, yFr_uCj, yAi_uCj, yAd_uCj, yAr_uCj, yK_uCx, yL_uCx, yFi_uCx, yFj_uCx, yFr_uCx, yAi_uCx, yAd_uCx, yAr_uCx, yK_nO, yL_nO, yFi_nO, yFj_nO, yFr_nO, yAi_nO, yAj_nO, yAd_nO, yAr_nO, yK_nA, yL_nA, yFi_nA, yFj_nA, yFr_nA, yAi_nA, yAj_nA, yAd_nA, yAr_nA, yK_nC, yL_nC, yFi_nC, yFj_nC, yFr_nC, yAi_nC, yAj_nC, yAd_nC, yAr_nC, yu2, yAi_uCi', yAj_uCj', yAj_uCx', Option.some.injEq, exists_eq_left', true_and, and_true, not_false_eq_true, forall_const, false_and, and_false, reduceIte, Nat.reduceEqDiff, ne_eq, a, c]
  have e6 : zFr (uFr (uFr τ6 256 v (some f)) 257 v (some q)) 256 v = some f := by simp only [yK_uFi, yL_uFi, yFj_uFi, yFr_uFi, yAi_uFi, yAj_uFi, yAd_uFi, yAr_uFi, yFi_uFi, yK_uFj, yL_uFj, yFi_uFj, yFr_uFj, yAi_uFj, yAj_uFj, yAd_uFj, yAr_uFj, yFj_uFj, yK_uFr, yL_uFr, yFi_uFr, yFj_uFr, yAi_uFr, yAj_uFr, yAd_uFr, yAr_uFr, yFr_uFr, yK_uAi, yL_uAi, yFi_uAi, yFj_uAi, yFr_uAi, yAj_uAi, yAd_uAi, yAr_uAi, yAi_uAi, yK_uAj, yL_uAj, yFi_uAj, yFj_uAj, yFr_uAj, yAi_uAj, yAd_uAj, yAr_uAj, yAj_uAj, yK_uAd, yL_uAd, yFi_uAd, yFj_uAd, yFr_uAd, yAi_uAd, yAj_uAd, yAr_uAd, yAd_uAd, yK_uAr, yL_uAr, yFi_uAr, yFj_uAr, yFr_uAr, yAi_uAr, yAj_uAr, yAd_uAr, yAr_uAr, yK_uCi, yL_uCi, yFi_uCi, yFj_uCi, yFr_uCi, yAj_uCi, yAd_uCi, yAr_uCi, yK_uCj, yL_uCj, yFi_uCj, yFj_uCj, yFr_uCj, yAi_uCj, yAd_uCj, yAr_uCj, yK_uCx, yL_uCx, yFi_uCx, yFj_uCx, yFr_uCx, yAi_uCx, yAd_uCx, yAr_uCx, yK_nO, yL_nO, yFi_nO, yFj_nO, yFr_nO, yAi_nO, yAj_nO, yAd_nO, yAr_nO, yK_nA, yL_nA, yFi_nA, yFj_nA, yFr_nA, yAi_nA, yAj_nA, yAd_nA, yAr_nA, yK_nC, yL_nC, yFi_nC, yFj_nC, yFr_nC, yAi_nC, yAj_nC, yAd_nC, yAr_nC, yu2, yAi_uCi', yAj_uCj', yAj_uCx', Option.some.injEq, exists_eq_left', true_and, and_true, not_false_eq_true, forall_const, false_and, and_false, reduceIte, Nat.reduceEqDiff, ne_eq]
  have e7 : zFr (uFr (uFr τ6 256 v (some f)) 257 v (some q)) 257 v = some q := by simp only [yK_uFi, yL_uFi, yFj_uFi, yFr_uFi, yAi_uFi, yAj_uFi, yAd_uFi, yAr_uFi, yFi_uFi, yK_uFj, yL_uFj, yFi_uFj, yFr_uFj, yAi_uFj, yAj_uFj, yAd_uFj, yAr_uFj, yFj_uFj, yK_uFr, yL_uFr, yFi_uFr, yFj_uFr, yAi_uFr, yAj_uFr, yAd_uFr, yAr_uFr, yFr_uFr, yK_uAi, yL_uAi, yFi_uAi, yFj_uAi, yFr_uAi, yAj_uAi, yAd_uAi, yAr_uAi, yAi_uAi, yK_uAj, yL_uAj, yFi_uAj, yFj_uAj, yFr_uAj, yAi_uAj, yAd_uAj, yAr_uAj, yAj_uAj, yK_uAd, yL_uAd, yFi_uAd, yFj_uAd, yFr_uAd, yAi_uAd, yAj_uAd, yAr_uAd, yAd_uAd, yK_uAr, yL_uAr, yFi_uAr, yFj_uAr, yFr_uAr, yAi_uAr, yAj_uAr, yAd_uAr, yAr_uAr, yK_uCi, yL_uCi, yFi_uCi, yFj_uCi, yFr_uCi, yAj_uCi, yAd_uCi, yAr_uCi, yK_uCj, yL_uCj, yFi_uCj, yFj_uCj, yFr_uCj, yAi_uCj, yAd_uCj, yAr_uCj, yK_uCx, yL_uCx, yFi_uCx, yFj_uCx, yFr_uCx, yAi_uCx, yAd_uCx, yAr_uCx, yK_nO, yL_nO, yFi_nO, yFj_nO, yFr_nO, yAi_nO, yAj_nO, yAd_nO, yAr_nO, yK_nA, yL_nA, yFi_nA, yFj_nA, yFr_nA, yAi_nA, yAj_nA, yAd_nA, yAr_nA, yK_nC, yL_nC, yFi_nC, yFj_nC, yFr_nC, yAi_nC, yAj_nC, yAd_nC, yAr_nC, yu2, yAi_uCi', yAj_uCj', yAj_uCx', Option.some.injEq, exists_eq_left', true_and, and_true, not_false_eq_true, forall_const, false_and, and_false, reduceIte, Nat.reduceEqDiff, ne_eq]
  have Su : Sp v o6 τ6 o6 (uFr (uFr τ6 256 v (some f)) 257 v (some q)) := (Sp.rf S6.2.2.1).set 256 (some f) |>.set 257 (some q)
  have R258 := R258.keep Su (by decide) ov6 (by decide) (ex _ (by decide) (by decide))
  have R262 := R262.keep Su (by decide) ov6 (by decide) (ex _ (by decide) (by decide))
  have R263 := R263.keep Su (by decide) ov6 (by decide) (ex _ (by decide) (by decide))
  have G8 := G8.keep Su ov6 (by decide) (by decide)
  have A40 := A40.keep Su ov6 (Or.inl (by decide))
  have A41 := A41.keep Su ov6 (Or.inl (by decide))
  have P259 := (ex 259 (by decide) (by decide)).trans P259
  have P260 := (ex 260 (by decide) (by decide)).trans P260
  have P261 := (ex 261 (by decide) (by decide)).trans P261
  have SSu := SS6.tr Su
  generalize uFr (uFr τ6 256 v (some f)) 257 v (some q) = τs at R258 R262 R263 G8 A40 A41 P259 P260 P261 SSu e6 e7 ⊢
  exact I_4l kv hQ hb1 40 0 _ _ _ τs (by decide) (by decide) (by decide) SSu ov6 e6 e7 ⟨R258.1, R258.2.1, R258.2.2.1, R258.2.2.2.1⟩ ⟨fun _ => 0, fun j hj => absurd hj (Nat.not_lt_zero j)⟩ ⟨P259, G8⟩ ⟨P260, A40⟩ ⟨P261, A41⟩ R262 R263
