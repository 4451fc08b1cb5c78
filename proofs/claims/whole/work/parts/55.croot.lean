/-! the class's object is made -/
theorem AFb.keep2 {o o' : Ow} {τ τ' : St} {v i j g κ len b x : Nat} (h : AFb o τ v i j g κ len b) (S : Sp x o τ o' τ') (hκ : κ ≠ 0) {nx : Nat × Nat × Nat} (hx : o x = some nx) (hn : nx.1 ≠ g) (e : zFr τ' g v = zFr τ g v) : AFb o' τ' v i j g κ len b := by
  obtain ⟨h1, h2, h3, h4, h5⟩ := h
  have hb : zK τ b ≠ 0 := by rw [h3]; exact hκ
  have hbx : b ≠ x := fun z => by rw [z, hx] at h2; exact hn (by rw [Option.some.inj h2])
  have s := S.1 b hbx hb
  exact ⟨e.trans h1, (S.2.1 b hb).trans h2, s.1.trans h3, s.2.1.trans h4, fun k => (s.2.2.2.2.2.2.2.2 k).trans (h5 k)⟩
def CRT (o : Ow) (τ : St) (v : Nat) : Prop := o v = some (12, 0, 0) ∧ zK τ v = 12 ∧ (∀ g, zFi τ g v = 0) ∧ ∃ f q k y c h' a, (zFr τ 704 v = some f ∧ Obj o τ (7, 0, 0) 7 lX6 f) ∧ AFb o τ v 0 0 705 27 40 q ∧ (zFr τ 707 v = some k ∧ ASK o τ k f q) ∧ (zFr τ 708 v = some y ∧ ANS o τ 42 y) ∧ (zFr τ 710 v = some c ∧ Obj o τ (6, 0, 0) 6 lX5 c) ∧ (zFr τ 711 v = some h' ∧ Obj o τ (9, 0, 0) 9 lX8 h') ∧ (∃ s, AFb o τ v 0 0 712 28 20 s) ∧ (zFr τ 713 v = some a ∧ Obj o τ (2, 0, 0) 2 lX1 a)
theorem CRT.keep {o o' : Ow} {τ τ' : St} {v x : Nat} (h : CRT o τ v) (S : Sp x o τ o' τ') {nv : Nat × Nat × Nat} (hx : o x = some nv) (hn : 13 ≤ nv.1 ∧ nv.1 ≤ 17 ∨ 768 ≤ nv.1) : CRT o' τ' v := by
  obtain ⟨h1, h2, h3, f, q, k, y, c, h', a, ⟨f1, f2⟩, q1, ⟨k1, k2⟩, ⟨y1, y2⟩, ⟨c1, c2⟩, ⟨i1, i2⟩, ⟨s, s1⟩, ⟨a1, a2⟩⟩ := h
  have v0 : zK τ v ≠ 0 := by rw [h2]; decide
  have hvx : v ≠ x := fun z => by rw [z, hx] at h1; have := Option.some.inj h1; rw [this] at hn; exact absurd hn (by decide)
  have sv := S.1 v hvx v0
  have L : ∀ {l : List (Nat × Nat × Nat)}, (∀ q ∈ l, q.1 < 768 ∧ ¬ (13 ≤ q.1 ∧ q.1 ≤ 17)) → ∀ q ∈ l, q.1 ≠ nv.1 := fun hl q hq e => by
    have := hl q hq
    omega
  have N : ∀ {nm : Nat × Nat × Nat}, (nm.1 < 768 ∧ ¬ (13 ≤ nm.1 ∧ nm.1 ≤ 17)) → nv ≠ nm := fun h e => by rw [e] at hn; omega
  exact ⟨(S.2.1 v v0).trans h1, sv.1.trans h2, fun g => (sv.2.2.2.1 g).trans (h3 g), f, q, k, y, c, h', a, ⟨(sv.2.2.1 _).trans f1, f2.keep S hx (N (by decide)) (L (by decide))⟩, q1.keep2 S (by decide) hx (by omega) (sv.2.2.1 _), ⟨(sv.2.2.1 _).trans k1, k2.keep S hx (by omega)⟩, ⟨(sv.2.2.1 _).trans y1, y2.keep S hx (Or.inl (by omega))⟩, ⟨(sv.2.2.1 _).trans c1, c2.keep S hx (N (by decide)) (L (by decide))⟩, ⟨(sv.2.2.1 _).trans i1, i2.keep S hx (N (by decide)) (L (by decide))⟩, ⟨s, s1.keep2 S (by decide) hx (by omega) (sv.2.2.1 _)⟩, ⟨(sv.2.2.1 _).trans a1, a2.keep S hx (N (by decide)) (L (by decide))⟩⟩
set_option maxHeartbeats 4000000 in
theorem I_11 {σ : St} {o : Ow} {v : Nat} (h0 : okO o σ) (hv : o v = some (12, 0, 0)) (kv : zK σ v = 12) (hz : ∀ g, zFi σ g v = 0) {Q : St → Prop} (hQ : ∀ o' τ, Sp v o σ o' τ → CRT o' τ v → Q τ) : wX11_init 6000 70000 v σ Q := by
  have S0 : Sp v o σ o σ := Sp.rf h0
  have SS0 : Sp v o σ o σ := Sp.rf h0
  have kw : zK σ v = 12 := kv
  have kz : zK σ v ≠ 0 := by rw [kv]; decide
  refine ⟨by decide, by decide, fun b1 hb1 => ⟨4, 550, by decide, by decide, ?_⟩⟩
  have Sb1 := Sp.new S0.2.2.1 kz hb1 (by decide : (7 : Nat) ≠ 0) (7, 0, 0)
  refine I_6 Sb1.2.2.1 (if_pos rfl) (by rw [yK_nO, if_pos rfl]) (fun g => by rw [yFi_nO, if_pos rfl]) (fun p1 ρ1 T1 F7 => ?_)
  obtain ⟨S1, ov1, P704, pr1, zi1, E1, sf1⟩ := subT S0.2.2.1 kz hb1 (by decide) T1 (g := 704) rfl
  have F7 := F7.keep sf1 (ov1.trans hv) (by decide) (by decide)
  have ov1 := ov1.trans hv
  have zv1 : ∀ g, zFi _ g v = 0 := fun g => (zi1 g).trans (hz g)
  have SS1 := SS0.tr S1
  have kz : zK _ v ≠ 0 := fun z => kz (S1.2.2.2.symm.trans z)
  have kw : zK _ v = 12 := S1.2.2.2.trans kw
  generalize uFr ρ1 704 v (some b1) = τ1 at S1 SS1 E1 zv1 kz kw P704 F7 ⊢
  refine ⟨by rw [← E1]; exact kw, by decide, by decide, fun b2 hb2 => ?_⟩
  rw [← E1] at hb2
  obtain ⟨o2, S2, ov2, R705, pr2, zi2, E2⟩ := rowT S1.2.2.1 kz 0 0 hb2 (by decide) (g := 705) (κ := 27) (len := 40) rfl
  have P704 := (pr2 _ (by decide)).trans P704
  have F7 := F7.keep S2 ov1 (by decide) (by decide)
  have ov2 := ov2.trans ov1
  have zv2 : ∀ g, zFi _ g v = 0 := fun g => (zi2 g).trans (zv1 g)
  have SS2 := SS1.tr S2
  have kz : zK _ v ≠ 0 := fun z => kz (S2.2.2.2.symm.trans z)
  have kw : zK _ v = 12 := S2.2.2.2.trans kw
  generalize uFr (nA τ1 b2 27 40) 705 v (some b2) = τ2 at S2 SS2 E2 zv2 kz kw P704 F7 R705 ⊢
  refine ⟨by rw [← E2]; exact kw, by decide, by decide, fun b3 hb3 => ?_⟩
  rw [← E2] at hb3
  have hvb : v ≠ b3 := fun z => kz (by rw [z]; exact hb3)
  refine ⟨by rw [yK_nO, if_neg hvb]; exact kw, b1, by rw [yFr_nO, if_neg hvb]; exact P704, b2, by rw [yFr_nO, if_neg hvb]; exact R705.1, 5000, 60000, by decide, by decide, ?_⟩
  have Sb3 := Sp.new S2.2.2.1 kz hb3 (by decide : (5 : Nat) ≠ 0) (5, 0, 0)
  refine I_4 Sb3.2.2.1 (if_pos rfl) (by rw [yK_nO, if_pos rfl]) (fun g => by rw [yFi_nO, if_pos rfl]) (fun p3 ρ3 T3 K5 => ?_)
  obtain ⟨S3, ov3, P707, pr3, zi3, E3, sf3⟩ := subT S2.2.2.1 kz hb3 (by decide) T3 (g := 707) rfl
  have K5 := K5.keep sf3 (ov3.trans ov2) (by decide)
  have P704 := (pr3 _ (by decide)).trans P704
  have F7 := F7.keep S3 ov2 (by decide) (by decide)
  have R705 := R705.keep S3 (by decide) ov2 (by decide) (pr3 _ (by decide))
  have ov3 := ov3.trans ov2
  have zv3 : ∀ g, zFi _ g v = 0 := fun g => (zi3 g).trans (zv2 g)
  have SS3 := SS2.tr S3
  have kz : zK _ v ≠ 0 := fun z => kz (S3.2.2.2.symm.trans z)
  have kw : zK _ v = 12 := S3.2.2.2.trans kw
  generalize uFr ρ3 707 v (some b3) = τ3 at S3 SS3 E3 zv3 kz kw P704 F7 R705 P707 K5 ⊢
  refine ⟨by rw [← E3]; exact kw, by decide, by decide, fun b4 hb4 => ⟨97, 928, by decide, by decide, ?_⟩⟩
  rw [← E3] at hb4
  have Sb4 := Sp.new S3.2.2.1 kz hb4 (by decide : (4 : Nat) ≠ 0) (4, 42, 0)
  refine I_3x (s := 42) Sb4.2.2.1 (if_pos rfl) (by rw [yK_nO, if_pos rfl]) (fun g => by rw [yFi_nO, if_pos rfl]) (by decide) (by decide) (by decide) (fun p4 ρ4 T4 A42 => ?_)
  obtain ⟨S4, ov4, P708, pr4, zi4, E4, sf4⟩ := subT S3.2.2.1 kz hb4 (by decide) T4 (g := 708) rfl
  have A42 := A42.keep sf4 (ov4.trans ov3) (Or.inl (by decide))
  have P704 := (pr4 _ (by decide)).trans P704
  have F7 := F7.keep S4 ov3 (by decide) (by decide)
  have R705 := R705.keep S4 (by decide) ov3 (by decide) (pr4 _ (by decide))
  have P707 := (pr4 _ (by decide)).trans P707
  have K5 := K5.keep S4 ov3 (by decide)
  have ov4 := ov4.trans ov3
  have zv4 : ∀ g, zFi _ g v = 0 := fun g => (zi4 g).trans (zv3 g)
  have SS4 := SS3.tr S4
  have kz : zK _ v ≠ 0 := fun z => kz (S4.2.2.2.symm.trans z)
  have kw : zK _ v = 12 := S4.2.2.2.trans kw
  generalize uFr ρ4 708 v (some b4) = τ4 at S4 SS4 E4 zv4 kz kw P704 F7 R705 P707 K5 P708 A42 ⊢
  refine ⟨by rw [← E4]; exact kw, by decide, by decide, fun b5 hb5 => ⟨3, 49, by decide, by decide, ?_⟩⟩
  rw [← E4] at hb5
  have Sb5 := Sp.new S4.2.2.1 kz hb5 (by decide : (6 : Nat) ≠ 0) (6, 0, 0)
  refine I_5 Sb5.2.2.1 (if_pos rfl) (by rw [yK_nO, if_pos rfl]) (fun g => by rw [yFi_nO, if_pos rfl]) (fun p5 ρ5 T5 O6 => ?_)
  obtain ⟨S5, ov5, P710, pr5, zi5, E5, sf5⟩ := subT S4.2.2.1 kz hb5 (by decide) T5 (g := 710) rfl
  have O6 := O6.keep sf5 (ov5.trans ov4) (by decide) (by decide)
  have P704 := (pr5 _ (by decide)).trans P704
  have F7 := F7.keep S5 ov4 (by decide) (by decide)
  have R705 := R705.keep S5 (by decide) ov4 (by decide) (pr5 _ (by decide))
  have P707 := (pr5 _ (by decide)).trans P707
  have K5 := K5.keep S5 ov4 (by decide)
  have P708 := (pr5 _ (by decide)).trans P708
  have A42 := A42.keep S5 ov4 (Or.inl (by decide))
  have ov5 := ov5.trans ov4
  have zv5 : ∀ g, zFi _ g v = 0 := fun g => (zi5 g).trans (zv4 g)
  have SS5 := SS4.tr S5
  have kz : zK _ v ≠ 0 := fun z => kz (S5.2.2.2.symm.trans z)
  have kw : zK _ v = 12 := S5.2.2.2.trans kw
  generalize uFr ρ5 710 v (some b5) = τ5 at S5 SS5 E5 zv5 kz kw P704 F7 R705 P707 K5 P708 A42 P710 O6 ⊢
  refine ⟨by rw [← E5]; exact kw, by decide, by decide, fun b6 hb6 => ⟨1, 16, by decide, by decide, ?_⟩⟩
  rw [← E5] at hb6
  have Sb6 := Sp.new S5.2.2.1 kz hb6 (by decide : (9 : Nat) ≠ 0) (9, 0, 0)
  refine I_8 Sb6.2.2.1 (if_pos rfl) (by rw [yK_nO, if_pos rfl]) (fun g => by rw [yFi_nO, if_pos rfl]) (fun p6 ρ6 T6 O9 => ?_)
  obtain ⟨S6, ov6, P711, pr6, zi6, E6, sf6⟩ := subT S5.2.2.1 kz hb6 (by decide) T6 (g := 711) rfl
  have O9 := O9.keep sf6 (ov6.trans ov5) (by decide) (by decide)
  have P704 := (pr6 _ (by decide)).trans P704
  have F7 := F7.keep S6 ov5 (by decide) (by decide)
  have R705 := R705.keep S6 (by decide) ov5 (by decide) (pr6 _ (by decide))
  have P707 := (pr6 _ (by decide)).trans P707
  have K5 := K5.keep S6 ov5 (by decide)
  have P708 := (pr6 _ (by decide)).trans P708
  have A42 := A42.keep S6 ov5 (Or.inl (by decide))
  have P710 := (pr6 _ (by decide)).trans P710
  have O6 := O6.keep S6 ov5 (by decide) (by decide)
  have ov6 := ov6.trans ov5
  have zv6 : ∀ g, zFi _ g v = 0 := fun g => (zi6 g).trans (zv5 g)
  have SS6 := SS5.tr S6
  have kz : zK _ v ≠ 0 := fun z => kz (S6.2.2.2.symm.trans z)
  have kw : zK _ v = 12 := S6.2.2.2.trans kw
  generalize uFr ρ6 711 v (some b6) = τ6 at S6 SS6 E6 zv6 kz kw P704 F7 R705 P707 K5 P708 A42 P710 O6 P711 O9 ⊢
  refine ⟨by rw [← E6]; exact kw, by decide, by decide, fun b7 hb7 => ?_⟩
  rw [← E6] at hb7
  obtain ⟨o7, S7, ov7, R712, pr7, zi7, E7⟩ := rowT S6.2.2.1 kz 0 0 hb7 (by decide) (g := 712) (κ := 28) (len := 20) rfl
  have P704 := (pr7 _ (by decide)).trans P704
  have F7 := F7.keep S7 ov6 (by decide) (by decide)
  have R705 := R705.keep S7 (by decide) ov6 (by decide) (pr7 _ (by decide))
  have P707 := (pr7 _ (by decide)).trans P707
  have K5 := K5.keep S7 ov6 (by decide)
  have P708 := (pr7 _ (by decide)).trans P708
  have A42 := A42.keep S7 ov6 (Or.inl (by decide))
  have P710 := (pr7 _ (by decide)).trans P710
  have O6 := O6.keep S7 ov6 (by decide) (by decide)
  have P711 := (pr7 _ (by decide)).trans P711
  have O9 := O9.keep S7 ov6 (by decide) (by decide)
  have ov7 := ov7.trans ov6
  have zv7 : ∀ g, zFi _ g v = 0 := fun g => (zi7 g).trans (zv6 g)
  have SS7 := SS6.tr S7
  have kz : zK _ v ≠ 0 := fun z => kz (S7.2.2.2.symm.trans z)
  have kw : zK _ v = 12 := S7.2.2.2.trans kw
  generalize uFr (nA τ6 b7 28 20) 712 v (some b7) = τ7 at S7 SS7 E7 zv7 kz kw P704 F7 R705 P707 K5 P708 A42 P710 O6 P711 O9 R712 ⊢
  refine ⟨by rw [← E7]; exact kw, by decide, by decide, fun b8 hb8 => ⟨1, 100, by decide, by decide, ?_⟩⟩
  rw [← E7] at hb8
  have Sb8 := Sp.new S7.2.2.1 kz hb8 (by decide : (2 : Nat) ≠ 0) (2, 0, 0)
  refine I_1 Sb8.2.2.1 (if_pos rfl) (by rw [yK_nO, if_pos rfl]) (fun g => by rw [yFi_nO, if_pos rfl]) (fun p8 ρ8 T8 O2 => ?_)
  obtain ⟨S8, ov8, P713, pr8, zi8, E8, sf8⟩ := subT S7.2.2.1 kz hb8 (by decide) T8 (g := 713) rfl
  have O2 := O2.keep sf8 (ov8.trans ov7) (by decide) (by decide)
  have P704 := (pr8 _ (by decide)).trans P704
  have F7 := F7.keep S8 ov7 (by decide) (by decide)
  have R705 := R705.keep S8 (by decide) ov7 (by decide) (pr8 _ (by decide))
  have P707 := (pr8 _ (by decide)).trans P707
  have K5 := K5.keep S8 ov7 (by decide)
  have P708 := (pr8 _ (by decide)).trans P708
  have A42 := A42.keep S8 ov7 (Or.inl (by decide))
  have P710 := (pr8 _ (by decide)).trans P710
  have O6 := O6.keep S8 ov7 (by decide) (by decide)
  have P711 := (pr8 _ (by decide)).trans P711
  have O9 := O9.keep S8 ov7 (by decide) (by decide)
  have R712 := R712.keep S8 (by decide) ov7 (by decide) (pr8 _ (by decide))
  have ov8 := ov8.trans ov7
  have zv8 : ∀ g, zFi _ g v = 0 := fun g => (zi8 g).trans (zv7 g)
  have SS8 := SS7.tr S8
  have kz : zK _ v ≠ 0 := fun z => kz (S8.2.2.2.symm.trans z)
  have kw : zK _ v = 12 := S8.2.2.2.trans kw
  generalize uFr ρ8 713 v (some b8) = τ8 at S8 SS8 E8 zv8 kz kw P704 F7 R705 P707 K5 P708 A42 P710 O6 P711 O9 R712 P713 O2 ⊢
  exact ⟨by rw [← E8]; exact kw, by decide, by decide, hQ _ _ SS8 ⟨ov8, kw, zv8, b1, b2, b3, b4, b5, b6, b8, ⟨P704, F7⟩, R705, ⟨P707, K5⟩, ⟨P708, A42⟩, ⟨P710, O6⟩, ⟨P711, O9⟩, ⟨b7, R712⟩, ⟨P713, O2⟩⟩⟩
