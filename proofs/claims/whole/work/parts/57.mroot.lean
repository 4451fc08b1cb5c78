set_option maxHeartbeats 4000000 in
theorem I_16 {σ : St} {o : Ow} {v : Nat} (h0 : okO o σ) (hv : o v = some (17, 0, 0)) (kv : zK σ v = 17) (hz : ∀ g, zFi σ g v = 0) {Q : St → Prop} (hQ : ∀ o' τ, Sp v o σ o' τ → MRT o' τ v → Q τ) : wX16_init 3000 100000 v σ Q := by
  have S0 : Sp v o σ o σ := Sp.rf h0
  have SS0 : Sp v o σ o σ := Sp.rf h0
  have kw : zK σ v = 17 := kv
  have kz : zK σ v ≠ 0 := by rw [kv]; decide
  refine ⟨by decide, by decide, fun b1 hb1 => ?_⟩
  obtain ⟨o1, S1, ov1, R1026, pr1, zi1, E1⟩ := rowT S0.2.2.1 kz 0 0 hb1 (by decide) (g := 1026) (κ := 29) (len := 100) rfl
  have ov1 := ov1.trans hv
  have zv1 : ∀ g, zFi _ g v = 0 := fun g => (zi1 g).trans (hz g)
  have SS1 := SS0.tr S1
  have kz : zK _ v ≠ 0 := fun z => kz (S1.2.2.2.symm.trans z)
  have kw : zK _ v = 17 := S1.2.2.2.trans kw
  generalize uFr (nA σ b1 29 100) 1026 v (some b1) = τ1 at S1 SS1 E1 zv1 kz kw R1026 ⊢
  refine ⟨by rw [← E1]; exact kw, by decide, by decide, fun b2 hb2 => ?_⟩
  rw [← E1] at hb2
  obtain ⟨o2, S2, ov2, R1031, pr2, zi2, E2⟩ := rowT S1.2.2.1 kz 0 0 hb2 (by decide) (g := 1031) (κ := 20) (len := 10) rfl
  have R1026 := R1026.keep S2 (by decide) ov1 (by decide) (pr2 _ (by decide))
  have ov2 := ov2.trans ov1
  have zv2 : ∀ g, zFi _ g v = 0 := fun g => (zi2 g).trans (zv1 g)
  have SS2 := SS1.tr S2
  have kz : zK _ v ≠ 0 := fun z => kz (S2.2.2.2.symm.trans z)
  have kw : zK _ v = 17 := S2.2.2.2.trans kw
  generalize uFr (nA τ1 b2 20 10) 1031 v (some b2) = τ2 at S2 SS2 E2 zv2 kz kw R1026 R1031 ⊢
  refine ⟨by rw [← E2]; exact kw, by decide, by decide, fun b3 hb3 => ?_⟩
  rw [← E2] at hb3
  obtain ⟨o3, S3, ov3, R1032, pr3, zi3, E3⟩ := rowT S2.2.2.1 kz 0 0 hb3 (by decide) (g := 1032) (κ := 20) (len := 60) rfl
  have R1026 := R1026.keep S3 (by decide) ov2 (by decide) (pr3 _ (by decide))
  have R1031 := R1031.keep S3 (by decide) ov2 (by decide) (pr3 _ (by decide))
  have ov3 := ov3.trans ov2
  have zv3 : ∀ g, zFi _ g v = 0 := fun g => (zi3 g).trans (zv2 g)
  have SS3 := SS2.tr S3
  have kz : zK _ v ≠ 0 := fun z => kz (S3.2.2.2.symm.trans z)
  have kw : zK _ v = 17 := S3.2.2.2.trans kw
  generalize uFr (nA τ2 b3 20 60) 1032 v (some b3) = τ3 at S3 SS3 E3 zv3 kz kw R1026 R1031 R1032 ⊢
  refine ⟨by rw [← E3]; exact kw, by decide, by decide, fun b4 hb4 => ?_⟩
  rw [← E3] at hb4
  obtain ⟨o4, S4, ov4, R1033, pr4, zi4, E4⟩ := rowT S3.2.2.1 kz 0 0 hb4 (by decide) (g := 1033) (κ := 20) (len := 240) rfl
  have R1026 := R1026.keep S4 (by decide) ov3 (by decide) (pr4 _ (by decide))
  have R1031 := R1031.keep S4 (by decide) ov3 (by decide) (pr4 _ (by decide))
  have R1032 := R1032.keep S4 (by decide) ov3 (by decide) (pr4 _ (by decide))
  have ov4 := ov4.trans ov3
  have zv4 : ∀ g, zFi _ g v = 0 := fun g => (zi4 g).trans (zv3 g)
  have SS4 := SS3.tr S4
  have kz : zK _ v ≠ 0 := fun z => kz (S4.2.2.2.symm.trans z)
  have kw : zK _ v = 17 := S4.2.2.2.trans kw
  generalize uFr (nA τ3 b4 20 240) 1033 v (some b4) = τ4 at S4 SS4 E4 zv4 kz kw R1026 R1031 R1032 R1033 ⊢
  refine ⟨by rw [← E4]; exact kw, by decide, by decide, fun b5 hb5 => ?_⟩
  rw [← E4] at hb5
  obtain ⟨o5, S5, ov5, R1034, pr5, zi5, E5⟩ := rowT S4.2.2.1 kz 0 0 hb5 (by decide) (g := 1034) (κ := 20) (len := 60) rfl
  have R1026 := R1026.keep S5 (by decide) ov4 (by decide) (pr5 _ (by decide))
  have R1031 := R1031.keep S5 (by decide) ov4 (by decide) (pr5 _ (by decide))
  have R1032 := R1032.keep S5 (by decide) ov4 (by decide) (pr5 _ (by decide))
  have R1033 := R1033.keep S5 (by decide) ov4 (by decide) (pr5 _ (by decide))
  have ov5 := ov5.trans ov4
  have zv5 : ∀ g, zFi _ g v = 0 := fun g => (zi5 g).trans (zv4 g)
  have SS5 := SS4.tr S5
  have kz : zK _ v ≠ 0 := fun z => kz (S5.2.2.2.symm.trans z)
  have kw : zK _ v = 17 := S5.2.2.2.trans kw
  generalize uFr (nA τ4 b5 20 60) 1034 v (some b5) = τ5 at S5 SS5 E5 zv5 kz kw R1026 R1031 R1032 R1033 R1034 ⊢
  refine ⟨by rw [← E5]; exact kw, by decide, by decide, fun b6 hb6 => ?_⟩
  rw [← E5] at hb6
  obtain ⟨o6, S6, ov6, R1035, pr6, zi6, E6⟩ := rowT S5.2.2.1 kz 0 0 hb6 (by decide) (g := 1035) (κ := 20) (len := 60) rfl
  have R1026 := R1026.keep S6 (by decide) ov5 (by decide) (pr6 _ (by decide))
  have R1031 := R1031.keep S6 (by decide) ov5 (by decide) (pr6 _ (by decide))
  have R1032 := R1032.keep S6 (by decide) ov5 (by decide) (pr6 _ (by decide))
  have R1033 := R1033.keep S6 (by decide) ov5 (by decide) (pr6 _ (by decide))
  have R1034 := R1034.keep S6 (by decide) ov5 (by decide) (pr6 _ (by decide))
  have ov6 := ov6.trans ov5
  have zv6 : ∀ g, zFi _ g v = 0 := fun g => (zi6 g).trans (zv5 g)
  have SS6 := SS5.tr S6
  have kz : zK _ v ≠ 0 := fun z => kz (S6.2.2.2.symm.trans z)
  have kw : zK _ v = 17 := S6.2.2.2.trans kw
  generalize uFr (nA τ5 b6 20 60) 1035 v (some b6) = τ6 at S6 SS6 E6 zv6 kz kw R1026 R1031 R1032 R1033 R1034 R1035 ⊢
  refine ⟨by rw [← E6]; exact kw, by decide, by decide, fun b7 hb7 => ?_⟩
  rw [← E6] at hb7
  obtain ⟨o7, S7, ov7, R1036, pr7, zi7, E7⟩ := rowT S6.2.2.1 kz 0 0 hb7 (by decide) (g := 1036) (κ := 20) (len := 60) rfl
  have R1026 := R1026.keep S7 (by decide) ov6 (by decide) (pr7 _ (by decide))
  have R1031 := R1031.keep S7 (by decide) ov6 (by decide) (pr7 _ (by decide))
  have R1032 := R1032.keep S7 (by decide) ov6 (by decide) (pr7 _ (by decide))
  have R1033 := R1033.keep S7 (by decide) ov6 (by decide) (pr7 _ (by decide))
  have R1034 := R1034.keep S7 (by decide) ov6 (by decide) (pr7 _ (by decide))
  have R1035 := R1035.keep S7 (by decide) ov6 (by decide) (pr7 _ (by decide))
  have ov7 := ov7.trans ov6
  have zv7 : ∀ g, zFi _ g v = 0 := fun g => (zi7 g).trans (zv6 g)
  have SS7 := SS6.tr S7
  have kz : zK _ v ≠ 0 := fun z => kz (S7.2.2.2.symm.trans z)
  have kw : zK _ v = 17 := S7.2.2.2.trans kw
  generalize uFr (nA τ6 b7 20 60) 1036 v (some b7) = τ7 at S7 SS7 E7 zv7 kz kw R1026 R1031 R1032 R1033 R1034 R1035 R1036 ⊢
  refine ⟨by rw [← E7]; exact kw, by decide, by decide, fun b8 hb8 => ?_⟩
  rw [← E7] at hb8
  obtain ⟨o8, S8, ov8, R1037, pr8, zi8, E8⟩ := rowT S7.2.2.1 kz 0 0 hb8 (by decide) (g := 1037) (κ := 22) (len := 60) rfl
  have R1026 := R1026.keep S8 (by decide) ov7 (by decide) (pr8 _ (by decide))
  have R1031 := R1031.keep S8 (by decide) ov7 (by decide) (pr8 _ (by decide))
  have R1032 := R1032.keep S8 (by decide) ov7 (by decide) (pr8 _ (by decide))
  have R1033 := R1033.keep S8 (by decide) ov7 (by decide) (pr8 _ (by decide))
  have R1034 := R1034.keep S8 (by decide) ov7 (by decide) (pr8 _ (by decide))
  have R1035 := R1035.keep S8 (by decide) ov7 (by decide) (pr8 _ (by decide))
  have R1036 := R1036.keep S8 (by decide) ov7 (by decide) (pr8 _ (by decide))
  have ov8 := ov8.trans ov7
  have zv8 : ∀ g, zFi _ g v = 0 := fun g => (zi8 g).trans (zv7 g)
  have SS8 := SS7.tr S8
  have kz : zK _ v ≠ 0 := fun z => kz (S8.2.2.2.symm.trans z)
  have kw : zK _ v = 17 := S8.2.2.2.trans kw
  generalize uFr (nA τ7 b8 22 60) 1037 v (some b8) = τ8 at S8 SS8 E8 zv8 kz kw R1026 R1031 R1032 R1033 R1034 R1035 R1036 R1037 ⊢
  refine ⟨by rw [← E8]; exact kw, by decide, by decide, fun b9 hb9 => ?_⟩
  rw [← E8] at hb9
  obtain ⟨o9, S9, ov9, R1038, pr9, zi9, E9⟩ := rowT S8.2.2.1 kz 0 0 hb9 (by decide) (g := 1038) (κ := 23) (len := 60) rfl
  have R1026 := R1026.keep S9 (by decide) ov8 (by decide) (pr9 _ (by decide))
  have R1031 := R1031.keep S9 (by decide) ov8 (by decide) (pr9 _ (by decide))
  have R1032 := R1032.keep S9 (by decide) ov8 (by decide) (pr9 _ (by decide))
  have R1033 := R1033.keep S9 (by decide) ov8 (by decide) (pr9 _ (by decide))
  have R1034 := R1034.keep S9 (by decide) ov8 (by decide) (pr9 _ (by decide))
  have R1035 := R1035.keep S9 (by decide) ov8 (by decide) (pr9 _ (by decide))
  have R1036 := R1036.keep S9 (by decide) ov8 (by decide) (pr9 _ (by decide))
  have R1037 := R1037.keep S9 (by decide) ov8 (by decide) (pr9 _ (by decide))
  have ov9 := ov9.trans ov8
  have zv9 : ∀ g, zFi _ g v = 0 := fun g => (zi9 g).trans (zv8 g)
  have SS9 := SS8.tr S9
  have kz : zK _ v ≠ 0 := fun z => kz (S9.2.2.2.symm.trans z)
  have kw : zK _ v = 17 := S9.2.2.2.trans kw
  generalize uFr (nA τ8 b9 23 60) 1038 v (some b9) = τ9 at S9 SS9 E9 zv9 kz kw R1026 R1031 R1032 R1033 R1034 R1035 R1036 R1037 R1038 ⊢
  refine ⟨by rw [← E9]; exact kw, by decide, by decide, fun b10 hb10 => ?_⟩
  rw [← E9] at hb10
  obtain ⟨o10, S10, ov10, R1039, pr10, zi10, E10⟩ := rowT S9.2.2.1 kz 0 0 hb10 (by decide) (g := 1039) (κ := 20) (len := 40) rfl
  have R1026 := R1026.keep S10 (by decide) ov9 (by decide) (pr10 _ (by decide))
  have R1031 := R1031.keep S10 (by decide) ov9 (by decide) (pr10 _ (by decide))
  have R1032 := R1032.keep S10 (by decide) ov9 (by decide) (pr10 _ (by decide))
  have R1033 := R1033.keep S10 (by decide) ov9 (by decide) (pr10 _ (by decide))
  have R1034 := R1034.keep S10 (by decide) ov9 (by decide) (pr10 _ (by decide))
  have R1035 := R1035.keep S10 (by decide) ov9 (by decide) (pr10 _ (by decide))
  have R1036 := R1036.keep S10 (by decide) ov9 (by decide) (pr10 _ (by decide))
  have R1037 := R1037.keep S10 (by decide) ov9 (by decide) (pr10 _ (by decide))
  have R1038 := R1038.keep S10 (by decide) ov9 (by decide) (pr10 _ (by decide))
  have ov10 := ov10.trans ov9
  have zv10 : ∀ g, zFi _ g v = 0 := fun g => (zi10 g).trans (zv9 g)
  have SS10 := SS9.tr S10
  have kz : zK _ v ≠ 0 := fun z => kz (S10.2.2.2.symm.trans z)
  have kw : zK _ v = 17 := S10.2.2.2.trans kw
  generalize uFr (nA τ9 b10 20 40) 1039 v (some b10) = τ10 at S10 SS10 E10 zv10 kz kw R1026 R1031 R1032 R1033 R1034 R1035 R1036 R1037 R1038 R1039 ⊢
  refine ⟨by rw [← E10]; exact kw, by decide, by decide, fun b11 hb11 => ?_⟩
  rw [← E10] at hb11
  obtain ⟨o11, S11, ov11, R1040, pr11, zi11, E11⟩ := rowT S10.2.2.1 kz 0 0 hb11 (by decide) (g := 1040) (κ := 20) (len := 40) rfl
  have R1026 := R1026.keep S11 (by decide) ov10 (by decide) (pr11 _ (by decide))
  have R1031 := R1031.keep S11 (by decide) ov10 (by decide) (pr11 _ (by decide))
  have R1032 := R1032.keep S11 (by decide) ov10 (by decide) (pr11 _ (by decide))
  have R1033 := R1033.keep S11 (by decide) ov10 (by decide) (pr11 _ (by decide))
  have R1034 := R1034.keep S11 (by decide) ov10 (by decide) (pr11 _ (by decide))
  have R1035 := R1035.keep S11 (by decide) ov10 (by decide) (pr11 _ (by decide))
  have R1036 := R1036.keep S11 (by decide) ov10 (by decide) (pr11 _ (by decide))
  have R1037 := R1037.keep S11 (by decide) ov10 (by decide) (pr11 _ (by decide))
  have R1038 := R1038.keep S11 (by decide) ov10 (by decide) (pr11 _ (by decide))
  have R1039 := R1039.keep S11 (by decide) ov10 (by decide) (pr11 _ (by decide))
  have ov11 := ov11.trans ov10
  have zv11 : ∀ g, zFi _ g v = 0 := fun g => (zi11 g).trans (zv10 g)
  have SS11 := SS10.tr S11
  have kz : zK _ v ≠ 0 := fun z => kz (S11.2.2.2.symm.trans z)
  have kw : zK _ v = 17 := S11.2.2.2.trans kw
  generalize uFr (nA τ10 b11 20 40) 1040 v (some b11) = τ11 at S11 SS11 E11 zv11 kz kw R1026 R1031 R1032 R1033 R1034 R1035 R1036 R1037 R1038 R1039 R1040 ⊢
  refine ⟨by rw [← E11]; exact kw, by decide, by decide, fun b12 hb12 => ?_⟩
  rw [← E11] at hb12
  obtain ⟨o12, S12, ov12, R1041, pr12, zi12, E12⟩ := rowT S11.2.2.1 kz 0 0 hb12 (by decide) (g := 1041) (κ := 20) (len := 40) rfl
  have R1026 := R1026.keep S12 (by decide) ov11 (by decide) (pr12 _ (by decide))
  have R1031 := R1031.keep S12 (by decide) ov11 (by decide) (pr12 _ (by decide))
  have R1032 := R1032.keep S12 (by decide) ov11 (by decide) (pr12 _ (by decide))
  have R1033 := R1033.keep S12 (by decide) ov11 (by decide) (pr12 _ (by decide))
  have R1034 := R1034.keep S12 (by decide) ov11 (by decide) (pr12 _ (by decide))
  have R1035 := R1035.keep S12 (by decide) ov11 (by decide) (pr12 _ (by decide))
  have R1036 := R1036.keep S12 (by decide) ov11 (by decide) (pr12 _ (by decide))
  have R1037 := R1037.keep S12 (by decide) ov11 (by decide) (pr12 _ (by decide))
  have R1038 := R1038.keep S12 (by decide) ov11 (by decide) (pr12 _ (by decide))
  have R1039 := R1039.keep S12 (by decide) ov11 (by decide) (pr12 _ (by decide))
  have R1040 := R1040.keep S12 (by decide) ov11 (by decide) (pr12 _ (by decide))
  have ov12 := ov12.trans ov11
  have zv12 : ∀ g, zFi _ g v = 0 := fun g => (zi12 g).trans (zv11 g)
  have SS12 := SS11.tr S12
  have kz : zK _ v ≠ 0 := fun z => kz (S12.2.2.2.symm.trans z)
  have kw : zK _ v = 17 := S12.2.2.2.trans kw
  generalize uFr (nA τ11 b12 20 40) 1041 v (some b12) = τ12 at S12 SS12 E12 zv12 kz kw R1026 R1031 R1032 R1033 R1034 R1035 R1036 R1037 R1038 R1039 R1040 R1041 ⊢
  refine ⟨by rw [← E12]; exact kw, by decide, by decide, fun b13 hb13 => ?_⟩
  rw [← E12] at hb13
  obtain ⟨o13, S13, ov13, R1042, pr13, zi13, E13⟩ := rowT S12.2.2.1 kz 0 0 hb13 (by decide) (g := 1042) (κ := 20) (len := 40) rfl
  have R1026 := R1026.keep S13 (by decide) ov12 (by decide) (pr13 _ (by decide))
  have R1031 := R1031.keep S13 (by decide) ov12 (by decide) (pr13 _ (by decide))
  have R1032 := R1032.keep S13 (by decide) ov12 (by decide) (pr13 _ (by decide))
  have R1033 := R1033.keep S13 (by decide) ov12 (by decide) (pr13 _ (by decide))
  have R1034 := R1034.keep S13 (by decide) ov12 (by decide) (pr13 _ (by decide))
  have R1035 := R1035.keep S13 (by decide) ov12 (by decide) (pr13 _ (by decide))
  have R1036 := R1036.keep S13 (by decide) ov12 (by decide) (pr13 _ (by decide))
  have R1037 := R1037.keep S13 (by decide) ov12 (by decide) (pr13 _ (by decide))
  have R1038 := R1038.keep S13 (by decide) ov12 (by decide) (pr13 _ (by decide))
  have R1039 := R1039.keep S13 (by decide) ov12 (by decide) (pr13 _ (by decide))
  have R1040 := R1040.keep S13 (by decide) ov12 (by decide) (pr13 _ (by decide))
  have R1041 := R1041.keep S13 (by decide) ov12 (by decide) (pr13 _ (by decide))
  have ov13 := ov13.trans ov12
  have zv13 : ∀ g, zFi _ g v = 0 := fun g => (zi13 g).trans (zv12 g)
  have SS13 := SS12.tr S13
  have kz : zK _ v ≠ 0 := fun z => kz (S13.2.2.2.symm.trans z)
  have kw : zK _ v = 17 := S13.2.2.2.trans kw
  generalize uFr (nA τ12 b13 20 40) 1042 v (some b13) = τ13 at S13 SS13 E13 zv13 kz kw R1026 R1031 R1032 R1033 R1034 R1035 R1036 R1037 R1038 R1039 R1040 R1041 R1042 ⊢
  refine ⟨by rw [← E13]; exact kw, by decide, by decide, fun b14 hb14 => ?_⟩
  rw [← E13] at hb14
  obtain ⟨o14, S14, ov14, R1043, pr14, zi14, E14⟩ := rowT S13.2.2.1 kz 0 0 hb14 (by decide) (g := 1043) (κ := 20) (len := 40) rfl
  have R1026 := R1026.keep S14 (by decide) ov13 (by decide) (pr14 _ (by decide))
  have R1031 := R1031.keep S14 (by decide) ov13 (by decide) (pr14 _ (by decide))
  have R1032 := R1032.keep S14 (by decide) ov13 (by decide) (pr14 _ (by decide))
  have R1033 := R1033.keep S14 (by decide) ov13 (by decide) (pr14 _ (by decide))
  have R1034 := R1034.keep S14 (by decide) ov13 (by decide) (pr14 _ (by decide))
  have R1035 := R1035.keep S14 (by decide) ov13 (by decide) (pr14 _ (by decide))
  have R1036 := R1036.keep S14 (by decide) ov13 (by decide) (pr14 _ (by decide))
  have R1037 := R1037.keep S14 (by decide) ov13 (by decide) (pr14 _ (by decide))
  have R1038 := R1038.keep S14 (by decide) ov13 (by decide) (pr14 _ (by decide))
  have R1039 := R1039.keep S14 (by decide) ov13 (by decide) (pr14 _ (by decide))
  have R1040 := R1040.keep S14 (by decide) ov13 (by decide) (pr14 _ (by decide))
  have R1041 := R1041.keep S14 (by decide) ov13 (by decide) (pr14 _ (by decide))
  have R1042 := R1042.keep S14 (by decide) ov13 (by decide) (pr14 _ (by decide))
  have ov14 := ov14.trans ov13
  have zv14 : ∀ g, zFi _ g v = 0 := fun g => (zi14 g).trans (zv13 g)
  have SS14 := SS13.tr S14
  have kz : zK _ v ≠ 0 := fun z => kz (S14.2.2.2.symm.trans z)
  have kw : zK _ v = 17 := S14.2.2.2.trans kw
  generalize uFr (nA τ13 b14 20 40) 1043 v (some b14) = τ14 at S14 SS14 E14 zv14 kz kw R1026 R1031 R1032 R1033 R1034 R1035 R1036 R1037 R1038 R1039 R1040 R1041 R1042 R1043 ⊢
  refine ⟨by rw [← E14]; exact kw, by decide, by decide, fun b15 hb15 => ?_⟩
  rw [← E14] at hb15
  obtain ⟨o15, S15, ov15, R1044, pr15, zi15, E15⟩ := rowT S14.2.2.1 kz 0 0 hb15 (by decide) (g := 1044) (κ := 20) (len := 40) rfl
  have R1026 := R1026.keep S15 (by decide) ov14 (by decide) (pr15 _ (by decide))
  have R1031 := R1031.keep S15 (by decide) ov14 (by decide) (pr15 _ (by decide))
  have R1032 := R1032.keep S15 (by decide) ov14 (by decide) (pr15 _ (by decide))
  have R1033 := R1033.keep S15 (by decide) ov14 (by decide) (pr15 _ (by decide))
  have R1034 := R1034.keep S15 (by decide) ov14 (by decide) (pr15 _ (by decide))
  have R1035 := R1035.keep S15 (by decide) ov14 (by decide) (pr15 _ (by decide))
  have R1036 := R1036.keep S15 (by decide) ov14 (by decide) (pr15 _ (by decide))
  have R1037 := R1037.keep S15 (by decide) ov14 (by decide) (pr15 _ (by decide))
  have R1038 := R1038.keep S15 (by decide) ov14 (by decide) (pr15 _ (by decide))
  have R1039 := R1039.keep S15 (by decide) ov14 (by decide) (pr15 _ (by decide))
  have R1040 := R1040.keep S15 (by decide) ov14 (by decide) (pr15 _ (by decide))
  have R1041 := R1041.keep S15 (by decide) ov14 (by decide) (pr15 _ (by decide))
  have R1042 := R1042.keep S15 (by decide) ov14 (by decide) (pr15 _ (by decide))
  have R1043 := R1043.keep S15 (by decide) ov14 (by decide) (pr15 _ (by decide))
  have ov15 := ov15.trans ov14
  have zv15 : ∀ g, zFi _ g v = 0 := fun g => (zi15 g).trans (zv14 g)
  have SS15 := SS14.tr S15
  have kz : zK _ v ≠ 0 := fun z => kz (S15.2.2.2.symm.trans z)
  have kw : zK _ v = 17 := S15.2.2.2.trans kw
  generalize uFr (nA τ14 b15 20 40) 1044 v (some b15) = τ15 at S15 SS15 E15 zv15 kz kw R1026 R1031 R1032 R1033 R1034 R1035 R1036 R1037 R1038 R1039 R1040 R1041 R1042 R1043 R1044 ⊢
  refine ⟨by rw [← E15]; exact kw, by decide, by decide, fun b16 hb16 => ?_⟩
  rw [← E15] at hb16
  obtain ⟨o16, S16, ov16, R1045, pr16, zi16, E16⟩ := rowT S15.2.2.1 kz 0 0 hb16 (by decide) (g := 1045) (κ := 20) (len := 40) rfl
  have R1026 := R1026.keep S16 (by decide) ov15 (by decide) (pr16 _ (by decide))
  have R1031 := R1031.keep S16 (by decide) ov15 (by decide) (pr16 _ (by decide))
  have R1032 := R1032.keep S16 (by decide) ov15 (by decide) (pr16 _ (by decide))
  have R1033 := R1033.keep S16 (by decide) ov15 (by decide) (pr16 _ (by decide))
  have R1034 := R1034.keep S16 (by decide) ov15 (by decide) (pr16 _ (by decide))
  have R1035 := R1035.keep S16 (by decide) ov15 (by decide) (pr16 _ (by decide))
  have R1036 := R1036.keep S16 (by decide) ov15 (by decide) (pr16 _ (by decide))
  have R1037 := R1037.keep S16 (by decide) ov15 (by decide) (pr16 _ (by decide))
  have R1038 := R1038.keep S16 (by decide) ov15 (by decide) (pr16 _ (by decide))
  have R1039 := R1039.keep S16 (by decide) ov15 (by decide) (pr16 _ (by decide))
  have R1040 := R1040.keep S16 (by decide) ov15 (by decide) (pr16 _ (by decide))
  have R1041 := R1041.keep S16 (by decide) ov15 (by decide) (pr16 _ (by decide))
  have R1042 := R1042.keep S16 (by decide) ov15 (by decide) (pr16 _ (by decide))
  have R1043 := R1043.keep S16 (by decide) ov15 (by decide) (pr16 _ (by decide))
  have R1044 := R1044.keep S16 (by decide) ov15 (by decide) (pr16 _ (by decide))
  have ov16 := ov16.trans ov15
  have zv16 : ∀ g, zFi _ g v = 0 := fun g => (zi16 g).trans (zv15 g)
  have SS16 := SS15.tr S16
  have kz : zK _ v ≠ 0 := fun z => kz (S16.2.2.2.symm.trans z)
  have kw : zK _ v = 17 := S16.2.2.2.trans kw
  generalize uFr (nA τ15 b16 20 40) 1045 v (some b16) = τ16 at S16 SS16 E16 zv16 kz kw R1026 R1031 R1032 R1033 R1034 R1035 R1036 R1037 R1038 R1039 R1040 R1041 R1042 R1043 R1044 R1045 ⊢
  refine ⟨by rw [← E16]; exact kw, by decide, by decide, fun b17 hb17 => ?_⟩
  rw [← E16] at hb17
  obtain ⟨o17, S17, ov17, R1046, pr17, zi17, E17⟩ := rowT S16.2.2.1 kz 0 0 hb17 (by decide) (g := 1046) (κ := 20) (len := 40) rfl
  have R1026 := R1026.keep S17 (by decide) ov16 (by decide) (pr17 _ (by decide))
  have R1031 := R1031.keep S17 (by decide) ov16 (by decide) (pr17 _ (by decide))
  have R1032 := R1032.keep S17 (by decide) ov16 (by decide) (pr17 _ (by decide))
  have R1033 := R1033.keep S17 (by decide) ov16 (by decide) (pr17 _ (by decide))
  have R1034 := R1034.keep S17 (by decide) ov16 (by decide) (pr17 _ (by decide))
  have R1035 := R1035.keep S17 (by decide) ov16 (by decide) (pr17 _ (by decide))
  have R1036 := R1036.keep S17 (by decide) ov16 (by decide) (pr17 _ (by decide))
  have R1037 := R1037.keep S17 (by decide) ov16 (by decide) (pr17 _ (by decide))
  have R1038 := R1038.keep S17 (by decide) ov16 (by decide) (pr17 _ (by decide))
  have R1039 := R1039.keep S17 (by decide) ov16 (by decide) (pr17 _ (by decide))
  have R1040 := R1040.keep S17 (by decide) ov16 (by decide) (pr17 _ (by decide))
  have R1041 := R1041.keep S17 (by decide) ov16 (by decide) (pr17 _ (by decide))
  have R1042 := R1042.keep S17 (by decide) ov16 (by decide) (pr17 _ (by decide))
  have R1043 := R1043.keep S17 (by decide) ov16 (by decide) (pr17 _ (by decide))
  have R1044 := R1044.keep S17 (by decide) ov16 (by decide) (pr17 _ (by decide))
  have R1045 := R1045.keep S17 (by decide) ov16 (by decide) (pr17 _ (by decide))
  have ov17 := ov17.trans ov16
  have zv17 : ∀ g, zFi _ g v = 0 := fun g => (zi17 g).trans (zv16 g)
  have SS17 := SS16.tr S17
  have kz : zK _ v ≠ 0 := fun z => kz (S17.2.2.2.symm.trans z)
  have kw : zK _ v = 17 := S17.2.2.2.trans kw
  generalize uFr (nA τ16 b17 20 40) 1046 v (some b17) = τ17 at S17 SS17 E17 zv17 kz kw R1026 R1031 R1032 R1033 R1034 R1035 R1036 R1037 R1038 R1039 R1040 R1041 R1042 R1043 R1044 R1045 R1046 ⊢
  refine ⟨by rw [← E17]; exact kw, by decide, by decide, fun b18 hb18 => ?_⟩
  rw [← E17] at hb18
  obtain ⟨o18, S18, ov18, R1047, pr18, zi18, E18⟩ := rowT S17.2.2.1 kz 0 0 hb18 (by decide) (g := 1047) (κ := 23) (len := 40) rfl
  have R1026 := R1026.keep S18 (by decide) ov17 (by decide) (pr18 _ (by decide))
  have R1031 := R1031.keep S18 (by decide) ov17 (by decide) (pr18 _ (by decide))
  have R1032 := R1032.keep S18 (by decide) ov17 (by decide) (pr18 _ (by decide))
  have R1033 := R1033.keep S18 (by decide) ov17 (by decide) (pr18 _ (by decide))
  have R1034 := R1034.keep S18 (by decide) ov17 (by decide) (pr18 _ (by decide))
  have R1035 := R1035.keep S18 (by decide) ov17 (by decide) (pr18 _ (by decide))
  have R1036 := R1036.keep S18 (by decide) ov17 (by decide) (pr18 _ (by decide))
  have R1037 := R1037.keep S18 (by decide) ov17 (by decide) (pr18 _ (by decide))
  have R1038 := R1038.keep S18 (by decide) ov17 (by decide) (pr18 _ (by decide))
  have R1039 := R1039.keep S18 (by decide) ov17 (by decide) (pr18 _ (by decide))
  have R1040 := R1040.keep S18 (by decide) ov17 (by decide) (pr18 _ (by decide))
  have R1041 := R1041.keep S18 (by decide) ov17 (by decide) (pr18 _ (by decide))
  have R1042 := R1042.keep S18 (by decide) ov17 (by decide) (pr18 _ (by decide))
  have R1043 := R1043.keep S18 (by decide) ov17 (by decide) (pr18 _ (by decide))
  have R1044 := R1044.keep S18 (by decide) ov17 (by decide) (pr18 _ (by decide))
  have R1045 := R1045.keep S18 (by decide) ov17 (by decide) (pr18 _ (by decide))
  have R1046 := R1046.keep S18 (by decide) ov17 (by decide) (pr18 _ (by decide))
  have ov18 := ov18.trans ov17
  have zv18 : ∀ g, zFi _ g v = 0 := fun g => (zi18 g).trans (zv17 g)
  have SS18 := SS17.tr S18
  have kz : zK _ v ≠ 0 := fun z => kz (S18.2.2.2.symm.trans z)
  have kw : zK _ v = 17 := S18.2.2.2.trans kw
  generalize uFr (nA τ17 b18 23 40) 1047 v (some b18) = τ18 at S18 SS18 E18 zv18 kz kw R1026 R1031 R1032 R1033 R1034 R1035 R1036 R1037 R1038 R1039 R1040 R1041 R1042 R1043 R1044 R1045 R1046 R1047 ⊢
  refine ⟨by rw [← E18]; exact kw, by decide, by decide, fun b19 hb19 => ?_⟩
  rw [← E18] at hb19
  have Sb19 := Sp.new S18.2.2.1 kz hb19 (by decide : (14 : Nat) ≠ 0) (14, 0, 0)
  refine ⟨by decide, by decide, I_13 Sb19.2.2.1 (if_pos rfl) (by rw [yK_nO, if_pos rfl]) (fun g => by rw [yFi_nO, if_pos rfl]) (fun p19 ρ19 T19 O14 => ?_)⟩
  obtain ⟨S19, ov19, P1048, pr19, zi19, E19, sf19⟩ := subT S18.2.2.1 kz hb19 (by decide) T19 (g := 1048) rfl
  have O14 := O14.keep sf19 (ov19.trans ov18) (by decide) (by decide)
  have R1026 := R1026.keep S19 (by decide) ov18 (by decide) (pr19 _ (by decide))
  have R1031 := R1031.keep S19 (by decide) ov18 (by decide) (pr19 _ (by decide))
  have R1032 := R1032.keep S19 (by decide) ov18 (by decide) (pr19 _ (by decide))
  have R1033 := R1033.keep S19 (by decide) ov18 (by decide) (pr19 _ (by decide))
  have R1034 := R1034.keep S19 (by decide) ov18 (by decide) (pr19 _ (by decide))
  have R1035 := R1035.keep S19 (by decide) ov18 (by decide) (pr19 _ (by decide))
  have R1036 := R1036.keep S19 (by decide) ov18 (by decide) (pr19 _ (by decide))
  have R1037 := R1037.keep S19 (by decide) ov18 (by decide) (pr19 _ (by decide))
  have R1038 := R1038.keep S19 (by decide) ov18 (by decide) (pr19 _ (by decide))
  have R1039 := R1039.keep S19 (by decide) ov18 (by decide) (pr19 _ (by decide))
  have R1040 := R1040.keep S19 (by decide) ov18 (by decide) (pr19 _ (by decide))
  have R1041 := R1041.keep S19 (by decide) ov18 (by decide) (pr19 _ (by decide))
  have R1042 := R1042.keep S19 (by decide) ov18 (by decide) (pr19 _ (by decide))
  have R1043 := R1043.keep S19 (by decide) ov18 (by decide) (pr19 _ (by decide))
  have R1044 := R1044.keep S19 (by decide) ov18 (by decide) (pr19 _ (by decide))
  have R1045 := R1045.keep S19 (by decide) ov18 (by decide) (pr19 _ (by decide))
  have R1046 := R1046.keep S19 (by decide) ov18 (by decide) (pr19 _ (by decide))
  have R1047 := R1047.keep S19 (by decide) ov18 (by decide) (pr19 _ (by decide))
  have ov19 := ov19.trans ov18
  have zv19 : ∀ g, zFi _ g v = 0 := fun g => (zi19 g).trans (zv18 g)
  have SS19 := SS18.tr S19
  have kz : zK _ v ≠ 0 := fun z => kz (S19.2.2.2.symm.trans z)
  have kw : zK _ v = 17 := S19.2.2.2.trans kw
  generalize uFr ρ19 1048 v (some b19) = τ19 at S19 SS19 E19 zv19 kz kw R1026 R1031 R1032 R1033 R1034 R1035 R1036 R1037 R1038 R1039 R1040 R1041 R1042 R1043 R1044 R1045 R1046 R1047 P1048 O14 ⊢
  refine ⟨by rw [← E19]; exact kw, by decide, by decide, fun b20 hb20 => ?_⟩
  rw [← E19] at hb20
  obtain ⟨o20, S20, ov20, R1049, pr20, zi20, E20⟩ := rowT S19.2.2.1 kz 0 0 hb20 (by decide) (g := 1049) (κ := 30) (len := 40) rfl
  have R1026 := R1026.keep S20 (by decide) ov19 (by decide) (pr20 _ (by decide))
  have R1031 := R1031.keep S20 (by decide) ov19 (by decide) (pr20 _ (by decide))
  have R1032 := R1032.keep S20 (by decide) ov19 (by decide) (pr20 _ (by decide))
  have R1033 := R1033.keep S20 (by decide) ov19 (by decide) (pr20 _ (by decide))
  have R1034 := R1034.keep S20 (by decide) ov19 (by decide) (pr20 _ (by decide))
  have R1035 := R1035.keep S20 (by decide) ov19 (by decide) (pr20 _ (by decide))
  have R1036 := R1036.keep S20 (by decide) ov19 (by decide) (pr20 _ (by decide))
  have R1037 := R1037.keep S20 (by decide) ov19 (by decide) (pr20 _ (by decide))
  have R1038 := R1038.keep S20 (by decide) ov19 (by decide) (pr20 _ (by decide))
  have R1039 := R1039.keep S20 (by decide) ov19 (by decide) (pr20 _ (by decide))
  have R1040 := R1040.keep S20 (by decide) ov19 (by decide) (pr20 _ (by decide))
  have R1041 := R1041.keep S20 (by decide) ov19 (by decide) (pr20 _ (by decide))
  have R1042 := R1042.keep S20 (by decide) ov19 (by decide) (pr20 _ (by decide))
  have R1043 := R1043.keep S20 (by decide) ov19 (by decide) (pr20 _ (by decide))
  have R1044 := R1044.keep S20 (by decide) ov19 (by decide) (pr20 _ (by decide))
  have R1045 := R1045.keep S20 (by decide) ov19 (by decide) (pr20 _ (by decide))
  have R1046 := R1046.keep S20 (by decide) ov19 (by decide) (pr20 _ (by decide))
  have R1047 := R1047.keep S20 (by decide) ov19 (by decide) (pr20 _ (by decide))
  have P1048 := (pr20 _ (by decide)).trans P1048
  have O14 := O14.keep S20 ov19 (by decide) (by decide)
  have ov20 := ov20.trans ov19
  have zv20 : ∀ g, zFi _ g v = 0 := fun g => (zi20 g).trans (zv19 g)
  have SS20 := SS19.tr S20
  have kz : zK _ v ≠ 0 := fun z => kz (S20.2.2.2.symm.trans z)
  have kw : zK _ v = 17 := S20.2.2.2.trans kw
  generalize uFr (nA τ19 b20 30 40) 1049 v (some b20) = τ20 at S20 SS20 E20 zv20 kz kw R1026 R1031 R1032 R1033 R1034 R1035 R1036 R1037 R1038 R1039 R1040 R1041 R1042 R1043 R1044 R1045 R1046 R1047 P1048 O14 R1049 ⊢
  refine ⟨by rw [← E20]; exact kw, by decide, by decide, fun b21 hb21 => ⟨6, 832, by decide, by decide, ?_⟩⟩
  rw [← E20] at hb21
  have Sb21 := Sp.new S20.2.2.1 kz hb21 (by decide : (15 : Nat) ≠ 0) (15, 40, 0)
  refine I_14 Sb21.2.2.1 (if_pos rfl) (by rw [yK_nO, if_pos rfl]) (fun g => by rw [yFi_nO, if_pos rfl]) (fun p21 ρ21 T21 O40 => ?_)
  obtain ⟨S21, ov21, P1050, pr21, zi21, E21, sf21⟩ := subT S20.2.2.1 kz hb21 (by decide) T21 (g := 1050) rfl
  have O40 := O40.keep sf21 (ov21.trans ov20) (by decide) (by decide)
  have R1026 := R1026.keep S21 (by decide) ov20 (by decide) (pr21 _ (by decide))
  have R1031 := R1031.keep S21 (by decide) ov20 (by decide) (pr21 _ (by decide))
  have R1032 := R1032.keep S21 (by decide) ov20 (by decide) (pr21 _ (by decide))
  have R1033 := R1033.keep S21 (by decide) ov20 (by decide) (pr21 _ (by decide))
  have R1034 := R1034.keep S21 (by decide) ov20 (by decide) (pr21 _ (by decide))
  have R1035 := R1035.keep S21 (by decide) ov20 (by decide) (pr21 _ (by decide))
  have R1036 := R1036.keep S21 (by decide) ov20 (by decide) (pr21 _ (by decide))
  have R1037 := R1037.keep S21 (by decide) ov20 (by decide) (pr21 _ (by decide))
  have R1038 := R1038.keep S21 (by decide) ov20 (by decide) (pr21 _ (by decide))
  have R1039 := R1039.keep S21 (by decide) ov20 (by decide) (pr21 _ (by decide))
  have R1040 := R1040.keep S21 (by decide) ov20 (by decide) (pr21 _ (by decide))
  have R1041 := R1041.keep S21 (by decide) ov20 (by decide) (pr21 _ (by decide))
  have R1042 := R1042.keep S21 (by decide) ov20 (by decide) (pr21 _ (by decide))
  have R1043 := R1043.keep S21 (by decide) ov20 (by decide) (pr21 _ (by decide))
  have R1044 := R1044.keep S21 (by decide) ov20 (by decide) (pr21 _ (by decide))
  have R1045 := R1045.keep S21 (by decide) ov20 (by decide) (pr21 _ (by decide))
  have R1046 := R1046.keep S21 (by decide) ov20 (by decide) (pr21 _ (by decide))
  have R1047 := R1047.keep S21 (by decide) ov20 (by decide) (pr21 _ (by decide))
  have P1048 := (pr21 _ (by decide)).trans P1048
  have O14 := O14.keep S21 ov20 (by decide) (by decide)
  have R1049 := R1049.keep S21 (by decide) ov20 (by decide) (pr21 _ (by decide))
  have ov21 := ov21.trans ov20
  have zv21 : ∀ g, zFi _ g v = 0 := fun g => (zi21 g).trans (zv20 g)
  have SS21 := SS20.tr S21
  have kz : zK _ v ≠ 0 := fun z => kz (S21.2.2.2.symm.trans z)
  have kw : zK _ v = 17 := S21.2.2.2.trans kw
  generalize uFr ρ21 1050 v (some b21) = τ21 at S21 SS21 E21 zv21 kz kw R1026 R1031 R1032 R1033 R1034 R1035 R1036 R1037 R1038 R1039 R1040 R1041 R1042 R1043 R1044 R1045 R1046 R1047 P1048 O14 R1049 P1050 O40 ⊢
  refine ⟨by rw [← E21]; exact kw, by decide, by decide, fun b22 hb22 => ⟨6, 832, by decide, by decide, ?_⟩⟩
  rw [← E21] at hb22
  have Sb22 := Sp.new S21.2.2.1 kz hb22 (by decide : (15 : Nat) ≠ 0) (15, 41, 0)
  refine I_14 Sb22.2.2.1 (if_pos rfl) (by rw [yK_nO, if_pos rfl]) (fun g => by rw [yFi_nO, if_pos rfl]) (fun p22 ρ22 T22 O41 => ?_)
  obtain ⟨S22, ov22, P1051, pr22, zi22, E22, sf22⟩ := subT S21.2.2.1 kz hb22 (by decide) T22 (g := 1051) rfl
  have O41 := O41.keep sf22 (ov22.trans ov21) (by decide) (by decide)
  have R1026 := R1026.keep S22 (by decide) ov21 (by decide) (pr22 _ (by decide))
  have R1031 := R1031.keep S22 (by decide) ov21 (by decide) (pr22 _ (by decide))
  have R1032 := R1032.keep S22 (by decide) ov21 (by decide) (pr22 _ (by decide))
  have R1033 := R1033.keep S22 (by decide) ov21 (by decide) (pr22 _ (by decide))
  have R1034 := R1034.keep S22 (by decide) ov21 (by decide) (pr22 _ (by decide))
  have R1035 := R1035.keep S22 (by decide) ov21 (by decide) (pr22 _ (by decide))
  have R1036 := R1036.keep S22 (by decide) ov21 (by decide) (pr22 _ (by decide))
  have R1037 := R1037.keep S22 (by decide) ov21 (by decide) (pr22 _ (by decide))
  have R1038 := R1038.keep S22 (by decide) ov21 (by decide) (pr22 _ (by decide))
  have R1039 := R1039.keep S22 (by decide) ov21 (by decide) (pr22 _ (by decide))
  have R1040 := R1040.keep S22 (by decide) ov21 (by decide) (pr22 _ (by decide))
  have R1041 := R1041.keep S22 (by decide) ov21 (by decide) (pr22 _ (by decide))
  have R1042 := R1042.keep S22 (by decide) ov21 (by decide) (pr22 _ (by decide))
  have R1043 := R1043.keep S22 (by decide) ov21 (by decide) (pr22 _ (by decide))
  have R1044 := R1044.keep S22 (by decide) ov21 (by decide) (pr22 _ (by decide))
  have R1045 := R1045.keep S22 (by decide) ov21 (by decide) (pr22 _ (by decide))
  have R1046 := R1046.keep S22 (by decide) ov21 (by decide) (pr22 _ (by decide))
  have R1047 := R1047.keep S22 (by decide) ov21 (by decide) (pr22 _ (by decide))
  have P1048 := (pr22 _ (by decide)).trans P1048
  have O14 := O14.keep S22 ov21 (by decide) (by decide)
  have R1049 := R1049.keep S22 (by decide) ov21 (by decide) (pr22 _ (by decide))
  have P1050 := (pr22 _ (by decide)).trans P1050
  have O40 := O40.keep S22 ov21 (by decide) (by decide)
  have ov22 := ov22.trans ov21
  have zv22 : ∀ g, zFi _ g v = 0 := fun g => (zi22 g).trans (zv21 g)
  have SS22 := SS21.tr S22
  have kz : zK _ v ≠ 0 := fun z => kz (S22.2.2.2.symm.trans z)
  have kw : zK _ v = 17 := S22.2.2.2.trans kw
  generalize uFr ρ22 1051 v (some b22) = τ22 at S22 SS22 E22 zv22 kz kw R1026 R1031 R1032 R1033 R1034 R1035 R1036 R1037 R1038 R1039 R1040 R1041 R1042 R1043 R1044 R1045 R1046 R1047 P1048 O14 R1049 P1050 O40 P1051 O41 ⊢
  refine ⟨by rw [← E22]; exact kw, by decide, by decide, fun b23 hb23 => ?_⟩
  rw [← E22] at hb23
  obtain ⟨o23, S23, ov23, R1052, pr23, zi23, E23⟩ := rowT S22.2.2.1 kz 0 0 hb23 (by decide) (g := 1052) (κ := 31) (len := 20) rfl
  have R1026 := R1026.keep S23 (by decide) ov22 (by decide) (pr23 _ (by decide))
  have R1031 := R1031.keep S23 (by decide) ov22 (by decide) (pr23 _ (by decide))
  have R1032 := R1032.keep S23 (by decide) ov22 (by decide) (pr23 _ (by decide))
  have R1033 := R1033.keep S23 (by decide) ov22 (by decide) (pr23 _ (by decide))
  have R1034 := R1034.keep S23 (by decide) ov22 (by decide) (pr23 _ (by decide))
  have R1035 := R1035.keep S23 (by decide) ov22 (by decide) (pr23 _ (by decide))
  have R1036 := R1036.keep S23 (by decide) ov22 (by decide) (pr23 _ (by decide))
  have R1037 := R1037.keep S23 (by decide) ov22 (by decide) (pr23 _ (by decide))
  have R1038 := R1038.keep S23 (by decide) ov22 (by decide) (pr23 _ (by decide))
  have R1039 := R1039.keep S23 (by decide) ov22 (by decide) (pr23 _ (by decide))
  have R1040 := R1040.keep S23 (by decide) ov22 (by decide) (pr23 _ (by decide))
  have R1041 := R1041.keep S23 (by decide) ov22 (by decide) (pr23 _ (by decide))
  have R1042 := R1042.keep S23 (by decide) ov22 (by decide) (pr23 _ (by decide))
  have R1043 := R1043.keep S23 (by decide) ov22 (by decide) (pr23 _ (by decide))
  have R1044 := R1044.keep S23 (by decide) ov22 (by decide) (pr23 _ (by decide))
  have R1045 := R1045.keep S23 (by decide) ov22 (by decide) (pr23 _ (by decide))
  have R1046 := R1046.keep S23 (by decide) ov22 (by decide) (pr23 _ (by decide))
  have R1047 := R1047.keep S23 (by decide) ov22 (by decide) (pr23 _ (by decide))
  have P1048 := (pr23 _ (by decide)).trans P1048
  have O14 := O14.keep S23 ov22 (by decide) (by decide)
  have R1049 := R1049.keep S23 (by decide) ov22 (by decide) (pr23 _ (by decide))
  have P1050 := (pr23 _ (by decide)).trans P1050
  have O40 := O40.keep S23 ov22 (by decide) (by decide)
  have P1051 := (pr23 _ (by decide)).trans P1051
  have O41 := O41.keep S23 ov22 (by decide) (by decide)
  have ov23 := ov23.trans ov22
  have zv23 : ∀ g, zFi _ g v = 0 := fun g => (zi23 g).trans (zv22 g)
  have SS23 := SS22.tr S23
  have kz : zK _ v ≠ 0 := fun z => kz (S23.2.2.2.symm.trans z)
  have kw : zK _ v = 17 := S23.2.2.2.trans kw
  generalize uFr (nA τ22 b23 31 20) 1052 v (some b23) = τ23 at S23 SS23 E23 zv23 kz kw R1026 R1031 R1032 R1033 R1034 R1035 R1036 R1037 R1038 R1039 R1040 R1041 R1042 R1043 R1044 R1045 R1046 R1047 P1048 O14 R1049 P1050 O40 P1051 O41 R1052 ⊢
  refine ⟨by rw [← E23]; exact kw, by decide, by decide, fun b24 hb24 => ?_⟩
  rw [← E23] at hb24
  obtain ⟨o24, S24, ov24, R1053, pr24, zi24, E24⟩ := rowT S23.2.2.1 kz 0 0 hb24 (by decide) (g := 1053) (κ := 21) (len := 8208) rfl
  have R1026 := R1026.keep S24 (by decide) ov23 (by decide) (pr24 _ (by decide))
  have R1031 := R1031.keep S24 (by decide) ov23 (by decide) (pr24 _ (by decide))
  have R1032 := R1032.keep S24 (by decide) ov23 (by decide) (pr24 _ (by decide))
  have R1033 := R1033.keep S24 (by decide) ov23 (by decide) (pr24 _ (by decide))
  have R1034 := R1034.keep S24 (by decide) ov23 (by decide) (pr24 _ (by decide))
  have R1035 := R1035.keep S24 (by decide) ov23 (by decide) (pr24 _ (by decide))
  have R1036 := R1036.keep S24 (by decide) ov23 (by decide) (pr24 _ (by decide))
  have R1037 := R1037.keep S24 (by decide) ov23 (by decide) (pr24 _ (by decide))
  have R1038 := R1038.keep S24 (by decide) ov23 (by decide) (pr24 _ (by decide))
  have R1039 := R1039.keep S24 (by decide) ov23 (by decide) (pr24 _ (by decide))
  have R1040 := R1040.keep S24 (by decide) ov23 (by decide) (pr24 _ (by decide))
  have R1041 := R1041.keep S24 (by decide) ov23 (by decide) (pr24 _ (by decide))
  have R1042 := R1042.keep S24 (by decide) ov23 (by decide) (pr24 _ (by decide))
  have R1043 := R1043.keep S24 (by decide) ov23 (by decide) (pr24 _ (by decide))
  have R1044 := R1044.keep S24 (by decide) ov23 (by decide) (pr24 _ (by decide))
  have R1045 := R1045.keep S24 (by decide) ov23 (by decide) (pr24 _ (by decide))
  have R1046 := R1046.keep S24 (by decide) ov23 (by decide) (pr24 _ (by decide))
  have R1047 := R1047.keep S24 (by decide) ov23 (by decide) (pr24 _ (by decide))
  have P1048 := (pr24 _ (by decide)).trans P1048
  have O14 := O14.keep S24 ov23 (by decide) (by decide)
  have R1049 := R1049.keep S24 (by decide) ov23 (by decide) (pr24 _ (by decide))
  have P1050 := (pr24 _ (by decide)).trans P1050
  have O40 := O40.keep S24 ov23 (by decide) (by decide)
  have P1051 := (pr24 _ (by decide)).trans P1051
  have O41 := O41.keep S24 ov23 (by decide) (by decide)
  have R1052 := R1052.keep S24 (by decide) ov23 (by decide) (pr24 _ (by decide))
  have ov24 := ov24.trans ov23
  have zv24 : ∀ g, zFi _ g v = 0 := fun g => (zi24 g).trans (zv23 g)
  have SS24 := SS23.tr S24
  have kz : zK _ v ≠ 0 := fun z => kz (S24.2.2.2.symm.trans z)
  have kw : zK _ v = 17 := S24.2.2.2.trans kw
  generalize uFr (nA τ23 b24 21 8208) 1053 v (some b24) = τ24 at S24 SS24 E24 zv24 kz kw R1026 R1031 R1032 R1033 R1034 R1035 R1036 R1037 R1038 R1039 R1040 R1041 R1042 R1043 R1044 R1045 R1046 R1047 P1048 O14 R1049 P1050 O40 P1051 O41 R1052 R1053 ⊢
  refine ⟨by rw [← E24]; exact kw, by decide, by decide, fun b25 hb25 => ?_⟩
  rw [← E24] at hb25
  obtain ⟨o25, S25, ov25, R1055, pr25, zi25, E25⟩ := rowT S24.2.2.1 kz 0 0 hb25 (by decide) (g := 1055) (κ := 20) (len := 6) rfl
  have R1026 := R1026.keep S25 (by decide) ov24 (by decide) (pr25 _ (by decide))
  have R1031 := R1031.keep S25 (by decide) ov24 (by decide) (pr25 _ (by decide))
  have R1032 := R1032.keep S25 (by decide) ov24 (by decide) (pr25 _ (by decide))
  have R1033 := R1033.keep S25 (by decide) ov24 (by decide) (pr25 _ (by decide))
  have R1034 := R1034.keep S25 (by decide) ov24 (by decide) (pr25 _ (by decide))
  have R1035 := R1035.keep S25 (by decide) ov24 (by decide) (pr25 _ (by decide))
  have R1036 := R1036.keep S25 (by decide) ov24 (by decide) (pr25 _ (by decide))
  have R1037 := R1037.keep S25 (by decide) ov24 (by decide) (pr25 _ (by decide))
  have R1038 := R1038.keep S25 (by decide) ov24 (by decide) (pr25 _ (by decide))
  have R1039 := R1039.keep S25 (by decide) ov24 (by decide) (pr25 _ (by decide))
  have R1040 := R1040.keep S25 (by decide) ov24 (by decide) (pr25 _ (by decide))
  have R1041 := R1041.keep S25 (by decide) ov24 (by decide) (pr25 _ (by decide))
  have R1042 := R1042.keep S25 (by decide) ov24 (by decide) (pr25 _ (by decide))
  have R1043 := R1043.keep S25 (by decide) ov24 (by decide) (pr25 _ (by decide))
  have R1044 := R1044.keep S25 (by decide) ov24 (by decide) (pr25 _ (by decide))
  have R1045 := R1045.keep S25 (by decide) ov24 (by decide) (pr25 _ (by decide))
  have R1046 := R1046.keep S25 (by decide) ov24 (by decide) (pr25 _ (by decide))
  have R1047 := R1047.keep S25 (by decide) ov24 (by decide) (pr25 _ (by decide))
  have P1048 := (pr25 _ (by decide)).trans P1048
  have O14 := O14.keep S25 ov24 (by decide) (by decide)
  have R1049 := R1049.keep S25 (by decide) ov24 (by decide) (pr25 _ (by decide))
  have P1050 := (pr25 _ (by decide)).trans P1050
  have O40 := O40.keep S25 ov24 (by decide) (by decide)
  have P1051 := (pr25 _ (by decide)).trans P1051
  have O41 := O41.keep S25 ov24 (by decide) (by decide)
  have R1052 := R1052.keep S25 (by decide) ov24 (by decide) (pr25 _ (by decide))
  have R1053 := R1053.keep S25 (by decide) ov24 (by decide) (pr25 _ (by decide))
  have ov25 := ov25.trans ov24
  have zv25 : ∀ g, zFi _ g v = 0 := fun g => (zi25 g).trans (zv24 g)
  have SS25 := SS24.tr S25
  have kz : zK _ v ≠ 0 := fun z => kz (S25.2.2.2.symm.trans z)
  have kw : zK _ v = 17 := S25.2.2.2.trans kw
  generalize uFr (nA τ24 b25 20 6) 1055 v (some b25) = τ25 at S25 SS25 E25 zv25 kz kw R1026 R1031 R1032 R1033 R1034 R1035 R1036 R1037 R1038 R1039 R1040 R1041 R1042 R1043 R1044 R1045 R1046 R1047 P1048 O14 R1049 P1050 O40 P1051 O41 R1052 R1053 R1055 ⊢
  refine ⟨by rw [← E25]; exact kw, by decide, by decide, fun b26 hb26 => ?_⟩
  rw [← E25] at hb26
  obtain ⟨o26, S26, ov26, R1056, pr26, zi26, E26⟩ := rowT S25.2.2.1 kz 0 0 hb26 (by decide) (g := 1056) (κ := 20) (len := 32) rfl
  have R1026 := R1026.keep S26 (by decide) ov25 (by decide) (pr26 _ (by decide))
  have R1031 := R1031.keep S26 (by decide) ov25 (by decide) (pr26 _ (by decide))
  have R1032 := R1032.keep S26 (by decide) ov25 (by decide) (pr26 _ (by decide))
  have R1033 := R1033.keep S26 (by decide) ov25 (by decide) (pr26 _ (by decide))
  have R1034 := R1034.keep S26 (by decide) ov25 (by decide) (pr26 _ (by decide))
  have R1035 := R1035.keep S26 (by decide) ov25 (by decide) (pr26 _ (by decide))
  have R1036 := R1036.keep S26 (by decide) ov25 (by decide) (pr26 _ (by decide))
  have R1037 := R1037.keep S26 (by decide) ov25 (by decide) (pr26 _ (by decide))
  have R1038 := R1038.keep S26 (by decide) ov25 (by decide) (pr26 _ (by decide))
  have R1039 := R1039.keep S26 (by decide) ov25 (by decide) (pr26 _ (by decide))
  have R1040 := R1040.keep S26 (by decide) ov25 (by decide) (pr26 _ (by decide))
  have R1041 := R1041.keep S26 (by decide) ov25 (by decide) (pr26 _ (by decide))
  have R1042 := R1042.keep S26 (by decide) ov25 (by decide) (pr26 _ (by decide))
  have R1043 := R1043.keep S26 (by decide) ov25 (by decide) (pr26 _ (by decide))
  have R1044 := R1044.keep S26 (by decide) ov25 (by decide) (pr26 _ (by decide))
  have R1045 := R1045.keep S26 (by decide) ov25 (by decide) (pr26 _ (by decide))
  have R1046 := R1046.keep S26 (by decide) ov25 (by decide) (pr26 _ (by decide))
  have R1047 := R1047.keep S26 (by decide) ov25 (by decide) (pr26 _ (by decide))
  have P1048 := (pr26 _ (by decide)).trans P1048
  have O14 := O14.keep S26 ov25 (by decide) (by decide)
  have R1049 := R1049.keep S26 (by decide) ov25 (by decide) (pr26 _ (by decide))
  have P1050 := (pr26 _ (by decide)).trans P1050
  have O40 := O40.keep S26 ov25 (by decide) (by decide)
  have P1051 := (pr26 _ (by decide)).trans P1051
  have O41 := O41.keep S26 ov25 (by decide) (by decide)
  have R1052 := R1052.keep S26 (by decide) ov25 (by decide) (pr26 _ (by decide))
  have R1053 := R1053.keep S26 (by decide) ov25 (by decide) (pr26 _ (by decide))
  have R1055 := R1055.keep S26 (by decide) ov25 (by decide) (pr26 _ (by decide))
  have ov26 := ov26.trans ov25
  have zv26 : ∀ g, zFi _ g v = 0 := fun g => (zi26 g).trans (zv25 g)
  have SS26 := SS25.tr S26
  have kz : zK _ v ≠ 0 := fun z => kz (S26.2.2.2.symm.trans z)
  have kw : zK _ v = 17 := S26.2.2.2.trans kw
  generalize uFr (nA τ25 b26 20 32) 1056 v (some b26) = τ26 at S26 SS26 E26 zv26 kz kw R1026 R1031 R1032 R1033 R1034 R1035 R1036 R1037 R1038 R1039 R1040 R1041 R1042 R1043 R1044 R1045 R1046 R1047 P1048 O14 R1049 P1050 O40 P1051 O41 R1052 R1053 R1055 R1056 ⊢
  refine ⟨by rw [← E26]; exact kw, by decide, by decide, fun b27 hb27 => ?_⟩
  rw [← E26] at hb27
  obtain ⟨o27, S27, ov27, R1058, pr27, zi27, E27⟩ := rowT S26.2.2.1 kz 0 0 hb27 (by decide) (g := 1058) (κ := 23) (len := 40) rfl
  have R1026 := R1026.keep S27 (by decide) ov26 (by decide) (pr27 _ (by decide))
  have R1031 := R1031.keep S27 (by decide) ov26 (by decide) (pr27 _ (by decide))
  have R1032 := R1032.keep S27 (by decide) ov26 (by decide) (pr27 _ (by decide))
  have R1033 := R1033.keep S27 (by decide) ov26 (by decide) (pr27 _ (by decide))
  have R1034 := R1034.keep S27 (by decide) ov26 (by decide) (pr27 _ (by decide))
  have R1035 := R1035.keep S27 (by decide) ov26 (by decide) (pr27 _ (by decide))
  have R1036 := R1036.keep S27 (by decide) ov26 (by decide) (pr27 _ (by decide))
  have R1037 := R1037.keep S27 (by decide) ov26 (by decide) (pr27 _ (by decide))
  have R1038 := R1038.keep S27 (by decide) ov26 (by decide) (pr27 _ (by decide))
  have R1039 := R1039.keep S27 (by decide) ov26 (by decide) (pr27 _ (by decide))
  have R1040 := R1040.keep S27 (by decide) ov26 (by decide) (pr27 _ (by decide))
  have R1041 := R1041.keep S27 (by decide) ov26 (by decide) (pr27 _ (by decide))
  have R1042 := R1042.keep S27 (by decide) ov26 (by decide) (pr27 _ (by decide))
  have R1043 := R1043.keep S27 (by decide) ov26 (by decide) (pr27 _ (by decide))
  have R1044 := R1044.keep S27 (by decide) ov26 (by decide) (pr27 _ (by decide))
  have R1045 := R1045.keep S27 (by decide) ov26 (by decide) (pr27 _ (by decide))
  have R1046 := R1046.keep S27 (by decide) ov26 (by decide) (pr27 _ (by decide))
  have R1047 := R1047.keep S27 (by decide) ov26 (by decide) (pr27 _ (by decide))
  have P1048 := (pr27 _ (by decide)).trans P1048
  have O14 := O14.keep S27 ov26 (by decide) (by decide)
  have R1049 := R1049.keep S27 (by decide) ov26 (by decide) (pr27 _ (by decide))
  have P1050 := (pr27 _ (by decide)).trans P1050
  have O40 := O40.keep S27 ov26 (by decide) (by decide)
  have P1051 := (pr27 _ (by decide)).trans P1051
  have O41 := O41.keep S27 ov26 (by decide) (by decide)
  have R1052 := R1052.keep S27 (by decide) ov26 (by decide) (pr27 _ (by decide))
  have R1053 := R1053.keep S27 (by decide) ov26 (by decide) (pr27 _ (by decide))
  have R1055 := R1055.keep S27 (by decide) ov26 (by decide) (pr27 _ (by decide))
  have R1056 := R1056.keep S27 (by decide) ov26 (by decide) (pr27 _ (by decide))
  have ov27 := ov27.trans ov26
  have zv27 : ∀ g, zFi _ g v = 0 := fun g => (zi27 g).trans (zv26 g)
  have SS27 := SS26.tr S27
  have kz : zK _ v ≠ 0 := fun z => kz (S27.2.2.2.symm.trans z)
  have kw : zK _ v = 17 := S27.2.2.2.trans kw
  generalize uFr (nA τ26 b27 23 40) 1058 v (some b27) = τ27 at S27 SS27 E27 zv27 kz kw R1026 R1031 R1032 R1033 R1034 R1035 R1036 R1037 R1038 R1039 R1040 R1041 R1042 R1043 R1044 R1045 R1046 R1047 P1048 O14 R1049 P1050 O40 P1051 O41 R1052 R1053 R1055 R1056 R1058 ⊢
  refine ⟨by rw [← E27]; exact kw, by decide, by decide, fun b28 hb28 => ?_⟩
  rw [← E27] at hb28
  obtain ⟨o28, S28, ov28, R1059, pr28, zi28, E28⟩ := rowT S27.2.2.1 kz 0 0 hb28 (by decide) (g := 1059) (κ := 23) (len := 32) rfl
  have R1026 := R1026.keep S28 (by decide) ov27 (by decide) (pr28 _ (by decide))
  have R1031 := R1031.keep S28 (by decide) ov27 (by decide) (pr28 _ (by decide))
  have R1032 := R1032.keep S28 (by decide) ov27 (by decide) (pr28 _ (by decide))
  have R1033 := R1033.keep S28 (by decide) ov27 (by decide) (pr28 _ (by decide))
  have R1034 := R1034.keep S28 (by decide) ov27 (by decide) (pr28 _ (by decide))
  have R1035 := R1035.keep S28 (by decide) ov27 (by decide) (pr28 _ (by decide))
  have R1036 := R1036.keep S28 (by decide) ov27 (by decide) (pr28 _ (by decide))
  have R1037 := R1037.keep S28 (by decide) ov27 (by decide) (pr28 _ (by decide))
  have R1038 := R1038.keep S28 (by decide) ov27 (by decide) (pr28 _ (by decide))
  have R1039 := R1039.keep S28 (by decide) ov27 (by decide) (pr28 _ (by decide))
  have R1040 := R1040.keep S28 (by decide) ov27 (by decide) (pr28 _ (by decide))
  have R1041 := R1041.keep S28 (by decide) ov27 (by decide) (pr28 _ (by decide))
  have R1042 := R1042.keep S28 (by decide) ov27 (by decide) (pr28 _ (by decide))
  have R1043 := R1043.keep S28 (by decide) ov27 (by decide) (pr28 _ (by decide))
  have R1044 := R1044.keep S28 (by decide) ov27 (by decide) (pr28 _ (by decide))
  have R1045 := R1045.keep S28 (by decide) ov27 (by decide) (pr28 _ (by decide))
  have R1046 := R1046.keep S28 (by decide) ov27 (by decide) (pr28 _ (by decide))
  have R1047 := R1047.keep S28 (by decide) ov27 (by decide) (pr28 _ (by decide))
  have P1048 := (pr28 _ (by decide)).trans P1048
  have O14 := O14.keep S28 ov27 (by decide) (by decide)
  have R1049 := R1049.keep S28 (by decide) ov27 (by decide) (pr28 _ (by decide))
  have P1050 := (pr28 _ (by decide)).trans P1050
  have O40 := O40.keep S28 ov27 (by decide) (by decide)
  have P1051 := (pr28 _ (by decide)).trans P1051
  have O41 := O41.keep S28 ov27 (by decide) (by decide)
  have R1052 := R1052.keep S28 (by decide) ov27 (by decide) (pr28 _ (by decide))
  have R1053 := R1053.keep S28 (by decide) ov27 (by decide) (pr28 _ (by decide))
  have R1055 := R1055.keep S28 (by decide) ov27 (by decide) (pr28 _ (by decide))
  have R1056 := R1056.keep S28 (by decide) ov27 (by decide) (pr28 _ (by decide))
  have R1058 := R1058.keep S28 (by decide) ov27 (by decide) (pr28 _ (by decide))
  have ov28 := ov28.trans ov27
  have zv28 : ∀ g, zFi _ g v = 0 := fun g => (zi28 g).trans (zv27 g)
  have SS28 := SS27.tr S28
  have kz : zK _ v ≠ 0 := fun z => kz (S28.2.2.2.symm.trans z)
  have kw : zK _ v = 17 := S28.2.2.2.trans kw
  generalize uFr (nA τ27 b28 23 32) 1059 v (some b28) = τ28 at S28 SS28 E28 zv28 kz kw R1026 R1031 R1032 R1033 R1034 R1035 R1036 R1037 R1038 R1039 R1040 R1041 R1042 R1043 R1044 R1045 R1046 R1047 P1048 O14 R1049 P1050 O40 P1051 O41 R1052 R1053 R1055 R1056 R1058 R1059 ⊢
  refine ⟨by rw [← E28]; exact kw, by decide, by decide, fun b29 hb29 => ?_⟩
  rw [← E28] at hb29
  obtain ⟨o29, S29, ov29, R1060, pr29, zi29, E29⟩ := rowT S28.2.2.1 kz 0 0 hb29 (by decide) (g := 1060) (κ := 20) (len := 16) rfl
  have R1026 := R1026.keep S29 (by decide) ov28 (by decide) (pr29 _ (by decide))
  have R1031 := R1031.keep S29 (by decide) ov28 (by decide) (pr29 _ (by decide))
  have R1032 := R1032.keep S29 (by decide) ov28 (by decide) (pr29 _ (by decide))
  have R1033 := R1033.keep S29 (by decide) ov28 (by decide) (pr29 _ (by decide))
  have R1034 := R1034.keep S29 (by decide) ov28 (by decide) (pr29 _ (by decide))
  have R1035 := R1035.keep S29 (by decide) ov28 (by decide) (pr29 _ (by decide))
  have R1036 := R1036.keep S29 (by decide) ov28 (by decide) (pr29 _ (by decide))
  have R1037 := R1037.keep S29 (by decide) ov28 (by decide) (pr29 _ (by decide))
  have R1038 := R1038.keep S29 (by decide) ov28 (by decide) (pr29 _ (by decide))
  have R1039 := R1039.keep S29 (by decide) ov28 (by decide) (pr29 _ (by decide))
  have R1040 := R1040.keep S29 (by decide) ov28 (by decide) (pr29 _ (by decide))
  have R1041 := R1041.keep S29 (by decide) ov28 (by decide) (pr29 _ (by decide))
  have R1042 := R1042.keep S29 (by decide) ov28 (by decide) (pr29 _ (by decide))
  have R1043 := R1043.keep S29 (by decide) ov28 (by decide) (pr29 _ (by decide))
  have R1044 := R1044.keep S29 (by decide) ov28 (by decide) (pr29 _ (by decide))
  have R1045 := R1045.keep S29 (by decide) ov28 (by decide) (pr29 _ (by decide))
  have R1046 := R1046.keep S29 (by decide) ov28 (by decide) (pr29 _ (by decide))
  have R1047 := R1047.keep S29 (by decide) ov28 (by decide) (pr29 _ (by decide))
  have P1048 := (pr29 _ (by decide)).trans P1048
  have O14 := O14.keep S29 ov28 (by decide) (by decide)
  have R1049 := R1049.keep S29 (by decide) ov28 (by decide) (pr29 _ (by decide))
  have P1050 := (pr29 _ (by decide)).trans P1050
  have O40 := O40.keep S29 ov28 (by decide) (by decide)
  have P1051 := (pr29 _ (by decide)).trans P1051
  have O41 := O41.keep S29 ov28 (by decide) (by decide)
  have R1052 := R1052.keep S29 (by decide) ov28 (by decide) (pr29 _ (by decide))
  have R1053 := R1053.keep S29 (by decide) ov28 (by decide) (pr29 _ (by decide))
  have R1055 := R1055.keep S29 (by decide) ov28 (by decide) (pr29 _ (by decide))
  have R1056 := R1056.keep S29 (by decide) ov28 (by decide) (pr29 _ (by decide))
  have R1058 := R1058.keep S29 (by decide) ov28 (by decide) (pr29 _ (by decide))
  have R1059 := R1059.keep S29 (by decide) ov28 (by decide) (pr29 _ (by decide))
  have ov29 := ov29.trans ov28
  have zv29 : ∀ g, zFi _ g v = 0 := fun g => (zi29 g).trans (zv28 g)
  have SS29 := SS28.tr S29
  have kz : zK _ v ≠ 0 := fun z => kz (S29.2.2.2.symm.trans z)
  have kw : zK _ v = 17 := S29.2.2.2.trans kw
  generalize uFr (nA τ28 b29 20 16) 1060 v (some b29) = τ29 at S29 SS29 E29 zv29 kz kw R1026 R1031 R1032 R1033 R1034 R1035 R1036 R1037 R1038 R1039 R1040 R1041 R1042 R1043 R1044 R1045 R1046 R1047 P1048 O14 R1049 P1050 O40 P1051 O41 R1052 R1053 R1055 R1056 R1058 R1059 R1060 ⊢
  refine ⟨by rw [← E29]; exact kw, by decide, by decide, fun b30 hb30 => ?_⟩
  rw [← E29] at hb30
  obtain ⟨o30, S30, ov30, R1061, pr30, zi30, E30⟩ := rowT S29.2.2.1 kz 0 0 hb30 (by decide) (g := 1061) (κ := 20) (len := 16) rfl
  have R1026 := R1026.keep S30 (by decide) ov29 (by decide) (pr30 _ (by decide))
  have R1031 := R1031.keep S30 (by decide) ov29 (by decide) (pr30 _ (by decide))
  have R1032 := R1032.keep S30 (by decide) ov29 (by decide) (pr30 _ (by decide))
  have R1033 := R1033.keep S30 (by decide) ov29 (by decide) (pr30 _ (by decide))
  have R1034 := R1034.keep S30 (by decide) ov29 (by decide) (pr30 _ (by decide))
  have R1035 := R1035.keep S30 (by decide) ov29 (by decide) (pr30 _ (by decide))
  have R1036 := R1036.keep S30 (by decide) ov29 (by decide) (pr30 _ (by decide))
  have R1037 := R1037.keep S30 (by decide) ov29 (by decide) (pr30 _ (by decide))
  have R1038 := R1038.keep S30 (by decide) ov29 (by decide) (pr30 _ (by decide))
  have R1039 := R1039.keep S30 (by decide) ov29 (by decide) (pr30 _ (by decide))
  have R1040 := R1040.keep S30 (by decide) ov29 (by decide) (pr30 _ (by decide))
  have R1041 := R1041.keep S30 (by decide) ov29 (by decide) (pr30 _ (by decide))
  have R1042 := R1042.keep S30 (by decide) ov29 (by decide) (pr30 _ (by decide))
  have R1043 := R1043.keep S30 (by decide) ov29 (by decide) (pr30 _ (by decide))
  have R1044 := R1044.keep S30 (by decide) ov29 (by decide) (pr30 _ (by decide))
  have R1045 := R1045.keep S30 (by decide) ov29 (by decide) (pr30 _ (by decide))
  have R1046 := R1046.keep S30 (by decide) ov29 (by decide) (pr30 _ (by decide))
  have R1047 := R1047.keep S30 (by decide) ov29 (by decide) (pr30 _ (by decide))
  have P1048 := (pr30 _ (by decide)).trans P1048
  have O14 := O14.keep S30 ov29 (by decide) (by decide)
  have R1049 := R1049.keep S30 (by decide) ov29 (by decide) (pr30 _ (by decide))
  have P1050 := (pr30 _ (by decide)).trans P1050
  have O40 := O40.keep S30 ov29 (by decide) (by decide)
  have P1051 := (pr30 _ (by decide)).trans P1051
  have O41 := O41.keep S30 ov29 (by decide) (by decide)
  have R1052 := R1052.keep S30 (by decide) ov29 (by decide) (pr30 _ (by decide))
  have R1053 := R1053.keep S30 (by decide) ov29 (by decide) (pr30 _ (by decide))
  have R1055 := R1055.keep S30 (by decide) ov29 (by decide) (pr30 _ (by decide))
  have R1056 := R1056.keep S30 (by decide) ov29 (by decide) (pr30 _ (by decide))
  have R1058 := R1058.keep S30 (by decide) ov29 (by decide) (pr30 _ (by decide))
  have R1059 := R1059.keep S30 (by decide) ov29 (by decide) (pr30 _ (by decide))
  have R1060 := R1060.keep S30 (by decide) ov29 (by decide) (pr30 _ (by decide))
  have ov30 := ov30.trans ov29
  have zv30 : ∀ g, zFi _ g v = 0 := fun g => (zi30 g).trans (zv29 g)
  have SS30 := SS29.tr S30
  have kz : zK _ v ≠ 0 := fun z => kz (S30.2.2.2.symm.trans z)
  have kw : zK _ v = 17 := S30.2.2.2.trans kw
  generalize uFr (nA τ29 b30 20 16) 1061 v (some b30) = τ30 at S30 SS30 E30 zv30 kz kw R1026 R1031 R1032 R1033 R1034 R1035 R1036 R1037 R1038 R1039 R1040 R1041 R1042 R1043 R1044 R1045 R1046 R1047 P1048 O14 R1049 P1050 O40 P1051 O41 R1052 R1053 R1055 R1056 R1058 R1059 R1060 R1061 ⊢
  refine ⟨by rw [← E30]; exact kw, by decide, by decide, fun b31 hb31 => ?_⟩
  rw [← E30] at hb31
  obtain ⟨o31, S31, ov31, R1063, pr31, zi31, E31⟩ := rowT S30.2.2.1 kz 0 0 hb31 (by decide) (g := 1063) (κ := 20) (len := 16) rfl
  have R1026 := R1026.keep S31 (by decide) ov30 (by decide) (pr31 _ (by decide))
  have R1031 := R1031.keep S31 (by decide) ov30 (by decide) (pr31 _ (by decide))
  have R1032 := R1032.keep S31 (by decide) ov30 (by decide) (pr31 _ (by decide))
  have R1033 := R1033.keep S31 (by decide) ov30 (by decide) (pr31 _ (by decide))
  have R1034 := R1034.keep S31 (by decide) ov30 (by decide) (pr31 _ (by decide))
  have R1035 := R1035.keep S31 (by decide) ov30 (by decide) (pr31 _ (by decide))
  have R1036 := R1036.keep S31 (by decide) ov30 (by decide) (pr31 _ (by decide))
  have R1037 := R1037.keep S31 (by decide) ov30 (by decide) (pr31 _ (by decide))
  have R1038 := R1038.keep S31 (by decide) ov30 (by decide) (pr31 _ (by decide))
  have R1039 := R1039.keep S31 (by decide) ov30 (by decide) (pr31 _ (by decide))
  have R1040 := R1040.keep S31 (by decide) ov30 (by decide) (pr31 _ (by decide))
  have R1041 := R1041.keep S31 (by decide) ov30 (by decide) (pr31 _ (by decide))
  have R1042 := R1042.keep S31 (by decide) ov30 (by decide) (pr31 _ (by decide))
  have R1043 := R1043.keep S31 (by decide) ov30 (by decide) (pr31 _ (by decide))
  have R1044 := R1044.keep S31 (by decide) ov30 (by decide) (pr31 _ (by decide))
  have R1045 := R1045.keep S31 (by decide) ov30 (by decide) (pr31 _ (by decide))
  have R1046 := R1046.keep S31 (by decide) ov30 (by decide) (pr31 _ (by decide))
  have R1047 := R1047.keep S31 (by decide) ov30 (by decide) (pr31 _ (by decide))
  have P1048 := (pr31 _ (by decide)).trans P1048
  have O14 := O14.keep S31 ov30 (by decide) (by decide)
  have R1049 := R1049.keep S31 (by decide) ov30 (by decide) (pr31 _ (by decide))
  have P1050 := (pr31 _ (by decide)).trans P1050
  have O40 := O40.keep S31 ov30 (by decide) (by decide)
  have P1051 := (pr31 _ (by decide)).trans P1051
  have O41 := O41.keep S31 ov30 (by decide) (by decide)
  have R1052 := R1052.keep S31 (by decide) ov30 (by decide) (pr31 _ (by decide))
  have R1053 := R1053.keep S31 (by decide) ov30 (by decide) (pr31 _ (by decide))
  have R1055 := R1055.keep S31 (by decide) ov30 (by decide) (pr31 _ (by decide))
  have R1056 := R1056.keep S31 (by decide) ov30 (by decide) (pr31 _ (by decide))
  have R1058 := R1058.keep S31 (by decide) ov30 (by decide) (pr31 _ (by decide))
  have R1059 := R1059.keep S31 (by decide) ov30 (by decide) (pr31 _ (by decide))
  have R1060 := R1060.keep S31 (by decide) ov30 (by decide) (pr31 _ (by decide))
  have R1061 := R1061.keep S31 (by decide) ov30 (by decide) (pr31 _ (by decide))
  have ov31 := ov31.trans ov30
  have zv31 : ∀ g, zFi _ g v = 0 := fun g => (zi31 g).trans (zv30 g)
  have SS31 := SS30.tr S31
  have kz : zK _ v ≠ 0 := fun z => kz (S31.2.2.2.symm.trans z)
  have kw : zK _ v = 17 := S31.2.2.2.trans kw
  generalize uFr (nA τ30 b31 20 16) 1063 v (some b31) = τ31 at S31 SS31 E31 zv31 kz kw R1026 R1031 R1032 R1033 R1034 R1035 R1036 R1037 R1038 R1039 R1040 R1041 R1042 R1043 R1044 R1045 R1046 R1047 P1048 O14 R1049 P1050 O40 P1051 O41 R1052 R1053 R1055 R1056 R1058 R1059 R1060 R1061 R1063 ⊢
  refine ⟨by rw [← E31]; exact kw, 101, ?_⟩
  have RW : RWs o31 τ31 v := by
    intro q hq
    simp only [lM, List.mem_cons, List.not_mem_nil, or_false] at hq
    rcases hq with rfl | rfl | rfl | rfl | rfl | rfl | rfl | rfl | rfl | rfl | rfl | rfl | rfl | rfl | rfl | rfl | rfl | rfl | rfl | rfl | rfl | rfl | rfl | rfl | rfl
    · exact ⟨_, R1031⟩
    · exact ⟨_, R1032⟩
    · exact ⟨_, R1033⟩
    · exact ⟨_, R1034⟩
    · exact ⟨_, R1035⟩
    · exact ⟨_, R1036⟩
    · exact ⟨_, R1037⟩
    · exact ⟨_, R1038⟩
    · exact ⟨_, R1039⟩
    · exact ⟨_, R1040⟩
    · exact ⟨_, R1041⟩
    · exact ⟨_, R1042⟩
    · exact ⟨_, R1043⟩
    · exact ⟨_, R1044⟩
    · exact ⟨_, R1045⟩
    · exact ⟨_, R1046⟩
    · exact ⟨_, R1047⟩
    · exact ⟨_, R1053⟩
    · exact ⟨_, R1055⟩
    · exact ⟨_, R1056⟩
    · exact ⟨_, R1058⟩
    · exact ⟨_, R1059⟩
    · exact ⟨_, R1060⟩
    · exact ⟨_, R1061⟩
    · exact ⟨_, R1063⟩
  have M0 : MR0 o31 τ31 v b1 b20 b23 := ⟨ov31, kw, zv31, RW, ⟨_, P1048, O14⟩, ⟨_, P1050, O40⟩, ⟨_, P1051, O41⟩, ⟨R1026.1, R1026.2.1, R1026.2.2.1, R1026.2.2.2.1⟩, ⟨R1049.1, R1049.2.1, R1049.2.2.1, R1049.2.2.2.1⟩, ⟨R1052.1, R1052.2.1, R1052.2.2.1, R1052.2.2.2.1⟩⟩
  have n1 : zK σ b1 = 0 := hb1
  have n2 : zK σ b20 = 0 := SS19.fresh hb20
  have n3 : zK σ b23 = 0 := SS22.fresh hb23
  refine I_16a kv (w2 := b20) (w3 := b23) n1 (fun k n p τ hk hn S M ga => ⟨41, ?_⟩) 100 0 _ _ _ τ31 (by decide) (by decide) (by decide) SS31 M0 ⟨fun _ => 0, fun j hj => absurd hj (Nat.not_lt_zero j)⟩
  refine I_16s kv n2 (fun k n p τ hk hn S M ga gs => ⟨21, ?_⟩) 40 0 _ _ _ τ (by decide) (by omega) (by omega) S M ga ⟨fun _ => 0, fun j hj => absurd hj (Nat.not_lt_zero j)⟩
  refine I_16t kv n3 (fun k n p τ hk hn S M ga gs gt => ⟨by omega, by omega, hQ p τ S ⟨_, _, _, M, ga, gs, gt⟩⟩) 20 0 _ _ _ τ (by decide) (by omega) (by omega) S M ga gs ⟨fun _ => 0, fun j hj => absurd hj (Nat.not_lt_zero j)⟩
