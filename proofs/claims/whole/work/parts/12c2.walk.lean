def wJ13_bitCount_95d88_0 (Q : Int32 → St → Prop) (v0 : Int64) (σ : St) : Prop :=
  Q ((Int64.toInt32 ((((((((v0 - ((zUsh v0 1) &&& 6148914691236517205)) &&& 3689348814741910323) + ((zUsh (v0 - ((zUsh v0 1) &&& 6148914691236517205)) 2) &&& 3689348814741910323)) + (zUsh (((v0 - ((zUsh v0 1) &&& 6148914691236517205)) &&& 3689348814741910323) + ((zUsh (v0 - ((zUsh v0 1) &&& 6148914691236517205)) 2) &&& 3689348814741910323)) 4)) &&& 1085102592571150095) + (zUsh (((((v0 - ((zUsh v0 1) &&& 6148914691236517205)) &&& 3689348814741910323) + ((zUsh (v0 - ((zUsh v0 1) &&& 6148914691236517205)) 2) &&& 3689348814741910323)) + (zUsh (((v0 - ((zUsh v0 1) &&& 6148914691236517205)) &&& 3689348814741910323) + ((zUsh (v0 - ((zUsh v0 1) &&& 6148914691236517205)) 2) &&& 3689348814741910323)) 4)) &&& 1085102592571150095) 8)) + (zUsh ((((((v0 - ((zUsh v0 1) &&& 6148914691236517205)) &&& 3689348814741910323) + ((zUsh (v0 - ((zUsh v0 1) &&& 6148914691236517205)) 2) &&& 3689348814741910323)) + (zUsh (((v0 - ((zUsh v0 1) &&& 6148914691236517205)) &&& 3689348814741910323) + ((zUsh (v0 - ((zUsh v0 1) &&& 6148914691236517205)) 2) &&& 3689348814741910323)) 4)) &&& 1085102592571150095) + (zUsh (((((v0 - ((zUsh v0 1) &&& 6148914691236517205)) &&& 3689348814741910323) + ((zUsh (v0 - ((zUsh v0 1) &&& 6148914691236517205)) 2) &&& 3689348814741910323)) + (zUsh (((v0 - ((zUsh v0 1) &&& 6148914691236517205)) &&& 3689348814741910323) + ((zUsh (v0 - ((zUsh v0 1) &&& 6148914691236517205)) 2) &&& 3689348814741910323)) 4)) &&& 1085102592571150095) 8)) 16)) + (zUsh (((((((v0 - ((zUsh v0 1) &&& 6148914691236517205)) &&& 3689348814741910323) + ((zUsh (v0 - ((zUsh v0 1) &&& 6148914691236517205)) 2) &&& 3689348814741910323)) + (zUsh (((v0 - ((zUsh v0 1) &&& 6148914691236517205)) &&& 3689348814741910323) + ((zUsh (v0 - ((zUsh v0 1) &&& 6148914691236517205)) 2) &&& 3689348814741910323)) 4)) &&& 1085102592571150095) + (zUsh (((((v0 - ((zUsh v0 1) &&& 6148914691236517205)) &&& 3689348814741910323) + ((zUsh (v0 - ((zUsh v0 1) &&& 6148914691236517205)) 2) &&& 3689348814741910323)) + (zUsh (((v0 - ((zUsh v0 1) &&& 6148914691236517205)) &&& 3689348814741910323) + ((zUsh (v0 - ((zUsh v0 1) &&& 6148914691236517205)) 2) &&& 3689348814741910323)) 4)) &&& 1085102592571150095) 8)) + (zUsh ((((((v0 - ((zUsh v0 1) &&& 6148914691236517205)) &&& 3689348814741910323) + ((zUsh (v0 - ((zUsh v0 1) &&& 6148914691236517205)) 2) &&& 3689348814741910323)) + (zUsh (((v0 - ((zUsh v0 1) &&& 6148914691236517205)) &&& 3689348814741910323) + ((zUsh (v0 - ((zUsh v0 1) &&& 6148914691236517205)) 2) &&& 3689348814741910323)) 4)) &&& 1085102592571150095) + (zUsh (((((v0 - ((zUsh v0 1) &&& 6148914691236517205)) &&& 3689348814741910323) + ((zUsh (v0 - ((zUsh v0 1) &&& 6148914691236517205)) 2) &&& 3689348814741910323)) + (zUsh (((v0 - ((zUsh v0 1) &&& 6148914691236517205)) &&& 3689348814741910323) + ((zUsh (v0 - ((zUsh v0 1) &&& 6148914691236517205)) 2) &&& 3689348814741910323)) 4)) &&& 1085102592571150095) 8)) 16)) 32))) &&& 127) σ
def wJ13_bitCount_95d88 (v0 : Int64) (σ : St) (Q : Int32 → St → Prop) : Prop := wJ13_bitCount_95d88_0 Q v0 σ
set_option maxRecDepth 20000 in
theorem kwJ13_bitCount_95d88_0 {Γ : hCT} (C : hC Γ RJ13 cJ13_bitCount_95d88 ((Option.some FieldType.int)) "bitCount" 0 0) {Q : Int32 → St → Prop} (hΓ : Γ.2.2.2.2.2.2.2.2.2.2.2 = (2, 0, 0, oI Q)) (v0 : Int64) (σ : St) (hb : wJ13_bitCount_95d88_0 Q v0 σ) : hW Γ 0 0 0 [(0, .long v0)] [] σ := by
  unfold wJ13_bitCount_95d88_0 at hb
  refine g_lload_n C dJ13_bitCount_95d88_0 0 rfl ?_
  refine g_lload_n C dJ13_bitCount_95d88_1 0 rfl ?_
  refine g_iconst (v := 1) C dJ13_bitCount_95d88_2 (by decide) ?_
  refine g_lushr C dJ13_bitCount_95d88_3 ?_
  refine g_ldc2 C wd_835 dJ13_bitCount_95d88_4 ?_
  refine g_land C dJ13_bitCount_95d88_7 ?_
  refine g_lsub C dJ13_bitCount_95d88_8 ?_
  refine g_lstore_n (i := 0) (lv' := [(0, .long (v0 - ((zUsh v0 1) &&& 6148914691236517205)))]) C dJ13_bitCount_95d88_9 rfl (hnl_of hΓ (by decide)) (by first | rfl | simp [cat_rf]) ?_
  refine g_lload_n C dJ13_bitCount_95d88_10 0 rfl ?_
  refine g_ldc2 C wd_836 dJ13_bitCount_95d88_11 ?_
  refine g_land C dJ13_bitCount_95d88_14 ?_
  refine g_lload_n C dJ13_bitCount_95d88_15 0 rfl ?_
  refine g_iconst (v := 2) C dJ13_bitCount_95d88_16 (by decide) ?_
  refine g_lushr C dJ13_bitCount_95d88_17 ?_
  refine g_ldc2 C wd_836 dJ13_bitCount_95d88_18 ?_
  refine g_land C dJ13_bitCount_95d88_21 ?_
  refine g_ladd C dJ13_bitCount_95d88_22 ?_
  refine g_lstore_n (i := 0) (lv' := [(0, .long (((v0 - ((zUsh v0 1) &&& 6148914691236517205)) &&& 3689348814741910323) + ((zUsh (v0 - ((zUsh v0 1) &&& 6148914691236517205)) 2) &&& 3689348814741910323)))]) C dJ13_bitCount_95d88_23 rfl (hnl_of hΓ (by decide)) (by first | rfl | simp [cat_rf]) ?_
  refine g_lload_n C dJ13_bitCount_95d88_24 0 rfl ?_
  refine g_lload_n C dJ13_bitCount_95d88_25 0 rfl ?_
  refine g_iconst (v := 4) C dJ13_bitCount_95d88_26 (by decide) ?_
  refine g_lushr C dJ13_bitCount_95d88_27 ?_
  refine g_ladd C dJ13_bitCount_95d88_28 ?_
  refine g_ldc2 C wd_837 dJ13_bitCount_95d88_29 ?_
  refine g_land C dJ13_bitCount_95d88_32 ?_
  refine g_lstore_n (i := 0) (lv' := [(0, .long (((((v0 - ((zUsh v0 1) &&& 6148914691236517205)) &&& 3689348814741910323) + ((zUsh (v0 - ((zUsh v0 1) &&& 6148914691236517205)) 2) &&& 3689348814741910323)) + (zUsh (((v0 - ((zUsh v0 1) &&& 6148914691236517205)) &&& 3689348814741910323) + ((zUsh (v0 - ((zUsh v0 1) &&& 6148914691236517205)) 2) &&& 3689348814741910323)) 4)) &&& 1085102592571150095))]) C dJ13_bitCount_95d88_33 rfl (hnl_of hΓ (by decide)) (by first | rfl | simp [cat_rf]) ?_
  refine g_lload_n C dJ13_bitCount_95d88_34 0 rfl ?_
  refine g_lload_n C dJ13_bitCount_95d88_35 0 rfl ?_
  refine g_bipush (v := 8) C dJ13_bitCount_95d88_36 (by decide) ?_
  refine g_lushr C dJ13_bitCount_95d88_38 ?_
  refine g_ladd C dJ13_bitCount_95d88_39 ?_
  refine g_lstore_n (i := 0) (lv' := [(0, .long ((((((v0 - ((zUsh v0 1) &&& 6148914691236517205)) &&& 3689348814741910323) + ((zUsh (v0 - ((zUsh v0 1) &&& 6148914691236517205)) 2) &&& 3689348814741910323)) + (zUsh (((v0 - ((zUsh v0 1) &&& 6148914691236517205)) &&& 3689348814741910323) + ((zUsh (v0 - ((zUsh v0 1) &&& 6148914691236517205)) 2) &&& 3689348814741910323)) 4)) &&& 1085102592571150095) + (zUsh (((((v0 - ((zUsh v0 1) &&& 6148914691236517205)) &&& 3689348814741910323) + ((zUsh (v0 - ((zUsh v0 1) &&& 6148914691236517205)) 2) &&& 3689348814741910323)) + (zUsh (((v0 - ((zUsh v0 1) &&& 6148914691236517205)) &&& 3689348814741910323) + ((zUsh (v0 - ((zUsh v0 1) &&& 6148914691236517205)) 2) &&& 3689348814741910323)) 4)) &&& 1085102592571150095) 8)))]) C dJ13_bitCount_95d88_40 rfl (hnl_of hΓ (by decide)) (by first | rfl | simp [cat_rf]) ?_
  refine g_lload_n C dJ13_bitCount_95d88_41 0 rfl ?_
  refine g_lload_n C dJ13_bitCount_95d88_42 0 rfl ?_
  refine g_bipush (v := 16) C dJ13_bitCount_95d88_43 (by decide) ?_
  refine g_lushr C dJ13_bitCount_95d88_45 ?_
  refine g_ladd C dJ13_bitCount_95d88_46 ?_
  refine g_lstore_n (i := 0) (lv' := [(0, .long (((((((v0 - ((zUsh v0 1) &&& 6148914691236517205)) &&& 3689348814741910323) + ((zUsh (v0 - ((zUsh v0 1) &&& 6148914691236517205)) 2) &&& 3689348814741910323)) + (zUsh (((v0 - ((zUsh v0 1) &&& 6148914691236517205)) &&& 3689348814741910323) + ((zUsh (v0 - ((zUsh v0 1) &&& 6148914691236517205)) 2) &&& 3689348814741910323)) 4)) &&& 1085102592571150095) + (zUsh (((((v0 - ((zUsh v0 1) &&& 6148914691236517205)) &&& 3689348814741910323) + ((zUsh (v0 - ((zUsh v0 1) &&& 6148914691236517205)) 2) &&& 3689348814741910323)) + (zUsh (((v0 - ((zUsh v0 1) &&& 6148914691236517205)) &&& 3689348814741910323) + ((zUsh (v0 - ((zUsh v0 1) &&& 6148914691236517205)) 2) &&& 3689348814741910323)) 4)) &&& 1085102592571150095) 8)) + (zUsh ((((((v0 - ((zUsh v0 1) &&& 6148914691236517205)) &&& 3689348814741910323) + ((zUsh (v0 - ((zUsh v0 1) &&& 6148914691236517205)) 2) &&& 3689348814741910323)) + (zUsh (((v0 - ((zUsh v0 1) &&& 6148914691236517205)) &&& 3689348814741910323) + ((zUsh (v0 - ((zUsh v0 1) &&& 6148914691236517205)) 2) &&& 3689348814741910323)) 4)) &&& 1085102592571150095) + (zUsh (((((v0 - ((zUsh v0 1) &&& 6148914691236517205)) &&& 3689348814741910323) + ((zUsh (v0 - ((zUsh v0 1) &&& 6148914691236517205)) 2) &&& 3689348814741910323)) + (zUsh (((v0 - ((zUsh v0 1) &&& 6148914691236517205)) &&& 3689348814741910323) + ((zUsh (v0 - ((zUsh v0 1) &&& 6148914691236517205)) 2) &&& 3689348814741910323)) 4)) &&& 1085102592571150095) 8)) 16)))]) C dJ13_bitCount_95d88_47 rfl (hnl_of hΓ (by decide)) (by first | rfl | simp [cat_rf]) ?_
  refine g_lload_n C dJ13_bitCount_95d88_48 0 rfl ?_
  refine g_lload_n C dJ13_bitCount_95d88_49 0 rfl ?_
  refine g_bipush (v := 32) C dJ13_bitCount_95d88_50 (by decide) ?_
  refine g_lushr C dJ13_bitCount_95d88_52 ?_
  refine g_ladd C dJ13_bitCount_95d88_53 ?_
  refine g_lstore_n (i := 0) (lv' := [(0, .long ((((((((v0 - ((zUsh v0 1) &&& 6148914691236517205)) &&& 3689348814741910323) + ((zUsh (v0 - ((zUsh v0 1) &&& 6148914691236517205)) 2) &&& 3689348814741910323)) + (zUsh (((v0 - ((zUsh v0 1) &&& 6148914691236517205)) &&& 3689348814741910323) + ((zUsh (v0 - ((zUsh v0 1) &&& 6148914691236517205)) 2) &&& 3689348814741910323)) 4)) &&& 1085102592571150095) + (zUsh (((((v0 - ((zUsh v0 1) &&& 6148914691236517205)) &&& 3689348814741910323) + ((zUsh (v0 - ((zUsh v0 1) &&& 6148914691236517205)) 2) &&& 3689348814741910323)) + (zUsh (((v0 - ((zUsh v0 1) &&& 6148914691236517205)) &&& 3689348814741910323) + ((zUsh (v0 - ((zUsh v0 1) &&& 6148914691236517205)) 2) &&& 3689348814741910323)) 4)) &&& 1085102592571150095) 8)) + (zUsh ((((((v0 - ((zUsh v0 1) &&& 6148914691236517205)) &&& 3689348814741910323) + ((zUsh (v0 - ((zUsh v0 1) &&& 6148914691236517205)) 2) &&& 3689348814741910323)) + (zUsh (((v0 - ((zUsh v0 1) &&& 6148914691236517205)) &&& 3689348814741910323) + ((zUsh (v0 - ((zUsh v0 1) &&& 6148914691236517205)) 2) &&& 3689348814741910323)) 4)) &&& 1085102592571150095) + (zUsh (((((v0 - ((zUsh v0 1) &&& 6148914691236517205)) &&& 3689348814741910323) + ((zUsh (v0 - ((zUsh v0 1) &&& 6148914691236517205)) 2) &&& 3689348814741910323)) + (zUsh (((v0 - ((zUsh v0 1) &&& 6148914691236517205)) &&& 3689348814741910323) + ((zUsh (v0 - ((zUsh v0 1) &&& 6148914691236517205)) 2) &&& 3689348814741910323)) 4)) &&& 1085102592571150095) 8)) 16)) + (zUsh (((((((v0 - ((zUsh v0 1) &&& 6148914691236517205)) &&& 3689348814741910323) + ((zUsh (v0 - ((zUsh v0 1) &&& 6148914691236517205)) 2) &&& 3689348814741910323)) + (zUsh (((v0 - ((zUsh v0 1) &&& 6148914691236517205)) &&& 3689348814741910323) + ((zUsh (v0 - ((zUsh v0 1) &&& 6148914691236517205)) 2) &&& 3689348814741910323)) 4)) &&& 1085102592571150095) + (zUsh (((((v0 - ((zUsh v0 1) &&& 6148914691236517205)) &&& 3689348814741910323) + ((zUsh (v0 - ((zUsh v0 1) &&& 6148914691236517205)) 2) &&& 3689348814741910323)) + (zUsh (((v0 - ((zUsh v0 1) &&& 6148914691236517205)) &&& 3689348814741910323) + ((zUsh (v0 - ((zUsh v0 1) &&& 6148914691236517205)) 2) &&& 3689348814741910323)) 4)) &&& 1085102592571150095) 8)) + (zUsh ((((((v0 - ((zUsh v0 1) &&& 6148914691236517205)) &&& 3689348814741910323) + ((zUsh (v0 - ((zUsh v0 1) &&& 6148914691236517205)) 2) &&& 3689348814741910323)) + (zUsh (((v0 - ((zUsh v0 1) &&& 6148914691236517205)) &&& 3689348814741910323) + ((zUsh (v0 - ((zUsh v0 1) &&& 6148914691236517205)) 2) &&& 3689348814741910323)) 4)) &&& 1085102592571150095) + (zUsh (((((v0 - ((zUsh v0 1) &&& 6148914691236517205)) &&& 3689348814741910323) + ((zUsh (v0 - ((zUsh v0 1) &&& 6148914691236517205)) 2) &&& 3689348814741910323)) + (zUsh (((v0 - ((zUsh v0 1) &&& 6148914691236517205)) &&& 3689348814741910323) + ((zUsh (v0 - ((zUsh v0 1) &&& 6148914691236517205)) 2) &&& 3689348814741910323)) 4)) &&& 1085102592571150095) 8)) 16)) 32)))]) C dJ13_bitCount_95d88_54 rfl (hnl_of hΓ (by decide)) (by first | rfl | simp [cat_rf]) ?_
  refine g_lload_n C dJ13_bitCount_95d88_55 0 rfl ?_
  refine g_l2i C dJ13_bitCount_95d88_56 ?_
  refine g_bipush (v := 127) C dJ13_bitCount_95d88_57 (by decide) ?_
  refine g_iand C dJ13_bitCount_95d88_59 ?_
  exact g_ireturn C hΓ (Nat.zero_le _) (Nat.zero_le _) dJ13_bitCount_95d88_60 ⟨_, rfl, hb⟩
theorem okJ13_bitCount_95d88 {v0 : Int64} {σ : St} {Q : Int32 → St → Prop} (hb : wJ13_bitCount_95d88 v0 σ Q) : hM yJ13_bitCount_95d88 cJ13_bitCount_95d88 2 ((Option.some FieldType.int)) 0 0 0 0 [.long v0] σ (oI Q) :=
  hM_ofF (by decide +kernel) (Nat.le_of_ble_eq_true rfl) (fun Γ hΓ C => kwJ13_bitCount_95d88_0 C hΓ _ _ hb)
def wX11_weighable_0 (Q : Option Nat → St → Prop) (v0 : Nat) (v1 : Int32) (σ : St) : Prop :=
  zK σ v0 = 12 ∧ ∃ a2 : Nat, zFr σ 708 v0 = some a2 ∧ zK σ a2 = 4 ∧ wX3_at a2 v1 σ (fun y6 σ5 => ((y6 = none → zK σ5 v0 = 12 ∧ Q none (uFi σ5 714 v0 1)) ∧ (∀ a7 : Nat, y6 = some a7 → zK σ5 a7 = 3 ∧ wX2_inAnyWay a7 σ5 (fun y11 σ10 => wJ13_bitCount_95d88 y11 σ10 (fun y13 σ12 => ((y13 ≤ (16 : Int32) → zK σ12 v0 = 12 ∧ Q (some a7) (uFi σ12 714 v0 0)) ∧ (¬ y13 ≤ (16 : Int32) → zK σ12 v0 = 12 ∧ Q none (uFi σ12 714 v0 6))))))))
def wX11_weighable (v0 : Nat) (v1 : Int32) (σ : St) (Q : Option Nat → St → Prop) : Prop := wX11_weighable_0 Q v0 v1 σ
set_option maxRecDepth 20000 in
theorem kwX11_weighable_0 {Γ : hCT} (C : hC Γ RX11 cX11_weighable ((Option.some (FieldType.object RX2))) "weighable" 1 23) {Q : Option Nat → St → Prop} (hΓ : Γ.2.2.2.2.2.2.2.2.2.2.2 = (3, 0, 0, oO Q)) (v0 : Nat) (v1 : Int32) (σ : St) (hb : wX11_weighable_0 Q v0 v1 σ) : hW Γ 0 0 0 [(0, .ref v0), (1, .int v1)] [] σ := by
  unfold wX11_weighable_0 at hb
  refine g_aload_n (some v0) C dX11_weighable_0 0 rfl ?_
  obtain ⟨q1, hb⟩ := hb
  obtain ⟨a2, q3, hb⟩ := hb
  refine g_getR (some a2) C fl_RX11_36 dX11_weighable_1 q1 rfl rfl q3 ?_
  refine g_iload_n C dX11_weighable_4 1 rfl ?_
  obtain ⟨q4, hb⟩ := hb
  refine g_invV (ci := 3) [.int v1] [] zy_X3_at wd_769 wd_751 wd_752 ⟨_, _, rfl⟩ (by decide) C dX11_weighable_5 (by first | exact Nat.le_of_ble_eq_true rfl | simp [cat_rf]) (by first | exact Nat.le_of_ble_eq_true rfl | simp [cat_rf]) (by first | exact Nat.le_of_ble_eq_true rfl | simp [cat_rf]) (Nat.zero_le _) (Nat.zero_le _) rfl rfl q4 (okX3_at hb) ?_
  rintro o σ5 ⟨y6, rfl, hb⟩
  refine ⟨_, rfl, ?_⟩
  refine g_astore_n (i := 2) (lv' := [(2, va_rf y6), (0, .ref v0), (1, .int v1)]) y6 C dX11_weighable_8 rfl (hnl_of hΓ (by decide)) (by first | rfl | simp [cat_rf]) ?_
  refine g_aload_n y6 C dX11_weighable_9 0 rfl ?_
  refine g_ifnonnull (tgt := 20) y6 C dX11_weighable_10 (by decide) (fun c => ?_) (fun c => ?_)
  ·
    obtain ⟨a7, rfl⟩ := rf_some c
    replace hb := hb.2 a7 rfl
    refine g_aload_n (some a7) C dX11_weighable_20 0 rfl ?_
    obtain ⟨q9, hb⟩ := hb
    refine g_invV (ci := 2) [] [] zy_X2_inAnyWay wd_828 wd_829 wd_830 ⟨_, _, rfl⟩ (by decide) C dX11_weighable_21 (by first | exact Nat.le_of_ble_eq_true rfl | simp [cat_rf]) (by first | exact Nat.le_of_ble_eq_true rfl | simp [cat_rf]) (by first | exact Nat.le_of_ble_eq_true rfl | simp [cat_rf]) (Nat.zero_le _) (Nat.zero_le _) rfl rfl q9 (okX2_inAnyWay hb) ?_
    rintro o σ10 ⟨y11, rfl, hb⟩
    refine ⟨_, rfl, ?_⟩
    refine g_invS [.long y11] [] zy_J13_bitCount_95d88 wd_832 wd_833 C dX11_weighable_24 (by first | exact Nat.le_of_ble_eq_true rfl | simp [cat_rf]) (by first | exact Nat.le_of_ble_eq_true rfl | simp [cat_rf]) (by first | exact Nat.le_of_ble_eq_true rfl | simp [cat_rf]) (Nat.zero_le _) (Nat.zero_le _) rfl rfl  (okJ13_bitCount_95d88 hb) ?_
    rintro o σ12 ⟨y13, rfl, hb⟩
    refine ⟨_, rfl, ?_⟩
    refine g_bipush (v := 16) C dX11_weighable_27 (by decide) ?_
    refine g_icmp_le (tgt := 40) C dX11_weighable_29 (by decide) (fun c => ?_) (fun c => ?_)
    ·
      replace hb := hb.1 (c)
      refine g_aload_n (some v0) C dX11_weighable_40 1 rfl ?_
      refine g_iconst (v := 0) C dX11_weighable_41 (by decide) ?_
      obtain ⟨q14, hb⟩ := hb
      refine g_putI C fl_RX11_101 dX11_weighable_42 q14 rfl rfl rfl rfl ?_
      refine g_aload_n (some a7) C dX11_weighable_45 0 rfl ?_
      exact g_areturn (some a7) (Or.inl ⟨_, rfl⟩) C hΓ (Nat.zero_le _) (Nat.zero_le _) dX11_weighable_46 ⟨_, rfl, hb⟩
    ·
      replace hb := hb.2 (c)
      refine g_aload_n (some v0) C dX11_weighable_32 1 rfl ?_
      refine g_bipush (v := 6) C dX11_weighable_33 (by decide) ?_
      obtain ⟨q15, hb⟩ := hb
      refine g_putI C fl_RX11_101 dX11_weighable_35 q15 rfl rfl rfl rfl ?_
      refine g_null C dX11_weighable_38 ?_
      exact g_areturn none (Or.inl ⟨_, rfl⟩) C hΓ (Nat.zero_le _) (Nat.zero_le _) dX11_weighable_39 ⟨_, rfl, hb⟩
  ·
    replace hb := hb.1 c
    refine g_aload_n (some v0) C dX11_weighable_13 1 rfl ?_
    refine g_iconst (v := 1) C dX11_weighable_14 (by decide) ?_
    obtain ⟨q8, hb⟩ := hb
    refine g_putI C fl_RX11_101 dX11_weighable_15 q8 rfl rfl rfl rfl ?_
    refine g_null C dX11_weighable_18 ?_
    exact g_areturn none (Or.inl ⟨_, rfl⟩) C hΓ (Nat.zero_le _) (Nat.zero_le _) dX11_weighable_19 ⟨_, rfl, hb⟩
theorem okX11_weighable {v0 : Nat} {v1 : Int32} {σ : St} {Q : Option Nat → St → Prop} (hb : wX11_weighable v0 v1 σ Q) : hM yX11_weighable cX11_weighable 3 ((Option.some (FieldType.object RX2))) 1 23 0 0 [.ref v0, .int v1] σ (oO Q) :=
  hM_of (by decide) (Nat.le_of_ble_eq_true rfl) (fun Γ hΓ C => kwX11_weighable_0 C hΓ _ _ _ hb)
def wX5_holdersOf_4 (Q : Int32 → St → Prop) (r4 : Nat → Int32 → Int32 → Int32 → St → Prop) (v0 : Nat) (v1 : Int32) (v2 : Int32) (v3 : Int32) (σ : St) : Prop :=
  zK σ v0 = 3 ∧ (((zFi σ 130 v0) ≤ v3 → Q v2 σ) ∧ (¬ (zFi σ 130 v0) ≤ v3 → ∃ a2 : Nat, zFr σ 129 v0 = some a2 ∧ zK σ a2 = 21 ∧ vp_in v3 (zL σ a2) ∧ wX11_has (zAj σ a2 (ix v3)) v1 σ (fun y7 σ6 => ((y7 = 0 → r4 v0 v1 v2 (v3 + 1) σ6) ∧ (¬ y7 = 0 → r4 v0 v1 (v2 ||| ((1 : Int32) <<< (v3 &&& 31))) (v3 + 1) σ6)))))
def lX5_holdersOf_4 (Q : Int32 → St → Prop) : Nat → Nat → Int32 → Int32 → Int32 → St → Prop
  | 0, _, _, _, _, _ => False
  | f + 1, v0, v1, v2, v3, σ => wX5_holdersOf_4 Q (lX5_holdersOf_4 Q f) v0 v1 v2 v3 σ
def wX5_holdersOf_0 (Q : Int32 → St → Prop) (v0 : Nat) (v1 : Int32) (σ : St) : Prop :=
  ∃ f, lX5_holdersOf_4 Q f v0 v1 0 0 σ
def wX5_holdersOf (v0 : Nat) (v1 : Int32) (σ : St) (Q : Int32 → St → Prop) : Prop := wX5_holdersOf_0 Q v0 v1 σ
set_option maxRecDepth 20000 in
theorem kwX5_holdersOf_4 {Γ : hCT} (C : hC Γ RX5 cX5_holdersOf ((Option.some FieldType.int)) "holdersOf" 1 22) {Q : Int32 → St → Prop} (hΓ : Γ.2.2.2.2.2.2.2.2.2.2.2 = (4, 0, 0, oI Q)) {r4 : Nat → Int32 → Int32 → Int32 → St → Prop} (h4 : ∀ (v0 : Nat) (v1 : Int32) (v2 : Int32) (v3 : Int32) (σ : St), r4 v0 v1 v2 v3 σ → hW Γ 0 0 4 [(0, .ref v0), (1, .int v1), (2, .int v2), (3, .int v3)] [] σ) (v0 : Nat) (v1 : Int32) (v2 : Int32) (v3 : Int32) (σ : St) (hb : wX5_holdersOf_4 Q r4 v0 v1 v2 v3 σ) : hW Γ 0 0 4 [(0, .ref v0), (1, .int v1), (2, .int v2), (3, .int v3)] [] σ := by
  unfold wX5_holdersOf_4 at hb
  refine g_iload_n C dX5_holdersOf_4 3 rfl ?_
  refine g_aload_n (some v0) C dX5_holdersOf_5 0 rfl ?_
  obtain ⟨q1, hb⟩ := hb
  refine g_getIx (zFi σ 130 v0) C fl_RX5_45 dX5_holdersOf_6 q1 rfl rfl rfl ?_
  refine g_icmp_ge (tgt := 37) C dX5_holdersOf_9 (by decide) (fun c => ?_) (fun c => ?_)
  ·
    replace hb := hb.1 (c)
    refine g_iload_n C dX5_holdersOf_37 2 rfl ?_
    exact g_ireturn C hΓ (Nat.zero_le _) (Nat.zero_le _) dX5_holdersOf_38 ⟨_, rfl, hb⟩
  ·
    replace hb := hb.2 (c)
    refine g_aload_n (some v0) C dX5_holdersOf_12 0 rfl ?_
    obtain ⟨a2, q3, hb⟩ := hb
    refine g_getR (some a2) C fl_RX5_51 dX5_holdersOf_13 q1 rfl rfl q3 ?_
    refine g_iload_n C dX5_holdersOf_16 3 rfl ?_
    obtain ⟨q4, hb⟩ := hb
    obtain ⟨q5, hb⟩ := hb
    refine g_laldx (zAj σ a2 (ix v3)) C dX5_holdersOf_17 q4 q5 rfl ?_
    refine g_iload_n C dX5_holdersOf_18 1 rfl ?_
    refine g_invSN [.long (zAj σ a2 (ix v3)), .int v1] [] zy_X11_has wn_843 wd_442 C dX5_holdersOf_19 (by first | exact Nat.le_of_ble_eq_true rfl | simp [cat_rf]) (by first | exact Nat.le_of_ble_eq_true rfl | simp [cat_rf]) (by first | exact Nat.le_of_ble_eq_true rfl | simp [cat_rf]) (Nat.zero_le _) (Nat.zero_le _) rfl rfl  (okX11_has hb) ?_
    rintro o σ6 ⟨y7, rfl, hb⟩
    refine ⟨_, rfl, ?_⟩
    refine g_if_eq (tgt := 31) C dX5_holdersOf_22 (by decide) (fun c => ?_) (fun c => ?_)
    ·
      replace hb := hb.1 (c)
      refine g_iinc (v := v3 + 1) (lv' := [(3, .int (v3 + 1)), (0, .ref v0), (1, .int v1), (2, .int v2)]) C dX5_holdersOf_31 3 rfl rfl (hnl_of hΓ (by decide)) (by first | rfl | simp [cat_rf]) ?_
      refine g_goto (tgt := 4) C dX5_holdersOf_34 (by decide) ?_
      refine g_sub (lv' := [(0, .ref v0), (1, .int v1), (2, .int v2), (3, .int (v3 + 1))]) [1, 2, 3, 0] rfl ?_
      exact h4 _ _ _ _ _ hb
    ·
      replace hb := hb.2 (c)
      refine g_iload_n C dX5_holdersOf_25 2 rfl ?_
      refine g_iconst (v := 1) C dX5_holdersOf_26 (by decide) ?_
      refine g_iload_n C dX5_holdersOf_27 3 rfl ?_
      refine g_ishl C dX5_holdersOf_28 ?_
      refine g_ior C dX5_holdersOf_29 ?_
      refine g_istore_n (i := 2) (lv' := [(2, .int (v2 ||| ((1 : Int32) <<< (v3 &&& 31)))), (0, .ref v0), (1, .int v1), (3, .int v3)]) C dX5_holdersOf_30 rfl (hnl_of hΓ (by decide)) (by first | rfl | simp [cat_rf]) ?_
      refine g_iinc (v := v3 + 1) (lv' := [(3, .int (v3 + 1)), (2, .int (v2 ||| ((1 : Int32) <<< (v3 &&& 31)))), (0, .ref v0), (1, .int v1)]) C dX5_holdersOf_31 3 rfl rfl (hnl_of hΓ (by decide)) (by first | rfl | simp [cat_rf]) ?_
      refine g_goto (tgt := 4) C dX5_holdersOf_34 (by decide) ?_
      refine g_sub (lv' := [(0, .ref v0), (1, .int v1), (2, .int (v2 ||| ((1 : Int32) <<< (v3 &&& 31)))), (3, .int (v3 + 1))]) [2, 3, 1, 0] rfl ?_
      exact h4 _ _ _ _ _ hb
theorem klX5_holdersOf_4 {Γ : hCT} (C : hC Γ RX5 cX5_holdersOf ((Option.some FieldType.int)) "holdersOf" 1 22) {Q : Int32 → St → Prop} (hΓ : Γ.2.2.2.2.2.2.2.2.2.2.2 = (4, 0, 0, oI Q)) (f : Nat) (v0 : Nat) (v1 : Int32) (v2 : Int32) (v3 : Int32) (σ : St) (hb : lX5_holdersOf_4 Q f v0 v1 v2 v3 σ) : hW Γ 0 0 4 [(0, .ref v0), (1, .int v1), (2, .int v2), (3, .int v3)] [] σ := by
  induction f generalizing v0 v1 v2 v3 σ with
  | zero => exact hb.elim
  | succ f ih => exact kwX5_holdersOf_4 C hΓ  (fun v0 v1 v2 v3 σ h => ih v0 v1 v2 v3 σ h) _ _ _ _ _ hb
set_option maxRecDepth 20000 in
theorem kwX5_holdersOf_0 {Γ : hCT} (C : hC Γ RX5 cX5_holdersOf ((Option.some FieldType.int)) "holdersOf" 1 22) {Q : Int32 → St → Prop} (hΓ : Γ.2.2.2.2.2.2.2.2.2.2.2 = (4, 0, 0, oI Q)) (v0 : Nat) (v1 : Int32) (σ : St) (hb : wX5_holdersOf_0 Q v0 v1 σ) : hW Γ 0 0 0 [(0, .ref v0), (1, .int v1)] [] σ := by
  unfold wX5_holdersOf_0 at hb
  refine g_iconst (v := 0) C dX5_holdersOf_0 (by decide) ?_
  refine g_istore_n (i := 2) (lv' := [(2, .int 0), (0, .ref v0), (1, .int v1)]) C dX5_holdersOf_1 rfl (hnl_of hΓ (by decide)) (by first | rfl | simp [cat_rf]) ?_
  refine g_iconst (v := 0) C dX5_holdersOf_2 (by decide) ?_
  refine g_istore_n (i := 3) (lv' := [(3, .int 0), (2, .int 0), (0, .ref v0), (1, .int v1)]) C dX5_holdersOf_3 rfl (hnl_of hΓ (by decide)) (by first | rfl | simp [cat_rf]) ?_
  refine g_sub (lv' := [(0, .ref v0), (1, .int v1), (2, .int 0), (3, .int 0)]) [2, 3, 1, 0] rfl ?_
  obtain ⟨f1, hb⟩ := hb
  exact klX5_holdersOf_4 C hΓ  f1 _ _ _ _ _ hb
theorem okX5_holdersOf {v0 : Nat} {v1 : Int32} {σ : St} {Q : Int32 → St → Prop} (hb : wX5_holdersOf v0 v1 σ Q) : hM yX5_holdersOf cX5_holdersOf 4 ((Option.some FieldType.int)) 1 22 0 0 [.ref v0, .int v1] σ (oI Q) :=
  hM_of (by decide) (Nat.le_of_ble_eq_true rfl) (fun Γ hΓ C => kwX5_holdersOf_0 C hΓ _ _ _ hb)
def wX5_partsFrom_96 (rc : Nat → Int32 → Int32 → St → (Int64 → St → Prop) → Prop) (Q : Int64 → St → Prop) (v0 : Nat) (v1 : Int32) (v2 : Int32) (v3 : Int64) (σ : St) : Prop :=
  zK σ v0 = 6 ∧ ∃ a2 : Nat, zFr σ 320 v0 = some a2 ∧ zK σ a2 = 20 ∧ vp_in v1 (zL σ a2) ∧ (((8 : Int32) ≤ (zAi σ a2 (ix v1)) → Q v3 σ) ∧ (¬ (8 : Int32) ≤ (zAi σ a2 (ix v1)) → ∃ a6 : Nat, zFr σ 321 v0 = some a6 ∧ zK σ a6 = 20 ∧ vp_in v1 (zL σ a6) ∧ rc v0 (v1 + 1) (v2 &&& ((zAi σ a6 (ix v1)) ^^^ (-1))) σ (fun y11 σ10 => Q (v3 + ((Int32.toInt64 (8 - (zAi σ a2 (ix v1)))) * y11)) σ10)))
def wX5_partsFrom_33 (rc : Nat → Int32 → Int32 → St → (Int64 → St → Prop) → Prop) (Q : Int64 → St → Prop) (v1 : Int32) (σ : St) : Prop :=
  Q ((1 : Int64) <<< (Int32.toInt64 (3 * (16 - v1)) &&& 63)) σ
def wX5_partsFrom_0 (rc : Nat → Int32 → Int32 → St → (Int64 → St → Prop) → Prop) (Q : Int64 → St → Prop) (v0 : Nat) (v1 : Int32) (v2 : Int32) (σ : St) : Prop :=
  ((v2 = 0 → Q 0 σ) ∧ (¬ v2 = 0 → zK σ v0 = 6 ∧ ((v1 ≤ (zFi σ 323 v0) → ∃ a2 : Nat, zFr σ 322 v0 = some a2 ∧ zK σ a2 = 20 ∧ vp_in v1 (zL σ a2) ∧ ((¬ (v2 &&& (zAi σ a2 (ix v1))) = 0 → wX5_partsFrom_33 rc Q v1 σ) ∧ ((v2 &&& (zAi σ a2 (ix v1))) = 0 → ((¬ v1 = (zFi σ 323 v0) → ∃ a6 : Nat, zFr σ 321 v0 = some a6 ∧ zK σ a6 = 20 ∧ vp_in v1 (zL σ a6) ∧ ((¬ (v2 &&& (zAi σ a6 (ix v1))) = 0 → ∃ a10 : Nat, zFr σ 320 v0 = some a10 ∧ zK σ a10 = 20 ∧ vp_in v1 (zL σ a10) ∧ (((zAi σ a10 (ix v1)) ≤ 0 → wX5_partsFrom_96 rc Q v0 v1 v2 0 σ) ∧ (¬ (zAi σ a10 (ix v1)) ≤ 0 → rc v0 (v1 + 1) v2 σ (fun y15 σ14 => wX5_partsFrom_96 rc Q v0 v1 v2 (0 + ((Int32.toInt64 (zAi σ a10 (ix v1))) * y15)) σ14)))) ∧ ((v2 &&& (zAi σ a6 (ix v1))) = 0 → rc v0 (v1 + 1) v2 σ (fun y17 σ16 => Q (8 * y17) σ16)))) ∧ (v1 = (zFi σ 323 v0) → wX5_partsFrom_33 rc Q v1 σ))))) ∧ (¬ v1 ≤ (zFi σ 323 v0) → Q 0 σ))))
def wX5_partsFrom : Nat → Nat → Int32 → Int32 → St → (Int64 → St → Prop) → Prop
  | 0, _, _, _, _, _ => False
  | d + 1, v0, v1, v2, σ, Q => wX5_partsFrom_0 (wX5_partsFrom d) Q v0 v1 v2 σ
set_option maxRecDepth 20000 in
theorem kwX5_partsFrom_96 {dd : Nat} {Γ : hCT} (C : hC Γ RX5 cX5_partsFrom ((Option.some FieldType.long)) "partsFrom" (0 + (dd + 1)) (0 + (dd + 1) * 24)) {Q : Int64 → St → Prop} (hΓ : Γ.2.2.2.2.2.2.2.2.2.2.2 = (5, 0, 0, oJ Q)) {rc : Nat → Int32 → Int32 → St → (Int64 → St → Prop) → Prop} (hrc : ∀ (z0 : Nat) (z1 : Int32) (z2 : Int32) (σ : St) (Q : Int64 → St → Prop), rc z0 z1 z2 σ Q → hM yX5_partsFrom cX5_partsFrom 5 ((Option.some FieldType.long)) (0 + dd) (0 + dd * 24) 0 0 [.ref z0, .int z1, .int z2] σ (oJ Q)) (v0 : Nat) (v1 : Int32) (v2 : Int32) (v3 : Int64) (σ : St) (hb : wX5_partsFrom_96 rc Q v0 v1 v2 v3 σ) : hW Γ 0 0 96 [(0, .ref v0), (1, .int v1), (2, .int v2), (3, .long v3)] [] σ := by
  unfold wX5_partsFrom_96 at hb
  refine g_aload_n (some v0) C dX5_partsFrom_96 0 rfl ?_
  obtain ⟨q1, hb⟩ := hb
  obtain ⟨a2, q3, hb⟩ := hb
  refine g_getR (some a2) C fl_RX5_9 dX5_partsFrom_97 q1 rfl rfl q3 ?_
  refine g_iload_n C dX5_partsFrom_100 1 rfl ?_
  obtain ⟨q4, hb⟩ := hb
  obtain ⟨q5, hb⟩ := hb
  refine g_ialdx (zAi σ a2 (ix v1)) C dX5_partsFrom_101 q4 q5 rfl ?_
  refine g_bipush (v := 8) C dX5_partsFrom_102 (by decide) ?_
  refine g_icmp_ge (tgt := 138) C dX5_partsFrom_104 (by decide) (fun c => ?_) (fun c => ?_)
  ·
    replace hb := hb.1 (c)
    refine g_lload_n C dX5_partsFrom_138 3 rfl ?_
    exact g_lreturn C hΓ (Nat.zero_le _) (Nat.zero_le _) dX5_partsFrom_139 ⟨_, rfl, hb⟩
  ·
    replace hb := hb.2 (c)
    refine g_lload_n C dX5_partsFrom_107 3 rfl ?_
    refine g_bipush (v := 8) C dX5_partsFrom_108 (by decide) ?_
    refine g_aload_n (some v0) C dX5_partsFrom_110 0 rfl ?_
    refine g_getR (some a2) C fl_RX5_9 dX5_partsFrom_111 q1 rfl rfl q3 ?_
    refine g_iload_n C dX5_partsFrom_114 1 rfl ?_
    refine g_ialdx (zAi σ a2 (ix v1)) C dX5_partsFrom_115 q4 q5 rfl ?_
    refine g_isub C dX5_partsFrom_116 ?_
    refine g_i2l C dX5_partsFrom_117 ?_
    refine g_aload_n (some v0) C dX5_partsFrom_118 0 rfl ?_
    refine g_iload_n C dX5_partsFrom_119 1 rfl ?_
    refine g_iconst (v := 1) C dX5_partsFrom_120 (by decide) ?_
    refine g_iadd C dX5_partsFrom_121 ?_
    refine g_iload_n C dX5_partsFrom_122 2 rfl ?_
    refine g_aload_n (some v0) C dX5_partsFrom_123 0 rfl ?_
    obtain ⟨a6, q7, hb⟩ := hb
    refine g_getR (some a6) C fl_RX5_15 dX5_partsFrom_124 q1 rfl rfl q7 ?_
    refine g_iload_n C dX5_partsFrom_127 1 rfl ?_
    obtain ⟨q8, hb⟩ := hb
    obtain ⟨q9, hb⟩ := hb
    refine g_ialdx (zAi σ a6 (ix v1)) C dX5_partsFrom_128 q8 q9 rfl ?_
    refine g_iconst (v := (-1)) C dX5_partsFrom_129 (by decide) ?_
    refine g_ixor C dX5_partsFrom_130 ?_
    refine g_iand C dX5_partsFrom_131 ?_
    refine g_invV (ci := 5) [.int (v1 + 1), .int (v2 &&& ((zAi σ a6 (ix v1)) ^^^ (-1)))] [.long (Int32.toInt64 (8 - (zAi σ a2 (ix v1)))), .long v3] zy_X5_partsFrom wd_848 wd_850 wd_27 ⟨_, _, rfl⟩ (by decide) C dX5_partsFrom_132 (by first | exact Nat.le_of_ble_eq_true rfl | omega | (simp [cat_rf]; omega)) (by first | exact Nat.le_of_ble_eq_true rfl | omega | (simp [cat_rf]; omega)) (by first | exact Nat.le_of_ble_eq_true rfl | simp [cat_rf]) (Nat.zero_le _) (Nat.zero_le _) rfl rfl q1 (hrc _ _ _ _ _ hb) ?_
    rintro o σ10 ⟨y11, rfl, hb⟩
    refine ⟨_, rfl, ?_⟩
    refine g_lmul C dX5_partsFrom_135 ?_
    refine g_ladd C dX5_partsFrom_136 ?_
    refine g_lstore_n (i := 3) (lv' := [(3, .long (v3 + ((Int32.toInt64 (8 - (zAi σ a2 (ix v1)))) * y11))), (0, .ref v0), (1, .int v1), (2, .int v2)]) C dX5_partsFrom_137 rfl (hnl_of hΓ (by decide)) (by first | rfl | simp [cat_rf]) ?_
    refine g_lload_n C dX5_partsFrom_138 0 rfl ?_
    exact g_lreturn C hΓ (Nat.zero_le _) (Nat.zero_le _) dX5_partsFrom_139 ⟨_, rfl, hb⟩
set_option maxRecDepth 20000 in
theorem kwX5_partsFrom_33 {dd : Nat} {Γ : hCT} (C : hC Γ RX5 cX5_partsFrom ((Option.some FieldType.long)) "partsFrom" (0 + (dd + 1)) (0 + (dd + 1) * 24)) {Q : Int64 → St → Prop} (hΓ : Γ.2.2.2.2.2.2.2.2.2.2.2 = (5, 0, 0, oJ Q)) {rc : Nat → Int32 → Int32 → St → (Int64 → St → Prop) → Prop} (hrc : ∀ (z0 : Nat) (z1 : Int32) (z2 : Int32) (σ : St) (Q : Int64 → St → Prop), rc z0 z1 z2 σ Q → hM yX5_partsFrom cX5_partsFrom 5 ((Option.some FieldType.long)) (0 + dd) (0 + dd * 24) 0 0 [.ref z0, .int z1, .int z2] σ (oJ Q)) (v1 : Int32) (σ : St) (hb : wX5_partsFrom_33 rc Q v1 σ) : hW Γ 0 0 33 [(1, .int v1)] [] σ := by
  unfold wX5_partsFrom_33 at hb
  refine g_lconst (v := 1) C dX5_partsFrom_33 (by decide) ?_
  refine g_iconst (v := 3) C dX5_partsFrom_34 (by decide) ?_
  refine g_bipush (v := 16) C dX5_partsFrom_35 (by decide) ?_
  refine g_iload_n C dX5_partsFrom_37 0 rfl ?_
  refine g_isub C dX5_partsFrom_38 ?_
  refine g_imul C dX5_partsFrom_39 ?_
  refine g_lshl C dX5_partsFrom_40 ?_
  exact g_lreturn C hΓ (Nat.zero_le _) (Nat.zero_le _) dX5_partsFrom_41 ⟨_, rfl, hb⟩
set_option maxRecDepth 20000 in
theorem kwX5_partsFrom_0 {dd : Nat} {Γ : hCT} (C : hC Γ RX5 cX5_partsFrom ((Option.some FieldType.long)) "partsFrom" (0 + (dd + 1)) (0 + (dd + 1) * 24)) {Q : Int64 → St → Prop} (hΓ : Γ.2.2.2.2.2.2.2.2.2.2.2 = (5, 0, 0, oJ Q)) {rc : Nat → Int32 → Int32 → St → (Int64 → St → Prop) → Prop} (hrc : ∀ (z0 : Nat) (z1 : Int32) (z2 : Int32) (σ : St) (Q : Int64 → St → Prop), rc z0 z1 z2 σ Q → hM yX5_partsFrom cX5_partsFrom 5 ((Option.some FieldType.long)) (0 + dd) (0 + dd * 24) 0 0 [.ref z0, .int z1, .int z2] σ (oJ Q)) (v0 : Nat) (v1 : Int32) (v2 : Int32) (σ : St) (hb : wX5_partsFrom_0 rc Q v0 v1 v2 σ) : hW Γ 0 0 0 [(0, .ref v0), (1, .int v1), (2, .int v2)] [] σ := by
  unfold wX5_partsFrom_0 at hb
  refine g_iload_n C dX5_partsFrom_0 2 rfl ?_
  refine g_if_eq (tgt := 12) C dX5_partsFrom_1 (by decide) (fun c => ?_) (fun c => ?_)
  ·
    replace hb := hb.1 (c)
    refine g_lconst (v := 0) C dX5_partsFrom_12 (by decide) ?_
    exact g_lreturn C hΓ (Nat.zero_le _) (Nat.zero_le _) dX5_partsFrom_13 ⟨_, rfl, hb⟩
  ·
    replace hb := hb.2 (c)
    refine g_iload_n C dX5_partsFrom_4 1 rfl ?_
    refine g_aload_n (some v0) C dX5_partsFrom_5 0 rfl ?_
    obtain ⟨q1, hb⟩ := hb
    refine g_getIx (zFi σ 323 v0) C fl_RX5_27 dX5_partsFrom_6 q1 rfl rfl rfl ?_
    refine g_icmp_le (tgt := 14) C dX5_partsFrom_9 (by decide) (fun c => ?_) (fun c => ?_)
    ·
      replace hb := hb.1 (c)
      refine g_iload_n C dX5_partsFrom_14 2 rfl ?_
      refine g_aload_n (some v0) C dX5_partsFrom_15 0 rfl ?_
      obtain ⟨a2, q3, hb⟩ := hb
      refine g_getR (some a2) C fl_RX5_18 dX5_partsFrom_16 q1 rfl rfl q3 ?_
      refine g_iload_n C dX5_partsFrom_19 1 rfl ?_
      obtain ⟨q4, hb⟩ := hb
      obtain ⟨q5, hb⟩ := hb
      refine g_ialdx (zAi σ a2 (ix v1)) C dX5_partsFrom_20 q4 q5 rfl ?_
      refine g_iand C dX5_partsFrom_21 ?_
      refine g_if_ne (tgt := 33) C dX5_partsFrom_22 (by decide) (fun c => ?_) (fun c => ?_)
      ·
        replace hb := hb.1 (c)
        refine g_sub (lv' := [(1, .int v1)]) [1] rfl ?_
        exact kwX5_partsFrom_33 C hΓ hrc  _ _ hb
      ·
        replace hb := hb.2 (c)
        refine g_iload_n C dX5_partsFrom_25 1 rfl ?_
        refine g_aload_n (some v0) C dX5_partsFrom_26 0 rfl ?_
        refine g_getIx (zFi σ 323 v0) C fl_RX5_27 dX5_partsFrom_27 q1 rfl rfl rfl ?_
        refine g_icmp_ne (tgt := 42) C dX5_partsFrom_30 (by decide) (fun c => ?_) (fun c => ?_)
        ·
          replace hb := hb.1 (c)
          refine g_iload_n C dX5_partsFrom_42 2 rfl ?_
          refine g_aload_n (some v0) C dX5_partsFrom_43 0 rfl ?_
          obtain ⟨a6, q7, hb⟩ := hb
          refine g_getR (some a6) C fl_RX5_15 dX5_partsFrom_44 q1 rfl rfl q7 ?_
          refine g_iload_n C dX5_partsFrom_47 1 rfl ?_
          obtain ⟨q8, hb⟩ := hb
          obtain ⟨q9, hb⟩ := hb
          refine g_ialdx (zAi σ a6 (ix v1)) C dX5_partsFrom_48 q8 q9 rfl ?_
          refine g_iand C dX5_partsFrom_49 ?_
          refine g_if_ne (tgt := 66) C dX5_partsFrom_50 (by decide) (fun c => ?_) (fun c => ?_)
          ·
            replace hb := hb.1 (c)
            refine g_lconst (v := 0) C dX5_partsFrom_66 (by decide) ?_
            refine g_lstore_n (i := 3) (lv' := [(3, .long 0), (0, .ref v0), (1, .int v1), (2, .int v2)]) C dX5_partsFrom_67 rfl (hnl_of hΓ (by decide)) (by first | rfl | simp [cat_rf]) ?_
            refine g_aload_n (some v0) C dX5_partsFrom_68 1 rfl ?_
            obtain ⟨a10, q11, hb⟩ := hb
            refine g_getR (some a10) C fl_RX5_9 dX5_partsFrom_69 q1 rfl rfl q11 ?_
            refine g_iload_n C dX5_partsFrom_72 2 rfl ?_
            obtain ⟨q12, hb⟩ := hb
            obtain ⟨q13, hb⟩ := hb
            refine g_ialdx (zAi σ a10 (ix v1)) C dX5_partsFrom_73 q12 q13 rfl ?_
            refine g_if_le (tgt := 96) C dX5_partsFrom_74 (by decide) (fun c => ?_) (fun c => ?_)
            ·
              replace hb := hb.1 (c)
              refine g_sub (lv' := [(0, .ref v0), (1, .int v1), (2, .int v2), (3, .long 0)]) [1, 2, 3, 0] rfl ?_
              exact kwX5_partsFrom_96 C hΓ hrc  _ _ _ _ _ hb
            ·
              replace hb := hb.2 (c)
              refine g_lload_n C dX5_partsFrom_77 0 rfl ?_
              refine g_aload_n (some v0) C dX5_partsFrom_78 1 rfl ?_
              refine g_getR (some a10) C fl_RX5_9 dX5_partsFrom_79 q1 rfl rfl q11 ?_
              refine g_iload_n C dX5_partsFrom_82 2 rfl ?_
              refine g_ialdx (zAi σ a10 (ix v1)) C dX5_partsFrom_83 q12 q13 rfl ?_
              refine g_i2l C dX5_partsFrom_84 ?_
              refine g_aload_n (some v0) C dX5_partsFrom_85 1 rfl ?_
              refine g_iload_n C dX5_partsFrom_86 2 rfl ?_
              refine g_iconst (v := 1) C dX5_partsFrom_87 (by decide) ?_
              refine g_iadd C dX5_partsFrom_88 ?_
              refine g_iload_n C dX5_partsFrom_89 3 rfl ?_
              refine g_invV (ci := 5) [.int (v1 + 1), .int v2] [.long (Int32.toInt64 (zAi σ a10 (ix v1))), .long 0] zy_X5_partsFrom wd_848 wd_850 wd_27 ⟨_, _, rfl⟩ (by decide) C dX5_partsFrom_90 (by first | exact Nat.le_of_ble_eq_true rfl | omega | (simp [cat_rf]; omega)) (by first | exact Nat.le_of_ble_eq_true rfl | omega | (simp [cat_rf]; omega)) (by first | exact Nat.le_of_ble_eq_true rfl | simp [cat_rf]) (Nat.zero_le _) (Nat.zero_le _) rfl rfl q1 (hrc _ _ _ _ _ hb) ?_
              rintro o σ14 ⟨y15, rfl, hb⟩
              refine ⟨_, rfl, ?_⟩
              refine g_lmul C dX5_partsFrom_93 ?_
              refine g_ladd C dX5_partsFrom_94 ?_
              refine g_lstore_n (i := 3) (lv' := [(3, .long (0 + ((Int32.toInt64 (zAi σ a10 (ix v1))) * y15))), (0, .ref v0), (1, .int v1), (2, .int v2)]) C dX5_partsFrom_95 rfl (hnl_of hΓ (by decide)) (by first | rfl | simp [cat_rf]) ?_
              refine g_sub (lv' := [(0, .ref v0), (1, .int v1), (2, .int v2), (3, .long (0 + ((Int32.toInt64 (zAi σ a10 (ix v1))) * y15)))]) [1, 2, 3, 0] rfl ?_
              exact kwX5_partsFrom_96 C hΓ hrc  _ _ _ _ _ hb
          ·
            replace hb := hb.2 (c)
            refine g_ldc2 C wd_852 dX5_partsFrom_53 ?_
            refine g_aload_n (some v0) C dX5_partsFrom_56 0 rfl ?_
            refine g_iload_n C dX5_partsFrom_57 1 rfl ?_
            refine g_iconst (v := 1) C dX5_partsFrom_58 (by decide) ?_
            refine g_iadd C dX5_partsFrom_59 ?_
            refine g_iload_n C dX5_partsFrom_60 2 rfl ?_
            refine g_invV (ci := 5) [.int (v1 + 1), .int v2] [.long 8] zy_X5_partsFrom wd_848 wd_850 wd_27 ⟨_, _, rfl⟩ (by decide) C dX5_partsFrom_61 (by first | exact Nat.le_of_ble_eq_true rfl | omega | (simp [cat_rf]; omega)) (by first | exact Nat.le_of_ble_eq_true rfl | omega | (simp [cat_rf]; omega)) (by first | exact Nat.le_of_ble_eq_true rfl | simp [cat_rf]) (Nat.zero_le _) (Nat.zero_le _) rfl rfl q1 (hrc _ _ _ _ _ hb) ?_
            rintro o σ16 ⟨y17, rfl, hb⟩
            refine ⟨_, rfl, ?_⟩
            refine g_lmul C dX5_partsFrom_64 ?_
            exact g_lreturn C hΓ (Nat.zero_le _) (Nat.zero_le _) dX5_partsFrom_65 ⟨_, rfl, hb⟩
        ·
          replace hb := hb.2 (c)
          refine g_sub (lv' := [(1, .int v1)]) [1] rfl ?_
          exact kwX5_partsFrom_33 C hΓ hrc  _ _ hb
    ·
      replace hb := hb.2 (c)
      refine g_lconst (v := 0) C dX5_partsFrom_12 (by decide) ?_
      exact g_lreturn C hΓ (Nat.zero_le _) (Nat.zero_le _) dX5_partsFrom_13 ⟨_, rfl, hb⟩
theorem okX5_partsFrom : ∀ (d : Nat) (v0 : Nat) (v1 : Int32) (v2 : Int32) {σ : St} {Q : Int64 → St → Prop} (hb : wX5_partsFrom d v0 v1 v2 σ Q), hM yX5_partsFrom cX5_partsFrom 5 ((Option.some FieldType.long)) (0 + d) (0 + d * 24) 0 0 [.ref v0, .int v1, .int v2] σ (oJ Q) := by
  intro d
  induction d with
  | zero => intro v0 v1 v2 σ Q hb; exact hb.elim
  | succ d ih =>
    intro v0 v1 v2 σ Q hb
    exact hM_of (by decide) (Nat.le_of_ble_eq_true rfl) (fun Γ hΓ C => kwX5_partsFrom_0 C hΓ (fun z0 z1 z2 σ Q h => ih z0 z1 z2 h) _ _ _ _ hb)
def wX5_chanceOf_135 (Q : Int64 → St → Prop) (r108 : Nat → Nat → Int32 → Int32 → St → Prop) (v0 : Nat) (v1 : Nat) (v8 : Int32) (s1 : Int32) (s0 : Int32) (σ : St) : Prop :=
  zK σ v0 = 6 ∧ ∃ a2 : Nat, zFr σ 322 v0 = some a2 ∧ zK σ a2 = 20 ∧ vp_in v8 (zL σ a2) ∧ r108 v0 v1 (s0 ||| s1) (v8 + (-1)) (uAi σ a2 (ix v8) ((s0 ||| s1) ^^^ (-1)))
def wX5_chanceOf_108 (Q : Int64 → St → Prop) (r108 : Nat → Nat → Int32 → Int32 → St → Prop) (v0 : Nat) (v1 : Nat) (v7 : Int32) (v8 : Int32) (σ : St) : Prop :=
  ((v8 < 0 → zK σ v1 = 3 ∧ zK σ v0 = 6 ∧ wX5_partsFrom 18 v0 0 (((1 : Int32) <<< ((zFi σ 130 v1) &&& 31)) - 1) σ (fun y4 σ3 => Q y4 σ3)) ∧ (¬ v8 < 0 → zK σ v0 = 6 ∧ (((zFi σ 323 v0) ≤ v8 → wX5_chanceOf_135 Q r108 v0 v1 v8 0 v7 σ) ∧ (¬ (zFi σ 323 v0) ≤ v8 → ∃ a6 : Nat, zFr σ 321 v0 = some a6 ∧ zK σ a6 = 20 ∧ vp_in v8 (zL σ a6) ∧ wX5_chanceOf_135 Q r108 v0 v1 v8 (zAi σ a6 (ix v8)) v7 σ))))
def lX5_chanceOf_108 (Q : Int64 → St → Prop) : Nat → Nat → Nat → Int32 → Int32 → St → Prop
  | 0, _, _, _, _, _ => False
  | f + 1, v0, v1, v7, v8, σ => wX5_chanceOf_108 Q (lX5_chanceOf_108 Q f) v0 v1 v7 v8 σ
def wX5_chanceOf_99 (Q : Int64 → St → Prop) (v0 : Nat) (v1 : Nat) (σ : St) : Prop :=
  zK σ v0 = 6 ∧ ∃ f, lX5_chanceOf_108 Q f v0 v1 0 (zFi σ 323 v0) σ
def wX5_chanceOf_67 (Q : Int64 → St → Prop) (r14 : Nat → Nat → Nat → Int32 → Int32 → Int64 → Int32 → St → Prop) (v0 : Nat) (v1 : Nat) (v2 : Nat) (v3 : Int32) (v4 : Int32) (v5 : Int64) (v7 : Int32) (s2 : Int32) (s1 : Int32) (s0 : Nat) (σ : St) : Prop :=
  zK σ s0 = 20 ∧ vp_in s1 (zL σ s0) ∧ zK σ v0 = 6 ∧ ∃ a4 : Nat, zFr σ 321 v0 = some a4 ∧ wX5_holdersOf v1 v7 (uAi σ s0 (ix s1) s2) (fun y7 σ6 => zK σ6 a4 = 20 ∧ vp_in (zFi σ 323 v0) (zL σ6 a4) ∧ zK σ6 v0 = 6 ∧ r14 v0 v1 v2 v3 v4 v5 (v7 + 1) (uFi (uAi σ6 a4 (ix (zFi σ 323 v0)) y7) 323 v0 ((zFi σ6 323 v0) + 1)))
def wX5_chanceOf_14 (Q : Int64 → St → Prop) (r14 : Nat → Nat → Nat → Int32 → Int32 → Int64 → Int32 → St → Prop) (v0 : Nat) (v1 : Nat) (v2 : Nat) (v3 : Int32) (v4 : Int32) (v5 : Int64) (v7 : Int32) (σ : St) : Prop :=
  (((60 : Int32) ≤ v7 → wX5_chanceOf_99 Q v0 v1 σ) ∧ (¬ (60 : Int32) ≤ v7 → zK σ v0 = 6 ∧ (((16 : Int32) ≤ (zFi σ 323 v0) → wX5_chanceOf_99 Q v0 v1 σ) ∧ (¬ (16 : Int32) ≤ (zFi σ 323 v0) → wX11_has v5 v7 σ (fun y3 σ2 => ((y3 = 0 → r14 v0 v1 v2 v3 v4 v5 (v7 + 1) σ2) ∧ (¬ y3 = 0 → zK σ2 v0 = 6 ∧ ∃ a5 : Nat, zFr σ2 320 v0 = some a5 ∧ ((¬ v7 = v3 → zK σ2 v2 = 7 ∧ wX6_weight v2 v7 3 σ2 (fun y9 σ8 => wX5_chanceOf_67 Q r14 v0 v1 v2 v3 v4 v5 v7 (Int64.toInt32 y9) (zFi σ2 323 v0) a5 σ8)) ∧ (v7 = v3 → wX5_chanceOf_67 Q r14 v0 v1 v2 v3 v4 v5 v7 v4 (zFi σ2 323 v0) a5 σ2)))))))))
def lX5_chanceOf_14 (Q : Int64 → St → Prop) : Nat → Nat → Nat → Nat → Int32 → Int32 → Int64 → Int32 → St → Prop
  | 0, _, _, _, _, _, _, _, _ => False
  | f + 1, v0, v1, v2, v3, v4, v5, v7, σ => wX5_chanceOf_14 Q (lX5_chanceOf_14 Q f) v0 v1 v2 v3 v4 v5 v7 σ
def wX5_chanceOf_0 (Q : Int64 → St → Prop) (v0 : Nat) (v1 : Nat) (v2 : Nat) (v3 : Int32) (v4 : Int32) (σ : St) : Prop :=
  zK σ v1 = 3 ∧ wX2_inAnyWay v1 σ (fun y3 σ2 => zK σ2 v0 = 6 ∧ ∃ f, lX5_chanceOf_14 Q f v0 v1 v2 v3 v4 y3 0 (uFi σ2 323 v0 0))
def wX5_chanceOf (v0 : Nat) (v1 : Nat) (v2 : Nat) (v3 : Int32) (v4 : Int32) (σ : St) (Q : Int64 → St → Prop) : Prop := wX5_chanceOf_0 Q v0 v1 v2 v3 v4 σ
set_option maxRecDepth 20000 in
theorem kwX5_chanceOf_135 {Γ : hCT} (C : hC Γ RX5 cX5_chanceOf ((Option.some FieldType.long)) "chanceOf" 19 456) {Q : Int64 → St → Prop} (hΓ : Γ.2.2.2.2.2.2.2.2.2.2.2 = (9, 0, 0, oJ Q)) {r108 : Nat → Nat → Int32 → Int32 → St → Prop} (h108 : ∀ (v0 : Nat) (v1 : Nat) (v7 : Int32) (v8 : Int32) (σ : St), r108 v0 v1 v7 v8 σ → hW Γ 0 0 108 [(0, .ref v0), (1, .ref v1), (7, .int v7), (8, .int v8)] [] σ) (v0 : Nat) (v1 : Nat) (v8 : Int32) (s1 : Int32) (s0 : Int32) (σ : St) (hb : wX5_chanceOf_135 Q r108 v0 v1 v8 s1 s0 σ) : hW Γ 0 0 135 [(0, .ref v0), (1, .ref v1), (8, .int v8)] [.int s1, .int s0] σ := by
  unfold wX5_chanceOf_135 at hb
  refine g_ior C dX5_chanceOf_135 ?_
  refine g_istore (lv' := [(7, .int (s0 ||| s1)), (0, .ref v0), (1, .ref v1), (8, .int v8)]) C dX5_chanceOf_136 (hnl_of hΓ (by decide)) (by first | rfl | simp [cat_rf]) ?_
  refine g_aload_n (some v0) C dX5_chanceOf_138 1 rfl ?_
  obtain ⟨q1, hb⟩ := hb
  obtain ⟨a2, q3, hb⟩ := hb
  refine g_getR (some a2) C fl_RX5_18 dX5_chanceOf_139 q1 rfl rfl q3 ?_
  refine g_iload C dX5_chanceOf_142 3 rfl ?_
  refine g_iload C dX5_chanceOf_144 0 rfl ?_
  refine g_iconst (v := (-1)) C dX5_chanceOf_146 (by decide) ?_
  refine g_ixor C dX5_chanceOf_147 ?_
  obtain ⟨q4, hb⟩ := hb
  obtain ⟨q5, hb⟩ := hb
  refine g_iast C dX5_chanceOf_148 q4 q5 ?_
  refine g_iinc (v := v8 + (-1)) (lv' := [(8, .int (v8 + (-1))), (7, .int (s0 ||| s1)), (0, .ref v0), (1, .ref v1)]) C dX5_chanceOf_149 3 rfl rfl (hnl_of hΓ (by decide)) (by first | rfl | simp [cat_rf]) ?_
  refine g_goto (tgt := 108) C dX5_chanceOf_152 (by decide) ?_
  refine g_sub (lv' := [(0, .ref v0), (1, .ref v1), (7, .int (s0 ||| s1)), (8, .int (v8 + (-1)))]) [2, 3, 1, 0] rfl ?_
  exact h108 _ _ _ _ _ hb
set_option maxRecDepth 20000 in
theorem kwX5_chanceOf_108 {Γ : hCT} (C : hC Γ RX5 cX5_chanceOf ((Option.some FieldType.long)) "chanceOf" 19 456) {Q : Int64 → St → Prop} (hΓ : Γ.2.2.2.2.2.2.2.2.2.2.2 = (9, 0, 0, oJ Q)) {r108 : Nat → Nat → Int32 → Int32 → St → Prop} (h108 : ∀ (v0 : Nat) (v1 : Nat) (v7 : Int32) (v8 : Int32) (σ : St), r108 v0 v1 v7 v8 σ → hW Γ 0 0 108 [(0, .ref v0), (1, .ref v1), (7, .int v7), (8, .int v8)] [] σ) (v0 : Nat) (v1 : Nat) (v7 : Int32) (v8 : Int32) (σ : St) (hb : wX5_chanceOf_108 Q r108 v0 v1 v7 v8 σ) : hW Γ 0 0 108 [(0, .ref v0), (1, .ref v1), (7, .int v7), (8, .int v8)] [] σ := by
  unfold wX5_chanceOf_108 at hb
  refine g_iload C dX5_chanceOf_108 3 rfl ?_
  refine g_if_lt (tgt := 155) C dX5_chanceOf_110 (by decide) (fun c => ?_) (fun c => ?_)
  ·
    replace hb := hb.1 (c)
    refine g_aload_n (some v0) C dX5_chanceOf_155 0 rfl ?_
    refine g_iconst (v := 0) C dX5_chanceOf_156 (by decide) ?_
    refine g_iconst (v := 1) C dX5_chanceOf_157 (by decide) ?_
    refine g_aload_n (some v1) C dX5_chanceOf_158 1 rfl ?_
    obtain ⟨q1, hb⟩ := hb
    refine g_getIx (zFi σ 130 v1) C fl_RX5_45 dX5_chanceOf_159 q1 rfl rfl rfl ?_
    refine g_ishl C dX5_chanceOf_162 ?_
    refine g_iconst (v := 1) C dX5_chanceOf_163 (by decide) ?_
    refine g_isub C dX5_chanceOf_164 ?_
    obtain ⟨q2, hb⟩ := hb
    refine g_invV (ci := 5) [.int 0, .int (((1 : Int32) <<< ((zFi σ 130 v1) &&& 31)) - 1)] [] zy_X5_partsFrom wd_848 wd_850 wd_27 ⟨_, _, rfl⟩ (by decide) C dX5_chanceOf_165 (by first | exact Nat.le_of_ble_eq_true rfl | simp [cat_rf]) (by first | exact Nat.le_of_ble_eq_true rfl | simp [cat_rf]) (by first | exact Nat.le_of_ble_eq_true rfl | simp [cat_rf]) (Nat.zero_le _) (Nat.zero_le _) rfl rfl q2 (okX5_partsFrom 18 _ _ _ hb) ?_
    rintro o σ3 ⟨y4, rfl, hb⟩
    refine ⟨_, rfl, ?_⟩
    exact g_lreturn C hΓ (Nat.zero_le _) (Nat.zero_le _) dX5_chanceOf_168 ⟨_, rfl, hb⟩
  ·
    replace hb := hb.2 (c)
    refine g_iload C dX5_chanceOf_113 2 rfl ?_
    refine g_iload C dX5_chanceOf_115 3 rfl ?_
    refine g_aload_n (some v0) C dX5_chanceOf_117 0 rfl ?_
    obtain ⟨q5, hb⟩ := hb
    refine g_getIx (zFi σ 323 v0) C fl_RX5_27 dX5_chanceOf_118 q5 rfl rfl rfl ?_
    refine g_icmp_ge (tgt := 134) C dX5_chanceOf_121 (by decide) (fun c => ?_) (fun c => ?_)
    ·
      replace hb := hb.1 (c)
      refine g_iconst (v := 0) C dX5_chanceOf_134 (by decide) ?_
      refine g_sub (lv' := [(0, .ref v0), (1, .ref v1), (8, .int v8)]) [0, 1, 3] rfl ?_
      exact kwX5_chanceOf_135 C hΓ h108 _ _ _ _ _ _ hb
    ·
      replace hb := hb.2 (c)
      refine g_aload_n (some v0) C dX5_chanceOf_124 0 rfl ?_
      obtain ⟨a6, q7, hb⟩ := hb
      refine g_getR (some a6) C fl_RX5_15 dX5_chanceOf_125 q5 rfl rfl q7 ?_
      refine g_iload C dX5_chanceOf_128 3 rfl ?_
      obtain ⟨q8, hb⟩ := hb
      obtain ⟨q9, hb⟩ := hb
      refine g_ialdx (zAi σ a6 (ix v8)) C dX5_chanceOf_130 q8 q9 rfl ?_
      refine g_goto (tgt := 135) C dX5_chanceOf_131 (by decide) ?_
      refine g_sub (lv' := [(0, .ref v0), (1, .ref v1), (8, .int v8)]) [0, 1, 3] rfl ?_
      exact kwX5_chanceOf_135 C hΓ h108 _ _ _ _ _ _ hb
theorem klX5_chanceOf_108 {Γ : hCT} (C : hC Γ RX5 cX5_chanceOf ((Option.some FieldType.long)) "chanceOf" 19 456) {Q : Int64 → St → Prop} (hΓ : Γ.2.2.2.2.2.2.2.2.2.2.2 = (9, 0, 0, oJ Q)) (f : Nat) (v0 : Nat) (v1 : Nat) (v7 : Int32) (v8 : Int32) (σ : St) (hb : lX5_chanceOf_108 Q f v0 v1 v7 v8 σ) : hW Γ 0 0 108 [(0, .ref v0), (1, .ref v1), (7, .int v7), (8, .int v8)] [] σ := by
  induction f generalizing v0 v1 v7 v8 σ with
  | zero => exact hb.elim
  | succ f ih => exact kwX5_chanceOf_108 C hΓ  (fun v0 v1 v7 v8 σ h => ih v0 v1 v7 v8 σ h) _ _ _ _ _ hb
set_option maxRecDepth 20000 in
theorem kwX5_chanceOf_99 {Γ : hCT} (C : hC Γ RX5 cX5_chanceOf ((Option.some FieldType.long)) "chanceOf" 19 456) {Q : Int64 → St → Prop} (hΓ : Γ.2.2.2.2.2.2.2.2.2.2.2 = (9, 0, 0, oJ Q)) (v0 : Nat) (v1 : Nat) (σ : St) (hb : wX5_chanceOf_99 Q v0 v1 σ) : hW Γ 0 0 99 [(0, .ref v0), (1, .ref v1)] [] σ := by
  unfold wX5_chanceOf_99 at hb
  refine g_iconst (v := 0) C dX5_chanceOf_99 (by decide) ?_
  refine g_istore (lv' := [(7, .int 0), (0, .ref v0), (1, .ref v1)]) C dX5_chanceOf_100 (hnl_of hΓ (by decide)) (by first | rfl | simp [cat_rf]) ?_
  refine g_aload_n (some v0) C dX5_chanceOf_102 1 rfl ?_
  obtain ⟨q1, hb⟩ := hb
  refine g_getIx (zFi σ 323 v0) C fl_RX5_27 dX5_chanceOf_103 q1 rfl rfl rfl ?_
  refine g_istore (lv' := [(8, .int (zFi σ 323 v0)), (7, .int 0), (0, .ref v0), (1, .ref v1)]) C dX5_chanceOf_106 (hnl_of hΓ (by decide)) (by first | rfl | simp [cat_rf]) ?_
  refine g_sub (lv' := [(0, .ref v0), (1, .ref v1), (7, .int 0), (8, .int (zFi σ 323 v0))]) [2, 3, 1, 0] rfl ?_
  obtain ⟨f2, hb⟩ := hb
  exact klX5_chanceOf_108 C hΓ  f2 _ _ _ _ _ hb
set_option maxRecDepth 20000 in
theorem kwX5_chanceOf_67 {Γ : hCT} (C : hC Γ RX5 cX5_chanceOf ((Option.some FieldType.long)) "chanceOf" 19 456) {Q : Int64 → St → Prop} (hΓ : Γ.2.2.2.2.2.2.2.2.2.2.2 = (9, 0, 0, oJ Q)) {r14 : Nat → Nat → Nat → Int32 → Int32 → Int64 → Int32 → St → Prop} (h14 : ∀ (v0 : Nat) (v1 : Nat) (v2 : Nat) (v3 : Int32) (v4 : Int32) (v5 : Int64) (v7 : Int32) (σ : St), r14 v0 v1 v2 v3 v4 v5 v7 σ → hW Γ 0 0 14 [(0, .ref v0), (1, .ref v1), (2, .ref v2), (3, .int v3), (4, .int v4), (5, .long v5), (7, .int v7)] [] σ) (v0 : Nat) (v1 : Nat) (v2 : Nat) (v3 : Int32) (v4 : Int32) (v5 : Int64) (v7 : Int32) (s2 : Int32) (s1 : Int32) (s0 : Nat) (σ : St) (hb : wX5_chanceOf_67 Q r14 v0 v1 v2 v3 v4 v5 v7 s2 s1 s0 σ) : hW Γ 0 0 67 [(0, .ref v0), (1, .ref v1), (2, .ref v2), (3, .int v3), (4, .int v4), (5, .long v5), (7, .int v7)] [.int s2, .int s1, .ref s0] σ := by
  unfold wX5_chanceOf_67 at hb
  obtain ⟨q1, hb⟩ := hb
  obtain ⟨q2, hb⟩ := hb
  refine g_iast C dX5_chanceOf_67 q1 q2 ?_
  refine g_aload_n (some v0) C dX5_chanceOf_68 0 rfl ?_
  obtain ⟨q3, hb⟩ := hb
  obtain ⟨a4, q5, hb⟩ := hb
  refine g_getR (some a4) C fl_RX5_15 dX5_chanceOf_69 (by rw [zK_uAi]; exact q3) rfl rfl (by rw [zFr_uAi]; exact q5) ?_
  refine g_aload_n (some v0) C dX5_chanceOf_72 0 rfl ?_
  refine g_getIx (zFi σ 323 v0) C fl_RX5_27 dX5_chanceOf_73 (by rw [zK_uAi]; exact q3) rfl rfl (by rw [zFi_uAi]) ?_
  refine g_aload_n (some v1) C dX5_chanceOf_76 1 rfl ?_
  refine g_iload C dX5_chanceOf_77 6 rfl ?_
  refine g_invS [.ref v1, .int v7] [.int (zFi σ 323 v0), .ref a4] zy_X5_holdersOf wd_845 wd_846 C dX5_chanceOf_79 (by first | exact Nat.le_of_ble_eq_true rfl | simp [cat_rf]) (by first | exact Nat.le_of_ble_eq_true rfl | simp [cat_rf]) (by first | exact Nat.le_of_ble_eq_true rfl | simp [cat_rf]) (Nat.zero_le _) (Nat.zero_le _) rfl rfl  (okX5_holdersOf hb) ?_
  rintro o σ6 ⟨y7, rfl, hb⟩
  refine ⟨_, rfl, ?_⟩
  obtain ⟨q8, hb⟩ := hb
  obtain ⟨q9, hb⟩ := hb
  refine g_iast C dX5_chanceOf_82 q8 q9 ?_
  refine g_aload_n (some v0) C dX5_chanceOf_83 0 rfl ?_
  refine g_dup C dX5_chanceOf_84 rfl ?_
  obtain ⟨q10, hb⟩ := hb
  refine g_getIx (zFi σ6 323 v0) C fl_RX5_27 dX5_chanceOf_85 (by rw [zK_uAi]; exact q10) rfl rfl (by rw [zFi_uAi]) ?_
  refine g_iconst (v := 1) C dX5_chanceOf_88 (by decide) ?_
  refine g_iadd C dX5_chanceOf_89 ?_
  refine g_putI C fl_RX5_27 dX5_chanceOf_90 (by rw [zK_uAi]; exact q10) rfl rfl rfl rfl ?_
  refine g_iinc (v := v7 + 1) (lv' := [(7, .int (v7 + 1)), (0, .ref v0), (1, .ref v1), (2, .ref v2), (3, .int v3), (4, .int v4), (5, .long v5)]) C dX5_chanceOf_93 6 rfl rfl (hnl_of hΓ (by decide)) (by first | rfl | simp [cat_rf]) ?_
  refine g_goto (tgt := 14) C dX5_chanceOf_96 (by decide) ?_
  refine g_sub (lv' := [(0, .ref v0), (1, .ref v1), (2, .ref v2), (3, .int v3), (4, .int v4), (5, .long v5), (7, .int (v7 + 1))]) [1, 2, 3, 4, 5, 6, 0] rfl ?_
  exact h14 _ _ _ _ _ _ _ _ hb
set_option maxRecDepth 20000 in
theorem kwX5_chanceOf_14 {Γ : hCT} (C : hC Γ RX5 cX5_chanceOf ((Option.some FieldType.long)) "chanceOf" 19 456) {Q : Int64 → St → Prop} (hΓ : Γ.2.2.2.2.2.2.2.2.2.2.2 = (9, 0, 0, oJ Q)) {r14 : Nat → Nat → Nat → Int32 → Int32 → Int64 → Int32 → St → Prop} (h14 : ∀ (v0 : Nat) (v1 : Nat) (v2 : Nat) (v3 : Int32) (v4 : Int32) (v5 : Int64) (v7 : Int32) (σ : St), r14 v0 v1 v2 v3 v4 v5 v7 σ → hW Γ 0 0 14 [(0, .ref v0), (1, .ref v1), (2, .ref v2), (3, .int v3), (4, .int v4), (5, .long v5), (7, .int v7)] [] σ) (v0 : Nat) (v1 : Nat) (v2 : Nat) (v3 : Int32) (v4 : Int32) (v5 : Int64) (v7 : Int32) (σ : St) (hb : wX5_chanceOf_14 Q r14 v0 v1 v2 v3 v4 v5 v7 σ) : hW Γ 0 0 14 [(0, .ref v0), (1, .ref v1), (2, .ref v2), (3, .int v3), (4, .int v4), (5, .long v5), (7, .int v7)] [] σ := by
  unfold wX5_chanceOf_14 at hb
  refine g_iload C dX5_chanceOf_14 6 rfl ?_
  refine g_bipush (v := 60) C dX5_chanceOf_16 (by decide) ?_
  refine g_icmp_ge (tgt := 99) C dX5_chanceOf_18 (by decide) (fun c => ?_) (fun c => ?_)
  ·
    replace hb := hb.1 (c)
    refine g_sub (lv' := [(0, .ref v0), (1, .ref v1)]) [0, 1] rfl ?_
    exact kwX5_chanceOf_99 C hΓ  _ _ _ hb
  ·
    replace hb := hb.2 (c)
    refine g_aload_n (some v0) C dX5_chanceOf_21 0 rfl ?_
    obtain ⟨q1, hb⟩ := hb
    refine g_getIx (zFi σ 323 v0) C fl_RX5_27 dX5_chanceOf_22 q1 rfl rfl rfl ?_
    refine g_bipush (v := 16) C dX5_chanceOf_25 (by decide) ?_
    refine g_icmp_ge (tgt := 99) C dX5_chanceOf_27 (by decide) (fun c => ?_) (fun c => ?_)
    ·
      replace hb := hb.1 (c)
      refine g_sub (lv' := [(0, .ref v0), (1, .ref v1)]) [0, 1] rfl ?_
      exact kwX5_chanceOf_99 C hΓ  _ _ _ hb
    ·
      replace hb := hb.2 (c)
      refine g_lload C dX5_chanceOf_30 5 rfl ?_
      refine g_iload C dX5_chanceOf_32 6 rfl ?_
      refine g_invSN [.long v5, .int v7] [] zy_X11_has wn_843 wd_442 C dX5_chanceOf_34 (by first | exact Nat.le_of_ble_eq_true rfl | simp [cat_rf]) (by first | exact Nat.le_of_ble_eq_true rfl | simp [cat_rf]) (by first | exact Nat.le_of_ble_eq_true rfl | simp [cat_rf]) (Nat.zero_le _) (Nat.zero_le _) rfl rfl  (okX11_has hb) ?_
      rintro o σ2 ⟨y3, rfl, hb⟩
      refine ⟨_, rfl, ?_⟩
      refine g_if_eq (tgt := 93) C dX5_chanceOf_37 (by decide) (fun c => ?_) (fun c => ?_)
      ·
        replace hb := hb.1 (c)
        refine g_iinc (v := v7 + 1) (lv' := [(7, .int (v7 + 1)), (0, .ref v0), (1, .ref v1), (2, .ref v2), (3, .int v3), (4, .int v4), (5, .long v5)]) C dX5_chanceOf_93 6 rfl rfl (hnl_of hΓ (by decide)) (by first | rfl | simp [cat_rf]) ?_
        refine g_goto (tgt := 14) C dX5_chanceOf_96 (by decide) ?_
        refine g_sub (lv' := [(0, .ref v0), (1, .ref v1), (2, .ref v2), (3, .int v3), (4, .int v4), (5, .long v5), (7, .int (v7 + 1))]) [1, 2, 3, 4, 5, 6, 0] rfl ?_
        exact h14 _ _ _ _ _ _ _ _ hb
      ·
        replace hb := hb.2 (c)
        refine g_aload_n (some v0) C dX5_chanceOf_40 0 rfl ?_
        obtain ⟨q4, hb⟩ := hb
        obtain ⟨a5, q6, hb⟩ := hb
        refine g_getR (some a5) C fl_RX5_9 dX5_chanceOf_41 q4 rfl rfl q6 ?_
        refine g_aload_n (some v0) C dX5_chanceOf_44 0 rfl ?_
        refine g_getIx (zFi σ2 323 v0) C fl_RX5_27 dX5_chanceOf_45 q4 rfl rfl rfl ?_
        refine g_iload C dX5_chanceOf_48 6 rfl ?_
        refine g_iload_n C dX5_chanceOf_50 3 rfl ?_
        refine g_icmp_ne (tgt := 59) C dX5_chanceOf_51 (by decide) (fun c => ?_) (fun c => ?_)
        ·
          replace hb := hb.1 (c)
          refine g_aload_n (some v2) C dX5_chanceOf_59 2 rfl ?_
          refine g_iload C dX5_chanceOf_60 6 rfl ?_
          refine g_iconst (v := 3) C dX5_chanceOf_62 (by decide) ?_
          obtain ⟨q7, hb⟩ := hb
          refine g_invV (ci := 6) [.int v7, .int 3] [.int (zFi σ2 323 v0), .ref a5] zy_X6_weight wd_844 wd_452 wd_453 ⟨_, _, rfl⟩ (by decide) C dX5_chanceOf_63 (by first | exact Nat.le_of_ble_eq_true rfl | simp [cat_rf]) (by first | exact Nat.le_of_ble_eq_true rfl | simp [cat_rf]) (by first | exact Nat.le_of_ble_eq_true rfl | simp [cat_rf]) (Nat.zero_le _) (Nat.zero_le _) rfl rfl q7 (okX6_weight hb) ?_
          rintro o σ8 ⟨y9, rfl, hb⟩
          refine ⟨_, rfl, ?_⟩
          refine g_l2i C dX5_chanceOf_66 ?_
          refine g_sub (lv' := [(0, .ref v0), (1, .ref v1), (2, .ref v2), (3, .int v3), (4, .int v4), (5, .long v5), (7, .int v7)]) [0, 1, 2, 3, 4, 5, 6] rfl ?_
          exact kwX5_chanceOf_67 C hΓ h14 _ _ _ _ _ _ _ _ _ _ _ hb
        ·
          replace hb := hb.2 (c)
          refine g_iload C dX5_chanceOf_54 4 rfl ?_
          refine g_goto (tgt := 67) C dX5_chanceOf_56 (by decide) ?_
          refine g_sub (lv' := [(0, .ref v0), (1, .ref v1), (2, .ref v2), (3, .int v3), (4, .int v4), (5, .long v5), (7, .int v7)]) [0, 1, 2, 3, 4, 5, 6] rfl ?_
          exact kwX5_chanceOf_67 C hΓ h14 _ _ _ _ _ _ _ _ _ _ _ hb
theorem klX5_chanceOf_14 {Γ : hCT} (C : hC Γ RX5 cX5_chanceOf ((Option.some FieldType.long)) "chanceOf" 19 456) {Q : Int64 → St → Prop} (hΓ : Γ.2.2.2.2.2.2.2.2.2.2.2 = (9, 0, 0, oJ Q)) (f : Nat) (v0 : Nat) (v1 : Nat) (v2 : Nat) (v3 : Int32) (v4 : Int32) (v5 : Int64) (v7 : Int32) (σ : St) (hb : lX5_chanceOf_14 Q f v0 v1 v2 v3 v4 v5 v7 σ) : hW Γ 0 0 14 [(0, .ref v0), (1, .ref v1), (2, .ref v2), (3, .int v3), (4, .int v4), (5, .long v5), (7, .int v7)] [] σ := by
  induction f generalizing v0 v1 v2 v3 v4 v5 v7 σ with
  | zero => exact hb.elim
  | succ f ih => exact kwX5_chanceOf_14 C hΓ  (fun v0 v1 v2 v3 v4 v5 v7 σ h => ih v0 v1 v2 v3 v4 v5 v7 σ h) _ _ _ _ _ _ _ _ hb
set_option maxRecDepth 20000 in
theorem kwX5_chanceOf_0 {Γ : hCT} (C : hC Γ RX5 cX5_chanceOf ((Option.some FieldType.long)) "chanceOf" 19 456) {Q : Int64 → St → Prop} (hΓ : Γ.2.2.2.2.2.2.2.2.2.2.2 = (9, 0, 0, oJ Q)) (v0 : Nat) (v1 : Nat) (v2 : Nat) (v3 : Int32) (v4 : Int32) (σ : St) (hb : wX5_chanceOf_0 Q v0 v1 v2 v3 v4 σ) : hW Γ 0 0 0 [(0, .ref v0), (1, .ref v1), (2, .ref v2), (3, .int v3), (4, .int v4)] [] σ := by
  unfold wX5_chanceOf_0 at hb
  refine g_aload_n (some v1) C dX5_chanceOf_0 1 rfl ?_
  obtain ⟨q1, hb⟩ := hb
  refine g_invV (ci := 2) [] [] zy_X2_inAnyWay wd_842 wd_829 wd_830 ⟨_, _, rfl⟩ (by decide) C dX5_chanceOf_1 (by first | exact Nat.le_of_ble_eq_true rfl | simp [cat_rf]) (by first | exact Nat.le_of_ble_eq_true rfl | simp [cat_rf]) (by first | exact Nat.le_of_ble_eq_true rfl | simp [cat_rf]) (Nat.zero_le _) (Nat.zero_le _) rfl rfl q1 (okX2_inAnyWay hb) ?_
  rintro o σ2 ⟨y3, rfl, hb⟩
  refine ⟨_, rfl, ?_⟩
  refine g_lstore (lv' := [(5, .long y3), (0, .ref v0), (1, .ref v1), (2, .ref v2), (3, .int v3), (4, .int v4)]) C dX5_chanceOf_4 (hnl_of hΓ (by decide)) (by first | rfl | simp [cat_rf]) ?_
  refine g_aload_n (some v0) C dX5_chanceOf_6 1 rfl ?_
  refine g_iconst (v := 0) C dX5_chanceOf_7 (by decide) ?_
  obtain ⟨q4, hb⟩ := hb
  refine g_putI C fl_RX5_27 dX5_chanceOf_8 q4 rfl rfl rfl rfl ?_
  refine g_iconst (v := 0) C dX5_chanceOf_11 (by decide) ?_
  refine g_istore (lv' := [(7, .int 0), (5, .long y3), (0, .ref v0), (1, .ref v1), (2, .ref v2), (3, .int v3), (4, .int v4)]) C dX5_chanceOf_12 (hnl_of hΓ (by decide)) (by first | rfl | simp [cat_rf]) ?_
  refine g_sub (lv' := [(0, .ref v0), (1, .ref v1), (2, .ref v2), (3, .int v3), (4, .int v4), (5, .long y3), (7, .int 0)]) [2, 3, 4, 5, 6, 1, 0] rfl ?_
  obtain ⟨f5, hb⟩ := hb
  exact klX5_chanceOf_14 C hΓ  f5 _ _ _ _ _ _ _ _ hb
theorem okX5_chanceOf {v0 : Nat} {v1 : Nat} {v2 : Nat} {v3 : Int32} {v4 : Int32} {σ : St} {Q : Int64 → St → Prop} (hb : wX5_chanceOf v0 v1 v2 v3 v4 σ Q) : hM yX5_chanceOf cX5_chanceOf 9 ((Option.some FieldType.long)) 19 456 0 0 [.ref v0, .ref v1, .ref v2, .int v3, .int v4] σ (oJ Q) :=
  hM_of (by decide) (Nat.le_of_ble_eq_true rfl) (fun Γ hΓ C => kwX5_chanceOf_0 C hΓ _ _ _ _ _ _ hb)
def wX11_chance_0 (Q : Int64 → St → Prop) (v0 : Nat) (v1 : Int32) (σ : St) : Prop :=
  zK σ v0 = 12 ∧ wX11_weighable v0 v1 σ (fun y3 σ2 => ((y3 = none → Q (-1) σ2) ∧ (∀ a4 : Nat, y3 = some a4 → zK σ2 v0 = 12 ∧ ∃ a6 : Nat, zFr σ2 710 v0 = some a6 ∧ ∃ a8 : Nat, zFr σ2 704 v0 = some a8 ∧ zK σ2 a6 = 6 ∧ wX5_chanceOf a6 a4 a8 (-1) 0 σ2 (fun y12 σ11 => Q y12 σ11))))
def wX11_chance (v0 : Nat) (v1 : Int32) (σ : St) (Q : Int64 → St → Prop) : Prop := wX11_chance_0 Q v0 v1 σ
set_option maxRecDepth 20000 in
theorem kwX11_chance_0 {Γ : hCT} (C : hC Γ RX11 cX11_chance ((Option.some FieldType.long)) "chance" 20 484) {Q : Int64 → St → Prop} (hΓ : Γ.2.2.2.2.2.2.2.2.2.2.2 = (3, 0, 0, oJ Q)) (v0 : Nat) (v1 : Int32) (σ : St) (hb : wX11_chance_0 Q v0 v1 σ) : hW Γ 0 0 0 [(0, .ref v0), (1, .int v1)] [] σ := by
  unfold wX11_chance_0 at hb
  refine g_aload_n (some v0) C dX11_chance_0 0 rfl ?_
  refine g_iload_n C dX11_chance_1 1 rfl ?_
  obtain ⟨q1, hb⟩ := hb
  refine g_invV (ci := 11) [.int v1] [] zy_X11_weighable wd_824 wd_826 wd_26 ⟨_, _, rfl⟩ (by decide) C dX11_chance_2 (by first | exact Nat.le_of_ble_eq_true rfl | simp [cat_rf]) (by first | exact Nat.le_of_ble_eq_true rfl | simp [cat_rf]) (by first | exact Nat.le_of_ble_eq_true rfl | simp [cat_rf]) (Nat.zero_le _) (Nat.zero_le _) rfl rfl q1 (okX11_weighable hb) ?_
  rintro o σ2 ⟨y3, rfl, hb⟩
  refine ⟨_, rfl, ?_⟩
  refine g_astore_n (i := 2) (lv' := [(2, va_rf y3), (0, .ref v0), (1, .int v1)]) y3 C dX11_chance_5 rfl (hnl_of hΓ (by decide)) (by first | rfl | simp [cat_rf]) ?_
  refine g_aload_n y3 C dX11_chance_6 0 rfl ?_
  refine g_ifnonnull (tgt := 14) y3 C dX11_chance_7 (by decide) (fun c => ?_) (fun c => ?_)
  ·
    obtain ⟨a4, rfl⟩ := rf_some c
    replace hb := hb.2 a4 rfl
    refine g_aload_n (some v0) C dX11_chance_14 1 rfl ?_
    obtain ⟨q5, hb⟩ := hb
    obtain ⟨a6, q7, hb⟩ := hb
    refine g_getR (some a6) C fl_RX11_43 dX11_chance_15 q5 rfl rfl q7 ?_
    refine g_aload_n (some a4) C dX11_chance_18 0 rfl ?_
    refine g_aload_n (some v0) C dX11_chance_19 1 rfl ?_
    obtain ⟨a8, q9, hb⟩ := hb
    refine g_getR (some a8) C fl_RX11_12 dX11_chance_20 q5 rfl rfl q9 ?_
    refine g_iconst (v := (-1)) C dX11_chance_23 (by decide) ?_
    refine g_iconst (v := 0) C dX11_chance_24 (by decide) ?_
    obtain ⟨q10, hb⟩ := hb
    refine g_invV (ci := 5) [.ref a4, .ref a8, .int (-1), .int 0] [] zy_X5_chanceOf wd_838 wd_839 wd_840 ⟨_, _, rfl⟩ (by decide) C dX11_chance_25 (by first | exact Nat.le_of_ble_eq_true rfl | simp [cat_rf]) (by first | exact Nat.le_of_ble_eq_true rfl | simp [cat_rf]) (by first | exact Nat.le_of_ble_eq_true rfl | simp [cat_rf]) (Nat.zero_le _) (Nat.zero_le _) rfl rfl q10 (okX5_chanceOf hb) ?_
    rintro o σ11 ⟨y12, rfl, hb⟩
    refine ⟨_, rfl, ?_⟩
    exact g_lreturn C hΓ (Nat.zero_le _) (Nat.zero_le _) dX11_chance_28 ⟨_, rfl, hb⟩
  ·
    replace hb := hb.1 c
    refine g_ldc2 C wd_463 dX11_chance_10 ?_
    exact g_lreturn C hΓ (Nat.zero_le _) (Nat.zero_le _) dX11_chance_13 ⟨_, rfl, hb⟩
theorem okX11_chance {v0 : Nat} {v1 : Int32} {σ : St} {Q : Int64 → St → Prop} (hb : wX11_chance v0 v1 σ Q) : hM yX11_chance cX11_chance 3 ((Option.some FieldType.long)) 20 484 0 0 [.ref v0, .int v1] σ (oJ Q) :=
  hM_of (by decide) (Nat.le_of_ble_eq_true rfl) (fun Γ hΓ C => kwX11_chance_0 C hΓ _ _ _ hb)
def wX11_share_22 (Q : Int64 → St → Prop) (v0 : Nat) (σ : St) : Prop :=
  zK σ v0 = 12 ∧ wX11_refused v0 1 σ (fun y3 σ2 => Q (Int32.toInt64 y3) σ2)
def wX11_share_0 (Q : Int64 → St → Prop) (v0 : Nat) (v1 : Int32) (v2 : Int32) (σ : St) : Prop :=
  zK σ v0 = 12 ∧ ∃ a2 : Nat, zFr σ 708 v0 = some a2 ∧ zK σ a2 = 4 ∧ wX3_at a2 v1 σ (fun y6 σ5 => ((y6 = none → wX11_share_22 Q v0 σ5) ∧ (∀ a7 : Nat, y6 = some a7 → zK σ5 v0 = 12 ∧ ∃ a9 : Nat, zFr σ5 704 v0 = some a9 ∧ zK σ5 a9 = 7 ∧ wX6_isFact a9 v2 σ5 (fun y13 σ12 => ((¬ y13 = 0 → zK σ12 v0 = 12 ∧ wX11_weighable v0 v1 σ12 (fun y16 σ15 => ((y16 = none → Q (-1) σ15) ∧ (∀ a17 : Nat, y16 = some a17 → zK σ15 a17 = 3 ∧ wX2_inAnyWay a17 σ15 (fun y20 σ19 => wX11_has y20 v2 σ19 (fun y22 σ21 => ((¬ y22 = 0 → zK σ21 v0 = 12 ∧ ∃ a24 : Nat, zFr σ21 710 v0 = some a24 ∧ ∃ a26 : Nat, zFr σ21 704 v0 = some a26 ∧ zK σ21 a24 = 6 ∧ wX5_chanceOf a24 a17 a26 v2 8 σ21 (fun y30 σ29 => zK σ29 v0 = 12 ∧ ∃ a32 : Nat, zFr σ29 710 v0 = some a32 ∧ ∃ a34 : Nat, zFr σ29 704 v0 = some a34 ∧ zK σ29 a32 = 6 ∧ wX5_chanceOf a32 a17 a34 v2 0 σ29 (fun y38 σ37 => Q (y30 - y38) σ37))) ∧ (y22 = 0 → Q 0 σ21)))))))) ∧ (y13 = 0 → wX11_share_22 Q v0 σ12))))))
def wX11_share (v0 : Nat) (v1 : Int32) (v2 : Int32) (σ : St) (Q : Int64 → St → Prop) : Prop := wX11_share_0 Q v0 v1 v2 σ
set_option maxRecDepth 20000 in
theorem kwX11_share_22 {Γ : hCT} (C : hC Γ RX11 cX11_share ((Option.some FieldType.long)) "share" 20 484) {Q : Int64 → St → Prop} (hΓ : Γ.2.2.2.2.2.2.2.2.2.2.2 = (4, 0, 0, oJ Q)) (v0 : Nat) (σ : St) (hb : wX11_share_22 Q v0 σ) : hW Γ 0 0 22 [(0, .ref v0)] [] σ := by
  unfold wX11_share_22 at hb
  refine g_aload_n (some v0) C dX11_share_22 0 rfl ?_
  refine g_iconst (v := 1) C dX11_share_23 (by decide) ?_
  obtain ⟨q1, hb⟩ := hb
  refine g_invV (ci := 11) [.int 1] [] zy_X11_refused wd_361 wd_363 wd_0 ⟨_, _, rfl⟩ (by decide) C dX11_share_24 (by first | exact Nat.le_of_ble_eq_true rfl | simp [cat_rf]) (by first | exact Nat.le_of_ble_eq_true rfl | simp [cat_rf]) (by first | exact Nat.le_of_ble_eq_true rfl | simp [cat_rf]) (Nat.zero_le _) (Nat.zero_le _) rfl rfl q1 (okX11_refused hb) ?_
  rintro o σ2 ⟨y3, rfl, hb⟩
  refine ⟨_, rfl, ?_⟩
  refine g_i2l C dX11_share_27 ?_
  exact g_lreturn C hΓ (Nat.zero_le _) (Nat.zero_le _) dX11_share_28 ⟨_, rfl, hb⟩
set_option maxRecDepth 20000 in
theorem kwX11_share_0 {Γ : hCT} (C : hC Γ RX11 cX11_share ((Option.some FieldType.long)) "share" 20 484) {Q : Int64 → St → Prop} (hΓ : Γ.2.2.2.2.2.2.2.2.2.2.2 = (4, 0, 0, oJ Q)) (v0 : Nat) (v1 : Int32) (v2 : Int32) (σ : St) (hb : wX11_share_0 Q v0 v1 v2 σ) : hW Γ 0 0 0 [(0, .ref v0), (1, .int v1), (2, .int v2)] [] σ := by
  unfold wX11_share_0 at hb
  refine g_aload_n (some v0) C dX11_share_0 0 rfl ?_
  obtain ⟨q1, hb⟩ := hb
  obtain ⟨a2, q3, hb⟩ := hb
  refine g_getR (some a2) C fl_RX11_36 dX11_share_1 q1 rfl rfl q3 ?_
  refine g_iload_n C dX11_share_4 1 rfl ?_
  obtain ⟨q4, hb⟩ := hb
  refine g_invV (ci := 3) [.int v1] [] zy_X3_at wd_769 wd_751 wd_752 ⟨_, _, rfl⟩ (by decide) C dX11_share_5 (by first | exact Nat.le_of_ble_eq_true rfl | simp [cat_rf]) (by first | exact Nat.le_of_ble_eq_true rfl | simp [cat_rf]) (by first | exact Nat.le_of_ble_eq_true rfl | simp [cat_rf]) (Nat.zero_le _) (Nat.zero_le _) rfl rfl q4 (okX3_at hb) ?_
  rintro o σ5 ⟨y6, rfl, hb⟩
  refine ⟨_, rfl, ?_⟩
  refine g_ifnull (tgt := 22) y6 C dX11_share_8 (by decide) (fun c => ?_) (fun c => ?_)
  ·
    replace hb := hb.1 c
    refine g_sub (lv' := [(0, .ref v0)]) [0] rfl ?_
    exact kwX11_share_22 C hΓ  _ _ hb
  ·
    obtain ⟨a7, rfl⟩ := rf_some c
    replace hb := hb.2 a7 rfl
    refine g_aload_n (some v0) C dX11_share_11 0 rfl ?_
    obtain ⟨q8, hb⟩ := hb
    obtain ⟨a9, q10, hb⟩ := hb
    refine g_getR (some a9) C fl_RX11_12 dX11_share_12 q8 rfl rfl q10 ?_
    refine g_iload_n C dX11_share_15 2 rfl ?_
    obtain ⟨q11, hb⟩ := hb
    refine g_invV (ci := 6) [.int v2] [] zy_X6_isFact wd_433 wd_434 wd_435 ⟨_, _, rfl⟩ (by decide) C dX11_share_16 (by first | exact Nat.le_of_ble_eq_true rfl | simp [cat_rf]) (by first | exact Nat.le_of_ble_eq_true rfl | simp [cat_rf]) (by first | exact Nat.le_of_ble_eq_true rfl | simp [cat_rf]) (Nat.zero_le _) (Nat.zero_le _) rfl rfl q11 (okX6_isFact hb) ?_
    rintro o σ12 ⟨y13, rfl, hb⟩
    refine ⟨_, rfl, ?_⟩
    refine g_if_ne (tgt := 29) C dX11_share_19 (by decide) (fun c => ?_) (fun c => ?_)
    ·
      replace hb := hb.1 (c)
      refine g_aload_n (some v0) C dX11_share_29 0 rfl ?_
      refine g_iload_n C dX11_share_30 1 rfl ?_
      obtain ⟨q14, hb⟩ := hb
      refine g_invV (ci := 11) [.int v1] [] zy_X11_weighable wd_824 wd_826 wd_26 ⟨_, _, rfl⟩ (by decide) C dX11_share_31 (by first | exact Nat.le_of_ble_eq_true rfl | simp [cat_rf]) (by first | exact Nat.le_of_ble_eq_true rfl | simp [cat_rf]) (by first | exact Nat.le_of_ble_eq_true rfl | simp [cat_rf]) (Nat.zero_le _) (Nat.zero_le _) rfl rfl q14 (okX11_weighable hb) ?_
      rintro o σ15 ⟨y16, rfl, hb⟩
      refine ⟨_, rfl, ?_⟩
      refine g_astore_n (i := 3) (lv' := [(3, va_rf y16), (0, .ref v0), (1, .int v1), (2, .int v2)]) y16 C dX11_share_34 rfl (hnl_of hΓ (by decide)) (by first | rfl | simp [cat_rf]) ?_
      refine g_aload_n y16 C dX11_share_35 0 rfl ?_
      refine g_ifnonnull (tgt := 43) y16 C dX11_share_36 (by decide) (fun c => ?_) (fun c => ?_)
      ·
        obtain ⟨a17, rfl⟩ := rf_some c
        replace hb := hb.2 a17 rfl
        refine g_aload_n (some a17) C dX11_share_43 0 rfl ?_
        obtain ⟨q18, hb⟩ := hb
        refine g_invV (ci := 2) [] [] zy_X2_inAnyWay wd_828 wd_829 wd_830 ⟨_, _, rfl⟩ (by decide) C dX11_share_44 (by first | exact Nat.le_of_ble_eq_true rfl | simp [cat_rf]) (by first | exact Nat.le_of_ble_eq_true rfl | simp [cat_rf]) (by first | exact Nat.le_of_ble_eq_true rfl | simp [cat_rf]) (Nat.zero_le _) (Nat.zero_le _) rfl rfl q18 (okX2_inAnyWay hb) ?_
        rintro o σ19 ⟨y20, rfl, hb⟩
        refine ⟨_, rfl, ?_⟩
        refine g_iload_n C dX11_share_47 3 rfl ?_
        refine g_invS [.long y20, .int v2] [] zy_X11_has wd_857 wd_442 C dX11_share_48 (by first | exact Nat.le_of_ble_eq_true rfl | simp [cat_rf]) (by first | exact Nat.le_of_ble_eq_true rfl | simp [cat_rf]) (by first | exact Nat.le_of_ble_eq_true rfl | simp [cat_rf]) (Nat.zero_le _) (Nat.zero_le _) rfl rfl  (okX11_has hb) ?_
        rintro o σ21 ⟨y22, rfl, hb⟩
        refine ⟨_, rfl, ?_⟩
        refine g_if_ne (tgt := 56) C dX11_share_51 (by decide) (fun c => ?_) (fun c => ?_)
        ·
          replace hb := hb.1 (c)
          refine g_aload_n (some v0) C dX11_share_56 1 rfl ?_
          obtain ⟨q23, hb⟩ := hb
          obtain ⟨a24, q25, hb⟩ := hb
          refine g_getR (some a24) C fl_RX11_43 dX11_share_57 q23 rfl rfl q25 ?_
          refine g_aload_n (some a17) C dX11_share_60 0 rfl ?_
          refine g_aload_n (some v0) C dX11_share_61 1 rfl ?_
          obtain ⟨a26, q27, hb⟩ := hb
          refine g_getR (some a26) C fl_RX11_12 dX11_share_62 q23 rfl rfl q27 ?_
          refine g_iload_n C dX11_share_65 3 rfl ?_
          refine g_bipush (v := 8) C dX11_share_66 (by decide) ?_
          obtain ⟨q28, hb⟩ := hb
          refine g_invV (ci := 5) [.ref a17, .ref a26, .int v2, .int 8] [] zy_X5_chanceOf wd_838 wd_839 wd_840 ⟨_, _, rfl⟩ (by decide) C dX11_share_68 (by first | exact Nat.le_of_ble_eq_true rfl | simp [cat_rf]) (by first | exact Nat.le_of_ble_eq_true rfl | simp [cat_rf]) (by first | exact Nat.le_of_ble_eq_true rfl | simp [cat_rf]) (Nat.zero_le _) (Nat.zero_le _) rfl rfl q28 (okX5_chanceOf hb) ?_
          rintro o σ29 ⟨y30, rfl, hb⟩
          refine ⟨_, rfl, ?_⟩
          refine g_aload_n (some v0) C dX11_share_71 1 rfl ?_
          obtain ⟨q31, hb⟩ := hb
          obtain ⟨a32, q33, hb⟩ := hb
          refine g_getR (some a32) C fl_RX11_43 dX11_share_72 q31 rfl rfl q33 ?_
          refine g_aload_n (some a17) C dX11_share_75 0 rfl ?_
          refine g_aload_n (some v0) C dX11_share_76 1 rfl ?_
          obtain ⟨a34, q35, hb⟩ := hb
          refine g_getR (some a34) C fl_RX11_12 dX11_share_77 q31 rfl rfl q35 ?_
          refine g_iload_n C dX11_share_80 3 rfl ?_
          refine g_iconst (v := 0) C dX11_share_81 (by decide) ?_
          obtain ⟨q36, hb⟩ := hb
          refine g_invV (ci := 5) [.ref a17, .ref a34, .int v2, .int 0] [.long y30] zy_X5_chanceOf wd_838 wd_839 wd_840 ⟨_, _, rfl⟩ (by decide) C dX11_share_82 (by first | exact Nat.le_of_ble_eq_true rfl | simp [cat_rf]) (by first | exact Nat.le_of_ble_eq_true rfl | simp [cat_rf]) (by first | exact Nat.le_of_ble_eq_true rfl | simp [cat_rf]) (Nat.zero_le _) (Nat.zero_le _) rfl rfl q36 (okX5_chanceOf hb) ?_
          rintro o σ37 ⟨y38, rfl, hb⟩
          refine ⟨_, rfl, ?_⟩
          refine g_lsub C dX11_share_85 ?_
          exact g_lreturn C hΓ (Nat.zero_le _) (Nat.zero_le _) dX11_share_86 ⟨_, rfl, hb⟩
        ·
          replace hb := hb.2 (c)
          refine g_lconst (v := 0) C dX11_share_54 (by decide) ?_
          exact g_lreturn C hΓ (Nat.zero_le _) (Nat.zero_le _) dX11_share_55 ⟨_, rfl, hb⟩
      ·
        replace hb := hb.1 c
        refine g_ldc2 C wd_463 dX11_share_39 ?_
        exact g_lreturn C hΓ (Nat.zero_le _) (Nat.zero_le _) dX11_share_42 ⟨_, rfl, hb⟩
    ·
      replace hb := hb.2 (c)
      refine g_sub (lv' := [(0, .ref v0)]) [0] rfl ?_
      exact kwX11_share_22 C hΓ  _ _ hb
theorem okX11_share {v0 : Nat} {v1 : Int32} {v2 : Int32} {σ : St} {Q : Int64 → St → Prop} (hb : wX11_share v0 v1 v2 σ Q) : hM yX11_share cX11_share 4 ((Option.some FieldType.long)) 20 484 0 0 [.ref v0, .int v1, .int v2] σ (oJ Q) :=
  hM_of (by decide) (Nat.le_of_ble_eq_true rfl) (fun Γ hΓ C => kwX11_share_0 C hΓ _ _ _ _ hb)
def wX8_firstMissed_2 (Q : Int64 → St → Prop) (r2 : Nat → Int64 → Int32 → St → Prop) (v0 : Nat) (v1 : Int64) (v3 : Int32) (σ : St) : Prop :=
  zK σ v0 = 9 ∧ (((zFi σ 513 v0) ≤ v3 → Q 0 σ) ∧ (¬ (zFi σ 513 v0) ≤ v3 → ∃ a2 : Nat, zFr σ 512 v0 = some a2 ∧ zK σ a2 = 21 ∧ vp_in v3 (zL σ a2) ∧ ((¬ ((zAj σ a2 (ix v3)) &&& v1) = 0 → r2 v0 v1 (v3 + 1) σ) ∧ (((zAj σ a2 (ix v3)) &&& v1) = 0 → Q (zAj σ a2 (ix v3)) σ))))
def lX8_firstMissed_2 (Q : Int64 → St → Prop) : Nat → Nat → Int64 → Int32 → St → Prop
  | 0, _, _, _, _ => False
  | f + 1, v0, v1, v3, σ => wX8_firstMissed_2 Q (lX8_firstMissed_2 Q f) v0 v1 v3 σ
def wX8_firstMissed_0 (Q : Int64 → St → Prop) (v0 : Nat) (v1 : Int64) (σ : St) : Prop :=
  ∃ f, lX8_firstMissed_2 Q f v0 v1 0 σ
def wX8_firstMissed (v0 : Nat) (v1 : Int64) (σ : St) (Q : Int64 → St → Prop) : Prop := wX8_firstMissed_0 Q v0 v1 σ
set_option maxRecDepth 20000 in
theorem kwX8_firstMissed_2 {Γ : hCT} (C : hC Γ RX8 cX8_firstMissed ((Option.some FieldType.long)) "firstMissed" 0 0) {Q : Int64 → St → Prop} (hΓ : Γ.2.2.2.2.2.2.2.2.2.2.2 = (4, 0, 0, oJ Q)) {r2 : Nat → Int64 → Int32 → St → Prop} (h2 : ∀ (v0 : Nat) (v1 : Int64) (v3 : Int32) (σ : St), r2 v0 v1 v3 σ → hW Γ 0 0 2 [(0, .ref v0), (1, .long v1), (3, .int v3)] [] σ) (v0 : Nat) (v1 : Int64) (v3 : Int32) (σ : St) (hb : wX8_firstMissed_2 Q r2 v0 v1 v3 σ) : hW Γ 0 0 2 [(0, .ref v0), (1, .long v1), (3, .int v3)] [] σ := by
  unfold wX8_firstMissed_2 at hb
  refine g_iload_n C dX8_firstMissed_2 2 rfl ?_
  refine g_aload_n (some v0) C dX8_firstMissed_3 0 rfl ?_
  obtain ⟨q1, hb⟩ := hb
  refine g_getIx (zFi σ 513 v0) C fl_RX8_21 dX8_firstMissed_4 q1 rfl rfl rfl ?_
  refine g_icmp_ge (tgt := 36) C dX8_firstMissed_7 (by decide) (fun c => ?_) (fun c => ?_)
  ·
    replace hb := hb.1 (c)
    refine g_lconst (v := 0) C dX8_firstMissed_36 (by decide) ?_
    exact g_lreturn C hΓ (Nat.zero_le _) (Nat.zero_le _) dX8_firstMissed_37 ⟨_, rfl, hb⟩
  ·
    replace hb := hb.2 (c)
    refine g_aload_n (some v0) C dX8_firstMissed_10 0 rfl ?_
    obtain ⟨a2, q3, hb⟩ := hb
    refine g_getR (some a2) C fl_RX8_9 dX8_firstMissed_11 q1 rfl rfl q3 ?_
    refine g_iload_n C dX8_firstMissed_14 2 rfl ?_
    obtain ⟨q4, hb⟩ := hb
    obtain ⟨q5, hb⟩ := hb
    refine g_laldx (zAj σ a2 (ix v3)) C dX8_firstMissed_15 q4 q5 rfl ?_
    refine g_lload_n C dX8_firstMissed_16 1 rfl ?_
    refine g_land C dX8_firstMissed_17 ?_
    refine g_lconst (v := 0) C dX8_firstMissed_18 (by decide) ?_
    refine g_lcmp C dX8_firstMissed_19 ?_
    refine g_if_ne (tgt := 30) C dX8_firstMissed_20 (by decide) (fun c => ?_) (fun c => ?_)
    ·
      replace hb := hb.1 (lc_ne.mp c)
      refine g_iinc (v := v3 + 1) (lv' := [(3, .int (v3 + 1)), (0, .ref v0), (1, .long v1)]) C dX8_firstMissed_30 2 rfl rfl (hnl_of hΓ (by decide)) (by first | rfl | simp [cat_rf]) ?_
      refine g_goto (tgt := 2) C dX8_firstMissed_33 (by decide) ?_
      refine g_sub (lv' := [(0, .ref v0), (1, .long v1), (3, .int (v3 + 1))]) [1, 2, 0] rfl ?_
      exact h2 _ _ _ _ hb
    ·
      replace hb := hb.2 (lcn_ne.mp c)
      refine g_aload_n (some v0) C dX8_firstMissed_23 0 rfl ?_
      refine g_getR (some a2) C fl_RX8_9 dX8_firstMissed_24 q1 rfl rfl q3 ?_
      refine g_iload_n C dX8_firstMissed_27 2 rfl ?_
      refine g_laldx (zAj σ a2 (ix v3)) C dX8_firstMissed_28 q4 q5 rfl ?_
      exact g_lreturn C hΓ (Nat.zero_le _) (Nat.zero_le _) dX8_firstMissed_29 ⟨_, rfl, hb⟩
theorem klX8_firstMissed_2 {Γ : hCT} (C : hC Γ RX8 cX8_firstMissed ((Option.some FieldType.long)) "firstMissed" 0 0) {Q : Int64 → St → Prop} (hΓ : Γ.2.2.2.2.2.2.2.2.2.2.2 = (4, 0, 0, oJ Q)) (f : Nat) (v0 : Nat) (v1 : Int64) (v3 : Int32) (σ : St) (hb : lX8_firstMissed_2 Q f v0 v1 v3 σ) : hW Γ 0 0 2 [(0, .ref v0), (1, .long v1), (3, .int v3)] [] σ := by
  induction f generalizing v0 v1 v3 σ with
  | zero => exact hb.elim
  | succ f ih => exact kwX8_firstMissed_2 C hΓ  (fun v0 v1 v3 σ h => ih v0 v1 v3 σ h) _ _ _ _ hb
set_option maxRecDepth 20000 in
theorem kwX8_firstMissed_0 {Γ : hCT} (C : hC Γ RX8 cX8_firstMissed ((Option.some FieldType.long)) "firstMissed" 0 0) {Q : Int64 → St → Prop} (hΓ : Γ.2.2.2.2.2.2.2.2.2.2.2 = (4, 0, 0, oJ Q)) (v0 : Nat) (v1 : Int64) (σ : St) (hb : wX8_firstMissed_0 Q v0 v1 σ) : hW Γ 0 0 0 [(0, .ref v0), (1, .long v1)] [] σ := by
  unfold wX8_firstMissed_0 at hb
  refine g_iconst (v := 0) C dX8_firstMissed_0 (by decide) ?_
  refine g_istore_n (i := 3) (lv' := [(3, .int 0), (0, .ref v0), (1, .long v1)]) C dX8_firstMissed_1 rfl (hnl_of hΓ (by decide)) (by first | rfl | simp [cat_rf]) ?_
  refine g_sub (lv' := [(0, .ref v0), (1, .long v1), (3, .int 0)]) [1, 2, 0] rfl ?_
  obtain ⟨f1, hb⟩ := hb
  exact klX8_firstMissed_2 C hΓ  f1 _ _ _ _ hb
theorem okX8_firstMissed {v0 : Nat} {v1 : Int64} {σ : St} {Q : Int64 → St → Prop} (hb : wX8_firstMissed v0 v1 σ Q) : hM yX8_firstMissed cX8_firstMissed 4 ((Option.some FieldType.long)) 0 0 0 0 [.ref v0, .long v1] σ (oJ Q) :=
  hM_of (by decide) (Nat.le_of_ble_eq_true rfl) (fun Γ hΓ C => kwX8_firstMissed_0 C hΓ _ _ _ hb)
def wX8_seek_57 (rc : Nat → Int64 → Int32 → St → (St → Prop) → Prop) (Q : St → Prop) (r57 : Nat → Int64 → Int32 → Int64 → Int32 → Int32 → St → Prop) (v0 : Nat) (v1 : Int64) (v3 : Int32) (v4 : Int64) (v6 : Int32) (v7 : Int32) (σ : St) : Prop :=
  ((v6 ≤ v7 → Q σ) ∧ (¬ v6 ≤ v7 → zK σ v0 = 9 ∧ rc v0 (v1 ||| (v4 &&& (-v4))) (v3 - 1) σ (fun σ2 => r57 v0 v1 v3 (v4 &&& ((v4 &&& (-v4)) ^^^ (-1))) v6 (v7 + 1) σ2)))
def lX8_seek_57 (rc : Nat → Int64 → Int32 → St → (St → Prop) → Prop) (Q : St → Prop) : Nat → Nat → Int64 → Int32 → Int64 → Int32 → Int32 → St → Prop
  | 0, _, _, _, _, _, _, _ => False
  | f + 1, v0, v1, v3, v4, v6, v7, σ => wX8_seek_57 rc Q (lX8_seek_57 rc Q f) v0 v1 v3 v4 v6 v7 σ
def wX8_seek_38 (rc : Nat → Int64 → Int32 → St → (St → Prop) → Prop) (Q : St → Prop) (s1 : Int64) (s0 : Nat) (σ : St) : Prop :=
  zK σ s0 = 9 ∧ Q (uFj σ 514 s0 s1)
def wX8_seek_0 (rc : Nat → Int64 → Int32 → St → (St → Prop) → Prop) (Q : St → Prop) (v0 : Nat) (v1 : Int64) (v3 : Int32) (σ : St) : Prop :=
  zK σ v0 = 9 ∧ wX8_firstMissed v0 v1 σ (fun y3 σ2 => ((¬ y3 = 0 → ((0 < v3 → wJ13_bitCount_95d88 y3 σ2 (fun y5 σ4 => ∃ f, lX8_seek_57 rc Q f v0 v1 v3 y3 y5 0 σ4)) ∧ (¬ 0 < v3 → Q σ2))) ∧ (y3 = 0 → zK σ2 v0 = 9 ∧ ((¬ (zFj σ2 514 v0) = (-1) → wX8_seek_38 rc Q (if v1 < (zFj σ2 514 v0) then v1 else (zFj σ2 514 v0)) v0 σ2) ∧ ((zFj σ2 514 v0) = (-1) → wX8_seek_38 rc Q v1 v0 σ2)))))
def wX8_seek : Nat → Nat → Int64 → Int32 → St → (St → Prop) → Prop
  | 0, _, _, _, _, _ => False
  | d + 1, v0, v1, v3, σ, Q => wX8_seek_0 (wX8_seek d) Q v0 v1 v3 σ
set_option maxRecDepth 20000 in
theorem kwX8_seek_57 {dd : Nat} {Γ : hCT} (C : hC Γ RX8 cX8_seek ((Option.none : Option Jvm.ClassFile.FieldType)) "seek" (1 + (dd + 1)) (40 + (dd + 1) * 29)) {Q : St → Prop} (hΓ : Γ.2.2.2.2.2.2.2.2.2.2.2 = (10, 0, 0, oV Q)) {rc : Nat → Int64 → Int32 → St → (St → Prop) → Prop} (hrc : ∀ (z0 : Nat) (z1 : Int64) (z2 : Int32) (σ : St) (Q : St → Prop), rc z0 z1 z2 σ Q → hM yX8_seek cX8_seek 10 ((Option.none : Option Jvm.ClassFile.FieldType)) (1 + dd) (40 + dd * 29) 0 0 [.ref z0, .long z1, .int z2] σ (oV Q)) {r57 : Nat → Int64 → Int32 → Int64 → Int32 → Int32 → St → Prop} (h57 : ∀ (v0 : Nat) (v1 : Int64) (v3 : Int32) (v4 : Int64) (v6 : Int32) (v7 : Int32) (σ : St), r57 v0 v1 v3 v4 v6 v7 σ → hW Γ 0 0 57 [(0, .ref v0), (1, .long v1), (3, .int v3), (4, .long v4), (6, .int v6), (7, .int v7)] [] σ) (v0 : Nat) (v1 : Int64) (v3 : Int32) (v4 : Int64) (v6 : Int32) (v7 : Int32) (σ : St) (hb : wX8_seek_57 rc Q r57 v0 v1 v3 v4 v6 v7 σ) : hW Γ 0 0 57 [(0, .ref v0), (1, .long v1), (3, .int v3), (4, .long v4), (6, .int v6), (7, .int v7)] [] σ := by
  unfold wX8_seek_57 at hb
  refine g_iload C dX8_seek_57 5 rfl ?_
  refine g_iload C dX8_seek_59 4 rfl ?_
  refine g_icmp_ge (tgt := 100) C dX8_seek_61 (by decide) (fun c => ?_) (fun c => ?_)
  ·
    replace hb := hb.1 (c)
    exact g_vreturn C hΓ (Nat.zero_le _) (Nat.zero_le _) dX8_seek_100 ⟨rfl, hb⟩
  ·
    replace hb := hb.2 (c)
    refine g_lload C dX8_seek_64 3 rfl ?_
    refine g_lload C dX8_seek_66 3 rfl ?_
    refine g_lneg C dX8_seek_68 ?_
    refine g_land C dX8_seek_69 ?_
    refine g_lstore (lv' := [(8, .long (v4 &&& (-v4))), (0, .ref v0), (1, .long v1), (3, .int v3), (4, .long v4), (6, .int v6), (7, .int v7)]) C dX8_seek_70 (hnl_of hΓ (by decide)) (by first | rfl | simp [cat_rf]) ?_
    refine g_lload C dX8_seek_72 4 rfl ?_
    refine g_lload C dX8_seek_74 0 rfl ?_
    refine g_ldc2 C wd_871 dX8_seek_76 ?_
    refine g_lxor C dX8_seek_79 ?_
    refine g_land C dX8_seek_80 ?_
    refine g_lstore (lv' := [(4, .long (v4 &&& ((v4 &&& (-v4)) ^^^ (-1)))), (8, .long (v4 &&& (-v4))), (0, .ref v0), (1, .long v1), (3, .int v3), (6, .int v6), (7, .int v7)]) C dX8_seek_81 (hnl_of hΓ (by decide)) (by first | rfl | simp [cat_rf]) ?_
    refine g_aload_n (some v0) C dX8_seek_83 2 rfl ?_
    refine g_lload_n C dX8_seek_84 3 rfl ?_
    refine g_lload C dX8_seek_85 1 rfl ?_
    refine g_lor C dX8_seek_87 ?_
    refine g_iload_n C dX8_seek_88 4 rfl ?_
    refine g_iconst (v := 1) C dX8_seek_89 (by decide) ?_
    refine g_isub C dX8_seek_90 ?_
    obtain ⟨q1, hb⟩ := hb
    refine g_invV (ci := 8) [.long (v1 ||| (v4 &&& (-v4))), .int (v3 - 1)] [] zy_X8_seek wd_872 wd_874 wd_29 ⟨_, _, rfl⟩ (by decide) C dX8_seek_91 (by first | exact Nat.le_of_ble_eq_true rfl | omega | (simp [cat_rf]; omega)) (by first | exact Nat.le_of_ble_eq_true rfl | omega | (simp [cat_rf]; omega)) (by first | exact Nat.le_of_ble_eq_true rfl | simp [cat_rf]) (Nat.zero_le _) (Nat.zero_le _) rfl rfl q1 (hrc _ _ _ _ _ hb) ?_
    rintro o σ2 ⟨rfl, hb⟩
    refine ⟨_, rfl, ?_⟩
    refine g_iinc (v := v7 + 1) (lv' := [(7, .int (v7 + 1)), (4, .long (v4 &&& ((v4 &&& (-v4)) ^^^ (-1)))), (8, .long (v4 &&& (-v4))), (0, .ref v0), (1, .long v1), (3, .int v3), (6, .int v6)]) C dX8_seek_94 6 rfl rfl (hnl_of hΓ (by decide)) (by first | rfl | simp [cat_rf]) ?_
    refine g_goto (tgt := 57) C dX8_seek_97 (by decide) ?_
    refine g_sub (lv' := [(0, .ref v0), (1, .long v1), (3, .int v3), (4, .long (v4 &&& ((v4 &&& (-v4)) ^^^ (-1)))), (6, .int v6), (7, .int (v7 + 1))]) [3, 4, 5, 1, 6, 0] rfl ?_
    exact h57 _ _ _ _ _ _ _ hb
theorem klX8_seek_57 {dd : Nat} {Γ : hCT} (C : hC Γ RX8 cX8_seek ((Option.none : Option Jvm.ClassFile.FieldType)) "seek" (1 + (dd + 1)) (40 + (dd + 1) * 29)) {Q : St → Prop} (hΓ : Γ.2.2.2.2.2.2.2.2.2.2.2 = (10, 0, 0, oV Q)) {rc : Nat → Int64 → Int32 → St → (St → Prop) → Prop} (hrc : ∀ (z0 : Nat) (z1 : Int64) (z2 : Int32) (σ : St) (Q : St → Prop), rc z0 z1 z2 σ Q → hM yX8_seek cX8_seek 10 ((Option.none : Option Jvm.ClassFile.FieldType)) (1 + dd) (40 + dd * 29) 0 0 [.ref z0, .long z1, .int z2] σ (oV Q)) (f : Nat) (v0 : Nat) (v1 : Int64) (v3 : Int32) (v4 : Int64) (v6 : Int32) (v7 : Int32) (σ : St) (hb : lX8_seek_57 rc Q f v0 v1 v3 v4 v6 v7 σ) : hW Γ 0 0 57 [(0, .ref v0), (1, .long v1), (3, .int v3), (4, .long v4), (6, .int v6), (7, .int v7)] [] σ := by
  induction f generalizing v0 v1 v3 v4 v6 v7 σ with
  | zero => exact hb.elim
  | succ f ih => exact kwX8_seek_57 C hΓ hrc  (fun v0 v1 v3 v4 v6 v7 σ h => ih v0 v1 v3 v4 v6 v7 σ h) _ _ _ _ _ _ _ hb
set_option maxRecDepth 20000 in
theorem kwX8_seek_38 {dd : Nat} {Γ : hCT} (C : hC Γ RX8 cX8_seek ((Option.none : Option Jvm.ClassFile.FieldType)) "seek" (1 + (dd + 1)) (40 + (dd + 1) * 29)) {Q : St → Prop} (hΓ : Γ.2.2.2.2.2.2.2.2.2.2.2 = (10, 0, 0, oV Q)) {rc : Nat → Int64 → Int32 → St → (St → Prop) → Prop} (hrc : ∀ (z0 : Nat) (z1 : Int64) (z2 : Int32) (σ : St) (Q : St → Prop), rc z0 z1 z2 σ Q → hM yX8_seek cX8_seek 10 ((Option.none : Option Jvm.ClassFile.FieldType)) (1 + dd) (40 + dd * 29) 0 0 [.ref z0, .long z1, .int z2] σ (oV Q)) (s1 : Int64) (s0 : Nat) (σ : St) (hb : wX8_seek_38 rc Q s1 s0 σ) : hW Γ 0 0 38 [] [.long s1, .ref s0] σ := by
  unfold wX8_seek_38 at hb
  obtain ⟨q1, hb⟩ := hb
  refine g_putJ C fl_RX8_59 dX8_seek_38 q1 rfl rfl rfl rfl ?_
  exact g_vreturn C hΓ (Nat.zero_le _) (Nat.zero_le _) dX8_seek_41 ⟨rfl, hb⟩
set_option maxRecDepth 20000 in
theorem kwX8_seek_0 {dd : Nat} {Γ : hCT} (C : hC Γ RX8 cX8_seek ((Option.none : Option Jvm.ClassFile.FieldType)) "seek" (1 + (dd + 1)) (40 + (dd + 1) * 29)) {Q : St → Prop} (hΓ : Γ.2.2.2.2.2.2.2.2.2.2.2 = (10, 0, 0, oV Q)) {rc : Nat → Int64 → Int32 → St → (St → Prop) → Prop} (hrc : ∀ (z0 : Nat) (z1 : Int64) (z2 : Int32) (σ : St) (Q : St → Prop), rc z0 z1 z2 σ Q → hM yX8_seek cX8_seek 10 ((Option.none : Option Jvm.ClassFile.FieldType)) (1 + dd) (40 + dd * 29) 0 0 [.ref z0, .long z1, .int z2] σ (oV Q)) (v0 : Nat) (v1 : Int64) (v3 : Int32) (σ : St) (hb : wX8_seek_0 rc Q v0 v1 v3 σ) : hW Γ 0 0 0 [(0, .ref v0), (1, .long v1), (3, .int v3)] [] σ := by
  unfold wX8_seek_0 at hb
  refine g_aload_n (some v0) C dX8_seek_0 0 rfl ?_
  refine g_lload_n C dX8_seek_1 1 rfl ?_
  obtain ⟨q1, hb⟩ := hb
  refine g_invV (ci := 8) [.long v1] [] zy_X8_firstMissed wd_876 wd_878 wd_30 ⟨_, _, rfl⟩ (by decide) C dX8_seek_2 (by first | exact Nat.le_of_ble_eq_true rfl | omega | (simp [cat_rf]; omega)) (by first | exact Nat.le_of_ble_eq_true rfl | omega | (simp [cat_rf]; omega)) (by first | exact Nat.le_of_ble_eq_true rfl | simp [cat_rf]) (Nat.zero_le _) (Nat.zero_le _) rfl rfl q1 (okX8_firstMissed hb) ?_
  rintro o σ2 ⟨y3, rfl, hb⟩
  refine ⟨_, rfl, ?_⟩
  refine g_lstore (lv' := [(4, .long y3), (0, .ref v0), (1, .long v1), (3, .int v3)]) C dX8_seek_5 (hnl_of hΓ (by decide)) (by first | rfl | simp [cat_rf]) ?_
  refine g_lload C dX8_seek_7 0 rfl ?_
  refine g_lconst (v := 0) C dX8_seek_9 (by decide) ?_
  refine g_lcmp C dX8_seek_10 ?_
  refine g_if_ne (tgt := 42) C dX8_seek_11 (by decide) (fun c => ?_) (fun c => ?_)
  ·
    replace hb := hb.1 (lc_ne.mp c)
    refine g_iload_n C dX8_seek_42 3 rfl ?_
    refine g_if_gt (tgt := 47) C dX8_seek_43 (by decide) (fun c => ?_) (fun c => ?_)
    ·
      replace hb := hb.1 (c)
      refine g_lload C dX8_seek_47 0 rfl ?_
      refine g_invS [.long y3] [] zy_J13_bitCount_95d88 wd_881 wd_833 C dX8_seek_49 (by first | exact Nat.le_of_ble_eq_true rfl | omega | (simp [cat_rf]; omega)) (by first | exact Nat.le_of_ble_eq_true rfl | omega | (simp [cat_rf]; omega)) (by first | exact Nat.le_of_ble_eq_true rfl | simp [cat_rf]) (Nat.zero_le _) (Nat.zero_le _) rfl rfl  (okJ13_bitCount_95d88 hb) ?_
      rintro o σ4 ⟨y5, rfl, hb⟩
      refine ⟨_, rfl, ?_⟩
      refine g_istore (lv' := [(6, .int y5), (4, .long y3), (0, .ref v0), (1, .long v1), (3, .int v3)]) C dX8_seek_52 (hnl_of hΓ (by decide)) (by first | rfl | simp [cat_rf]) ?_
      refine g_iconst (v := 0) C dX8_seek_54 (by decide) ?_
      refine g_istore (lv' := [(7, .int 0), (6, .int y5), (4, .long y3), (0, .ref v0), (1, .long v1), (3, .int v3)]) C dX8_seek_55 (hnl_of hΓ (by decide)) (by first | rfl | simp [cat_rf]) ?_
      refine g_sub (lv' := [(0, .ref v0), (1, .long v1), (3, .int v3), (4, .long y3), (6, .int y5), (7, .int 0)]) [3, 4, 5, 2, 1, 0] rfl ?_
      obtain ⟨f6, hb⟩ := hb
      exact klX8_seek_57 C hΓ hrc  f6 _ _ _ _ _ _ _ hb
    ·
      replace hb := hb.2 (c)
      exact g_vreturn C hΓ (Nat.zero_le _) (Nat.zero_le _) dX8_seek_46 ⟨rfl, hb⟩
  ·
    replace hb := hb.2 (lcn_ne.mp c)
    refine g_aload_n (some v0) C dX8_seek_14 1 rfl ?_
    refine g_aload_n (some v0) C dX8_seek_15 1 rfl ?_
    obtain ⟨q7, hb⟩ := hb
    refine g_getJx (zFj σ2 514 v0) C fl_RX8_59 dX8_seek_16 q7 rfl rfl rfl ?_
    refine g_ldc2 C wd_871 dX8_seek_19 ?_
    refine g_lcmp C dX8_seek_22 ?_
    refine g_if_ne (tgt := 30) C dX8_seek_23 (by decide) (fun c => ?_) (fun c => ?_)
    ·
      replace hb := hb.1 (lc_ne.mp c)
      refine g_aload_n (some v0) C dX8_seek_30 1 rfl ?_
      refine g_getJx (zFj σ2 514 v0) C fl_RX8_59 dX8_seek_31 q7 rfl rfl rfl ?_
      refine g_lload_n C dX8_seek_34 2 rfl ?_
      refine g_mminL wd_880 wd_688 wd_87 wd_689 C (by first | exact Nat.le_of_ble_eq_true rfl | omega | (simp [cat_rf]; omega)) (by first | exact Nat.le_of_ble_eq_true rfl | omega | (simp [cat_rf]; omega)) (Nat.zero_le _) (Nat.zero_le _) dX8_seek_35 ?_
      refine g_sub (lv' := []) [] rfl ?_
      exact kwX8_seek_38 C hΓ hrc  _ _ _ hb
    ·
      replace hb := hb.2 (lcn_ne.mp c)
      refine g_lload_n C dX8_seek_26 2 rfl ?_
      refine g_goto (tgt := 38) C dX8_seek_27 (by decide) ?_
      refine g_sub (lv' := []) [] rfl ?_
      exact kwX8_seek_38 C hΓ hrc  _ _ _ hb
theorem okX8_seek : ∀ (d : Nat) (v0 : Nat) (v1 : Int64) (v3 : Int32) {σ : St} {Q : St → Prop} (hb : wX8_seek d v0 v1 v3 σ Q), hM yX8_seek cX8_seek 10 ((Option.none : Option Jvm.ClassFile.FieldType)) (1 + d) (40 + d * 29) 0 0 [.ref v0, .long v1, .int v3] σ (oV Q) := by
  intro d
  induction d with
  | zero => intro v0 v1 v3 σ Q hb; exact hb.elim
  | succ d ih =>
    intro v0 v1 v3 σ Q hb
    exact hM_of (by decide) (Nat.le_of_ble_eq_true rfl) (fun Γ hΓ C => kwX8_seek_0 C hΓ (fun z0 z1 z2 σ Q h => ih z0 z1 z2 h) _ _ _ _ hb)
def wX8_smallest_9 (Q : Int64 → St → Prop) (r9 : Nat → Int32 → St → Prop) (v0 : Nat) (v1 : Int32) (σ : St) : Prop :=
  zK σ v0 = 9 ∧ (((zFi σ 513 v0) < v1 → Q (zFj σ 514 v0) σ) ∧ (¬ (zFi σ 513 v0) < v1 → ((¬ (zFj σ 514 v0) = (-1) → Q (zFj σ 514 v0) σ) ∧ ((zFj σ 514 v0) = (-1) → wX8_seek 18 v0 0 v1 σ (fun σ2 => r9 v0 (v1 + 1) σ2)))))
def lX8_smallest_9 (Q : Int64 → St → Prop) : Nat → Nat → Int32 → St → Prop
  | 0, _, _, _ => False
  | f + 1, v0, v1, σ => wX8_smallest_9 Q (lX8_smallest_9 Q f) v0 v1 σ
def wX8_smallest_0 (Q : Int64 → St → Prop) (v0 : Nat) (σ : St) : Prop :=
  zK σ v0 = 9 ∧ ∃ f, lX8_smallest_9 Q f v0 0 (uFj σ 514 v0 (-1))
def wX8_smallest (v0 : Nat) (σ : St) (Q : Int64 → St → Prop) : Prop := wX8_smallest_0 Q v0 σ
set_option maxRecDepth 20000 in
theorem kwX8_smallest_9 {Γ : hCT} (C : hC Γ RX8 cX8_smallest ((Option.some FieldType.long)) "smallest" 20 591) {Q : Int64 → St → Prop} (hΓ : Γ.2.2.2.2.2.2.2.2.2.2.2 = (2, 0, 0, oJ Q)) {r9 : Nat → Int32 → St → Prop} (h9 : ∀ (v0 : Nat) (v1 : Int32) (σ : St), r9 v0 v1 σ → hW Γ 0 0 9 [(0, .ref v0), (1, .int v1)] [] σ) (v0 : Nat) (v1 : Int32) (σ : St) (hb : wX8_smallest_9 Q r9 v0 v1 σ) : hW Γ 0 0 9 [(0, .ref v0), (1, .int v1)] [] σ := by
  unfold wX8_smallest_9 at hb
  refine g_iload_n C dX8_smallest_9 1 rfl ?_
  refine g_aload_n (some v0) C dX8_smallest_10 0 rfl ?_
  obtain ⟨q1, hb⟩ := hb
  refine g_getIx (zFi σ 513 v0) C fl_RX8_21 dX8_smallest_11 q1 rfl rfl rfl ?_
  refine g_icmp_gt (tgt := 40) C dX8_smallest_14 (by decide) (fun c => ?_) (fun c => ?_)
  ·
    replace hb := hb.1 (c)
    refine g_aload_n (some v0) C dX8_smallest_40 0 rfl ?_
    refine g_getJx (zFj σ 514 v0) C fl_RX8_59 dX8_smallest_41 q1 rfl rfl rfl ?_
    exact g_lreturn C hΓ (Nat.zero_le _) (Nat.zero_le _) dX8_smallest_44 ⟨_, rfl, hb⟩
  ·
    replace hb := hb.2 (c)
    refine g_aload_n (some v0) C dX8_smallest_17 0 rfl ?_
    refine g_getJx (zFj σ 514 v0) C fl_RX8_59 dX8_smallest_18 q1 rfl rfl rfl ?_
    refine g_ldc2 C wd_871 dX8_smallest_21 ?_
    refine g_lcmp C dX8_smallest_24 ?_
    refine g_if_ne (tgt := 40) C dX8_smallest_25 (by decide) (fun c => ?_) (fun c => ?_)
    ·
      replace hb := hb.1 (lc_ne.mp c)
      refine g_aload_n (some v0) C dX8_smallest_40 0 rfl ?_
      refine g_getJx (zFj σ 514 v0) C fl_RX8_59 dX8_smallest_41 q1 rfl rfl rfl ?_
      exact g_lreturn C hΓ (Nat.zero_le _) (Nat.zero_le _) dX8_smallest_44 ⟨_, rfl, hb⟩
    ·
      replace hb := hb.2 (lcn_ne.mp c)
      refine g_aload_n (some v0) C dX8_smallest_28 0 rfl ?_
      refine g_lconst (v := 0) C dX8_smallest_29 (by decide) ?_
      refine g_iload_n C dX8_smallest_30 1 rfl ?_
      refine g_invV (ci := 8) [.long 0, .int v1] [] zy_X8_seek wd_872 wd_874 wd_29 ⟨_, _, rfl⟩ (by decide) C dX8_smallest_31 (by first | exact Nat.le_of_ble_eq_true rfl | simp [cat_rf]) (by first | exact Nat.le_of_ble_eq_true rfl | simp [cat_rf]) (by first | exact Nat.le_of_ble_eq_true rfl | simp [cat_rf]) (Nat.zero_le _) (Nat.zero_le _) rfl rfl q1 (okX8_seek 18 _ _ _ hb) ?_
      rintro o σ2 ⟨rfl, hb⟩
      refine ⟨_, rfl, ?_⟩
      refine g_iinc (v := v1 + 1) (lv' := [(1, .int (v1 + 1)), (0, .ref v0)]) C dX8_smallest_34 1 rfl rfl (hnl_of hΓ (by decide)) (by first | rfl | simp [cat_rf]) ?_
      refine g_goto (tgt := 9) C dX8_smallest_37 (by decide) ?_
      refine g_sub (lv' := [(0, .ref v0), (1, .int (v1 + 1))]) [1, 0] rfl ?_
      exact h9 _ _ _ hb
theorem klX8_smallest_9 {Γ : hCT} (C : hC Γ RX8 cX8_smallest ((Option.some FieldType.long)) "smallest" 20 591) {Q : Int64 → St → Prop} (hΓ : Γ.2.2.2.2.2.2.2.2.2.2.2 = (2, 0, 0, oJ Q)) (f : Nat) (v0 : Nat) (v1 : Int32) (σ : St) (hb : lX8_smallest_9 Q f v0 v1 σ) : hW Γ 0 0 9 [(0, .ref v0), (1, .int v1)] [] σ := by
  induction f generalizing v0 v1 σ with
  | zero => exact hb.elim
  | succ f ih => exact kwX8_smallest_9 C hΓ  (fun v0 v1 σ h => ih v0 v1 σ h) _ _ _ hb
set_option maxRecDepth 20000 in
theorem kwX8_smallest_0 {Γ : hCT} (C : hC Γ RX8 cX8_smallest ((Option.some FieldType.long)) "smallest" 20 591) {Q : Int64 → St → Prop} (hΓ : Γ.2.2.2.2.2.2.2.2.2.2.2 = (2, 0, 0, oJ Q)) (v0 : Nat) (σ : St) (hb : wX8_smallest_0 Q v0 σ) : hW Γ 0 0 0 [(0, .ref v0)] [] σ := by
  unfold wX8_smallest_0 at hb
  refine g_aload_n (some v0) C dX8_smallest_0 0 rfl ?_
  refine g_ldc2 C wd_871 dX8_smallest_1 ?_
  obtain ⟨q1, hb⟩ := hb
  refine g_putJ C fl_RX8_59 dX8_smallest_4 q1 rfl rfl rfl rfl ?_
  refine g_iconst (v := 0) C dX8_smallest_7 (by decide) ?_
  refine g_istore_n (i := 1) (lv' := [(1, .int 0), (0, .ref v0)]) C dX8_smallest_8 rfl (hnl_of hΓ (by decide)) (by first | rfl | simp [cat_rf]) ?_
  refine g_sub (lv' := [(0, .ref v0), (1, .int 0)]) [1, 0] rfl ?_
  obtain ⟨f2, hb⟩ := hb
  exact klX8_smallest_9 C hΓ  f2 _ _ _ hb
theorem okX8_smallest {v0 : Nat} {σ : St} {Q : Int64 → St → Prop} (hb : wX8_smallest v0 σ Q) : hM yX8_smallest cX8_smallest 2 ((Option.some FieldType.long)) 20 591 0 0 [.ref v0] σ (oJ Q) :=
  hM_of (by decide) (Nat.le_of_ble_eq_true rfl) (fun Γ hΓ C => kwX8_smallest_0 C hΓ _ _ hb)
def wX8_leastOf_0 (Q : Int64 → St → Prop) (v0 : Nat) (v1 : Nat) (σ : St) : Prop :=
  zK σ v1 = 3 ∧ zK σ v0 = 9 ∧ ∃ a3 : Nat, zFr σ 129 v1 = some a3 ∧ ∃ a5 : Nat, zFr σ 512 v0 = some a5 ∧ zK σ a3 = 21 ∧ zK σ a5 = 21 ∧ ¬ (0 : Int32) < 0 ∧ ¬ (0 : Int32) < 0 ∧ ¬ (zFi (uFi σ 513 v0 (zFi σ 130 v1)) 513 v0) < 0 ∧ ix 0 + ix (zFi (uFi σ 513 v0 (zFi σ 130 v1)) 513 v0) ≤ zL σ a3 ∧ ix 0 + ix (zFi (uFi σ 513 v0 (zFi σ 130 v1)) 513 v0) ≤ zL σ a5 ∧ wX8_smallest v0 (uCj (uFi σ 513 v0 (zFi σ 130 v1)) a3 (ix 0) a5 (ix 0) (ix (zFi (uFi σ 513 v0 (zFi σ 130 v1)) 513 v0))) (fun y15 σ14 => Q y15 σ14)
def wX8_leastOf (v0 : Nat) (v1 : Nat) (σ : St) (Q : Int64 → St → Prop) : Prop := wX8_leastOf_0 Q v0 v1 σ
set_option maxRecDepth 20000 in
theorem kwX8_leastOf_0 {Γ : hCT} (C : hC Γ RX8 cX8_leastOf ((Option.some FieldType.long)) "leastOf" 21 612) {Q : Int64 → St → Prop} (hΓ : Γ.2.2.2.2.2.2.2.2.2.2.2 = (2, 0, 0, oJ Q)) (v0 : Nat) (v1 : Nat) (σ : St) (hb : wX8_leastOf_0 Q v0 v1 σ) : hW Γ 0 0 0 [(0, .ref v0), (1, .ref v1)] [] σ := by
  unfold wX8_leastOf_0 at hb
  refine g_aload_n (some v0) C dX8_leastOf_0 0 rfl ?_
  refine g_aload_n (some v1) C dX8_leastOf_1 1 rfl ?_
  obtain ⟨q1, hb⟩ := hb
  refine g_getIx (zFi σ 130 v1) C fl_RX8_15 dX8_leastOf_2 q1 rfl rfl rfl ?_
  obtain ⟨q2, hb⟩ := hb
  refine g_putI C fl_RX8_21 dX8_leastOf_5 q2 rfl rfl rfl rfl ?_
  refine g_aload_n (some v1) C dX8_leastOf_8 1 rfl ?_
  obtain ⟨a3, q4, hb⟩ := hb
  refine g_getR (some a3) C fl_RX8_24 dX8_leastOf_9 (by rw [zK_uFi]; exact q1) rfl rfl (by rw [zFr_uFi]; exact q4) ?_
  refine g_iconst (v := 0) C dX8_leastOf_12 (by decide) ?_
  refine g_aload_n (some v0) C dX8_leastOf_13 0 rfl ?_
  obtain ⟨a5, q6, hb⟩ := hb
  refine g_getR (some a5) C fl_RX8_9 dX8_leastOf_14 (by rw [zK_uFi]; exact q2) rfl rfl (by rw [zFr_uFi]; exact q6) ?_
  refine g_iconst (v := 0) C dX8_leastOf_17 (by decide) ?_
  refine g_aload_n (some v0) C dX8_leastOf_18 0 rfl ?_
  refine g_getIx (zFi (uFi σ 513 v0 (zFi σ 130 v1)) 513 v0) C fl_RX8_21 dX8_leastOf_19 (by rw [zK_uFi]; exact q2) rfl rfl rfl ?_
  obtain ⟨q7, hb⟩ := hb
  obtain ⟨q8, hb⟩ := hb
  obtain ⟨q9, hb⟩ := hb
  obtain ⟨q10, hb⟩ := hb
  obtain ⟨q11, hb⟩ := hb
  obtain ⟨q12, hb⟩ := hb
  obtain ⟨q13, hb⟩ := hb
  refine g_copyJ wd_866 wd_423 wd_422 wd_88 C (by first | exact Nat.le_of_ble_eq_true rfl | simp [cat_rf]) (by first | exact Nat.le_of_ble_eq_true rfl | simp [cat_rf]) dX8_leastOf_22 (by rw [zK_uFi]; exact q7) (by rw [zK_uFi]; exact q8) q9 q10 q11 (by rw [zL_uFi]; exact q12) (by rw [zL_uFi]; exact q13) ?_
  refine g_aload_n (some v0) C dX8_leastOf_25 0 rfl ?_
  refine g_invV (ci := 8) [] [] zy_X8_smallest wd_867 wd_869 wd_28 ⟨_, _, rfl⟩ (by decide) C dX8_leastOf_26 (by first | exact Nat.le_of_ble_eq_true rfl | simp [cat_rf]) (by first | exact Nat.le_of_ble_eq_true rfl | simp [cat_rf]) (by first | exact Nat.le_of_ble_eq_true rfl | simp [cat_rf]) (Nat.zero_le _) (Nat.zero_le _) rfl rfl (by rw [zK_uCj, zK_uFi]; exact q2) (okX8_smallest hb) ?_
  rintro o σ14 ⟨y15, rfl, hb⟩
  refine ⟨_, rfl, ?_⟩
  exact g_lreturn C hΓ (Nat.zero_le _) (Nat.zero_le _) dX8_leastOf_29 ⟨_, rfl, hb⟩
theorem okX8_leastOf {v0 : Nat} {v1 : Nat} {σ : St} {Q : Int64 → St → Prop} (hb : wX8_leastOf v0 v1 σ Q) : hM yX8_leastOf cX8_leastOf 2 ((Option.some FieldType.long)) 21 612 0 0 [.ref v0, .ref v1] σ (oJ Q) :=
  hM_of (by decide) (Nat.le_of_ble_eq_true rfl) (fun Γ hΓ C => kwX8_leastOf_0 C hΓ _ _ _ hb)
def wX11_least_0 (Q : Int64 → St → Prop) (v0 : Nat) (v1 : Int32) (σ : St) : Prop :=
  zK σ v0 = 12 ∧ wX11_weighable v0 v1 σ (fun y3 σ2 => ((y3 = none → Q (-1) σ2) ∧ (∀ a4 : Nat, y3 = some a4 → zK σ2 v0 = 12 ∧ ∃ a6 : Nat, zFr σ2 711 v0 = some a6 ∧ zK σ2 a6 = 9 ∧ wX8_leastOf a6 a4 σ2 (fun y10 σ9 => Q y10 σ9))))
def wX11_least (v0 : Nat) (v1 : Int32) (σ : St) (Q : Int64 → St → Prop) : Prop := wX11_least_0 Q v0 v1 σ
set_option maxRecDepth 20000 in
theorem kwX11_least_0 {Γ : hCT} (C : hC Γ RX11 cX11_least ((Option.some FieldType.long)) "least" 22 633) {Q : Int64 → St → Prop} (hΓ : Γ.2.2.2.2.2.2.2.2.2.2.2 = (3, 0, 0, oJ Q)) (v0 : Nat) (v1 : Int32) (σ : St) (hb : wX11_least_0 Q v0 v1 σ) : hW Γ 0 0 0 [(0, .ref v0), (1, .int v1)] [] σ := by
  unfold wX11_least_0 at hb
  refine g_aload_n (some v0) C dX11_least_0 0 rfl ?_
  refine g_iload_n C dX11_least_1 1 rfl ?_
  obtain ⟨q1, hb⟩ := hb
  refine g_invV (ci := 11) [.int v1] [] zy_X11_weighable wd_824 wd_826 wd_26 ⟨_, _, rfl⟩ (by decide) C dX11_least_2 (by first | exact Nat.le_of_ble_eq_true rfl | simp [cat_rf]) (by first | exact Nat.le_of_ble_eq_true rfl | simp [cat_rf]) (by first | exact Nat.le_of_ble_eq_true rfl | simp [cat_rf]) (Nat.zero_le _) (Nat.zero_le _) rfl rfl q1 (okX11_weighable hb) ?_
  rintro o σ2 ⟨y3, rfl, hb⟩
  refine ⟨_, rfl, ?_⟩
  refine g_astore_n (i := 2) (lv' := [(2, va_rf y3), (0, .ref v0), (1, .int v1)]) y3 C dX11_least_5 rfl (hnl_of hΓ (by decide)) (by first | rfl | simp [cat_rf]) ?_
  refine g_aload_n y3 C dX11_least_6 0 rfl ?_
  refine g_ifnonnull (tgt := 16) y3 C dX11_least_7 (by decide) (fun c => ?_) (fun c => ?_)
  ·
    obtain ⟨a4, rfl⟩ := rf_some c
    replace hb := hb.2 a4 rfl
    refine g_aload_n (some v0) C dX11_least_16 1 rfl ?_
    obtain ⟨q5, hb⟩ := hb
    obtain ⟨a6, q7, hb⟩ := hb
    refine g_getR (some a6) C fl_RX11_50 dX11_least_17 q5 rfl rfl q7 ?_
    refine g_aload_n (some a4) C dX11_least_20 0 rfl ?_
    obtain ⟨q8, hb⟩ := hb
    refine g_invV (ci := 8) [.ref a4] [] zy_X8_leastOf wd_862 wd_863 wd_864 ⟨_, _, rfl⟩ (by decide) C dX11_least_21 (by first | exact Nat.le_of_ble_eq_true rfl | simp [cat_rf]) (by first | exact Nat.le_of_ble_eq_true rfl | simp [cat_rf]) (by first | exact Nat.le_of_ble_eq_true rfl | simp [cat_rf]) (Nat.zero_le _) (Nat.zero_le _) rfl rfl q8 (okX8_leastOf hb) ?_
    rintro o σ9 ⟨y10, rfl, hb⟩
    refine ⟨_, rfl, ?_⟩
    exact g_lreturn C hΓ (Nat.zero_le _) (Nat.zero_le _) dX11_least_24 ⟨_, rfl, hb⟩
  ·
    replace hb := hb.1 c
    refine g_ldc2 C wd_463 dX11_least_10 ?_
    refine g_goto (tgt := 24) C dX11_least_13 (by decide) ?_
    exact g_lreturn C hΓ (Nat.zero_le _) (Nat.zero_le _) dX11_least_24 ⟨_, rfl, hb⟩
theorem okX11_least {v0 : Nat} {v1 : Int32} {σ : St} {Q : Int64 → St → Prop} (hb : wX11_least v0 v1 σ Q) : hM yX11_least cX11_least 3 ((Option.some FieldType.long)) 22 633 0 0 [.ref v0, .int v1] σ (oJ Q) :=
  hM_of (by decide) (Nat.le_of_ble_eq_true rfl) (fun Γ hΓ C => kwX11_least_0 C hΓ _ _ _ hb)
def wX8_othersToGo_8 (Q : Int32 → St → Prop) (r8 : Nat → Nat → Int32 → Int64 → Int32 → St → Prop) (v0 : Nat) (v1 : Nat) (v2 : Int32) (v3 : Int64) (v5 : Int32) (σ : St) : Prop :=
  zK σ v1 = 3 ∧ (((zFi σ 130 v1) ≤ v5 → zK σ v0 = 9 ∧ wX8_smallest v0 σ (fun y4 σ3 => wJ13_bitCount_95d88 y4 σ3 (fun y6 σ5 => Q y6 σ5))) ∧ (¬ (zFi σ 130 v1) ≤ v5 → ∃ a7 : Nat, zFr σ 129 v1 = some a7 ∧ zK σ a7 = 21 ∧ vp_in v5 (zL σ a7) ∧ wX11_has (zAj σ a7 (ix v5)) v2 σ (fun y12 σ11 => ((¬ y12 = 0 → r8 v0 v1 v2 v3 (v5 + 1) σ11) ∧ (y12 = 0 → zK σ11 v0 = 9 ∧ ∃ a14 : Nat, zFr σ11 512 v0 = some a14 ∧ zK σ11 v1 = 3 ∧ ∃ a17 : Nat, zFr σ11 129 v1 = some a17 ∧ zK σ11 a17 = 21 ∧ vp_in v5 (zL σ11 a17) ∧ zK σ11 a14 = 21 ∧ vp_in (zFi σ11 513 v0) (zL σ11 a14) ∧ r8 v0 v1 v2 v3 (v5 + 1) (uFi (uAj σ11 a14 (ix (zFi σ11 513 v0)) ((zAj σ11 a17 (ix v5)) &&& (v3 ^^^ (-1)))) 513 v0 ((zFi σ11 513 v0) + 1)))))))
def lX8_othersToGo_8 (Q : Int32 → St → Prop) : Nat → Nat → Nat → Int32 → Int64 → Int32 → St → Prop
  | 0, _, _, _, _, _, _ => False
  | f + 1, v0, v1, v2, v3, v5, σ => wX8_othersToGo_8 Q (lX8_othersToGo_8 Q f) v0 v1 v2 v3 v5 σ
def wX8_othersToGo_0 (Q : Int32 → St → Prop) (v0 : Nat) (v1 : Nat) (v2 : Int32) (v3 : Int64) (σ : St) : Prop :=
  zK σ v0 = 9 ∧ ∃ f, lX8_othersToGo_8 Q f v0 v1 v2 v3 0 (uFi σ 513 v0 0)
def wX8_othersToGo (v0 : Nat) (v1 : Nat) (v2 : Int32) (v3 : Int64) (σ : St) (Q : Int32 → St → Prop) : Prop := wX8_othersToGo_0 Q v0 v1 v2 v3 σ
set_option maxRecDepth 20000 in
theorem kwX8_othersToGo_8 {Γ : hCT} (C : hC Γ RX8 cX8_othersToGo ((Option.some FieldType.int)) "othersToGo" 21 612) {Q : Int32 → St → Prop} (hΓ : Γ.2.2.2.2.2.2.2.2.2.2.2 = (6, 0, 0, oI Q)) {r8 : Nat → Nat → Int32 → Int64 → Int32 → St → Prop} (h8 : ∀ (v0 : Nat) (v1 : Nat) (v2 : Int32) (v3 : Int64) (v5 : Int32) (σ : St), r8 v0 v1 v2 v3 v5 σ → hW Γ 0 0 8 [(0, .ref v0), (1, .ref v1), (2, .int v2), (3, .long v3), (5, .int v5)] [] σ) (v0 : Nat) (v1 : Nat) (v2 : Int32) (v3 : Int64) (v5 : Int32) (σ : St) (hb : wX8_othersToGo_8 Q r8 v0 v1 v2 v3 v5 σ) : hW Γ 0 0 8 [(0, .ref v0), (1, .ref v1), (2, .int v2), (3, .long v3), (5, .int v5)] [] σ := by
  unfold wX8_othersToGo_8 at hb
  refine g_iload C dX8_othersToGo_8 4 rfl ?_
  refine g_aload_n (some v1) C dX8_othersToGo_10 1 rfl ?_
  obtain ⟨q1, hb⟩ := hb
  refine g_getIx (zFi σ 130 v1) C fl_RX8_15 dX8_othersToGo_11 q1 rfl rfl rfl ?_
  refine g_icmp_ge (tgt := 69) C dX8_othersToGo_14 (by decide) (fun c => ?_) (fun c => ?_)
  ·
    replace hb := hb.1 (c)
    refine g_aload_n (some v0) C dX8_othersToGo_69 0 rfl ?_
    obtain ⟨q2, hb⟩ := hb
    refine g_invV (ci := 8) [] [] zy_X8_smallest wd_867 wd_869 wd_28 ⟨_, _, rfl⟩ (by decide) C dX8_othersToGo_70 (by first | exact Nat.le_of_ble_eq_true rfl | simp [cat_rf]) (by first | exact Nat.le_of_ble_eq_true rfl | simp [cat_rf]) (by first | exact Nat.le_of_ble_eq_true rfl | simp [cat_rf]) (Nat.zero_le _) (Nat.zero_le _) rfl rfl q2 (okX8_smallest hb) ?_
    rintro o σ3 ⟨y4, rfl, hb⟩
    refine ⟨_, rfl, ?_⟩
    refine g_invS [.long y4] [] zy_J13_bitCount_95d88 wd_881 wd_833 C dX8_othersToGo_73 (by first | exact Nat.le_of_ble_eq_true rfl | simp [cat_rf]) (by first | exact Nat.le_of_ble_eq_true rfl | simp [cat_rf]) (by first | exact Nat.le_of_ble_eq_true rfl | simp [cat_rf]) (Nat.zero_le _) (Nat.zero_le _) rfl rfl  (okJ13_bitCount_95d88 hb) ?_
    rintro o σ5 ⟨y6, rfl, hb⟩
    refine ⟨_, rfl, ?_⟩
    exact g_ireturn C hΓ (Nat.zero_le _) (Nat.zero_le _) dX8_othersToGo_76 ⟨_, rfl, hb⟩
  ·
    replace hb := hb.2 (c)
    refine g_aload_n (some v1) C dX8_othersToGo_17 1 rfl ?_
    obtain ⟨a7, q8, hb⟩ := hb
    refine g_getR (some a7) C fl_RX8_24 dX8_othersToGo_18 q1 rfl rfl q8 ?_
    refine g_iload C dX8_othersToGo_21 4 rfl ?_
    obtain ⟨q9, hb⟩ := hb
    obtain ⟨q10, hb⟩ := hb
    refine g_laldx (zAj σ a7 (ix v5)) C dX8_othersToGo_23 q9 q10 rfl ?_
    refine g_iload_n C dX8_othersToGo_24 2 rfl ?_
    refine g_invSN [.long (zAj σ a7 (ix v5)), .int v2] [] zy_X11_has wn_890 wd_442 C dX8_othersToGo_25 (by first | exact Nat.le_of_ble_eq_true rfl | simp [cat_rf]) (by first | exact Nat.le_of_ble_eq_true rfl | simp [cat_rf]) (by first | exact Nat.le_of_ble_eq_true rfl | simp [cat_rf]) (Nat.zero_le _) (Nat.zero_le _) rfl rfl  (okX11_has hb) ?_
    rintro o σ11 ⟨y12, rfl, hb⟩
    refine ⟨_, rfl, ?_⟩
    refine g_if_ne (tgt := 63) C dX8_othersToGo_28 (by decide) (fun c => ?_) (fun c => ?_)
    ·
      replace hb := hb.1 (c)
      refine g_iinc (v := v5 + 1) (lv' := [(5, .int (v5 + 1)), (0, .ref v0), (1, .ref v1), (2, .int v2), (3, .long v3)]) C dX8_othersToGo_63 4 rfl rfl (hnl_of hΓ (by decide)) (by first | rfl | simp [cat_rf]) ?_
      refine g_goto (tgt := 8) C dX8_othersToGo_66 (by decide) ?_
      refine g_sub (lv' := [(0, .ref v0), (1, .ref v1), (2, .int v2), (3, .long v3), (5, .int (v5 + 1))]) [1, 2, 3, 4, 0] rfl ?_
      exact h8 _ _ _ _ _ _ hb
    ·
      replace hb := hb.2 (c)
      refine g_aload_n (some v0) C dX8_othersToGo_31 0 rfl ?_
      obtain ⟨q13, hb⟩ := hb
      obtain ⟨a14, q15, hb⟩ := hb
      refine g_getR (some a14) C fl_RX8_9 dX8_othersToGo_32 q13 rfl rfl q15 ?_
      refine g_aload_n (some v0) C dX8_othersToGo_35 0 rfl ?_
      refine g_getIx (zFi σ11 513 v0) C fl_RX8_21 dX8_othersToGo_36 q13 rfl rfl rfl ?_
      refine g_aload_n (some v1) C dX8_othersToGo_39 1 rfl ?_
      obtain ⟨q16, hb⟩ := hb
      obtain ⟨a17, q18, hb⟩ := hb
      refine g_getR (some a17) C fl_RX8_24 dX8_othersToGo_40 q16 rfl rfl q18 ?_
      refine g_iload C dX8_othersToGo_43 4 rfl ?_
      obtain ⟨q19, hb⟩ := hb
      obtain ⟨q20, hb⟩ := hb
      refine g_laldx (zAj σ11 a17 (ix v5)) C dX8_othersToGo_45 q19 q20 rfl ?_
      refine g_lload_n C dX8_othersToGo_46 3 rfl ?_
      refine g_ldc2 C wd_871 dX8_othersToGo_47 ?_
      refine g_lxor C dX8_othersToGo_50 ?_
      refine g_land C dX8_othersToGo_51 ?_
      obtain ⟨q21, hb⟩ := hb
      obtain ⟨q22, hb⟩ := hb
      refine g_last C dX8_othersToGo_52 q21 q22 ?_
      refine g_aload_n (some v0) C dX8_othersToGo_53 0 rfl ?_
      refine g_dup C dX8_othersToGo_54 rfl ?_
      refine g_getIx (zFi σ11 513 v0) C fl_RX8_21 dX8_othersToGo_55 (by rw [zK_uAj]; exact q13) rfl rfl (by rw [zFi_uAj]) ?_
      refine g_iconst (v := 1) C dX8_othersToGo_58 (by decide) ?_
      refine g_iadd C dX8_othersToGo_59 ?_
      refine g_putI C fl_RX8_21 dX8_othersToGo_60 (by rw [zK_uAj]; exact q13) rfl rfl rfl rfl ?_
      refine g_iinc (v := v5 + 1) (lv' := [(5, .int (v5 + 1)), (0, .ref v0), (1, .ref v1), (2, .int v2), (3, .long v3)]) C dX8_othersToGo_63 4 rfl rfl (hnl_of hΓ (by decide)) (by first | rfl | simp [cat_rf]) ?_
      refine g_goto (tgt := 8) C dX8_othersToGo_66 (by decide) ?_
      refine g_sub (lv' := [(0, .ref v0), (1, .ref v1), (2, .int v2), (3, .long v3), (5, .int (v5 + 1))]) [1, 2, 3, 4, 0] rfl ?_
      exact h8 _ _ _ _ _ _ hb
theorem klX8_othersToGo_8 {Γ : hCT} (C : hC Γ RX8 cX8_othersToGo ((Option.some FieldType.int)) "othersToGo" 21 612) {Q : Int32 → St → Prop} (hΓ : Γ.2.2.2.2.2.2.2.2.2.2.2 = (6, 0, 0, oI Q)) (f : Nat) (v0 : Nat) (v1 : Nat) (v2 : Int32) (v3 : Int64) (v5 : Int32) (σ : St) (hb : lX8_othersToGo_8 Q f v0 v1 v2 v3 v5 σ) : hW Γ 0 0 8 [(0, .ref v0), (1, .ref v1), (2, .int v2), (3, .long v3), (5, .int v5)] [] σ := by
  induction f generalizing v0 v1 v2 v3 v5 σ with
  | zero => exact hb.elim
  | succ f ih => exact kwX8_othersToGo_8 C hΓ  (fun v0 v1 v2 v3 v5 σ h => ih v0 v1 v2 v3 v5 σ h) _ _ _ _ _ _ hb
set_option maxRecDepth 20000 in
theorem kwX8_othersToGo_0 {Γ : hCT} (C : hC Γ RX8 cX8_othersToGo ((Option.some FieldType.int)) "othersToGo" 21 612) {Q : Int32 → St → Prop} (hΓ : Γ.2.2.2.2.2.2.2.2.2.2.2 = (6, 0, 0, oI Q)) (v0 : Nat) (v1 : Nat) (v2 : Int32) (v3 : Int64) (σ : St) (hb : wX8_othersToGo_0 Q v0 v1 v2 v3 σ) : hW Γ 0 0 0 [(0, .ref v0), (1, .ref v1), (2, .int v2), (3, .long v3)] [] σ := by
  unfold wX8_othersToGo_0 at hb
  refine g_aload_n (some v0) C dX8_othersToGo_0 0 rfl ?_
  refine g_iconst (v := 0) C dX8_othersToGo_1 (by decide) ?_
  obtain ⟨q1, hb⟩ := hb
  refine g_putI C fl_RX8_21 dX8_othersToGo_2 q1 rfl rfl rfl rfl ?_
  refine g_iconst (v := 0) C dX8_othersToGo_5 (by decide) ?_
  refine g_istore (lv' := [(5, .int 0), (0, .ref v0), (1, .ref v1), (2, .int v2), (3, .long v3)]) C dX8_othersToGo_6 (hnl_of hΓ (by decide)) (by first | rfl | simp [cat_rf]) ?_
  refine g_sub (lv' := [(0, .ref v0), (1, .ref v1), (2, .int v2), (3, .long v3), (5, .int 0)]) [1, 2, 3, 4, 0] rfl ?_
  obtain ⟨f2, hb⟩ := hb
  exact klX8_othersToGo_8 C hΓ  f2 _ _ _ _ _ _ hb
theorem okX8_othersToGo {v0 : Nat} {v1 : Nat} {v2 : Int32} {v3 : Int64} {σ : St} {Q : Int32 → St → Prop} (hb : wX8_othersToGo v0 v1 v2 v3 σ Q) : hM yX8_othersToGo cX8_othersToGo 6 ((Option.some FieldType.int)) 21 612 0 0 [.ref v0, .ref v1, .int v2, .long v3] σ (oI Q) :=
  hM_of (by decide) (Nat.le_of_ble_eq_true rfl) (fun Γ hΓ C => kwX8_othersToGo_0 C hΓ _ _ _ _ _ hb)
def wX8_blameOf_6 (Q : Int32 → St → Prop) (r6 : Nat → Nat → Int32 → Int32 → Int32 → St → Prop) (v0 : Nat) (v1 : Nat) (v2 : Int32) (v3 : Int32) (v4 : Int32) (σ : St) : Prop :=
  zK σ v1 = 3 ∧ (((zFi σ 130 v1) ≤ v4 → Q v3 σ) ∧ (¬ (zFi σ 130 v1) ≤ v4 → ∃ a2 : Nat, zFr σ 129 v1 = some a2 ∧ zK σ a2 = 21 ∧ vp_in v4 (zL σ a2) ∧ wX11_has (zAj σ a2 (ix v4)) v2 σ (fun y7 σ6 => ((y7 = 0 → r6 v0 v1 v2 v3 (v4 + 1) σ6) ∧ (¬ y7 = 0 → zK σ6 v1 = 3 ∧ ∃ a9 : Nat, zFr σ6 129 v1 = some a9 ∧ zK σ6 a9 = 21 ∧ vp_in v4 (zL σ6 a9) ∧ zK σ6 v0 = 9 ∧ wX8_othersToGo v0 v1 v2 (zAj σ6 a9 (ix v4)) σ6 (fun y15 σ14 => r6 v0 v1 v2 (if y15 < v3 then y15 else v3) (v4 + 1) σ14))))))
def lX8_blameOf_6 (Q : Int32 → St → Prop) : Nat → Nat → Nat → Int32 → Int32 → Int32 → St → Prop
  | 0, _, _, _, _, _, _ => False
  | f + 1, v0, v1, v2, v3, v4, σ => wX8_blameOf_6 Q (lX8_blameOf_6 Q f) v0 v1 v2 v3 v4 σ
def wX8_blameOf_0 (Q : Int32 → St → Prop) (v0 : Nat) (v1 : Nat) (v2 : Int32) (σ : St) : Prop :=
  ∃ f, lX8_blameOf_6 Q f v0 v1 v2 60 0 σ
def wX8_blameOf (v0 : Nat) (v1 : Nat) (v2 : Int32) (σ : St) (Q : Int32 → St → Prop) : Prop := wX8_blameOf_0 Q v0 v1 v2 σ
set_option maxRecDepth 20000 in
theorem kwX8_blameOf_6 {Γ : hCT} (C : hC Γ RX8 cX8_blameOf ((Option.some FieldType.int)) "blameOf" 22 637) {Q : Int32 → St → Prop} (hΓ : Γ.2.2.2.2.2.2.2.2.2.2.2 = (5, 0, 0, oI Q)) {r6 : Nat → Nat → Int32 → Int32 → Int32 → St → Prop} (h6 : ∀ (v0 : Nat) (v1 : Nat) (v2 : Int32) (v3 : Int32) (v4 : Int32) (σ : St), r6 v0 v1 v2 v3 v4 σ → hW Γ 0 0 6 [(0, .ref v0), (1, .ref v1), (2, .int v2), (3, .int v3), (4, .int v4)] [] σ) (v0 : Nat) (v1 : Nat) (v2 : Int32) (v3 : Int32) (v4 : Int32) (σ : St) (hb : wX8_blameOf_6 Q r6 v0 v1 v2 v3 v4 σ) : hW Γ 0 0 6 [(0, .ref v0), (1, .ref v1), (2, .int v2), (3, .int v3), (4, .int v4)] [] σ := by
  unfold wX8_blameOf_6 at hb
  refine g_iload C dX8_blameOf_6 4 rfl ?_
  refine g_aload_n (some v1) C dX8_blameOf_8 1 rfl ?_
  obtain ⟨q1, hb⟩ := hb
  refine g_getIx (zFi σ 130 v1) C fl_RX8_15 dX8_blameOf_9 q1 rfl rfl rfl ?_
  refine g_icmp_ge (tgt := 53) C dX8_blameOf_12 (by decide) (fun c => ?_) (fun c => ?_)
  ·
    replace hb := hb.1 (c)
    refine g_iload_n C dX8_blameOf_53 3 rfl ?_
    exact g_ireturn C hΓ (Nat.zero_le _) (Nat.zero_le _) dX8_blameOf_54 ⟨_, rfl, hb⟩
  ·
    replace hb := hb.2 (c)
    refine g_aload_n (some v1) C dX8_blameOf_15 1 rfl ?_
    obtain ⟨a2, q3, hb⟩ := hb
    refine g_getR (some a2) C fl_RX8_24 dX8_blameOf_16 q1 rfl rfl q3 ?_
    refine g_iload C dX8_blameOf_19 4 rfl ?_
    obtain ⟨q4, hb⟩ := hb
    obtain ⟨q5, hb⟩ := hb
    refine g_laldx (zAj σ a2 (ix v4)) C dX8_blameOf_21 q4 q5 rfl ?_
    refine g_iload_n C dX8_blameOf_22 2 rfl ?_
    refine g_invSN [.long (zAj σ a2 (ix v4)), .int v2] [] zy_X11_has wn_890 wd_442 C dX8_blameOf_23 (by first | exact Nat.le_of_ble_eq_true rfl | simp [cat_rf]) (by first | exact Nat.le_of_ble_eq_true rfl | simp [cat_rf]) (by first | exact Nat.le_of_ble_eq_true rfl | simp [cat_rf]) (Nat.zero_le _) (Nat.zero_le _) rfl rfl  (okX11_has hb) ?_
    rintro o σ6 ⟨y7, rfl, hb⟩
    refine ⟨_, rfl, ?_⟩
    refine g_if_eq (tgt := 47) C dX8_blameOf_26 (by decide) (fun c => ?_) (fun c => ?_)
    ·
      replace hb := hb.1 (c)
      refine g_iinc (v := v4 + 1) (lv' := [(4, .int (v4 + 1)), (0, .ref v0), (1, .ref v1), (2, .int v2), (3, .int v3)]) C dX8_blameOf_47 4 rfl rfl (hnl_of hΓ (by decide)) (by first | rfl | simp [cat_rf]) ?_
      refine g_goto (tgt := 6) C dX8_blameOf_50 (by decide) ?_
      refine g_sub (lv' := [(0, .ref v0), (1, .ref v1), (2, .int v2), (3, .int v3), (4, .int (v4 + 1))]) [1, 2, 3, 4, 0] rfl ?_
      exact h6 _ _ _ _ _ _ hb
    ·
      replace hb := hb.2 (c)
      refine g_iload_n C dX8_blameOf_29 3 rfl ?_
      refine g_aload_n (some v0) C dX8_blameOf_30 0 rfl ?_
      refine g_aload_n (some v1) C dX8_blameOf_31 1 rfl ?_
      refine g_iload_n C dX8_blameOf_32 2 rfl ?_
      refine g_aload_n (some v1) C dX8_blameOf_33 1 rfl ?_
      obtain ⟨q8, hb⟩ := hb
      obtain ⟨a9, q10, hb⟩ := hb
      refine g_getR (some a9) C fl_RX8_24 dX8_blameOf_34 q8 rfl rfl q10 ?_
      refine g_iload C dX8_blameOf_37 4 rfl ?_
      obtain ⟨q11, hb⟩ := hb
      obtain ⟨q12, hb⟩ := hb
      refine g_laldx (zAj σ6 a9 (ix v4)) C dX8_blameOf_39 q11 q12 rfl ?_
      obtain ⟨q13, hb⟩ := hb
      refine g_invV (ci := 8) [.ref v1, .int v2, .long (zAj σ6 a9 (ix v4))] [.int v3] zy_X8_othersToGo wd_891 wd_893 wd_31 ⟨_, _, rfl⟩ (by decide) C dX8_blameOf_40 (by first | exact Nat.le_of_ble_eq_true rfl | simp [cat_rf]) (by first | exact Nat.le_of_ble_eq_true rfl | simp [cat_rf]) (by first | exact Nat.le_of_ble_eq_true rfl | simp [cat_rf]) (Nat.zero_le _) (Nat.zero_le _) rfl rfl q13 (okX8_othersToGo hb) ?_
      rintro o σ14 ⟨y15, rfl, hb⟩
      refine ⟨_, rfl, ?_⟩
      refine g_mmin wd_895 wd_401 wd_87 wd_402 C (by first | exact Nat.le_of_ble_eq_true rfl | simp [cat_rf]) (by first | exact Nat.le_of_ble_eq_true rfl | simp [cat_rf]) (Nat.zero_le _) (Nat.zero_le _) dX8_blameOf_43 ?_
      refine g_istore_n (i := 3) (lv' := [(3, .int (if y15 < v3 then y15 else v3)), (0, .ref v0), (1, .ref v1), (2, .int v2), (4, .int v4)]) C dX8_blameOf_46 rfl (hnl_of hΓ (by decide)) (by first | rfl | simp [cat_rf]) ?_
      refine g_iinc (v := v4 + 1) (lv' := [(4, .int (v4 + 1)), (3, .int (if y15 < v3 then y15 else v3)), (0, .ref v0), (1, .ref v1), (2, .int v2)]) C dX8_blameOf_47 4 rfl rfl (hnl_of hΓ (by decide)) (by first | rfl | simp [cat_rf]) ?_
      refine g_goto (tgt := 6) C dX8_blameOf_50 (by decide) ?_
      refine g_sub (lv' := [(0, .ref v0), (1, .ref v1), (2, .int v2), (3, .int (if y15 < v3 then y15 else v3)), (4, .int (v4 + 1))]) [2, 3, 4, 1, 0] rfl ?_
      exact h6 _ _ _ _ _ _ hb
theorem klX8_blameOf_6 {Γ : hCT} (C : hC Γ RX8 cX8_blameOf ((Option.some FieldType.int)) "blameOf" 22 637) {Q : Int32 → St → Prop} (hΓ : Γ.2.2.2.2.2.2.2.2.2.2.2 = (5, 0, 0, oI Q)) (f : Nat) (v0 : Nat) (v1 : Nat) (v2 : Int32) (v3 : Int32) (v4 : Int32) (σ : St) (hb : lX8_blameOf_6 Q f v0 v1 v2 v3 v4 σ) : hW Γ 0 0 6 [(0, .ref v0), (1, .ref v1), (2, .int v2), (3, .int v3), (4, .int v4)] [] σ := by
  induction f generalizing v0 v1 v2 v3 v4 σ with
  | zero => exact hb.elim
  | succ f ih => exact kwX8_blameOf_6 C hΓ  (fun v0 v1 v2 v3 v4 σ h => ih v0 v1 v2 v3 v4 σ h) _ _ _ _ _ _ hb
set_option maxRecDepth 20000 in
theorem kwX8_blameOf_0 {Γ : hCT} (C : hC Γ RX8 cX8_blameOf ((Option.some FieldType.int)) "blameOf" 22 637) {Q : Int32 → St → Prop} (hΓ : Γ.2.2.2.2.2.2.2.2.2.2.2 = (5, 0, 0, oI Q)) (v0 : Nat) (v1 : Nat) (v2 : Int32) (σ : St) (hb : wX8_blameOf_0 Q v0 v1 v2 σ) : hW Γ 0 0 0 [(0, .ref v0), (1, .ref v1), (2, .int v2)] [] σ := by
  unfold wX8_blameOf_0 at hb
  refine g_bipush (v := 60) C dX8_blameOf_0 (by decide) ?_
  refine g_istore_n (i := 3) (lv' := [(3, .int 60), (0, .ref v0), (1, .ref v1), (2, .int v2)]) C dX8_blameOf_2 rfl (hnl_of hΓ (by decide)) (by first | rfl | simp [cat_rf]) ?_
  refine g_iconst (v := 0) C dX8_blameOf_3 (by decide) ?_
  refine g_istore (lv' := [(4, .int 0), (3, .int 60), (0, .ref v0), (1, .ref v1), (2, .int v2)]) C dX8_blameOf_4 (hnl_of hΓ (by decide)) (by first | rfl | simp [cat_rf]) ?_
  refine g_sub (lv' := [(0, .ref v0), (1, .ref v1), (2, .int v2), (3, .int 60), (4, .int 0)]) [2, 3, 4, 1, 0] rfl ?_
  obtain ⟨f1, hb⟩ := hb
  exact klX8_blameOf_6 C hΓ  f1 _ _ _ _ _ _ hb
theorem okX8_blameOf {v0 : Nat} {v1 : Nat} {v2 : Int32} {σ : St} {Q : Int32 → St → Prop} (hb : wX8_blameOf v0 v1 v2 σ Q) : hM yX8_blameOf cX8_blameOf 5 ((Option.some FieldType.int)) 22 637 0 0 [.ref v0, .ref v1, .int v2] σ (oI Q) :=
  hM_of (by decide) (Nat.le_of_ble_eq_true rfl) (fun Γ hΓ C => kwX8_blameOf_0 C hΓ _ _ _ _ hb)
def wX11_blame_22 (Q : Int32 → St → Prop) (v0 : Nat) (σ : St) : Prop :=
  zK σ v0 = 12 ∧ wX11_refused v0 1 σ (fun y3 σ2 => Q y3 σ2)
def wX11_blame_0 (Q : Int32 → St → Prop) (v0 : Nat) (v1 : Int32) (v2 : Int32) (σ : St) : Prop :=
  zK σ v0 = 12 ∧ ∃ a2 : Nat, zFr σ 708 v0 = some a2 ∧ zK σ a2 = 4 ∧ wX3_at a2 v1 σ (fun y6 σ5 => ((y6 = none → wX11_blame_22 Q v0 σ5) ∧ (∀ a7 : Nat, y6 = some a7 → zK σ5 v0 = 12 ∧ ∃ a9 : Nat, zFr σ5 704 v0 = some a9 ∧ zK σ5 a9 = 7 ∧ wX6_isFact a9 v2 σ5 (fun y13 σ12 => ((¬ y13 = 0 → zK σ12 v0 = 12 ∧ wX11_weighable v0 v1 σ12 (fun y16 σ15 => ((y16 = none → Q (-1) σ15) ∧ (∀ a17 : Nat, y16 = some a17 → zK σ15 a17 = 3 ∧ wX2_inAnyWay a17 σ15 (fun y20 σ19 => wX11_has y20 v2 σ19 (fun y22 σ21 => ((¬ y22 = 0 → zK σ21 v0 = 12 ∧ ∃ a24 : Nat, zFr σ21 711 v0 = some a24 ∧ zK σ21 a24 = 9 ∧ wX8_blameOf a24 a17 v2 σ21 (fun y28 σ27 => Q y28 σ27)) ∧ (y22 = 0 → zK σ21 v0 = 12 ∧ wX11_refused v0 6 σ21 (fun y31 σ30 => Q y31 σ30))))))))) ∧ (y13 = 0 → wX11_blame_22 Q v0 σ12))))))
def wX11_blame (v0 : Nat) (v1 : Int32) (v2 : Int32) (σ : St) (Q : Int32 → St → Prop) : Prop := wX11_blame_0 Q v0 v1 v2 σ
set_option maxRecDepth 20000 in
theorem kwX11_blame_22 {Γ : hCT} (C : hC Γ RX11 cX11_blame ((Option.some FieldType.int)) "blame" 23 661) {Q : Int32 → St → Prop} (hΓ : Γ.2.2.2.2.2.2.2.2.2.2.2 = (4, 0, 0, oI Q)) (v0 : Nat) (σ : St) (hb : wX11_blame_22 Q v0 σ) : hW Γ 0 0 22 [(0, .ref v0)] [] σ := by
  unfold wX11_blame_22 at hb
  refine g_aload_n (some v0) C dX11_blame_22 0 rfl ?_
  refine g_iconst (v := 1) C dX11_blame_23 (by decide) ?_
  obtain ⟨q1, hb⟩ := hb
  refine g_invV (ci := 11) [.int 1] [] zy_X11_refused wd_361 wd_363 wd_0 ⟨_, _, rfl⟩ (by decide) C dX11_blame_24 (by first | exact Nat.le_of_ble_eq_true rfl | simp [cat_rf]) (by first | exact Nat.le_of_ble_eq_true rfl | simp [cat_rf]) (by first | exact Nat.le_of_ble_eq_true rfl | simp [cat_rf]) (Nat.zero_le _) (Nat.zero_le _) rfl rfl q1 (okX11_refused hb) ?_
  rintro o σ2 ⟨y3, rfl, hb⟩
  refine ⟨_, rfl, ?_⟩
  exact g_ireturn C hΓ (Nat.zero_le _) (Nat.zero_le _) dX11_blame_27 ⟨_, rfl, hb⟩
set_option maxRecDepth 20000 in
theorem kwX11_blame_0 {Γ : hCT} (C : hC Γ RX11 cX11_blame ((Option.some FieldType.int)) "blame" 23 661) {Q : Int32 → St → Prop} (hΓ : Γ.2.2.2.2.2.2.2.2.2.2.2 = (4, 0, 0, oI Q)) (v0 : Nat) (v1 : Int32) (v2 : Int32) (σ : St) (hb : wX11_blame_0 Q v0 v1 v2 σ) : hW Γ 0 0 0 [(0, .ref v0), (1, .int v1), (2, .int v2)] [] σ := by
  unfold wX11_blame_0 at hb
  refine g_aload_n (some v0) C dX11_blame_0 0 rfl ?_
  obtain ⟨q1, hb⟩ := hb
  obtain ⟨a2, q3, hb⟩ := hb
  refine g_getR (some a2) C fl_RX11_36 dX11_blame_1 q1 rfl rfl q3 ?_
  refine g_iload_n C dX11_blame_4 1 rfl ?_
  obtain ⟨q4, hb⟩ := hb
  refine g_invV (ci := 3) [.int v1] [] zy_X3_at wd_769 wd_751 wd_752 ⟨_, _, rfl⟩ (by decide) C dX11_blame_5 (by first | exact Nat.le_of_ble_eq_true rfl | simp [cat_rf]) (by first | exact Nat.le_of_ble_eq_true rfl | simp [cat_rf]) (by first | exact Nat.le_of_ble_eq_true rfl | simp [cat_rf]) (Nat.zero_le _) (Nat.zero_le _) rfl rfl q4 (okX3_at hb) ?_
  rintro o σ5 ⟨y6, rfl, hb⟩
  refine ⟨_, rfl, ?_⟩
  refine g_ifnull (tgt := 22) y6 C dX11_blame_8 (by decide) (fun c => ?_) (fun c => ?_)
  ·
    replace hb := hb.1 c
    refine g_sub (lv' := [(0, .ref v0)]) [0] rfl ?_
    exact kwX11_blame_22 C hΓ  _ _ hb
  ·
    obtain ⟨a7, rfl⟩ := rf_some c
    replace hb := hb.2 a7 rfl
    refine g_aload_n (some v0) C dX11_blame_11 0 rfl ?_
    obtain ⟨q8, hb⟩ := hb
    obtain ⟨a9, q10, hb⟩ := hb
    refine g_getR (some a9) C fl_RX11_12 dX11_blame_12 q8 rfl rfl q10 ?_
    refine g_iload_n C dX11_blame_15 2 rfl ?_
    obtain ⟨q11, hb⟩ := hb
    refine g_invV (ci := 6) [.int v2] [] zy_X6_isFact wd_433 wd_434 wd_435 ⟨_, _, rfl⟩ (by decide) C dX11_blame_16 (by first | exact Nat.le_of_ble_eq_true rfl | simp [cat_rf]) (by first | exact Nat.le_of_ble_eq_true rfl | simp [cat_rf]) (by first | exact Nat.le_of_ble_eq_true rfl | simp [cat_rf]) (Nat.zero_le _) (Nat.zero_le _) rfl rfl q11 (okX6_isFact hb) ?_
    rintro o σ12 ⟨y13, rfl, hb⟩
    refine ⟨_, rfl, ?_⟩
    refine g_if_ne (tgt := 28) C dX11_blame_19 (by decide) (fun c => ?_) (fun c => ?_)
    ·
      replace hb := hb.1 (c)
      refine g_aload_n (some v0) C dX11_blame_28 0 rfl ?_
      refine g_iload_n C dX11_blame_29 1 rfl ?_
      obtain ⟨q14, hb⟩ := hb
      refine g_invV (ci := 11) [.int v1] [] zy_X11_weighable wd_824 wd_826 wd_26 ⟨_, _, rfl⟩ (by decide) C dX11_blame_30 (by first | exact Nat.le_of_ble_eq_true rfl | simp [cat_rf]) (by first | exact Nat.le_of_ble_eq_true rfl | simp [cat_rf]) (by first | exact Nat.le_of_ble_eq_true rfl | simp [cat_rf]) (Nat.zero_le _) (Nat.zero_le _) rfl rfl q14 (okX11_weighable hb) ?_
      rintro o σ15 ⟨y16, rfl, hb⟩
      refine ⟨_, rfl, ?_⟩
      refine g_astore_n (i := 3) (lv' := [(3, va_rf y16), (0, .ref v0), (1, .int v1), (2, .int v2)]) y16 C dX11_blame_33 rfl (hnl_of hΓ (by decide)) (by first | rfl | simp [cat_rf]) ?_
      refine g_aload_n y16 C dX11_blame_34 0 rfl ?_
      refine g_ifnonnull (tgt := 40) y16 C dX11_blame_35 (by decide) (fun c => ?_) (fun c => ?_)
      ·
        obtain ⟨a17, rfl⟩ := rf_some c
        replace hb := hb.2 a17 rfl
        refine g_aload_n (some a17) C dX11_blame_40 0 rfl ?_
        obtain ⟨q18, hb⟩ := hb
        refine g_invV (ci := 2) [] [] zy_X2_inAnyWay wd_828 wd_829 wd_830 ⟨_, _, rfl⟩ (by decide) C dX11_blame_41 (by first | exact Nat.le_of_ble_eq_true rfl | simp [cat_rf]) (by first | exact Nat.le_of_ble_eq_true rfl | simp [cat_rf]) (by first | exact Nat.le_of_ble_eq_true rfl | simp [cat_rf]) (Nat.zero_le _) (Nat.zero_le _) rfl rfl q18 (okX2_inAnyWay hb) ?_
        rintro o σ19 ⟨y20, rfl, hb⟩
        refine ⟨_, rfl, ?_⟩
        refine g_iload_n C dX11_blame_44 3 rfl ?_
        refine g_invS [.long y20, .int v2] [] zy_X11_has wd_857 wd_442 C dX11_blame_45 (by first | exact Nat.le_of_ble_eq_true rfl | simp [cat_rf]) (by first | exact Nat.le_of_ble_eq_true rfl | simp [cat_rf]) (by first | exact Nat.le_of_ble_eq_true rfl | simp [cat_rf]) (Nat.zero_le _) (Nat.zero_le _) rfl rfl  (okX11_has hb) ?_
        rintro o σ21 ⟨y22, rfl, hb⟩
        refine ⟨_, rfl, ?_⟩
        refine g_if_ne (tgt := 58) C dX11_blame_48 (by decide) (fun c => ?_) (fun c => ?_)
        ·
          replace hb := hb.1 (c)
          refine g_aload_n (some v0) C dX11_blame_58 1 rfl ?_
          obtain ⟨q23, hb⟩ := hb
          obtain ⟨a24, q25, hb⟩ := hb
          refine g_getR (some a24) C fl_RX11_50 dX11_blame_59 q23 rfl rfl q25 ?_
          refine g_aload_n (some a17) C dX11_blame_62 0 rfl ?_
          refine g_iload_n C dX11_blame_63 3 rfl ?_
          obtain ⟨q26, hb⟩ := hb
          refine g_invV (ci := 8) [.ref a17, .int v2] [] zy_X8_blameOf wd_886 wd_887 wd_888 ⟨_, _, rfl⟩ (by decide) C dX11_blame_64 (by first | exact Nat.le_of_ble_eq_true rfl | simp [cat_rf]) (by first | exact Nat.le_of_ble_eq_true rfl | simp [cat_rf]) (by first | exact Nat.le_of_ble_eq_true rfl | simp [cat_rf]) (Nat.zero_le _) (Nat.zero_le _) rfl rfl q26 (okX8_blameOf hb) ?_
          rintro o σ27 ⟨y28, rfl, hb⟩
          refine ⟨_, rfl, ?_⟩
          exact g_ireturn C hΓ (Nat.zero_le _) (Nat.zero_le _) dX11_blame_67 ⟨_, rfl, hb⟩
        ·
          replace hb := hb.2 (c)
          refine g_aload_n (some v0) C dX11_blame_51 1 rfl ?_
          refine g_bipush (v := 6) C dX11_blame_52 (by decide) ?_
          obtain ⟨q29, hb⟩ := hb
          refine g_invV (ci := 11) [.int 6] [] zy_X11_refused wd_361 wd_363 wd_0 ⟨_, _, rfl⟩ (by decide) C dX11_blame_54 (by first | exact Nat.le_of_ble_eq_true rfl | simp [cat_rf]) (by first | exact Nat.le_of_ble_eq_true rfl | simp [cat_rf]) (by first | exact Nat.le_of_ble_eq_true rfl | simp [cat_rf]) (Nat.zero_le _) (Nat.zero_le _) rfl rfl q29 (okX11_refused hb) ?_
          rintro o σ30 ⟨y31, rfl, hb⟩
          refine ⟨_, rfl, ?_⟩
          exact g_ireturn C hΓ (Nat.zero_le _) (Nat.zero_le _) dX11_blame_57 ⟨_, rfl, hb⟩
      ·
        replace hb := hb.1 c
        refine g_iconst (v := (-1)) C dX11_blame_38 (by decide) ?_
        exact g_ireturn C hΓ (Nat.zero_le _) (Nat.zero_le _) dX11_blame_39 ⟨_, rfl, hb⟩
    ·
      replace hb := hb.2 (c)
      refine g_sub (lv' := [(0, .ref v0)]) [0] rfl ?_
      exact kwX11_blame_22 C hΓ  _ _ hb
theorem okX11_blame {v0 : Nat} {v1 : Int32} {v2 : Int32} {σ : St} {Q : Int32 → St → Prop} (hb : wX11_blame v0 v1 v2 σ Q) : hM yX11_blame cX11_blame 4 ((Option.some FieldType.int)) 23 661 0 0 [.ref v0, .int v1, .int v2] σ (oI Q) :=
  hM_of (by decide) (Nat.le_of_ble_eq_true rfl) (fun Γ hΓ C => kwX11_blame_0 C hΓ _ _ _ _ hb)
def wX11_isShelfPlace_0 (Q : Int32 → St → Prop) (v0 : Nat) (v1 : Int32) (σ : St) : Prop :=
  ((v1 < 0 → Q 0 σ) ∧ (¬ v1 < 0 → (((20 : Int32) ≤ v1 → Q 0 σ) ∧ (¬ (20 : Int32) ≤ v1 → Q 1 σ))))
def wX11_isShelfPlace (v0 : Nat) (v1 : Int32) (σ : St) (Q : Int32 → St → Prop) : Prop := wX11_isShelfPlace_0 Q v0 v1 σ
set_option maxRecDepth 20000 in
theorem kwX11_isShelfPlace_0 {Γ : hCT} (C : hC Γ RX11 cX11_isShelfPlace ((Option.some FieldType.boolean)) "isShelfPlace" 0 0) {Q : Int32 → St → Prop} (hΓ : Γ.2.2.2.2.2.2.2.2.2.2.2 = (2, 0, 0, oI Q)) (v0 : Nat) (v1 : Int32) (σ : St) (hb : wX11_isShelfPlace_0 Q v0 v1 σ) : hW Γ 0 0 0 [(0, .ref v0), (1, .int v1)] [] σ := by
  unfold wX11_isShelfPlace_0 at hb
  refine g_iload_n C dX11_isShelfPlace_0 1 rfl ?_
  refine g_if_lt (tgt := 14) C dX11_isShelfPlace_1 (by decide) (fun c => ?_) (fun c => ?_)
  ·
    replace hb := hb.1 (c)
    refine g_iconst (v := 0) C dX11_isShelfPlace_14 (by decide) ?_
    exact g_zreturn C (by decide) hΓ (Nat.zero_le _) (Nat.zero_le _) dX11_isShelfPlace_15 ⟨_, rfl, hb⟩
  ·
    replace hb := hb.2 (c)
    refine g_iload_n C dX11_isShelfPlace_4 1 rfl ?_
    refine g_bipush (v := 20) C dX11_isShelfPlace_5 (by decide) ?_
    refine g_icmp_ge (tgt := 14) C dX11_isShelfPlace_7 (by decide) (fun c => ?_) (fun c => ?_)
    ·
      replace hb := hb.1 (c)
      refine g_iconst (v := 0) C dX11_isShelfPlace_14 (by decide) ?_
      exact g_zreturn C (by decide) hΓ (Nat.zero_le _) (Nat.zero_le _) dX11_isShelfPlace_15 ⟨_, rfl, hb⟩
    ·
      replace hb := hb.2 (c)
      refine g_iconst (v := 1) C dX11_isShelfPlace_10 (by decide) ?_
      refine g_goto (tgt := 15) C dX11_isShelfPlace_11 (by decide) ?_
      exact g_zreturn C (by decide) hΓ (Nat.zero_le _) (Nat.zero_le _) dX11_isShelfPlace_15 ⟨_, rfl, hb⟩
theorem okX11_isShelfPlace {v0 : Nat} {v1 : Int32} {σ : St} {Q : Int32 → St → Prop} (hb : wX11_isShelfPlace v0 v1 σ Q) : hM yX11_isShelfPlace cX11_isShelfPlace 2 ((Option.some FieldType.boolean)) 0 0 0 0 [.ref v0, .int v1] σ (oI Q) :=
  hM_of (by decide) (Nat.le_of_ble_eq_true rfl) (fun Γ hΓ C => kwX11_isShelfPlace_0 C hΓ _ _ _ hb)
def wX10_init_0 (Q : St → Prop) (v0 : Nat) (v1 : Int32) (v2 : Nat) (σ : St) : Prop :=
  zK σ v0 = 11 ∧ Q (uFr (uFi σ 640 v0 v1) 641 v0 (some v2))
def wX10_init (v0 : Nat) (v1 : Int32) (v2 : Nat) (σ : St) (Q : St → Prop) : Prop := wX10_init_0 Q v0 v1 v2 σ
set_option maxRecDepth 20000 in
theorem kwX10_init_0 {Γ : hCT} (C : hC Γ RX10 cX10_init ((Option.none : Option Jvm.ClassFile.FieldType)) "<init>" 1 12) {Q : St → Prop} (hΓ : Γ.2.2.2.2.2.2.2.2.2.2.2 = (3, 0, 0, oV Q)) (v0 : Nat) (v1 : Int32) (v2 : Nat) (σ : St) (hb : wX10_init_0 Q v0 v1 v2 σ) : hW Γ 0 0 0 [(0, .ref v0), (1, .int v1), (2, .ref v2)] [] σ := by
  unfold wX10_init_0 at hb
  refine g_aload_n (some v0) C dX10_init_0 0 rfl ?_
  refine g_objInit wd_912 wd_101 wd_102 C dX10_init_1 (by first | exact Nat.le_of_ble_eq_true rfl | simp [cat_rf]) (by first | exact Nat.le_of_ble_eq_true rfl | simp [cat_rf]) ?_
  refine g_aload_n (some v0) C dX10_init_4 0 rfl ?_
  refine g_iload_n C dX10_init_5 1 rfl ?_
  obtain ⟨q1, hb⟩ := hb
  refine g_putFI C fo_RX10_7 dX10_init_6 q1 rfl rfl rfl rfl ?_
  refine g_aload_n (some v0) C dX10_init_9 0 rfl ?_
  refine g_aload_n (some v2) C dX10_init_10 2 rfl ?_
  refine g_putFR (some v2) C fo_RX10_13 dX10_init_11 (by rw [zK_uFi]; exact q1) rfl rfl rfl rfl ?_
  exact g_vreturn C hΓ (Nat.zero_le _) (Nat.zero_le _) dX10_init_14 ⟨rfl, hb⟩
theorem okX10_init {v0 : Nat} {v1 : Int32} {v2 : Nat} {σ : St} {Q : St → Prop} (hb : wX10_init v0 v1 v2 σ Q) : hM yX10_init cX10_init 3 ((Option.none : Option Jvm.ClassFile.FieldType)) 1 12 0 0 [.ref v0, .int v1, .ref v2] σ (oV Q) :=
  hM_of (by decide) (Nat.le_of_ble_eq_true rfl) (fun Γ hΓ C => kwX10_init_0 C hΓ _ _ _ _ hb)
def wX2_rowOf_6 (mc ms : Nat) (Q : Nat → St → Prop) (r6 : Nat → Nat → Nat → Int32 → Nat → Int32 → St → Prop) (k n : Nat) (v0 : Nat) (v1 : Int32) (v2 : Nat) (v3 : Int32) (σ : St) : Prop :=
  ((v1 ≤ v3 → k ≤ mc ∧ n ≤ ms ∧ Q v2 σ) ∧ (¬ v1 ≤ v3 → zK σ v0 = 3 ∧ ∃ a4 : Nat, zFr σ 128 v0 = some a4 ∧ zK σ a4 = 20 ∧ vp_in v3 (zL σ a4) ∧ zK σ v2 = 21 ∧ vp_in v3 (zL σ v2) ∧ r6 k n v0 v1 v2 (v3 + 1) (uAj σ v2 (ix v3) (Int32.toInt64 (zAi σ a4 (ix v3))))))
def lX2_rowOf_6 (mc ms : Nat) (Q : Nat → St → Prop) : Nat → Nat → Nat → Nat → Int32 → Nat → Int32 → St → Prop
  | 0, _, _, _, _, _, _, _ => False
  | f + 1, k, n, v0, v1, v2, v3, σ => wX2_rowOf_6 mc ms Q (lX2_rowOf_6 mc ms Q f) k n v0 v1 v2 v3 σ
def wX2_rowOf_0 (mc ms : Nat) (Q : Nat → St → Prop) (k n : Nat) (v0 : Nat) (v1 : Int32) (σ : St) : Prop :=
  ¬ v1 < 0 ∧ ix v1 ≤ 10000 ∧ k + 1 ≤ mc ∧ n + (ix v1) ≤ ms ∧ ∀ b3 : Nat, zK σ b3 = 0 → ∃ f, lX2_rowOf_6 mc ms Q f (k + 1) (n + (ix v1)) v0 v1 b3 0 (nA σ b3 21 (ix v1))
def wX2_rowOf (mc ms : Nat) (v0 : Nat) (v1 : Int32) (σ : St) (Q : Nat → St → Prop) : Prop := wX2_rowOf_0 mc ms Q 0 0 v0 v1 σ
set_option maxRecDepth 20000 in
theorem kwX2_rowOf_6 {Γ : hCT} {mc ms : Nat} (C : hC Γ RX2 cX2_rowOf ((Option.some (FieldType.array FieldType.long))) "rowOf" 0 0) {Q : Nat → St → Prop} (hΓ : Γ.2.2.2.2.2.2.2.2.2.2.2 = (4, mc, ms, oA Q)) {r6 : Nat → Nat → Nat → Int32 → Nat → Int32 → St → Prop} (h6 : ∀ (k n : Nat) (v0 : Nat) (v1 : Int32) (v2 : Nat) (v3 : Int32) (σ : St), r6 k n v0 v1 v2 v3 σ → hW Γ k n 6 [(0, .ref v0), (1, .int v1), (2, .ref v2), (3, .int v3)] [] σ) (k n : Nat) (v0 : Nat) (v1 : Int32) (v2 : Nat) (v3 : Int32) (σ : St) (hb : wX2_rowOf_6 mc ms Q r6 k n v0 v1 v2 v3 σ) : hW Γ k n 6 [(0, .ref v0), (1, .int v1), (2, .ref v2), (3, .int v3)] [] σ := by
  unfold wX2_rowOf_6 at hb
  refine g_iload_n C dX2_rowOf_6 3 rfl ?_
  refine g_iload_n C dX2_rowOf_7 1 rfl ?_
  refine g_icmp_ge (tgt := 27) C dX2_rowOf_8 (by decide) (fun c => ?_) (fun c => ?_)
  ·
    replace hb := hb.1 (c)
    refine g_aload_n (some v2) C dX2_rowOf_27 2 rfl ?_
    obtain ⟨q1, q2, hb⟩ := hb
    exact g_areturn (some v2) (Or.inr ⟨_, rfl⟩) C hΓ q1 q2 dX2_rowOf_28 ⟨_, rfl, hb⟩
  ·
    replace hb := hb.2 (c)
    refine g_aload_n (some v2) C dX2_rowOf_11 2 rfl ?_
    refine g_iload_n C dX2_rowOf_12 3 rfl ?_
    refine g_aload_n (some v0) C dX2_rowOf_13 0 rfl ?_
    obtain ⟨q3, hb⟩ := hb
    obtain ⟨a4, q5, hb⟩ := hb
    refine g_getR (some a4) C fl_RX2_9 dX2_rowOf_14 q3 rfl rfl q5 ?_
    refine g_iload_n C dX2_rowOf_17 3 rfl ?_
    obtain ⟨q6, hb⟩ := hb
    obtain ⟨q7, hb⟩ := hb
    refine g_ialdx (zAi σ a4 (ix v3)) C dX2_rowOf_18 q6 q7 rfl ?_
    refine g_i2l C dX2_rowOf_19 ?_
    obtain ⟨q8, hb⟩ := hb
    obtain ⟨q9, hb⟩ := hb
    refine g_last C dX2_rowOf_20 q8 q9 ?_
    refine g_iinc (v := v3 + 1) (lv' := [(3, .int (v3 + 1)), (0, .ref v0), (1, .int v1), (2, .ref v2)]) C dX2_rowOf_21 3 rfl rfl (hnl_of hΓ (by decide)) (by first | rfl | simp [cat_rf]) ?_
    refine g_goto (tgt := 6) C dX2_rowOf_24 (by decide) ?_
    refine g_sub (lv' := [(0, .ref v0), (1, .int v1), (2, .ref v2), (3, .int (v3 + 1))]) [1, 2, 3, 0] rfl ?_
    exact h6 _ _ _ _ _ _ _ hb
theorem klX2_rowOf_6 {Γ : hCT} {mc ms : Nat} (C : hC Γ RX2 cX2_rowOf ((Option.some (FieldType.array FieldType.long))) "rowOf" 0 0) {Q : Nat → St → Prop} (hΓ : Γ.2.2.2.2.2.2.2.2.2.2.2 = (4, mc, ms, oA Q)) (f : Nat) (k n : Nat) (v0 : Nat) (v1 : Int32) (v2 : Nat) (v3 : Int32) (σ : St) (hb : lX2_rowOf_6 mc ms Q f k n v0 v1 v2 v3 σ) : hW Γ k n 6 [(0, .ref v0), (1, .int v1), (2, .ref v2), (3, .int v3)] [] σ := by
  induction f generalizing k n v0 v1 v2 v3 σ with
  | zero => exact hb.elim
  | succ f ih => exact kwX2_rowOf_6 C hΓ  (fun k n v0 v1 v2 v3 σ h => ih k n v0 v1 v2 v3 σ h) _ _ _ _ _ _ _ hb
set_option maxRecDepth 20000 in
theorem kwX2_rowOf_0 {Γ : hCT} {mc ms : Nat} (C : hC Γ RX2 cX2_rowOf ((Option.some (FieldType.array FieldType.long))) "rowOf" 0 0) {Q : Nat → St → Prop} (hΓ : Γ.2.2.2.2.2.2.2.2.2.2.2 = (4, mc, ms, oA Q)) (k n : Nat) (v0 : Nat) (v1 : Int32) (σ : St) (hb : wX2_rowOf_0 mc ms Q k n v0 v1 σ) : hW Γ k n 0 [(0, .ref v0), (1, .int v1)] [] σ := by
  unfold wX2_rowOf_0 at hb
  refine g_iload_n C dX2_rowOf_0 1 rfl ?_
  obtain ⟨q5, q6, hb⟩ := hb
  obtain ⟨q1, q2, hb⟩ := hb
  refine g_newa (N := ix v1) at_long C dX2_rowOf_1 q5 rfl q6 (by rw [hmc_of hΓ]; exact q1) (by rw [hms_of hΓ]; exact q2) (fun b3 q4 => ?_)
  replace hb := hb b3 q4
  refine g_astore_n (i := 2) (lv' := [(2, .ref b3), (0, .ref v0), (1, .int v1)]) (some b3) C dX2_rowOf_3 rfl (hnl_of hΓ (by decide)) (by first | rfl | simp [cat_rf]) ?_
  refine g_iconst (v := 0) C dX2_rowOf_4 (by decide) ?_
  refine g_istore_n (i := 3) (lv' := [(3, .int 0), (2, .ref b3), (0, .ref v0), (1, .int v1)]) C dX2_rowOf_5 rfl (hnl_of hΓ (by decide)) (by first | rfl | simp [cat_rf]) ?_
  refine g_sub (lv' := [(0, .ref v0), (1, .int v1), (2, .ref b3), (3, .int 0)]) [2, 3, 1, 0] rfl ?_
  obtain ⟨f7, hb⟩ := hb
  exact klX2_rowOf_6 C hΓ  f7 _ _ _ _ _ _ _ hb
theorem okX2_rowOf {mc ms : Nat} {v0 : Nat} {v1 : Int32} {σ : St} {Q : Nat → St → Prop} (hb : wX2_rowOf mc ms v0 v1 σ Q) : hM yX2_rowOf cX2_rowOf 4 ((Option.some (FieldType.array FieldType.long))) 0 0 mc ms [.ref v0, .int v1] σ (oA Q) :=
  hM_of (by decide) (Nat.le_of_ble_eq_true rfl) (fun Γ hΓ C => kwX2_rowOf_0 (mc := mc) (ms := ms) C hΓ 0 0 _ _ _ hb)
def wJ7_copyOf_c38d5_0 (mc ms : Nat) (Q : Nat → St → Prop) (k n : Nat) (v0 : Nat) (v1 : Int32) (σ : St) : Prop :=
  (20 ≤ zK σ v0 ∧ zK σ v0 < 32) ∧ ((¬ v1 = (Int32.ofNat (zL σ v0)) → ¬ v1 < 0 ∧ ix v1 ≤ 10000 ∧ k + 1 ≤ mc ∧ n + (ix v1) ≤ ms ∧ ∀ b4 : Nat, zK σ b4 = 0 → (20 ≤ zK (nA σ b4 21 (ix v1)) v0 ∧ zK (nA σ b4 21 (ix v1)) v0 < 32) ∧ k + 1 ≤ mc ∧ n + (ix v1) ≤ ms ∧ zK (nA σ b4 21 (ix v1)) v0 = 21 ∧ ¬ (0 : Int32) < 0 ∧ ¬ (0 : Int32) < 0 ∧ ¬ (if v1 < (Int32.ofNat (zL (nA σ b4 21 (ix v1)) v0)) then v1 else (Int32.ofNat (zL (nA σ b4 21 (ix v1)) v0))) < 0 ∧ ix 0 + ix (if v1 < (Int32.ofNat (zL (nA σ b4 21 (ix v1)) v0)) then v1 else (Int32.ofNat (zL (nA σ b4 21 (ix v1)) v0))) ≤ zL (nA σ b4 21 (ix v1)) v0 ∧ ix 0 + ix (if v1 < (Int32.ofNat (zL (nA σ b4 21 (ix v1)) v0)) then v1 else (Int32.ofNat (zL (nA σ b4 21 (ix v1)) v0))) ≤ zL (nA σ b4 21 (ix v1)) b4 ∧ k + 1 ≤ mc ∧ n + (ix v1) ≤ ms ∧ Q b4 (uCj (nA σ b4 21 (ix v1)) v0 (ix 0) b4 (ix 0) (ix (if v1 < (Int32.ofNat (zL (nA σ b4 21 (ix v1)) v0)) then v1 else (Int32.ofNat (zL (nA σ b4 21 (ix v1)) v0)))))) ∧ (v1 = (Int32.ofNat (zL σ v0)) → zK σ v0 = 21 ∧ k + 1 ≤ mc ∧ n + zL σ v0 ≤ ms ∧ ∀ b22 : Nat, zK σ b22 = 0 → k + 1 ≤ mc ∧ n + zL σ v0 ≤ ms ∧ Q b22 (nC σ b22 v0)))
def wJ7_copyOf_c38d5 (mc ms : Nat) (v0 : Nat) (v1 : Int32) (σ : St) (Q : Nat → St → Prop) : Prop := wJ7_copyOf_c38d5_0 mc ms Q 0 0 v0 v1 σ
set_option maxRecDepth 20000 in
theorem kwJ7_copyOf_c38d5_0 {Γ : hCT} {mc ms : Nat} (C : hC Γ RJ7 cJ7_copyOf_c38d5 ((Option.some (FieldType.array FieldType.long))) "copyOf" 1 60) {Q : Nat → St → Prop} (hΓ : Γ.2.2.2.2.2.2.2.2.2.2.2 = (3, mc, ms, oA Q)) (k n : Nat) (v0 : Nat) (v1 : Int32) (σ : St) (hb : wJ7_copyOf_c38d5_0 mc ms Q k n v0 v1 σ) : hW Γ k n 0 [(0, .ref v0), (1, .int v1)] [] σ := by
  unfold wJ7_copyOf_c38d5_0 at hb
  refine g_iload_n C dJ7_copyOf_c38d5_0 1 rfl ?_
  refine g_aload_n (some v0) C dJ7_copyOf_c38d5_1 0 rfl ?_
  obtain ⟨q1, hb⟩ := hb
  refine g_alen (v := Int32.ofNat (zL σ v0)) C dJ7_copyOf_c38d5_2 q1 rfl ?_
  refine g_icmp_ne (tgt := 14) C dJ7_copyOf_c38d5_3 (by decide) (fun c => ?_) (fun c => ?_)
  ·
    replace hb := hb.1 (c)
    refine g_iload_n C dJ7_copyOf_c38d5_14 1 rfl ?_
    obtain ⟨q6, q7, hb⟩ := hb
    obtain ⟨q2, q3, hb⟩ := hb
    refine g_newa (N := ix v1) at_long C dJ7_copyOf_c38d5_15 q6 rfl q7 (by rw [hmc_of hΓ]; exact q2) (by rw [hms_of hΓ]; exact q3) (fun b4 q5 => ?_)
    replace hb := hb b4 q5
    refine g_astore_n (i := 2) (lv' := [(2, .ref b4), (0, .ref v0), (1, .int v1)]) (some b4) C dJ7_copyOf_c38d5_17 rfl (hnl_of hΓ (by decide)) (by first | rfl | simp [cat_rf]) ?_
    refine g_aload_n (some v0) C dJ7_copyOf_c38d5_18 1 rfl ?_
    refine g_iconst (v := 0) C dJ7_copyOf_c38d5_19 (by decide) ?_
    refine g_aload_n (some b4) C dJ7_copyOf_c38d5_20 0 rfl ?_
    refine g_iconst (v := 0) C dJ7_copyOf_c38d5_21 (by decide) ?_
    refine g_aload_n (some v0) C dJ7_copyOf_c38d5_22 1 rfl ?_
    obtain ⟨q8, hb⟩ := hb
    refine g_alen (v := Int32.ofNat (zL (nA σ b4 21 (ix v1)) v0)) C dJ7_copyOf_c38d5_23 q8 rfl ?_
    refine g_iload_n C dJ7_copyOf_c38d5_24 2 rfl ?_
    obtain ⟨q9, q10, hb⟩ := hb
    refine g_mmin wd_936 wd_401 wd_87 wd_402 C (by first | exact Nat.le_of_ble_eq_true rfl | simp [cat_rf]) (by first | exact Nat.le_of_ble_eq_true rfl | simp [cat_rf]) (by rw [hmc_of hΓ]; exact q9) (by rw [hms_of hΓ]; exact q10) dJ7_copyOf_c38d5_25 ?_
    obtain ⟨q11, hb⟩ := hb
    obtain ⟨q12, hb⟩ := hb
    obtain ⟨q13, hb⟩ := hb
    obtain ⟨q14, hb⟩ := hb
    obtain ⟨q15, hb⟩ := hb
    obtain ⟨q16, hb⟩ := hb
    refine g_copyJ wd_937 wd_423 wd_422 wd_88 C (by first | exact Nat.le_of_ble_eq_true rfl | simp [cat_rf]) (by first | exact Nat.le_of_ble_eq_true rfl | simp [cat_rf]) dJ7_copyOf_c38d5_28 q11 (nA_K (σ := σ) (κ := 21) (N := ix v1)) q12 q13 q14 q15 q16 ?_
    refine g_aload_n (some b4) C dJ7_copyOf_c38d5_31 0 rfl ?_
    obtain ⟨q17, q18, hb⟩ := hb
    exact g_areturn (some b4) (Or.inr ⟨_, rfl⟩) C hΓ q17 q18 dJ7_copyOf_c38d5_32 ⟨_, rfl, hb⟩
  ·
    replace hb := hb.2 (c)
    refine g_aload_n (some v0) C dJ7_copyOf_c38d5_6 0 rfl ?_
    obtain ⟨q19, hb⟩ := hb
    obtain ⟨q20, q21, hb⟩ := hb
    refine g_clone wd_929 wd_930 wd_931 wd_932 wd_933 wn_934 C (by first | exact Nat.le_of_ble_eq_true rfl | simp [cat_rf]) (by first | exact Nat.le_of_ble_eq_true rfl | simp [cat_rf]) dJ7_copyOf_c38d5_7 q19 (by rw [hmc_of hΓ]; exact q20) (by rw [hms_of hΓ]; exact q21) (fun b22 q23 => ?_)
    replace hb := hb b22 q23
    refine g_castJ wd_935 C dJ7_copyOf_c38d5_10 (nC_K (σ := σ) (a := v0)) ?_
    obtain ⟨q24, q25, hb⟩ := hb
    exact g_areturn (some b22) (Or.inr ⟨_, rfl⟩) C hΓ q24 q25 dJ7_copyOf_c38d5_13 ⟨_, rfl, hb⟩
theorem okJ7_copyOf_c38d5 {mc ms : Nat} {v0 : Nat} {v1 : Int32} {σ : St} {Q : Nat → St → Prop} (hb : wJ7_copyOf_c38d5 mc ms v0 v1 σ Q) : hM yJ7_copyOf_c38d5 cJ7_copyOf_c38d5 3 ((Option.some (FieldType.array FieldType.long))) 1 60 mc ms [.ref v0, .int v1] σ (oA Q) :=
  hM_ofF (by decide +kernel) (Nat.le_of_ble_eq_true rfl) (fun Γ hΓ C => kwJ7_copyOf_c38d5_0 (mc := mc) (ms := ms) C hΓ 0 0 _ _ _ hb)
def wX11_thingOf_111 (mc ms : Nat) (Q : Option Nat → St → Prop) (k n : Nat) (s3 : Nat) (s2 : Int32) (s1 : Nat) (s0 : Nat) (σ : St) : Prop :=
  k ≤ mc ∧ n ≤ ms ∧ wX10_init s1 s2 s3 σ (fun σ3 => k ≤ mc ∧ n ≤ ms ∧ Q (some s0) σ3)
def wX11_thingOf_31 (mc ms : Nat) (Q : Option Nat → St → Prop) (k n : Nat) (v1 : Int32) (v2 : Int32) (s0 : Int32) (σ : St) : Prop :=
  ((s0 = 0 → k ≤ mc ∧ n ≤ ms ∧ Q none σ) ∧ (¬ s0 = 0 → k + 1 ≤ mc ∧ n + 2 ≤ ms ∧ ∀ b5 : Nat, zK σ b5 = 0 → k + 1 + 1 ≤ mc ∧ n + 2 + 1 ≤ ms ∧ ∀ b9 : Nat, zK (nO σ b5 11) b9 = 0 → vp_in 0 (zL (nA (nO σ b5 11) b9 21 1) b9) ∧ k + 1 + 1 ≤ mc ∧ n + 2 + 1 ≤ ms ∧ wX10_init b5 v1 b9 (uAj (nA (nO σ b5 11) b9 21 1) b9 (ix 0) (Int32.toInt64 v2)) (fun σ14 => k + 1 + 1 ≤ mc ∧ n + 2 + 1 ≤ ms ∧ Q (some b5) σ14)))
def wX11_thingOf_10 (mc ms : Nat) (Q : Option Nat → St → Prop) (k n : Nat) (v0 : Nat) (v1 : Int32) (v2 : Int32) (σ : St) : Prop :=
  ((¬ v1 = (1 : Int32) → k ≤ mc ∧ n ≤ ms ∧ zK σ v0 = 12 ∧ wX11_isQuestion v0 v2 σ (fun y5 σ4 => wX11_thingOf_31 mc ms Q k n v1 v2 y5 σ4)) ∧ (v1 = (1 : Int32) → zK σ v0 = 12 ∧ ∃ a7 : Nat, zFr σ 704 v0 = some a7 ∧ k ≤ mc ∧ n ≤ ms ∧ zK σ a7 = 7 ∧ wX6_isFact a7 v2 σ (fun y13 σ12 => wX11_thingOf_31 mc ms Q k n v1 v2 y13 σ12)))
def wX11_thingOf_0 (mc ms : Nat) (Q : Option Nat → St → Prop) (k n : Nat) (v0 : Nat) (v1 : Int32) (v2 : Int32) (σ : St) : Prop :=
  ((v1 = (1 : Int32) → wX11_thingOf_10 mc ms Q k n v0 v1 v2 σ) ∧ (¬ v1 = (1 : Int32) → ((¬ v1 = (2 : Int32) → zK σ v0 = 12 ∧ ∃ a2 : Nat, zFr σ 708 v0 = some a2 ∧ k ≤ mc ∧ n ≤ ms ∧ zK σ a2 = 4 ∧ wX3_at a2 v2 σ (fun y8 σ7 => ((v1 = 0 → k ≤ mc ∧ n ≤ ms ∧ Q none σ7) ∧ (¬ v1 = 0 → ((y8 = none → k ≤ mc ∧ n ≤ ms ∧ Q none σ7) ∧ (∀ a11 : Nat, y8 = some a11 → k + 1 ≤ mc ∧ n + 2 ≤ ms ∧ ∀ b16 : Nat, zK σ7 b16 = 0 → ((¬ v1 = (3 : Int32) → zK (nO σ7 b16 11) a11 = 3 ∧ ∃ a19 : Nat, zFr (nO σ7 b16 11) 129 a11 = some a19 ∧ ∃ m21 m22 : Nat, k + 1 + m21 ≤ mc ∧ n + 2 + m22 ≤ ms ∧ wJ7_copyOf_c38d5 m21 m22 a19 (zFi (nO σ7 b16 11) 130 a11) (nO σ7 b16 11) (fun y26 σ25 => wX11_thingOf_111 mc ms Q (k + 1 + m21) (n + 2 + m22) y26 v1 b16 b16 σ25)) ∧ (v1 = (3 : Int32) → zK (nO σ7 b16 11) v0 = 12 ∧ ∃ a28 : Nat, zFr (nO σ7 b16 11) 708 v0 = some a28 ∧ zK (nO σ7 b16 11) a28 = 4 ∧ ∃ m31 m32 : Nat, k + 1 + m31 ≤ mc ∧ n + 2 + m32 ≤ ms ∧ zK (nO σ7 b16 11) a11 = 3 ∧ wX2_rowOf m31 m32 a11 (zFi (nO σ7 b16 11) 194 a28) (nO σ7 b16 11) (fun y37 σ36 => wX11_thingOf_111 mc ms Q (k + 1 + m31) (n + 2 + m32) y37 v1 b16 b16 σ36))))))))) ∧ (v1 = (2 : Int32) → wX11_thingOf_10 mc ms Q k n v0 v1 v2 σ))))
def wX11_thingOf (mc ms : Nat) (v0 : Nat) (v1 : Int32) (v2 : Int32) (σ : St) (Q : Option Nat → St → Prop) : Prop := wX11_thingOf_0 mc ms Q 0 0 v0 v1 v2 σ
set_option maxRecDepth 20000 in
theorem kwX11_thingOf_111 {Γ : hCT} {mc ms : Nat} (C : hC Γ RX11 cX11_thingOf ((Option.some (FieldType.object RX10))) "thingOf" 2 82) {Q : Option Nat → St → Prop} (hΓ : Γ.2.2.2.2.2.2.2.2.2.2.2 = (4, mc, ms, oO Q)) (k n : Nat) (s3 : Nat) (s2 : Int32) (s1 : Nat) (s0 : Nat) (σ : St) (hb : wX11_thingOf_111 mc ms Q k n s3 s2 s1 s0 σ) : hW Γ k n 111 [] [.ref s3, .int s2, .ref s1, .ref s0] σ := by
  unfold wX11_thingOf_111 at hb
  obtain ⟨q1, q2, hb⟩ := hb
  refine g_invI [.int s2, .ref s3] [.ref s0] zy_X10_init wd_909 wd_910 rfl C dX11_thingOf_111 (by first | exact Nat.le_of_ble_eq_true rfl | simp [cat_rf]) (by first | exact Nat.le_of_ble_eq_true rfl | simp [cat_rf]) (by first | exact Nat.le_of_ble_eq_true rfl | simp [cat_rf]) (by rw [hmc_of hΓ]; exact q1) (by rw [hms_of hΓ]; exact q2) rfl rfl  (okX10_init hb) ?_
  rintro o σ3 ⟨rfl, hb⟩
  refine ⟨_, rfl, ?_⟩
  obtain ⟨q4, q5, hb⟩ := hb
  exact g_areturn (some s0) (Or.inl ⟨_, rfl⟩) C hΓ q4 q5 dX11_thingOf_114 ⟨_, rfl, hb⟩
set_option maxRecDepth 20000 in
theorem kwX11_thingOf_31 {Γ : hCT} {mc ms : Nat} (C : hC Γ RX11 cX11_thingOf ((Option.some (FieldType.object RX10))) "thingOf" 2 82) {Q : Option Nat → St → Prop} (hΓ : Γ.2.2.2.2.2.2.2.2.2.2.2 = (4, mc, ms, oO Q)) (k n : Nat) (v1 : Int32) (v2 : Int32) (s0 : Int32) (σ : St) (hb : wX11_thingOf_31 mc ms Q k n v1 v2 s0 σ) : hW Γ k n 31 [(1, .int v1), (2, .int v2)] [.int s0] σ := by
  unfold wX11_thingOf_31 at hb
  refine g_istore_n (i := 3) (lv' := [(3, .int s0), (1, .int v1), (2, .int v2)]) C dX11_thingOf_31 rfl (hnl_of hΓ (by decide)) (by first | rfl | simp [cat_rf]) ?_
  refine g_iload_n C dX11_thingOf_32 0 rfl ?_
  refine g_if_eq (tgt := 55) C dX11_thingOf_33 (by decide) (fun c => ?_) (fun c => ?_)
  ·
    replace hb := hb.1 (c)
    refine g_null C dX11_thingOf_55 ?_
    obtain ⟨q1, q2, hb⟩ := hb
    exact g_areturn none (Or.inl ⟨_, rfl⟩) C hΓ q1 q2 dX11_thingOf_56 ⟨_, rfl, hb⟩
  ·
    replace hb := hb.2 (c)
    obtain ⟨q3, q4, hb⟩ := hb
    refine g_new zc_10 zd_10 ⟨_, rfl⟩ wd_302 wd_908 wd_93 C dX11_thingOf_36 (by rw [hmc_of hΓ]; exact q3) (by rw [hms_of hΓ]; exact q4) (fun b5 q6 => ?_)
    replace hb := hb b5 q6
    refine g_dup C dX11_thingOf_39 rfl ?_
    refine g_iload_n C dX11_thingOf_40 1 rfl ?_
    refine g_iconst (v := 1) C dX11_thingOf_41 (by decide) ?_
    obtain ⟨q7, q8, hb⟩ := hb
    refine g_newa (N := 1) at_long C dX11_thingOf_42 (by decide) (by decide) (by decide) (by rw [hmc_of hΓ]; exact q7) (by rw [hms_of hΓ]; exact q8) (fun b9 q10 => ?_)
    replace hb := hb b9 q10
    refine g_dup C dX11_thingOf_44 rfl ?_
    refine g_iconst (v := 0) C dX11_thingOf_45 (by decide) ?_
    refine g_iload_n C dX11_thingOf_46 2 rfl ?_
    refine g_i2l C dX11_thingOf_47 ?_
    obtain ⟨q11, hb⟩ := hb
    refine g_last C dX11_thingOf_48 (nA_K (σ := nO σ b5 11) (κ := 21) (N := 1)) q11 ?_
    obtain ⟨q12, q13, hb⟩ := hb
    refine g_invI [.int v1, .ref b9] [.ref b5] zy_X10_init wd_909 wd_910 rfl C dX11_thingOf_49 (by first | exact Nat.le_of_ble_eq_true rfl | simp [cat_rf]) (by first | exact Nat.le_of_ble_eq_true rfl | simp [cat_rf]) (by first | exact Nat.le_of_ble_eq_true rfl | simp [cat_rf]) (by rw [hmc_of hΓ]; exact q12) (by rw [hms_of hΓ]; exact q13) rfl rfl  (okX10_init hb) ?_
    rintro o σ14 ⟨rfl, hb⟩
    refine ⟨_, rfl, ?_⟩
    refine g_goto (tgt := 56) C dX11_thingOf_52 (by decide) ?_
    obtain ⟨q15, q16, hb⟩ := hb
    exact g_areturn (some b5) (Or.inl ⟨_, rfl⟩) C hΓ q15 q16 dX11_thingOf_56 ⟨_, rfl, hb⟩
set_option maxRecDepth 20000 in
theorem kwX11_thingOf_10 {Γ : hCT} {mc ms : Nat} (C : hC Γ RX11 cX11_thingOf ((Option.some (FieldType.object RX10))) "thingOf" 2 82) {Q : Option Nat → St → Prop} (hΓ : Γ.2.2.2.2.2.2.2.2.2.2.2 = (4, mc, ms, oO Q)) (k n : Nat) (v0 : Nat) (v1 : Int32) (v2 : Int32) (σ : St) (hb : wX11_thingOf_10 mc ms Q k n v0 v1 v2 σ) : hW Γ k n 10 [(0, .ref v0), (1, .int v1), (2, .int v2)] [] σ := by
  unfold wX11_thingOf_10 at hb
  refine g_iload_n C dX11_thingOf_10 1 rfl ?_
  refine g_iconst (v := 1) C dX11_thingOf_11 (by decide) ?_
  refine g_icmp_ne (tgt := 26) C dX11_thingOf_12 (by decide) (fun c => ?_) (fun c => ?_)
  ·
    replace hb := hb.1 (c)
    refine g_aload_n (some v0) C dX11_thingOf_26 0 rfl ?_
    refine g_iload_n C dX11_thingOf_27 2 rfl ?_
    obtain ⟨q1, q2, hb⟩ := hb
    obtain ⟨q3, hb⟩ := hb
    refine g_invV (ci := 11) [.int v2] [] zy_X11_isQuestion wd_518 wd_520 wd_3 ⟨_, _, rfl⟩ (by decide) C dX11_thingOf_28 (by first | exact Nat.le_of_ble_eq_true rfl | simp [cat_rf]) (by first | exact Nat.le_of_ble_eq_true rfl | simp [cat_rf]) (by first | exact Nat.le_of_ble_eq_true rfl | simp [cat_rf]) (by rw [hmc_of hΓ]; exact q1) (by rw [hms_of hΓ]; exact q2) rfl rfl q3 (okX11_isQuestion hb) ?_
    rintro o σ4 ⟨y5, rfl, hb⟩
    refine ⟨_, rfl, ?_⟩
    refine g_sub (lv' := [(1, .int v1), (2, .int v2)]) [1, 2] rfl ?_
    exact kwX11_thingOf_31 C hΓ  _ _ _ _ _ _ hb
  ·
    replace hb := hb.2 (c)
    refine g_aload_n (some v0) C dX11_thingOf_15 0 rfl ?_
    obtain ⟨q6, hb⟩ := hb
    obtain ⟨a7, q8, hb⟩ := hb
    refine g_getR (some a7) C fl_RX11_12 dX11_thingOf_16 q6 rfl rfl q8 ?_
    refine g_iload_n C dX11_thingOf_19 2 rfl ?_
    obtain ⟨q9, q10, hb⟩ := hb
    obtain ⟨q11, hb⟩ := hb
    refine g_invV (ci := 6) [.int v2] [] zy_X6_isFact wd_433 wd_434 wd_435 ⟨_, _, rfl⟩ (by decide) C dX11_thingOf_20 (by first | exact Nat.le_of_ble_eq_true rfl | simp [cat_rf]) (by first | exact Nat.le_of_ble_eq_true rfl | simp [cat_rf]) (by first | exact Nat.le_of_ble_eq_true rfl | simp [cat_rf]) (by rw [hmc_of hΓ]; exact q9) (by rw [hms_of hΓ]; exact q10) rfl rfl q11 (okX6_isFact hb) ?_
    rintro o σ12 ⟨y13, rfl, hb⟩
    refine ⟨_, rfl, ?_⟩
    refine g_goto (tgt := 31) C dX11_thingOf_23 (by decide) ?_
    refine g_sub (lv' := [(1, .int v1), (2, .int v2)]) [1, 2] rfl ?_
    exact kwX11_thingOf_31 C hΓ  _ _ _ _ _ _ hb
set_option maxRecDepth 20000 in
theorem kwX11_thingOf_0 {Γ : hCT} {mc ms : Nat} (C : hC Γ RX11 cX11_thingOf ((Option.some (FieldType.object RX10))) "thingOf" 2 82) {Q : Option Nat → St → Prop} (hΓ : Γ.2.2.2.2.2.2.2.2.2.2.2 = (4, mc, ms, oO Q)) (k n : Nat) (v0 : Nat) (v1 : Int32) (v2 : Int32) (σ : St) (hb : wX11_thingOf_0 mc ms Q k n v0 v1 v2 σ) : hW Γ k n 0 [(0, .ref v0), (1, .int v1), (2, .int v2)] [] σ := by
  unfold wX11_thingOf_0 at hb
  refine g_iload_n C dX11_thingOf_0 1 rfl ?_
  refine g_iconst (v := 1) C dX11_thingOf_1 (by decide) ?_
  refine g_icmp_eq (tgt := 10) C dX11_thingOf_2 (by decide) (fun c => ?_) (fun c => ?_)
  ·
    replace hb := hb.1 (c)
    refine g_sub (lv' := [(0, .ref v0), (1, .int v1), (2, .int v2)]) [0, 1, 2] rfl ?_
    exact kwX11_thingOf_10 C hΓ  _ _ _ _ _ _ hb
  ·
    replace hb := hb.2 (c)
    refine g_iload_n C dX11_thingOf_5 1 rfl ?_
    refine g_iconst (v := 2) C dX11_thingOf_6 (by decide) ?_
    refine g_icmp_ne (tgt := 57) C dX11_thingOf_7 (by decide) (fun c => ?_) (fun c => ?_)
    ·
      replace hb := hb.1 (c)
      refine g_aload_n (some v0) C dX11_thingOf_57 0 rfl ?_
      obtain ⟨q1, hb⟩ := hb
      obtain ⟨a2, q3, hb⟩ := hb
      refine g_getR (some a2) C fl_RX11_36 dX11_thingOf_58 q1 rfl rfl q3 ?_
      refine g_iload_n C dX11_thingOf_61 2 rfl ?_
      obtain ⟨q4, q5, hb⟩ := hb
      obtain ⟨q6, hb⟩ := hb
      refine g_invV (ci := 3) [.int v2] [] zy_X3_at wd_769 wd_751 wd_752 ⟨_, _, rfl⟩ (by decide) C dX11_thingOf_62 (by first | exact Nat.le_of_ble_eq_true rfl | simp [cat_rf]) (by first | exact Nat.le_of_ble_eq_true rfl | simp [cat_rf]) (by first | exact Nat.le_of_ble_eq_true rfl | simp [cat_rf]) (by rw [hmc_of hΓ]; exact q4) (by rw [hms_of hΓ]; exact q5) rfl rfl q6 (okX3_at hb) ?_
      rintro o σ7 ⟨y8, rfl, hb⟩
      refine ⟨_, rfl, ?_⟩
      refine g_astore_n (i := 3) (lv' := [(3, va_rf y8), (0, .ref v0), (1, .int v1), (2, .int v2)]) y8 C dX11_thingOf_65 rfl (hnl_of hΓ (by decide)) (by first | rfl | simp [cat_rf]) ?_
      refine g_iload_n C dX11_thingOf_66 2 rfl ?_
      refine g_if_eq (tgt := 74) C dX11_thingOf_67 (by decide) (fun c => ?_) (fun c => ?_)
      ·
        replace hb := hb.1 (c)
        refine g_null C dX11_thingOf_74 ?_
        obtain ⟨q9, q10, hb⟩ := hb
        exact g_areturn none (Or.inl ⟨_, rfl⟩) C hΓ q9 q10 dX11_thingOf_75 ⟨_, rfl, hb⟩
      ·
        replace hb := hb.2 (c)
        refine g_aload_n y8 C dX11_thingOf_70 0 rfl ?_
        refine g_ifnonnull (tgt := 76) y8 C dX11_thingOf_71 (by decide) (fun c => ?_) (fun c => ?_)
        ·
          obtain ⟨a11, rfl⟩ := rf_some c
          replace hb := hb.2 a11 rfl
          obtain ⟨q14, q15, hb⟩ := hb
          refine g_new zc_10 zd_10 ⟨_, rfl⟩ wd_302 wd_908 wd_93 C dX11_thingOf_76 (by rw [hmc_of hΓ]; exact q14) (by rw [hms_of hΓ]; exact q15) (fun b16 q17 => ?_)
          replace hb := hb b16 q17
          refine g_dup C dX11_thingOf_79 rfl ?_
          refine g_iload_n C dX11_thingOf_80 2 rfl ?_
          refine g_iload_n C dX11_thingOf_81 2 rfl ?_
          refine g_iconst (v := 3) C dX11_thingOf_82 (by decide) ?_
          refine g_icmp_ne (tgt := 100) C dX11_thingOf_83 (by decide) (fun c => ?_) (fun c => ?_)
          ·
            replace hb := hb.1 (c)
            refine g_aload_n (some a11) C dX11_thingOf_100 0 rfl ?_
            obtain ⟨q18, hb⟩ := hb
            obtain ⟨a19, q20, hb⟩ := hb
            refine g_getR (some a19) C fl_RX11_218 dX11_thingOf_101 q18 rfl rfl q20 ?_
            refine g_aload_n (some a11) C dX11_thingOf_104 0 rfl ?_
            refine g_getIx (zFi (nO σ7 b16 11) 130 a11) C fl_RX11_215 dX11_thingOf_105 q18 rfl rfl rfl ?_
            obtain ⟨m21, m22, q23, q24, hb⟩ := hb
            refine g_invS [.ref a19, .int (zFi (nO σ7 b16 11) 130 a11)] [.int v1, .ref b16, .ref b16] zy_J7_copyOf_c38d5 wd_926 wd_927 C dX11_thingOf_108 (by first | exact Nat.le_of_ble_eq_true rfl | simp [cat_rf]) (by first | exact Nat.le_of_ble_eq_true rfl | simp [cat_rf]) (by first | exact Nat.le_of_ble_eq_true rfl | simp [cat_rf]) (by rw [hmc_of hΓ]; exact q23) (by rw [hms_of hΓ]; exact q24) rfl rfl  (okJ7_copyOf_c38d5 hb) ?_
            rintro o σ25 ⟨y26, rfl, hb⟩
            refine ⟨_, rfl, ?_⟩
            refine g_sub (lv' := []) [] rfl ?_
            exact kwX11_thingOf_111 C hΓ  _ _ _ _ _ _ _ hb
          ·
            replace hb := hb.2 (c)
            refine g_aload_n (some a11) C dX11_thingOf_86 0 rfl ?_
            refine g_aload_n (some v0) C dX11_thingOf_87 1 rfl ?_
            obtain ⟨q27, hb⟩ := hb
            obtain ⟨a28, q29, hb⟩ := hb
            refine g_getR (some a28) C fl_RX11_36 dX11_thingOf_88 q27 rfl rfl q29 ?_
            obtain ⟨q30, hb⟩ := hb
            refine g_getIx (zFi (nO σ7 b16 11) 194 a28) C fl_RX11_205 dX11_thingOf_91 q30 rfl rfl rfl ?_
            obtain ⟨m31, m32, q33, q34, hb⟩ := hb
            obtain ⟨q35, hb⟩ := hb
            refine g_invV (ci := 2) [.int (zFi (nO σ7 b16 11) 194 a28)] [.int v1, .ref b16, .ref b16] zy_X2_rowOf wd_922 wd_923 wd_924 ⟨_, _, rfl⟩ (by decide) C dX11_thingOf_94 (by first | exact Nat.le_of_ble_eq_true rfl | simp [cat_rf]) (by first | exact Nat.le_of_ble_eq_true rfl | simp [cat_rf]) (by first | exact Nat.le_of_ble_eq_true rfl | simp [cat_rf]) (by rw [hmc_of hΓ]; exact q33) (by rw [hms_of hΓ]; exact q34) rfl rfl q35 (okX2_rowOf hb) ?_
            rintro o σ36 ⟨y37, rfl, hb⟩
            refine ⟨_, rfl, ?_⟩
            refine g_goto (tgt := 111) C dX11_thingOf_97 (by decide) ?_
            refine g_sub (lv' := []) [] rfl ?_
            exact kwX11_thingOf_111 C hΓ  _ _ _ _ _ _ _ hb
        ·
          replace hb := hb.1 c
          refine g_null C dX11_thingOf_74 ?_
          obtain ⟨q12, q13, hb⟩ := hb
          exact g_areturn none (Or.inl ⟨_, rfl⟩) C hΓ q12 q13 dX11_thingOf_75 ⟨_, rfl, hb⟩
    ·
      replace hb := hb.2 (c)
      refine g_sub (lv' := [(0, .ref v0), (1, .int v1), (2, .int v2)]) [0, 1, 2] rfl ?_
      exact kwX11_thingOf_10 C hΓ  _ _ _ _ _ _ hb
theorem okX11_thingOf {mc ms : Nat} {v0 : Nat} {v1 : Int32} {v2 : Int32} {σ : St} {Q : Option Nat → St → Prop} (hb : wX11_thingOf mc ms v0 v1 v2 σ Q) : hM yX11_thingOf cX11_thingOf 4 ((Option.some (FieldType.object RX10))) 2 82 mc ms [.ref v0, .int v1, .int v2] σ (oO Q) :=
  hM_of (by decide) (Nat.le_of_ble_eq_true rfl) (fun Γ hΓ C => kwX11_thingOf_0 (mc := mc) (ms := ms) C hΓ 0 0 _ _ _ _ hb)
def wX11_laid_0 (mc ms : Nat) (Q : Int32 → St → Prop) (k n : Nat) (v0 : Nat) (v1 : Int32) (v2 : Option Nat) (σ : St) : Prop :=
  k + 1 ≤ mc ∧ n + 5 ≤ ms ∧ ∀ b3 : Nat, zK σ b3 = 0 → zK (nO σ b3 1) v0 = 12 ∧ ∃ a6 : Nat, zFr (nO σ b3 1) 712 v0 = some a6 ∧ zK (nO σ b3 1) a6 = 28 ∧ vp_in v1 (zL (nO σ b3 1) a6) ∧ ∀ o10 : Option Nat, zAr (nO σ b3 1) a6 (ix v1) = o10 → k + 1 ≤ mc ∧ n + 5 ≤ ms ∧ wX0_init b3 5 v1 0 0 o10 (nO σ b3 1) (fun σ14 => k + 1 ≤ mc ∧ n + 5 ≤ ms ∧ zK σ14 v0 = 12 ∧ wX11_accepted v0 b3 σ14 (fun σ18 => zK σ18 v0 = 12 ∧ ∃ a20 : Nat, zFr σ18 712 v0 = some a20 ∧ zK σ18 a20 = 28 ∧ vp_in v1 (zL σ18 a20) ∧ (∀ z25, v2 = some z25 → zK σ18 z25 = 11) ∧ k + 1 ≤ mc ∧ n + 5 ≤ ms ∧ Q 1 (uAr σ18 a20 (ix v1) v2)))
def wX11_laid (mc ms : Nat) (v0 : Nat) (v1 : Int32) (v2 : Option Nat) (σ : St) (Q : Int32 → St → Prop) : Prop := wX11_laid_0 mc ms Q 0 0 v0 v1 v2 σ
set_option maxRecDepth 20000 in
theorem kwX11_laid_0 {Γ : hCT} {mc ms : Nat} (C : hC Γ RX11 cX11_laid ((Option.some FieldType.int)) "laid" 3 82) {Q : Int32 → St → Prop} (hΓ : Γ.2.2.2.2.2.2.2.2.2.2.2 = (3, mc, ms, oI Q)) (k n : Nat) (v0 : Nat) (v1 : Int32) (v2 : Option Nat) (σ : St) (hb : wX11_laid_0 mc ms Q k n v0 v1 v2 σ) : hW Γ k n 0 [(0, .ref v0), (1, .int v1), (2, va_rf v2)] [] σ := by
  unfold wX11_laid_0 at hb
  refine g_aload_n (some v0) C dX11_laid_0 0 rfl ?_
  obtain ⟨q1, q2, hb⟩ := hb
  refine g_new zc_0 zd_0 ⟨_, rfl⟩ wd_365 wd_366 wd_86 C dX11_laid_1 (by rw [hmc_of hΓ]; exact q1) (by rw [hms_of hΓ]; exact q2) (fun b3 q4 => ?_)
  replace hb := hb b3 q4
  refine g_dup C dX11_laid_4 rfl ?_
  refine g_iconst (v := 5) C dX11_laid_5 (by decide) ?_
  refine g_iload_n C dX11_laid_6 1 rfl ?_
  refine g_iconst (v := 0) C dX11_laid_7 (by decide) ?_
  refine g_lconst (v := 0) C dX11_laid_8 (by decide) ?_
  refine g_aload_n (some v0) C dX11_laid_9 0 rfl ?_
  obtain ⟨q5, hb⟩ := hb
  obtain ⟨a6, q7, hb⟩ := hb
  refine g_getR (some a6) C fl_RX11_56 dX11_laid_10 q5 rfl rfl q7 ?_
  refine g_iload_n C dX11_laid_13 1 rfl ?_
  obtain ⟨q8, hb⟩ := hb
  obtain ⟨q9, hb⟩ := hb
  obtain ⟨o10, q11⟩ : ∃ o10, zAr (nO σ b3 1) a6 (ix v1) = o10 := ⟨_, rfl⟩
  replace hb := hb o10 q11
  refine g_aald o10 el_28 C dX11_laid_14 q8 q9 q11 ?_
  obtain ⟨q12, q13, hb⟩ := hb
  refine g_invI [.int 5, .int v1, .int 0, .long 0, va_rf o10] [.ref b3, .ref v0] zy_X0_init wd_367 wd_368 rfl C dX11_laid_15 (by first | exact Nat.le_of_ble_eq_true rfl | simp [cat_rf]) (by first | exact Nat.le_of_ble_eq_true rfl | simp [cat_rf]) (by first | exact Nat.le_of_ble_eq_true rfl | simp [cat_rf]) (by rw [hmc_of hΓ]; exact q12) (by rw [hms_of hΓ]; exact q13) rfl rfl  (okX0_init hb) ?_
  rintro o σ14 ⟨rfl, hb⟩
  refine ⟨_, rfl, ?_⟩
  obtain ⟨q15, q16, hb⟩ := hb
  obtain ⟨q17, hb⟩ := hb
  refine g_invV (ci := 11) [.ref b3] [] zy_X11_accepted wd_392 wd_394 wd_1 ⟨_, _, rfl⟩ (by decide) C dX11_laid_18 (by first | exact Nat.le_of_ble_eq_true rfl | simp [cat_rf]) (by first | exact Nat.le_of_ble_eq_true rfl | simp [cat_rf]) (by first | exact Nat.le_of_ble_eq_true rfl | simp [cat_rf]) (by rw [hmc_of hΓ]; exact q15) (by rw [hms_of hΓ]; exact q16) rfl rfl q17 (okX11_accepted hb) ?_
  rintro o σ18 ⟨rfl, hb⟩
  refine ⟨_, rfl, ?_⟩
  refine g_aload_n (some v0) C dX11_laid_21 0 rfl ?_
  obtain ⟨q19, hb⟩ := hb
  obtain ⟨a20, q21, hb⟩ := hb
  refine g_getR (some a20) C fl_RX11_56 dX11_laid_22 q19 rfl rfl q21 ?_
  refine g_iload_n C dX11_laid_25 1 rfl ?_
  refine g_aload_n v2 C dX11_laid_26 2 rfl ?_
  obtain ⟨q22, hb⟩ := hb
  obtain ⟨q23, hb⟩ := hb
  obtain ⟨q24, hb⟩ := hb
  refine g_aast v2 el_28 C dX11_laid_27 q22 q23 q24 ?_
  refine g_iconst (v := 1) C dX11_laid_28 (by decide) ?_
  obtain ⟨q26, q27, hb⟩ := hb
  exact g_ireturn C hΓ q26 q27 dX11_laid_29 ⟨_, rfl, hb⟩
theorem okX11_laid {mc ms : Nat} {v0 : Nat} {v1 : Int32} {v2 : Option Nat} {σ : St} {Q : Int32 → St → Prop} (hb : wX11_laid mc ms v0 v1 v2 σ Q) : hM yX11_laid cX11_laid 3 ((Option.some FieldType.int)) 3 82 mc ms [.ref v0, .int v1, va_rf v2] σ (oI Q) :=
  hM_of (by decide) (by cases v2 <;> exact Nat.le_of_ble_eq_true rfl) (fun Γ hΓ C => by cases v2 <;> exact kwX11_laid_0 (mc := mc) (ms := ms) C hΓ 0 0 _ _ _ _ hb)
def wX11_lay_52 (mc ms : Nat) (Q : Int32 → St → Prop) (k n : Nat) (v0 : Nat) (v1 : Int32) (v4 : Option Nat) (σ : St) : Prop :=
  ∃ m1 m2 : Nat, k + m1 ≤ mc ∧ n + m2 ≤ ms ∧ zK σ v0 = 12 ∧ wX11_laid m1 m2 v0 v1 v4 σ (fun y7 σ6 => k + m1 ≤ mc ∧ n + m2 ≤ ms ∧ Q y7 σ6)
def wX11_lay_23 (mc ms : Nat) (Q : Int32 → St → Prop) (k n : Nat) (v0 : Nat) (σ : St) : Prop :=
  k ≤ mc ∧ n ≤ ms ∧ zK σ v0 = 12 ∧ wX11_refused v0 2 σ (fun y5 σ4 => k ≤ mc ∧ n ≤ ms ∧ Q y5 σ4)
def wX11_lay_0 (mc ms : Nat) (Q : Int32 → St → Prop) (k n : Nat) (v0 : Nat) (v1 : Int32) (v2 : Int32) (v3 : Int32) (σ : St) : Prop :=
  k ≤ mc ∧ n ≤ ms ∧ zK σ v0 = 12 ∧ wX11_isShelfPlace v0 v1 σ (fun y5 σ4 => ((¬ y5 = 0 → ((v2 < 0 → wX11_lay_23 mc ms Q k n v0 σ4) ∧ (¬ v2 < 0 → ((v2 ≤ (4 : Int32) → ∃ m6 m7 : Nat, k + m6 ≤ mc ∧ n + m7 ≤ ms ∧ zK σ4 v0 = 12 ∧ wX11_thingOf m6 m7 v0 v2 v3 σ4 (fun y12 σ11 => ((y12 = none → ((v2 = 0 → wX11_lay_52 mc ms Q (k + m6) (n + m7) v0 v1 y12 σ11) ∧ (¬ v2 = 0 → k + m6 ≤ mc ∧ n + m7 ≤ ms ∧ zK σ11 v0 = 12 ∧ wX11_refused v0 1 σ11 (fun y18 σ17 => k + m6 ≤ mc ∧ n + m7 ≤ ms ∧ Q y18 σ17)))) ∧ (∀ a13 : Nat, y12 = some a13 → wX11_lay_52 mc ms Q (k + m6) (n + m7) v0 v1 (some a13) σ11)))) ∧ (¬ v2 ≤ (4 : Int32) → wX11_lay_23 mc ms Q k n v0 σ4))))) ∧ (y5 = 0 → k ≤ mc ∧ n ≤ ms ∧ zK σ4 v0 = 12 ∧ wX11_refused v0 1 σ4 (fun y25 σ24 => k ≤ mc ∧ n ≤ ms ∧ Q y25 σ24))))
def wX11_lay (mc ms : Nat) (v0 : Nat) (v1 : Int32) (v2 : Int32) (v3 : Int32) (σ : St) (Q : Int32 → St → Prop) : Prop := wX11_lay_0 mc ms Q 0 0 v0 v1 v2 v3 σ
set_option maxRecDepth 20000 in
theorem kwX11_lay_52 {Γ : hCT} {mc ms : Nat} (C : hC Γ RX11 cX11_lay ((Option.some FieldType.int)) "lay" 4 105) {Q : Int32 → St → Prop} (hΓ : Γ.2.2.2.2.2.2.2.2.2.2.2 = (5, mc, ms, oI Q)) (k n : Nat) (v0 : Nat) (v1 : Int32) (v4 : Option Nat) (σ : St) (hb : wX11_lay_52 mc ms Q k n v0 v1 v4 σ) : hW Γ k n 52 [(0, .ref v0), (1, .int v1), (4, va_rf v4)] [] σ := by
  unfold wX11_lay_52 at hb
  refine g_aload_n (some v0) C dX11_lay_52 0 rfl ?_
  refine g_iload_n C dX11_lay_53 1 rfl ?_
  refine g_aload v4 C dX11_lay_54 2 rfl ?_
  obtain ⟨m1, m2, q3, q4, hb⟩ := hb
  obtain ⟨q5, hb⟩ := hb
  refine g_invV (ci := 11) [.int v1, va_rf v4] [] zy_X11_laid wd_938 wd_940 wd_34 ⟨_, _, rfl⟩ (by decide) C dX11_lay_56 (by first | exact Nat.le_of_ble_eq_true rfl | simp [cat_rf]) (by first | exact Nat.le_of_ble_eq_true rfl | simp [cat_rf]) (by first | exact Nat.le_of_ble_eq_true rfl | simp [cat_rf]) (by rw [hmc_of hΓ]; exact q3) (by rw [hms_of hΓ]; exact q4) rfl rfl q5 (okX11_laid hb) ?_
  rintro o σ6 ⟨y7, rfl, hb⟩
  refine ⟨_, rfl, ?_⟩
  obtain ⟨q8, q9, hb⟩ := hb
  exact g_ireturn C hΓ q8 q9 dX11_lay_59 ⟨_, rfl, hb⟩
set_option maxRecDepth 20000 in
theorem kwX11_lay_23 {Γ : hCT} {mc ms : Nat} (C : hC Γ RX11 cX11_lay ((Option.some FieldType.int)) "lay" 4 105) {Q : Int32 → St → Prop} (hΓ : Γ.2.2.2.2.2.2.2.2.2.2.2 = (5, mc, ms, oI Q)) (k n : Nat) (v0 : Nat) (σ : St) (hb : wX11_lay_23 mc ms Q k n v0 σ) : hW Γ k n 23 [(0, .ref v0)] [] σ := by
  unfold wX11_lay_23 at hb
  refine g_aload_n (some v0) C dX11_lay_23 0 rfl ?_
  refine g_iconst (v := 2) C dX11_lay_24 (by decide) ?_
  obtain ⟨q1, q2, hb⟩ := hb
  obtain ⟨q3, hb⟩ := hb
  refine g_invV (ci := 11) [.int 2] [] zy_X11_refused wd_361 wd_363 wd_0 ⟨_, _, rfl⟩ (by decide) C dX11_lay_25 (by first | exact Nat.le_of_ble_eq_true rfl | simp [cat_rf]) (by first | exact Nat.le_of_ble_eq_true rfl | simp [cat_rf]) (by first | exact Nat.le_of_ble_eq_true rfl | simp [cat_rf]) (by rw [hmc_of hΓ]; exact q1) (by rw [hms_of hΓ]; exact q2) rfl rfl q3 (okX11_refused hb) ?_
  rintro o σ4 ⟨y5, rfl, hb⟩
  refine ⟨_, rfl, ?_⟩
  obtain ⟨q6, q7, hb⟩ := hb
  exact g_ireturn C hΓ q6 q7 dX11_lay_28 ⟨_, rfl, hb⟩
set_option maxRecDepth 20000 in
theorem kwX11_lay_0 {Γ : hCT} {mc ms : Nat} (C : hC Γ RX11 cX11_lay ((Option.some FieldType.int)) "lay" 4 105) {Q : Int32 → St → Prop} (hΓ : Γ.2.2.2.2.2.2.2.2.2.2.2 = (5, mc, ms, oI Q)) (k n : Nat) (v0 : Nat) (v1 : Int32) (v2 : Int32) (v3 : Int32) (σ : St) (hb : wX11_lay_0 mc ms Q k n v0 v1 v2 v3 σ) : hW Γ k n 0 [(0, .ref v0), (1, .int v1), (2, .int v2), (3, .int v3)] [] σ := by
  unfold wX11_lay_0 at hb
  refine g_aload_n (some v0) C dX11_lay_0 0 rfl ?_
  refine g_iload_n C dX11_lay_1 1 rfl ?_
  obtain ⟨q1, q2, hb⟩ := hb
  obtain ⟨q3, hb⟩ := hb
  refine g_invV (ci := 11) [.int v1] [] zy_X11_isShelfPlace wd_900 wd_902 wd_32 ⟨_, _, rfl⟩ (by decide) C dX11_lay_2 (by first | exact Nat.le_of_ble_eq_true rfl | simp [cat_rf]) (by first | exact Nat.le_of_ble_eq_true rfl | simp [cat_rf]) (by first | exact Nat.le_of_ble_eq_true rfl | simp [cat_rf]) (by rw [hmc_of hΓ]; exact q1) (by rw [hms_of hΓ]; exact q2) rfl rfl q3 (okX11_isShelfPlace hb) ?_
  rintro o σ4 ⟨y5, rfl, hb⟩
  refine ⟨_, rfl, ?_⟩
  refine g_if_ne (tgt := 14) C dX11_lay_5 (by decide) (fun c => ?_) (fun c => ?_)
  ·
    replace hb := hb.1 (c)
    refine g_iload_n C dX11_lay_14 2 rfl ?_
    refine g_if_lt (tgt := 23) C dX11_lay_15 (by decide) (fun c => ?_) (fun c => ?_)
    ·
      replace hb := hb.1 (c)
      refine g_sub (lv' := [(0, .ref v0)]) [0] rfl ?_
      exact kwX11_lay_23 C hΓ  _ _ _ _ hb
    ·
      replace hb := hb.2 (c)
      refine g_iload_n C dX11_lay_18 2 rfl ?_
      refine g_iconst (v := 4) C dX11_lay_19 (by decide) ?_
      refine g_icmp_le (tgt := 29) C dX11_lay_20 (by decide) (fun c => ?_) (fun c => ?_)
      ·
        replace hb := hb.1 (c)
        refine g_aload_n (some v0) C dX11_lay_29 0 rfl ?_
        refine g_iload_n C dX11_lay_30 2 rfl ?_
        refine g_iload_n C dX11_lay_31 3 rfl ?_
        obtain ⟨m6, m7, q8, q9, hb⟩ := hb
        obtain ⟨q10, hb⟩ := hb
        refine g_invV (ci := 11) [.int v2, .int v3] [] zy_X11_thingOf wd_904 wd_906 wd_33 ⟨_, _, rfl⟩ (by decide) C dX11_lay_32 (by first | exact Nat.le_of_ble_eq_true rfl | simp [cat_rf]) (by first | exact Nat.le_of_ble_eq_true rfl | simp [cat_rf]) (by first | exact Nat.le_of_ble_eq_true rfl | simp [cat_rf]) (by rw [hmc_of hΓ]; exact q8) (by rw [hms_of hΓ]; exact q9) rfl rfl q10 (okX11_thingOf hb) ?_
        rintro o σ11 ⟨y12, rfl, hb⟩
        refine ⟨_, rfl, ?_⟩
        refine g_astore (lv' := [(4, va_rf y12), (0, .ref v0), (1, .int v1), (2, .int v2), (3, .int v3)]) y12 C dX11_lay_35 (hnl_of hΓ (by decide)) (by first | rfl | simp [cat_rf]) ?_
        refine g_aload y12 C dX11_lay_37 0 rfl ?_
        refine g_ifnonnull (tgt := 52) y12 C dX11_lay_39 (by decide) (fun c => ?_) (fun c => ?_)
        ·
          obtain ⟨a13, rfl⟩ := rf_some c
          replace hb := hb.2 a13 rfl
          refine g_sub (lv' := [(0, .ref v0), (1, .int v1), (4, va_rf (some a13))]) [1, 2, 0] rfl ?_
          exact kwX11_lay_52 C hΓ  _ _ _ _ _ _ hb
        ·
          replace hb := hb.1 c
          refine g_iload_n C dX11_lay_42 3 rfl ?_
          refine g_if_eq (tgt := 52) C dX11_lay_43 (by decide) (fun c => ?_) (fun c => ?_)
          ·
            replace hb := hb.1 (c)
            refine g_sub (lv' := [(0, .ref v0), (1, .int v1), (4, va_rf y12)]) [1, 2, 0] rfl ?_
            exact kwX11_lay_52 C hΓ  _ _ _ _ _ _ hb
          ·
            replace hb := hb.2 (c)
            refine g_aload_n (some v0) C dX11_lay_46 1 rfl ?_
            refine g_iconst (v := 1) C dX11_lay_47 (by decide) ?_
            obtain ⟨q14, q15, hb⟩ := hb
            obtain ⟨q16, hb⟩ := hb
            refine g_invV (ci := 11) [.int 1] [] zy_X11_refused wd_361 wd_363 wd_0 ⟨_, _, rfl⟩ (by decide) C dX11_lay_48 (by first | exact Nat.le_of_ble_eq_true rfl | simp [cat_rf]) (by first | exact Nat.le_of_ble_eq_true rfl | simp [cat_rf]) (by first | exact Nat.le_of_ble_eq_true rfl | simp [cat_rf]) (by rw [hmc_of hΓ]; exact q14) (by rw [hms_of hΓ]; exact q15) rfl rfl q16 (okX11_refused hb) ?_
            rintro o σ17 ⟨y18, rfl, hb⟩
            refine ⟨_, rfl, ?_⟩
            obtain ⟨q19, q20, hb⟩ := hb
            exact g_ireturn C hΓ q19 q20 dX11_lay_51 ⟨_, rfl, hb⟩
      ·
        replace hb := hb.2 (c)
        refine g_sub (lv' := [(0, .ref v0)]) [0] rfl ?_
        exact kwX11_lay_23 C hΓ  _ _ _ _ hb
  ·
    replace hb := hb.2 (c)
    refine g_aload_n (some v0) C dX11_lay_8 0 rfl ?_
    refine g_iconst (v := 1) C dX11_lay_9 (by decide) ?_
    obtain ⟨q21, q22, hb⟩ := hb
    obtain ⟨q23, hb⟩ := hb
    refine g_invV (ci := 11) [.int 1] [] zy_X11_refused wd_361 wd_363 wd_0 ⟨_, _, rfl⟩ (by decide) C dX11_lay_10 (by first | exact Nat.le_of_ble_eq_true rfl | simp [cat_rf]) (by first | exact Nat.le_of_ble_eq_true rfl | simp [cat_rf]) (by first | exact Nat.le_of_ble_eq_true rfl | simp [cat_rf]) (by rw [hmc_of hΓ]; exact q21) (by rw [hms_of hΓ]; exact q22) rfl rfl q23 (okX11_refused hb) ?_
    rintro o σ24 ⟨y25, rfl, hb⟩
    refine ⟨_, rfl, ?_⟩
    obtain ⟨q26, q27, hb⟩ := hb
    exact g_ireturn C hΓ q26 q27 dX11_lay_13 ⟨_, rfl, hb⟩
theorem okX11_lay {mc ms : Nat} {v0 : Nat} {v1 : Int32} {v2 : Int32} {v3 : Int32} {σ : St} {Q : Int32 → St → Prop} (hb : wX11_lay mc ms v0 v1 v2 v3 σ Q) : hM yX11_lay cX11_lay 5 ((Option.some FieldType.int)) 4 105 mc ms [.ref v0, .int v1, .int v2, .int v3] σ (oI Q) :=
  hM_of (by decide) (Nat.le_of_ble_eq_true rfl) (fun Γ hΓ C => kwX11_lay_0 (mc := mc) (ms := ms) C hΓ 0 0 _ _ _ _ _ hb)
def wX11_sortAt_0 (Q : Int32 → St → Prop) (v0 : Nat) (v1 : Int32) (σ : St) : Prop :=
  zK σ v0 = 12 ∧ ∃ a2 : Nat, zFr σ 712 v0 = some a2 ∧ zK σ a2 = 28 ∧ vp_in v1 (zL σ a2) ∧ ∀ o6 : Option Nat, zAr σ a2 (ix v1) = o6 → ((o6 = none → Q 0 σ) ∧ (∀ a8 : Nat, o6 = some a8 → zK σ a8 = 11 ∧ Q (zFi σ 640 a8) σ))
def wX11_sortAt (v0 : Nat) (v1 : Int32) (σ : St) (Q : Int32 → St → Prop) : Prop := wX11_sortAt_0 Q v0 v1 σ
set_option maxRecDepth 20000 in
theorem kwX11_sortAt_0 {Γ : hCT} (C : hC Γ RX11 cX11_sortAt ((Option.some FieldType.int)) "sortAt" 0 0) {Q : Int32 → St → Prop} (hΓ : Γ.2.2.2.2.2.2.2.2.2.2.2 = (3, 0, 0, oI Q)) (v0 : Nat) (v1 : Int32) (σ : St) (hb : wX11_sortAt_0 Q v0 v1 σ) : hW Γ 0 0 0 [(0, .ref v0), (1, .int v1)] [] σ := by
  unfold wX11_sortAt_0 at hb
  refine g_aload_n (some v0) C dX11_sortAt_0 0 rfl ?_
  obtain ⟨q1, hb⟩ := hb
  obtain ⟨a2, q3, hb⟩ := hb
  refine g_getR (some a2) C fl_RX11_56 dX11_sortAt_1 q1 rfl rfl q3 ?_
  refine g_iload_n C dX11_sortAt_4 1 rfl ?_
  obtain ⟨q4, hb⟩ := hb
  obtain ⟨q5, hb⟩ := hb
  obtain ⟨o6, q7⟩ : ∃ o6, zAr σ a2 (ix v1) = o6 := ⟨_, rfl⟩
  replace hb := hb o6 q7
  refine g_aald o6 el_28 C dX11_sortAt_5 q4 q5 q7 ?_
  refine g_astore_n (i := 2) (lv' := [(2, va_rf o6), (0, .ref v0), (1, .int v1)]) o6 C dX11_sortAt_6 rfl (hnl_of hΓ (by decide)) (by first | rfl | simp [cat_rf]) ?_
  refine g_aload_n o6 C dX11_sortAt_7 0 rfl ?_
  refine g_ifnonnull (tgt := 15) o6 C dX11_sortAt_8 (by decide) (fun c => ?_) (fun c => ?_)
  ·
    obtain ⟨a8, rfl⟩ := rf_some c
    replace hb := hb.2 a8 rfl
    refine g_aload_n (some a8) C dX11_sortAt_15 0 rfl ?_
    obtain ⟨q9, hb⟩ := hb
    refine g_getIx (zFi σ 640 a8) C fl_RX11_286 dX11_sortAt_16 q9 rfl rfl rfl ?_
    exact g_ireturn C hΓ (Nat.zero_le _) (Nat.zero_le _) dX11_sortAt_19 ⟨_, rfl, hb⟩
  ·
    replace hb := hb.1 c
    refine g_iconst (v := 0) C dX11_sortAt_11 (by decide) ?_
    refine g_goto (tgt := 19) C dX11_sortAt_12 (by decide) ?_
    exact g_ireturn C hΓ (Nat.zero_le _) (Nat.zero_le _) dX11_sortAt_19 ⟨_, rfl, hb⟩
theorem okX11_sortAt {v0 : Nat} {v1 : Int32} {σ : St} {Q : Int32 → St → Prop} (hb : wX11_sortAt v0 v1 σ Q) : hM yX11_sortAt cX11_sortAt 3 ((Option.some FieldType.int)) 0 0 0 0 [.ref v0, .int v1] σ (oI Q) :=
  hM_of (by decide) (Nat.le_of_ble_eq_true rfl) (fun Γ hΓ C => kwX11_sortAt_0 C hΓ _ _ _ hb)
def wX11_lies_0 (Q : Int32 → St → Prop) (v0 : Nat) (v1 : Int32) (σ : St) : Prop :=
  zK σ v0 = 12 ∧ wX11_isShelfPlace v0 v1 σ (fun y3 σ2 => ((¬ y3 = 0 → zK σ2 v0 = 12 ∧ wX11_sortAt v0 v1 (uFi σ2 714 v0 0) (fun y6 σ5 => Q y6 σ5)) ∧ (y3 = 0 → zK σ2 v0 = 12 ∧ wX11_refused v0 1 σ2 (fun y9 σ8 => Q y9 σ8))))
def wX11_lies (v0 : Nat) (v1 : Int32) (σ : St) (Q : Int32 → St → Prop) : Prop := wX11_lies_0 Q v0 v1 σ
set_option maxRecDepth 20000 in
theorem kwX11_lies_0 {Γ : hCT} (C : hC Γ RX11 cX11_lies ((Option.some FieldType.int)) "lies" 1 22) {Q : Int32 → St → Prop} (hΓ : Γ.2.2.2.2.2.2.2.2.2.2.2 = (2, 0, 0, oI Q)) (v0 : Nat) (v1 : Int32) (σ : St) (hb : wX11_lies_0 Q v0 v1 σ) : hW Γ 0 0 0 [(0, .ref v0), (1, .int v1)] [] σ := by
  unfold wX11_lies_0 at hb
  refine g_aload_n (some v0) C dX11_lies_0 0 rfl ?_
  refine g_iload_n C dX11_lies_1 1 rfl ?_
  obtain ⟨q1, hb⟩ := hb
  refine g_invV (ci := 11) [.int v1] [] zy_X11_isShelfPlace wd_900 wd_902 wd_32 ⟨_, _, rfl⟩ (by decide) C dX11_lies_2 (by first | exact Nat.le_of_ble_eq_true rfl | simp [cat_rf]) (by first | exact Nat.le_of_ble_eq_true rfl | simp [cat_rf]) (by first | exact Nat.le_of_ble_eq_true rfl | simp [cat_rf]) (Nat.zero_le _) (Nat.zero_le _) rfl rfl q1 (okX11_isShelfPlace hb) ?_
  rintro o σ2 ⟨y3, rfl, hb⟩
  refine ⟨_, rfl, ?_⟩
  refine g_if_ne (tgt := 14) C dX11_lies_5 (by decide) (fun c => ?_) (fun c => ?_)
  ·
    replace hb := hb.1 (c)
    refine g_aload_n (some v0) C dX11_lies_14 0 rfl ?_
    refine g_iconst (v := 0) C dX11_lies_15 (by decide) ?_
    obtain ⟨q4, hb⟩ := hb
    refine g_putI C fl_RX11_101 dX11_lies_16 q4 rfl rfl rfl rfl ?_
    refine g_aload_n (some v0) C dX11_lies_19 0 rfl ?_
    refine g_iload_n C dX11_lies_20 1 rfl ?_
    refine g_invV (ci := 11) [.int v1] [] zy_X11_sortAt wd_946 wd_948 wd_35 ⟨_, _, rfl⟩ (by decide) C dX11_lies_21 (by first | exact Nat.le_of_ble_eq_true rfl | simp [cat_rf]) (by first | exact Nat.le_of_ble_eq_true rfl | simp [cat_rf]) (by first | exact Nat.le_of_ble_eq_true rfl | simp [cat_rf]) (Nat.zero_le _) (Nat.zero_le _) rfl rfl (by rw [zK_uFi]; exact q4) (okX11_sortAt hb) ?_
    rintro o σ5 ⟨y6, rfl, hb⟩
    refine ⟨_, rfl, ?_⟩
    exact g_ireturn C hΓ (Nat.zero_le _) (Nat.zero_le _) dX11_lies_24 ⟨_, rfl, hb⟩
  ·
    replace hb := hb.2 (c)
    refine g_aload_n (some v0) C dX11_lies_8 0 rfl ?_
    refine g_iconst (v := 1) C dX11_lies_9 (by decide) ?_
    obtain ⟨q7, hb⟩ := hb
    refine g_invV (ci := 11) [.int 1] [] zy_X11_refused wd_361 wd_363 wd_0 ⟨_, _, rfl⟩ (by decide) C dX11_lies_10 (by first | exact Nat.le_of_ble_eq_true rfl | simp [cat_rf]) (by first | exact Nat.le_of_ble_eq_true rfl | simp [cat_rf]) (by first | exact Nat.le_of_ble_eq_true rfl | simp [cat_rf]) (Nat.zero_le _) (Nat.zero_le _) rfl rfl q7 (okX11_refused hb) ?_
    rintro o σ8 ⟨y9, rfl, hb⟩
    refine ⟨_, rfl, ?_⟩
    exact g_ireturn C hΓ (Nat.zero_le _) (Nat.zero_le _) dX11_lies_13 ⟨_, rfl, hb⟩
theorem okX11_lies {v0 : Nat} {v1 : Int32} {σ : St} {Q : Int32 → St → Prop} (hb : wX11_lies v0 v1 σ Q) : hM yX11_lies cX11_lies 2 ((Option.some FieldType.int)) 1 22 0 0 [.ref v0, .int v1] σ (oI Q) :=
  hM_of (by decide) (Nat.le_of_ble_eq_true rfl) (fun Γ hΓ C => kwX11_lies_0 C hΓ _ _ _ hb)
def wX11_taken_95 (Q : Int64 → St → Prop) (v0 : Nat) (σ : St) : Prop :=
  zK σ v0 = 12 ∧ wX11_refused v0 1 σ (fun y3 σ2 => Q (Int32.toInt64 y3) σ2)
def wX11_taken_77 (Q : Int64 → St → Prop) (v0 : Nat) (v4 : Nat) (s0 : Int32) (σ : St) : Prop :=
  ((s0 < 0 → wX11_taken_95 Q v0 σ) ∧ (¬ s0 < 0 → zK σ v4 = 11 ∧ ∃ a2 : Nat, zFr σ 641 v4 = some a2 ∧ (20 ≤ zK σ a2 ∧ zK σ a2 < 32) ∧ ((s0 < (Int32.ofNat (zL σ a2)) → zK σ v0 = 12 ∧ zK σ a2 = 21 ∧ vp_in s0 (zL σ a2) ∧ Q (zAj σ a2 (ix s0)) (uFi σ 714 v0 0)) ∧ (¬ s0 < (Int32.ofNat (zL σ a2)) → wX11_taken_95 Q v0 σ))))
def wX11_taken_72 (Q : Int64 → St → Prop) (v0 : Nat) (v3 : Int32) (v4 : Nat) (σ : St) : Prop :=
  wX11_taken_77 Q v0 v4 v3 σ
def wX11_taken_54 (Q : Int64 → St → Prop) (v0 : Nat) (σ : St) : Prop :=
  zK σ v0 = 12 ∧ wX11_refused v0 7 σ (fun y3 σ2 => Q (Int32.toInt64 y3) σ2)
def wX11_taken_25 (Q : Int64 → St → Prop) (v0 : Nat) (σ : St) : Prop :=
  zK σ v0 = 12 ∧ wX11_refused v0 2 σ (fun y3 σ2 => Q (Int32.toInt64 y3) σ2)
def wX11_taken_0 (Q : Int64 → St → Prop) (v0 : Nat) (v1 : Int32) (v2 : Int32) (v3 : Int32) (σ : St) : Prop :=
  zK σ v0 = 12 ∧ wX11_isShelfPlace v0 v1 σ (fun y3 σ2 => ((¬ y3 = 0 → ((v2 < (1 : Int32) → wX11_taken_25 Q v0 σ2) ∧ (¬ v2 < (1 : Int32) → ((v2 ≤ (4 : Int32) → zK σ2 v0 = 12 ∧ ∃ a5 : Nat, zFr σ2 712 v0 = some a5 ∧ zK σ2 a5 = 28 ∧ vp_in v1 (zL σ2 a5) ∧ ∀ o9 : Option Nat, zAr σ2 a5 (ix v1) = o9 → ((o9 = none → wX11_taken_54 Q v0 σ2) ∧ (∀ a11 : Nat, o9 = some a11 → zK σ2 a11 = 11 ∧ (((zFi σ2 640 a11) = v2 → ((v2 = (3 : Int32) → wX11_taken_72 Q v0 v3 a11 σ2) ∧ (¬ v2 = (3 : Int32) → ((¬ v2 = (4 : Int32) → wX11_taken_77 Q v0 a11 0 σ2) ∧ (v2 = (4 : Int32) → wX11_taken_72 Q v0 v3 a11 σ2))))) ∧ (¬ (zFi σ2 640 a11) = v2 → wX11_taken_54 Q v0 σ2))))) ∧ (¬ v2 ≤ (4 : Int32) → wX11_taken_25 Q v0 σ2))))) ∧ (y3 = 0 → zK σ2 v0 = 12 ∧ wX11_refused v0 1 σ2 (fun y15 σ14 => Q (Int32.toInt64 y15) σ14))))
def wX11_taken (v0 : Nat) (v1 : Int32) (v2 : Int32) (v3 : Int32) (σ : St) (Q : Int64 → St → Prop) : Prop := wX11_taken_0 Q v0 v1 v2 v3 σ
set_option maxRecDepth 20000 in
theorem kwX11_taken_95 {Γ : hCT} (C : hC Γ RX11 cX11_taken ((Option.some FieldType.long)) "taken" 1 21) {Q : Int64 → St → Prop} (hΓ : Γ.2.2.2.2.2.2.2.2.2.2.2 = (6, 0, 0, oJ Q)) (v0 : Nat) (σ : St) (hb : wX11_taken_95 Q v0 σ) : hW Γ 0 0 95 [(0, .ref v0)] [] σ := by
  unfold wX11_taken_95 at hb
  refine g_aload_n (some v0) C dX11_taken_95 0 rfl ?_
  refine g_iconst (v := 1) C dX11_taken_96 (by decide) ?_
  obtain ⟨q1, hb⟩ := hb
  refine g_invV (ci := 11) [.int 1] [] zy_X11_refused wd_361 wd_363 wd_0 ⟨_, _, rfl⟩ (by decide) C dX11_taken_97 (by first | exact Nat.le_of_ble_eq_true rfl | simp [cat_rf]) (by first | exact Nat.le_of_ble_eq_true rfl | simp [cat_rf]) (by first | exact Nat.le_of_ble_eq_true rfl | simp [cat_rf]) (Nat.zero_le _) (Nat.zero_le _) rfl rfl q1 (okX11_refused hb) ?_
  rintro o σ2 ⟨y3, rfl, hb⟩
  refine ⟨_, rfl, ?_⟩
  refine g_i2l C dX11_taken_100 ?_
  exact g_lreturn C hΓ (Nat.zero_le _) (Nat.zero_le _) dX11_taken_101 ⟨_, rfl, hb⟩
set_option maxRecDepth 20000 in
theorem kwX11_taken_77 {Γ : hCT} (C : hC Γ RX11 cX11_taken ((Option.some FieldType.long)) "taken" 1 21) {Q : Int64 → St → Prop} (hΓ : Γ.2.2.2.2.2.2.2.2.2.2.2 = (6, 0, 0, oJ Q)) (v0 : Nat) (v4 : Nat) (s0 : Int32) (σ : St) (hb : wX11_taken_77 Q v0 v4 s0 σ) : hW Γ 0 0 77 [(0, .ref v0), (4, .ref v4)] [.int s0] σ := by
  unfold wX11_taken_77 at hb
  refine g_istore (lv' := [(5, .int s0), (0, .ref v0), (4, .ref v4)]) C dX11_taken_77 (hnl_of hΓ (by decide)) (by first | rfl | simp [cat_rf]) ?_
  refine g_iload C dX11_taken_79 0 rfl ?_
  refine g_if_lt (tgt := 95) C dX11_taken_81 (by decide) (fun c => ?_) (fun c => ?_)
  ·
    replace hb := hb.1 (c)
    refine g_sub (lv' := [(0, .ref v0)]) [1] rfl ?_
    exact kwX11_taken_95 C hΓ  _ _ hb
  ·
    replace hb := hb.2 (c)
    refine g_iload C dX11_taken_84 0 rfl ?_
    refine g_aload (some v4) C dX11_taken_86 2 rfl ?_
    obtain ⟨q1, hb⟩ := hb
    obtain ⟨a2, q3, hb⟩ := hb
    refine g_getR (some a2) C fl_RX11_287 dX11_taken_88 q1 rfl rfl q3 ?_
    obtain ⟨q4, hb⟩ := hb
    refine g_alen (v := Int32.ofNat (zL σ a2)) C dX11_taken_91 q4 rfl ?_
    refine g_icmp_lt (tgt := 102) C dX11_taken_92 (by decide) (fun c => ?_) (fun c => ?_)
    ·
      replace hb := hb.1 (c)
      refine g_aload_n (some v0) C dX11_taken_102 1 rfl ?_
      refine g_iconst (v := 0) C dX11_taken_103 (by decide) ?_
      obtain ⟨q5, hb⟩ := hb
      refine g_putI C fl_RX11_101 dX11_taken_104 q5 rfl rfl rfl rfl ?_
      refine g_aload (some v4) C dX11_taken_107 2 rfl ?_
      refine g_getR (some a2) C fl_RX11_287 dX11_taken_109 (by rw [zK_uFi]; exact q1) rfl rfl (by rw [zFr_uFi]; exact q3) ?_
      refine g_iload C dX11_taken_112 0 rfl ?_
      obtain ⟨q6, hb⟩ := hb
      obtain ⟨q7, hb⟩ := hb
      refine g_laldx (zAj σ a2 (ix s0)) C dX11_taken_114 (by rw [zK_uFi]; exact q6) (by rw [zL_uFi]; exact q7) (by rw [zAj_uFi]) ?_
      exact g_lreturn C hΓ (Nat.zero_le _) (Nat.zero_le _) dX11_taken_115 ⟨_, rfl, hb⟩
    ·
      replace hb := hb.2 (c)
      refine g_sub (lv' := [(0, .ref v0)]) [1] rfl ?_
      exact kwX11_taken_95 C hΓ  _ _ hb
set_option maxRecDepth 20000 in
theorem kwX11_taken_72 {Γ : hCT} (C : hC Γ RX11 cX11_taken ((Option.some FieldType.long)) "taken" 1 21) {Q : Int64 → St → Prop} (hΓ : Γ.2.2.2.2.2.2.2.2.2.2.2 = (6, 0, 0, oJ Q)) (v0 : Nat) (v3 : Int32) (v4 : Nat) (σ : St) (hb : wX11_taken_72 Q v0 v3 v4 σ) : hW Γ 0 0 72 [(0, .ref v0), (3, .int v3), (4, .ref v4)] [] σ := by
  unfold wX11_taken_72 at hb
  refine g_iload_n C dX11_taken_72 1 rfl ?_
  refine g_goto (tgt := 77) C dX11_taken_73 (by decide) ?_
  refine g_sub (lv' := [(0, .ref v0), (4, .ref v4)]) [0, 2] rfl ?_
  exact kwX11_taken_77 C hΓ  _ _ _ _ hb
set_option maxRecDepth 20000 in
theorem kwX11_taken_54 {Γ : hCT} (C : hC Γ RX11 cX11_taken ((Option.some FieldType.long)) "taken" 1 21) {Q : Int64 → St → Prop} (hΓ : Γ.2.2.2.2.2.2.2.2.2.2.2 = (6, 0, 0, oJ Q)) (v0 : Nat) (σ : St) (hb : wX11_taken_54 Q v0 σ) : hW Γ 0 0 54 [(0, .ref v0)] [] σ := by
  unfold wX11_taken_54 at hb
  refine g_aload_n (some v0) C dX11_taken_54 0 rfl ?_
  refine g_bipush (v := 7) C dX11_taken_55 (by decide) ?_
  obtain ⟨q1, hb⟩ := hb
  refine g_invV (ci := 11) [.int 7] [] zy_X11_refused wd_361 wd_363 wd_0 ⟨_, _, rfl⟩ (by decide) C dX11_taken_57 (by first | exact Nat.le_of_ble_eq_true rfl | simp [cat_rf]) (by first | exact Nat.le_of_ble_eq_true rfl | simp [cat_rf]) (by first | exact Nat.le_of_ble_eq_true rfl | simp [cat_rf]) (Nat.zero_le _) (Nat.zero_le _) rfl rfl q1 (okX11_refused hb) ?_
  rintro o σ2 ⟨y3, rfl, hb⟩
  refine ⟨_, rfl, ?_⟩
  refine g_i2l C dX11_taken_60 ?_
  exact g_lreturn C hΓ (Nat.zero_le _) (Nat.zero_le _) dX11_taken_61 ⟨_, rfl, hb⟩
set_option maxRecDepth 20000 in
theorem kwX11_taken_25 {Γ : hCT} (C : hC Γ RX11 cX11_taken ((Option.some FieldType.long)) "taken" 1 21) {Q : Int64 → St → Prop} (hΓ : Γ.2.2.2.2.2.2.2.2.2.2.2 = (6, 0, 0, oJ Q)) (v0 : Nat) (σ : St) (hb : wX11_taken_25 Q v0 σ) : hW Γ 0 0 25 [(0, .ref v0)] [] σ := by
  unfold wX11_taken_25 at hb
  refine g_aload_n (some v0) C dX11_taken_25 0 rfl ?_
  refine g_iconst (v := 2) C dX11_taken_26 (by decide) ?_
  obtain ⟨q1, hb⟩ := hb
  refine g_invV (ci := 11) [.int 2] [] zy_X11_refused wd_361 wd_363 wd_0 ⟨_, _, rfl⟩ (by decide) C dX11_taken_27 (by first | exact Nat.le_of_ble_eq_true rfl | simp [cat_rf]) (by first | exact Nat.le_of_ble_eq_true rfl | simp [cat_rf]) (by first | exact Nat.le_of_ble_eq_true rfl | simp [cat_rf]) (Nat.zero_le _) (Nat.zero_le _) rfl rfl q1 (okX11_refused hb) ?_
  rintro o σ2 ⟨y3, rfl, hb⟩
  refine ⟨_, rfl, ?_⟩
  refine g_i2l C dX11_taken_30 ?_
  exact g_lreturn C hΓ (Nat.zero_le _) (Nat.zero_le _) dX11_taken_31 ⟨_, rfl, hb⟩
set_option maxRecDepth 20000 in
theorem kwX11_taken_0 {Γ : hCT} (C : hC Γ RX11 cX11_taken ((Option.some FieldType.long)) "taken" 1 21) {Q : Int64 → St → Prop} (hΓ : Γ.2.2.2.2.2.2.2.2.2.2.2 = (6, 0, 0, oJ Q)) (v0 : Nat) (v1 : Int32) (v2 : Int32) (v3 : Int32) (σ : St) (hb : wX11_taken_0 Q v0 v1 v2 v3 σ) : hW Γ 0 0 0 [(0, .ref v0), (1, .int v1), (2, .int v2), (3, .int v3)] [] σ := by
  unfold wX11_taken_0 at hb
  refine g_aload_n (some v0) C dX11_taken_0 0 rfl ?_
  refine g_iload_n C dX11_taken_1 1 rfl ?_
  obtain ⟨q1, hb⟩ := hb
  refine g_invV (ci := 11) [.int v1] [] zy_X11_isShelfPlace wd_900 wd_902 wd_32 ⟨_, _, rfl⟩ (by decide) C dX11_taken_2 (by first | exact Nat.le_of_ble_eq_true rfl | simp [cat_rf]) (by first | exact Nat.le_of_ble_eq_true rfl | simp [cat_rf]) (by first | exact Nat.le_of_ble_eq_true rfl | simp [cat_rf]) (Nat.zero_le _) (Nat.zero_le _) rfl rfl q1 (okX11_isShelfPlace hb) ?_
  rintro o σ2 ⟨y3, rfl, hb⟩
  refine ⟨_, rfl, ?_⟩
  refine g_if_ne (tgt := 15) C dX11_taken_5 (by decide) (fun c => ?_) (fun c => ?_)
  ·
    replace hb := hb.1 (c)
    refine g_iload_n C dX11_taken_15 2 rfl ?_
    refine g_iconst (v := 1) C dX11_taken_16 (by decide) ?_
    refine g_icmp_lt (tgt := 25) C dX11_taken_17 (by decide) (fun c => ?_) (fun c => ?_)
    ·
      replace hb := hb.1 (c)
      refine g_sub (lv' := [(0, .ref v0)]) [0] rfl ?_
      exact kwX11_taken_25 C hΓ  _ _ hb
    ·
      replace hb := hb.2 (c)
      refine g_iload_n C dX11_taken_20 2 rfl ?_
      refine g_iconst (v := 4) C dX11_taken_21 (by decide) ?_
      refine g_icmp_le (tgt := 32) C dX11_taken_22 (by decide) (fun c => ?_) (fun c => ?_)
      ·
        replace hb := hb.1 (c)
        refine g_aload_n (some v0) C dX11_taken_32 0 rfl ?_
        obtain ⟨q4, hb⟩ := hb
        obtain ⟨a5, q6, hb⟩ := hb
        refine g_getR (some a5) C fl_RX11_56 dX11_taken_33 q4 rfl rfl q6 ?_
        refine g_iload_n C dX11_taken_36 1 rfl ?_
        obtain ⟨q7, hb⟩ := hb
        obtain ⟨q8, hb⟩ := hb
        obtain ⟨o9, q10⟩ : ∃ o9, zAr σ2 a5 (ix v1) = o9 := ⟨_, rfl⟩
        replace hb := hb o9 q10
        refine g_aald o9 el_28 C dX11_taken_37 q7 q8 q10 ?_
        refine g_astore (lv' := [(4, va_rf o9), (0, .ref v0), (1, .int v1), (2, .int v2), (3, .int v3)]) o9 C dX11_taken_38 (hnl_of hΓ (by decide)) (by first | rfl | simp [cat_rf]) ?_
        refine g_aload o9 C dX11_taken_40 0 rfl ?_
        refine g_ifnull (tgt := 54) o9 C dX11_taken_42 (by decide) (fun c => ?_) (fun c => ?_)
        ·
          replace hb := hb.1 c
          refine g_sub (lv' := [(0, .ref v0)]) [1] rfl ?_
          exact kwX11_taken_54 C hΓ  _ _ hb
        ·
          obtain ⟨a11, rfl⟩ := rf_some c
          replace hb := hb.2 a11 rfl
          refine g_aload (some a11) C dX11_taken_45 0 rfl ?_
          obtain ⟨q12, hb⟩ := hb
          refine g_getIx (zFi σ2 640 a11) C fl_RX11_286 dX11_taken_47 q12 rfl rfl rfl ?_
          refine g_iload_n C dX11_taken_50 3 rfl ?_
          refine g_icmp_eq (tgt := 62) C dX11_taken_51 (by decide) (fun c => ?_) (fun c => ?_)
          ·
            replace hb := hb.1 (c)
            refine g_iload_n C dX11_taken_62 3 rfl ?_
            refine g_iconst (v := 3) C dX11_taken_63 (by decide) ?_
            refine g_icmp_eq (tgt := 72) C dX11_taken_64 (by decide) (fun c => ?_) (fun c => ?_)
            ·
              replace hb := hb.1 (c)
              refine g_sub (lv' := [(0, .ref v0), (3, .int v3), (4, .ref a11)]) [1, 4, 0] rfl ?_
              exact kwX11_taken_72 C hΓ  _ _ _ _ hb
            ·
              replace hb := hb.2 (c)
              refine g_iload_n C dX11_taken_67 3 rfl ?_
              refine g_iconst (v := 4) C dX11_taken_68 (by decide) ?_
              refine g_icmp_ne (tgt := 76) C dX11_taken_69 (by decide) (fun c => ?_) (fun c => ?_)
              ·
                replace hb := hb.1 (c)
                refine g_iconst (v := 0) C dX11_taken_76 (by decide) ?_
                refine g_sub (lv' := [(0, .ref v0), (4, .ref a11)]) [1, 0] rfl ?_
                exact kwX11_taken_77 C hΓ  _ _ _ _ hb
              ·
                replace hb := hb.2 (c)
                refine g_sub (lv' := [(0, .ref v0), (3, .int v3), (4, .ref a11)]) [1, 4, 0] rfl ?_
                exact kwX11_taken_72 C hΓ  _ _ _ _ hb
          ·
            replace hb := hb.2 (c)
            refine g_sub (lv' := [(0, .ref v0)]) [1] rfl ?_
            exact kwX11_taken_54 C hΓ  _ _ hb
      ·
        replace hb := hb.2 (c)
        refine g_sub (lv' := [(0, .ref v0)]) [0] rfl ?_
        exact kwX11_taken_25 C hΓ  _ _ hb
  ·
    replace hb := hb.2 (c)
    refine g_aload_n (some v0) C dX11_taken_8 0 rfl ?_
    refine g_iconst (v := 1) C dX11_taken_9 (by decide) ?_
    obtain ⟨q13, hb⟩ := hb
    refine g_invV (ci := 11) [.int 1] [] zy_X11_refused wd_361 wd_363 wd_0 ⟨_, _, rfl⟩ (by decide) C dX11_taken_10 (by first | exact Nat.le_of_ble_eq_true rfl | simp [cat_rf]) (by first | exact Nat.le_of_ble_eq_true rfl | simp [cat_rf]) (by first | exact Nat.le_of_ble_eq_true rfl | simp [cat_rf]) (Nat.zero_le _) (Nat.zero_le _) rfl rfl q13 (okX11_refused hb) ?_
    rintro o σ14 ⟨y15, rfl, hb⟩
    refine ⟨_, rfl, ?_⟩
    refine g_i2l C dX11_taken_13 ?_
    exact g_lreturn C hΓ (Nat.zero_le _) (Nat.zero_le _) dX11_taken_14 ⟨_, rfl, hb⟩
theorem okX11_taken {v0 : Nat} {v1 : Int32} {v2 : Int32} {v3 : Int32} {σ : St} {Q : Int64 → St → Prop} (hb : wX11_taken v0 v1 v2 v3 σ Q) : hM yX11_taken cX11_taken 6 ((Option.some FieldType.long)) 1 21 0 0 [.ref v0, .int v1, .int v2, .int v3] σ (oJ Q) :=
  hM_of (by decide) (Nat.le_of_ble_eq_true rfl) (fun Γ hΓ C => kwX11_taken_0 C hΓ _ _ _ _ _ hb)
def wX11_hasSoMany_0 (Q : Int32 → St → Prop) (v0 : Nat) (v1 : Int32) (v2 : Int32) (σ : St) : Prop :=
  ((v1 < 0 → Q 0 σ) ∧ (¬ v1 < 0 → ((v2 < 0 → Q 0 σ) ∧ (¬ v2 < 0 → zK σ v0 = 11 ∧ ∃ a2 : Nat, zFr σ 641 v0 = some a2 ∧ (20 ≤ zK σ a2 ∧ zK σ a2 < 32) ∧ (((Int32.ofNat (zL σ a2)) < v2 → Q 0 σ) ∧ (¬ (Int32.ofNat (zL σ a2)) < v2 → (20 ≤ zK σ a2 ∧ zK σ a2 < 32) ∧ ((((Int32.ofNat (zL σ a2)) - v2) < v1 → Q 0 σ) ∧ (¬ ((Int32.ofNat (zL σ a2)) - v2) < v1 → Q 1 σ))))))))
def wX11_hasSoMany (v0 : Nat) (v1 : Int32) (v2 : Int32) (σ : St) (Q : Int32 → St → Prop) : Prop := wX11_hasSoMany_0 Q v0 v1 v2 σ
set_option maxRecDepth 20000 in
theorem kwX11_hasSoMany_0 {Γ : hCT} (C : hC Γ RX11 cX11_hasSoMany ((Option.some FieldType.boolean)) "hasSoMany" 0 0) {Q : Int32 → St → Prop} (hΓ : Γ.2.2.2.2.2.2.2.2.2.2.2 = (3, 0, 0, oI Q)) (v0 : Nat) (v1 : Int32) (v2 : Int32) (σ : St) (hb : wX11_hasSoMany_0 Q v0 v1 v2 σ) : hW Γ 0 0 0 [(0, .ref v0), (1, .int v1), (2, .int v2)] [] σ := by
  unfold wX11_hasSoMany_0 at hb
  refine g_iload_n C dX11_hasSoMany_0 1 rfl ?_
  refine g_if_lt (tgt := 32) C dX11_hasSoMany_1 (by decide) (fun c => ?_) (fun c => ?_)
  ·
    replace hb := hb.1 (c)
    refine g_iconst (v := 0) C dX11_hasSoMany_32 (by decide) ?_
    exact g_zreturn C (by decide) hΓ (Nat.zero_le _) (Nat.zero_le _) dX11_hasSoMany_33 ⟨_, rfl, hb⟩
  ·
    replace hb := hb.2 (c)
    refine g_iload_n C dX11_hasSoMany_4 2 rfl ?_
    refine g_if_lt (tgt := 32) C dX11_hasSoMany_5 (by decide) (fun c => ?_) (fun c => ?_)
    ·
      replace hb := hb.1 (c)
      refine g_iconst (v := 0) C dX11_hasSoMany_32 (by decide) ?_
      exact g_zreturn C (by decide) hΓ (Nat.zero_le _) (Nat.zero_le _) dX11_hasSoMany_33 ⟨_, rfl, hb⟩
    ·
      replace hb := hb.2 (c)
      refine g_iload_n C dX11_hasSoMany_8 2 rfl ?_
      refine g_aload_n (some v0) C dX11_hasSoMany_9 0 rfl ?_
      obtain ⟨q1, hb⟩ := hb
      obtain ⟨a2, q3, hb⟩ := hb
      refine g_getR (some a2) C fl_RX11_287 dX11_hasSoMany_10 q1 rfl rfl q3 ?_
      obtain ⟨q4, hb⟩ := hb
      refine g_alen (v := Int32.ofNat (zL σ a2)) C dX11_hasSoMany_13 q4 rfl ?_
      refine g_icmp_gt (tgt := 32) C dX11_hasSoMany_14 (by decide) (fun c => ?_) (fun c => ?_)
      ·
        replace hb := hb.1 (c)
        refine g_iconst (v := 0) C dX11_hasSoMany_32 (by decide) ?_
        exact g_zreturn C (by decide) hΓ (Nat.zero_le _) (Nat.zero_le _) dX11_hasSoMany_33 ⟨_, rfl, hb⟩
      ·
        replace hb := hb.2 (c)
        refine g_iload_n C dX11_hasSoMany_17 1 rfl ?_
        refine g_aload_n (some v0) C dX11_hasSoMany_18 0 rfl ?_
        refine g_getR (some a2) C fl_RX11_287 dX11_hasSoMany_19 q1 rfl rfl q3 ?_
        obtain ⟨q5, hb⟩ := hb
        refine g_alen (v := Int32.ofNat (zL σ a2)) C dX11_hasSoMany_22 q5 rfl ?_
        refine g_iload_n C dX11_hasSoMany_23 2 rfl ?_
        refine g_isub C dX11_hasSoMany_24 ?_
        refine g_icmp_gt (tgt := 32) C dX11_hasSoMany_25 (by decide) (fun c => ?_) (fun c => ?_)
        ·
          replace hb := hb.1 (c)
          refine g_iconst (v := 0) C dX11_hasSoMany_32 (by decide) ?_
          exact g_zreturn C (by decide) hΓ (Nat.zero_le _) (Nat.zero_le _) dX11_hasSoMany_33 ⟨_, rfl, hb⟩
        ·
          replace hb := hb.2 (c)
          refine g_iconst (v := 1) C dX11_hasSoMany_28 (by decide) ?_
          refine g_goto (tgt := 33) C dX11_hasSoMany_29 (by decide) ?_
          exact g_zreturn C (by decide) hΓ (Nat.zero_le _) (Nat.zero_le _) dX11_hasSoMany_33 ⟨_, rfl, hb⟩
theorem okX11_hasSoMany {v0 : Nat} {v1 : Int32} {v2 : Int32} {σ : St} {Q : Int32 → St → Prop} (hb : wX11_hasSoMany v0 v1 v2 σ Q) : hM yX11_hasSoMany cX11_hasSoMany 3 ((Option.some FieldType.boolean)) 0 0 0 0 [.ref v0, .int v1, .int v2] σ (oI Q) :=
  hM_of (by decide) (Nat.le_of_ble_eq_true rfl) (fun Γ hΓ C => kwX11_hasSoMany_0 C hΓ _ _ _ _ hb)
def wX11_copy_96 (mc ms : Nat) (Q : Int32 → St → Prop) (k n : Nat) (v0 : Nat) (σ : St) : Prop :=
  k ≤ mc ∧ n ≤ ms ∧ zK σ v0 = 12 ∧ wX11_refused v0 2 σ (fun y5 σ4 => k ≤ mc ∧ n ≤ ms ∧ Q y5 σ4)
def wX11_copy_66 (mc ms : Nat) (Q : Int32 → St → Prop) (k n : Nat) (v0 : Nat) (σ : St) : Prop :=
  k ≤ mc ∧ n ≤ ms ∧ zK σ v0 = 12 ∧ wX11_refused v0 7 σ (fun y5 σ4 => k ≤ mc ∧ n ≤ ms ∧ Q y5 σ4)
def wX11_copy_16 (mc ms : Nat) (Q : Int32 → St → Prop) (k n : Nat) (v0 : Nat) (σ : St) : Prop :=
  k ≤ mc ∧ n ≤ ms ∧ zK σ v0 = 12 ∧ wX11_refused v0 1 σ (fun y5 σ4 => k ≤ mc ∧ n ≤ ms ∧ Q y5 σ4)
def wX11_copy_0 (mc ms : Nat) (Q : Int32 → St → Prop) (k n : Nat) (v0 : Nat) (v1 : Int32) (v2 : Int32) (v3 : Int32) (v4 : Int32) (v5 : Int32) (σ : St) : Prop :=
  k ≤ mc ∧ n ≤ ms ∧ zK σ v0 = 12 ∧ wX11_isShelfPlace v0 v1 σ (fun y5 σ4 => ((y5 = 0 → wX11_copy_16 mc ms Q k n v0 σ4) ∧ (¬ y5 = 0 → k ≤ mc ∧ n ≤ ms ∧ zK σ4 v0 = 12 ∧ wX11_isShelfPlace v0 v3 σ4 (fun y10 σ9 => ((¬ y10 = 0 → zK σ9 v0 = 12 ∧ ∃ a12 : Nat, zFr σ9 712 v0 = some a12 ∧ zK σ9 a12 = 28 ∧ vp_in v1 (zL σ9 a12) ∧ ∀ o16 : Option Nat, zAr σ9 a12 (ix v1) = o16 → vp_in v3 (zL σ9 a12) ∧ ∀ o19 : Option Nat, zAr σ9 a12 (ix v3) = o19 → ((o16 = none → wX11_copy_66 mc ms Q k n v0 σ9) ∧ (∀ a21 : Nat, o16 = some a21 → ((o19 = none → wX11_copy_66 mc ms Q k n v0 σ9) ∧ (∀ a22 : Nat, o19 = some a22 → zK σ9 a21 = 11 ∧ ((¬ (zFi σ9 640 a21) = (3 : Int32) → wX11_copy_66 mc ms Q k n v0 σ9) ∧ ((zFi σ9 640 a21) = (3 : Int32) → zK σ9 a22 = 11 ∧ (((zFi σ9 640 a22) = (3 : Int32) → k ≤ mc ∧ n ≤ ms ∧ wX11_hasSoMany a21 v2 v5 σ9 (fun y28 σ27 => ((y28 = 0 → wX11_copy_96 mc ms Q k n v0 σ27) ∧ (¬ y28 = 0 → k ≤ mc ∧ n ≤ ms ∧ wX11_hasSoMany a22 v4 v5 σ27 (fun y32 σ31 => ((¬ y32 = 0 → zK σ31 a22 = 11 ∧ ∃ a34 : Nat, zFr σ31 641 a22 = some a34 ∧ zK σ31 a34 = 21 ∧ k + 1 ≤ mc ∧ n + zL σ31 a34 ≤ ms ∧ ∀ b39 : Nat, zK σ31 b39 = 0 → zK (nC σ31 b39 a34) a21 = 11 ∧ ∃ a42 : Nat, zFr (nC σ31 b39 a34) 641 a21 = some a42 ∧ zK (nC σ31 b39 a34) a42 = 21 ∧ ¬ v2 < 0 ∧ ¬ v4 < 0 ∧ ¬ v5 < 0 ∧ ix v2 + ix v5 ≤ zL (nC σ31 b39 a34) a42 ∧ ix v4 + ix v5 ≤ zL (nC σ31 b39 a34) b39 ∧ k + 1 + 1 ≤ mc ∧ n + zL σ31 a34 + 2 ≤ ms ∧ ∀ b52 : Nat, zK (nC σ31 b39 a34) b52 = 0 → k + 1 + 1 ≤ mc ∧ n + zL σ31 a34 + 2 ≤ ms ∧ wX10_init b52 3 b39 (nO (uCj (nC σ31 b39 a34) a42 (ix v2) b39 (ix v4) (ix v5)) b52 11) (fun σ56 => ∃ m57 m58 : Nat, k + 1 + 1 + m57 ≤ mc ∧ n + zL σ31 a34 + 2 + m58 ≤ ms ∧ zK σ56 v0 = 12 ∧ wX11_laid m57 m58 v0 v3 (some b52) σ56 (fun y63 σ62 => k + 1 + 1 + m57 ≤ mc ∧ n + zL σ31 a34 + 2 + m58 ≤ ms ∧ Q y63 σ62))) ∧ (y32 = 0 → wX11_copy_96 mc ms Q k n v0 σ31))))))) ∧ (¬ (zFi σ9 640 a22) = (3 : Int32) → wX11_copy_66 mc ms Q k n v0 σ9))))))))) ∧ (y10 = 0 → wX11_copy_16 mc ms Q k n v0 σ9))))))
def wX11_copy (mc ms : Nat) (v0 : Nat) (v1 : Int32) (v2 : Int32) (v3 : Int32) (v4 : Int32) (v5 : Int32) (σ : St) (Q : Int32 → St → Prop) : Prop := wX11_copy_0 mc ms Q 0 0 v0 v1 v2 v3 v4 v5 σ
set_option maxRecDepth 20000 in
theorem kwX11_copy_96 {Γ : hCT} {mc ms : Nat} (C : hC Γ RX11 cX11_copy ((Option.some FieldType.int)) "copy" 4 104) {Q : Int32 → St → Prop} (hΓ : Γ.2.2.2.2.2.2.2.2.2.2.2 = (9, mc, ms, oI Q)) (k n : Nat) (v0 : Nat) (σ : St) (hb : wX11_copy_96 mc ms Q k n v0 σ) : hW Γ k n 96 [(0, .ref v0)] [] σ := by
  unfold wX11_copy_96 at hb
  refine g_aload_n (some v0) C dX11_copy_96 0 rfl ?_
  refine g_iconst (v := 2) C dX11_copy_97 (by decide) ?_
  obtain ⟨q1, q2, hb⟩ := hb
  obtain ⟨q3, hb⟩ := hb
  refine g_invV (ci := 11) [.int 2] [] zy_X11_refused wd_361 wd_363 wd_0 ⟨_, _, rfl⟩ (by decide) C dX11_copy_98 (by first | exact Nat.le_of_ble_eq_true rfl | simp [cat_rf]) (by first | exact Nat.le_of_ble_eq_true rfl | simp [cat_rf]) (by first | exact Nat.le_of_ble_eq_true rfl | simp [cat_rf]) (by rw [hmc_of hΓ]; exact q1) (by rw [hms_of hΓ]; exact q2) rfl rfl q3 (okX11_refused hb) ?_
  rintro o σ4 ⟨y5, rfl, hb⟩
  refine ⟨_, rfl, ?_⟩
  obtain ⟨q6, q7, hb⟩ := hb
  exact g_ireturn C hΓ q6 q7 dX11_copy_101 ⟨_, rfl, hb⟩
set_option maxRecDepth 20000 in
theorem kwX11_copy_66 {Γ : hCT} {mc ms : Nat} (C : hC Γ RX11 cX11_copy ((Option.some FieldType.int)) "copy" 4 104) {Q : Int32 → St → Prop} (hΓ : Γ.2.2.2.2.2.2.2.2.2.2.2 = (9, mc, ms, oI Q)) (k n : Nat) (v0 : Nat) (σ : St) (hb : wX11_copy_66 mc ms Q k n v0 σ) : hW Γ k n 66 [(0, .ref v0)] [] σ := by
  unfold wX11_copy_66 at hb
  refine g_aload_n (some v0) C dX11_copy_66 0 rfl ?_
  refine g_bipush (v := 7) C dX11_copy_67 (by decide) ?_
  obtain ⟨q1, q2, hb⟩ := hb
  obtain ⟨q3, hb⟩ := hb
  refine g_invV (ci := 11) [.int 7] [] zy_X11_refused wd_361 wd_363 wd_0 ⟨_, _, rfl⟩ (by decide) C dX11_copy_69 (by first | exact Nat.le_of_ble_eq_true rfl | simp [cat_rf]) (by first | exact Nat.le_of_ble_eq_true rfl | simp [cat_rf]) (by first | exact Nat.le_of_ble_eq_true rfl | simp [cat_rf]) (by rw [hmc_of hΓ]; exact q1) (by rw [hms_of hΓ]; exact q2) rfl rfl q3 (okX11_refused hb) ?_
  rintro o σ4 ⟨y5, rfl, hb⟩
  refine ⟨_, rfl, ?_⟩
  obtain ⟨q6, q7, hb⟩ := hb
  exact g_ireturn C hΓ q6 q7 dX11_copy_72 ⟨_, rfl, hb⟩
set_option maxRecDepth 20000 in
theorem kwX11_copy_16 {Γ : hCT} {mc ms : Nat} (C : hC Γ RX11 cX11_copy ((Option.some FieldType.int)) "copy" 4 104) {Q : Int32 → St → Prop} (hΓ : Γ.2.2.2.2.2.2.2.2.2.2.2 = (9, mc, ms, oI Q)) (k n : Nat) (v0 : Nat) (σ : St) (hb : wX11_copy_16 mc ms Q k n v0 σ) : hW Γ k n 16 [(0, .ref v0)] [] σ := by
  unfold wX11_copy_16 at hb
  refine g_aload_n (some v0) C dX11_copy_16 0 rfl ?_
  refine g_iconst (v := 1) C dX11_copy_17 (by decide) ?_
  obtain ⟨q1, q2, hb⟩ := hb
  obtain ⟨q3, hb⟩ := hb
  refine g_invV (ci := 11) [.int 1] [] zy_X11_refused wd_361 wd_363 wd_0 ⟨_, _, rfl⟩ (by decide) C dX11_copy_18 (by first | exact Nat.le_of_ble_eq_true rfl | simp [cat_rf]) (by first | exact Nat.le_of_ble_eq_true rfl | simp [cat_rf]) (by first | exact Nat.le_of_ble_eq_true rfl | simp [cat_rf]) (by rw [hmc_of hΓ]; exact q1) (by rw [hms_of hΓ]; exact q2) rfl rfl q3 (okX11_refused hb) ?_
  rintro o σ4 ⟨y5, rfl, hb⟩
  refine ⟨_, rfl, ?_⟩
  obtain ⟨q6, q7, hb⟩ := hb
  exact g_ireturn C hΓ q6 q7 dX11_copy_21 ⟨_, rfl, hb⟩
set_option maxRecDepth 20000 in
theorem kwX11_copy_0 {Γ : hCT} {mc ms : Nat} (C : hC Γ RX11 cX11_copy ((Option.some FieldType.int)) "copy" 4 104) {Q : Int32 → St → Prop} (hΓ : Γ.2.2.2.2.2.2.2.2.2.2.2 = (9, mc, ms, oI Q)) (k n : Nat) (v0 : Nat) (v1 : Int32) (v2 : Int32) (v3 : Int32) (v4 : Int32) (v5 : Int32) (σ : St) (hb : wX11_copy_0 mc ms Q k n v0 v1 v2 v3 v4 v5 σ) : hW Γ k n 0 [(0, .ref v0), (1, .int v1), (2, .int v2), (3, .int v3), (4, .int v4), (5, .int v5)] [] σ := by
  unfold wX11_copy_0 at hb
  refine g_aload_n (some v0) C dX11_copy_0 0 rfl ?_
  refine g_iload_n C dX11_copy_1 1 rfl ?_
  obtain ⟨q1, q2, hb⟩ := hb
  obtain ⟨q3, hb⟩ := hb
  refine g_invV (ci := 11) [.int v1] [] zy_X11_isShelfPlace wd_900 wd_902 wd_32 ⟨_, _, rfl⟩ (by decide) C dX11_copy_2 (by first | exact Nat.le_of_ble_eq_true rfl | simp [cat_rf]) (by first | exact Nat.le_of_ble_eq_true rfl | simp [cat_rf]) (by first | exact Nat.le_of_ble_eq_true rfl | simp [cat_rf]) (by rw [hmc_of hΓ]; exact q1) (by rw [hms_of hΓ]; exact q2) rfl rfl q3 (okX11_isShelfPlace hb) ?_
  rintro o σ4 ⟨y5, rfl, hb⟩
  refine ⟨_, rfl, ?_⟩
  refine g_if_eq (tgt := 16) C dX11_copy_5 (by decide) (fun c => ?_) (fun c => ?_)
  ·
    replace hb := hb.1 (c)
    refine g_sub (lv' := [(0, .ref v0)]) [0] rfl ?_
    exact kwX11_copy_16 C hΓ  _ _ _ _ hb
  ·
    replace hb := hb.2 (c)
    refine g_aload_n (some v0) C dX11_copy_8 0 rfl ?_
    refine g_iload_n C dX11_copy_9 3 rfl ?_
    obtain ⟨q6, q7, hb⟩ := hb
    obtain ⟨q8, hb⟩ := hb
    refine g_invV (ci := 11) [.int v3] [] zy_X11_isShelfPlace wd_900 wd_902 wd_32 ⟨_, _, rfl⟩ (by decide) C dX11_copy_10 (by first | exact Nat.le_of_ble_eq_true rfl | simp [cat_rf]) (by first | exact Nat.le_of_ble_eq_true rfl | simp [cat_rf]) (by first | exact Nat.le_of_ble_eq_true rfl | simp [cat_rf]) (by rw [hmc_of hΓ]; exact q6) (by rw [hms_of hΓ]; exact q7) rfl rfl q8 (okX11_isShelfPlace hb) ?_
    rintro o σ9 ⟨y10, rfl, hb⟩
    refine ⟨_, rfl, ?_⟩
    refine g_if_ne (tgt := 22) C dX11_copy_13 (by decide) (fun c => ?_) (fun c => ?_)
    ·
      replace hb := hb.1 (c)
      refine g_aload_n (some v0) C dX11_copy_22 0 rfl ?_
      obtain ⟨q11, hb⟩ := hb
      obtain ⟨a12, q13, hb⟩ := hb
      refine g_getR (some a12) C fl_RX11_56 dX11_copy_23 q11 rfl rfl q13 ?_
      refine g_iload_n C dX11_copy_26 1 rfl ?_
      obtain ⟨q14, hb⟩ := hb
      obtain ⟨q15, hb⟩ := hb
      obtain ⟨o16, q17⟩ : ∃ o16, zAr σ9 a12 (ix v1) = o16 := ⟨_, rfl⟩
      replace hb := hb o16 q17
      refine g_aald o16 el_28 C dX11_copy_27 q14 q15 q17 ?_
      refine g_astore (lv' := [(6, va_rf o16), (0, .ref v0), (1, .int v1), (2, .int v2), (3, .int v3), (4, .int v4), (5, .int v5)]) o16 C dX11_copy_28 (hnl_of hΓ (by decide)) (by first | rfl | simp [cat_rf]) ?_
      refine g_aload_n (some v0) C dX11_copy_30 1 rfl ?_
      refine g_getR (some a12) C fl_RX11_56 dX11_copy_31 q11 rfl rfl q13 ?_
      refine g_iload_n C dX11_copy_34 4 rfl ?_
      obtain ⟨q18, hb⟩ := hb
      obtain ⟨o19, q20⟩ : ∃ o19, zAr σ9 a12 (ix v3) = o19 := ⟨_, rfl⟩
      replace hb := hb o19 q20
      refine g_aald o19 el_28 C dX11_copy_35 q14 q18 q20 ?_
      refine g_astore (lv' := [(7, va_rf o19), (6, va_rf o16), (0, .ref v0), (1, .int v1), (2, .int v2), (3, .int v3), (4, .int v4), (5, .int v5)]) o19 C dX11_copy_36 (hnl_of hΓ (by decide)) (by first | rfl | simp [cat_rf]) ?_
      refine g_aload o16 C dX11_copy_38 1 rfl ?_
      refine g_ifnull (tgt := 66) o16 C dX11_copy_40 (by decide) (fun c => ?_) (fun c => ?_)
      ·
        replace hb := hb.1 c
        refine g_sub (lv' := [(0, .ref v0)]) [2] rfl ?_
        exact kwX11_copy_66 C hΓ  _ _ _ _ hb
      ·
        obtain ⟨a21, rfl⟩ := rf_some c
        replace hb := hb.2 a21 rfl
        refine g_aload o19 C dX11_copy_43 0 rfl ?_
        refine g_ifnull (tgt := 66) o19 C dX11_copy_45 (by decide) (fun c => ?_) (fun c => ?_)
        ·
          replace hb := hb.1 c
          refine g_sub (lv' := [(0, .ref v0)]) [2] rfl ?_
          exact kwX11_copy_66 C hΓ  _ _ _ _ hb
        ·
          obtain ⟨a22, rfl⟩ := rf_some c
          replace hb := hb.2 a22 rfl
          refine g_aload (some a21) C dX11_copy_48 1 rfl ?_
          obtain ⟨q23, hb⟩ := hb
          refine g_getIx (zFi σ9 640 a21) C fl_RX11_286 dX11_copy_50 q23 rfl rfl rfl ?_
          refine g_iconst (v := 3) C dX11_copy_53 (by decide) ?_
          refine g_icmp_ne (tgt := 66) C dX11_copy_54 (by decide) (fun c => ?_) (fun c => ?_)
          ·
            replace hb := hb.1 (c)
            refine g_sub (lv' := [(0, .ref v0)]) [2] rfl ?_
            exact kwX11_copy_66 C hΓ  _ _ _ _ hb
          ·
            replace hb := hb.2 (c)
            refine g_aload (some a22) C dX11_copy_57 0 rfl ?_
            obtain ⟨q24, hb⟩ := hb
            refine g_getIx (zFi σ9 640 a22) C fl_RX11_286 dX11_copy_59 q24 rfl rfl rfl ?_
            refine g_iconst (v := 3) C dX11_copy_62 (by decide) ?_
            refine g_icmp_eq (tgt := 73) C dX11_copy_63 (by decide) (fun c => ?_) (fun c => ?_)
            ·
              replace hb := hb.1 (c)
              refine g_aload (some a21) C dX11_copy_73 1 rfl ?_
              refine g_iload_n C dX11_copy_75 4 rfl ?_
              refine g_iload C dX11_copy_76 7 rfl ?_
              obtain ⟨q25, q26, hb⟩ := hb
              refine g_invS [.ref a21, .int v2, .int v5] [] zy_X11_hasSoMany wd_958 wd_959 C dX11_copy_78 (by first | exact Nat.le_of_ble_eq_true rfl | simp [cat_rf]) (by first | exact Nat.le_of_ble_eq_true rfl | simp [cat_rf]) (by first | exact Nat.le_of_ble_eq_true rfl | simp [cat_rf]) (by rw [hmc_of hΓ]; exact q25) (by rw [hms_of hΓ]; exact q26) rfl rfl  (okX11_hasSoMany hb) ?_
              rintro o σ27 ⟨y28, rfl, hb⟩
              refine ⟨_, rfl, ?_⟩
              refine g_if_eq (tgt := 96) C dX11_copy_81 (by decide) (fun c => ?_) (fun c => ?_)
              ·
                replace hb := hb.1 (c)
                refine g_sub (lv' := [(0, .ref v0)]) [2] rfl ?_
                exact kwX11_copy_96 C hΓ  _ _ _ _ hb
              ·
                replace hb := hb.2 (c)
                refine g_aload (some a22) C dX11_copy_84 0 rfl ?_
                refine g_iload C dX11_copy_86 6 rfl ?_
                refine g_iload C dX11_copy_88 7 rfl ?_
                obtain ⟨q29, q30, hb⟩ := hb
                refine g_invS [.ref a22, .int v4, .int v5] [] zy_X11_hasSoMany wd_958 wd_959 C dX11_copy_90 (by first | exact Nat.le_of_ble_eq_true rfl | simp [cat_rf]) (by first | exact Nat.le_of_ble_eq_true rfl | simp [cat_rf]) (by first | exact Nat.le_of_ble_eq_true rfl | simp [cat_rf]) (by rw [hmc_of hΓ]; exact q29) (by rw [hms_of hΓ]; exact q30) rfl rfl  (okX11_hasSoMany hb) ?_
                rintro o σ31 ⟨y32, rfl, hb⟩
                refine ⟨_, rfl, ?_⟩
                refine g_if_ne (tgt := 102) C dX11_copy_93 (by decide) (fun c => ?_) (fun c => ?_)
                ·
                  replace hb := hb.1 (c)
                  refine g_aload (some a22) C dX11_copy_102 0 rfl ?_
                  obtain ⟨q33, hb⟩ := hb
                  obtain ⟨a34, q35, hb⟩ := hb
                  refine g_getR (some a34) C fl_RX11_287 dX11_copy_104 q33 rfl rfl q35 ?_
                  obtain ⟨q36, hb⟩ := hb
                  obtain ⟨q37, q38, hb⟩ := hb
                  refine g_clone wd_961 wd_930 wd_931 wd_932 wd_933 wn_934 C (by first | exact Nat.le_of_ble_eq_true rfl | simp [cat_rf]) (by first | exact Nat.le_of_ble_eq_true rfl | simp [cat_rf]) dX11_copy_107 q36 (by rw [hmc_of hΓ]; exact q37) (by rw [hms_of hΓ]; exact q38) (fun b39 q40 => ?_)
                  replace hb := hb b39 q40
                  refine g_castJ wd_962 C dX11_copy_110 (nC_K (σ := σ31) (a := a34)) ?_
                  refine g_astore (lv' := [(8, .ref b39), (7, .ref a22), (6, .ref a21), (0, .ref v0), (1, .int v1), (2, .int v2), (3, .int v3), (4, .int v4), (5, .int v5)]) (some b39) C dX11_copy_113 (hnl_of hΓ (by decide)) (by first | rfl | simp [cat_rf]) ?_
                  refine g_aload (some a21) C dX11_copy_115 2 rfl ?_
                  obtain ⟨q41, hb⟩ := hb
                  obtain ⟨a42, q43, hb⟩ := hb
                  refine g_getR (some a42) C fl_RX11_287 dX11_copy_117 q41 rfl rfl q43 ?_
                  refine g_iload_n C dX11_copy_120 5 rfl ?_
                  refine g_aload (some b39) C dX11_copy_121 0 rfl ?_
                  refine g_iload C dX11_copy_123 7 rfl ?_
                  refine g_iload C dX11_copy_125 8 rfl ?_
                  obtain ⟨q44, hb⟩ := hb
                  obtain ⟨q45, hb⟩ := hb
                  obtain ⟨q46, hb⟩ := hb
                  obtain ⟨q47, hb⟩ := hb
                  obtain ⟨q48, hb⟩ := hb
                  obtain ⟨q49, hb⟩ := hb
                  refine g_copyJ wd_963 wd_423 wd_422 wd_88 C (by first | exact Nat.le_of_ble_eq_true rfl | simp [cat_rf]) (by first | exact Nat.le_of_ble_eq_true rfl | simp [cat_rf]) dX11_copy_127 q44 (nC_K (σ := σ31) (a := a34)) q45 q46 q47 q48 q49 ?_
                  refine g_aload_n (some v0) C dX11_copy_130 3 rfl ?_
                  refine g_iload_n C dX11_copy_131 6 rfl ?_
                  obtain ⟨q50, q51, hb⟩ := hb
                  refine g_new zc_10 zd_10 ⟨_, rfl⟩ wd_302 wd_908 wd_93 C dX11_copy_132 (by rw [hmc_of hΓ]; exact q50) (by rw [hms_of hΓ]; exact q51) (fun b52 q53 => ?_)
                  replace hb := hb b52 (by rw [zK_uCj] at q53; exact q53)
                  refine g_dup C dX11_copy_135 rfl ?_
                  refine g_iconst (v := 3) C dX11_copy_136 (by decide) ?_
                  refine g_aload (some b39) C dX11_copy_137 0 rfl ?_
                  obtain ⟨q54, q55, hb⟩ := hb
                  refine g_invI [.int 3, .ref b39] [.ref b52, .int v3, .ref v0] zy_X10_init wd_909 wd_910 rfl C dX11_copy_139 (by first | exact Nat.le_of_ble_eq_true rfl | simp [cat_rf]) (by first | exact Nat.le_of_ble_eq_true rfl | simp [cat_rf]) (by first | exact Nat.le_of_ble_eq_true rfl | simp [cat_rf]) (by rw [hmc_of hΓ]; exact q54) (by rw [hms_of hΓ]; exact q55) rfl rfl  (okX10_init hb) ?_
                  rintro o σ56 ⟨rfl, hb⟩
                  refine ⟨_, rfl, ?_⟩
                  obtain ⟨m57, m58, q59, q60, hb⟩ := hb
                  obtain ⟨q61, hb⟩ := hb
                  refine g_invV (ci := 11) [.int v3, va_rf (some b52)] [] zy_X11_laid wd_938 wd_940 wd_34 ⟨_, _, rfl⟩ (by decide) C dX11_copy_142 (by first | exact Nat.le_of_ble_eq_true rfl | simp [cat_rf]) (by first | exact Nat.le_of_ble_eq_true rfl | simp [cat_rf]) (by first | exact Nat.le_of_ble_eq_true rfl | simp [cat_rf]) (by rw [hmc_of hΓ]; exact q59) (by rw [hms_of hΓ]; exact q60) rfl rfl q61 (okX11_laid hb) ?_
                  rintro o σ62 ⟨y63, rfl, hb⟩
                  refine ⟨_, rfl, ?_⟩
                  obtain ⟨q64, q65, hb⟩ := hb
                  exact g_ireturn C hΓ q64 q65 dX11_copy_145 ⟨_, rfl, hb⟩
                ·
                  replace hb := hb.2 (c)
                  refine g_sub (lv' := [(0, .ref v0)]) [2] rfl ?_
                  exact kwX11_copy_96 C hΓ  _ _ _ _ hb
            ·
              replace hb := hb.2 (c)
              refine g_sub (lv' := [(0, .ref v0)]) [2] rfl ?_
              exact kwX11_copy_66 C hΓ  _ _ _ _ hb
    ·
      replace hb := hb.2 (c)
      refine g_sub (lv' := [(0, .ref v0)]) [0] rfl ?_
      exact kwX11_copy_16 C hΓ  _ _ _ _ hb
theorem okX11_copy {mc ms : Nat} {v0 : Nat} {v1 : Int32} {v2 : Int32} {v3 : Int32} {v4 : Int32} {v5 : Int32} {σ : St} {Q : Int32 → St → Prop} (hb : wX11_copy mc ms v0 v1 v2 v3 v4 v5 σ Q) : hM yX11_copy cX11_copy 9 ((Option.some FieldType.int)) 4 104 mc ms [.ref v0, .int v1, .int v2, .int v3, .int v4, .int v5] σ (oI Q) :=
  hM_of (by decide) (Nat.le_of_ble_eq_true rfl) (fun Γ hΓ C => kwX11_copy_0 (mc := mc) (ms := ms) C hΓ 0 0 _ _ _ _ _ _ _ hb)
def wX1_takeLatest_38 (Q : Option Nat → St → Prop) (v0 : Nat) (s1 : Int32) (s0 : Nat) (σ : St) : Prop :=
  zK σ s0 = 2 ∧ zK σ v0 = 2 ∧ ∃ a3 : Nat, zFr σ 64 v0 = some a3 ∧ zK σ a3 = 24 ∧ vp_in (zFi (uFi σ 65 s0 s1) 65 v0) (zL σ a3) ∧ ∀ o7 : Option Nat, zAr σ a3 (ix (zFi (uFi σ 65 s0 s1) 65 v0)) = o7 → Q o7 (uFi σ 65 s0 s1)
def wX1_takeLatest_0 (Q : Option Nat → St → Prop) (v0 : Nat) (σ : St) : Prop :=
  zK σ v0 = 2 ∧ ((0 < (zFi σ 66 v0) → (((zFi (uFi σ 66 v0 ((zFi σ 66 v0) - 1)) 65 v0) ≤ 0 → wX1_takeLatest_38 Q v0 99 v0 (uFi σ 66 v0 ((zFi σ 66 v0) - 1))) ∧ (¬ (zFi (uFi σ 66 v0 ((zFi σ 66 v0) - 1)) 65 v0) ≤ 0 → wX1_takeLatest_38 Q v0 ((zFi (uFi σ 66 v0 ((zFi σ 66 v0) - 1)) 65 v0) - 1) v0 (uFi σ 66 v0 ((zFi σ 66 v0) - 1))))) ∧ (¬ 0 < (zFi σ 66 v0) → Q none σ))
def wX1_takeLatest (v0 : Nat) (σ : St) (Q : Option Nat → St → Prop) : Prop := wX1_takeLatest_0 Q v0 σ
set_option maxRecDepth 20000 in
theorem kwX1_takeLatest_38 {Γ : hCT} (C : hC Γ RX1 cX1_takeLatest ((Option.some (FieldType.object RX0))) "takeLatest" 0 0) {Q : Option Nat → St → Prop} (hΓ : Γ.2.2.2.2.2.2.2.2.2.2.2 = (1, 0, 0, oO Q)) (v0 : Nat) (s1 : Int32) (s0 : Nat) (σ : St) (hb : wX1_takeLatest_38 Q v0 s1 s0 σ) : hW Γ 0 0 38 [(0, .ref v0)] [.int s1, .ref s0] σ := by
  unfold wX1_takeLatest_38 at hb
  obtain ⟨q1, hb⟩ := hb
  refine g_putI C fl_RX1_17 dX1_takeLatest_38 q1 rfl rfl rfl rfl ?_
  refine g_aload_n (some v0) C dX1_takeLatest_41 0 rfl ?_
  obtain ⟨q2, hb⟩ := hb
  obtain ⟨a3, q4, hb⟩ := hb
  refine g_getR (some a3) C fl_RX1_11 dX1_takeLatest_42 (by rw [zK_uFi]; exact q2) rfl rfl (by rw [zFr_uFi]; exact q4) ?_
  refine g_aload_n (some v0) C dX1_takeLatest_45 0 rfl ?_
  refine g_getIx (zFi (uFi σ 65 s0 s1) 65 v0) C fl_RX1_17 dX1_takeLatest_46 (by rw [zK_uFi]; exact q2) rfl rfl rfl ?_
  obtain ⟨q5, hb⟩ := hb
  obtain ⟨q6, hb⟩ := hb
  obtain ⟨o7, q8⟩ : ∃ o7, zAr σ a3 (ix (zFi (uFi σ 65 s0 s1) 65 v0)) = o7 := ⟨_, rfl⟩
  replace hb := hb o7 q8
  refine g_aald o7 el_24 C dX1_takeLatest_49 (by rw [zK_uFi]; exact q5) (by rw [zL_uFi]; exact q6) (by rw [zAr_uFi]; exact q8) ?_
  exact g_areturn o7 (Or.inl ⟨_, rfl⟩) C hΓ (Nat.zero_le _) (Nat.zero_le _) dX1_takeLatest_50 ⟨_, rfl, hb⟩
set_option maxRecDepth 20000 in
theorem kwX1_takeLatest_0 {Γ : hCT} (C : hC Γ RX1 cX1_takeLatest ((Option.some (FieldType.object RX0))) "takeLatest" 0 0) {Q : Option Nat → St → Prop} (hΓ : Γ.2.2.2.2.2.2.2.2.2.2.2 = (1, 0, 0, oO Q)) (v0 : Nat) (σ : St) (hb : wX1_takeLatest_0 Q v0 σ) : hW Γ 0 0 0 [(0, .ref v0)] [] σ := by
  unfold wX1_takeLatest_0 at hb
  refine g_aload_n (some v0) C dX1_takeLatest_0 0 rfl ?_
  obtain ⟨q1, hb⟩ := hb
  refine g_getIx (zFi σ 66 v0) C fl_RX1_21 dX1_takeLatest_1 q1 rfl rfl rfl ?_
  refine g_if_gt (tgt := 9) C dX1_takeLatest_4 (by decide) (fun c => ?_) (fun c => ?_)
  ·
    replace hb := hb.1 (c)
    refine g_aload_n (some v0) C dX1_takeLatest_9 0 rfl ?_
    refine g_dup C dX1_takeLatest_10 rfl ?_
    refine g_getIx (zFi σ 66 v0) C fl_RX1_21 dX1_takeLatest_11 q1 rfl rfl rfl ?_
    refine g_iconst (v := 1) C dX1_takeLatest_14 (by decide) ?_
    refine g_isub C dX1_takeLatest_15 ?_
    refine g_putI C fl_RX1_21 dX1_takeLatest_16 q1 rfl rfl rfl rfl ?_
    refine g_aload_n (some v0) C dX1_takeLatest_19 0 rfl ?_
    refine g_aload_n (some v0) C dX1_takeLatest_20 0 rfl ?_
    refine g_getIx (zFi (uFi σ 66 v0 ((zFi σ 66 v0) - 1)) 65 v0) C fl_RX1_17 dX1_takeLatest_21 (by rw [zK_uFi]; exact q1) rfl rfl rfl ?_
    refine g_if_le (tgt := 36) C dX1_takeLatest_24 (by decide) (fun c => ?_) (fun c => ?_)
    ·
      replace hb := hb.1 (c)
      refine g_bipush (v := 99) C dX1_takeLatest_36 (by decide) ?_
      refine g_sub (lv' := [(0, .ref v0)]) [0] rfl ?_
      exact kwX1_takeLatest_38 C hΓ  _ _ _ _ hb
    ·
      replace hb := hb.2 (c)
      refine g_aload_n (some v0) C dX1_takeLatest_27 0 rfl ?_
      refine g_getIx (zFi (uFi σ 66 v0 ((zFi σ 66 v0) - 1)) 65 v0) C fl_RX1_17 dX1_takeLatest_28 (by rw [zK_uFi]; exact q1) rfl rfl rfl ?_
      refine g_iconst (v := 1) C dX1_takeLatest_31 (by decide) ?_
      refine g_isub C dX1_takeLatest_32 ?_
      refine g_goto (tgt := 38) C dX1_takeLatest_33 (by decide) ?_
      refine g_sub (lv' := [(0, .ref v0)]) [0] rfl ?_
      exact kwX1_takeLatest_38 C hΓ  _ _ _ _ hb
  ·
    replace hb := hb.2 (c)
    refine g_null C dX1_takeLatest_7 ?_
    exact g_areturn none (Or.inl ⟨_, rfl⟩) C hΓ (Nat.zero_le _) (Nat.zero_le _) dX1_takeLatest_8 ⟨_, rfl, hb⟩
theorem okX1_takeLatest {v0 : Nat} {σ : St} {Q : Option Nat → St → Prop} (hb : wX1_takeLatest v0 σ Q) : hM yX1_takeLatest cX1_takeLatest 1 ((Option.some (FieldType.object RX0))) 0 0 0 0 [.ref v0] σ (oO Q) :=
  hM_of (by decide) (Nat.le_of_ble_eq_true rfl) (fun Γ hΓ C => kwX1_takeLatest_0 C hΓ _ _ hb)
def wX11_takeBack_110 (Q : St → Prop) (s2 : Int32) (s1 : Int32) (s0 : Nat) (σ : St) : Prop :=
  zK σ s0 = 7 ∧ wX6_markDropped s0 s1 s2 σ (fun σ2 => Q σ2)
def wX11_takeBack_0 (Q : St → Prop) (v0 : Nat) (v1 : Nat) (σ : St) : Prop :=
  zK σ v1 = 1 ∧ (((zFi σ 0 v1) = 0 → zK σ v0 = 12 ∧ ∃ a3 : Nat, zFr σ 704 v0 = some a3 ∧ zK σ a3 = 7 ∧ ∃ a6 : Nat, zFr σ 708 v0 = some a6 ∧ zK σ a6 = 4 ∧ wX3_clear a6 0 (uFi σ 385 a3 ((zFi σ 385 a3) - 1)) (fun σ9 => Q σ9)) ∧ ((zFi σ 0 v1) = 1 → zK σ v0 = 12 ∧ ∃ a12 : Nat, zFr σ 704 v0 = some a12 ∧ zK σ a12 = 7 ∧ ∃ a15 : Nat, zFr σ 708 v0 = some a15 ∧ zK σ a15 = 4 ∧ wX3_clear a15 0 (uFi σ 390 a12 ((zFi σ 390 a12) - 1)) (fun σ18 => Q σ18)) ∧ ((zFi σ 0 v1) = 2 → zK σ v0 = 12 ∧ ∃ a21 : Nat, zFr σ 704 v0 = some a21 ∧ (((zFj σ 3 v1) = 0 → wX11_takeBack_110 Q 0 (zFi σ 1 v1) a21 σ) ∧ (¬ (zFj σ 3 v1) = 0 → wX11_takeBack_110 Q 1 (zFi σ 1 v1) a21 σ))) ∧ ((zFi σ 0 v1) = 3 → zK σ v0 = 12 ∧ ∃ a25 : Nat, zFr σ 704 v0 = some a25 ∧ zK σ a25 = 7 ∧ wX6_weigh a25 (zFi σ 1 v1) (zFi σ 2 v1) (zFj σ 3 v1) σ (fun σ28 => Q σ28)) ∧ ((zFi σ 0 v1) = 4 → zK σ v0 = 12 ∧ Q (uFi σ 706 v0 ((zFi σ 706 v0) - 1))) ∧ (¬ (zFi σ 0 v1) = 0 → ¬ (zFi σ 0 v1) = 1 → ¬ (zFi σ 0 v1) = 2 → ¬ (zFi σ 0 v1) = 3 → ¬ (zFi σ 0 v1) = 4 → zK σ v0 = 12 ∧ ∃ a33 : Nat, zFr σ 712 v0 = some a33 ∧ ∀ o35 : Option Nat, zFr σ 4 v1 = o35 → zK σ a33 = 28 ∧ vp_in (zFi σ 1 v1) (zL σ a33) ∧ (∀ z40, o35 = some z40 → zK σ z40 = 11) ∧ Q (uAr σ a33 (ix (zFi σ 1 v1)) o35)))
def wX11_takeBack (v0 : Nat) (v1 : Nat) (σ : St) (Q : St → Prop) : Prop := wX11_takeBack_0 Q v0 v1 σ
set_option maxRecDepth 20000 in
theorem kwX11_takeBack_110 {Γ : hCT} (C : hC Γ RX11 cX11_takeBack ((Option.none : Option Jvm.ClassFile.FieldType)) "takeBack" 1 24) {Q : St → Prop} (hΓ : Γ.2.2.2.2.2.2.2.2.2.2.2 = (2, 0, 0, oV Q)) (s2 : Int32) (s1 : Int32) (s0 : Nat) (σ : St) (hb : wX11_takeBack_110 Q s2 s1 s0 σ) : hW Γ 0 0 110 [] [.int s2, .int s1, .ref s0] σ := by
  unfold wX11_takeBack_110 at hb
  obtain ⟨q1, hb⟩ := hb
  refine g_invV (ci := 6) [.int s1, .int s2] [] zy_X6_markDropped wd_444 wd_425 wd_426 ⟨_, _, rfl⟩ (by decide) C dX11_takeBack_110 (by first | exact Nat.le_of_ble_eq_true rfl | simp [cat_rf]) (by first | exact Nat.le_of_ble_eq_true rfl | simp [cat_rf]) (by first | exact Nat.le_of_ble_eq_true rfl | simp [cat_rf]) (Nat.zero_le _) (Nat.zero_le _) rfl rfl q1 (okX6_markDropped hb) ?_
  rintro o σ2 ⟨rfl, hb⟩
  refine ⟨_, rfl, ?_⟩
  refine g_goto (tgt := 164) C dX11_takeBack_113 (by decide) ?_
  exact g_vreturn C hΓ (Nat.zero_le _) (Nat.zero_le _) dX11_takeBack_164 ⟨rfl, hb⟩
set_option maxRecDepth 20000 in
theorem kwX11_takeBack_0 {Γ : hCT} (C : hC Γ RX11 cX11_takeBack ((Option.none : Option Jvm.ClassFile.FieldType)) "takeBack" 1 24) {Q : St → Prop} (hΓ : Γ.2.2.2.2.2.2.2.2.2.2.2 = (2, 0, 0, oV Q)) (v0 : Nat) (v1 : Nat) (σ : St) (hb : wX11_takeBack_0 Q v0 v1 σ) : hW Γ 0 0 0 [(0, .ref v0), (1, .ref v1)] [] σ := by
  unfold wX11_takeBack_0 at hb
  refine g_aload_n (some v1) C dX11_takeBack_0 1 rfl ?_
  obtain ⟨q1, hb⟩ := hb
  refine g_getIx (zFi σ 0 v1) C fl_RX11_340 dX11_takeBack_1 q1 rfl rfl rfl ?_
  by_cases c10 : (zFi σ 0 v1) = 0
  ·
    replace hb := hb.1 c10
    refine g_tabIn (tgt := 40) (off := 36) C dX11_takeBack_4 (by rw [c10]; decide) (by rw [c10]; decide) (by rw [c10]; rfl) (by decide) ?_
    refine g_aload_n (some v0) C dX11_takeBack_40 0 rfl ?_
    obtain ⟨q2, hb⟩ := hb
    obtain ⟨a3, q4, hb⟩ := hb
    refine g_getR (some a3) C fl_RX11_12 dX11_takeBack_41 q2 rfl rfl q4 ?_
    refine g_dup C dX11_takeBack_44 rfl ?_
    obtain ⟨q5, hb⟩ := hb
    refine g_getIx (zFi σ 385 a3) C fl_RX11_71 dX11_takeBack_45 q5 rfl rfl rfl ?_
    refine g_iconst (v := 1) C dX11_takeBack_48 (by decide) ?_
    refine g_isub C dX11_takeBack_49 ?_
    refine g_putI C fl_RX11_71 dX11_takeBack_50 q5 rfl rfl rfl rfl ?_
    refine g_aload_n (some v0) C dX11_takeBack_53 0 rfl ?_
    obtain ⟨a6, q7, hb⟩ := hb
    refine g_getR (some a6) C fl_RX11_36 dX11_takeBack_54 (by rw [zK_uFi]; exact q2) rfl rfl (by rw [zFr_uFi]; exact q7) ?_
    refine g_iconst (v := 0) C dX11_takeBack_57 (by decide) ?_
    obtain ⟨q8, hb⟩ := hb
    refine g_invV (ci := 3) [.int 0] [] zy_X3_clear wd_976 wd_592 wd_593 ⟨_, _, rfl⟩ (by decide) C dX11_takeBack_58 (by first | exact Nat.le_of_ble_eq_true rfl | simp [cat_rf]) (by first | exact Nat.le_of_ble_eq_true rfl | simp [cat_rf]) (by first | exact Nat.le_of_ble_eq_true rfl | simp [cat_rf]) (Nat.zero_le _) (Nat.zero_le _) rfl rfl (by rw [zK_uFi]; exact q8) (okX3_clear hb) ?_
    rintro o σ9 ⟨rfl, hb⟩
    refine ⟨_, rfl, ?_⟩
    refine g_goto (tgt := 164) C dX11_takeBack_61 (by decide) ?_
    exact g_vreturn C hΓ (Nat.zero_le _) (Nat.zero_le _) dX11_takeBack_164 ⟨rfl, hb⟩
  ·
    by_cases c19 : (zFi σ 0 v1) = 1
    ·
      replace hb := hb.2.1 c19
      refine g_tabIn (tgt := 64) (off := 60) C dX11_takeBack_4 (by rw [c19]; decide) (by rw [c19]; decide) (by rw [c19]; rfl) (by decide) ?_
      refine g_aload_n (some v0) C dX11_takeBack_64 0 rfl ?_
      obtain ⟨q11, hb⟩ := hb
      obtain ⟨a12, q13, hb⟩ := hb
      refine g_getR (some a12) C fl_RX11_12 dX11_takeBack_65 q11 rfl rfl q13 ?_
      refine g_dup C dX11_takeBack_68 rfl ?_
      obtain ⟨q14, hb⟩ := hb
      refine g_getIx (zFi σ 390 a12) C fl_RX11_91 dX11_takeBack_69 q14 rfl rfl rfl ?_
      refine g_iconst (v := 1) C dX11_takeBack_72 (by decide) ?_
      refine g_isub C dX11_takeBack_73 ?_
      refine g_putI C fl_RX11_91 dX11_takeBack_74 q14 rfl rfl rfl rfl ?_
      refine g_aload_n (some v0) C dX11_takeBack_77 0 rfl ?_
      obtain ⟨a15, q16, hb⟩ := hb
      refine g_getR (some a15) C fl_RX11_36 dX11_takeBack_78 (by rw [zK_uFi]; exact q11) rfl rfl (by rw [zFr_uFi]; exact q16) ?_
      refine g_iconst (v := 0) C dX11_takeBack_81 (by decide) ?_
      obtain ⟨q17, hb⟩ := hb
      refine g_invV (ci := 3) [.int 0] [] zy_X3_clear wd_976 wd_592 wd_593 ⟨_, _, rfl⟩ (by decide) C dX11_takeBack_82 (by first | exact Nat.le_of_ble_eq_true rfl | simp [cat_rf]) (by first | exact Nat.le_of_ble_eq_true rfl | simp [cat_rf]) (by first | exact Nat.le_of_ble_eq_true rfl | simp [cat_rf]) (Nat.zero_le _) (Nat.zero_le _) rfl rfl (by rw [zK_uFi]; exact q17) (okX3_clear hb) ?_
      rintro o σ18 ⟨rfl, hb⟩
      refine ⟨_, rfl, ?_⟩
      refine g_goto (tgt := 164) C dX11_takeBack_85 (by decide) ?_
      exact g_vreturn C hΓ (Nat.zero_le _) (Nat.zero_le _) dX11_takeBack_164 ⟨rfl, hb⟩
    ·
      by_cases c23 : (zFi σ 0 v1) = 2
      ·
        replace hb := hb.2.2.1 c23
        refine g_tabIn (tgt := 88) (off := 84) C dX11_takeBack_4 (by rw [c23]; decide) (by rw [c23]; decide) (by rw [c23]; rfl) (by decide) ?_
        refine g_aload_n (some v0) C dX11_takeBack_88 0 rfl ?_
        obtain ⟨q20, hb⟩ := hb
        obtain ⟨a21, q22, hb⟩ := hb
        refine g_getR (some a21) C fl_RX11_12 dX11_takeBack_89 q20 rfl rfl q22 ?_
        refine g_aload_n (some v1) C dX11_takeBack_92 1 rfl ?_
        refine g_getIx (zFi σ 1 v1) C fl_RX11_344 dX11_takeBack_93 q1 rfl rfl rfl ?_
        refine g_aload_n (some v1) C dX11_takeBack_96 1 rfl ?_
        refine g_getJx (zFj σ 3 v1) C fl_RX11_346 dX11_takeBack_97 q1 rfl rfl rfl ?_
        refine g_lconst (v := 0) C dX11_takeBack_100 (by decide) ?_
        refine g_lcmp C dX11_takeBack_101 ?_
        refine g_if_eq (tgt := 109) C dX11_takeBack_102 (by decide) (fun c => ?_) (fun c => ?_)
        ·
          replace hb := hb.1 (lc_eq.mp c)
          refine g_iconst (v := 0) C dX11_takeBack_109 (by decide) ?_
          refine g_sub (lv' := []) [] rfl ?_
          exact kwX11_takeBack_110 C hΓ  _ _ _ _ hb
        ·
          replace hb := hb.2 (lcn_eq.mp c)
          refine g_iconst (v := 1) C dX11_takeBack_105 (by decide) ?_
          refine g_goto (tgt := 110) C dX11_takeBack_106 (by decide) ?_
          refine g_sub (lv' := []) [] rfl ?_
          exact kwX11_takeBack_110 C hΓ  _ _ _ _ hb
      ·
        by_cases c29 : (zFi σ 0 v1) = 3
        ·
          replace hb := hb.2.2.2.1 c29
          refine g_tabIn (tgt := 116) (off := 112) C dX11_takeBack_4 (by rw [c29]; decide) (by rw [c29]; decide) (by rw [c29]; rfl) (by decide) ?_
          refine g_aload_n (some v0) C dX11_takeBack_116 0 rfl ?_
          obtain ⟨q24, hb⟩ := hb
          obtain ⟨a25, q26, hb⟩ := hb
          refine g_getR (some a25) C fl_RX11_12 dX11_takeBack_117 q24 rfl rfl q26 ?_
          refine g_aload_n (some v1) C dX11_takeBack_120 1 rfl ?_
          refine g_getIx (zFi σ 1 v1) C fl_RX11_344 dX11_takeBack_121 q1 rfl rfl rfl ?_
          refine g_aload_n (some v1) C dX11_takeBack_124 1 rfl ?_
          refine g_getIx (zFi σ 2 v1) C fl_RX11_349 dX11_takeBack_125 q1 rfl rfl rfl ?_
          refine g_aload_n (some v1) C dX11_takeBack_128 1 rfl ?_
          refine g_getJx (zFj σ 3 v1) C fl_RX11_346 dX11_takeBack_129 q1 rfl rfl rfl ?_
          obtain ⟨q27, hb⟩ := hb
          refine g_invV (ci := 6) [.int (zFi σ 1 v1), .int (zFi σ 2 v1), .long (zFj σ 3 v1)] [] zy_X6_weigh wd_455 wd_456 wd_457 ⟨_, _, rfl⟩ (by decide) C dX11_takeBack_132 (by first | exact Nat.le_of_ble_eq_true rfl | simp [cat_rf]) (by first | exact Nat.le_of_ble_eq_true rfl | simp [cat_rf]) (by first | exact Nat.le_of_ble_eq_true rfl | simp [cat_rf]) (Nat.zero_le _) (Nat.zero_le _) rfl rfl q27 (okX6_weigh hb) ?_
          rintro o σ28 ⟨rfl, hb⟩
          refine ⟨_, rfl, ?_⟩
          refine g_goto (tgt := 164) C dX11_takeBack_135 (by decide) ?_
          exact g_vreturn C hΓ (Nat.zero_le _) (Nat.zero_le _) dX11_takeBack_164 ⟨rfl, hb⟩
        ·
          by_cases c31 : (zFi σ 0 v1) = 4
          ·
            replace hb := hb.2.2.2.2.1 c31
            refine g_tabIn (tgt := 138) (off := 134) C dX11_takeBack_4 (by rw [c31]; decide) (by rw [c31]; decide) (by rw [c31]; rfl) (by decide) ?_
            refine g_aload_n (some v0) C dX11_takeBack_138 0 rfl ?_
            refine g_dup C dX11_takeBack_139 rfl ?_
            obtain ⟨q30, hb⟩ := hb
            refine g_getIx (zFi σ 706 v0) C fl_RX11_315 dX11_takeBack_140 q30 rfl rfl rfl ?_
            refine g_iconst (v := 1) C dX11_takeBack_143 (by decide) ?_
            refine g_isub C dX11_takeBack_144 ?_
            refine g_putI C fl_RX11_315 dX11_takeBack_145 q30 rfl rfl rfl rfl ?_
            refine g_goto (tgt := 164) C dX11_takeBack_148 (by decide) ?_
            exact g_vreturn C hΓ (Nat.zero_le _) (Nat.zero_le _) dX11_takeBack_164 ⟨rfl, hb⟩
          ·
            replace hb := hb.2.2.2.2.2 c10 c19 c23 c29 c31
            have hz : Int32.toInt (zFi σ 0 v1) < 0 ∨ 4 < Int32.toInt (zFi σ 0 v1) := by
              have h_c10 := i32_ne c10
              have h_c19 := i32_ne c19
              have h_c23 := i32_ne c23
              have h_c29 := i32_ne c29
              have h_c31 := i32_ne c31
              rw [show Int32.toInt 0 = 0 from rfl] at h_c10; rw [show Int32.toInt 1 = 1 from rfl] at h_c19; rw [show Int32.toInt 2 = 2 from rfl] at h_c23; rw [show Int32.toInt 3 = 3 from rfl] at h_c29; rw [show Int32.toInt 4 = 4 from rfl] at h_c31
              omega
            refine g_tabOut (tgt := 151) C dX11_takeBack_4 hz (by decide) ?_
            refine g_aload_n (some v0) C dX11_takeBack_151 0 rfl ?_
            obtain ⟨q32, hb⟩ := hb
            obtain ⟨a33, q34, hb⟩ := hb
            refine g_getR (some a33) C fl_RX11_56 dX11_takeBack_152 q32 rfl rfl q34 ?_
            refine g_aload_n (some v1) C dX11_takeBack_155 1 rfl ?_
            refine g_getIx (zFi σ 1 v1) C fl_RX11_344 dX11_takeBack_156 q1 rfl rfl rfl ?_
            refine g_aload_n (some v1) C dX11_takeBack_159 1 rfl ?_
            obtain ⟨o35, q36⟩ : ∃ o35, zFr σ 4 v1 = o35 := ⟨_, rfl⟩
            replace hb := hb o35 q36
            refine g_getR o35 C fl_RX11_352 dX11_takeBack_160 q1 rfl rfl q36 ?_
            obtain ⟨q37, hb⟩ := hb
            obtain ⟨q38, hb⟩ := hb
            obtain ⟨q39, hb⟩ := hb
            refine g_aast o35 el_28 C dX11_takeBack_163 q37 q38 q39 ?_
            exact g_vreturn C hΓ (Nat.zero_le _) (Nat.zero_le _) dX11_takeBack_164 ⟨rfl, hb⟩
theorem okX11_takeBack {v0 : Nat} {v1 : Nat} {σ : St} {Q : St → Prop} (hb : wX11_takeBack v0 v1 σ Q) : hM yX11_takeBack cX11_takeBack 2 ((Option.none : Option Jvm.ClassFile.FieldType)) 1 24 0 0 [.ref v0, .ref v1] σ (oV Q) :=
  hM_of (by decide) (Nat.le_of_ble_eq_true rfl) (fun Γ hΓ C => kwX11_takeBack_0 C hΓ _ _ _ hb)
def wX11_undo_0 (Q : Int32 → St → Prop) (v0 : Nat) (σ : St) : Prop :=
  zK σ v0 = 12 ∧ ∃ a2 : Nat, zFr σ 713 v0 = some a2 ∧ zK σ a2 = 2 ∧ wX1_takeLatest a2 σ (fun y6 σ5 => ((y6 = none → Q 0 σ5) ∧ (∀ a7 : Nat, y6 = some a7 → zK σ5 v0 = 12 ∧ wX11_takeBack v0 a7 σ5 (fun σ9 => Q 1 σ9))))
def wX11_undo (v0 : Nat) (σ : St) (Q : Int32 → St → Prop) : Prop := wX11_undo_0 Q v0 σ
set_option maxRecDepth 20000 in
theorem kwX11_undo_0 {Γ : hCT} (C : hC Γ RX11 cX11_undo ((Option.some FieldType.int)) "undo" 2 45) {Q : Int32 → St → Prop} (hΓ : Γ.2.2.2.2.2.2.2.2.2.2.2 = (2, 0, 0, oI Q)) (v0 : Nat) (σ : St) (hb : wX11_undo_0 Q v0 σ) : hW Γ 0 0 0 [(0, .ref v0)] [] σ := by
  unfold wX11_undo_0 at hb
  refine g_aload_n (some v0) C dX11_undo_0 0 rfl ?_
  obtain ⟨q1, hb⟩ := hb
  obtain ⟨a2, q3, hb⟩ := hb
  refine g_getR (some a2) C fl_RX11_63 dX11_undo_1 q1 rfl rfl q3 ?_
  obtain ⟨q4, hb⟩ := hb
  refine g_invV (ci := 1) [] [] zy_X1_takeLatest wd_968 wd_969 wd_970 ⟨_, _, rfl⟩ (by decide) C dX11_undo_4 (by first | exact Nat.le_of_ble_eq_true rfl | simp [cat_rf]) (by first | exact Nat.le_of_ble_eq_true rfl | simp [cat_rf]) (by first | exact Nat.le_of_ble_eq_true rfl | simp [cat_rf]) (Nat.zero_le _) (Nat.zero_le _) rfl rfl q4 (okX1_takeLatest hb) ?_
  rintro o σ5 ⟨y6, rfl, hb⟩
  refine ⟨_, rfl, ?_⟩
  refine g_astore_n (i := 1) (lv' := [(1, va_rf y6), (0, .ref v0)]) y6 C dX11_undo_7 rfl (hnl_of hΓ (by decide)) (by first | rfl | simp [cat_rf]) ?_
  refine g_aload_n y6 C dX11_undo_8 0 rfl ?_
  refine g_ifnonnull (tgt := 14) y6 C dX11_undo_9 (by decide) (fun c => ?_) (fun c => ?_)
  ·
    obtain ⟨a7, rfl⟩ := rf_some c
    replace hb := hb.2 a7 rfl
    refine g_aload_n (some v0) C dX11_undo_14 1 rfl ?_
    refine g_aload_n (some a7) C dX11_undo_15 0 rfl ?_
    obtain ⟨q8, hb⟩ := hb
    refine g_invV (ci := 11) [.ref a7] [] zy_X11_takeBack wd_972 wd_974 wd_36 ⟨_, _, rfl⟩ (by decide) C dX11_undo_16 (by first | exact Nat.le_of_ble_eq_true rfl | simp [cat_rf]) (by first | exact Nat.le_of_ble_eq_true rfl | simp [cat_rf]) (by first | exact Nat.le_of_ble_eq_true rfl | simp [cat_rf]) (Nat.zero_le _) (Nat.zero_le _) rfl rfl q8 (okX11_takeBack hb) ?_
    rintro o σ9 ⟨rfl, hb⟩
    refine ⟨_, rfl, ?_⟩
    refine g_iconst (v := 1) C dX11_undo_19 (by decide) ?_
    exact g_ireturn C hΓ (Nat.zero_le _) (Nat.zero_le _) dX11_undo_20 ⟨_, rfl, hb⟩
  ·
    replace hb := hb.1 c
    refine g_iconst (v := 0) C dX11_undo_12 (by decide) ?_
    exact g_ireturn C hΓ (Nat.zero_le _) (Nat.zero_le _) dX11_undo_13 ⟨_, rfl, hb⟩
theorem okX11_undo {v0 : Nat} {σ : St} {Q : Int32 → St → Prop} (hb : wX11_undo v0 σ Q) : hM yX11_undo cX11_undo 2 ((Option.some FieldType.int)) 2 45 0 0 [.ref v0] σ (oI Q) :=
  hM_of (by decide) (Nat.le_of_ble_eq_true rfl) (fun Γ hΓ C => kwX11_undo_0 C hΓ _ _ hb)
def wX11_size_0 (Q : Int32 → St → Prop) (v0 : Nat) (v1 : Int32) (σ : St) : Prop :=
  ((v1 = 0 → zK σ v0 = 12 ∧ ∃ a2 : Nat, zFr σ 704 v0 = some a2 ∧ zK σ a2 = 7 ∧ Q (zFi σ 385 a2) σ) ∧ (v1 = 1 → zK σ v0 = 12 ∧ ∃ a7 : Nat, zFr σ 704 v0 = some a7 ∧ zK σ a7 = 7 ∧ Q (zFi σ 390 a7) σ) ∧ (v1 = 2 → zK σ v0 = 12 ∧ Q (zFi σ 706 v0) σ) ∧ (v1 = 3 → zK σ v0 = 12 ∧ ∃ a14 : Nat, zFr σ 708 v0 = some a14 ∧ zK σ a14 = 4 ∧ Q (zFi σ 193 a14) σ) ∧ (v1 = 4 → zK σ v0 = 12 ∧ ∃ a19 : Nat, zFr σ 713 v0 = some a19 ∧ zK σ a19 = 2 ∧ Q (zFi σ 66 a19) σ) ∧ (¬ v1 = 0 → ¬ v1 = 1 → ¬ v1 = 2 → ¬ v1 = 3 → ¬ v1 = 4 → Q (-1) σ))
def wX11_size (v0 : Nat) (v1 : Int32) (σ : St) (Q : Int32 → St → Prop) : Prop := wX11_size_0 Q v0 v1 σ
set_option maxRecDepth 20000 in
theorem kwX11_size_0 {Γ : hCT} (C : hC Γ RX11 cX11_size ((Option.some FieldType.int)) "size" 0 0) {Q : Int32 → St → Prop} (hΓ : Γ.2.2.2.2.2.2.2.2.2.2.2 = (2, 0, 0, oI Q)) (v0 : Nat) (v1 : Int32) (σ : St) (hb : wX11_size_0 Q v0 v1 σ) : hW Γ 0 0 0 [(0, .ref v0), (1, .int v1)] [] σ := by
  unfold wX11_size_0 at hb
  refine g_iload_n C dX11_size_0 1 rfl ?_
  by_cases c5 : v1 = 0
  ·
    replace hb := hb.1 c5
    refine g_tabIn (tgt := 36) (off := 35) C dX11_size_1 (by rw [c5]; decide) (by rw [c5]; decide) (by rw [c5]; rfl) (by decide) ?_
    refine g_aload_n (some v0) C dX11_size_36 0 rfl ?_
    obtain ⟨q1, hb⟩ := hb
    obtain ⟨a2, q3, hb⟩ := hb
    refine g_getR (some a2) C fl_RX11_12 dX11_size_37 q1 rfl rfl q3 ?_
    obtain ⟨q4, hb⟩ := hb
    refine g_getIx (zFi σ 385 a2) C fl_RX11_71 dX11_size_40 q4 rfl rfl rfl ?_
    exact g_ireturn C hΓ (Nat.zero_le _) (Nat.zero_le _) dX11_size_43 ⟨_, rfl, hb⟩
  ·
    by_cases c10 : v1 = 1
    ·
      replace hb := hb.2.1 c10
      refine g_tabIn (tgt := 44) (off := 43) C dX11_size_1 (by rw [c10]; decide) (by rw [c10]; decide) (by rw [c10]; rfl) (by decide) ?_
      refine g_aload_n (some v0) C dX11_size_44 0 rfl ?_
      obtain ⟨q6, hb⟩ := hb
      obtain ⟨a7, q8, hb⟩ := hb
      refine g_getR (some a7) C fl_RX11_12 dX11_size_45 q6 rfl rfl q8 ?_
      obtain ⟨q9, hb⟩ := hb
      refine g_getIx (zFi σ 390 a7) C fl_RX11_91 dX11_size_48 q9 rfl rfl rfl ?_
      exact g_ireturn C hΓ (Nat.zero_le _) (Nat.zero_le _) dX11_size_51 ⟨_, rfl, hb⟩
    ·
      by_cases c12 : v1 = 2
      ·
        replace hb := hb.2.2.1 c12
        refine g_tabIn (tgt := 52) (off := 51) C dX11_size_1 (by rw [c12]; decide) (by rw [c12]; decide) (by rw [c12]; rfl) (by decide) ?_
        refine g_aload_n (some v0) C dX11_size_52 0 rfl ?_
        obtain ⟨q11, hb⟩ := hb
        refine g_getIx (zFi σ 706 v0) C fl_RX11_315 dX11_size_53 q11 rfl rfl rfl ?_
        exact g_ireturn C hΓ (Nat.zero_le _) (Nat.zero_le _) dX11_size_56 ⟨_, rfl, hb⟩
      ·
        by_cases c17 : v1 = 3
        ·
          replace hb := hb.2.2.2.1 c17
          refine g_tabIn (tgt := 57) (off := 56) C dX11_size_1 (by rw [c17]; decide) (by rw [c17]; decide) (by rw [c17]; rfl) (by decide) ?_
          refine g_aload_n (some v0) C dX11_size_57 0 rfl ?_
          obtain ⟨q13, hb⟩ := hb
          obtain ⟨a14, q15, hb⟩ := hb
          refine g_getR (some a14) C fl_RX11_36 dX11_size_58 q13 rfl rfl q15 ?_
          obtain ⟨q16, hb⟩ := hb
          refine g_getIx (zFi σ 193 a14) C fl_RX11_198 dX11_size_61 q16 rfl rfl rfl ?_
          exact g_ireturn C hΓ (Nat.zero_le _) (Nat.zero_le _) dX11_size_64 ⟨_, rfl, hb⟩
        ·
          by_cases c22 : v1 = 4
          ·
            replace hb := hb.2.2.2.2.1 c22
            refine g_tabIn (tgt := 65) (off := 64) C dX11_size_1 (by rw [c22]; decide) (by rw [c22]; decide) (by rw [c22]; rfl) (by decide) ?_
            refine g_aload_n (some v0) C dX11_size_65 0 rfl ?_
            obtain ⟨q18, hb⟩ := hb
            obtain ⟨a19, q20, hb⟩ := hb
            refine g_getR (some a19) C fl_RX11_63 dX11_size_66 q18 rfl rfl q20 ?_
            obtain ⟨q21, hb⟩ := hb
            refine g_getIx (zFi σ 66 a19) C fl_RX11_318 dX11_size_69 q21 rfl rfl rfl ?_
            exact g_ireturn C hΓ (Nat.zero_le _) (Nat.zero_le _) dX11_size_72 ⟨_, rfl, hb⟩
          ·
            replace hb := hb.2.2.2.2.2 c5 c10 c12 c17 c22
            have hz : Int32.toInt v1 < 0 ∨ 4 < Int32.toInt v1 := by
              have h_c5 := i32_ne c5
              have h_c10 := i32_ne c10
              have h_c12 := i32_ne c12
              have h_c17 := i32_ne c17
              have h_c22 := i32_ne c22
              rw [show Int32.toInt 0 = 0 from rfl] at h_c5; rw [show Int32.toInt 1 = 1 from rfl] at h_c10; rw [show Int32.toInt 2 = 2 from rfl] at h_c12; rw [show Int32.toInt 3 = 3 from rfl] at h_c17; rw [show Int32.toInt 4 = 4 from rfl] at h_c22
              omega
            refine g_tabOut (tgt := 73) C dX11_size_1 hz (by decide) ?_
            refine g_iconst (v := (-1)) C dX11_size_73 (by decide) ?_
            exact g_ireturn C hΓ (Nat.zero_le _) (Nat.zero_le _) dX11_size_74 ⟨_, rfl, hb⟩
theorem okX11_size {v0 : Nat} {v1 : Int32} {σ : St} {Q : Int32 → St → Prop} (hb : wX11_size v0 v1 σ Q) : hM yX11_size cX11_size 2 ((Option.some FieldType.int)) 0 0 0 0 [.ref v0, .int v1] σ (oI Q) :=
  hM_of (by decide) (Nat.le_of_ble_eq_true rfl) (fun Γ hΓ C => kwX11_size_0 C hΓ _ _ _ hb)
def wX11_status_0 (Q : Int32 → St → Prop) (v0 : Nat) (σ : St) : Prop :=
  zK σ v0 = 12 ∧ Q (zFi σ 714 v0) σ
def wX11_status (v0 : Nat) (σ : St) (Q : Int32 → St → Prop) : Prop := wX11_status_0 Q v0 σ
set_option maxRecDepth 20000 in
theorem kwX11_status_0 {Γ : hCT} (C : hC Γ RX11 cX11_status ((Option.some FieldType.int)) "status" 0 0) {Q : Int32 → St → Prop} (hΓ : Γ.2.2.2.2.2.2.2.2.2.2.2 = (1, 0, 0, oI Q)) (v0 : Nat) (σ : St) (hb : wX11_status_0 Q v0 σ) : hW Γ 0 0 0 [(0, .ref v0)] [] σ := by
  unfold wX11_status_0 at hb
  refine g_aload_n (some v0) C dX11_status_0 0 rfl ?_
  obtain ⟨q1, hb⟩ := hb
  refine g_getIx (zFi σ 714 v0) C fl_RX11_101 dX11_status_1 q1 rfl rfl rfl ?_
  exact g_ireturn C hΓ (Nat.zero_le _) (Nat.zero_le _) dX11_status_4 ⟨_, rfl, hb⟩
theorem okX11_status {v0 : Nat} {σ : St} {Q : Int32 → St → Prop} (hb : wX11_status v0 σ Q) : hM yX11_status cX11_status 1 ((Option.some FieldType.int)) 0 0 0 0 [.ref v0] σ (oI Q) :=
  hM_of (by decide) (Nat.le_of_ble_eq_true rfl) (fun Γ hΓ C => kwX11_status_0 C hΓ _ _ hb)
def wJxe99ae_isNaN_b9ae7_0 (Q : Int32 → St → Prop) (v0 : UInt64) (σ : St) : Prop :=
  (((Op.cmpValue (FP.dcmp v0 v0) .l) = 0 → Q 0 σ) ∧ (¬ (Op.cmpValue (FP.dcmp v0 v0) .l) = 0 → Q 1 σ))
def wJxe99ae_isNaN_b9ae7 (v0 : UInt64) (σ : St) (Q : Int32 → St → Prop) : Prop := wJxe99ae_isNaN_b9ae7_0 Q v0 σ
set_option maxRecDepth 20000 in
theorem kwJxe99ae_isNaN_b9ae7_0 {Γ : hCT} (C : hC Γ RJxe99ae cJxe99ae_isNaN_b9ae7 ((Option.some FieldType.boolean)) "isNaN" 0 0) {Q : Int32 → St → Prop} (hΓ : Γ.2.2.2.2.2.2.2.2.2.2.2 = (2, 0, 0, oI Q)) (v0 : UInt64) (σ : St) (hb : wJxe99ae_isNaN_b9ae7_0 Q v0 σ) : hW Γ 0 0 0 [(0, .double v0)] [] σ := by
  unfold wJxe99ae_isNaN_b9ae7_0 at hb
  refine g_dload_n C dJxe99ae_isNaN_b9ae7_0 0 rfl ?_
  refine g_dload_n C dJxe99ae_isNaN_b9ae7_1 0 rfl ?_
  refine g_dcmp C dJxe99ae_isNaN_b9ae7_2 ?_
  refine g_if_eq (tgt := 10) C dJxe99ae_isNaN_b9ae7_3 (by decide) (fun c => ?_) (fun c => ?_)
  ·
    replace hb := hb.1 (c)
    refine g_iconst (v := 0) C dJxe99ae_isNaN_b9ae7_10 (by decide) ?_
    exact g_zreturn C (by decide) hΓ (Nat.zero_le _) (Nat.zero_le _) dJxe99ae_isNaN_b9ae7_11 ⟨_, rfl, hb⟩
  ·
    replace hb := hb.2 (c)
    refine g_iconst (v := 1) C dJxe99ae_isNaN_b9ae7_6 (by decide) ?_
    refine g_goto (tgt := 11) C dJxe99ae_isNaN_b9ae7_7 (by decide) ?_
    exact g_zreturn C (by decide) hΓ (Nat.zero_le _) (Nat.zero_le _) dJxe99ae_isNaN_b9ae7_11 ⟨_, rfl, hb⟩
theorem okJxe99ae_isNaN_b9ae7 {v0 : UInt64} {σ : St} {Q : Int32 → St → Prop} (hb : wJxe99ae_isNaN_b9ae7 v0 σ Q) : hM yJxe99ae_isNaN_b9ae7 cJxe99ae_isNaN_b9ae7 2 ((Option.some FieldType.boolean)) 0 0 0 0 [.double v0] σ (oI Q) :=
  hM_ofF (by decide +kernel) (Nat.le_of_ble_eq_true rfl) (fun Γ hΓ C => kwJxe99ae_isNaN_b9ae7_0 C hΓ _ _ hb)
def wJxe99ae_doubleToLongBits_ccdee_0 (Q : Int64 → St → Prop) (v0 : UInt64) (σ : St) : Prop :=
  wJxe99ae_isNaN_b9ae7 v0 σ (fun y2 σ1 => ((¬ y2 = 0 → Q 9221120237041090560 σ1) ∧ (y2 = 0 → Q (UInt64.toInt64 v0) σ1)))
def wJxe99ae_doubleToLongBits_ccdee (v0 : UInt64) (σ : St) (Q : Int64 → St → Prop) : Prop := wJxe99ae_doubleToLongBits_ccdee_0 Q v0 σ
set_option maxRecDepth 20000 in
theorem kwJxe99ae_doubleToLongBits_ccdee_0 {Γ : hCT} (C : hC Γ RJxe99ae cJxe99ae_doubleToLongBits_ccdee ((Option.some FieldType.long)) "doubleToLongBits" 1 40) {Q : Int64 → St → Prop} (hΓ : Γ.2.2.2.2.2.2.2.2.2.2.2 = (2, 0, 0, oJ Q)) (v0 : UInt64) (σ : St) (hb : wJxe99ae_doubleToLongBits_ccdee_0 Q v0 σ) : hW Γ 0 0 0 [(0, .double v0)] [] σ := by
  unfold wJxe99ae_doubleToLongBits_ccdee_0 at hb
  refine g_dload_n C dJxe99ae_doubleToLongBits_ccdee_0 0 rfl ?_
  refine g_invS [.double v0] [] zy_Jxe99ae_isNaN_b9ae7 wd_1048 wd_1049 C dJxe99ae_doubleToLongBits_ccdee_1 (by first | exact Nat.le_of_ble_eq_true rfl | simp [cat_rf]) (by first | exact Nat.le_of_ble_eq_true rfl | simp [cat_rf]) (by first | exact Nat.le_of_ble_eq_true rfl | simp [cat_rf]) (Nat.zero_le _) (Nat.zero_le _) rfl rfl  (okJxe99ae_isNaN_b9ae7 hb) ?_
  rintro o σ1 ⟨y2, rfl, hb⟩
  refine ⟨_, rfl, ?_⟩
  refine g_if_ne (tgt := 12) C dJxe99ae_doubleToLongBits_ccdee_4 (by decide) (fun c => ?_) (fun c => ?_)
  ·
    replace hb := hb.1 (c)
    refine g_ldc2 C wd_1054 dJxe99ae_doubleToLongBits_ccdee_12 ?_
    exact g_lreturn C hΓ (Nat.zero_le _) (Nat.zero_le _) dJxe99ae_doubleToLongBits_ccdee_15 ⟨_, rfl, hb⟩
  ·
    replace hb := hb.2 (c)
    refine g_dload_n C dJxe99ae_doubleToLongBits_ccdee_7 0 rfl ?_
    refine g_d2l wd_1051 wd_1053 wd_1052 wd_90 C (by first | exact Nat.le_of_ble_eq_true rfl | simp [cat_rf]) (by first | exact Nat.le_of_ble_eq_true rfl | simp [cat_rf]) dJxe99ae_doubleToLongBits_ccdee_8 ?_
    exact g_lreturn C hΓ (Nat.zero_le _) (Nat.zero_le _) dJxe99ae_doubleToLongBits_ccdee_11 ⟨_, rfl, hb⟩
theorem okJxe99ae_doubleToLongBits_ccdee {v0 : UInt64} {σ : St} {Q : Int64 → St → Prop} (hb : wJxe99ae_doubleToLongBits_ccdee v0 σ Q) : hM yJxe99ae_doubleToLongBits_ccdee cJxe99ae_doubleToLongBits_ccdee 2 ((Option.some FieldType.long)) 1 40 0 0 [.double v0] σ (oJ Q) :=
  hM_ofF (by decide +kernel) (Nat.le_of_ble_eq_true rfl) (fun Γ hΓ C => kwJxe99ae_doubleToLongBits_ccdee_0 C hΓ _ _ hb)
def wE27_init_41 (Q : St → Prop) (v0 : Nat) (v1 : Option Nat) (v2 : Option Nat) (v3 : Int32) (σ : St) : Prop :=
  zK σ v0 = 14 ∧ ((¬ v3 = 0 → Q (uFr (uFr σ 835 v0 v1) 832 v0 v2)) ∧ (v3 = 0 → Q (uFr (uFr (uFr σ 835 v0 v1) 832 v0 v2) 834 v0 none)))
def wE27_init_0 (Q : St → Prop) (v0 : Nat) (v1 : Option Nat) (v2 : Option Nat) (v3 : Int32) (v4 : Int32) (σ : St) : Prop :=
  zK σ v0 = 14 ∧ ∀ o2 : Option Nat, ∀ o3 : Option Nat, ((v4 = 0 → wE27_init_41 Q v0 v1 v2 v3 (uFr (uFr (uFr (uFr σ 832 v0 (some v0)) 833 v0 o2) 834 v0 o3) 833 v0 none)) ∧ (¬ v4 = 0 → False))
def wE27_init (v0 : Nat) (v1 : Option Nat) (v2 : Option Nat) (v3 : Int32) (v4 : Int32) (σ : St) (Q : St → Prop) : Prop := wE27_init_0 Q v0 v1 v2 v3 v4 σ
set_option maxRecDepth 20000 in
theorem kwE27_init_41 {Γ : hCT} (C : hC Γ "java/lang/Throwable" cE27_init ((Option.none : Option Jvm.ClassFile.FieldType)) "<init>" 1 12) {Q : St → Prop} (hΓ : Γ.2.2.2.2.2.2.2.2.2.2.2 = (5, 0, 0, oV Q)) (v0 : Nat) (v1 : Option Nat) (v2 : Option Nat) (v3 : Int32) (σ : St) (hb : wE27_init_41 Q v0 v1 v2 v3 σ) : hW Γ 0 0 41 [(0, .ref v0), (1, va_rf v1), (2, va_rf v2), (3, .int v3)] [] σ := by
  unfold wE27_init_41 at hb
  refine g_aload_n (some v0) C dE27_init_41 0 rfl ?_
  refine g_aload_n v1 C dE27_init_42 1 rfl ?_
  obtain ⟨q1, hb⟩ := hb
  refine g_putR v1 C fl_javalangThrowable_31 dE27_init_43 q1 rfl rfl (by cases v1 <;> rfl) (by cases v1 <;> rfl) ?_
  refine g_aload_n (some v0) C dE27_init_46 0 rfl ?_
  refine g_aload_n v2 C dE27_init_47 2 rfl ?_
  refine g_putR v2 C fl_javalangThrowable_7 dE27_init_48 (by rw [zK_uFr]; exact q1) rfl rfl (by cases v2 <;> rfl) (by cases v2 <;> rfl) ?_
  refine g_iload_n C dE27_init_51 3 rfl ?_
  refine g_if_ne (tgt := 60) C dE27_init_52 (by decide) (fun c => ?_) (fun c => ?_)
  ·
    replace hb := hb.1 (c)
    exact g_vreturn C hΓ (Nat.zero_le _) (Nat.zero_le _) dE27_init_60 ⟨rfl, hb⟩
  ·
    replace hb := hb.2 (c)
    refine g_aload_n (some v0) C dE27_init_55 0 rfl ?_
    refine g_null C dE27_init_56 ?_
    refine g_putR none C fl_javalangThrowable_24 dE27_init_57 (by rw [zK_uFr, zK_uFr]; exact q1) rfl rfl rfl rfl ?_
    exact g_vreturn C hΓ (Nat.zero_le _) (Nat.zero_le _) dE27_init_60 ⟨rfl, hb⟩
set_option maxRecDepth 20000 in
theorem kwE27_init_0 {Γ : hCT} (C : hC Γ "java/lang/Throwable" cE27_init ((Option.none : Option Jvm.ClassFile.FieldType)) "<init>" 1 12) {Q : St → Prop} (hΓ : Γ.2.2.2.2.2.2.2.2.2.2.2 = (5, 0, 0, oV Q)) (v0 : Nat) (v1 : Option Nat) (v2 : Option Nat) (v3 : Int32) (v4 : Int32) (σ : St) (hb : wE27_init_0 Q v0 v1 v2 v3 v4 σ) : hW Γ 0 0 0 [(0, .ref v0), (1, va_rf v1), (2, va_rf v2), (3, .int v3), (4, .int v4)] [] σ := by
  unfold wE27_init_0 at hb
  refine g_aload_n (some v0) C dE27_init_0 0 rfl ?_
  refine g_objInit wd_1139 wd_101 wd_102 C dE27_init_1 (by first | exact Nat.le_of_ble_eq_true rfl | simp [cat_rf]) (by first | exact Nat.le_of_ble_eq_true rfl | simp [cat_rf]) ?_
  refine g_aload_n (some v0) C dE27_init_4 0 rfl ?_
  refine g_aload_n (some v0) C dE27_init_5 0 rfl ?_
  obtain ⟨q1, hb⟩ := hb
  refine g_putR (some v0) C fl_javalangThrowable_7 dE27_init_6 q1 rfl rfl rfl rfl ?_
  refine g_aload_n (some v0) C dE27_init_9 0 rfl ?_
  refine g_getsT tq_1 C wd_1140 dE27_init_10 (fun o2 => ?_)
  replace hb := hb o2
  refine g_putR o2 C fl_javalangThrowable_17 dE27_init_13 (by rw [zK_uFr]; exact q1) rfl rfl (by cases o2 <;> rfl) (by cases o2 <;> rfl) ?_
  refine g_aload_n (some v0) C dE27_init_16 0 rfl ?_
  refine g_getsT tq_2 C wd_1142 dE27_init_17 (fun o3 => ?_)
  replace hb := hb o3
  refine g_putR o3 C fl_javalangThrowable_24 dE27_init_20 (by rw [zK_uFr, zK_uFr]; exact q1) rfl rfl (by cases o3 <;> rfl) (by cases o3 <;> rfl) ?_
  refine g_iload C dE27_init_23 4 rfl ?_
  refine g_if_eq (tgt := 36) C dE27_init_25 (by decide) (fun c => ?_) (fun c => ?_)
  ·
    replace hb := hb.1 (c)
    refine g_aload_n (some v0) C dE27_init_36 0 rfl ?_
    refine g_null C dE27_init_37 ?_
    refine g_putR none C fl_javalangThrowable_17 dE27_init_38 (by rw [zK_uFr, zK_uFr, zK_uFr]; exact q1) rfl rfl rfl rfl ?_
    refine g_sub (lv' := [(0, .ref v0), (1, va_rf v1), (2, va_rf v2), (3, .int v3)]) [0, 1, 2, 3] rfl ?_
    exact kwE27_init_41 C hΓ  _ _ _ _ _ hb
  ·
    replace hb := hb.2 (c)
    refine g_aload_n (some v0) C dE27_init_28 0 rfl ?_
    exact hb.elim
theorem okE27_init {v0 : Nat} {v1 : Option Nat} {v2 : Option Nat} {v3 : Int32} {v4 : Int32} {σ : St} {Q : St → Prop} (hb : wE27_init v0 v1 v2 v3 v4 σ Q) : hM yE27_init cE27_init 5 ((Option.none : Option Jvm.ClassFile.FieldType)) 1 12 0 0 [.ref v0, va_rf v1, va_rf v2, .int v3, .int v4] σ (oV Q) :=
  hM_ofF (by decide +kernel) (by cases v1 <;> cases v2 <;> exact Nat.le_of_ble_eq_true rfl) (fun Γ hΓ C => by cases v1 <;> cases v2 <;> exact kwE27_init_0 C hΓ _ _ _ _ _ _ hb)
def wE21_init_0 (Q : St → Prop) (v0 : Nat) (v1 : Option Nat) (v2 : Option Nat) (v3 : Int32) (v4 : Int32) (σ : St) : Prop :=
  wE27_init v0 v1 v2 v3 v4 σ (fun σ1 => Q σ1)
def wE21_init (v0 : Nat) (v1 : Option Nat) (v2 : Option Nat) (v3 : Int32) (v4 : Int32) (σ : St) (Q : St → Prop) : Prop := wE21_init_0 Q v0 v1 v2 v3 v4 σ
set_option maxRecDepth 20000 in
theorem kwE21_init_0 {Γ : hCT} (C : hC Γ "java/lang/Exception" cE21_init ((Option.none : Option Jvm.ClassFile.FieldType)) "<init>" 2 36) {Q : St → Prop} (hΓ : Γ.2.2.2.2.2.2.2.2.2.2.2 = (5, 0, 0, oV Q)) (v0 : Nat) (v1 : Option Nat) (v2 : Option Nat) (v3 : Int32) (v4 : Int32) (σ : St) (hb : wE21_init_0 Q v0 v1 v2 v3 v4 σ) : hW Γ 0 0 0 [(0, .ref v0), (1, va_rf v1), (2, va_rf v2), (3, .int v3), (4, .int v4)] [] σ := by
  unfold wE21_init_0 at hb
  refine g_aload_n (some v0) C dE21_init_0 0 rfl ?_
  refine g_aload_n v1 C dE21_init_1 1 rfl ?_
  refine g_aload_n v2 C dE21_init_2 2 rfl ?_
  refine g_iload_n C dE21_init_3 3 rfl ?_
  refine g_iload C dE21_init_4 4 rfl ?_
  refine g_invI [va_rf v1, va_rf v2, .int v3, .int v4] [] zy_E27_init wd_1162 wd_1163 rfl C dE21_init_6 (by first | exact Nat.le_of_ble_eq_true rfl | simp [cat_rf]) (by first | exact Nat.le_of_ble_eq_true rfl | simp [cat_rf]) (by first | exact Nat.le_of_ble_eq_true rfl | simp [cat_rf]) (Nat.zero_le _) (Nat.zero_le _) rfl rfl  (okE27_init hb) ?_
  rintro o σ1 ⟨rfl, hb⟩
  refine ⟨_, rfl, ?_⟩
  exact g_vreturn C hΓ (Nat.zero_le _) (Nat.zero_le _) dE21_init_9 ⟨rfl, hb⟩
theorem okE21_init {v0 : Nat} {v1 : Option Nat} {v2 : Option Nat} {v3 : Int32} {v4 : Int32} {σ : St} {Q : St → Prop} (hb : wE21_init v0 v1 v2 v3 v4 σ Q) : hM yE21_init cE21_init 5 ((Option.none : Option Jvm.ClassFile.FieldType)) 2 36 0 0 [.ref v0, va_rf v1, va_rf v2, .int v3, .int v4] σ (oV Q) :=
  hM_ofF (by decide +kernel) (by cases v1 <;> cases v2 <;> exact Nat.le_of_ble_eq_true rfl) (fun Γ hΓ C => by cases v1 <;> cases v2 <;> exact kwE21_init_0 C hΓ _ _ _ _ _ _ hb)
def wE25_init_0 (Q : St → Prop) (v0 : Nat) (v1 : Option Nat) (v2 : Option Nat) (v3 : Int32) (v4 : Int32) (σ : St) : Prop :=
  wE21_init v0 v1 v2 v3 v4 σ (fun σ1 => Q σ1)
def wE25_init (v0 : Nat) (v1 : Option Nat) (v2 : Option Nat) (v3 : Int32) (v4 : Int32) (σ : St) (Q : St → Prop) : Prop := wE25_init_0 Q v0 v1 v2 v3 v4 σ
set_option maxRecDepth 20000 in
theorem kwE25_init_0 {Γ : hCT} (C : hC Γ "java/lang/RuntimeException" cE25_init ((Option.none : Option Jvm.ClassFile.FieldType)) "<init>" 3 60) {Q : St → Prop} (hΓ : Γ.2.2.2.2.2.2.2.2.2.2.2 = (5, 0, 0, oV Q)) (v0 : Nat) (v1 : Option Nat) (v2 : Option Nat) (v3 : Int32) (v4 : Int32) (σ : St) (hb : wE25_init_0 Q v0 v1 v2 v3 v4 σ) : hW Γ 0 0 0 [(0, .ref v0), (1, va_rf v1), (2, va_rf v2), (3, .int v3), (4, .int v4)] [] σ := by
  unfold wE25_init_0 at hb
  refine g_aload_n (some v0) C dE25_init_0 0 rfl ?_
  refine g_aload_n v1 C dE25_init_1 1 rfl ?_
  refine g_aload_n v2 C dE25_init_2 2 rfl ?_
  refine g_iload_n C dE25_init_3 3 rfl ?_
  refine g_iload C dE25_init_4 4 rfl ?_
  refine g_invI [va_rf v1, va_rf v2, .int v3, .int v4] [] zy_E21_init wd_1159 wd_1160 rfl C dE25_init_6 (by first | exact Nat.le_of_ble_eq_true rfl | simp [cat_rf]) (by first | exact Nat.le_of_ble_eq_true rfl | simp [cat_rf]) (by first | exact Nat.le_of_ble_eq_true rfl | simp [cat_rf]) (Nat.zero_le _) (Nat.zero_le _) rfl rfl  (okE21_init hb) ?_
  rintro o σ1 ⟨rfl, hb⟩
  refine ⟨_, rfl, ?_⟩
  exact g_vreturn C hΓ (Nat.zero_le _) (Nat.zero_le _) dE25_init_9 ⟨rfl, hb⟩
theorem okE25_init {v0 : Nat} {v1 : Option Nat} {v2 : Option Nat} {v3 : Int32} {v4 : Int32} {σ : St} {Q : St → Prop} (hb : wE25_init v0 v1 v2 v3 v4 σ Q) : hM yE25_init cE25_init 5 ((Option.none : Option Jvm.ClassFile.FieldType)) 3 60 0 0 [.ref v0, va_rf v1, va_rf v2, .int v3, .int v4] σ (oV Q) :=
  hM_ofF (by decide +kernel) (by cases v1 <;> cases v2 <;> exact Nat.le_of_ble_eq_true rfl) (fun Γ hΓ C => by cases v1 <;> cases v2 <;> exact kwE25_init_0 C hΓ _ _ _ _ _ _ hb)
