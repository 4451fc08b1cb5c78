def wX16_value_0 (Q : Int32 → St → Prop) (v0 : Nat) (v1 : Int32) (v2 : Int32) (σ : St) : Prop :=
  zK σ v0 = 17 ∧ wX16_isAnswer v0 v1 (uFi σ 1024 v0 0) (fun y3 σ2 => ((y3 = 0 → Q 0 σ2) ∧ (¬ y3 = 0 → ((v2 < 0 → Q 0 σ2) ∧ (¬ v2 < 0 → zK σ2 v0 = 17 ∧ ∃ a5 : Nat, zFr σ2 1050 v0 = some a5 ∧ zK σ2 a5 = 15 ∧ (((zFi σ2 897 a5) ≤ v2 → Q 0 σ2) ∧ (¬ (zFi σ2 897 a5) ≤ v2 → ∃ a8 : Nat, zFr σ2 898 a5 = some a8 ∧ zK σ2 a8 = 20 ∧ vp_in ((6 * v1) + v2) (zL σ2 a8) ∧ Q (zAi σ2 a8 (ix ((6 * v1) + v2))) σ2)))))))
def wX16_value (v0 : Nat) (v1 : Int32) (v2 : Int32) (σ : St) (Q : Int32 → St → Prop) : Prop := wX16_value_0 Q v0 v1 v2 σ
set_option maxRecDepth 20000 in
theorem kwX16_value_0 {Γ : hCT} (C : hC Γ RX16 cX16_value ((Option.some FieldType.int)) "value" 1 21) {Q : Int32 → St → Prop} (hΓ : Γ.2.2.2.2.2.2.2.2.2.2.2 = (3, 0, 0, oI Q)) (v0 : Nat) (v1 : Int32) (v2 : Int32) (σ : St) (hb : wX16_value_0 Q v0 v1 v2 σ) : hW Γ 0 0 0 [(0, .ref v0), (1, .int v1), (2, .int v2)] [] σ := by
  unfold wX16_value_0 at hb
  refine g_aload_n (some v0) C dX16_value_0 0 rfl ?_
  refine g_iconst (v := 0) C dX16_value_1 (by decide) ?_
  obtain ⟨q1, hb⟩ := hb
  refine g_putI C fl_RX16_1 dX16_value_2 q1 rfl rfl rfl rfl ?_
  refine g_aload_n (some v0) C dX16_value_5 0 rfl ?_
  refine g_iload_n C dX16_value_6 1 rfl ?_
  refine g_invV (ci := 16) [.int v1] [] zy_X16_isAnswer wd_1491 wd_1493 wd_62 ⟨_, _, rfl⟩ (by decide) C dX16_value_7 (by first | exact Nat.le_of_ble_eq_true rfl | simp [cat_rf]) (by first | exact Nat.le_of_ble_eq_true rfl | simp [cat_rf]) (by first | exact Nat.le_of_ble_eq_true rfl | simp [cat_rf]) (Nat.zero_le _) (Nat.zero_le _) rfl rfl (by rw [zK_uFi]; exact q1) (okX16_isAnswer hb) ?_
  rintro o σ2 ⟨y3, rfl, hb⟩
  refine ⟨_, rfl, ?_⟩
  refine g_if_eq (tgt := 45) C dX16_value_10 (by decide) (fun c => ?_) (fun c => ?_)
  ·
    replace hb := hb.1 (c)
    refine g_iconst (v := 0) C dX16_value_45 (by decide) ?_
    exact g_ireturn C hΓ (Nat.zero_le _) (Nat.zero_le _) dX16_value_46 ⟨_, rfl, hb⟩
  ·
    replace hb := hb.2 (c)
    refine g_iload_n C dX16_value_13 2 rfl ?_
    refine g_if_lt (tgt := 45) C dX16_value_14 (by decide) (fun c => ?_) (fun c => ?_)
    ·
      replace hb := hb.1 (c)
      refine g_iconst (v := 0) C dX16_value_45 (by decide) ?_
      exact g_ireturn C hΓ (Nat.zero_le _) (Nat.zero_le _) dX16_value_46 ⟨_, rfl, hb⟩
    ·
      replace hb := hb.2 (c)
      refine g_iload_n C dX16_value_17 2 rfl ?_
      refine g_aload_n (some v0) C dX16_value_18 0 rfl ?_
      obtain ⟨q4, hb⟩ := hb
      obtain ⟨a5, q6, hb⟩ := hb
      refine g_getR (some a5) C fl_RX16_31 dX16_value_19 q4 rfl rfl q6 ?_
      obtain ⟨q7, hb⟩ := hb
      refine g_getIx (zFi σ2 897 a5) C fl_RX16_236 dX16_value_22 q7 rfl rfl rfl ?_
      refine g_icmp_ge (tgt := 45) C dX16_value_25 (by decide) (fun c => ?_) (fun c => ?_)
      ·
        replace hb := hb.1 (c)
        refine g_iconst (v := 0) C dX16_value_45 (by decide) ?_
        exact g_ireturn C hΓ (Nat.zero_le _) (Nat.zero_le _) dX16_value_46 ⟨_, rfl, hb⟩
      ·
        replace hb := hb.2 (c)
        refine g_aload_n (some v0) C dX16_value_28 0 rfl ?_
        refine g_getR (some a5) C fl_RX16_31 dX16_value_29 q4 rfl rfl q6 ?_
        obtain ⟨a8, q9, hb⟩ := hb
        refine g_getR (some a8) C fl_RX16_239 dX16_value_32 q7 rfl rfl q9 ?_
        refine g_bipush (v := 6) C dX16_value_35 (by decide) ?_
        refine g_iload_n C dX16_value_37 1 rfl ?_
        refine g_imul C dX16_value_38 ?_
        refine g_iload_n C dX16_value_39 2 rfl ?_
        refine g_iadd C dX16_value_40 ?_
        obtain ⟨q10, hb⟩ := hb
        obtain ⟨q11, hb⟩ := hb
        refine g_ialdx (zAi σ2 a8 (ix ((6 * v1) + v2))) C dX16_value_41 q10 q11 rfl ?_
        refine g_goto (tgt := 46) C dX16_value_42 (by decide) ?_
        exact g_ireturn C hΓ (Nat.zero_le _) (Nat.zero_le _) dX16_value_46 ⟨_, rfl, hb⟩
theorem okX16_value {v0 : Nat} {v1 : Int32} {v2 : Int32} {σ : St} {Q : Int32 → St → Prop} (hb : wX16_value v0 v1 v2 σ Q) : hM yX16_value cX16_value 3 ((Option.some FieldType.int)) 1 21 0 0 [.ref v0, .int v1, .int v2] σ (oI Q) :=
  hM_of (by decide) (Nat.le_of_ble_eq_true rfl) (fun Γ hΓ C => kwX16_value_0 C hΓ _ _ _ _ hb)
def wX16_find_0 (Q : Int32 → St → Prop) (v0 : Nat) (v1 : Int32) (v2 : Int32) (v3 : Int32) (v4 : Int32) (v5 : Int32) (v6 : Int32) (σ : St) : Prop :=
  zK σ v0 = 17 ∧ ∃ a2 : Nat, zFr σ 1055 v0 = some a2 ∧ zK σ a2 = 20 ∧ vp_in 0 (zL σ a2) ∧ vp_in 1 (zL σ a2) ∧ vp_in 2 (zL σ a2) ∧ vp_in 3 (zL σ a2) ∧ vp_in 4 (zL σ a2) ∧ vp_in 5 (zL σ a2) ∧ ∃ a11 : Nat, zFr σ 1050 v0 = some a11 ∧ zK σ a11 = 15 ∧ wX14_find a11 a2 0 (uAi (uAi (uAi (uAi (uAi (uAi (uFi σ 1024 v0 0) a2 (ix 0) v1) a2 (ix 1) v2) a2 (ix 2) v3) a2 (ix 3) v4) a2 (ix 4) v5) a2 (ix 5) v6) (fun y15 σ14 => Q y15 σ14)
def wX16_find (v0 : Nat) (v1 : Int32) (v2 : Int32) (v3 : Int32) (v4 : Int32) (v5 : Int32) (v6 : Int32) (σ : St) (Q : Int32 → St → Prop) : Prop := wX16_find_0 Q v0 v1 v2 v3 v4 v5 v6 σ
set_option maxRecDepth 20000 in
theorem kwX16_find_0 {Γ : hCT} (C : hC Γ RX16 cX16_find ((Option.some FieldType.int)) "find" 1 25) {Q : Int32 → St → Prop} (hΓ : Γ.2.2.2.2.2.2.2.2.2.2.2 = (7, 0, 0, oI Q)) (v0 : Nat) (v1 : Int32) (v2 : Int32) (v3 : Int32) (v4 : Int32) (v5 : Int32) (v6 : Int32) (σ : St) (hb : wX16_find_0 Q v0 v1 v2 v3 v4 v5 v6 σ) : hW Γ 0 0 0 [(0, .ref v0), (1, .int v1), (2, .int v2), (3, .int v3), (4, .int v4), (5, .int v5), (6, .int v6)] [] σ := by
  unfold wX16_find_0 at hb
  refine g_aload_n (some v0) C dX16_find_0 0 rfl ?_
  refine g_iconst (v := 0) C dX16_find_1 (by decide) ?_
  obtain ⟨q1, hb⟩ := hb
  refine g_putI C fl_RX16_1 dX16_find_2 q1 rfl rfl rfl rfl ?_
  refine g_aload_n (some v0) C dX16_find_5 0 rfl ?_
  obtain ⟨a2, q3, hb⟩ := hb
  refine g_getR (some a2) C fl_RX16_200 dX16_find_6 (by rw [zK_uFi]; exact q1) rfl rfl (by rw [zFr_uFi]; exact q3) ?_
  refine g_iconst (v := 0) C dX16_find_9 (by decide) ?_
  refine g_iload_n C dX16_find_10 1 rfl ?_
  obtain ⟨q4, hb⟩ := hb
  obtain ⟨q5, hb⟩ := hb
  refine g_iast C dX16_find_11 (by rw [zK_uFi]; exact q4) (by rw [zL_uFi]; exact q5) ?_
  refine g_aload_n (some v0) C dX16_find_12 0 rfl ?_
  refine g_getR (some a2) C fl_RX16_200 dX16_find_13 (by rw [zK_uAi, zK_uFi]; exact q1) rfl rfl (by rw [zFr_uAi, zFr_uFi]; exact q3) ?_
  refine g_iconst (v := 1) C dX16_find_16 (by decide) ?_
  refine g_iload_n C dX16_find_17 2 rfl ?_
  obtain ⟨q6, hb⟩ := hb
  refine g_iast C dX16_find_18 (by rw [zK_uAi, zK_uFi]; exact q4) (by rw [zL_uAi, zL_uFi]; exact q6) ?_
  refine g_aload_n (some v0) C dX16_find_19 0 rfl ?_
  refine g_getR (some a2) C fl_RX16_200 dX16_find_20 (by rw [zK_uAi, zK_uAi, zK_uFi]; exact q1) rfl rfl (by rw [zFr_uAi, zFr_uAi, zFr_uFi]; exact q3) ?_
  refine g_iconst (v := 2) C dX16_find_23 (by decide) ?_
  refine g_iload_n C dX16_find_24 3 rfl ?_
  obtain ⟨q7, hb⟩ := hb
  refine g_iast C dX16_find_25 (by rw [zK_uAi, zK_uAi, zK_uFi]; exact q4) (by rw [zL_uAi, zL_uAi, zL_uFi]; exact q7) ?_
  refine g_aload_n (some v0) C dX16_find_26 0 rfl ?_
  refine g_getR (some a2) C fl_RX16_200 dX16_find_27 (by rw [zK_uAi, zK_uAi, zK_uAi, zK_uFi]; exact q1) rfl rfl (by rw [zFr_uAi, zFr_uAi, zFr_uAi, zFr_uFi]; exact q3) ?_
  refine g_iconst (v := 3) C dX16_find_30 (by decide) ?_
  refine g_iload C dX16_find_31 4 rfl ?_
  obtain ⟨q8, hb⟩ := hb
  refine g_iast C dX16_find_33 (by rw [zK_uAi, zK_uAi, zK_uAi, zK_uFi]; exact q4) (by rw [zL_uAi, zL_uAi, zL_uAi, zL_uFi]; exact q8) ?_
  refine g_aload_n (some v0) C dX16_find_34 0 rfl ?_
  refine g_getR (some a2) C fl_RX16_200 dX16_find_35 (by rw [zK_uAi, zK_uAi, zK_uAi, zK_uAi, zK_uFi]; exact q1) rfl rfl (by rw [zFr_uAi, zFr_uAi, zFr_uAi, zFr_uAi, zFr_uFi]; exact q3) ?_
  refine g_iconst (v := 4) C dX16_find_38 (by decide) ?_
  refine g_iload C dX16_find_39 5 rfl ?_
  obtain ⟨q9, hb⟩ := hb
  refine g_iast C dX16_find_41 (by rw [zK_uAi, zK_uAi, zK_uAi, zK_uAi, zK_uFi]; exact q4) (by rw [zL_uAi, zL_uAi, zL_uAi, zL_uAi, zL_uFi]; exact q9) ?_
  refine g_aload_n (some v0) C dX16_find_42 0 rfl ?_
  refine g_getR (some a2) C fl_RX16_200 dX16_find_43 (by rw [zK_uAi, zK_uAi, zK_uAi, zK_uAi, zK_uAi, zK_uFi]; exact q1) rfl rfl (by rw [zFr_uAi, zFr_uAi, zFr_uAi, zFr_uAi, zFr_uAi, zFr_uFi]; exact q3) ?_
  refine g_iconst (v := 5) C dX16_find_46 (by decide) ?_
  refine g_iload C dX16_find_47 6 rfl ?_
  obtain ⟨q10, hb⟩ := hb
  refine g_iast C dX16_find_49 (by rw [zK_uAi, zK_uAi, zK_uAi, zK_uAi, zK_uAi, zK_uFi]; exact q4) (by rw [zL_uAi, zL_uAi, zL_uAi, zL_uAi, zL_uAi, zL_uFi]; exact q10) ?_
  refine g_aload_n (some v0) C dX16_find_50 0 rfl ?_
  obtain ⟨a11, q12, hb⟩ := hb
  refine g_getR (some a11) C fl_RX16_31 dX16_find_51 (by rw [zK_uAi, zK_uAi, zK_uAi, zK_uAi, zK_uAi, zK_uAi, zK_uFi]; exact q1) rfl rfl (by rw [zFr_uAi, zFr_uAi, zFr_uAi, zFr_uAi, zFr_uAi, zFr_uAi, zFr_uFi]; exact q12) ?_
  refine g_aload_n (some v0) C dX16_find_54 0 rfl ?_
  refine g_getR (some a2) C fl_RX16_200 dX16_find_55 (by rw [zK_uAi, zK_uAi, zK_uAi, zK_uAi, zK_uAi, zK_uAi, zK_uFi]; exact q1) rfl rfl (by rw [zFr_uAi, zFr_uAi, zFr_uAi, zFr_uAi, zFr_uAi, zFr_uAi, zFr_uFi]; exact q3) ?_
  refine g_iconst (v := 0) C dX16_find_58 (by decide) ?_
  obtain ⟨q13, hb⟩ := hb
  refine g_invV (ci := 14) [.ref a2, .int 0] [] zy_X14_find wd_1405 wd_1406 wd_1407 ⟨_, _, rfl⟩ (by decide) C dX16_find_59 (by first | exact Nat.le_of_ble_eq_true rfl | simp [cat_rf]) (by first | exact Nat.le_of_ble_eq_true rfl | simp [cat_rf]) (by first | exact Nat.le_of_ble_eq_true rfl | simp [cat_rf]) (Nat.zero_le _) (Nat.zero_le _) rfl rfl (by rw [zK_uAi, zK_uAi, zK_uAi, zK_uAi, zK_uAi, zK_uAi, zK_uFi]; exact q13) (okX14_find hb) ?_
  rintro o σ14 ⟨y15, rfl, hb⟩
  refine ⟨_, rfl, ?_⟩
  exact g_ireturn C hΓ (Nat.zero_le _) (Nat.zero_le _) dX16_find_62 ⟨_, rfl, hb⟩
theorem okX16_find {v0 : Nat} {v1 : Int32} {v2 : Int32} {v3 : Int32} {v4 : Int32} {v5 : Int32} {v6 : Int32} {σ : St} {Q : Int32 → St → Prop} (hb : wX16_find v0 v1 v2 v3 v4 v5 v6 σ Q) : hM yX16_find cX16_find 7 ((Option.some FieldType.int)) 1 25 0 0 [.ref v0, .int v1, .int v2, .int v3, .int v4, .int v5, .int v6] σ (oI Q) :=
  hM_of (by decide) (Nat.le_of_ble_eq_true rfl) (fun Γ hΓ C => kwX16_find_0 C hΓ _ _ _ _ _ _ _ _ hb)
def wX16_ways_0 (Q : Int32 → St → Prop) (v0 : Nat) (v1 : Int32) (σ : St) : Prop :=
  zK σ v0 = 17 ∧ wX16_isAnswer v0 v1 (uFi σ 1024 v0 0) (fun y3 σ2 => ((y3 = 0 → Q (-1) σ2) ∧ (¬ y3 = 0 → zK σ2 v0 = 17 ∧ ∃ a5 : Nat, zFr σ2 1050 v0 = some a5 ∧ zK σ2 a5 = 15 ∧ ∃ a8 : Nat, zFr σ2 899 a5 = some a8 ∧ zK σ2 a8 = 20 ∧ vp_in v1 (zL σ2 a8) ∧ Q (zAi σ2 a8 (ix v1)) σ2)))
def wX16_ways (v0 : Nat) (v1 : Int32) (σ : St) (Q : Int32 → St → Prop) : Prop := wX16_ways_0 Q v0 v1 σ
set_option maxRecDepth 20000 in
theorem kwX16_ways_0 {Γ : hCT} (C : hC Γ RX16 cX16_ways ((Option.some FieldType.int)) "ways" 1 21) {Q : Int32 → St → Prop} (hΓ : Γ.2.2.2.2.2.2.2.2.2.2.2 = (2, 0, 0, oI Q)) (v0 : Nat) (v1 : Int32) (σ : St) (hb : wX16_ways_0 Q v0 v1 σ) : hW Γ 0 0 0 [(0, .ref v0), (1, .int v1)] [] σ := by
  unfold wX16_ways_0 at hb
  refine g_aload_n (some v0) C dX16_ways_0 0 rfl ?_
  refine g_iconst (v := 0) C dX16_ways_1 (by decide) ?_
  obtain ⟨q1, hb⟩ := hb
  refine g_putI C fl_RX16_1 dX16_ways_2 q1 rfl rfl rfl rfl ?_
  refine g_aload_n (some v0) C dX16_ways_5 0 rfl ?_
  refine g_iload_n C dX16_ways_6 1 rfl ?_
  refine g_invV (ci := 16) [.int v1] [] zy_X16_isAnswer wd_1491 wd_1493 wd_62 ⟨_, _, rfl⟩ (by decide) C dX16_ways_7 (by first | exact Nat.le_of_ble_eq_true rfl | simp [cat_rf]) (by first | exact Nat.le_of_ble_eq_true rfl | simp [cat_rf]) (by first | exact Nat.le_of_ble_eq_true rfl | simp [cat_rf]) (Nat.zero_le _) (Nat.zero_le _) rfl rfl (by rw [zK_uFi]; exact q1) (okX16_isAnswer hb) ?_
  rintro o σ2 ⟨y3, rfl, hb⟩
  refine ⟨_, rfl, ?_⟩
  refine g_if_eq (tgt := 25) C dX16_ways_10 (by decide) (fun c => ?_) (fun c => ?_)
  ·
    replace hb := hb.1 (c)
    refine g_iconst (v := (-1)) C dX16_ways_25 (by decide) ?_
    exact g_ireturn C hΓ (Nat.zero_le _) (Nat.zero_le _) dX16_ways_26 ⟨_, rfl, hb⟩
  ·
    replace hb := hb.2 (c)
    refine g_aload_n (some v0) C dX16_ways_13 0 rfl ?_
    obtain ⟨q4, hb⟩ := hb
    obtain ⟨a5, q6, hb⟩ := hb
    refine g_getR (some a5) C fl_RX16_31 dX16_ways_14 q4 rfl rfl q6 ?_
    obtain ⟨q7, hb⟩ := hb
    obtain ⟨a8, q9, hb⟩ := hb
    refine g_getR (some a8) C fl_RX16_226 dX16_ways_17 q7 rfl rfl q9 ?_
    refine g_iload_n C dX16_ways_20 1 rfl ?_
    obtain ⟨q10, hb⟩ := hb
    obtain ⟨q11, hb⟩ := hb
    refine g_ialdx (zAi σ2 a8 (ix v1)) C dX16_ways_21 q10 q11 rfl ?_
    refine g_goto (tgt := 26) C dX16_ways_22 (by decide) ?_
    exact g_ireturn C hΓ (Nat.zero_le _) (Nat.zero_le _) dX16_ways_26 ⟨_, rfl, hb⟩
theorem okX16_ways {v0 : Nat} {v1 : Int32} {σ : St} {Q : Int32 → St → Prop} (hb : wX16_ways v0 v1 σ Q) : hM yX16_ways cX16_ways 2 ((Option.some FieldType.int)) 1 21 0 0 [.ref v0, .int v1] σ (oI Q) :=
  hM_of (by decide) (Nat.le_of_ble_eq_true rfl) (fun Γ hΓ C => kwX16_ways_0 C hΓ _ _ _ hb)
def wX16_way_0 (Q : Int64 → St → Prop) (v0 : Nat) (v1 : Int32) (v2 : Int32) (σ : St) : Prop :=
  zK σ v0 = 17 ∧ wX16_isAnswer v0 v1 (uFi σ 1024 v0 0) (fun y3 σ2 => ((y3 = 0 → Q 0 σ2) ∧ (¬ y3 = 0 → ((v2 < 0 → Q 0 σ2) ∧ (¬ v2 < 0 → zK σ2 v0 = 17 ∧ ∃ a5 : Nat, zFr σ2 1050 v0 = some a5 ∧ zK σ2 a5 = 15 ∧ ∃ a8 : Nat, zFr σ2 899 a5 = some a8 ∧ zK σ2 a8 = 20 ∧ vp_in v1 (zL σ2 a8) ∧ (((zAi σ2 a8 (ix v1)) ≤ v2 → Q 0 σ2) ∧ (¬ (zAi σ2 a8 (ix v1)) ≤ v2 → ∃ a12 : Nat, zFr σ2 901 a5 = some a12 ∧ zK σ2 a12 = 21 ∧ vp_in ((16 * v1) + v2) (zL σ2 a12) ∧ Q (zAj σ2 a12 (ix ((16 * v1) + v2))) σ2)))))))
def wX16_way (v0 : Nat) (v1 : Int32) (v2 : Int32) (σ : St) (Q : Int64 → St → Prop) : Prop := wX16_way_0 Q v0 v1 v2 σ
set_option maxRecDepth 20000 in
theorem kwX16_way_0 {Γ : hCT} (C : hC Γ RX16 cX16_way ((Option.some FieldType.long)) "way" 1 21) {Q : Int64 → St → Prop} (hΓ : Γ.2.2.2.2.2.2.2.2.2.2.2 = (3, 0, 0, oJ Q)) (v0 : Nat) (v1 : Int32) (v2 : Int32) (σ : St) (hb : wX16_way_0 Q v0 v1 v2 σ) : hW Γ 0 0 0 [(0, .ref v0), (1, .int v1), (2, .int v2)] [] σ := by
  unfold wX16_way_0 at hb
  refine g_aload_n (some v0) C dX16_way_0 0 rfl ?_
  refine g_iconst (v := 0) C dX16_way_1 (by decide) ?_
  obtain ⟨q1, hb⟩ := hb
  refine g_putI C fl_RX16_1 dX16_way_2 q1 rfl rfl rfl rfl ?_
  refine g_aload_n (some v0) C dX16_way_5 0 rfl ?_
  refine g_iload_n C dX16_way_6 1 rfl ?_
  refine g_invV (ci := 16) [.int v1] [] zy_X16_isAnswer wd_1491 wd_1493 wd_62 ⟨_, _, rfl⟩ (by decide) C dX16_way_7 (by first | exact Nat.le_of_ble_eq_true rfl | simp [cat_rf]) (by first | exact Nat.le_of_ble_eq_true rfl | simp [cat_rf]) (by first | exact Nat.le_of_ble_eq_true rfl | simp [cat_rf]) (Nat.zero_le _) (Nat.zero_le _) rfl rfl (by rw [zK_uFi]; exact q1) (okX16_isAnswer hb) ?_
  rintro o σ2 ⟨y3, rfl, hb⟩
  refine ⟨_, rfl, ?_⟩
  refine g_if_eq (tgt := 47) C dX16_way_10 (by decide) (fun c => ?_) (fun c => ?_)
  ·
    replace hb := hb.1 (c)
    refine g_lconst (v := 0) C dX16_way_47 (by decide) ?_
    exact g_lreturn C hΓ (Nat.zero_le _) (Nat.zero_le _) dX16_way_48 ⟨_, rfl, hb⟩
  ·
    replace hb := hb.2 (c)
    refine g_iload_n C dX16_way_13 2 rfl ?_
    refine g_if_lt (tgt := 47) C dX16_way_14 (by decide) (fun c => ?_) (fun c => ?_)
    ·
      replace hb := hb.1 (c)
      refine g_lconst (v := 0) C dX16_way_47 (by decide) ?_
      exact g_lreturn C hΓ (Nat.zero_le _) (Nat.zero_le _) dX16_way_48 ⟨_, rfl, hb⟩
    ·
      replace hb := hb.2 (c)
      refine g_iload_n C dX16_way_17 2 rfl ?_
      refine g_aload_n (some v0) C dX16_way_18 0 rfl ?_
      obtain ⟨q4, hb⟩ := hb
      obtain ⟨a5, q6, hb⟩ := hb
      refine g_getR (some a5) C fl_RX16_31 dX16_way_19 q4 rfl rfl q6 ?_
      obtain ⟨q7, hb⟩ := hb
      obtain ⟨a8, q9, hb⟩ := hb
      refine g_getR (some a8) C fl_RX16_226 dX16_way_22 q7 rfl rfl q9 ?_
      refine g_iload_n C dX16_way_25 1 rfl ?_
      obtain ⟨q10, hb⟩ := hb
      obtain ⟨q11, hb⟩ := hb
      refine g_ialdx (zAi σ2 a8 (ix v1)) C dX16_way_26 q10 q11 rfl ?_
      refine g_icmp_ge (tgt := 47) C dX16_way_27 (by decide) (fun c => ?_) (fun c => ?_)
      ·
        replace hb := hb.1 (c)
        refine g_lconst (v := 0) C dX16_way_47 (by decide) ?_
        exact g_lreturn C hΓ (Nat.zero_le _) (Nat.zero_le _) dX16_way_48 ⟨_, rfl, hb⟩
      ·
        replace hb := hb.2 (c)
        refine g_aload_n (some v0) C dX16_way_30 0 rfl ?_
        refine g_getR (some a5) C fl_RX16_31 dX16_way_31 q4 rfl rfl q6 ?_
        obtain ⟨a12, q13, hb⟩ := hb
        refine g_getR (some a12) C fl_RX16_229 dX16_way_34 q7 rfl rfl q13 ?_
        refine g_bipush (v := 16) C dX16_way_37 (by decide) ?_
        refine g_iload_n C dX16_way_39 1 rfl ?_
        refine g_imul C dX16_way_40 ?_
        refine g_iload_n C dX16_way_41 2 rfl ?_
        refine g_iadd C dX16_way_42 ?_
        obtain ⟨q14, hb⟩ := hb
        obtain ⟨q15, hb⟩ := hb
        refine g_laldx (zAj σ2 a12 (ix ((16 * v1) + v2))) C dX16_way_43 q14 q15 rfl ?_
        refine g_goto (tgt := 48) C dX16_way_44 (by decide) ?_
        exact g_lreturn C hΓ (Nat.zero_le _) (Nat.zero_le _) dX16_way_48 ⟨_, rfl, hb⟩
theorem okX16_way {v0 : Nat} {v1 : Int32} {v2 : Int32} {σ : St} {Q : Int64 → St → Prop} (hb : wX16_way v0 v1 v2 σ Q) : hM yX16_way cX16_way 3 ((Option.some FieldType.long)) 1 21 0 0 [.ref v0, .int v1, .int v2] σ (oJ Q) :=
  hM_of (by decide) (Nat.le_of_ble_eq_true rfl) (fun Γ hΓ C => kwX16_way_0 C hΓ _ _ _ _ hb)
def wX16_need_22 (Q : Int64 → St → Prop) (r22 : Nat → Int32 → Int64 → Int32 → St → Prop) (v0 : Nat) (v1 : Int32) (v2 : Int64) (v4 : Int32) (σ : St) : Prop :=
  zK σ v0 = 17 ∧ ∃ a2 : Nat, zFr σ 1050 v0 = some a2 ∧ zK σ a2 = 15 ∧ ∃ a5 : Nat, zFr σ 899 a2 = some a5 ∧ zK σ a5 = 20 ∧ vp_in v1 (zL σ a5) ∧ (((zAi σ a5 (ix v1)) ≤ v4 → Q v2 σ) ∧ (¬ (zAi σ a5 (ix v1)) ≤ v4 → ∃ a9 : Nat, zFr σ 901 a2 = some a9 ∧ zK σ a9 = 21 ∧ vp_in ((16 * v1) + v4) (zL σ a9) ∧ r22 v0 v1 (v2 &&& (zAj σ a9 (ix ((16 * v1) + v4)))) (v4 + 1) σ))
def lX16_need_22 (Q : Int64 → St → Prop) : Nat → Nat → Int32 → Int64 → Int32 → St → Prop
  | 0, _, _, _, _, _ => False
  | f + 1, v0, v1, v2, v4, σ => wX16_need_22 Q (lX16_need_22 Q f) v0 v1 v2 v4 σ
def wX16_need_0 (Q : Int64 → St → Prop) (v0 : Nat) (v1 : Int32) (σ : St) : Prop :=
  zK σ v0 = 17 ∧ wX16_isAnswer v0 v1 (uFi σ 1024 v0 0) (fun y3 σ2 => ((¬ y3 = 0 → ∃ f, lX16_need_22 Q f v0 v1 (-1) 0 σ2) ∧ (y3 = 0 → Q 0 σ2)))
def wX16_need (v0 : Nat) (v1 : Int32) (σ : St) (Q : Int64 → St → Prop) : Prop := wX16_need_0 Q v0 v1 σ
set_option maxRecDepth 20000 in
theorem kwX16_need_22 {Γ : hCT} (C : hC Γ RX16 cX16_need ((Option.some FieldType.long)) "need" 1 21) {Q : Int64 → St → Prop} (hΓ : Γ.2.2.2.2.2.2.2.2.2.2.2 = (5, 0, 0, oJ Q)) {r22 : Nat → Int32 → Int64 → Int32 → St → Prop} (h22 : ∀ (v0 : Nat) (v1 : Int32) (v2 : Int64) (v4 : Int32) (σ : St), r22 v0 v1 v2 v4 σ → hW Γ 0 0 22 [(0, .ref v0), (1, .int v1), (2, .long v2), (4, .int v4)] [] σ) (v0 : Nat) (v1 : Int32) (v2 : Int64) (v4 : Int32) (σ : St) (hb : wX16_need_22 Q r22 v0 v1 v2 v4 σ) : hW Γ 0 0 22 [(0, .ref v0), (1, .int v1), (2, .long v2), (4, .int v4)] [] σ := by
  unfold wX16_need_22 at hb
  refine g_iload C dX16_need_22 3 rfl ?_
  refine g_aload_n (some v0) C dX16_need_24 0 rfl ?_
  obtain ⟨q1, hb⟩ := hb
  obtain ⟨a2, q3, hb⟩ := hb
  refine g_getR (some a2) C fl_RX16_31 dX16_need_25 q1 rfl rfl q3 ?_
  obtain ⟨q4, hb⟩ := hb
  obtain ⟨a5, q6, hb⟩ := hb
  refine g_getR (some a5) C fl_RX16_226 dX16_need_28 q4 rfl rfl q6 ?_
  refine g_iload_n C dX16_need_31 1 rfl ?_
  obtain ⟨q7, hb⟩ := hb
  obtain ⟨q8, hb⟩ := hb
  refine g_ialdx (zAi σ a5 (ix v1)) C dX16_need_32 q7 q8 rfl ?_
  refine g_icmp_ge (tgt := 60) C dX16_need_33 (by decide) (fun c => ?_) (fun c => ?_)
  ·
    replace hb := hb.1 (c)
    refine g_lload_n C dX16_need_60 2 rfl ?_
    exact g_lreturn C hΓ (Nat.zero_le _) (Nat.zero_le _) dX16_need_61 ⟨_, rfl, hb⟩
  ·
    replace hb := hb.2 (c)
    refine g_lload_n C dX16_need_36 2 rfl ?_
    refine g_aload_n (some v0) C dX16_need_37 0 rfl ?_
    refine g_getR (some a2) C fl_RX16_31 dX16_need_38 q1 rfl rfl q3 ?_
    obtain ⟨a9, q10, hb⟩ := hb
    refine g_getR (some a9) C fl_RX16_229 dX16_need_41 q4 rfl rfl q10 ?_
    refine g_bipush (v := 16) C dX16_need_44 (by decide) ?_
    refine g_iload_n C dX16_need_46 1 rfl ?_
    refine g_imul C dX16_need_47 ?_
    refine g_iload C dX16_need_48 3 rfl ?_
    refine g_iadd C dX16_need_50 ?_
    obtain ⟨q11, hb⟩ := hb
    obtain ⟨q12, hb⟩ := hb
    refine g_laldx (zAj σ a9 (ix ((16 * v1) + v4))) C dX16_need_51 q11 q12 rfl ?_
    refine g_land C dX16_need_52 ?_
    refine g_lstore_n (i := 2) (lv' := [(2, .long (v2 &&& (zAj σ a9 (ix ((16 * v1) + v4))))), (0, .ref v0), (1, .int v1), (4, .int v4)]) C dX16_need_53 rfl (hnl_of hΓ (by decide)) (by first | rfl | simp [cat_rf]) ?_
    refine g_iinc (v := v4 + 1) (lv' := [(4, .int (v4 + 1)), (2, .long (v2 &&& (zAj σ a9 (ix ((16 * v1) + v4))))), (0, .ref v0), (1, .int v1)]) C dX16_need_54 3 rfl rfl (hnl_of hΓ (by decide)) (by first | rfl | simp [cat_rf]) ?_
    refine g_goto (tgt := 22) C dX16_need_57 (by decide) ?_
    refine g_sub (lv' := [(0, .ref v0), (1, .int v1), (2, .long (v2 &&& (zAj σ a9 (ix ((16 * v1) + v4))))), (4, .int (v4 + 1))]) [2, 3, 1, 0] rfl ?_
    exact h22 _ _ _ _ _ hb
theorem klX16_need_22 {Γ : hCT} (C : hC Γ RX16 cX16_need ((Option.some FieldType.long)) "need" 1 21) {Q : Int64 → St → Prop} (hΓ : Γ.2.2.2.2.2.2.2.2.2.2.2 = (5, 0, 0, oJ Q)) (f : Nat) (v0 : Nat) (v1 : Int32) (v2 : Int64) (v4 : Int32) (σ : St) (hb : lX16_need_22 Q f v0 v1 v2 v4 σ) : hW Γ 0 0 22 [(0, .ref v0), (1, .int v1), (2, .long v2), (4, .int v4)] [] σ := by
  induction f generalizing v0 v1 v2 v4 σ with
  | zero => exact hb.elim
  | succ f ih => exact kwX16_need_22 C hΓ  (fun v0 v1 v2 v4 σ h => ih v0 v1 v2 v4 σ h) _ _ _ _ _ hb
set_option maxRecDepth 20000 in
theorem kwX16_need_0 {Γ : hCT} (C : hC Γ RX16 cX16_need ((Option.some FieldType.long)) "need" 1 21) {Q : Int64 → St → Prop} (hΓ : Γ.2.2.2.2.2.2.2.2.2.2.2 = (5, 0, 0, oJ Q)) (v0 : Nat) (v1 : Int32) (σ : St) (hb : wX16_need_0 Q v0 v1 σ) : hW Γ 0 0 0 [(0, .ref v0), (1, .int v1)] [] σ := by
  unfold wX16_need_0 at hb
  refine g_aload_n (some v0) C dX16_need_0 0 rfl ?_
  refine g_iconst (v := 0) C dX16_need_1 (by decide) ?_
  obtain ⟨q1, hb⟩ := hb
  refine g_putI C fl_RX16_1 dX16_need_2 q1 rfl rfl rfl rfl ?_
  refine g_aload_n (some v0) C dX16_need_5 0 rfl ?_
  refine g_iload_n C dX16_need_6 1 rfl ?_
  refine g_invV (ci := 16) [.int v1] [] zy_X16_isAnswer wd_1491 wd_1493 wd_62 ⟨_, _, rfl⟩ (by decide) C dX16_need_7 (by first | exact Nat.le_of_ble_eq_true rfl | simp [cat_rf]) (by first | exact Nat.le_of_ble_eq_true rfl | simp [cat_rf]) (by first | exact Nat.le_of_ble_eq_true rfl | simp [cat_rf]) (Nat.zero_le _) (Nat.zero_le _) rfl rfl (by rw [zK_uFi]; exact q1) (okX16_isAnswer hb) ?_
  rintro o σ2 ⟨y3, rfl, hb⟩
  refine ⟨_, rfl, ?_⟩
  refine g_if_ne (tgt := 15) C dX16_need_10 (by decide) (fun c => ?_) (fun c => ?_)
  ·
    replace hb := hb.1 (c)
    refine g_ldc2 C wd_1059 dX16_need_15 ?_
    refine g_lstore_n (i := 2) (lv' := [(2, .long (-1)), (0, .ref v0), (1, .int v1)]) C dX16_need_18 rfl (hnl_of hΓ (by decide)) (by first | rfl | simp [cat_rf]) ?_
    refine g_iconst (v := 0) C dX16_need_19 (by decide) ?_
    refine g_istore (lv' := [(4, .int 0), (2, .long (-1)), (0, .ref v0), (1, .int v1)]) C dX16_need_20 (hnl_of hΓ (by decide)) (by first | rfl | simp [cat_rf]) ?_
    refine g_sub (lv' := [(0, .ref v0), (1, .int v1), (2, .long (-1)), (4, .int 0)]) [2, 3, 1, 0] rfl ?_
    obtain ⟨f4, hb⟩ := hb
    exact klX16_need_22 C hΓ  f4 _ _ _ _ _ hb
  ·
    replace hb := hb.2 (c)
    refine g_lconst (v := 0) C dX16_need_13 (by decide) ?_
    exact g_lreturn C hΓ (Nat.zero_le _) (Nat.zero_le _) dX16_need_14 ⟨_, rfl, hb⟩
theorem okX16_need {v0 : Nat} {v1 : Int32} {σ : St} {Q : Int64 → St → Prop} (hb : wX16_need v0 v1 σ Q) : hM yX16_need cX16_need 5 ((Option.some FieldType.long)) 1 21 0 0 [.ref v0, .int v1] σ (oJ Q) :=
  hM_of (by decide) (Nat.le_of_ble_eq_true rfl) (fun Γ hΓ C => kwX16_need_0 C hΓ _ _ _ hb)
def wX16_count_34 (Q : Int64 → St → Prop) (v0 : Nat) (v1 : Int32) (s1 : Int32) (s0 : Nat) (σ : St) : Prop :=
  zK σ s0 = 17 ∧ zK σ v0 = 17 ∧ (((zFi (uFi σ 1025 s0 s1) 1057 v0) = 0 → Q 0 (uFi σ 1025 s0 s1)) ∧ (¬ (zFi (uFi σ 1025 s0 s1) 1057 v0) = 0 → ∃ a3 : Nat, zFr σ 1050 v0 = some a3 ∧ zK σ a3 = 15 ∧ ∃ a6 : Nat, zFr σ 902 a3 = some a6 ∧ zK σ a6 = 21 ∧ vp_in v1 (zL σ a6) ∧ Q (zAj σ a6 (ix v1)) (uFi σ 1025 s0 s1)))
def wX16_count_0 (Q : Int64 → St → Prop) (v0 : Nat) (v1 : Int32) (σ : St) : Prop :=
  zK σ v0 = 17 ∧ wX16_isAnswer v0 v1 (uFi σ 1024 v0 0) (fun y3 σ2 => ((¬ y3 = 0 → zK σ2 v0 = 17 ∧ (((zFi σ2 1057 v0) = 0 → wX16_count_34 Q v0 v1 6 v0 σ2) ∧ (¬ (zFi σ2 1057 v0) = 0 → wX16_count_34 Q v0 v1 0 v0 σ2))) ∧ (y3 = 0 → zK σ2 v0 = 17 ∧ Q 0 (uFi σ2 1025 v0 1))))
def wX16_count (v0 : Nat) (v1 : Int32) (σ : St) (Q : Int64 → St → Prop) : Prop := wX16_count_0 Q v0 v1 σ
set_option maxRecDepth 20000 in
theorem kwX16_count_34 {Γ : hCT} (C : hC Γ RX16 cX16_count ((Option.some FieldType.long)) "count" 1 21) {Q : Int64 → St → Prop} (hΓ : Γ.2.2.2.2.2.2.2.2.2.2.2 = (2, 0, 0, oJ Q)) (v0 : Nat) (v1 : Int32) (s1 : Int32) (s0 : Nat) (σ : St) (hb : wX16_count_34 Q v0 v1 s1 s0 σ) : hW Γ 0 0 34 [(0, .ref v0), (1, .int v1)] [.int s1, .ref s0] σ := by
  unfold wX16_count_34 at hb
  obtain ⟨q1, hb⟩ := hb
  refine g_putI C fl_RX16_7 dX16_count_34 q1 rfl rfl rfl rfl ?_
  refine g_aload_n (some v0) C dX16_count_37 0 rfl ?_
  obtain ⟨q2, hb⟩ := hb
  refine g_getIx (zFi (uFi σ 1025 s0 s1) 1057 v0) C fl_RX16_337 dX16_count_38 (by rw [zK_uFi]; exact q2) rfl rfl rfl ?_
  refine g_if_eq (tgt := 56) C dX16_count_41 (by decide) (fun c => ?_) (fun c => ?_)
  ·
    replace hb := hb.1 (c)
    refine g_lconst (v := 0) C dX16_count_56 (by decide) ?_
    exact g_lreturn C hΓ (Nat.zero_le _) (Nat.zero_le _) dX16_count_57 ⟨_, rfl, hb⟩
  ·
    replace hb := hb.2 (c)
    refine g_aload_n (some v0) C dX16_count_44 0 rfl ?_
    obtain ⟨a3, q4, hb⟩ := hb
    refine g_getR (some a3) C fl_RX16_31 dX16_count_45 (by rw [zK_uFi]; exact q2) rfl rfl (by rw [zFr_uFi]; exact q4) ?_
    obtain ⟨q5, hb⟩ := hb
    obtain ⟨a6, q7, hb⟩ := hb
    refine g_getR (some a6) C fl_RX16_242 dX16_count_48 (by rw [zK_uFi]; exact q5) rfl rfl (by rw [zFr_uFi]; exact q7) ?_
    refine g_iload_n C dX16_count_51 1 rfl ?_
    obtain ⟨q8, hb⟩ := hb
    obtain ⟨q9, hb⟩ := hb
    refine g_laldx (zAj σ a6 (ix v1)) C dX16_count_52 (by rw [zK_uFi]; exact q8) (by rw [zL_uFi]; exact q9) (by rw [zAj_uFi]) ?_
    refine g_goto (tgt := 57) C dX16_count_53 (by decide) ?_
    exact g_lreturn C hΓ (Nat.zero_le _) (Nat.zero_le _) dX16_count_57 ⟨_, rfl, hb⟩
set_option maxRecDepth 20000 in
theorem kwX16_count_0 {Γ : hCT} (C : hC Γ RX16 cX16_count ((Option.some FieldType.long)) "count" 1 21) {Q : Int64 → St → Prop} (hΓ : Γ.2.2.2.2.2.2.2.2.2.2.2 = (2, 0, 0, oJ Q)) (v0 : Nat) (v1 : Int32) (σ : St) (hb : wX16_count_0 Q v0 v1 σ) : hW Γ 0 0 0 [(0, .ref v0), (1, .int v1)] [] σ := by
  unfold wX16_count_0 at hb
  refine g_aload_n (some v0) C dX16_count_0 0 rfl ?_
  refine g_iconst (v := 0) C dX16_count_1 (by decide) ?_
  obtain ⟨q1, hb⟩ := hb
  refine g_putI C fl_RX16_1 dX16_count_2 q1 rfl rfl rfl rfl ?_
  refine g_aload_n (some v0) C dX16_count_5 0 rfl ?_
  refine g_iload_n C dX16_count_6 1 rfl ?_
  refine g_invV (ci := 16) [.int v1] [] zy_X16_isAnswer wd_1491 wd_1493 wd_62 ⟨_, _, rfl⟩ (by decide) C dX16_count_7 (by first | exact Nat.le_of_ble_eq_true rfl | simp [cat_rf]) (by first | exact Nat.le_of_ble_eq_true rfl | simp [cat_rf]) (by first | exact Nat.le_of_ble_eq_true rfl | simp [cat_rf]) (Nat.zero_le _) (Nat.zero_le _) rfl rfl (by rw [zK_uFi]; exact q1) (okX16_isAnswer hb) ?_
  rintro o σ2 ⟨y3, rfl, hb⟩
  refine ⟨_, rfl, ?_⟩
  refine g_if_ne (tgt := 20) C dX16_count_10 (by decide) (fun c => ?_) (fun c => ?_)
  ·
    replace hb := hb.1 (c)
    refine g_aload_n (some v0) C dX16_count_20 0 rfl ?_
    refine g_aload_n (some v0) C dX16_count_21 0 rfl ?_
    obtain ⟨q4, hb⟩ := hb
    refine g_getIx (zFi σ2 1057 v0) C fl_RX16_337 dX16_count_22 q4 rfl rfl rfl ?_
    refine g_if_eq (tgt := 32) C dX16_count_25 (by decide) (fun c => ?_) (fun c => ?_)
    ·
      replace hb := hb.1 (c)
      refine g_bipush (v := 6) C dX16_count_32 (by decide) ?_
      refine g_sub (lv' := [(0, .ref v0), (1, .int v1)]) [0, 1] rfl ?_
      exact kwX16_count_34 C hΓ  _ _ _ _ _ hb
    ·
      replace hb := hb.2 (c)
      refine g_iconst (v := 0) C dX16_count_28 (by decide) ?_
      refine g_goto (tgt := 34) C dX16_count_29 (by decide) ?_
      refine g_sub (lv' := [(0, .ref v0), (1, .int v1)]) [0, 1] rfl ?_
      exact kwX16_count_34 C hΓ  _ _ _ _ _ hb
  ·
    replace hb := hb.2 (c)
    refine g_aload_n (some v0) C dX16_count_13 0 rfl ?_
    refine g_iconst (v := 1) C dX16_count_14 (by decide) ?_
    obtain ⟨q5, hb⟩ := hb
    refine g_putI C fl_RX16_7 dX16_count_15 q5 rfl rfl rfl rfl ?_
    refine g_lconst (v := 0) C dX16_count_18 (by decide) ?_
    exact g_lreturn C hΓ (Nat.zero_le _) (Nat.zero_le _) dX16_count_19 ⟨_, rfl, hb⟩
theorem okX16_count {v0 : Nat} {v1 : Int32} {σ : St} {Q : Int64 → St → Prop} (hb : wX16_count v0 v1 σ Q) : hM yX16_count cX16_count 2 ((Option.some FieldType.long)) 1 21 0 0 [.ref v0, .int v1] σ (oJ Q) :=
  hM_of (by decide) (Nat.le_of_ble_eq_true rfl) (fun Γ hΓ C => kwX16_count_0 C hΓ _ _ _ hb)
def wX16_cost_0 (Q : Int32 → St → Prop) (v0 : Nat) (v1 : Int32) (σ : St) : Prop :=
  zK σ v0 = 17 ∧ wX16_isAnswer v0 v1 (uFi σ 1024 v0 0) (fun y3 σ2 => ((y3 = 0 → zK σ2 v0 = 17 ∧ wX16_refused v0 1 σ2 (fun y6 σ5 => Q y6 σ5)) ∧ (¬ y3 = 0 → zK σ2 v0 = 17 ∧ ∃ a8 : Nat, zFr σ2 1050 v0 = some a8 ∧ zK σ2 a8 = 15 ∧ ∃ a11 : Nat, zFr σ2 900 a8 = some a11 ∧ zK σ2 a11 = 20 ∧ vp_in v1 (zL σ2 a11) ∧ wX16_done v0 (zAi σ2 a11 (ix v1)) σ2 (fun y16 σ15 => Q y16 σ15))))
def wX16_cost (v0 : Nat) (v1 : Int32) (σ : St) (Q : Int32 → St → Prop) : Prop := wX16_cost_0 Q v0 v1 σ
set_option maxRecDepth 20000 in
theorem kwX16_cost_0 {Γ : hCT} (C : hC Γ RX16 cX16_cost ((Option.some FieldType.int)) "cost" 1 21) {Q : Int32 → St → Prop} (hΓ : Γ.2.2.2.2.2.2.2.2.2.2.2 = (2, 0, 0, oI Q)) (v0 : Nat) (v1 : Int32) (σ : St) (hb : wX16_cost_0 Q v0 v1 σ) : hW Γ 0 0 0 [(0, .ref v0), (1, .int v1)] [] σ := by
  unfold wX16_cost_0 at hb
  refine g_aload_n (some v0) C dX16_cost_0 0 rfl ?_
  refine g_iconst (v := 0) C dX16_cost_1 (by decide) ?_
  obtain ⟨q1, hb⟩ := hb
  refine g_putI C fl_RX16_1 dX16_cost_2 q1 rfl rfl rfl rfl ?_
  refine g_aload_n (some v0) C dX16_cost_5 0 rfl ?_
  refine g_iload_n C dX16_cost_6 1 rfl ?_
  refine g_invV (ci := 16) [.int v1] [] zy_X16_isAnswer wd_1491 wd_1493 wd_62 ⟨_, _, rfl⟩ (by decide) C dX16_cost_7 (by first | exact Nat.le_of_ble_eq_true rfl | simp [cat_rf]) (by first | exact Nat.le_of_ble_eq_true rfl | simp [cat_rf]) (by first | exact Nat.le_of_ble_eq_true rfl | simp [cat_rf]) (Nat.zero_le _) (Nat.zero_le _) rfl rfl (by rw [zK_uFi]; exact q1) (okX16_isAnswer hb) ?_
  rintro o σ2 ⟨y3, rfl, hb⟩
  refine ⟨_, rfl, ?_⟩
  refine g_if_eq (tgt := 29) C dX16_cost_10 (by decide) (fun c => ?_) (fun c => ?_)
  ·
    replace hb := hb.1 (c)
    refine g_aload_n (some v0) C dX16_cost_29 0 rfl ?_
    refine g_iconst (v := 1) C dX16_cost_30 (by decide) ?_
    obtain ⟨q4, hb⟩ := hb
    refine g_invV (ci := 16) [.int 1] [] zy_X16_refused wd_1005 wd_1007 wd_38 ⟨_, _, rfl⟩ (by decide) C dX16_cost_31 (by first | exact Nat.le_of_ble_eq_true rfl | simp [cat_rf]) (by first | exact Nat.le_of_ble_eq_true rfl | simp [cat_rf]) (by first | exact Nat.le_of_ble_eq_true rfl | simp [cat_rf]) (Nat.zero_le _) (Nat.zero_le _) rfl rfl q4 (okX16_refused hb) ?_
    rintro o σ5 ⟨y6, rfl, hb⟩
    refine ⟨_, rfl, ?_⟩
    exact g_ireturn C hΓ (Nat.zero_le _) (Nat.zero_le _) dX16_cost_34 ⟨_, rfl, hb⟩
  ·
    replace hb := hb.2 (c)
    refine g_aload_n (some v0) C dX16_cost_13 0 rfl ?_
    refine g_aload_n (some v0) C dX16_cost_14 0 rfl ?_
    obtain ⟨q7, hb⟩ := hb
    obtain ⟨a8, q9, hb⟩ := hb
    refine g_getR (some a8) C fl_RX16_31 dX16_cost_15 q7 rfl rfl q9 ?_
    obtain ⟨q10, hb⟩ := hb
    obtain ⟨a11, q12, hb⟩ := hb
    refine g_getR (some a11) C fl_RX16_245 dX16_cost_18 q10 rfl rfl q12 ?_
    refine g_iload_n C dX16_cost_21 1 rfl ?_
    obtain ⟨q13, hb⟩ := hb
    obtain ⟨q14, hb⟩ := hb
    refine g_ialdx (zAi σ2 a11 (ix v1)) C dX16_cost_22 q13 q14 rfl ?_
    refine g_invV (ci := 16) [.int (zAi σ2 a11 (ix v1))] [] zy_X16_done wd_1013 wd_1015 wd_40 ⟨_, _, rfl⟩ (by decide) C dX16_cost_23 (by first | exact Nat.le_of_ble_eq_true rfl | simp [cat_rf]) (by first | exact Nat.le_of_ble_eq_true rfl | simp [cat_rf]) (by first | exact Nat.le_of_ble_eq_true rfl | simp [cat_rf]) (Nat.zero_le _) (Nat.zero_le _) rfl rfl q7 (okX16_done hb) ?_
    rintro o σ15 ⟨y16, rfl, hb⟩
    refine ⟨_, rfl, ?_⟩
    refine g_goto (tgt := 34) C dX16_cost_26 (by decide) ?_
    exact g_ireturn C hΓ (Nat.zero_le _) (Nat.zero_le _) dX16_cost_34 ⟨_, rfl, hb⟩
theorem okX16_cost {v0 : Nat} {v1 : Int32} {σ : St} {Q : Int32 → St → Prop} (hb : wX16_cost v0 v1 σ Q) : hM yX16_cost cX16_cost 2 ((Option.some FieldType.int)) 1 21 0 0 [.ref v0, .int v1] σ (oI Q) :=
  hM_of (by decide) (Nat.le_of_ble_eq_true rfl) (fun Γ hΓ C => kwX16_cost_0 C hΓ _ _ _ hb)
def wX16_trust_0 (Q : Int64 → St → Prop) (v0 : Nat) (v1 : Int32) (σ : St) : Prop :=
  zK σ v0 = 17 ∧ wX16_isAnswer v0 v1 (uFi σ 1024 v0 0) (fun y3 σ2 => ((¬ y3 = 0 → zK σ2 v0 = 17 ∧ ∃ a5 : Nat, zFr σ2 1050 v0 = some a5 ∧ zK σ2 a5 = 15 ∧ ∃ a8 : Nat, zFr σ2 903 a5 = some a8 ∧ zK σ2 a8 = 22 ∧ vp_in v1 (zL σ2 a8) ∧ wJxe99ae_doubleToLongBits_ccdee (zAd σ2 a8 (ix v1)) (uFi σ2 1025 v0 0) (fun y13 σ12 => Q y13 σ12)) ∧ (y3 = 0 → zK σ2 v0 = 17 ∧ wX16_refused v0 1 σ2 (fun y16 σ15 => Q (Int32.toInt64 y16) σ15))))
def wX16_trust (v0 : Nat) (v1 : Int32) (σ : St) (Q : Int64 → St → Prop) : Prop := wX16_trust_0 Q v0 v1 σ
set_option maxRecDepth 20000 in
theorem kwX16_trust_0 {Γ : hCT} (C : hC Γ RX16 cX16_trust ((Option.some FieldType.long)) "trust" 2 61) {Q : Int64 → St → Prop} (hΓ : Γ.2.2.2.2.2.2.2.2.2.2.2 = (2, 0, 0, oJ Q)) (v0 : Nat) (v1 : Int32) (σ : St) (hb : wX16_trust_0 Q v0 v1 σ) : hW Γ 0 0 0 [(0, .ref v0), (1, .int v1)] [] σ := by
  unfold wX16_trust_0 at hb
  refine g_aload_n (some v0) C dX16_trust_0 0 rfl ?_
  refine g_iconst (v := 0) C dX16_trust_1 (by decide) ?_
  obtain ⟨q1, hb⟩ := hb
  refine g_putI C fl_RX16_1 dX16_trust_2 q1 rfl rfl rfl rfl ?_
  refine g_aload_n (some v0) C dX16_trust_5 0 rfl ?_
  refine g_iload_n C dX16_trust_6 1 rfl ?_
  refine g_invV (ci := 16) [.int v1] [] zy_X16_isAnswer wd_1491 wd_1493 wd_62 ⟨_, _, rfl⟩ (by decide) C dX16_trust_7 (by first | exact Nat.le_of_ble_eq_true rfl | simp [cat_rf]) (by first | exact Nat.le_of_ble_eq_true rfl | simp [cat_rf]) (by first | exact Nat.le_of_ble_eq_true rfl | simp [cat_rf]) (Nat.zero_le _) (Nat.zero_le _) rfl rfl (by rw [zK_uFi]; exact q1) (okX16_isAnswer hb) ?_
  rintro o σ2 ⟨y3, rfl, hb⟩
  refine ⟨_, rfl, ?_⟩
  refine g_if_ne (tgt := 20) C dX16_trust_10 (by decide) (fun c => ?_) (fun c => ?_)
  ·
    replace hb := hb.1 (c)
    refine g_aload_n (some v0) C dX16_trust_20 0 rfl ?_
    refine g_iconst (v := 0) C dX16_trust_21 (by decide) ?_
    obtain ⟨q4, hb⟩ := hb
    refine g_putI C fl_RX16_7 dX16_trust_22 q4 rfl rfl rfl rfl ?_
    refine g_aload_n (some v0) C dX16_trust_25 0 rfl ?_
    obtain ⟨a5, q6, hb⟩ := hb
    refine g_getR (some a5) C fl_RX16_31 dX16_trust_26 (by rw [zK_uFi]; exact q4) rfl rfl (by rw [zFr_uFi]; exact q6) ?_
    obtain ⟨q7, hb⟩ := hb
    obtain ⟨a8, q9, hb⟩ := hb
    refine g_getR (some a8) C fl_RX16_249 dX16_trust_29 (by rw [zK_uFi]; exact q7) rfl rfl (by rw [zFr_uFi]; exact q9) ?_
    refine g_iload_n C dX16_trust_32 1 rfl ?_
    obtain ⟨q10, hb⟩ := hb
    obtain ⟨q11, hb⟩ := hb
    refine g_daldx (zAd σ2 a8 (ix v1)) C dX16_trust_33 (by rw [zK_uFi]; exact q10) (by rw [zL_uFi]; exact q11) (by rw [zAd_uFi]) ?_
    refine g_invS [.double (zAd σ2 a8 (ix v1))] [] zy_Jxe99ae_doubleToLongBits_ccdee wd_1045 wd_1046 C dX16_trust_34 (by first | exact Nat.le_of_ble_eq_true rfl | simp [cat_rf]) (by first | exact Nat.le_of_ble_eq_true rfl | simp [cat_rf]) (by first | exact Nat.le_of_ble_eq_true rfl | simp [cat_rf]) (Nat.zero_le _) (Nat.zero_le _) rfl rfl  (okJxe99ae_doubleToLongBits_ccdee hb) ?_
    rintro o σ12 ⟨y13, rfl, hb⟩
    refine ⟨_, rfl, ?_⟩
    exact g_lreturn C hΓ (Nat.zero_le _) (Nat.zero_le _) dX16_trust_37 ⟨_, rfl, hb⟩
  ·
    replace hb := hb.2 (c)
    refine g_aload_n (some v0) C dX16_trust_13 0 rfl ?_
    refine g_iconst (v := 1) C dX16_trust_14 (by decide) ?_
    obtain ⟨q14, hb⟩ := hb
    refine g_invV (ci := 16) [.int 1] [] zy_X16_refused wd_1005 wd_1007 wd_38 ⟨_, _, rfl⟩ (by decide) C dX16_trust_15 (by first | exact Nat.le_of_ble_eq_true rfl | simp [cat_rf]) (by first | exact Nat.le_of_ble_eq_true rfl | simp [cat_rf]) (by first | exact Nat.le_of_ble_eq_true rfl | simp [cat_rf]) (Nat.zero_le _) (Nat.zero_le _) rfl rfl q14 (okX16_refused hb) ?_
    rintro o σ15 ⟨y16, rfl, hb⟩
    refine ⟨_, rfl, ?_⟩
    refine g_i2l C dX16_trust_18 ?_
    exact g_lreturn C hΓ (Nat.zero_le _) (Nat.zero_le _) dX16_trust_19 ⟨_, rfl, hb⟩
theorem okX16_trust {v0 : Nat} {v1 : Int32} {σ : St} {Q : Int64 → St → Prop} (hb : wX16_trust v0 v1 σ Q) : hM yX16_trust cX16_trust 2 ((Option.some FieldType.long)) 2 61 0 0 [.ref v0, .int v1] σ (oJ Q) :=
  hM_of (by decide) (Nat.le_of_ble_eq_true rfl) (fun Γ hΓ C => kwX16_trust_0 C hΓ _ _ _ hb)
def wX16_stays_31 (Q : Int32 → St → Prop) (s1 : Int32) (s0 : Nat) (σ : St) : Prop :=
  zK σ s0 = 17 ∧ wX16_done s0 s1 σ (fun y3 σ2 => Q y3 σ2)
def wX16_stays_0 (Q : Int32 → St → Prop) (v0 : Nat) (v1 : Int32) (σ : St) : Prop :=
  zK σ v0 = 17 ∧ wX16_isAnswer v0 v1 (uFi σ 1024 v0 0) (fun y3 σ2 => ((y3 = 0 → zK σ2 v0 = 17 ∧ wX16_refused v0 1 σ2 (fun y6 σ5 => Q y6 σ5)) ∧ (¬ y3 = 0 → zK σ2 v0 = 17 ∧ ∃ a8 : Nat, zFr σ2 1050 v0 = some a8 ∧ wX16_isTrue v0 a8 v1 σ2 (fun y11 σ10 => ((y11 = 0 → wX16_stays_31 Q 0 v0 σ10) ∧ (¬ y11 = 0 → wX16_stays_31 Q 1 v0 σ10))))))
def wX16_stays (v0 : Nat) (v1 : Int32) (σ : St) (Q : Int32 → St → Prop) : Prop := wX16_stays_0 Q v0 v1 σ
set_option maxRecDepth 20000 in
theorem kwX16_stays_31 {Γ : hCT} (C : hC Γ RX16 cX16_stays ((Option.some FieldType.int)) "stays" 2 48) {Q : Int32 → St → Prop} (hΓ : Γ.2.2.2.2.2.2.2.2.2.2.2 = (2, 0, 0, oI Q)) (s1 : Int32) (s0 : Nat) (σ : St) (hb : wX16_stays_31 Q s1 s0 σ) : hW Γ 0 0 31 [] [.int s1, .ref s0] σ := by
  unfold wX16_stays_31 at hb
  obtain ⟨q1, hb⟩ := hb
  refine g_invV (ci := 16) [.int s1] [] zy_X16_done wd_1013 wd_1015 wd_40 ⟨_, _, rfl⟩ (by decide) C dX16_stays_31 (by first | exact Nat.le_of_ble_eq_true rfl | simp [cat_rf]) (by first | exact Nat.le_of_ble_eq_true rfl | simp [cat_rf]) (by first | exact Nat.le_of_ble_eq_true rfl | simp [cat_rf]) (Nat.zero_le _) (Nat.zero_le _) rfl rfl q1 (okX16_done hb) ?_
  rintro o σ2 ⟨y3, rfl, hb⟩
  refine ⟨_, rfl, ?_⟩
  refine g_goto (tgt := 42) C dX16_stays_34 (by decide) ?_
  exact g_ireturn C hΓ (Nat.zero_le _) (Nat.zero_le _) dX16_stays_42 ⟨_, rfl, hb⟩
set_option maxRecDepth 20000 in
theorem kwX16_stays_0 {Γ : hCT} (C : hC Γ RX16 cX16_stays ((Option.some FieldType.int)) "stays" 2 48) {Q : Int32 → St → Prop} (hΓ : Γ.2.2.2.2.2.2.2.2.2.2.2 = (2, 0, 0, oI Q)) (v0 : Nat) (v1 : Int32) (σ : St) (hb : wX16_stays_0 Q v0 v1 σ) : hW Γ 0 0 0 [(0, .ref v0), (1, .int v1)] [] σ := by
  unfold wX16_stays_0 at hb
  refine g_aload_n (some v0) C dX16_stays_0 0 rfl ?_
  refine g_iconst (v := 0) C dX16_stays_1 (by decide) ?_
  obtain ⟨q1, hb⟩ := hb
  refine g_putI C fl_RX16_1 dX16_stays_2 q1 rfl rfl rfl rfl ?_
  refine g_aload_n (some v0) C dX16_stays_5 0 rfl ?_
  refine g_iload_n C dX16_stays_6 1 rfl ?_
  refine g_invV (ci := 16) [.int v1] [] zy_X16_isAnswer wd_1491 wd_1493 wd_62 ⟨_, _, rfl⟩ (by decide) C dX16_stays_7 (by first | exact Nat.le_of_ble_eq_true rfl | simp [cat_rf]) (by first | exact Nat.le_of_ble_eq_true rfl | simp [cat_rf]) (by first | exact Nat.le_of_ble_eq_true rfl | simp [cat_rf]) (Nat.zero_le _) (Nat.zero_le _) rfl rfl (by rw [zK_uFi]; exact q1) (okX16_isAnswer hb) ?_
  rintro o σ2 ⟨y3, rfl, hb⟩
  refine ⟨_, rfl, ?_⟩
  refine g_if_eq (tgt := 37) C dX16_stays_10 (by decide) (fun c => ?_) (fun c => ?_)
  ·
    replace hb := hb.1 (c)
    refine g_aload_n (some v0) C dX16_stays_37 0 rfl ?_
    refine g_iconst (v := 1) C dX16_stays_38 (by decide) ?_
    obtain ⟨q4, hb⟩ := hb
    refine g_invV (ci := 16) [.int 1] [] zy_X16_refused wd_1005 wd_1007 wd_38 ⟨_, _, rfl⟩ (by decide) C dX16_stays_39 (by first | exact Nat.le_of_ble_eq_true rfl | simp [cat_rf]) (by first | exact Nat.le_of_ble_eq_true rfl | simp [cat_rf]) (by first | exact Nat.le_of_ble_eq_true rfl | simp [cat_rf]) (Nat.zero_le _) (Nat.zero_le _) rfl rfl q4 (okX16_refused hb) ?_
    rintro o σ5 ⟨y6, rfl, hb⟩
    refine ⟨_, rfl, ?_⟩
    exact g_ireturn C hΓ (Nat.zero_le _) (Nat.zero_le _) dX16_stays_42 ⟨_, rfl, hb⟩
  ·
    replace hb := hb.2 (c)
    refine g_aload_n (some v0) C dX16_stays_13 0 rfl ?_
    refine g_aload_n (some v0) C dX16_stays_14 0 rfl ?_
    refine g_aload_n (some v0) C dX16_stays_15 0 rfl ?_
    obtain ⟨q7, hb⟩ := hb
    obtain ⟨a8, q9, hb⟩ := hb
    refine g_getR (some a8) C fl_RX16_31 dX16_stays_16 q7 rfl rfl q9 ?_
    refine g_iload_n C dX16_stays_19 1 rfl ?_
    refine g_invV (ci := 16) [.ref a8, .int v1] [.ref v0] zy_X16_isTrue wd_1476 wd_1478 wd_60 ⟨_, _, rfl⟩ (by decide) C dX16_stays_20 (by first | exact Nat.le_of_ble_eq_true rfl | simp [cat_rf]) (by first | exact Nat.le_of_ble_eq_true rfl | simp [cat_rf]) (by first | exact Nat.le_of_ble_eq_true rfl | simp [cat_rf]) (Nat.zero_le _) (Nat.zero_le _) rfl rfl q7 (okX16_isTrue hb) ?_
    rintro o σ10 ⟨y11, rfl, hb⟩
    refine ⟨_, rfl, ?_⟩
    refine g_if_eq (tgt := 30) C dX16_stays_23 (by decide) (fun c => ?_) (fun c => ?_)
    ·
      replace hb := hb.1 (c)
      refine g_iconst (v := 0) C dX16_stays_30 (by decide) ?_
      refine g_sub (lv' := []) [] rfl ?_
      exact kwX16_stays_31 C hΓ  _ _ _ hb
    ·
      replace hb := hb.2 (c)
      refine g_iconst (v := 1) C dX16_stays_26 (by decide) ?_
      refine g_goto (tgt := 31) C dX16_stays_27 (by decide) ?_
      refine g_sub (lv' := []) [] rfl ?_
      exact kwX16_stays_31 C hΓ  _ _ _ hb
theorem okX16_stays {v0 : Nat} {v1 : Int32} {σ : St} {Q : Int32 → St → Prop} (hb : wX16_stays v0 v1 σ Q) : hM yX16_stays cX16_stays 2 ((Option.some FieldType.int)) 2 48 0 0 [.ref v0, .int v1] σ (oI Q) :=
  hM_of (by decide) (Nat.le_of_ble_eq_true rfl) (fun Γ hΓ C => kwX16_stays_0 C hΓ _ _ _ hb)
def wX16_isMade_6 (Q : Int32 → St → Prop) (r6 : Nat → Int32 → Int64 → Int32 → Int32 → St → Prop) (v0 : Nat) (v1 : Int32) (v2 : Int64) (v4 : Int32) (v5 : Int32) (σ : St) : Prop :=
  zK σ v0 = 17 ∧ ∃ a2 : Nat, zFr σ 1050 v0 = some a2 ∧ zK σ a2 = 15 ∧ ∃ a5 : Nat, zFr σ 899 a2 = some a5 ∧ zK σ a5 = 20 ∧ vp_in v1 (zL σ a5) ∧ (((zAi σ a5 (ix v1)) ≤ v5 → (v4 = 0 ∨ v4 = 1) ∧ Q v4 σ) ∧ (¬ (zAi σ a5 (ix v1)) ≤ v5 → ((¬ v4 = 0 → r6 v0 v1 v2 1 (v5 + 1) σ) ∧ (v4 = 0 → ∃ a10 : Nat, zFr σ 901 a2 = some a10 ∧ zK σ a10 = 21 ∧ vp_in ((16 * v1) + v5) (zL σ a10) ∧ ((¬ ((zAj σ a10 (ix ((16 * v1) + v5))) &&& (v2 ^^^ (-1))) = 0 → r6 v0 v1 v2 0 (v5 + 1) σ) ∧ (((zAj σ a10 (ix ((16 * v1) + v5))) &&& (v2 ^^^ (-1))) = 0 → r6 v0 v1 v2 1 (v5 + 1) σ))))))
def lX16_isMade_6 (Q : Int32 → St → Prop) : Nat → Nat → Int32 → Int64 → Int32 → Int32 → St → Prop
  | 0, _, _, _, _, _, _ => False
  | f + 1, v0, v1, v2, v4, v5, σ => wX16_isMade_6 Q (lX16_isMade_6 Q f) v0 v1 v2 v4 v5 σ
def wX16_isMade_0 (Q : Int32 → St → Prop) (v0 : Nat) (v1 : Int32) (v2 : Int64) (σ : St) : Prop :=
  ∃ f, lX16_isMade_6 Q f v0 v1 v2 0 0 σ
def wX16_isMade (v0 : Nat) (v1 : Int32) (v2 : Int64) (σ : St) (Q : Int32 → St → Prop) : Prop := wX16_isMade_0 Q v0 v1 v2 σ
set_option maxRecDepth 20000 in
theorem kwX16_isMade_6 {Γ : hCT} (C : hC Γ RX16 cX16_isMade ((Option.some FieldType.boolean)) "isMade" 0 0) {Q : Int32 → St → Prop} (hΓ : Γ.2.2.2.2.2.2.2.2.2.2.2 = (6, 0, 0, oI Q)) {r6 : Nat → Int32 → Int64 → Int32 → Int32 → St → Prop} (h6 : ∀ (v0 : Nat) (v1 : Int32) (v2 : Int64) (v4 : Int32) (v5 : Int32) (σ : St), r6 v0 v1 v2 v4 v5 σ → hW Γ 0 0 6 [(0, .ref v0), (1, .int v1), (2, .long v2), (4, .int v4), (5, .int v5)] [] σ) (v0 : Nat) (v1 : Int32) (v2 : Int64) (v4 : Int32) (v5 : Int32) (σ : St) (hb : wX16_isMade_6 Q r6 v0 v1 v2 v4 v5 σ) : hW Γ 0 0 6 [(0, .ref v0), (1, .int v1), (2, .long v2), (4, .int v4), (5, .int v5)] [] σ := by
  unfold wX16_isMade_6 at hb
  refine g_iload C dX16_isMade_6 4 rfl ?_
  refine g_aload_n (some v0) C dX16_isMade_8 0 rfl ?_
  obtain ⟨q1, hb⟩ := hb
  obtain ⟨a2, q3, hb⟩ := hb
  refine g_getR (some a2) C fl_RX16_31 dX16_isMade_9 q1 rfl rfl q3 ?_
  obtain ⟨q4, hb⟩ := hb
  obtain ⟨a5, q6, hb⟩ := hb
  refine g_getR (some a5) C fl_RX16_226 dX16_isMade_12 q4 rfl rfl q6 ?_
  refine g_iload_n C dX16_isMade_15 1 rfl ?_
  obtain ⟨q7, hb⟩ := hb
  obtain ⟨q8, hb⟩ := hb
  refine g_ialdx (zAi σ a5 (ix v1)) C dX16_isMade_16 q7 q8 rfl ?_
  refine g_icmp_ge (tgt := 64) C dX16_isMade_17 (by decide) (fun c => ?_) (fun c => ?_)
  ·
    replace hb := hb.1 (c)
    refine g_iload C dX16_isMade_64 3 rfl ?_
    obtain ⟨q9, hb⟩ := hb
    exact g_zreturn C (nz_n q9) hΓ (Nat.zero_le _) (Nat.zero_le _) dX16_isMade_66 ⟨_, rfl, hb⟩
  ·
    replace hb := hb.2 (c)
    refine g_iload C dX16_isMade_20 3 rfl ?_
    refine g_if_ne (tgt := 51) C dX16_isMade_22 (by decide) (fun c => ?_) (fun c => ?_)
    ·
      replace hb := hb.1 (c)
      refine g_iconst (v := 1) C dX16_isMade_51 (by decide) ?_
      refine g_goto (tgt := 56) C dX16_isMade_52 (by decide) ?_
      refine g_istore (lv' := [(4, .int 1), (0, .ref v0), (1, .int v1), (2, .long v2), (5, .int v5)]) C dX16_isMade_56 (hnl_of hΓ (by decide)) (by first | rfl | simp [cat_rf]) ?_
      refine g_iinc (v := v5 + 1) (lv' := [(5, .int (v5 + 1)), (4, .int 1), (0, .ref v0), (1, .int v1), (2, .long v2)]) C dX16_isMade_58 4 rfl rfl (hnl_of hΓ (by decide)) (by first | rfl | simp [cat_rf]) ?_
      refine g_goto (tgt := 6) C dX16_isMade_61 (by decide) ?_
      refine g_sub (lv' := [(0, .ref v0), (1, .int v1), (2, .long v2), (4, .int 1), (5, .int (v5 + 1))]) [2, 3, 4, 1, 0] rfl ?_
      exact h6 _ _ _ _ _ _ hb
    ·
      replace hb := hb.2 (c)
      refine g_aload_n (some v0) C dX16_isMade_25 0 rfl ?_
      refine g_getR (some a2) C fl_RX16_31 dX16_isMade_26 q1 rfl rfl q3 ?_
      obtain ⟨a10, q11, hb⟩ := hb
      refine g_getR (some a10) C fl_RX16_229 dX16_isMade_29 q4 rfl rfl q11 ?_
      refine g_bipush (v := 16) C dX16_isMade_32 (by decide) ?_
      refine g_iload_n C dX16_isMade_34 1 rfl ?_
      refine g_imul C dX16_isMade_35 ?_
      refine g_iload C dX16_isMade_36 4 rfl ?_
      refine g_iadd C dX16_isMade_38 ?_
      obtain ⟨q12, hb⟩ := hb
      obtain ⟨q13, hb⟩ := hb
      refine g_laldx (zAj σ a10 (ix ((16 * v1) + v5))) C dX16_isMade_39 q12 q13 rfl ?_
      refine g_lload_n C dX16_isMade_40 2 rfl ?_
      refine g_ldc2 C wd_1059 dX16_isMade_41 ?_
      refine g_lxor C dX16_isMade_44 ?_
      refine g_land C dX16_isMade_45 ?_
      refine g_lconst (v := 0) C dX16_isMade_46 (by decide) ?_
      refine g_lcmp C dX16_isMade_47 ?_
      refine g_if_ne (tgt := 55) C dX16_isMade_48 (by decide) (fun c => ?_) (fun c => ?_)
      ·
        replace hb := hb.1 (lc_ne.mp c)
        refine g_iconst (v := 0) C dX16_isMade_55 (by decide) ?_
        refine g_istore (lv' := [(4, .int 0), (0, .ref v0), (1, .int v1), (2, .long v2), (5, .int v5)]) C dX16_isMade_56 (hnl_of hΓ (by decide)) (by first | rfl | simp [cat_rf]) ?_
        refine g_iinc (v := v5 + 1) (lv' := [(5, .int (v5 + 1)), (4, .int 0), (0, .ref v0), (1, .int v1), (2, .long v2)]) C dX16_isMade_58 4 rfl rfl (hnl_of hΓ (by decide)) (by first | rfl | simp [cat_rf]) ?_
        refine g_goto (tgt := 6) C dX16_isMade_61 (by decide) ?_
        refine g_sub (lv' := [(0, .ref v0), (1, .int v1), (2, .long v2), (4, .int 0), (5, .int (v5 + 1))]) [2, 3, 4, 1, 0] rfl ?_
        exact h6 _ _ _ _ _ _ hb
      ·
        replace hb := hb.2 (lcn_ne.mp c)
        refine g_iconst (v := 1) C dX16_isMade_51 (by decide) ?_
        refine g_goto (tgt := 56) C dX16_isMade_52 (by decide) ?_
        refine g_istore (lv' := [(4, .int 1), (0, .ref v0), (1, .int v1), (2, .long v2), (5, .int v5)]) C dX16_isMade_56 (hnl_of hΓ (by decide)) (by first | rfl | simp [cat_rf]) ?_
        refine g_iinc (v := v5 + 1) (lv' := [(5, .int (v5 + 1)), (4, .int 1), (0, .ref v0), (1, .int v1), (2, .long v2)]) C dX16_isMade_58 4 rfl rfl (hnl_of hΓ (by decide)) (by first | rfl | simp [cat_rf]) ?_
        refine g_goto (tgt := 6) C dX16_isMade_61 (by decide) ?_
        refine g_sub (lv' := [(0, .ref v0), (1, .int v1), (2, .long v2), (4, .int 1), (5, .int (v5 + 1))]) [2, 3, 4, 1, 0] rfl ?_
        exact h6 _ _ _ _ _ _ hb
theorem klX16_isMade_6 {Γ : hCT} (C : hC Γ RX16 cX16_isMade ((Option.some FieldType.boolean)) "isMade" 0 0) {Q : Int32 → St → Prop} (hΓ : Γ.2.2.2.2.2.2.2.2.2.2.2 = (6, 0, 0, oI Q)) (f : Nat) (v0 : Nat) (v1 : Int32) (v2 : Int64) (v4 : Int32) (v5 : Int32) (σ : St) (hb : lX16_isMade_6 Q f v0 v1 v2 v4 v5 σ) : hW Γ 0 0 6 [(0, .ref v0), (1, .int v1), (2, .long v2), (4, .int v4), (5, .int v5)] [] σ := by
  induction f generalizing v0 v1 v2 v4 v5 σ with
  | zero => exact hb.elim
  | succ f ih => exact kwX16_isMade_6 C hΓ  (fun v0 v1 v2 v4 v5 σ h => ih v0 v1 v2 v4 v5 σ h) _ _ _ _ _ _ hb
set_option maxRecDepth 20000 in
theorem kwX16_isMade_0 {Γ : hCT} (C : hC Γ RX16 cX16_isMade ((Option.some FieldType.boolean)) "isMade" 0 0) {Q : Int32 → St → Prop} (hΓ : Γ.2.2.2.2.2.2.2.2.2.2.2 = (6, 0, 0, oI Q)) (v0 : Nat) (v1 : Int32) (v2 : Int64) (σ : St) (hb : wX16_isMade_0 Q v0 v1 v2 σ) : hW Γ 0 0 0 [(0, .ref v0), (1, .int v1), (2, .long v2)] [] σ := by
  unfold wX16_isMade_0 at hb
  refine g_iconst (v := 0) C dX16_isMade_0 (by decide) ?_
  refine g_istore (lv' := [(4, .int 0), (0, .ref v0), (1, .int v1), (2, .long v2)]) C dX16_isMade_1 (hnl_of hΓ (by decide)) (by first | rfl | simp [cat_rf]) ?_
  refine g_iconst (v := 0) C dX16_isMade_3 (by decide) ?_
  refine g_istore (lv' := [(5, .int 0), (4, .int 0), (0, .ref v0), (1, .int v1), (2, .long v2)]) C dX16_isMade_4 (hnl_of hΓ (by decide)) (by first | rfl | simp [cat_rf]) ?_
  refine g_sub (lv' := [(0, .ref v0), (1, .int v1), (2, .long v2), (4, .int 0), (5, .int 0)]) [2, 3, 4, 1, 0] rfl ?_
  obtain ⟨f1, hb⟩ := hb
  exact klX16_isMade_6 C hΓ  f1 _ _ _ _ _ _ hb
theorem okX16_isMade {v0 : Nat} {v1 : Int32} {v2 : Int64} {σ : St} {Q : Int32 → St → Prop} (hb : wX16_isMade v0 v1 v2 σ Q) : hM yX16_isMade cX16_isMade 6 ((Option.some FieldType.boolean)) 0 0 0 0 [.ref v0, .int v1, .long v2] σ (oI Q) :=
  hM_of (by decide) (Nat.le_of_ble_eq_true rfl) (fun Γ hΓ C => kwX16_isMade_0 C hΓ _ _ _ _ hb)
def wX16_without_10 (Q : Int32 → St → Prop) (r10 : Nat → Int64 → Int32 → Int32 → St → Prop) (v0 : Nat) (v1 : Int64) (v3 : Int32) (v4 : Int32) (σ : St) : Prop :=
  zK σ v0 = 17 ∧ ∃ a2 : Nat, zFr σ 1050 v0 = some a2 ∧ zK σ a2 = 15 ∧ (((zFi σ 896 a2) ≤ v4 → Q v3 σ) ∧ (¬ (zFi σ 896 a2) ≤ v4 → wX16_isMade v0 v4 v1 σ (fun y6 σ5 => ((y6 = 0 → r10 v0 v1 (v3 + 1) (v4 + 1) σ5) ∧ (¬ y6 = 0 → r10 v0 v1 (v3 + 0) (v4 + 1) σ5)))))
def lX16_without_10 (Q : Int32 → St → Prop) : Nat → Nat → Int64 → Int32 → Int32 → St → Prop
  | 0, _, _, _, _, _ => False
  | f + 1, v0, v1, v3, v4, σ => wX16_without_10 Q (lX16_without_10 Q f) v0 v1 v3 v4 σ
def wX16_without_0 (Q : Int32 → St → Prop) (v0 : Nat) (v1 : Int64) (σ : St) : Prop :=
  zK σ v0 = 17 ∧ ∃ f, lX16_without_10 Q f v0 v1 0 0 (uFi σ 1024 v0 0)
def wX16_without (v0 : Nat) (v1 : Int64) (σ : St) (Q : Int32 → St → Prop) : Prop := wX16_without_0 Q v0 v1 σ
set_option maxRecDepth 20000 in
theorem kwX16_without_10 {Γ : hCT} (C : hC Γ RX16 cX16_without ((Option.some FieldType.int)) "without" 1 25) {Q : Int32 → St → Prop} (hΓ : Γ.2.2.2.2.2.2.2.2.2.2.2 = (5, 0, 0, oI Q)) {r10 : Nat → Int64 → Int32 → Int32 → St → Prop} (h10 : ∀ (v0 : Nat) (v1 : Int64) (v3 : Int32) (v4 : Int32) (σ : St), r10 v0 v1 v3 v4 σ → hW Γ 0 0 10 [(0, .ref v0), (1, .long v1), (3, .int v3), (4, .int v4)] [] σ) (v0 : Nat) (v1 : Int64) (v3 : Int32) (v4 : Int32) (σ : St) (hb : wX16_without_10 Q r10 v0 v1 v3 v4 σ) : hW Γ 0 0 10 [(0, .ref v0), (1, .long v1), (3, .int v3), (4, .int v4)] [] σ := by
  unfold wX16_without_10 at hb
  refine g_iload C dX16_without_10 3 rfl ?_
  refine g_aload_n (some v0) C dX16_without_12 0 rfl ?_
  obtain ⟨q1, hb⟩ := hb
  obtain ⟨a2, q3, hb⟩ := hb
  refine g_getR (some a2) C fl_RX16_31 dX16_without_13 q1 rfl rfl q3 ?_
  obtain ⟨q4, hb⟩ := hb
  refine g_getIx (zFi σ 896 a2) C fl_RX16_35 dX16_without_16 q4 rfl rfl rfl ?_
  refine g_icmp_ge (tgt := 46) C dX16_without_19 (by decide) (fun c => ?_) (fun c => ?_)
  ·
    replace hb := hb.1 (c)
    refine g_iload_n C dX16_without_46 2 rfl ?_
    exact g_ireturn C hΓ (Nat.zero_le _) (Nat.zero_le _) dX16_without_47 ⟨_, rfl, hb⟩
  ·
    replace hb := hb.2 (c)
    refine g_iload_n C dX16_without_22 2 rfl ?_
    refine g_aload_n (some v0) C dX16_without_23 0 rfl ?_
    refine g_iload C dX16_without_24 3 rfl ?_
    refine g_lload_n C dX16_without_26 1 rfl ?_
    refine g_invV (ci := 16) [.int v4, .long v1] [.int v3] zy_X16_isMade wd_1531 wd_1533 wd_63 ⟨_, _, rfl⟩ (by decide) C dX16_without_27 (by first | exact Nat.le_of_ble_eq_true rfl | simp [cat_rf]) (by first | exact Nat.le_of_ble_eq_true rfl | simp [cat_rf]) (by first | exact Nat.le_of_ble_eq_true rfl | simp [cat_rf]) (Nat.zero_le _) (Nat.zero_le _) rfl rfl q1 (okX16_isMade hb) ?_
    rintro o σ5 ⟨y6, rfl, hb⟩
    refine ⟨_, rfl, ?_⟩
    refine g_if_eq (tgt := 37) C dX16_without_30 (by decide) (fun c => ?_) (fun c => ?_)
    ·
      replace hb := hb.1 (c)
      refine g_iconst (v := 1) C dX16_without_37 (by decide) ?_
      refine g_iadd C dX16_without_38 ?_
      refine g_istore_n (i := 3) (lv' := [(3, .int (v3 + 1)), (0, .ref v0), (1, .long v1), (4, .int v4)]) C dX16_without_39 rfl (hnl_of hΓ (by decide)) (by first | rfl | simp [cat_rf]) ?_
      refine g_iinc (v := v4 + 1) (lv' := [(4, .int (v4 + 1)), (3, .int (v3 + 1)), (0, .ref v0), (1, .long v1)]) C dX16_without_40 3 rfl rfl (hnl_of hΓ (by decide)) (by first | rfl | simp [cat_rf]) ?_
      refine g_goto (tgt := 10) C dX16_without_43 (by decide) ?_
      refine g_sub (lv' := [(0, .ref v0), (1, .long v1), (3, .int (v3 + 1)), (4, .int (v4 + 1))]) [2, 3, 1, 0] rfl ?_
      exact h10 _ _ _ _ _ hb
    ·
      replace hb := hb.2 (c)
      refine g_iconst (v := 0) C dX16_without_33 (by decide) ?_
      refine g_goto (tgt := 38) C dX16_without_34 (by decide) ?_
      refine g_iadd C dX16_without_38 ?_
      refine g_istore_n (i := 3) (lv' := [(3, .int (v3 + 0)), (0, .ref v0), (1, .long v1), (4, .int v4)]) C dX16_without_39 rfl (hnl_of hΓ (by decide)) (by first | rfl | simp [cat_rf]) ?_
      refine g_iinc (v := v4 + 1) (lv' := [(4, .int (v4 + 1)), (3, .int (v3 + 0)), (0, .ref v0), (1, .long v1)]) C dX16_without_40 3 rfl rfl (hnl_of hΓ (by decide)) (by first | rfl | simp [cat_rf]) ?_
      refine g_goto (tgt := 10) C dX16_without_43 (by decide) ?_
      refine g_sub (lv' := [(0, .ref v0), (1, .long v1), (3, .int (v3 + 0)), (4, .int (v4 + 1))]) [2, 3, 1, 0] rfl ?_
      exact h10 _ _ _ _ _ hb
theorem klX16_without_10 {Γ : hCT} (C : hC Γ RX16 cX16_without ((Option.some FieldType.int)) "without" 1 25) {Q : Int32 → St → Prop} (hΓ : Γ.2.2.2.2.2.2.2.2.2.2.2 = (5, 0, 0, oI Q)) (f : Nat) (v0 : Nat) (v1 : Int64) (v3 : Int32) (v4 : Int32) (σ : St) (hb : lX16_without_10 Q f v0 v1 v3 v4 σ) : hW Γ 0 0 10 [(0, .ref v0), (1, .long v1), (3, .int v3), (4, .int v4)] [] σ := by
  induction f generalizing v0 v1 v3 v4 σ with
  | zero => exact hb.elim
  | succ f ih => exact kwX16_without_10 C hΓ  (fun v0 v1 v3 v4 σ h => ih v0 v1 v3 v4 σ h) _ _ _ _ _ hb
set_option maxRecDepth 20000 in
theorem kwX16_without_0 {Γ : hCT} (C : hC Γ RX16 cX16_without ((Option.some FieldType.int)) "without" 1 25) {Q : Int32 → St → Prop} (hΓ : Γ.2.2.2.2.2.2.2.2.2.2.2 = (5, 0, 0, oI Q)) (v0 : Nat) (v1 : Int64) (σ : St) (hb : wX16_without_0 Q v0 v1 σ) : hW Γ 0 0 0 [(0, .ref v0), (1, .long v1)] [] σ := by
  unfold wX16_without_0 at hb
  refine g_aload_n (some v0) C dX16_without_0 0 rfl ?_
  refine g_iconst (v := 0) C dX16_without_1 (by decide) ?_
  obtain ⟨q1, hb⟩ := hb
  refine g_putI C fl_RX16_1 dX16_without_2 q1 rfl rfl rfl rfl ?_
  refine g_iconst (v := 0) C dX16_without_5 (by decide) ?_
  refine g_istore_n (i := 3) (lv' := [(3, .int 0), (0, .ref v0), (1, .long v1)]) C dX16_without_6 rfl (hnl_of hΓ (by decide)) (by first | rfl | simp [cat_rf]) ?_
  refine g_iconst (v := 0) C dX16_without_7 (by decide) ?_
  refine g_istore (lv' := [(4, .int 0), (3, .int 0), (0, .ref v0), (1, .long v1)]) C dX16_without_8 (hnl_of hΓ (by decide)) (by first | rfl | simp [cat_rf]) ?_
  refine g_sub (lv' := [(0, .ref v0), (1, .long v1), (3, .int 0), (4, .int 0)]) [2, 3, 1, 0] rfl ?_
  obtain ⟨f2, hb⟩ := hb
  exact klX16_without_10 C hΓ  f2 _ _ _ _ _ hb
theorem okX16_without {v0 : Nat} {v1 : Int64} {σ : St} {Q : Int32 → St → Prop} (hb : wX16_without v0 v1 σ Q) : hM yX16_without cX16_without 5 ((Option.some FieldType.int)) 1 25 0 0 [.ref v0, .long v1] σ (oI Q) :=
  hM_of (by decide) (Nat.le_of_ble_eq_true rfl) (fun Γ hΓ C => kwX16_without_0 C hΓ _ _ _ hb)
def wX16_with_28 (Q : Int32 → St → Prop) (s1 : Int32) (s0 : Nat) (σ : St) : Prop :=
  zK σ s0 = 17 ∧ wX16_done s0 s1 σ (fun y3 σ2 => Q y3 σ2)
def wX16_with_0 (Q : Int32 → St → Prop) (v0 : Nat) (v1 : Int32) (v2 : Int64) (σ : St) : Prop :=
  zK σ v0 = 17 ∧ wX16_isAnswer v0 v1 (uFi σ 1024 v0 0) (fun y3 σ2 => ((y3 = 0 → zK σ2 v0 = 17 ∧ wX16_refused v0 1 σ2 (fun y6 σ5 => Q y6 σ5)) ∧ (¬ y3 = 0 → zK σ2 v0 = 17 ∧ wX16_isMade v0 v1 v2 σ2 (fun y9 σ8 => ((y9 = 0 → wX16_with_28 Q 0 v0 σ8) ∧ (¬ y9 = 0 → wX16_with_28 Q 1 v0 σ8))))))
def wX16_with (v0 : Nat) (v1 : Int32) (v2 : Int64) (σ : St) (Q : Int32 → St → Prop) : Prop := wX16_with_0 Q v0 v1 v2 σ
set_option maxRecDepth 20000 in
theorem kwX16_with_28 {Γ : hCT} (C : hC Γ RX16 cX16_with ((Option.some FieldType.int)) "with" 1 25) {Q : Int32 → St → Prop} (hΓ : Γ.2.2.2.2.2.2.2.2.2.2.2 = (4, 0, 0, oI Q)) (s1 : Int32) (s0 : Nat) (σ : St) (hb : wX16_with_28 Q s1 s0 σ) : hW Γ 0 0 28 [] [.int s1, .ref s0] σ := by
  unfold wX16_with_28 at hb
  obtain ⟨q1, hb⟩ := hb
  refine g_invV (ci := 16) [.int s1] [] zy_X16_done wd_1013 wd_1015 wd_40 ⟨_, _, rfl⟩ (by decide) C dX16_with_28 (by first | exact Nat.le_of_ble_eq_true rfl | simp [cat_rf]) (by first | exact Nat.le_of_ble_eq_true rfl | simp [cat_rf]) (by first | exact Nat.le_of_ble_eq_true rfl | simp [cat_rf]) (Nat.zero_le _) (Nat.zero_le _) rfl rfl q1 (okX16_done hb) ?_
  rintro o σ2 ⟨y3, rfl, hb⟩
  refine ⟨_, rfl, ?_⟩
  refine g_goto (tgt := 39) C dX16_with_31 (by decide) ?_
  exact g_ireturn C hΓ (Nat.zero_le _) (Nat.zero_le _) dX16_with_39 ⟨_, rfl, hb⟩
set_option maxRecDepth 20000 in
theorem kwX16_with_0 {Γ : hCT} (C : hC Γ RX16 cX16_with ((Option.some FieldType.int)) "with" 1 25) {Q : Int32 → St → Prop} (hΓ : Γ.2.2.2.2.2.2.2.2.2.2.2 = (4, 0, 0, oI Q)) (v0 : Nat) (v1 : Int32) (v2 : Int64) (σ : St) (hb : wX16_with_0 Q v0 v1 v2 σ) : hW Γ 0 0 0 [(0, .ref v0), (1, .int v1), (2, .long v2)] [] σ := by
  unfold wX16_with_0 at hb
  refine g_aload_n (some v0) C dX16_with_0 0 rfl ?_
  refine g_iconst (v := 0) C dX16_with_1 (by decide) ?_
  obtain ⟨q1, hb⟩ := hb
  refine g_putI C fl_RX16_1 dX16_with_2 q1 rfl rfl rfl rfl ?_
  refine g_aload_n (some v0) C dX16_with_5 0 rfl ?_
  refine g_iload_n C dX16_with_6 1 rfl ?_
  refine g_invV (ci := 16) [.int v1] [] zy_X16_isAnswer wd_1491 wd_1493 wd_62 ⟨_, _, rfl⟩ (by decide) C dX16_with_7 (by first | exact Nat.le_of_ble_eq_true rfl | simp [cat_rf]) (by first | exact Nat.le_of_ble_eq_true rfl | simp [cat_rf]) (by first | exact Nat.le_of_ble_eq_true rfl | simp [cat_rf]) (Nat.zero_le _) (Nat.zero_le _) rfl rfl (by rw [zK_uFi]; exact q1) (okX16_isAnswer hb) ?_
  rintro o σ2 ⟨y3, rfl, hb⟩
  refine ⟨_, rfl, ?_⟩
  refine g_if_eq (tgt := 34) C dX16_with_10 (by decide) (fun c => ?_) (fun c => ?_)
  ·
    replace hb := hb.1 (c)
    refine g_aload_n (some v0) C dX16_with_34 0 rfl ?_
    refine g_iconst (v := 1) C dX16_with_35 (by decide) ?_
    obtain ⟨q4, hb⟩ := hb
    refine g_invV (ci := 16) [.int 1] [] zy_X16_refused wd_1005 wd_1007 wd_38 ⟨_, _, rfl⟩ (by decide) C dX16_with_36 (by first | exact Nat.le_of_ble_eq_true rfl | simp [cat_rf]) (by first | exact Nat.le_of_ble_eq_true rfl | simp [cat_rf]) (by first | exact Nat.le_of_ble_eq_true rfl | simp [cat_rf]) (Nat.zero_le _) (Nat.zero_le _) rfl rfl q4 (okX16_refused hb) ?_
    rintro o σ5 ⟨y6, rfl, hb⟩
    refine ⟨_, rfl, ?_⟩
    exact g_ireturn C hΓ (Nat.zero_le _) (Nat.zero_le _) dX16_with_39 ⟨_, rfl, hb⟩
  ·
    replace hb := hb.2 (c)
    refine g_aload_n (some v0) C dX16_with_13 0 rfl ?_
    refine g_aload_n (some v0) C dX16_with_14 0 rfl ?_
    refine g_iload_n C dX16_with_15 1 rfl ?_
    refine g_lload_n C dX16_with_16 2 rfl ?_
    obtain ⟨q7, hb⟩ := hb
    refine g_invV (ci := 16) [.int v1, .long v2] [.ref v0] zy_X16_isMade wd_1531 wd_1533 wd_63 ⟨_, _, rfl⟩ (by decide) C dX16_with_17 (by first | exact Nat.le_of_ble_eq_true rfl | simp [cat_rf]) (by first | exact Nat.le_of_ble_eq_true rfl | simp [cat_rf]) (by first | exact Nat.le_of_ble_eq_true rfl | simp [cat_rf]) (Nat.zero_le _) (Nat.zero_le _) rfl rfl q7 (okX16_isMade hb) ?_
    rintro o σ8 ⟨y9, rfl, hb⟩
    refine ⟨_, rfl, ?_⟩
    refine g_if_eq (tgt := 27) C dX16_with_20 (by decide) (fun c => ?_) (fun c => ?_)
    ·
      replace hb := hb.1 (c)
      refine g_iconst (v := 0) C dX16_with_27 (by decide) ?_
      refine g_sub (lv' := []) [] rfl ?_
      exact kwX16_with_28 C hΓ  _ _ _ hb
    ·
      replace hb := hb.2 (c)
      refine g_iconst (v := 1) C dX16_with_23 (by decide) ?_
      refine g_goto (tgt := 28) C dX16_with_24 (by decide) ?_
      refine g_sub (lv' := []) [] rfl ?_
      exact kwX16_with_28 C hΓ  _ _ _ hb
theorem okX16_with {v0 : Nat} {v1 : Int32} {v2 : Int64} {σ : St} {Q : Int32 → St → Prop} (hb : wX16_with v0 v1 v2 σ Q) : hM yX16_with cX16_with 4 ((Option.some FieldType.int)) 1 25 0 0 [.ref v0, .int v1, .long v2] σ (oI Q) :=
  hM_of (by decide) (Nat.le_of_ble_eq_true rfl) (fun Γ hΓ C => kwX16_with_0 C hΓ _ _ _ _ hb)
def wX16_isFew_138 (Q : Int32 → St → Prop) (r113 : Nat → Int32 → Int32 → St → Prop) (r138 : Nat → Int32 → Int32 → Int32 → St → Prop) (v0 : Nat) (v1 : Int32) (v4 : Int32) (v5 : Int32) (σ : St) : Prop :=
  zK σ v0 = 17 ∧ (((zFi σ 1062 v0) ≤ v5 → r113 v0 v1 (v4 + 1) σ) ∧ (¬ (zFi σ 1062 v0) ≤ v5 → ∃ a2 : Nat, zFr σ 1050 v0 = some a2 ∧ zK σ a2 = 15 ∧ ∃ a5 : Nat, zFr σ 901 a2 = some a5 ∧ zK σ a5 = 21 ∧ vp_in ((16 * v1) + v4) (zL σ a5) ∧ ∃ a9 : Nat, zFr σ 1060 v0 = some a9 ∧ zK σ a9 = 20 ∧ vp_in v5 (zL σ a9) ∧ ((¬ (((zAj σ a5 (ix ((16 * v1) + v4))) >>> (Int32.toInt64 (zAi σ a9 (ix v5)) &&& 63)) &&& 1) = 1 → r138 v0 v1 v4 (v5 + 1) σ) ∧ ((((zAj σ a5 (ix ((16 * v1) + v4))) >>> (Int32.toInt64 (zAi σ a9 (ix v5)) &&& 63)) &&& 1) = 1 → ∃ a13 : Nat, zFr σ 1061 v0 = some a13 ∧ zK σ a13 = 20 ∧ vp_in v4 (zL σ a13) ∧ r138 v0 v1 v4 (v5 + 1) (uAi σ a13 (ix v4) ((zAi σ a13 (ix v4)) ||| ((1 : Int32) <<< (v5 &&& 31))))))))
def lX16_isFew_138 (Q : Int32 → St → Prop) (r113 : Nat → Int32 → Int32 → St → Prop) : Nat → Nat → Int32 → Int32 → Int32 → St → Prop
  | 0, _, _, _, _, _ => False
  | f + 1, v0, v1, v4, v5, σ => wX16_isFew_138 Q r113 (lX16_isFew_138 Q r113 f) v0 v1 v4 v5 σ
def wX16_isFew_113 (Q : Int32 → St → Prop) (r113 : Nat → Int32 → Int32 → St → Prop) (v0 : Nat) (v1 : Int32) (v4 : Int32) (σ : St) : Prop :=
  zK σ v0 = 17 ∧ ∃ a2 : Nat, zFr σ 1050 v0 = some a2 ∧ zK σ a2 = 15 ∧ ∃ a5 : Nat, zFr σ 899 a2 = some a5 ∧ zK σ a5 = 20 ∧ vp_in v1 (zL σ a5) ∧ (((zAi σ a5 (ix v1)) ≤ v4 → Q 1 σ) ∧ (¬ (zAi σ a5 (ix v1)) ≤ v4 → ∃ a9 : Nat, zFr σ 1061 v0 = some a9 ∧ zK σ a9 = 20 ∧ vp_in v4 (zL σ a9) ∧ ∃ f, lX16_isFew_138 Q r113 f v0 v1 v4 0 (uAi σ a9 (ix v4) 0)))
def lX16_isFew_113 (Q : Int32 → St → Prop) : Nat → Nat → Int32 → Int32 → St → Prop
  | 0, _, _, _, _ => False
  | f + 1, v0, v1, v4, σ => wX16_isFew_113 Q (lX16_isFew_113 Q f) v0 v1 v4 σ
def wX16_isFew_51 (Q : Int32 → St → Prop) (r51 : Nat → Int32 → Int64 → Int32 → St → Prop) (v0 : Nat) (v1 : Int32) (v2 : Int64) (v4 : Int32) (σ : St) : Prop :=
  (((60 : Int32) ≤ v4 → ∃ f, lX16_isFew_113 Q f v0 v1 0 σ) ∧ (¬ (60 : Int32) ≤ v4 → ((¬ ((v2 >>> (Int32.toInt64 v4 &&& 63)) &&& 1) = 0 → zK σ v0 = 17 ∧ ((¬ (zFi σ 1062 v0) = (16 : Int32) → ∃ a3 : Nat, zFr σ 1060 v0 = some a3 ∧ zK σ a3 = 20 ∧ vp_in (zFi σ 1062 v0) (zL σ a3) ∧ r51 v0 v1 v2 (v4 + 1) (uFi (uAi σ a3 (ix (zFi σ 1062 v0)) v4) 1062 v0 ((zFi σ 1062 v0) + 1))) ∧ ((zFi σ 1062 v0) = (16 : Int32) → Q 0 σ))) ∧ (((v2 >>> (Int32.toInt64 v4 &&& 63)) &&& 1) = 0 → r51 v0 v1 v2 (v4 + 1) σ))))
def lX16_isFew_51 (Q : Int32 → St → Prop) : Nat → Nat → Int32 → Int64 → Int32 → St → Prop
  | 0, _, _, _, _, _ => False
  | f + 1, v0, v1, v2, v4, σ => wX16_isFew_51 Q (lX16_isFew_51 Q f) v0 v1 v2 v4 σ
def wX16_isFew_5 (Q : Int32 → St → Prop) (r5 : Nat → Int32 → Int64 → Int32 → St → Prop) (v0 : Nat) (v1 : Int32) (v2 : Int64) (v4 : Int32) (σ : St) : Prop :=
  zK σ v0 = 17 ∧ ∃ a2 : Nat, zFr σ 1050 v0 = some a2 ∧ zK σ a2 = 15 ∧ ∃ a5 : Nat, zFr σ 899 a2 = some a5 ∧ zK σ a5 = 20 ∧ vp_in v1 (zL σ a5) ∧ (((zAi σ a5 (ix v1)) ≤ v4 → ∃ f, lX16_isFew_51 Q f v0 v1 v2 0 (uFi σ 1062 v0 0)) ∧ (¬ (zAi σ a5 (ix v1)) ≤ v4 → ∃ a10 : Nat, zFr σ 901 a2 = some a10 ∧ zK σ a10 = 21 ∧ vp_in ((16 * v1) + v4) (zL σ a10) ∧ r5 v0 v1 (v2 ||| (zAj σ a10 (ix ((16 * v1) + v4)))) (v4 + 1) σ))
def lX16_isFew_5 (Q : Int32 → St → Prop) : Nat → Nat → Int32 → Int64 → Int32 → St → Prop
  | 0, _, _, _, _, _ => False
  | f + 1, v0, v1, v2, v4, σ => wX16_isFew_5 Q (lX16_isFew_5 Q f) v0 v1 v2 v4 σ
def wX16_isFew_0 (Q : Int32 → St → Prop) (v0 : Nat) (v1 : Int32) (σ : St) : Prop :=
  ∃ f, lX16_isFew_5 Q f v0 v1 0 0 σ
def wX16_isFew (v0 : Nat) (v1 : Int32) (σ : St) (Q : Int32 → St → Prop) : Prop := wX16_isFew_0 Q v0 v1 σ
set_option maxRecDepth 20000 in
theorem kwX16_isFew_138 {Γ : hCT} (C : hC Γ RX16 cX16_isFew ((Option.some FieldType.boolean)) "isFew" 0 0) {Q : Int32 → St → Prop} (hΓ : Γ.2.2.2.2.2.2.2.2.2.2.2 = (6, 0, 0, oI Q)) {r113 : Nat → Int32 → Int32 → St → Prop} (h113 : ∀ (v0 : Nat) (v1 : Int32) (v4 : Int32) (σ : St), r113 v0 v1 v4 σ → hW Γ 0 0 113 [(0, .ref v0), (1, .int v1), (4, .int v4)] [] σ) {r138 : Nat → Int32 → Int32 → Int32 → St → Prop} (h138 : ∀ (v0 : Nat) (v1 : Int32) (v4 : Int32) (v5 : Int32) (σ : St), r138 v0 v1 v4 v5 σ → hW Γ 0 0 138 [(0, .ref v0), (1, .int v1), (4, .int v4), (5, .int v5)] [] σ) (v0 : Nat) (v1 : Int32) (v4 : Int32) (v5 : Int32) (σ : St) (hb : wX16_isFew_138 Q r113 r138 v0 v1 v4 v5 σ) : hW Γ 0 0 138 [(0, .ref v0), (1, .int v1), (4, .int v4), (5, .int v5)] [] σ := by
  unfold wX16_isFew_138 at hb
  refine g_iload C dX16_isFew_138 3 rfl ?_
  refine g_aload_n (some v0) C dX16_isFew_140 0 rfl ?_
  obtain ⟨q1, hb⟩ := hb
  refine g_getIx (zFi σ 1062 v0) C fl_RX16_348 dX16_isFew_141 q1 rfl rfl rfl ?_
  refine g_icmp_ge (tgt := 197) C dX16_isFew_144 (by decide) (fun c => ?_) (fun c => ?_)
  ·
    replace hb := hb.1 (c)
    refine g_iinc (v := v4 + 1) (lv' := [(4, .int (v4 + 1)), (0, .ref v0), (1, .int v1), (5, .int v5)]) C dX16_isFew_197 2 rfl rfl (hnl_of hΓ (by decide)) (by first | rfl | simp [cat_rf]) ?_
    refine g_goto (tgt := 113) C dX16_isFew_200 (by decide) ?_
    refine g_sub (lv' := [(0, .ref v0), (1, .int v1), (4, .int (v4 + 1))]) [1, 2, 0] rfl ?_
    exact h113 _ _ _ _ hb
  ·
    replace hb := hb.2 (c)
    refine g_aload_n (some v0) C dX16_isFew_147 0 rfl ?_
    obtain ⟨a2, q3, hb⟩ := hb
    refine g_getR (some a2) C fl_RX16_31 dX16_isFew_148 q1 rfl rfl q3 ?_
    obtain ⟨q4, hb⟩ := hb
    obtain ⟨a5, q6, hb⟩ := hb
    refine g_getR (some a5) C fl_RX16_229 dX16_isFew_151 q4 rfl rfl q6 ?_
    refine g_bipush (v := 16) C dX16_isFew_154 (by decide) ?_
    refine g_iload_n C dX16_isFew_156 1 rfl ?_
    refine g_imul C dX16_isFew_157 ?_
    refine g_iload C dX16_isFew_158 2 rfl ?_
    refine g_iadd C dX16_isFew_160 ?_
    obtain ⟨q7, hb⟩ := hb
    obtain ⟨q8, hb⟩ := hb
    refine g_laldx (zAj σ a5 (ix ((16 * v1) + v4))) C dX16_isFew_161 q7 q8 rfl ?_
    refine g_aload_n (some v0) C dX16_isFew_162 0 rfl ?_
    obtain ⟨a9, q10, hb⟩ := hb
    refine g_getR (some a9) C fl_RX16_212 dX16_isFew_163 q1 rfl rfl q10 ?_
    refine g_iload C dX16_isFew_166 3 rfl ?_
    obtain ⟨q11, hb⟩ := hb
    obtain ⟨q12, hb⟩ := hb
    refine g_ialdx (zAi σ a9 (ix v5)) C dX16_isFew_168 q11 q12 rfl ?_
    refine g_lshr C dX16_isFew_169 ?_
    refine g_lconst (v := 1) C dX16_isFew_170 (by decide) ?_
    refine g_land C dX16_isFew_171 ?_
    refine g_lconst (v := 1) C dX16_isFew_172 (by decide) ?_
    refine g_lcmp C dX16_isFew_173 ?_
    refine g_if_ne (tgt := 191) C dX16_isFew_174 (by decide) (fun c => ?_) (fun c => ?_)
    ·
      replace hb := hb.1 (lc_ne.mp c)
      refine g_iinc (v := v5 + 1) (lv' := [(5, .int (v5 + 1)), (0, .ref v0), (1, .int v1), (4, .int v4)]) C dX16_isFew_191 3 rfl rfl (hnl_of hΓ (by decide)) (by first | rfl | simp [cat_rf]) ?_
      refine g_goto (tgt := 138) C dX16_isFew_194 (by decide) ?_
      refine g_sub (lv' := [(0, .ref v0), (1, .int v1), (4, .int v4), (5, .int (v5 + 1))]) [1, 2, 3, 0] rfl ?_
      exact h138 _ _ _ _ _ hb
    ·
      replace hb := hb.2 (lcn_ne.mp c)
      refine g_aload_n (some v0) C dX16_isFew_177 0 rfl ?_
      obtain ⟨a13, q14, hb⟩ := hb
      refine g_getR (some a13) C fl_RX16_215 dX16_isFew_178 q1 rfl rfl q14 ?_
      refine g_iload C dX16_isFew_181 2 rfl ?_
      refine g_dup2 C dX16_isFew_183 rfl rfl ?_
      obtain ⟨q15, hb⟩ := hb
      obtain ⟨q16, hb⟩ := hb
      refine g_ialdx (zAi σ a13 (ix v4)) C dX16_isFew_184 q15 q16 rfl ?_
      refine g_iconst (v := 1) C dX16_isFew_185 (by decide) ?_
      refine g_iload C dX16_isFew_186 3 rfl ?_
      refine g_ishl C dX16_isFew_188 ?_
      refine g_ior C dX16_isFew_189 ?_
      refine g_iast C dX16_isFew_190 q15 q16 ?_
      refine g_iinc (v := v5 + 1) (lv' := [(5, .int (v5 + 1)), (0, .ref v0), (1, .int v1), (4, .int v4)]) C dX16_isFew_191 3 rfl rfl (hnl_of hΓ (by decide)) (by first | rfl | simp [cat_rf]) ?_
      refine g_goto (tgt := 138) C dX16_isFew_194 (by decide) ?_
      refine g_sub (lv' := [(0, .ref v0), (1, .int v1), (4, .int v4), (5, .int (v5 + 1))]) [1, 2, 3, 0] rfl ?_
      exact h138 _ _ _ _ _ hb
theorem klX16_isFew_138 {Γ : hCT} (C : hC Γ RX16 cX16_isFew ((Option.some FieldType.boolean)) "isFew" 0 0) {Q : Int32 → St → Prop} (hΓ : Γ.2.2.2.2.2.2.2.2.2.2.2 = (6, 0, 0, oI Q)) {r113 : Nat → Int32 → Int32 → St → Prop} (h113 : ∀ (v0 : Nat) (v1 : Int32) (v4 : Int32) (σ : St), r113 v0 v1 v4 σ → hW Γ 0 0 113 [(0, .ref v0), (1, .int v1), (4, .int v4)] [] σ) (f : Nat) (v0 : Nat) (v1 : Int32) (v4 : Int32) (v5 : Int32) (σ : St) (hb : lX16_isFew_138 Q r113 f v0 v1 v4 v5 σ) : hW Γ 0 0 138 [(0, .ref v0), (1, .int v1), (4, .int v4), (5, .int v5)] [] σ := by
  induction f generalizing v0 v1 v4 v5 σ with
  | zero => exact hb.elim
  | succ f ih => exact kwX16_isFew_138 C hΓ h113 (fun v0 v1 v4 v5 σ h => ih v0 v1 v4 v5 σ h) _ _ _ _ _ hb
set_option maxRecDepth 20000 in
theorem kwX16_isFew_113 {Γ : hCT} (C : hC Γ RX16 cX16_isFew ((Option.some FieldType.boolean)) "isFew" 0 0) {Q : Int32 → St → Prop} (hΓ : Γ.2.2.2.2.2.2.2.2.2.2.2 = (6, 0, 0, oI Q)) {r113 : Nat → Int32 → Int32 → St → Prop} (h113 : ∀ (v0 : Nat) (v1 : Int32) (v4 : Int32) (σ : St), r113 v0 v1 v4 σ → hW Γ 0 0 113 [(0, .ref v0), (1, .int v1), (4, .int v4)] [] σ) (v0 : Nat) (v1 : Int32) (v4 : Int32) (σ : St) (hb : wX16_isFew_113 Q r113 v0 v1 v4 σ) : hW Γ 0 0 113 [(0, .ref v0), (1, .int v1), (4, .int v4)] [] σ := by
  unfold wX16_isFew_113 at hb
  refine g_iload C dX16_isFew_113 2 rfl ?_
  refine g_aload_n (some v0) C dX16_isFew_115 0 rfl ?_
  obtain ⟨q1, hb⟩ := hb
  obtain ⟨a2, q3, hb⟩ := hb
  refine g_getR (some a2) C fl_RX16_31 dX16_isFew_116 q1 rfl rfl q3 ?_
  obtain ⟨q4, hb⟩ := hb
  obtain ⟨a5, q6, hb⟩ := hb
  refine g_getR (some a5) C fl_RX16_226 dX16_isFew_119 q4 rfl rfl q6 ?_
  refine g_iload_n C dX16_isFew_122 1 rfl ?_
  obtain ⟨q7, hb⟩ := hb
  obtain ⟨q8, hb⟩ := hb
  refine g_ialdx (zAi σ a5 (ix v1)) C dX16_isFew_123 q7 q8 rfl ?_
  refine g_icmp_ge (tgt := 203) C dX16_isFew_124 (by decide) (fun c => ?_) (fun c => ?_)
  ·
    replace hb := hb.1 (c)
    refine g_iconst (v := 1) C dX16_isFew_203 (by decide) ?_
    exact g_zreturn C (by decide) hΓ (Nat.zero_le _) (Nat.zero_le _) dX16_isFew_204 ⟨_, rfl, hb⟩
  ·
    replace hb := hb.2 (c)
    refine g_aload_n (some v0) C dX16_isFew_127 0 rfl ?_
    obtain ⟨a9, q10, hb⟩ := hb
    refine g_getR (some a9) C fl_RX16_215 dX16_isFew_128 q1 rfl rfl q10 ?_
    refine g_iload C dX16_isFew_131 2 rfl ?_
    refine g_iconst (v := 0) C dX16_isFew_133 (by decide) ?_
    obtain ⟨q11, hb⟩ := hb
    obtain ⟨q12, hb⟩ := hb
    refine g_iast C dX16_isFew_134 q11 q12 ?_
    refine g_iconst (v := 0) C dX16_isFew_135 (by decide) ?_
    refine g_istore (lv' := [(5, .int 0), (0, .ref v0), (1, .int v1), (4, .int v4)]) C dX16_isFew_136 (hnl_of hΓ (by decide)) (by first | rfl | simp [cat_rf]) ?_
    refine g_sub (lv' := [(0, .ref v0), (1, .int v1), (4, .int v4), (5, .int 0)]) [1, 2, 3, 0] rfl ?_
    obtain ⟨f13, hb⟩ := hb
    exact klX16_isFew_138 C hΓ h113 f13 _ _ _ _ _ hb
theorem klX16_isFew_113 {Γ : hCT} (C : hC Γ RX16 cX16_isFew ((Option.some FieldType.boolean)) "isFew" 0 0) {Q : Int32 → St → Prop} (hΓ : Γ.2.2.2.2.2.2.2.2.2.2.2 = (6, 0, 0, oI Q)) (f : Nat) (v0 : Nat) (v1 : Int32) (v4 : Int32) (σ : St) (hb : lX16_isFew_113 Q f v0 v1 v4 σ) : hW Γ 0 0 113 [(0, .ref v0), (1, .int v1), (4, .int v4)] [] σ := by
  induction f generalizing v0 v1 v4 σ with
  | zero => exact hb.elim
  | succ f ih => exact kwX16_isFew_113 C hΓ  (fun v0 v1 v4 σ h => ih v0 v1 v4 σ h) _ _ _ _ hb
set_option maxRecDepth 20000 in
theorem kwX16_isFew_51 {Γ : hCT} (C : hC Γ RX16 cX16_isFew ((Option.some FieldType.boolean)) "isFew" 0 0) {Q : Int32 → St → Prop} (hΓ : Γ.2.2.2.2.2.2.2.2.2.2.2 = (6, 0, 0, oI Q)) {r51 : Nat → Int32 → Int64 → Int32 → St → Prop} (h51 : ∀ (v0 : Nat) (v1 : Int32) (v2 : Int64) (v4 : Int32) (σ : St), r51 v0 v1 v2 v4 σ → hW Γ 0 0 51 [(0, .ref v0), (1, .int v1), (2, .long v2), (4, .int v4)] [] σ) (v0 : Nat) (v1 : Int32) (v2 : Int64) (v4 : Int32) (σ : St) (hb : wX16_isFew_51 Q r51 v0 v1 v2 v4 σ) : hW Γ 0 0 51 [(0, .ref v0), (1, .int v1), (2, .long v2), (4, .int v4)] [] σ := by
  unfold wX16_isFew_51 at hb
  refine g_iload C dX16_isFew_51 3 rfl ?_
  refine g_bipush (v := 60) C dX16_isFew_53 (by decide) ?_
  refine g_icmp_ge (tgt := 110) C dX16_isFew_55 (by decide) (fun c => ?_) (fun c => ?_)
  ·
    replace hb := hb.1 (c)
    refine g_iconst (v := 0) C dX16_isFew_110 (by decide) ?_
    refine g_istore (lv' := [(4, .int 0), (0, .ref v0), (1, .int v1), (2, .long v2)]) C dX16_isFew_111 (hnl_of hΓ (by decide)) (by first | rfl | simp [cat_rf]) ?_
    refine g_sub (lv' := [(0, .ref v0), (1, .int v1), (4, .int 0)]) [1, 2, 0] rfl ?_
    obtain ⟨f1, hb⟩ := hb
    exact klX16_isFew_113 C hΓ  f1 _ _ _ _ hb
  ·
    replace hb := hb.2 (c)
    refine g_lload_n C dX16_isFew_58 2 rfl ?_
    refine g_iload C dX16_isFew_59 3 rfl ?_
    refine g_lshr C dX16_isFew_61 ?_
    refine g_lconst (v := 1) C dX16_isFew_62 (by decide) ?_
    refine g_land C dX16_isFew_63 ?_
    refine g_lconst (v := 0) C dX16_isFew_64 (by decide) ?_
    refine g_lcmp C dX16_isFew_65 ?_
    refine g_if_ne (tgt := 72) C dX16_isFew_66 (by decide) (fun c => ?_) (fun c => ?_)
    ·
      replace hb := hb.1 (lc_ne.mp c)
      refine g_aload_n (some v0) C dX16_isFew_72 0 rfl ?_
      obtain ⟨q2, hb⟩ := hb
      refine g_getIx (zFi σ 1062 v0) C fl_RX16_348 dX16_isFew_73 q2 rfl rfl rfl ?_
      refine g_bipush (v := 16) C dX16_isFew_76 (by decide) ?_
      refine g_icmp_ne (tgt := 83) C dX16_isFew_78 (by decide) (fun c => ?_) (fun c => ?_)
      ·
        replace hb := hb.1 (c)
        refine g_aload_n (some v0) C dX16_isFew_83 0 rfl ?_
        obtain ⟨a3, q4, hb⟩ := hb
        refine g_getR (some a3) C fl_RX16_212 dX16_isFew_84 q2 rfl rfl q4 ?_
        refine g_aload_n (some v0) C dX16_isFew_87 0 rfl ?_
        refine g_getIx (zFi σ 1062 v0) C fl_RX16_348 dX16_isFew_88 q2 rfl rfl rfl ?_
        refine g_iload C dX16_isFew_91 3 rfl ?_
        obtain ⟨q5, hb⟩ := hb
        obtain ⟨q6, hb⟩ := hb
        refine g_iast C dX16_isFew_93 q5 q6 ?_
        refine g_aload_n (some v0) C dX16_isFew_94 0 rfl ?_
        refine g_dup C dX16_isFew_95 rfl ?_
        refine g_getIx (zFi σ 1062 v0) C fl_RX16_348 dX16_isFew_96 (by rw [zK_uAi]; exact q2) rfl rfl (by rw [zFi_uAi]) ?_
        refine g_iconst (v := 1) C dX16_isFew_99 (by decide) ?_
        refine g_iadd C dX16_isFew_100 ?_
        refine g_putI C fl_RX16_348 dX16_isFew_101 (by rw [zK_uAi]; exact q2) rfl rfl rfl rfl ?_
        refine g_iinc (v := v4 + 1) (lv' := [(4, .int (v4 + 1)), (0, .ref v0), (1, .int v1), (2, .long v2)]) C dX16_isFew_104 3 rfl rfl (hnl_of hΓ (by decide)) (by first | rfl | simp [cat_rf]) ?_
        refine g_goto (tgt := 51) C dX16_isFew_107 (by decide) ?_
        refine g_sub (lv' := [(0, .ref v0), (1, .int v1), (2, .long v2), (4, .int (v4 + 1))]) [1, 2, 3, 0] rfl ?_
        exact h51 _ _ _ _ _ hb
      ·
        replace hb := hb.2 (c)
        refine g_iconst (v := 0) C dX16_isFew_81 (by decide) ?_
        exact g_zreturn C (by decide) hΓ (Nat.zero_le _) (Nat.zero_le _) dX16_isFew_82 ⟨_, rfl, hb⟩
    ·
      replace hb := hb.2 (lcn_ne.mp c)
      refine g_goto (tgt := 104) C dX16_isFew_69 (by decide) ?_
      refine g_iinc (v := v4 + 1) (lv' := [(4, .int (v4 + 1)), (0, .ref v0), (1, .int v1), (2, .long v2)]) C dX16_isFew_104 3 rfl rfl (hnl_of hΓ (by decide)) (by first | rfl | simp [cat_rf]) ?_
      refine g_goto (tgt := 51) C dX16_isFew_107 (by decide) ?_
      refine g_sub (lv' := [(0, .ref v0), (1, .int v1), (2, .long v2), (4, .int (v4 + 1))]) [1, 2, 3, 0] rfl ?_
      exact h51 _ _ _ _ _ hb
theorem klX16_isFew_51 {Γ : hCT} (C : hC Γ RX16 cX16_isFew ((Option.some FieldType.boolean)) "isFew" 0 0) {Q : Int32 → St → Prop} (hΓ : Γ.2.2.2.2.2.2.2.2.2.2.2 = (6, 0, 0, oI Q)) (f : Nat) (v0 : Nat) (v1 : Int32) (v2 : Int64) (v4 : Int32) (σ : St) (hb : lX16_isFew_51 Q f v0 v1 v2 v4 σ) : hW Γ 0 0 51 [(0, .ref v0), (1, .int v1), (2, .long v2), (4, .int v4)] [] σ := by
  induction f generalizing v0 v1 v2 v4 σ with
  | zero => exact hb.elim
  | succ f ih => exact kwX16_isFew_51 C hΓ  (fun v0 v1 v2 v4 σ h => ih v0 v1 v2 v4 σ h) _ _ _ _ _ hb
set_option maxRecDepth 20000 in
theorem kwX16_isFew_5 {Γ : hCT} (C : hC Γ RX16 cX16_isFew ((Option.some FieldType.boolean)) "isFew" 0 0) {Q : Int32 → St → Prop} (hΓ : Γ.2.2.2.2.2.2.2.2.2.2.2 = (6, 0, 0, oI Q)) {r5 : Nat → Int32 → Int64 → Int32 → St → Prop} (h5 : ∀ (v0 : Nat) (v1 : Int32) (v2 : Int64) (v4 : Int32) (σ : St), r5 v0 v1 v2 v4 σ → hW Γ 0 0 5 [(0, .ref v0), (1, .int v1), (2, .long v2), (4, .int v4)] [] σ) (v0 : Nat) (v1 : Int32) (v2 : Int64) (v4 : Int32) (σ : St) (hb : wX16_isFew_5 Q r5 v0 v1 v2 v4 σ) : hW Γ 0 0 5 [(0, .ref v0), (1, .int v1), (2, .long v2), (4, .int v4)] [] σ := by
  unfold wX16_isFew_5 at hb
  refine g_iload C dX16_isFew_5 3 rfl ?_
  refine g_aload_n (some v0) C dX16_isFew_7 0 rfl ?_
  obtain ⟨q1, hb⟩ := hb
  obtain ⟨a2, q3, hb⟩ := hb
  refine g_getR (some a2) C fl_RX16_31 dX16_isFew_8 q1 rfl rfl q3 ?_
  obtain ⟨q4, hb⟩ := hb
  obtain ⟨a5, q6, hb⟩ := hb
  refine g_getR (some a5) C fl_RX16_226 dX16_isFew_11 q4 rfl rfl q6 ?_
  refine g_iload_n C dX16_isFew_14 1 rfl ?_
  obtain ⟨q7, hb⟩ := hb
  obtain ⟨q8, hb⟩ := hb
  refine g_ialdx (zAi σ a5 (ix v1)) C dX16_isFew_15 q7 q8 rfl ?_
  refine g_icmp_ge (tgt := 43) C dX16_isFew_16 (by decide) (fun c => ?_) (fun c => ?_)
  ·
    replace hb := hb.1 (c)
    refine g_aload_n (some v0) C dX16_isFew_43 0 rfl ?_
    refine g_iconst (v := 0) C dX16_isFew_44 (by decide) ?_
    refine g_putI C fl_RX16_348 dX16_isFew_45 q1 rfl rfl rfl rfl ?_
    refine g_iconst (v := 0) C dX16_isFew_48 (by decide) ?_
    refine g_istore (lv' := [(4, .int 0), (0, .ref v0), (1, .int v1), (2, .long v2)]) C dX16_isFew_49 (hnl_of hΓ (by decide)) (by first | rfl | simp [cat_rf]) ?_
    refine g_sub (lv' := [(0, .ref v0), (1, .int v1), (2, .long v2), (4, .int 0)]) [1, 2, 3, 0] rfl ?_
    obtain ⟨f9, hb⟩ := hb
    exact klX16_isFew_51 C hΓ  f9 _ _ _ _ _ hb
  ·
    replace hb := hb.2 (c)
    refine g_lload_n C dX16_isFew_19 2 rfl ?_
    refine g_aload_n (some v0) C dX16_isFew_20 0 rfl ?_
    refine g_getR (some a2) C fl_RX16_31 dX16_isFew_21 q1 rfl rfl q3 ?_
    obtain ⟨a10, q11, hb⟩ := hb
    refine g_getR (some a10) C fl_RX16_229 dX16_isFew_24 q4 rfl rfl q11 ?_
    refine g_bipush (v := 16) C dX16_isFew_27 (by decide) ?_
    refine g_iload_n C dX16_isFew_29 1 rfl ?_
    refine g_imul C dX16_isFew_30 ?_
    refine g_iload C dX16_isFew_31 3 rfl ?_
    refine g_iadd C dX16_isFew_33 ?_
    obtain ⟨q12, hb⟩ := hb
    obtain ⟨q13, hb⟩ := hb
    refine g_laldx (zAj σ a10 (ix ((16 * v1) + v4))) C dX16_isFew_34 q12 q13 rfl ?_
    refine g_lor C dX16_isFew_35 ?_
    refine g_lstore_n (i := 2) (lv' := [(2, .long (v2 ||| (zAj σ a10 (ix ((16 * v1) + v4))))), (0, .ref v0), (1, .int v1), (4, .int v4)]) C dX16_isFew_36 rfl (hnl_of hΓ (by decide)) (by first | rfl | simp [cat_rf]) ?_
    refine g_iinc (v := v4 + 1) (lv' := [(4, .int (v4 + 1)), (2, .long (v2 ||| (zAj σ a10 (ix ((16 * v1) + v4))))), (0, .ref v0), (1, .int v1)]) C dX16_isFew_37 3 rfl rfl (hnl_of hΓ (by decide)) (by first | rfl | simp [cat_rf]) ?_
    refine g_goto (tgt := 5) C dX16_isFew_40 (by decide) ?_
    refine g_sub (lv' := [(0, .ref v0), (1, .int v1), (2, .long (v2 ||| (zAj σ a10 (ix ((16 * v1) + v4))))), (4, .int (v4 + 1))]) [2, 3, 1, 0] rfl ?_
    exact h5 _ _ _ _ _ hb
theorem klX16_isFew_5 {Γ : hCT} (C : hC Γ RX16 cX16_isFew ((Option.some FieldType.boolean)) "isFew" 0 0) {Q : Int32 → St → Prop} (hΓ : Γ.2.2.2.2.2.2.2.2.2.2.2 = (6, 0, 0, oI Q)) (f : Nat) (v0 : Nat) (v1 : Int32) (v2 : Int64) (v4 : Int32) (σ : St) (hb : lX16_isFew_5 Q f v0 v1 v2 v4 σ) : hW Γ 0 0 5 [(0, .ref v0), (1, .int v1), (2, .long v2), (4, .int v4)] [] σ := by
  induction f generalizing v0 v1 v2 v4 σ with
  | zero => exact hb.elim
  | succ f ih => exact kwX16_isFew_5 C hΓ  (fun v0 v1 v2 v4 σ h => ih v0 v1 v2 v4 σ h) _ _ _ _ _ hb
set_option maxRecDepth 20000 in
theorem kwX16_isFew_0 {Γ : hCT} (C : hC Γ RX16 cX16_isFew ((Option.some FieldType.boolean)) "isFew" 0 0) {Q : Int32 → St → Prop} (hΓ : Γ.2.2.2.2.2.2.2.2.2.2.2 = (6, 0, 0, oI Q)) (v0 : Nat) (v1 : Int32) (σ : St) (hb : wX16_isFew_0 Q v0 v1 σ) : hW Γ 0 0 0 [(0, .ref v0), (1, .int v1)] [] σ := by
  unfold wX16_isFew_0 at hb
  refine g_lconst (v := 0) C dX16_isFew_0 (by decide) ?_
  refine g_lstore_n (i := 2) (lv' := [(2, .long 0), (0, .ref v0), (1, .int v1)]) C dX16_isFew_1 rfl (hnl_of hΓ (by decide)) (by first | rfl | simp [cat_rf]) ?_
  refine g_iconst (v := 0) C dX16_isFew_2 (by decide) ?_
  refine g_istore (lv' := [(4, .int 0), (2, .long 0), (0, .ref v0), (1, .int v1)]) C dX16_isFew_3 (hnl_of hΓ (by decide)) (by first | rfl | simp [cat_rf]) ?_
  refine g_sub (lv' := [(0, .ref v0), (1, .int v1), (2, .long 0), (4, .int 0)]) [2, 3, 1, 0] rfl ?_
  obtain ⟨f1, hb⟩ := hb
  exact klX16_isFew_5 C hΓ  f1 _ _ _ _ _ hb
theorem okX16_isFew {v0 : Nat} {v1 : Int32} {σ : St} {Q : Int32 → St → Prop} (hb : wX16_isFew v0 v1 σ Q) : hM yX16_isFew cX16_isFew 6 ((Option.some FieldType.boolean)) 0 0 0 0 [.ref v0, .int v1] σ (oI Q) :=
  hM_of (by decide) (Nat.le_of_ble_eq_true rfl) (fun Γ hΓ C => kwX16_isFew_0 C hΓ _ _ _ hb)
def wX16_isWhole_5 (Q : Int32 → St → Prop) (r5 : Nat → Int32 → Int32 → Int32 → Int32 → St → Prop) (v0 : Nat) (v1 : Int32) (v2 : Int32) (v3 : Int32) (v4 : Int32) (σ : St) : Prop :=
  ((v2 ≤ v4 → (v3 = 0 ∨ v3 = 1) ∧ Q v3 σ) ∧ (¬ v2 ≤ v4 → ((¬ v3 = 0 → (v3 = 0 ∨ v3 = 1) ∧ Q v3 σ) ∧ (v3 = 0 → zK σ v0 = 17 ∧ ∃ a4 : Nat, zFr σ 1061 v0 = some a4 ∧ zK σ a4 = 20 ∧ vp_in v4 (zL σ a4) ∧ ((¬ ((zAi σ a4 (ix v4)) &&& (v1 ^^^ (-1))) = 0 → r5 v0 v1 v2 0 (v4 + 1) σ) ∧ (((zAi σ a4 (ix v4)) &&& (v1 ^^^ (-1))) = 0 → r5 v0 v1 v2 1 (v4 + 1) σ))))))
def lX16_isWhole_5 (Q : Int32 → St → Prop) : Nat → Nat → Int32 → Int32 → Int32 → Int32 → St → Prop
  | 0, _, _, _, _, _, _ => False
  | f + 1, v0, v1, v2, v3, v4, σ => wX16_isWhole_5 Q (lX16_isWhole_5 Q f) v0 v1 v2 v3 v4 σ
def wX16_isWhole_0 (Q : Int32 → St → Prop) (v0 : Nat) (v1 : Int32) (v2 : Int32) (σ : St) : Prop :=
  ∃ f, lX16_isWhole_5 Q f v0 v1 v2 0 0 σ
def wX16_isWhole (v0 : Nat) (v1 : Int32) (v2 : Int32) (σ : St) (Q : Int32 → St → Prop) : Prop := wX16_isWhole_0 Q v0 v1 v2 σ
set_option maxRecDepth 20000 in
theorem kwX16_isWhole_5 {Γ : hCT} (C : hC Γ RX16 cX16_isWhole ((Option.some FieldType.boolean)) "isWhole" 0 0) {Q : Int32 → St → Prop} (hΓ : Γ.2.2.2.2.2.2.2.2.2.2.2 = (5, 0, 0, oI Q)) {r5 : Nat → Int32 → Int32 → Int32 → Int32 → St → Prop} (h5 : ∀ (v0 : Nat) (v1 : Int32) (v2 : Int32) (v3 : Int32) (v4 : Int32) (σ : St), r5 v0 v1 v2 v3 v4 σ → hW Γ 0 0 5 [(0, .ref v0), (1, .int v1), (2, .int v2), (3, .int v3), (4, .int v4)] [] σ) (v0 : Nat) (v1 : Int32) (v2 : Int32) (v3 : Int32) (v4 : Int32) (σ : St) (hb : wX16_isWhole_5 Q r5 v0 v1 v2 v3 v4 σ) : hW Γ 0 0 5 [(0, .ref v0), (1, .int v1), (2, .int v2), (3, .int v3), (4, .int v4)] [] σ := by
  unfold wX16_isWhole_5 at hb
  refine g_iload C dX16_isWhole_5 4 rfl ?_
  refine g_iload_n C dX16_isWhole_7 2 rfl ?_
  refine g_icmp_ge (tgt := 41) C dX16_isWhole_8 (by decide) (fun c => ?_) (fun c => ?_)
  ·
    replace hb := hb.1 (c)
    refine g_iload_n C dX16_isWhole_41 3 rfl ?_
    obtain ⟨q1, hb⟩ := hb
    exact g_zreturn C (nz_n q1) hΓ (Nat.zero_le _) (Nat.zero_le _) dX16_isWhole_42 ⟨_, rfl, hb⟩
  ·
    replace hb := hb.2 (c)
    refine g_iload_n C dX16_isWhole_11 3 rfl ?_
    refine g_if_ne (tgt := 41) C dX16_isWhole_12 (by decide) (fun c => ?_) (fun c => ?_)
    ·
      replace hb := hb.1 (c)
      refine g_iload_n C dX16_isWhole_41 3 rfl ?_
      obtain ⟨q2, hb⟩ := hb
      exact g_zreturn C (nz_n q2) hΓ (Nat.zero_le _) (Nat.zero_le _) dX16_isWhole_42 ⟨_, rfl, hb⟩
    ·
      replace hb := hb.2 (c)
      refine g_aload_n (some v0) C dX16_isWhole_15 0 rfl ?_
      obtain ⟨q3, hb⟩ := hb
      obtain ⟨a4, q5, hb⟩ := hb
      refine g_getR (some a4) C fl_RX16_215 dX16_isWhole_16 q3 rfl rfl q5 ?_
      refine g_iload C dX16_isWhole_19 4 rfl ?_
      obtain ⟨q6, hb⟩ := hb
      obtain ⟨q7, hb⟩ := hb
      refine g_ialdx (zAi σ a4 (ix v4)) C dX16_isWhole_21 q6 q7 rfl ?_
      refine g_iload_n C dX16_isWhole_22 1 rfl ?_
      refine g_iconst (v := (-1)) C dX16_isWhole_23 (by decide) ?_
      refine g_ixor C dX16_isWhole_24 ?_
      refine g_iand C dX16_isWhole_25 ?_
      refine g_if_ne (tgt := 33) C dX16_isWhole_26 (by decide) (fun c => ?_) (fun c => ?_)
      ·
        replace hb := hb.1 (c)
        refine g_iconst (v := 0) C dX16_isWhole_33 (by decide) ?_
        refine g_istore_n (i := 3) (lv' := [(3, .int 0), (0, .ref v0), (1, .int v1), (2, .int v2), (4, .int v4)]) C dX16_isWhole_34 rfl (hnl_of hΓ (by decide)) (by first | rfl | simp [cat_rf]) ?_
        refine g_iinc (v := v4 + 1) (lv' := [(4, .int (v4 + 1)), (3, .int 0), (0, .ref v0), (1, .int v1), (2, .int v2)]) C dX16_isWhole_35 4 rfl rfl (hnl_of hΓ (by decide)) (by first | rfl | simp [cat_rf]) ?_
        refine g_goto (tgt := 5) C dX16_isWhole_38 (by decide) ?_
        refine g_sub (lv' := [(0, .ref v0), (1, .int v1), (2, .int v2), (3, .int 0), (4, .int (v4 + 1))]) [2, 3, 4, 1, 0] rfl ?_
        exact h5 _ _ _ _ _ _ hb
      ·
        replace hb := hb.2 (c)
        refine g_iconst (v := 1) C dX16_isWhole_29 (by decide) ?_
        refine g_goto (tgt := 34) C dX16_isWhole_30 (by decide) ?_
        refine g_istore_n (i := 3) (lv' := [(3, .int 1), (0, .ref v0), (1, .int v1), (2, .int v2), (4, .int v4)]) C dX16_isWhole_34 rfl (hnl_of hΓ (by decide)) (by first | rfl | simp [cat_rf]) ?_
        refine g_iinc (v := v4 + 1) (lv' := [(4, .int (v4 + 1)), (3, .int 1), (0, .ref v0), (1, .int v1), (2, .int v2)]) C dX16_isWhole_35 4 rfl rfl (hnl_of hΓ (by decide)) (by first | rfl | simp [cat_rf]) ?_
        refine g_goto (tgt := 5) C dX16_isWhole_38 (by decide) ?_
        refine g_sub (lv' := [(0, .ref v0), (1, .int v1), (2, .int v2), (3, .int 1), (4, .int (v4 + 1))]) [2, 3, 4, 1, 0] rfl ?_
        exact h5 _ _ _ _ _ _ hb
theorem klX16_isWhole_5 {Γ : hCT} (C : hC Γ RX16 cX16_isWhole ((Option.some FieldType.boolean)) "isWhole" 0 0) {Q : Int32 → St → Prop} (hΓ : Γ.2.2.2.2.2.2.2.2.2.2.2 = (5, 0, 0, oI Q)) (f : Nat) (v0 : Nat) (v1 : Int32) (v2 : Int32) (v3 : Int32) (v4 : Int32) (σ : St) (hb : lX16_isWhole_5 Q f v0 v1 v2 v3 v4 σ) : hW Γ 0 0 5 [(0, .ref v0), (1, .int v1), (2, .int v2), (3, .int v3), (4, .int v4)] [] σ := by
  induction f generalizing v0 v1 v2 v3 v4 σ with
  | zero => exact hb.elim
  | succ f ih => exact kwX16_isWhole_5 C hΓ  (fun v0 v1 v2 v3 v4 σ h => ih v0 v1 v2 v3 v4 σ h) _ _ _ _ _ _ hb
set_option maxRecDepth 20000 in
theorem kwX16_isWhole_0 {Γ : hCT} (C : hC Γ RX16 cX16_isWhole ((Option.some FieldType.boolean)) "isWhole" 0 0) {Q : Int32 → St → Prop} (hΓ : Γ.2.2.2.2.2.2.2.2.2.2.2 = (5, 0, 0, oI Q)) (v0 : Nat) (v1 : Int32) (v2 : Int32) (σ : St) (hb : wX16_isWhole_0 Q v0 v1 v2 σ) : hW Γ 0 0 0 [(0, .ref v0), (1, .int v1), (2, .int v2)] [] σ := by
  unfold wX16_isWhole_0 at hb
  refine g_iconst (v := 0) C dX16_isWhole_0 (by decide) ?_
  refine g_istore_n (i := 3) (lv' := [(3, .int 0), (0, .ref v0), (1, .int v1), (2, .int v2)]) C dX16_isWhole_1 rfl (hnl_of hΓ (by decide)) (by first | rfl | simp [cat_rf]) ?_
  refine g_iconst (v := 0) C dX16_isWhole_2 (by decide) ?_
  refine g_istore (lv' := [(4, .int 0), (3, .int 0), (0, .ref v0), (1, .int v1), (2, .int v2)]) C dX16_isWhole_3 (hnl_of hΓ (by decide)) (by first | rfl | simp [cat_rf]) ?_
  refine g_sub (lv' := [(0, .ref v0), (1, .int v1), (2, .int v2), (3, .int 0), (4, .int 0)]) [2, 3, 4, 1, 0] rfl ?_
  obtain ⟨f1, hb⟩ := hb
  exact klX16_isWhole_5 C hΓ  f1 _ _ _ _ _ _ hb
theorem okX16_isWhole {v0 : Nat} {v1 : Int32} {v2 : Int32} {σ : St} {Q : Int32 → St → Prop} (hb : wX16_isWhole v0 v1 v2 σ Q) : hM yX16_isWhole cX16_isWhole 5 ((Option.some FieldType.boolean)) 0 0 0 0 [.ref v0, .int v1, .int v2] σ (oI Q) :=
  hM_of (by decide) (Nat.le_of_ble_eq_true rfl) (fun Γ hΓ C => kwX16_isWhole_0 C hΓ _ _ _ _ hb)
def wX16_chances_45 (Q : Int64 → St → Prop) (r5 : Nat → Int32 → Int64 → Int32 → St → Prop) (r45 : Nat → Int32 → Int64 → Int32 → Int64 → Int32 → St → Prop) (v0 : Nat) (v1 : Int32) (v2 : Int64) (v4 : Int32) (v5 : Int64) (v7 : Int32) (σ : St) : Prop :=
  zK σ v0 = 17 ∧ (((zFi σ 1062 v0) ≤ v7 → r5 v0 v1 (v2 + v5) (v4 + 1) σ) ∧ (¬ (zFi σ 1062 v0) ≤ v7 → ((¬ ((v4 >>> (v7 &&& 31)) &&& 1) = (1 : Int32) → ∃ a2 : Nat, zFr σ 1063 v0 = some a2 ∧ zK σ a2 = 20 ∧ vp_in v7 (zL σ a2) ∧ r45 v0 v1 v2 v4 (v5 * (Int32.toInt64 (8 - (zAi σ a2 (ix v7))))) (v7 + 1) σ) ∧ (((v4 >>> (v7 &&& 31)) &&& 1) = (1 : Int32) → ∃ a6 : Nat, zFr σ 1063 v0 = some a6 ∧ zK σ a6 = 20 ∧ vp_in v7 (zL σ a6) ∧ r45 v0 v1 v2 v4 (v5 * (Int32.toInt64 (zAi σ a6 (ix v7)))) (v7 + 1) σ))))
def lX16_chances_45 (Q : Int64 → St → Prop) (r5 : Nat → Int32 → Int64 → Int32 → St → Prop) : Nat → Nat → Int32 → Int64 → Int32 → Int64 → Int32 → St → Prop
  | 0, _, _, _, _, _, _, _ => False
  | f + 1, v0, v1, v2, v4, v5, v7, σ => wX16_chances_45 Q r5 (lX16_chances_45 Q r5 f) v0 v1 v2 v4 v5 v7 σ
def wX16_chances_5 (Q : Int64 → St → Prop) (r5 : Nat → Int32 → Int64 → Int32 → St → Prop) (v0 : Nat) (v1 : Int32) (v2 : Int64) (v4 : Int32) (σ : St) : Prop :=
  zK σ v0 = 17 ∧ ((((1 : Int32) <<< ((zFi σ 1062 v0) &&& 31)) ≤ v4 → Q v2 σ) ∧ (¬ ((1 : Int32) <<< ((zFi σ 1062 v0) &&& 31)) ≤ v4 → wX16_isWhole v0 v4 v1 σ (fun y3 σ2 => ((¬ y3 = 0 → zK σ2 v0 = 17 ∧ ∃ f, lX16_chances_45 Q r5 f v0 v1 v2 v4 ((1 : Int64) <<< (Int32.toInt64 (3 * (16 - (zFi σ2 1062 v0))) &&& 63)) 0 σ2) ∧ (y3 = 0 → r5 v0 v1 v2 (v4 + 1) σ2)))))
def lX16_chances_5 (Q : Int64 → St → Prop) : Nat → Nat → Int32 → Int64 → Int32 → St → Prop
  | 0, _, _, _, _, _ => False
  | f + 1, v0, v1, v2, v4, σ => wX16_chances_5 Q (lX16_chances_5 Q f) v0 v1 v2 v4 σ
def wX16_chances_0 (Q : Int64 → St → Prop) (v0 : Nat) (v1 : Int32) (σ : St) : Prop :=
  ∃ f, lX16_chances_5 Q f v0 v1 0 0 σ
def wX16_chances (v0 : Nat) (v1 : Int32) (σ : St) (Q : Int64 → St → Prop) : Prop := wX16_chances_0 Q v0 v1 σ
set_option maxRecDepth 20000 in
theorem kwX16_chances_45 {Γ : hCT} (C : hC Γ RX16 cX16_chances ((Option.some FieldType.long)) "chances" 1 24) {Q : Int64 → St → Prop} (hΓ : Γ.2.2.2.2.2.2.2.2.2.2.2 = (8, 0, 0, oJ Q)) {r5 : Nat → Int32 → Int64 → Int32 → St → Prop} (h5 : ∀ (v0 : Nat) (v1 : Int32) (v2 : Int64) (v4 : Int32) (σ : St), r5 v0 v1 v2 v4 σ → hW Γ 0 0 5 [(0, .ref v0), (1, .int v1), (2, .long v2), (4, .int v4)] [] σ) {r45 : Nat → Int32 → Int64 → Int32 → Int64 → Int32 → St → Prop} (h45 : ∀ (v0 : Nat) (v1 : Int32) (v2 : Int64) (v4 : Int32) (v5 : Int64) (v7 : Int32) (σ : St), r45 v0 v1 v2 v4 v5 v7 σ → hW Γ 0 0 45 [(0, .ref v0), (1, .int v1), (2, .long v2), (4, .int v4), (5, .long v5), (7, .int v7)] [] σ) (v0 : Nat) (v1 : Int32) (v2 : Int64) (v4 : Int32) (v5 : Int64) (v7 : Int32) (σ : St) (hb : wX16_chances_45 Q r5 r45 v0 v1 v2 v4 v5 v7 σ) : hW Γ 0 0 45 [(0, .ref v0), (1, .int v1), (2, .long v2), (4, .int v4), (5, .long v5), (7, .int v7)] [] σ := by
  unfold wX16_chances_45 at hb
  refine g_iload C dX16_chances_45 5 rfl ?_
  refine g_aload_n (some v0) C dX16_chances_47 0 rfl ?_
  obtain ⟨q1, hb⟩ := hb
  refine g_getIx (zFi σ 1062 v0) C fl_RX16_348 dX16_chances_48 q1 rfl rfl rfl ?_
  refine g_icmp_ge (tgt := 98) C dX16_chances_51 (by decide) (fun c => ?_) (fun c => ?_)
  ·
    replace hb := hb.1 (c)
    refine g_lload_n C dX16_chances_98 2 rfl ?_
    refine g_lload C dX16_chances_99 4 rfl ?_
    refine g_ladd C dX16_chances_101 ?_
    refine g_lstore_n (i := 2) (lv' := [(2, .long (v2 + v5)), (0, .ref v0), (1, .int v1), (4, .int v4), (5, .long v5), (7, .int v7)]) C dX16_chances_102 rfl (hnl_of hΓ (by decide)) (by first | rfl | simp [cat_rf]) ?_
    refine g_iinc (v := v4 + 1) (lv' := [(4, .int (v4 + 1)), (2, .long (v2 + v5)), (0, .ref v0), (1, .int v1), (5, .long v5), (7, .int v7)]) C dX16_chances_103 3 rfl rfl (hnl_of hΓ (by decide)) (by first | rfl | simp [cat_rf]) ?_
    refine g_goto (tgt := 5) C dX16_chances_106 (by decide) ?_
    refine g_sub (lv' := [(0, .ref v0), (1, .int v1), (2, .long (v2 + v5)), (4, .int (v4 + 1))]) [2, 3, 1, 0] rfl ?_
    exact h5 _ _ _ _ _ hb
  ·
    replace hb := hb.2 (c)
    refine g_lload C dX16_chances_54 4 rfl ?_
    refine g_iload C dX16_chances_56 3 rfl ?_
    refine g_iload C dX16_chances_58 5 rfl ?_
    refine g_ishr C dX16_chances_60 ?_
    refine g_iconst (v := 1) C dX16_chances_61 (by decide) ?_
    refine g_iand C dX16_chances_62 ?_
    refine g_iconst (v := 1) C dX16_chances_63 (by decide) ?_
    refine g_icmp_ne (tgt := 78) C dX16_chances_64 (by decide) (fun c => ?_) (fun c => ?_)
    ·
      replace hb := hb.1 (c)
      refine g_bipush (v := 8) C dX16_chances_78 (by decide) ?_
      refine g_aload_n (some v0) C dX16_chances_80 0 rfl ?_
      obtain ⟨a2, q3, hb⟩ := hb
      refine g_getR (some a2) C fl_RX16_218 dX16_chances_81 q1 rfl rfl q3 ?_
      refine g_iload C dX16_chances_84 5 rfl ?_
      obtain ⟨q4, hb⟩ := hb
      obtain ⟨q5, hb⟩ := hb
      refine g_ialdx (zAi σ a2 (ix v7)) C dX16_chances_86 q4 q5 rfl ?_
      refine g_isub C dX16_chances_87 ?_
      refine g_i2l C dX16_chances_88 ?_
      refine g_lmul C dX16_chances_89 ?_
      refine g_lstore (lv' := [(5, .long (v5 * (Int32.toInt64 (8 - (zAi σ a2 (ix v7)))))), (0, .ref v0), (1, .int v1), (2, .long v2), (4, .int v4), (7, .int v7)]) C dX16_chances_90 (hnl_of hΓ (by decide)) (by first | rfl | simp [cat_rf]) ?_
      refine g_iinc (v := v7 + 1) (lv' := [(7, .int (v7 + 1)), (5, .long (v5 * (Int32.toInt64 (8 - (zAi σ a2 (ix v7)))))), (0, .ref v0), (1, .int v1), (2, .long v2), (4, .int v4)]) C dX16_chances_92 5 rfl rfl (hnl_of hΓ (by decide)) (by first | rfl | simp [cat_rf]) ?_
      refine g_goto (tgt := 45) C dX16_chances_95 (by decide) ?_
      refine g_sub (lv' := [(0, .ref v0), (1, .int v1), (2, .long v2), (4, .int v4), (5, .long (v5 * (Int32.toInt64 (8 - (zAi σ a2 (ix v7)))))), (7, .int (v7 + 1))]) [2, 3, 4, 5, 1, 0] rfl ?_
      exact h45 _ _ _ _ _ _ _ hb
    ·
      replace hb := hb.2 (c)
      refine g_aload_n (some v0) C dX16_chances_67 0 rfl ?_
      obtain ⟨a6, q7, hb⟩ := hb
      refine g_getR (some a6) C fl_RX16_218 dX16_chances_68 q1 rfl rfl q7 ?_
      refine g_iload C dX16_chances_71 5 rfl ?_
      obtain ⟨q8, hb⟩ := hb
      obtain ⟨q9, hb⟩ := hb
      refine g_ialdx (zAi σ a6 (ix v7)) C dX16_chances_73 q8 q9 rfl ?_
      refine g_i2l C dX16_chances_74 ?_
      refine g_goto (tgt := 89) C dX16_chances_75 (by decide) ?_
      refine g_lmul C dX16_chances_89 ?_
      refine g_lstore (lv' := [(5, .long (v5 * (Int32.toInt64 (zAi σ a6 (ix v7))))), (0, .ref v0), (1, .int v1), (2, .long v2), (4, .int v4), (7, .int v7)]) C dX16_chances_90 (hnl_of hΓ (by decide)) (by first | rfl | simp [cat_rf]) ?_
      refine g_iinc (v := v7 + 1) (lv' := [(7, .int (v7 + 1)), (5, .long (v5 * (Int32.toInt64 (zAi σ a6 (ix v7))))), (0, .ref v0), (1, .int v1), (2, .long v2), (4, .int v4)]) C dX16_chances_92 5 rfl rfl (hnl_of hΓ (by decide)) (by first | rfl | simp [cat_rf]) ?_
      refine g_goto (tgt := 45) C dX16_chances_95 (by decide) ?_
      refine g_sub (lv' := [(0, .ref v0), (1, .int v1), (2, .long v2), (4, .int v4), (5, .long (v5 * (Int32.toInt64 (zAi σ a6 (ix v7))))), (7, .int (v7 + 1))]) [2, 3, 4, 5, 1, 0] rfl ?_
      exact h45 _ _ _ _ _ _ _ hb
theorem klX16_chances_45 {Γ : hCT} (C : hC Γ RX16 cX16_chances ((Option.some FieldType.long)) "chances" 1 24) {Q : Int64 → St → Prop} (hΓ : Γ.2.2.2.2.2.2.2.2.2.2.2 = (8, 0, 0, oJ Q)) {r5 : Nat → Int32 → Int64 → Int32 → St → Prop} (h5 : ∀ (v0 : Nat) (v1 : Int32) (v2 : Int64) (v4 : Int32) (σ : St), r5 v0 v1 v2 v4 σ → hW Γ 0 0 5 [(0, .ref v0), (1, .int v1), (2, .long v2), (4, .int v4)] [] σ) (f : Nat) (v0 : Nat) (v1 : Int32) (v2 : Int64) (v4 : Int32) (v5 : Int64) (v7 : Int32) (σ : St) (hb : lX16_chances_45 Q r5 f v0 v1 v2 v4 v5 v7 σ) : hW Γ 0 0 45 [(0, .ref v0), (1, .int v1), (2, .long v2), (4, .int v4), (5, .long v5), (7, .int v7)] [] σ := by
  induction f generalizing v0 v1 v2 v4 v5 v7 σ with
  | zero => exact hb.elim
  | succ f ih => exact kwX16_chances_45 C hΓ h5 (fun v0 v1 v2 v4 v5 v7 σ h => ih v0 v1 v2 v4 v5 v7 σ h) _ _ _ _ _ _ _ hb
set_option maxRecDepth 20000 in
theorem kwX16_chances_5 {Γ : hCT} (C : hC Γ RX16 cX16_chances ((Option.some FieldType.long)) "chances" 1 24) {Q : Int64 → St → Prop} (hΓ : Γ.2.2.2.2.2.2.2.2.2.2.2 = (8, 0, 0, oJ Q)) {r5 : Nat → Int32 → Int64 → Int32 → St → Prop} (h5 : ∀ (v0 : Nat) (v1 : Int32) (v2 : Int64) (v4 : Int32) (σ : St), r5 v0 v1 v2 v4 σ → hW Γ 0 0 5 [(0, .ref v0), (1, .int v1), (2, .long v2), (4, .int v4)] [] σ) (v0 : Nat) (v1 : Int32) (v2 : Int64) (v4 : Int32) (σ : St) (hb : wX16_chances_5 Q r5 v0 v1 v2 v4 σ) : hW Γ 0 0 5 [(0, .ref v0), (1, .int v1), (2, .long v2), (4, .int v4)] [] σ := by
  unfold wX16_chances_5 at hb
  refine g_iload C dX16_chances_5 3 rfl ?_
  refine g_iconst (v := 1) C dX16_chances_7 (by decide) ?_
  refine g_aload_n (some v0) C dX16_chances_8 0 rfl ?_
  obtain ⟨q1, hb⟩ := hb
  refine g_getIx (zFi σ 1062 v0) C fl_RX16_348 dX16_chances_9 q1 rfl rfl rfl ?_
  refine g_ishl C dX16_chances_12 ?_
  refine g_icmp_ge (tgt := 109) C dX16_chances_13 (by decide) (fun c => ?_) (fun c => ?_)
  ·
    replace hb := hb.1 (c)
    refine g_lload_n C dX16_chances_109 2 rfl ?_
    exact g_lreturn C hΓ (Nat.zero_le _) (Nat.zero_le _) dX16_chances_110 ⟨_, rfl, hb⟩
  ·
    replace hb := hb.2 (c)
    refine g_aload_n (some v0) C dX16_chances_16 0 rfl ?_
    refine g_iload C dX16_chances_17 3 rfl ?_
    refine g_iload_n C dX16_chances_19 1 rfl ?_
    refine g_invV (ci := 16) [.int v4, .int v1] [] zy_X16_isWhole wd_1551 wd_1553 wd_66 ⟨_, _, rfl⟩ (by decide) C dX16_chances_20 (by first | exact Nat.le_of_ble_eq_true rfl | simp [cat_rf]) (by first | exact Nat.le_of_ble_eq_true rfl | simp [cat_rf]) (by first | exact Nat.le_of_ble_eq_true rfl | simp [cat_rf]) (Nat.zero_le _) (Nat.zero_le _) rfl rfl q1 (okX16_isWhole hb) ?_
    rintro o σ2 ⟨y3, rfl, hb⟩
    refine ⟨_, rfl, ?_⟩
    refine g_if_ne (tgt := 29) C dX16_chances_23 (by decide) (fun c => ?_) (fun c => ?_)
    ·
      replace hb := hb.1 (c)
      refine g_lconst (v := 1) C dX16_chances_29 (by decide) ?_
      refine g_iconst (v := 3) C dX16_chances_30 (by decide) ?_
      refine g_bipush (v := 16) C dX16_chances_31 (by decide) ?_
      refine g_aload_n (some v0) C dX16_chances_33 0 rfl ?_
      obtain ⟨q4, hb⟩ := hb
      refine g_getIx (zFi σ2 1062 v0) C fl_RX16_348 dX16_chances_34 q4 rfl rfl rfl ?_
      refine g_isub C dX16_chances_37 ?_
      refine g_imul C dX16_chances_38 ?_
      refine g_lshl C dX16_chances_39 ?_
      refine g_lstore (lv' := [(5, .long ((1 : Int64) <<< (Int32.toInt64 (3 * (16 - (zFi σ2 1062 v0))) &&& 63))), (0, .ref v0), (1, .int v1), (2, .long v2), (4, .int v4)]) C dX16_chances_40 (hnl_of hΓ (by decide)) (by first | rfl | simp [cat_rf]) ?_
      refine g_iconst (v := 0) C dX16_chances_42 (by decide) ?_
      refine g_istore (lv' := [(7, .int 0), (5, .long ((1 : Int64) <<< (Int32.toInt64 (3 * (16 - (zFi σ2 1062 v0))) &&& 63))), (0, .ref v0), (1, .int v1), (2, .long v2), (4, .int v4)]) C dX16_chances_43 (hnl_of hΓ (by decide)) (by first | rfl | simp [cat_rf]) ?_
      refine g_sub (lv' := [(0, .ref v0), (1, .int v1), (2, .long v2), (4, .int v4), (5, .long ((1 : Int64) <<< (Int32.toInt64 (3 * (16 - (zFi σ2 1062 v0))) &&& 63))), (7, .int 0)]) [2, 3, 4, 5, 1, 0] rfl ?_
      obtain ⟨f5, hb⟩ := hb
      exact klX16_chances_45 C hΓ h5 f5 _ _ _ _ _ _ _ hb
    ·
      replace hb := hb.2 (c)
      refine g_goto (tgt := 103) C dX16_chances_26 (by decide) ?_
      refine g_iinc (v := v4 + 1) (lv' := [(4, .int (v4 + 1)), (0, .ref v0), (1, .int v1), (2, .long v2)]) C dX16_chances_103 3 rfl rfl (hnl_of hΓ (by decide)) (by first | rfl | simp [cat_rf]) ?_
      refine g_goto (tgt := 5) C dX16_chances_106 (by decide) ?_
      refine g_sub (lv' := [(0, .ref v0), (1, .int v1), (2, .long v2), (4, .int (v4 + 1))]) [1, 2, 3, 0] rfl ?_
      exact h5 _ _ _ _ _ hb
theorem klX16_chances_5 {Γ : hCT} (C : hC Γ RX16 cX16_chances ((Option.some FieldType.long)) "chances" 1 24) {Q : Int64 → St → Prop} (hΓ : Γ.2.2.2.2.2.2.2.2.2.2.2 = (8, 0, 0, oJ Q)) (f : Nat) (v0 : Nat) (v1 : Int32) (v2 : Int64) (v4 : Int32) (σ : St) (hb : lX16_chances_5 Q f v0 v1 v2 v4 σ) : hW Γ 0 0 5 [(0, .ref v0), (1, .int v1), (2, .long v2), (4, .int v4)] [] σ := by
  induction f generalizing v0 v1 v2 v4 σ with
  | zero => exact hb.elim
  | succ f ih => exact kwX16_chances_5 C hΓ  (fun v0 v1 v2 v4 σ h => ih v0 v1 v2 v4 σ h) _ _ _ _ _ hb
set_option maxRecDepth 20000 in
theorem kwX16_chances_0 {Γ : hCT} (C : hC Γ RX16 cX16_chances ((Option.some FieldType.long)) "chances" 1 24) {Q : Int64 → St → Prop} (hΓ : Γ.2.2.2.2.2.2.2.2.2.2.2 = (8, 0, 0, oJ Q)) (v0 : Nat) (v1 : Int32) (σ : St) (hb : wX16_chances_0 Q v0 v1 σ) : hW Γ 0 0 0 [(0, .ref v0), (1, .int v1)] [] σ := by
  unfold wX16_chances_0 at hb
  refine g_lconst (v := 0) C dX16_chances_0 (by decide) ?_
  refine g_lstore_n (i := 2) (lv' := [(2, .long 0), (0, .ref v0), (1, .int v1)]) C dX16_chances_1 rfl (hnl_of hΓ (by decide)) (by first | rfl | simp [cat_rf]) ?_
  refine g_iconst (v := 0) C dX16_chances_2 (by decide) ?_
  refine g_istore (lv' := [(4, .int 0), (2, .long 0), (0, .ref v0), (1, .int v1)]) C dX16_chances_3 (hnl_of hΓ (by decide)) (by first | rfl | simp [cat_rf]) ?_
  refine g_sub (lv' := [(0, .ref v0), (1, .int v1), (2, .long 0), (4, .int 0)]) [2, 3, 1, 0] rfl ?_
  obtain ⟨f1, hb⟩ := hb
  exact klX16_chances_5 C hΓ  f1 _ _ _ _ _ hb
theorem okX16_chances {v0 : Nat} {v1 : Int32} {σ : St} {Q : Int64 → St → Prop} (hb : wX16_chances v0 v1 σ Q) : hM yX16_chances cX16_chances 8 ((Option.some FieldType.long)) 1 24 0 0 [.ref v0, .int v1] σ (oJ Q) :=
  hM_of (by decide) (Nat.le_of_ble_eq_true rfl) (fun Γ hΓ C => kwX16_chances_0 C hΓ _ _ _ hb)
def wX16_chance_38 (Q : Int64 → St → Prop) (r38 : Nat → Int32 → Int32 → St → Prop) (v0 : Nat) (v1 : Int32) (v2 : Int32) (σ : St) : Prop :=
  zK σ v0 = 17 ∧ (((zFi σ 1062 v0) ≤ v2 → ∃ a2 : Nat, zFr σ 1050 v0 = some a2 ∧ zK σ a2 = 15 ∧ ∃ a5 : Nat, zFr σ 899 a2 = some a5 ∧ zK σ a5 = 20 ∧ vp_in v1 (zL σ a5) ∧ wX16_chances v0 (zAi σ a5 (ix v1)) (uFi σ 1025 v0 0) (fun y10 σ9 => Q y10 σ9)) ∧ (¬ (zFi σ 1062 v0) ≤ v2 → ∃ a11 : Nat, zFr σ 1063 v0 = some a11 ∧ ∃ a13 : Nat, zFr σ 1036 v0 = some a13 ∧ ∃ a15 : Nat, zFr σ 1060 v0 = some a15 ∧ zK σ a15 = 20 ∧ vp_in v2 (zL σ a15) ∧ zK σ a13 = 20 ∧ vp_in (zAi σ a15 (ix v2)) (zL σ a13) ∧ zK σ a11 = 20 ∧ vp_in v2 (zL σ a11) ∧ r38 v0 v1 (v2 + 1) (uAi σ a11 (ix v2) (zAi σ a13 (ix (zAi σ a15 (ix v2)))))))
def lX16_chance_38 (Q : Int64 → St → Prop) : Nat → Nat → Int32 → Int32 → St → Prop
  | 0, _, _, _, _ => False
  | f + 1, v0, v1, v2, σ => wX16_chance_38 Q (lX16_chance_38 Q f) v0 v1 v2 σ
def wX16_chance_0 (Q : Int64 → St → Prop) (v0 : Nat) (v1 : Int32) (σ : St) : Prop :=
  zK σ v0 = 17 ∧ wX16_isAnswer v0 v1 (uFi σ 1024 v0 0) (fun y3 σ2 => ((¬ y3 = 0 → zK σ2 v0 = 17 ∧ wX16_isFew v0 v1 σ2 (fun y6 σ5 => ((¬ y6 = 0 → ∃ f, lX16_chance_38 Q f v0 v1 0 σ5) ∧ (y6 = 0 → zK σ5 v0 = 17 ∧ wX16_refused v0 6 σ5 (fun y10 σ9 => Q (Int32.toInt64 y10) σ9))))) ∧ (y3 = 0 → zK σ2 v0 = 17 ∧ wX16_refused v0 1 σ2 (fun y13 σ12 => Q (Int32.toInt64 y13) σ12))))
def wX16_chance (v0 : Nat) (v1 : Int32) (σ : St) (Q : Int64 → St → Prop) : Prop := wX16_chance_0 Q v0 v1 σ
set_option maxRecDepth 20000 in
theorem kwX16_chance_38 {Γ : hCT} (C : hC Γ RX16 cX16_chance ((Option.some FieldType.long)) "chance" 2 51) {Q : Int64 → St → Prop} (hΓ : Γ.2.2.2.2.2.2.2.2.2.2.2 = (3, 0, 0, oJ Q)) {r38 : Nat → Int32 → Int32 → St → Prop} (h38 : ∀ (v0 : Nat) (v1 : Int32) (v2 : Int32) (σ : St), r38 v0 v1 v2 σ → hW Γ 0 0 38 [(0, .ref v0), (1, .int v1), (2, .int v2)] [] σ) (v0 : Nat) (v1 : Int32) (v2 : Int32) (σ : St) (hb : wX16_chance_38 Q r38 v0 v1 v2 σ) : hW Γ 0 0 38 [(0, .ref v0), (1, .int v1), (2, .int v2)] [] σ := by
  unfold wX16_chance_38 at hb
  refine g_iload_n C dX16_chance_38 2 rfl ?_
  refine g_aload_n (some v0) C dX16_chance_39 0 rfl ?_
  obtain ⟨q1, hb⟩ := hb
  refine g_getIx (zFi σ 1062 v0) C fl_RX16_348 dX16_chance_40 q1 rfl rfl rfl ?_
  refine g_icmp_ge (tgt := 69) C dX16_chance_43 (by decide) (fun c => ?_) (fun c => ?_)
  ·
    replace hb := hb.1 (c)
    refine g_aload_n (some v0) C dX16_chance_69 0 rfl ?_
    refine g_iconst (v := 0) C dX16_chance_70 (by decide) ?_
    refine g_putI C fl_RX16_7 dX16_chance_71 q1 rfl rfl rfl rfl ?_
    refine g_aload_n (some v0) C dX16_chance_74 0 rfl ?_
    refine g_aload_n (some v0) C dX16_chance_75 0 rfl ?_
    obtain ⟨a2, q3, hb⟩ := hb
    refine g_getR (some a2) C fl_RX16_31 dX16_chance_76 (by rw [zK_uFi]; exact q1) rfl rfl (by rw [zFr_uFi]; exact q3) ?_
    obtain ⟨q4, hb⟩ := hb
    obtain ⟨a5, q6, hb⟩ := hb
    refine g_getR (some a5) C fl_RX16_226 dX16_chance_79 (by rw [zK_uFi]; exact q4) rfl rfl (by rw [zFr_uFi]; exact q6) ?_
    refine g_iload_n C dX16_chance_82 1 rfl ?_
    obtain ⟨q7, hb⟩ := hb
    obtain ⟨q8, hb⟩ := hb
    refine g_ialdx (zAi σ a5 (ix v1)) C dX16_chance_83 (by rw [zK_uFi]; exact q7) (by rw [zL_uFi]; exact q8) (by rw [zAi_uFi]) ?_
    refine g_invV (ci := 16) [.int (zAi σ a5 (ix v1))] [] zy_X16_chances wd_1547 wd_1549 wd_65 ⟨_, _, rfl⟩ (by decide) C dX16_chance_84 (by first | exact Nat.le_of_ble_eq_true rfl | simp [cat_rf]) (by first | exact Nat.le_of_ble_eq_true rfl | simp [cat_rf]) (by first | exact Nat.le_of_ble_eq_true rfl | simp [cat_rf]) (Nat.zero_le _) (Nat.zero_le _) rfl rfl (by rw [zK_uFi]; exact q1) (okX16_chances hb) ?_
    rintro o σ9 ⟨y10, rfl, hb⟩
    refine ⟨_, rfl, ?_⟩
    exact g_lreturn C hΓ (Nat.zero_le _) (Nat.zero_le _) dX16_chance_87 ⟨_, rfl, hb⟩
  ·
    replace hb := hb.2 (c)
    refine g_aload_n (some v0) C dX16_chance_46 0 rfl ?_
    obtain ⟨a11, q12, hb⟩ := hb
    refine g_getR (some a11) C fl_RX16_218 dX16_chance_47 q1 rfl rfl q12 ?_
    refine g_iload_n C dX16_chance_50 2 rfl ?_
    refine g_aload_n (some v0) C dX16_chance_51 0 rfl ?_
    obtain ⟨a13, q14, hb⟩ := hb
    refine g_getR (some a13) C fl_RX16_107 dX16_chance_52 q1 rfl rfl q14 ?_
    refine g_aload_n (some v0) C dX16_chance_55 0 rfl ?_
    obtain ⟨a15, q16, hb⟩ := hb
    refine g_getR (some a15) C fl_RX16_212 dX16_chance_56 q1 rfl rfl q16 ?_
    refine g_iload_n C dX16_chance_59 2 rfl ?_
    obtain ⟨q17, hb⟩ := hb
    obtain ⟨q18, hb⟩ := hb
    refine g_ialdx (zAi σ a15 (ix v2)) C dX16_chance_60 q17 q18 rfl ?_
    obtain ⟨q19, hb⟩ := hb
    obtain ⟨q20, hb⟩ := hb
    refine g_ialdx (zAi σ a13 (ix (zAi σ a15 (ix v2)))) C dX16_chance_61 q19 q20 rfl ?_
    obtain ⟨q21, hb⟩ := hb
    obtain ⟨q22, hb⟩ := hb
    refine g_iast C dX16_chance_62 q21 q22 ?_
    refine g_iinc (v := v2 + 1) (lv' := [(2, .int (v2 + 1)), (0, .ref v0), (1, .int v1)]) C dX16_chance_63 2 rfl rfl (hnl_of hΓ (by decide)) (by first | rfl | simp [cat_rf]) ?_
    refine g_goto (tgt := 38) C dX16_chance_66 (by decide) ?_
    refine g_sub (lv' := [(0, .ref v0), (1, .int v1), (2, .int (v2 + 1))]) [1, 2, 0] rfl ?_
    exact h38 _ _ _ _ hb
theorem klX16_chance_38 {Γ : hCT} (C : hC Γ RX16 cX16_chance ((Option.some FieldType.long)) "chance" 2 51) {Q : Int64 → St → Prop} (hΓ : Γ.2.2.2.2.2.2.2.2.2.2.2 = (3, 0, 0, oJ Q)) (f : Nat) (v0 : Nat) (v1 : Int32) (v2 : Int32) (σ : St) (hb : lX16_chance_38 Q f v0 v1 v2 σ) : hW Γ 0 0 38 [(0, .ref v0), (1, .int v1), (2, .int v2)] [] σ := by
  induction f generalizing v0 v1 v2 σ with
  | zero => exact hb.elim
  | succ f ih => exact kwX16_chance_38 C hΓ  (fun v0 v1 v2 σ h => ih v0 v1 v2 σ h) _ _ _ _ hb
set_option maxRecDepth 20000 in
theorem kwX16_chance_0 {Γ : hCT} (C : hC Γ RX16 cX16_chance ((Option.some FieldType.long)) "chance" 2 51) {Q : Int64 → St → Prop} (hΓ : Γ.2.2.2.2.2.2.2.2.2.2.2 = (3, 0, 0, oJ Q)) (v0 : Nat) (v1 : Int32) (σ : St) (hb : wX16_chance_0 Q v0 v1 σ) : hW Γ 0 0 0 [(0, .ref v0), (1, .int v1)] [] σ := by
  unfold wX16_chance_0 at hb
  refine g_aload_n (some v0) C dX16_chance_0 0 rfl ?_
  refine g_iconst (v := 0) C dX16_chance_1 (by decide) ?_
  obtain ⟨q1, hb⟩ := hb
  refine g_putI C fl_RX16_1 dX16_chance_2 q1 rfl rfl rfl rfl ?_
  refine g_aload_n (some v0) C dX16_chance_5 0 rfl ?_
  refine g_iload_n C dX16_chance_6 1 rfl ?_
  refine g_invV (ci := 16) [.int v1] [] zy_X16_isAnswer wd_1491 wd_1493 wd_62 ⟨_, _, rfl⟩ (by decide) C dX16_chance_7 (by first | exact Nat.le_of_ble_eq_true rfl | simp [cat_rf]) (by first | exact Nat.le_of_ble_eq_true rfl | simp [cat_rf]) (by first | exact Nat.le_of_ble_eq_true rfl | simp [cat_rf]) (Nat.zero_le _) (Nat.zero_le _) rfl rfl (by rw [zK_uFi]; exact q1) (okX16_isAnswer hb) ?_
  rintro o σ2 ⟨y3, rfl, hb⟩
  refine ⟨_, rfl, ?_⟩
  refine g_if_ne (tgt := 20) C dX16_chance_10 (by decide) (fun c => ?_) (fun c => ?_)
  ·
    replace hb := hb.1 (c)
    refine g_aload_n (some v0) C dX16_chance_20 0 rfl ?_
    refine g_iload_n C dX16_chance_21 1 rfl ?_
    obtain ⟨q4, hb⟩ := hb
    refine g_invV (ci := 16) [.int v1] [] zy_X16_isFew wd_1543 wd_1545 wd_64 ⟨_, _, rfl⟩ (by decide) C dX16_chance_22 (by first | exact Nat.le_of_ble_eq_true rfl | simp [cat_rf]) (by first | exact Nat.le_of_ble_eq_true rfl | simp [cat_rf]) (by first | exact Nat.le_of_ble_eq_true rfl | simp [cat_rf]) (Nat.zero_le _) (Nat.zero_le _) rfl rfl q4 (okX16_isFew hb) ?_
    rintro o σ5 ⟨y6, rfl, hb⟩
    refine ⟨_, rfl, ?_⟩
    refine g_if_ne (tgt := 36) C dX16_chance_25 (by decide) (fun c => ?_) (fun c => ?_)
    ·
      replace hb := hb.1 (c)
      refine g_iconst (v := 0) C dX16_chance_36 (by decide) ?_
      refine g_istore_n (i := 2) (lv' := [(2, .int 0), (0, .ref v0), (1, .int v1)]) C dX16_chance_37 rfl (hnl_of hΓ (by decide)) (by first | rfl | simp [cat_rf]) ?_
      refine g_sub (lv' := [(0, .ref v0), (1, .int v1), (2, .int 0)]) [1, 2, 0] rfl ?_
      obtain ⟨f7, hb⟩ := hb
      exact klX16_chance_38 C hΓ  f7 _ _ _ _ hb
    ·
      replace hb := hb.2 (c)
      refine g_aload_n (some v0) C dX16_chance_28 0 rfl ?_
      refine g_bipush (v := 6) C dX16_chance_29 (by decide) ?_
      obtain ⟨q8, hb⟩ := hb
      refine g_invV (ci := 16) [.int 6] [] zy_X16_refused wd_1005 wd_1007 wd_38 ⟨_, _, rfl⟩ (by decide) C dX16_chance_31 (by first | exact Nat.le_of_ble_eq_true rfl | simp [cat_rf]) (by first | exact Nat.le_of_ble_eq_true rfl | simp [cat_rf]) (by first | exact Nat.le_of_ble_eq_true rfl | simp [cat_rf]) (Nat.zero_le _) (Nat.zero_le _) rfl rfl q8 (okX16_refused hb) ?_
      rintro o σ9 ⟨y10, rfl, hb⟩
      refine ⟨_, rfl, ?_⟩
      refine g_i2l C dX16_chance_34 ?_
      exact g_lreturn C hΓ (Nat.zero_le _) (Nat.zero_le _) dX16_chance_35 ⟨_, rfl, hb⟩
  ·
    replace hb := hb.2 (c)
    refine g_aload_n (some v0) C dX16_chance_13 0 rfl ?_
    refine g_iconst (v := 1) C dX16_chance_14 (by decide) ?_
    obtain ⟨q11, hb⟩ := hb
    refine g_invV (ci := 16) [.int 1] [] zy_X16_refused wd_1005 wd_1007 wd_38 ⟨_, _, rfl⟩ (by decide) C dX16_chance_15 (by first | exact Nat.le_of_ble_eq_true rfl | simp [cat_rf]) (by first | exact Nat.le_of_ble_eq_true rfl | simp [cat_rf]) (by first | exact Nat.le_of_ble_eq_true rfl | simp [cat_rf]) (Nat.zero_le _) (Nat.zero_le _) rfl rfl q11 (okX16_refused hb) ?_
    rintro o σ12 ⟨y13, rfl, hb⟩
    refine ⟨_, rfl, ?_⟩
    refine g_i2l C dX16_chance_18 ?_
    exact g_lreturn C hΓ (Nat.zero_le _) (Nat.zero_le _) dX16_chance_19 ⟨_, rfl, hb⟩
theorem okX16_chance {v0 : Nat} {v1 : Int32} {σ : St} {Q : Int64 → St → Prop} (hb : wX16_chance v0 v1 σ Q) : hM yX16_chance cX16_chance 3 ((Option.some FieldType.long)) 2 51 0 0 [.ref v0, .int v1] σ (oJ Q) :=
  hM_of (by decide) (Nat.le_of_ble_eq_true rfl) (fun Γ hΓ C => kwX16_chance_0 C hΓ _ _ _ hb)
def wX16_fewAt_26 (Q : Int32 → St → Prop) (v0 : Nat) (v2 : Int32) (σ : St) : Prop :=
  zK σ v0 = 17 ∧ (((zFi σ 1062 v0) ≤ v2 → Q (-1) σ) ∧ (¬ (zFi σ 1062 v0) ≤ v2 → Q v2 σ))
def wX16_fewAt_2 (Q : Int32 → St → Prop) (r2 : Nat → Int32 → Int32 → St → Prop) (v0 : Nat) (v1 : Int32) (v2 : Int32) (σ : St) : Prop :=
  zK σ v0 = 17 ∧ (((zFi σ 1062 v0) ≤ v2 → wX16_fewAt_26 Q v0 v2 σ) ∧ (¬ (zFi σ 1062 v0) ≤ v2 → ∃ a2 : Nat, zFr σ 1060 v0 = some a2 ∧ zK σ a2 = 20 ∧ vp_in v2 (zL σ a2) ∧ (((zAi σ a2 (ix v2)) = v1 → wX16_fewAt_26 Q v0 v2 σ) ∧ (¬ (zAi σ a2 (ix v2)) = v1 → r2 v0 v1 (v2 + 1) σ))))
def lX16_fewAt_2 (Q : Int32 → St → Prop) : Nat → Nat → Int32 → Int32 → St → Prop
  | 0, _, _, _, _ => False
  | f + 1, v0, v1, v2, σ => wX16_fewAt_2 Q (lX16_fewAt_2 Q f) v0 v1 v2 σ
def wX16_fewAt_0 (Q : Int32 → St → Prop) (v0 : Nat) (v1 : Int32) (σ : St) : Prop :=
  ∃ f, lX16_fewAt_2 Q f v0 v1 0 σ
def wX16_fewAt (v0 : Nat) (v1 : Int32) (σ : St) (Q : Int32 → St → Prop) : Prop := wX16_fewAt_0 Q v0 v1 σ
set_option maxRecDepth 20000 in
theorem kwX16_fewAt_26 {Γ : hCT} (C : hC Γ RX16 cX16_fewAt ((Option.some FieldType.int)) "fewAt" 0 0) {Q : Int32 → St → Prop} (hΓ : Γ.2.2.2.2.2.2.2.2.2.2.2 = (3, 0, 0, oI Q)) (v0 : Nat) (v2 : Int32) (σ : St) (hb : wX16_fewAt_26 Q v0 v2 σ) : hW Γ 0 0 26 [(0, .ref v0), (2, .int v2)] [] σ := by
  unfold wX16_fewAt_26 at hb
  refine g_iload_n C dX16_fewAt_26 1 rfl ?_
  refine g_aload_n (some v0) C dX16_fewAt_27 0 rfl ?_
  obtain ⟨q1, hb⟩ := hb
  refine g_getIx (zFi σ 1062 v0) C fl_RX16_348 dX16_fewAt_28 q1 rfl rfl rfl ?_
  refine g_icmp_ge (tgt := 38) C dX16_fewAt_31 (by decide) (fun c => ?_) (fun c => ?_)
  ·
    replace hb := hb.1 (c)
    refine g_iconst (v := (-1)) C dX16_fewAt_38 (by decide) ?_
    exact g_ireturn C hΓ (Nat.zero_le _) (Nat.zero_le _) dX16_fewAt_39 ⟨_, rfl, hb⟩
  ·
    replace hb := hb.2 (c)
    refine g_iload_n C dX16_fewAt_34 1 rfl ?_
    refine g_goto (tgt := 39) C dX16_fewAt_35 (by decide) ?_
    exact g_ireturn C hΓ (Nat.zero_le _) (Nat.zero_le _) dX16_fewAt_39 ⟨_, rfl, hb⟩
set_option maxRecDepth 20000 in
theorem kwX16_fewAt_2 {Γ : hCT} (C : hC Γ RX16 cX16_fewAt ((Option.some FieldType.int)) "fewAt" 0 0) {Q : Int32 → St → Prop} (hΓ : Γ.2.2.2.2.2.2.2.2.2.2.2 = (3, 0, 0, oI Q)) {r2 : Nat → Int32 → Int32 → St → Prop} (h2 : ∀ (v0 : Nat) (v1 : Int32) (v2 : Int32) (σ : St), r2 v0 v1 v2 σ → hW Γ 0 0 2 [(0, .ref v0), (1, .int v1), (2, .int v2)] [] σ) (v0 : Nat) (v1 : Int32) (v2 : Int32) (σ : St) (hb : wX16_fewAt_2 Q r2 v0 v1 v2 σ) : hW Γ 0 0 2 [(0, .ref v0), (1, .int v1), (2, .int v2)] [] σ := by
  unfold wX16_fewAt_2 at hb
  refine g_iload_n C dX16_fewAt_2 2 rfl ?_
  refine g_aload_n (some v0) C dX16_fewAt_3 0 rfl ?_
  obtain ⟨q1, hb⟩ := hb
  refine g_getIx (zFi σ 1062 v0) C fl_RX16_348 dX16_fewAt_4 q1 rfl rfl rfl ?_
  refine g_icmp_ge (tgt := 26) C dX16_fewAt_7 (by decide) (fun c => ?_) (fun c => ?_)
  ·
    replace hb := hb.1 (c)
    refine g_sub (lv' := [(0, .ref v0), (2, .int v2)]) [0, 2] rfl ?_
    exact kwX16_fewAt_26 C hΓ  _ _ _ hb
  ·
    replace hb := hb.2 (c)
    refine g_aload_n (some v0) C dX16_fewAt_10 0 rfl ?_
    obtain ⟨a2, q3, hb⟩ := hb
    refine g_getR (some a2) C fl_RX16_212 dX16_fewAt_11 q1 rfl rfl q3 ?_
    refine g_iload_n C dX16_fewAt_14 2 rfl ?_
    obtain ⟨q4, hb⟩ := hb
    obtain ⟨q5, hb⟩ := hb
    refine g_ialdx (zAi σ a2 (ix v2)) C dX16_fewAt_15 q4 q5 rfl ?_
    refine g_iload_n C dX16_fewAt_16 1 rfl ?_
    refine g_icmp_eq (tgt := 26) C dX16_fewAt_17 (by decide) (fun c => ?_) (fun c => ?_)
    ·
      replace hb := hb.1 (c)
      refine g_sub (lv' := [(0, .ref v0), (2, .int v2)]) [0, 2] rfl ?_
      exact kwX16_fewAt_26 C hΓ  _ _ _ hb
    ·
      replace hb := hb.2 (c)
      refine g_iinc (v := v2 + 1) (lv' := [(2, .int (v2 + 1)), (0, .ref v0), (1, .int v1)]) C dX16_fewAt_20 2 rfl rfl (hnl_of hΓ (by decide)) (by first | rfl | simp [cat_rf]) ?_
      refine g_goto (tgt := 2) C dX16_fewAt_23 (by decide) ?_
      refine g_sub (lv' := [(0, .ref v0), (1, .int v1), (2, .int (v2 + 1))]) [1, 2, 0] rfl ?_
      exact h2 _ _ _ _ hb
theorem klX16_fewAt_2 {Γ : hCT} (C : hC Γ RX16 cX16_fewAt ((Option.some FieldType.int)) "fewAt" 0 0) {Q : Int32 → St → Prop} (hΓ : Γ.2.2.2.2.2.2.2.2.2.2.2 = (3, 0, 0, oI Q)) (f : Nat) (v0 : Nat) (v1 : Int32) (v2 : Int32) (σ : St) (hb : lX16_fewAt_2 Q f v0 v1 v2 σ) : hW Γ 0 0 2 [(0, .ref v0), (1, .int v1), (2, .int v2)] [] σ := by
  induction f generalizing v0 v1 v2 σ with
  | zero => exact hb.elim
  | succ f ih => exact kwX16_fewAt_2 C hΓ  (fun v0 v1 v2 σ h => ih v0 v1 v2 σ h) _ _ _ _ hb
set_option maxRecDepth 20000 in
theorem kwX16_fewAt_0 {Γ : hCT} (C : hC Γ RX16 cX16_fewAt ((Option.some FieldType.int)) "fewAt" 0 0) {Q : Int32 → St → Prop} (hΓ : Γ.2.2.2.2.2.2.2.2.2.2.2 = (3, 0, 0, oI Q)) (v0 : Nat) (v1 : Int32) (σ : St) (hb : wX16_fewAt_0 Q v0 v1 σ) : hW Γ 0 0 0 [(0, .ref v0), (1, .int v1)] [] σ := by
  unfold wX16_fewAt_0 at hb
  refine g_iconst (v := 0) C dX16_fewAt_0 (by decide) ?_
  refine g_istore_n (i := 2) (lv' := [(2, .int 0), (0, .ref v0), (1, .int v1)]) C dX16_fewAt_1 rfl (hnl_of hΓ (by decide)) (by first | rfl | simp [cat_rf]) ?_
  refine g_sub (lv' := [(0, .ref v0), (1, .int v1), (2, .int 0)]) [1, 2, 0] rfl ?_
  obtain ⟨f1, hb⟩ := hb
  exact klX16_fewAt_2 C hΓ  f1 _ _ _ _ hb
theorem okX16_fewAt {v0 : Nat} {v1 : Int32} {σ : St} {Q : Int32 → St → Prop} (hb : wX16_fewAt v0 v1 σ Q) : hM yX16_fewAt cX16_fewAt 3 ((Option.some FieldType.int)) 0 0 0 0 [.ref v0, .int v1] σ (oI Q) :=
  hM_of (by decide) (Nat.le_of_ble_eq_true rfl) (fun Γ hΓ C => kwX16_fewAt_0 C hΓ _ _ _ hb)
def wX16_share_65 (Q : Int64 → St → Prop) (r65 : Nat → Int32 → Int32 → Int32 → St → Prop) (v0 : Nat) (v1 : Int32) (v3 : Int32) (v4 : Int32) (σ : St) : Prop :=
  zK σ v0 = 17 ∧ (((zFi σ 1062 v0) ≤ v4 → ∃ a2 : Nat, zFr σ 1063 v0 = some a2 ∧ zK σ a2 = 20 ∧ vp_in v3 (zL σ a2) ∧ ∃ a6 : Nat, zFr σ 1050 v0 = some a6 ∧ zK σ a6 = 15 ∧ ∃ a9 : Nat, zFr σ 899 a6 = some a9 ∧ zK σ a9 = 20 ∧ vp_in v1 (zL σ a9) ∧ wX16_chances v0 (zAi (uAi σ a2 (ix v3) 8) a9 (ix v1)) (uAi σ a2 (ix v3) 8) (fun y14 σ13 => zK σ13 v0 = 17 ∧ ∃ a16 : Nat, zFr σ13 1063 v0 = some a16 ∧ zK σ13 a16 = 20 ∧ vp_in v3 (zL σ13 a16) ∧ ∃ a20 : Nat, zFr σ13 1050 v0 = some a20 ∧ zK σ13 a20 = 15 ∧ ∃ a23 : Nat, zFr σ13 899 a20 = some a23 ∧ zK σ13 a23 = 20 ∧ vp_in v1 (zL σ13 a23) ∧ wX16_chances v0 (zAi (uAi σ13 a16 (ix v3) 0) a23 (ix v1)) (uAi σ13 a16 (ix v3) 0) (fun y28 σ27 => Q (y14 - y28) σ27))) ∧ (¬ (zFi σ 1062 v0) ≤ v4 → ∃ a29 : Nat, zFr σ 1063 v0 = some a29 ∧ ∃ a31 : Nat, zFr σ 1036 v0 = some a31 ∧ ∃ a33 : Nat, zFr σ 1060 v0 = some a33 ∧ zK σ a33 = 20 ∧ vp_in v4 (zL σ a33) ∧ zK σ a31 = 20 ∧ vp_in (zAi σ a33 (ix v4)) (zL σ a31) ∧ zK σ a29 = 20 ∧ vp_in v4 (zL σ a29) ∧ r65 v0 v1 v3 (v4 + 1) (uAi σ a29 (ix v4) (zAi σ a31 (ix (zAi σ a33 (ix v4)))))))
def lX16_share_65 (Q : Int64 → St → Prop) : Nat → Nat → Int32 → Int32 → Int32 → St → Prop
  | 0, _, _, _, _, _ => False
  | f + 1, v0, v1, v3, v4, σ => wX16_share_65 Q (lX16_share_65 Q f) v0 v1 v3 v4 σ
def wX16_share_21 (Q : Int64 → St → Prop) (v0 : Nat) (σ : St) : Prop :=
  zK σ v0 = 17 ∧ wX16_refused v0 1 σ (fun y3 σ2 => Q (Int32.toInt64 y3) σ2)
def wX16_share_0 (Q : Int64 → St → Prop) (v0 : Nat) (v1 : Int32) (v2 : Int32) (σ : St) : Prop :=
  zK σ v0 = 17 ∧ wX16_isAnswer v0 v1 (uFi σ 1024 v0 0) (fun y3 σ2 => ((y3 = 0 → wX16_share_21 Q v0 σ2) ∧ (¬ y3 = 0 → zK σ2 v0 = 17 ∧ wX16_isFact v0 v2 σ2 (fun y6 σ5 => ((¬ y6 = 0 → zK σ5 v0 = 17 ∧ wX16_isFew v0 v1 σ5 (fun y9 σ8 => ((¬ y9 = 0 → zK σ8 v0 = 17 ∧ wX16_fewAt v0 v2 σ8 (fun y12 σ11 => zK σ11 v0 = 17 ∧ ((¬ y12 = ((-1) : Int32) → ∃ f, lX16_share_65 Q f v0 v1 y12 0 (uFi σ11 1025 v0 0)) ∧ (y12 = ((-1) : Int32) → Q 0 (uFi σ11 1025 v0 0))))) ∧ (y9 = 0 → zK σ8 v0 = 17 ∧ wX16_refused v0 6 σ8 (fun y17 σ16 => Q (Int32.toInt64 y17) σ16))))) ∧ (y6 = 0 → wX16_share_21 Q v0 σ5))))))
def wX16_share (v0 : Nat) (v1 : Int32) (v2 : Int32) (σ : St) (Q : Int64 → St → Prop) : Prop := wX16_share_0 Q v0 v1 v2 σ
set_option maxRecDepth 20000 in
theorem kwX16_share_65 {Γ : hCT} (C : hC Γ RX16 cX16_share ((Option.some FieldType.long)) "share" 2 51) {Q : Int64 → St → Prop} (hΓ : Γ.2.2.2.2.2.2.2.2.2.2.2 = (6, 0, 0, oJ Q)) {r65 : Nat → Int32 → Int32 → Int32 → St → Prop} (h65 : ∀ (v0 : Nat) (v1 : Int32) (v3 : Int32) (v4 : Int32) (σ : St), r65 v0 v1 v3 v4 σ → hW Γ 0 0 65 [(0, .ref v0), (1, .int v1), (3, .int v3), (4, .int v4)] [] σ) (v0 : Nat) (v1 : Int32) (v3 : Int32) (v4 : Int32) (σ : St) (hb : wX16_share_65 Q r65 v0 v1 v3 v4 σ) : hW Γ 0 0 65 [(0, .ref v0), (1, .int v1), (3, .int v3), (4, .int v4)] [] σ := by
  unfold wX16_share_65 at hb
  refine g_iload C dX16_share_65 3 rfl ?_
  refine g_aload_n (some v0) C dX16_share_67 0 rfl ?_
  obtain ⟨q1, hb⟩ := hb
  refine g_getIx (zFi σ 1062 v0) C fl_RX16_348 dX16_share_68 q1 rfl rfl rfl ?_
  refine g_icmp_ge (tgt := 99) C dX16_share_71 (by decide) (fun c => ?_) (fun c => ?_)
  ·
    replace hb := hb.1 (c)
    refine g_aload_n (some v0) C dX16_share_99 0 rfl ?_
    obtain ⟨a2, q3, hb⟩ := hb
    refine g_getR (some a2) C fl_RX16_218 dX16_share_100 q1 rfl rfl q3 ?_
    refine g_iload_n C dX16_share_103 2 rfl ?_
    refine g_bipush (v := 8) C dX16_share_104 (by decide) ?_
    obtain ⟨q4, hb⟩ := hb
    obtain ⟨q5, hb⟩ := hb
    refine g_iast C dX16_share_106 q4 q5 ?_
    refine g_aload_n (some v0) C dX16_share_107 0 rfl ?_
    refine g_aload_n (some v0) C dX16_share_108 0 rfl ?_
    obtain ⟨a6, q7, hb⟩ := hb
    refine g_getR (some a6) C fl_RX16_31 dX16_share_109 (by rw [zK_uAi]; exact q1) rfl rfl (by rw [zFr_uAi]; exact q7) ?_
    obtain ⟨q8, hb⟩ := hb
    obtain ⟨a9, q10, hb⟩ := hb
    refine g_getR (some a9) C fl_RX16_226 dX16_share_112 (by rw [zK_uAi]; exact q8) rfl rfl (by rw [zFr_uAi]; exact q10) ?_
    refine g_iload_n C dX16_share_115 1 rfl ?_
    obtain ⟨q11, hb⟩ := hb
    obtain ⟨q12, hb⟩ := hb
    refine g_ialdx (zAi (uAi σ a2 (ix v3) 8) a9 (ix v1)) C dX16_share_116 (by rw [zK_uAi]; exact q11) (by rw [zL_uAi]; exact q12) rfl ?_
    refine g_invV (ci := 16) [.int (zAi (uAi σ a2 (ix v3) 8) a9 (ix v1))] [] zy_X16_chances wd_1547 wd_1549 wd_65 ⟨_, _, rfl⟩ (by decide) C dX16_share_117 (by first | exact Nat.le_of_ble_eq_true rfl | simp [cat_rf]) (by first | exact Nat.le_of_ble_eq_true rfl | simp [cat_rf]) (by first | exact Nat.le_of_ble_eq_true rfl | simp [cat_rf]) (Nat.zero_le _) (Nat.zero_le _) rfl rfl (by rw [zK_uAi]; exact q1) (okX16_chances hb) ?_
    rintro o σ13 ⟨y14, rfl, hb⟩
    refine ⟨_, rfl, ?_⟩
    refine g_lstore (lv' := [(4, .long y14), (0, .ref v0), (1, .int v1), (3, .int v3)]) C dX16_share_120 (hnl_of hΓ (by decide)) (by first | rfl | simp [cat_rf]) ?_
    refine g_aload_n (some v0) C dX16_share_122 1 rfl ?_
    obtain ⟨q15, hb⟩ := hb
    obtain ⟨a16, q17, hb⟩ := hb
    refine g_getR (some a16) C fl_RX16_218 dX16_share_123 q15 rfl rfl q17 ?_
    refine g_iload_n C dX16_share_126 3 rfl ?_
    refine g_iconst (v := 0) C dX16_share_127 (by decide) ?_
    obtain ⟨q18, hb⟩ := hb
    obtain ⟨q19, hb⟩ := hb
    refine g_iast C dX16_share_128 q18 q19 ?_
    refine g_lload C dX16_share_129 0 rfl ?_
    refine g_aload_n (some v0) C dX16_share_131 1 rfl ?_
    refine g_aload_n (some v0) C dX16_share_132 1 rfl ?_
    obtain ⟨a20, q21, hb⟩ := hb
    refine g_getR (some a20) C fl_RX16_31 dX16_share_133 (by rw [zK_uAi]; exact q15) rfl rfl (by rw [zFr_uAi]; exact q21) ?_
    obtain ⟨q22, hb⟩ := hb
    obtain ⟨a23, q24, hb⟩ := hb
    refine g_getR (some a23) C fl_RX16_226 dX16_share_136 (by rw [zK_uAi]; exact q22) rfl rfl (by rw [zFr_uAi]; exact q24) ?_
    refine g_iload_n C dX16_share_139 2 rfl ?_
    obtain ⟨q25, hb⟩ := hb
    obtain ⟨q26, hb⟩ := hb
    refine g_ialdx (zAi (uAi σ13 a16 (ix v3) 0) a23 (ix v1)) C dX16_share_140 (by rw [zK_uAi]; exact q25) (by rw [zL_uAi]; exact q26) rfl ?_
    refine g_invV (ci := 16) [.int (zAi (uAi σ13 a16 (ix v3) 0) a23 (ix v1))] [.long y14] zy_X16_chances wd_1547 wd_1549 wd_65 ⟨_, _, rfl⟩ (by decide) C dX16_share_141 (by first | exact Nat.le_of_ble_eq_true rfl | simp [cat_rf]) (by first | exact Nat.le_of_ble_eq_true rfl | simp [cat_rf]) (by first | exact Nat.le_of_ble_eq_true rfl | simp [cat_rf]) (Nat.zero_le _) (Nat.zero_le _) rfl rfl (by rw [zK_uAi]; exact q15) (okX16_chances hb) ?_
    rintro o σ27 ⟨y28, rfl, hb⟩
    refine ⟨_, rfl, ?_⟩
    refine g_lsub C dX16_share_144 ?_
    exact g_lreturn C hΓ (Nat.zero_le _) (Nat.zero_le _) dX16_share_145 ⟨_, rfl, hb⟩
  ·
    replace hb := hb.2 (c)
    refine g_aload_n (some v0) C dX16_share_74 0 rfl ?_
    obtain ⟨a29, q30, hb⟩ := hb
    refine g_getR (some a29) C fl_RX16_218 dX16_share_75 q1 rfl rfl q30 ?_
    refine g_iload C dX16_share_78 3 rfl ?_
    refine g_aload_n (some v0) C dX16_share_80 0 rfl ?_
    obtain ⟨a31, q32, hb⟩ := hb
    refine g_getR (some a31) C fl_RX16_107 dX16_share_81 q1 rfl rfl q32 ?_
    refine g_aload_n (some v0) C dX16_share_84 0 rfl ?_
    obtain ⟨a33, q34, hb⟩ := hb
    refine g_getR (some a33) C fl_RX16_212 dX16_share_85 q1 rfl rfl q34 ?_
    refine g_iload C dX16_share_88 3 rfl ?_
    obtain ⟨q35, hb⟩ := hb
    obtain ⟨q36, hb⟩ := hb
    refine g_ialdx (zAi σ a33 (ix v4)) C dX16_share_90 q35 q36 rfl ?_
    obtain ⟨q37, hb⟩ := hb
    obtain ⟨q38, hb⟩ := hb
    refine g_ialdx (zAi σ a31 (ix (zAi σ a33 (ix v4)))) C dX16_share_91 q37 q38 rfl ?_
    obtain ⟨q39, hb⟩ := hb
    obtain ⟨q40, hb⟩ := hb
    refine g_iast C dX16_share_92 q39 q40 ?_
    refine g_iinc (v := v4 + 1) (lv' := [(4, .int (v4 + 1)), (0, .ref v0), (1, .int v1), (3, .int v3)]) C dX16_share_93 3 rfl rfl (hnl_of hΓ (by decide)) (by first | rfl | simp [cat_rf]) ?_
    refine g_goto (tgt := 65) C dX16_share_96 (by decide) ?_
    refine g_sub (lv' := [(0, .ref v0), (1, .int v1), (3, .int v3), (4, .int (v4 + 1))]) [1, 2, 3, 0] rfl ?_
    exact h65 _ _ _ _ _ hb
theorem klX16_share_65 {Γ : hCT} (C : hC Γ RX16 cX16_share ((Option.some FieldType.long)) "share" 2 51) {Q : Int64 → St → Prop} (hΓ : Γ.2.2.2.2.2.2.2.2.2.2.2 = (6, 0, 0, oJ Q)) (f : Nat) (v0 : Nat) (v1 : Int32) (v3 : Int32) (v4 : Int32) (σ : St) (hb : lX16_share_65 Q f v0 v1 v3 v4 σ) : hW Γ 0 0 65 [(0, .ref v0), (1, .int v1), (3, .int v3), (4, .int v4)] [] σ := by
  induction f generalizing v0 v1 v3 v4 σ with
  | zero => exact hb.elim
  | succ f ih => exact kwX16_share_65 C hΓ  (fun v0 v1 v3 v4 σ h => ih v0 v1 v3 v4 σ h) _ _ _ _ _ hb
set_option maxRecDepth 20000 in
theorem kwX16_share_21 {Γ : hCT} (C : hC Γ RX16 cX16_share ((Option.some FieldType.long)) "share" 2 51) {Q : Int64 → St → Prop} (hΓ : Γ.2.2.2.2.2.2.2.2.2.2.2 = (6, 0, 0, oJ Q)) (v0 : Nat) (σ : St) (hb : wX16_share_21 Q v0 σ) : hW Γ 0 0 21 [(0, .ref v0)] [] σ := by
  unfold wX16_share_21 at hb
  refine g_aload_n (some v0) C dX16_share_21 0 rfl ?_
  refine g_iconst (v := 1) C dX16_share_22 (by decide) ?_
  obtain ⟨q1, hb⟩ := hb
  refine g_invV (ci := 16) [.int 1] [] zy_X16_refused wd_1005 wd_1007 wd_38 ⟨_, _, rfl⟩ (by decide) C dX16_share_23 (by first | exact Nat.le_of_ble_eq_true rfl | simp [cat_rf]) (by first | exact Nat.le_of_ble_eq_true rfl | simp [cat_rf]) (by first | exact Nat.le_of_ble_eq_true rfl | simp [cat_rf]) (Nat.zero_le _) (Nat.zero_le _) rfl rfl q1 (okX16_refused hb) ?_
  rintro o σ2 ⟨y3, rfl, hb⟩
  refine ⟨_, rfl, ?_⟩
  refine g_i2l C dX16_share_26 ?_
  exact g_lreturn C hΓ (Nat.zero_le _) (Nat.zero_le _) dX16_share_27 ⟨_, rfl, hb⟩
set_option maxRecDepth 20000 in
theorem kwX16_share_0 {Γ : hCT} (C : hC Γ RX16 cX16_share ((Option.some FieldType.long)) "share" 2 51) {Q : Int64 → St → Prop} (hΓ : Γ.2.2.2.2.2.2.2.2.2.2.2 = (6, 0, 0, oJ Q)) (v0 : Nat) (v1 : Int32) (v2 : Int32) (σ : St) (hb : wX16_share_0 Q v0 v1 v2 σ) : hW Γ 0 0 0 [(0, .ref v0), (1, .int v1), (2, .int v2)] [] σ := by
  unfold wX16_share_0 at hb
  refine g_aload_n (some v0) C dX16_share_0 0 rfl ?_
  refine g_iconst (v := 0) C dX16_share_1 (by decide) ?_
  obtain ⟨q1, hb⟩ := hb
  refine g_putI C fl_RX16_1 dX16_share_2 q1 rfl rfl rfl rfl ?_
  refine g_aload_n (some v0) C dX16_share_5 0 rfl ?_
  refine g_iload_n C dX16_share_6 1 rfl ?_
  refine g_invV (ci := 16) [.int v1] [] zy_X16_isAnswer wd_1491 wd_1493 wd_62 ⟨_, _, rfl⟩ (by decide) C dX16_share_7 (by first | exact Nat.le_of_ble_eq_true rfl | simp [cat_rf]) (by first | exact Nat.le_of_ble_eq_true rfl | simp [cat_rf]) (by first | exact Nat.le_of_ble_eq_true rfl | simp [cat_rf]) (Nat.zero_le _) (Nat.zero_le _) rfl rfl (by rw [zK_uFi]; exact q1) (okX16_isAnswer hb) ?_
  rintro o σ2 ⟨y3, rfl, hb⟩
  refine ⟨_, rfl, ?_⟩
  refine g_if_eq (tgt := 21) C dX16_share_10 (by decide) (fun c => ?_) (fun c => ?_)
  ·
    replace hb := hb.1 (c)
    refine g_sub (lv' := [(0, .ref v0)]) [0] rfl ?_
    exact kwX16_share_21 C hΓ  _ _ hb
  ·
    replace hb := hb.2 (c)
    refine g_aload_n (some v0) C dX16_share_13 0 rfl ?_
    refine g_iload_n C dX16_share_14 2 rfl ?_
    obtain ⟨q4, hb⟩ := hb
    refine g_invV (ci := 16) [.int v2] [] zy_X16_isFact wd_1029 wd_1031 wd_42 ⟨_, _, rfl⟩ (by decide) C dX16_share_15 (by first | exact Nat.le_of_ble_eq_true rfl | simp [cat_rf]) (by first | exact Nat.le_of_ble_eq_true rfl | simp [cat_rf]) (by first | exact Nat.le_of_ble_eq_true rfl | simp [cat_rf]) (Nat.zero_le _) (Nat.zero_le _) rfl rfl q4 (okX16_isFact hb) ?_
    rintro o σ5 ⟨y6, rfl, hb⟩
    refine ⟨_, rfl, ?_⟩
    refine g_if_ne (tgt := 28) C dX16_share_18 (by decide) (fun c => ?_) (fun c => ?_)
    ·
      replace hb := hb.1 (c)
      refine g_aload_n (some v0) C dX16_share_28 0 rfl ?_
      refine g_iload_n C dX16_share_29 1 rfl ?_
      obtain ⟨q7, hb⟩ := hb
      refine g_invV (ci := 16) [.int v1] [] zy_X16_isFew wd_1543 wd_1545 wd_64 ⟨_, _, rfl⟩ (by decide) C dX16_share_30 (by first | exact Nat.le_of_ble_eq_true rfl | simp [cat_rf]) (by first | exact Nat.le_of_ble_eq_true rfl | simp [cat_rf]) (by first | exact Nat.le_of_ble_eq_true rfl | simp [cat_rf]) (Nat.zero_le _) (Nat.zero_le _) rfl rfl q7 (okX16_isFew hb) ?_
      rintro o σ8 ⟨y9, rfl, hb⟩
      refine ⟨_, rfl, ?_⟩
      refine g_if_ne (tgt := 44) C dX16_share_33 (by decide) (fun c => ?_) (fun c => ?_)
      ·
        replace hb := hb.1 (c)
        refine g_aload_n (some v0) C dX16_share_44 0 rfl ?_
        refine g_iload_n C dX16_share_45 2 rfl ?_
        obtain ⟨q10, hb⟩ := hb
        refine g_invV (ci := 16) [.int v2] [] zy_X16_fewAt wd_1559 wd_1561 wd_67 ⟨_, _, rfl⟩ (by decide) C dX16_share_46 (by first | exact Nat.le_of_ble_eq_true rfl | simp [cat_rf]) (by first | exact Nat.le_of_ble_eq_true rfl | simp [cat_rf]) (by first | exact Nat.le_of_ble_eq_true rfl | simp [cat_rf]) (Nat.zero_le _) (Nat.zero_le _) rfl rfl q10 (okX16_fewAt hb) ?_
        rintro o σ11 ⟨y12, rfl, hb⟩
        refine ⟨_, rfl, ?_⟩
        refine g_istore_n (i := 3) (lv' := [(3, .int y12), (0, .ref v0), (1, .int v1), (2, .int v2)]) C dX16_share_49 rfl (hnl_of hΓ (by decide)) (by first | rfl | simp [cat_rf]) ?_
        refine g_aload_n (some v0) C dX16_share_50 1 rfl ?_
        refine g_iconst (v := 0) C dX16_share_51 (by decide) ?_
        obtain ⟨q13, hb⟩ := hb
        refine g_putI C fl_RX16_7 dX16_share_52 q13 rfl rfl rfl rfl ?_
        refine g_iload_n C dX16_share_55 0 rfl ?_
        refine g_iconst (v := (-1)) C dX16_share_56 (by decide) ?_
        refine g_icmp_ne (tgt := 62) C dX16_share_57 (by decide) (fun c => ?_) (fun c => ?_)
        ·
          replace hb := hb.1 (c)
          refine g_iconst (v := 0) C dX16_share_62 (by decide) ?_
          refine g_istore (lv' := [(4, .int 0), (3, .int y12), (0, .ref v0), (1, .int v1), (2, .int v2)]) C dX16_share_63 (hnl_of hΓ (by decide)) (by first | rfl | simp [cat_rf]) ?_
          refine g_sub (lv' := [(0, .ref v0), (1, .int v1), (3, .int y12), (4, .int 0)]) [2, 3, 1, 0] rfl ?_
          obtain ⟨f14, hb⟩ := hb
          exact klX16_share_65 C hΓ  f14 _ _ _ _ _ hb
        ·
          replace hb := hb.2 (c)
          refine g_lconst (v := 0) C dX16_share_60 (by decide) ?_
          exact g_lreturn C hΓ (Nat.zero_le _) (Nat.zero_le _) dX16_share_61 ⟨_, rfl, hb⟩
      ·
        replace hb := hb.2 (c)
        refine g_aload_n (some v0) C dX16_share_36 0 rfl ?_
        refine g_bipush (v := 6) C dX16_share_37 (by decide) ?_
        obtain ⟨q15, hb⟩ := hb
        refine g_invV (ci := 16) [.int 6] [] zy_X16_refused wd_1005 wd_1007 wd_38 ⟨_, _, rfl⟩ (by decide) C dX16_share_39 (by first | exact Nat.le_of_ble_eq_true rfl | simp [cat_rf]) (by first | exact Nat.le_of_ble_eq_true rfl | simp [cat_rf]) (by first | exact Nat.le_of_ble_eq_true rfl | simp [cat_rf]) (Nat.zero_le _) (Nat.zero_le _) rfl rfl q15 (okX16_refused hb) ?_
        rintro o σ16 ⟨y17, rfl, hb⟩
        refine ⟨_, rfl, ?_⟩
        refine g_i2l C dX16_share_42 ?_
        exact g_lreturn C hΓ (Nat.zero_le _) (Nat.zero_le _) dX16_share_43 ⟨_, rfl, hb⟩
    ·
      replace hb := hb.2 (c)
      refine g_sub (lv' := [(0, .ref v0)]) [0] rfl ?_
      exact kwX16_share_21 C hΓ  _ _ hb
theorem okX16_share {v0 : Nat} {v1 : Int32} {v2 : Int32} {σ : St} {Q : Int64 → St → Prop} (hb : wX16_share v0 v1 v2 σ Q) : hM yX16_share cX16_share 6 ((Option.some FieldType.long)) 2 51 0 0 [.ref v0, .int v1, .int v2] σ (oJ Q) :=
  hM_of (by decide) (Nat.le_of_ble_eq_true rfl) (fun Γ hΓ C => kwX16_share_0 C hΓ _ _ _ _ hb)
def wX16_sizeOf_4 (Q : Int32 → St → Prop) (r4 : Int32 → Int32 → St → Prop) (v1 : Int32) (v2 : Int32) (σ : St) : Prop :=
  ((v2 = 0 → Q v1 σ) ∧ (¬ v2 = 0 → r4 (v1 + 1) (v2 &&& (v2 - 1)) σ))
def lX16_sizeOf_4 (Q : Int32 → St → Prop) : Nat → Int32 → Int32 → St → Prop
  | 0, _, _, _ => False
  | f + 1, v1, v2, σ => wX16_sizeOf_4 Q (lX16_sizeOf_4 Q f) v1 v2 σ
def wX16_sizeOf_0 (Q : Int32 → St → Prop) (v0 : Int32) (σ : St) : Prop :=
  ∃ f, lX16_sizeOf_4 Q f 0 v0 σ
def wX16_sizeOf (v0 : Int32) (σ : St) (Q : Int32 → St → Prop) : Prop := wX16_sizeOf_0 Q v0 σ
set_option maxRecDepth 20000 in
theorem kwX16_sizeOf_4 {Γ : hCT} (C : hC Γ RX16 cX16_sizeOf ((Option.some FieldType.int)) "sizeOf" 0 0) {Q : Int32 → St → Prop} (hΓ : Γ.2.2.2.2.2.2.2.2.2.2.2 = (3, 0, 0, oI Q)) {r4 : Int32 → Int32 → St → Prop} (h4 : ∀ (v1 : Int32) (v2 : Int32) (σ : St), r4 v1 v2 σ → hW Γ 0 0 4 [(1, .int v1), (2, .int v2)] [] σ) (v1 : Int32) (v2 : Int32) (σ : St) (hb : wX16_sizeOf_4 Q r4 v1 v2 σ) : hW Γ 0 0 4 [(1, .int v1), (2, .int v2)] [] σ := by
  unfold wX16_sizeOf_4 at hb
  refine g_iload_n C dX16_sizeOf_4 1 rfl ?_
  refine g_if_eq (tgt := 20) C dX16_sizeOf_5 (by decide) (fun c => ?_) (fun c => ?_)
  ·
    replace hb := hb.1 (c)
    refine g_iload_n C dX16_sizeOf_20 0 rfl ?_
    exact g_ireturn C hΓ (Nat.zero_le _) (Nat.zero_le _) dX16_sizeOf_21 ⟨_, rfl, hb⟩
  ·
    replace hb := hb.2 (c)
    refine g_iinc (v := v1 + 1) (lv' := [(1, .int (v1 + 1)), (2, .int v2)]) C dX16_sizeOf_8 0 rfl rfl (hnl_of hΓ (by decide)) (by first | rfl | simp [cat_rf]) ?_
    refine g_iload_n C dX16_sizeOf_11 1 rfl ?_
    refine g_iload_n C dX16_sizeOf_12 1 rfl ?_
    refine g_iconst (v := 1) C dX16_sizeOf_13 (by decide) ?_
    refine g_isub C dX16_sizeOf_14 ?_
    refine g_iand C dX16_sizeOf_15 ?_
    refine g_istore_n (i := 2) (lv' := [(2, .int (v2 &&& (v2 - 1))), (1, .int (v1 + 1))]) C dX16_sizeOf_16 rfl (hnl_of hΓ (by decide)) (by first | rfl | simp [cat_rf]) ?_
    refine g_goto (tgt := 4) C dX16_sizeOf_17 (by decide) ?_
    refine g_sub (lv' := [(1, .int (v1 + 1)), (2, .int (v2 &&& (v2 - 1)))]) [1, 0] rfl ?_
    exact h4 _ _ _ hb
theorem klX16_sizeOf_4 {Γ : hCT} (C : hC Γ RX16 cX16_sizeOf ((Option.some FieldType.int)) "sizeOf" 0 0) {Q : Int32 → St → Prop} (hΓ : Γ.2.2.2.2.2.2.2.2.2.2.2 = (3, 0, 0, oI Q)) (f : Nat) (v1 : Int32) (v2 : Int32) (σ : St) (hb : lX16_sizeOf_4 Q f v1 v2 σ) : hW Γ 0 0 4 [(1, .int v1), (2, .int v2)] [] σ := by
  induction f generalizing v1 v2 σ with
  | zero => exact hb.elim
  | succ f ih => exact kwX16_sizeOf_4 C hΓ  (fun v1 v2 σ h => ih v1 v2 σ h) _ _ _ hb
set_option maxRecDepth 20000 in
theorem kwX16_sizeOf_0 {Γ : hCT} (C : hC Γ RX16 cX16_sizeOf ((Option.some FieldType.int)) "sizeOf" 0 0) {Q : Int32 → St → Prop} (hΓ : Γ.2.2.2.2.2.2.2.2.2.2.2 = (3, 0, 0, oI Q)) (v0 : Int32) (σ : St) (hb : wX16_sizeOf_0 Q v0 σ) : hW Γ 0 0 0 [(0, .int v0)] [] σ := by
  unfold wX16_sizeOf_0 at hb
  refine g_iconst (v := 0) C dX16_sizeOf_0 (by decide) ?_
  refine g_istore_n (i := 1) (lv' := [(1, .int 0), (0, .int v0)]) C dX16_sizeOf_1 rfl (hnl_of hΓ (by decide)) (by first | rfl | simp [cat_rf]) ?_
  refine g_iload_n C dX16_sizeOf_2 1 rfl ?_
  refine g_istore_n (i := 2) (lv' := [(2, .int v0), (1, .int 0), (0, .int v0)]) C dX16_sizeOf_3 rfl (hnl_of hΓ (by decide)) (by first | rfl | simp [cat_rf]) ?_
  refine g_sub (lv' := [(1, .int 0), (2, .int v0)]) [1, 0] rfl ?_
  obtain ⟨f1, hb⟩ := hb
  exact klX16_sizeOf_4 C hΓ  f1 _ _ _ hb
theorem okX16_sizeOf {v0 : Int32} {σ : St} {Q : Int32 → St → Prop} (hb : wX16_sizeOf v0 σ Q) : hM yX16_sizeOf cX16_sizeOf 3 ((Option.some FieldType.int)) 0 0 0 0 [.int v0] σ (oI Q) :=
  hM_of (by decide) (Nat.le_of_ble_eq_true rfl) (fun Γ hΓ C => kwX16_sizeOf_0 C hΓ _ _ hb)
def wX16_least_142 (Q : Int64 → St → Prop) (r142 : Nat → Int32 → Int64 → Int32 → St → Prop) (v0 : Nat) (v2 : Int32) (v3 : Int64) (v5 : Int32) (σ : St) : Prop :=
  zK σ v0 = 17 ∧ (((zFi σ 1062 v0) ≤ v5 → Q v3 (uFi σ 1025 v0 0)) ∧ (¬ (zFi σ 1062 v0) ≤ v5 → ((¬ ((v2 >>> (v5 &&& 31)) &&& 1) = (1 : Int32) → r142 v0 v2 v3 (v5 + 1) σ) ∧ (((v2 >>> (v5 &&& 31)) &&& 1) = (1 : Int32) → ∃ a2 : Nat, zFr σ 1060 v0 = some a2 ∧ zK σ a2 = 20 ∧ vp_in v5 (zL σ a2) ∧ r142 v0 v2 (v3 ||| ((1 : Int64) <<< (Int32.toInt64 (zAi σ a2 (ix v5)) &&& 63))) (v5 + 1) σ))))
def lX16_least_142 (Q : Int64 → St → Prop) : Nat → Nat → Int32 → Int64 → Int32 → St → Prop
  | 0, _, _, _, _, _ => False
  | f + 1, v0, v2, v3, v5, σ => wX16_least_142 Q (lX16_least_142 Q f) v0 v2 v3 v5 σ
def wX16_least_124 (Q : Int64 → St → Prop) (r49 : Nat → Int32 → Int32 → Int32 → St → Prop) (v0 : Nat) (v1 : Int32) (v2 : Int32) (v3 : Int32) (v4 : Int32) (σ : St) : Prop :=
  ((v4 = 0 → r49 v0 v1 v2 (v3 + 1) σ) ∧ (¬ v4 = 0 → r49 v0 v1 v3 (v3 + 1) σ))
def wX16_least_80 (Q : Int64 → St → Prop) (r49 : Nat → Int32 → Int32 → Int32 → St → Prop) (r80 : Nat → Int32 → Int32 → Int32 → Int32 → Int32 → St → Prop) (v0 : Nat) (v1 : Int32) (v2 : Int32) (v3 : Int32) (v4 : Int32) (v5 : Int32) (σ : St) : Prop :=
  zK σ v0 = 17 ∧ ∃ a2 : Nat, zFr σ 1050 v0 = some a2 ∧ zK σ a2 = 15 ∧ ∃ a5 : Nat, zFr σ 899 a2 = some a5 ∧ zK σ a5 = 20 ∧ vp_in v1 (zL σ a5) ∧ (((zAi σ a5 (ix v1)) ≤ v5 → wX16_least_124 Q r49 v0 v1 v2 v3 v4 σ) ∧ (¬ (zAi σ a5 (ix v1)) ≤ v5 → ((v4 = 0 → wX16_least_124 Q r49 v0 v1 v2 v3 v4 σ) ∧ (¬ v4 = 0 → ∃ a9 : Nat, zFr σ 1061 v0 = some a9 ∧ zK σ a9 = 20 ∧ vp_in v5 (zL σ a9) ∧ ((((zAi σ a9 (ix v5)) &&& v3) = 0 → r80 v0 v1 v2 v3 0 (v5 + 1) σ) ∧ (¬ ((zAi σ a9 (ix v5)) &&& v3) = 0 → r80 v0 v1 v2 v3 1 (v5 + 1) σ))))))
def lX16_least_80 (Q : Int64 → St → Prop) (r49 : Nat → Int32 → Int32 → Int32 → St → Prop) : Nat → Nat → Int32 → Int32 → Int32 → Int32 → Int32 → St → Prop
  | 0, _, _, _, _, _, _, _ => False
  | f + 1, v0, v1, v2, v3, v4, v5, σ => wX16_least_80 Q r49 (lX16_least_80 Q r49 f) v0 v1 v2 v3 v4 v5 σ
def wX16_least_75 (Q : Int64 → St → Prop) (r49 : Nat → Int32 → Int32 → Int32 → St → Prop) (v0 : Nat) (v1 : Int32) (v2 : Int32) (v3 : Int32) (s0 : Int32) (σ : St) : Prop :=
  ∃ f, lX16_least_80 Q r49 f v0 v1 v2 v3 s0 0 σ
def wX16_least_49 (Q : Int64 → St → Prop) (r49 : Nat → Int32 → Int32 → Int32 → St → Prop) (v0 : Nat) (v1 : Int32) (v2 : Int32) (v3 : Int32) (σ : St) : Prop :=
  zK σ v0 = 17 ∧ ((((1 : Int32) <<< ((zFi σ 1062 v0) &&& 31)) ≤ v3 → ∃ f, lX16_least_142 Q f v0 v2 0 0 σ) ∧ (¬ ((1 : Int32) <<< ((zFi σ 1062 v0) &&& 31)) ≤ v3 → wX16_sizeOf v3 σ (fun y4 σ3 => wX16_sizeOf v2 σ3 (fun y6 σ5 => ((y6 ≤ y4 → wX16_least_75 Q r49 v0 v1 v2 v3 0 σ5) ∧ (¬ y6 ≤ y4 → wX16_least_75 Q r49 v0 v1 v2 v3 1 σ5))))))
def lX16_least_49 (Q : Int64 → St → Prop) : Nat → Nat → Int32 → Int32 → Int32 → St → Prop
  | 0, _, _, _, _, _ => False
  | f + 1, v0, v1, v2, v3, σ => wX16_least_49 Q (lX16_least_49 Q f) v0 v1 v2 v3 σ
def wX16_least_0 (Q : Int64 → St → Prop) (v0 : Nat) (v1 : Int32) (σ : St) : Prop :=
  zK σ v0 = 17 ∧ wX16_isAnswer v0 v1 (uFi σ 1024 v0 0) (fun y3 σ2 => ((¬ y3 = 0 → zK σ2 v0 = 17 ∧ wX16_isFew v0 v1 σ2 (fun y6 σ5 => ((¬ y6 = 0 → zK σ5 v0 = 17 ∧ ∃ f, lX16_least_49 Q f v0 v1 (((1 : Int32) <<< ((zFi σ5 1062 v0) &&& 31)) - 1) 0 σ5) ∧ (y6 = 0 → zK σ5 v0 = 17 ∧ wX16_refused v0 6 σ5 (fun y11 σ10 => Q (Int32.toInt64 y11) σ10))))) ∧ (y3 = 0 → zK σ2 v0 = 17 ∧ wX16_refused v0 1 σ2 (fun y14 σ13 => Q (Int32.toInt64 y14) σ13))))
def wX16_least (v0 : Nat) (v1 : Int32) (σ : St) (Q : Int64 → St → Prop) : Prop := wX16_least_0 Q v0 v1 σ
set_option maxRecDepth 20000 in
theorem kwX16_least_142 {Γ : hCT} (C : hC Γ RX16 cX16_least ((Option.some FieldType.long)) "least" 1 25) {Q : Int64 → St → Prop} (hΓ : Γ.2.2.2.2.2.2.2.2.2.2.2 = (6, 0, 0, oJ Q)) {r142 : Nat → Int32 → Int64 → Int32 → St → Prop} (h142 : ∀ (v0 : Nat) (v2 : Int32) (v3 : Int64) (v5 : Int32) (σ : St), r142 v0 v2 v3 v5 σ → hW Γ 0 0 142 [(0, .ref v0), (2, .int v2), (3, .long v3), (5, .int v5)] [] σ) (v0 : Nat) (v2 : Int32) (v3 : Int64) (v5 : Int32) (σ : St) (hb : wX16_least_142 Q r142 v0 v2 v3 v5 σ) : hW Γ 0 0 142 [(0, .ref v0), (2, .int v2), (3, .long v3), (5, .int v5)] [] σ := by
  unfold wX16_least_142 at hb
  refine g_iload C dX16_least_142 3 rfl ?_
  refine g_aload_n (some v0) C dX16_least_144 0 rfl ?_
  obtain ⟨q1, hb⟩ := hb
  refine g_getIx (zFi σ 1062 v0) C fl_RX16_348 dX16_least_145 q1 rfl rfl rfl ?_
  refine g_icmp_ge (tgt := 179) C dX16_least_148 (by decide) (fun c => ?_) (fun c => ?_)
  ·
    replace hb := hb.1 (c)
    refine g_aload_n (some v0) C dX16_least_179 0 rfl ?_
    refine g_iconst (v := 0) C dX16_least_180 (by decide) ?_
    refine g_putI C fl_RX16_7 dX16_least_181 q1 rfl rfl rfl rfl ?_
    refine g_lload_n C dX16_least_184 2 rfl ?_
    exact g_lreturn C hΓ (Nat.zero_le _) (Nat.zero_le _) dX16_least_185 ⟨_, rfl, hb⟩
  ·
    replace hb := hb.2 (c)
    refine g_iload_n C dX16_least_151 1 rfl ?_
    refine g_iload C dX16_least_152 3 rfl ?_
    refine g_ishr C dX16_least_154 ?_
    refine g_iconst (v := 1) C dX16_least_155 (by decide) ?_
    refine g_iand C dX16_least_156 ?_
    refine g_iconst (v := 1) C dX16_least_157 (by decide) ?_
    refine g_icmp_ne (tgt := 173) C dX16_least_158 (by decide) (fun c => ?_) (fun c => ?_)
    ·
      replace hb := hb.1 (c)
      refine g_iinc (v := v5 + 1) (lv' := [(5, .int (v5 + 1)), (0, .ref v0), (2, .int v2), (3, .long v3)]) C dX16_least_173 3 rfl rfl (hnl_of hΓ (by decide)) (by first | rfl | simp [cat_rf]) ?_
      refine g_goto (tgt := 142) C dX16_least_176 (by decide) ?_
      refine g_sub (lv' := [(0, .ref v0), (2, .int v2), (3, .long v3), (5, .int (v5 + 1))]) [1, 2, 3, 0] rfl ?_
      exact h142 _ _ _ _ _ hb
    ·
      replace hb := hb.2 (c)
      refine g_lload_n C dX16_least_161 2 rfl ?_
      refine g_lconst (v := 1) C dX16_least_162 (by decide) ?_
      refine g_aload_n (some v0) C dX16_least_163 0 rfl ?_
      obtain ⟨a2, q3, hb⟩ := hb
      refine g_getR (some a2) C fl_RX16_212 dX16_least_164 q1 rfl rfl q3 ?_
      refine g_iload C dX16_least_167 3 rfl ?_
      obtain ⟨q4, hb⟩ := hb
      obtain ⟨q5, hb⟩ := hb
      refine g_ialdx (zAi σ a2 (ix v5)) C dX16_least_169 q4 q5 rfl ?_
      refine g_lshl C dX16_least_170 ?_
      refine g_lor C dX16_least_171 ?_
      refine g_lstore_n (i := 3) (lv' := [(3, .long (v3 ||| ((1 : Int64) <<< (Int32.toInt64 (zAi σ a2 (ix v5)) &&& 63)))), (0, .ref v0), (2, .int v2), (5, .int v5)]) C dX16_least_172 rfl (hnl_of hΓ (by decide)) (by first | rfl | simp [cat_rf]) ?_
      refine g_iinc (v := v5 + 1) (lv' := [(5, .int (v5 + 1)), (3, .long (v3 ||| ((1 : Int64) <<< (Int32.toInt64 (zAi σ a2 (ix v5)) &&& 63)))), (0, .ref v0), (2, .int v2)]) C dX16_least_173 3 rfl rfl (hnl_of hΓ (by decide)) (by first | rfl | simp [cat_rf]) ?_
      refine g_goto (tgt := 142) C dX16_least_176 (by decide) ?_
      refine g_sub (lv' := [(0, .ref v0), (2, .int v2), (3, .long (v3 ||| ((1 : Int64) <<< (Int32.toInt64 (zAi σ a2 (ix v5)) &&& 63)))), (5, .int (v5 + 1))]) [2, 3, 1, 0] rfl ?_
      exact h142 _ _ _ _ _ hb
theorem klX16_least_142 {Γ : hCT} (C : hC Γ RX16 cX16_least ((Option.some FieldType.long)) "least" 1 25) {Q : Int64 → St → Prop} (hΓ : Γ.2.2.2.2.2.2.2.2.2.2.2 = (6, 0, 0, oJ Q)) (f : Nat) (v0 : Nat) (v2 : Int32) (v3 : Int64) (v5 : Int32) (σ : St) (hb : lX16_least_142 Q f v0 v2 v3 v5 σ) : hW Γ 0 0 142 [(0, .ref v0), (2, .int v2), (3, .long v3), (5, .int v5)] [] σ := by
  induction f generalizing v0 v2 v3 v5 σ with
  | zero => exact hb.elim
  | succ f ih => exact kwX16_least_142 C hΓ  (fun v0 v2 v3 v5 σ h => ih v0 v2 v3 v5 σ h) _ _ _ _ _ hb
set_option maxRecDepth 20000 in
theorem kwX16_least_124 {Γ : hCT} (C : hC Γ RX16 cX16_least ((Option.some FieldType.long)) "least" 1 25) {Q : Int64 → St → Prop} (hΓ : Γ.2.2.2.2.2.2.2.2.2.2.2 = (6, 0, 0, oJ Q)) {r49 : Nat → Int32 → Int32 → Int32 → St → Prop} (h49 : ∀ (v0 : Nat) (v1 : Int32) (v2 : Int32) (v3 : Int32) (σ : St), r49 v0 v1 v2 v3 σ → hW Γ 0 0 49 [(0, .ref v0), (1, .int v1), (2, .int v2), (3, .int v3)] [] σ) (v0 : Nat) (v1 : Int32) (v2 : Int32) (v3 : Int32) (v4 : Int32) (σ : St) (hb : wX16_least_124 Q r49 v0 v1 v2 v3 v4 σ) : hW Γ 0 0 124 [(0, .ref v0), (1, .int v1), (2, .int v2), (3, .int v3), (4, .int v4)] [] σ := by
  unfold wX16_least_124 at hb
  refine g_iload C dX16_least_124 4 rfl ?_
  refine g_if_eq (tgt := 131) C dX16_least_126 (by decide) (fun c => ?_) (fun c => ?_)
  ·
    replace hb := hb.1 (c)
    refine g_iinc (v := v3 + 1) (lv' := [(3, .int (v3 + 1)), (0, .ref v0), (1, .int v1), (2, .int v2), (4, .int v4)]) C dX16_least_131 3 rfl rfl (hnl_of hΓ (by decide)) (by first | rfl | simp [cat_rf]) ?_
    refine g_goto (tgt := 49) C dX16_least_134 (by decide) ?_
    refine g_sub (lv' := [(0, .ref v0), (1, .int v1), (2, .int v2), (3, .int (v3 + 1))]) [1, 2, 3, 0] rfl ?_
    exact h49 _ _ _ _ _ hb
  ·
    replace hb := hb.2 (c)
    refine g_iload_n C dX16_least_129 3 rfl ?_
    refine g_istore_n (i := 2) (lv' := [(2, .int v3), (0, .ref v0), (1, .int v1), (3, .int v3), (4, .int v4)]) C dX16_least_130 rfl (hnl_of hΓ (by decide)) (by first | rfl | simp [cat_rf]) ?_
    refine g_iinc (v := v3 + 1) (lv' := [(3, .int (v3 + 1)), (2, .int v3), (0, .ref v0), (1, .int v1), (4, .int v4)]) C dX16_least_131 3 rfl rfl (hnl_of hΓ (by decide)) (by first | rfl | simp [cat_rf]) ?_
    refine g_goto (tgt := 49) C dX16_least_134 (by decide) ?_
    refine g_sub (lv' := [(0, .ref v0), (1, .int v1), (2, .int v3), (3, .int (v3 + 1))]) [2, 3, 1, 0] rfl ?_
    exact h49 _ _ _ _ _ hb
set_option maxRecDepth 20000 in
theorem kwX16_least_80 {Γ : hCT} (C : hC Γ RX16 cX16_least ((Option.some FieldType.long)) "least" 1 25) {Q : Int64 → St → Prop} (hΓ : Γ.2.2.2.2.2.2.2.2.2.2.2 = (6, 0, 0, oJ Q)) {r49 : Nat → Int32 → Int32 → Int32 → St → Prop} (h49 : ∀ (v0 : Nat) (v1 : Int32) (v2 : Int32) (v3 : Int32) (σ : St), r49 v0 v1 v2 v3 σ → hW Γ 0 0 49 [(0, .ref v0), (1, .int v1), (2, .int v2), (3, .int v3)] [] σ) {r80 : Nat → Int32 → Int32 → Int32 → Int32 → Int32 → St → Prop} (h80 : ∀ (v0 : Nat) (v1 : Int32) (v2 : Int32) (v3 : Int32) (v4 : Int32) (v5 : Int32) (σ : St), r80 v0 v1 v2 v3 v4 v5 σ → hW Γ 0 0 80 [(0, .ref v0), (1, .int v1), (2, .int v2), (3, .int v3), (4, .int v4), (5, .int v5)] [] σ) (v0 : Nat) (v1 : Int32) (v2 : Int32) (v3 : Int32) (v4 : Int32) (v5 : Int32) (σ : St) (hb : wX16_least_80 Q r49 r80 v0 v1 v2 v3 v4 v5 σ) : hW Γ 0 0 80 [(0, .ref v0), (1, .int v1), (2, .int v2), (3, .int v3), (4, .int v4), (5, .int v5)] [] σ := by
  unfold wX16_least_80 at hb
  refine g_iload C dX16_least_80 5 rfl ?_
  refine g_aload_n (some v0) C dX16_least_82 0 rfl ?_
  obtain ⟨q1, hb⟩ := hb
  obtain ⟨a2, q3, hb⟩ := hb
  refine g_getR (some a2) C fl_RX16_31 dX16_least_83 q1 rfl rfl q3 ?_
  obtain ⟨q4, hb⟩ := hb
  obtain ⟨a5, q6, hb⟩ := hb
  refine g_getR (some a5) C fl_RX16_226 dX16_least_86 q4 rfl rfl q6 ?_
  refine g_iload_n C dX16_least_89 1 rfl ?_
  obtain ⟨q7, hb⟩ := hb
  obtain ⟨q8, hb⟩ := hb
  refine g_ialdx (zAi σ a5 (ix v1)) C dX16_least_90 q7 q8 rfl ?_
  refine g_icmp_ge (tgt := 124) C dX16_least_91 (by decide) (fun c => ?_) (fun c => ?_)
  ·
    replace hb := hb.1 (c)
    refine g_sub (lv' := [(0, .ref v0), (1, .int v1), (2, .int v2), (3, .int v3), (4, .int v4)]) [0, 1, 2, 3, 4] rfl ?_
    exact kwX16_least_124 C hΓ h49 _ _ _ _ _ _ hb
  ·
    replace hb := hb.2 (c)
    refine g_iload C dX16_least_94 4 rfl ?_
    refine g_if_eq (tgt := 124) C dX16_least_96 (by decide) (fun c => ?_) (fun c => ?_)
    ·
      replace hb := hb.1 (c)
      refine g_sub (lv' := [(0, .ref v0), (1, .int v1), (2, .int v2), (3, .int v3), (4, .int v4)]) [0, 1, 2, 3, 4] rfl ?_
      exact kwX16_least_124 C hΓ h49 _ _ _ _ _ _ hb
    ·
      replace hb := hb.2 (c)
      refine g_aload_n (some v0) C dX16_least_99 0 rfl ?_
      obtain ⟨a9, q10, hb⟩ := hb
      refine g_getR (some a9) C fl_RX16_215 dX16_least_100 q1 rfl rfl q10 ?_
      refine g_iload C dX16_least_103 5 rfl ?_
      obtain ⟨q11, hb⟩ := hb
      obtain ⟨q12, hb⟩ := hb
      refine g_ialdx (zAi σ a9 (ix v5)) C dX16_least_105 q11 q12 rfl ?_
      refine g_iload_n C dX16_least_106 3 rfl ?_
      refine g_iand C dX16_least_107 ?_
      refine g_if_eq (tgt := 115) C dX16_least_108 (by decide) (fun c => ?_) (fun c => ?_)
      ·
        replace hb := hb.1 (c)
        refine g_iconst (v := 0) C dX16_least_115 (by decide) ?_
        refine g_istore (lv' := [(4, .int 0), (0, .ref v0), (1, .int v1), (2, .int v2), (3, .int v3), (5, .int v5)]) C dX16_least_116 (hnl_of hΓ (by decide)) (by first | rfl | simp [cat_rf]) ?_
        refine g_iinc (v := v5 + 1) (lv' := [(5, .int (v5 + 1)), (4, .int 0), (0, .ref v0), (1, .int v1), (2, .int v2), (3, .int v3)]) C dX16_least_118 5 rfl rfl (hnl_of hΓ (by decide)) (by first | rfl | simp [cat_rf]) ?_
        refine g_goto (tgt := 80) C dX16_least_121 (by decide) ?_
        refine g_sub (lv' := [(0, .ref v0), (1, .int v1), (2, .int v2), (3, .int v3), (4, .int 0), (5, .int (v5 + 1))]) [2, 3, 4, 5, 1, 0] rfl ?_
        exact h80 _ _ _ _ _ _ _ hb
      ·
        replace hb := hb.2 (c)
        refine g_iconst (v := 1) C dX16_least_111 (by decide) ?_
        refine g_goto (tgt := 116) C dX16_least_112 (by decide) ?_
        refine g_istore (lv' := [(4, .int 1), (0, .ref v0), (1, .int v1), (2, .int v2), (3, .int v3), (5, .int v5)]) C dX16_least_116 (hnl_of hΓ (by decide)) (by first | rfl | simp [cat_rf]) ?_
        refine g_iinc (v := v5 + 1) (lv' := [(5, .int (v5 + 1)), (4, .int 1), (0, .ref v0), (1, .int v1), (2, .int v2), (3, .int v3)]) C dX16_least_118 5 rfl rfl (hnl_of hΓ (by decide)) (by first | rfl | simp [cat_rf]) ?_
        refine g_goto (tgt := 80) C dX16_least_121 (by decide) ?_
        refine g_sub (lv' := [(0, .ref v0), (1, .int v1), (2, .int v2), (3, .int v3), (4, .int 1), (5, .int (v5 + 1))]) [2, 3, 4, 5, 1, 0] rfl ?_
        exact h80 _ _ _ _ _ _ _ hb
theorem klX16_least_80 {Γ : hCT} (C : hC Γ RX16 cX16_least ((Option.some FieldType.long)) "least" 1 25) {Q : Int64 → St → Prop} (hΓ : Γ.2.2.2.2.2.2.2.2.2.2.2 = (6, 0, 0, oJ Q)) {r49 : Nat → Int32 → Int32 → Int32 → St → Prop} (h49 : ∀ (v0 : Nat) (v1 : Int32) (v2 : Int32) (v3 : Int32) (σ : St), r49 v0 v1 v2 v3 σ → hW Γ 0 0 49 [(0, .ref v0), (1, .int v1), (2, .int v2), (3, .int v3)] [] σ) (f : Nat) (v0 : Nat) (v1 : Int32) (v2 : Int32) (v3 : Int32) (v4 : Int32) (v5 : Int32) (σ : St) (hb : lX16_least_80 Q r49 f v0 v1 v2 v3 v4 v5 σ) : hW Γ 0 0 80 [(0, .ref v0), (1, .int v1), (2, .int v2), (3, .int v3), (4, .int v4), (5, .int v5)] [] σ := by
  induction f generalizing v0 v1 v2 v3 v4 v5 σ with
  | zero => exact hb.elim
  | succ f ih => exact kwX16_least_80 C hΓ h49 (fun v0 v1 v2 v3 v4 v5 σ h => ih v0 v1 v2 v3 v4 v5 σ h) _ _ _ _ _ _ _ hb
set_option maxRecDepth 20000 in
theorem kwX16_least_75 {Γ : hCT} (C : hC Γ RX16 cX16_least ((Option.some FieldType.long)) "least" 1 25) {Q : Int64 → St → Prop} (hΓ : Γ.2.2.2.2.2.2.2.2.2.2.2 = (6, 0, 0, oJ Q)) {r49 : Nat → Int32 → Int32 → Int32 → St → Prop} (h49 : ∀ (v0 : Nat) (v1 : Int32) (v2 : Int32) (v3 : Int32) (σ : St), r49 v0 v1 v2 v3 σ → hW Γ 0 0 49 [(0, .ref v0), (1, .int v1), (2, .int v2), (3, .int v3)] [] σ) (v0 : Nat) (v1 : Int32) (v2 : Int32) (v3 : Int32) (s0 : Int32) (σ : St) (hb : wX16_least_75 Q r49 v0 v1 v2 v3 s0 σ) : hW Γ 0 0 75 [(0, .ref v0), (1, .int v1), (2, .int v2), (3, .int v3)] [.int s0] σ := by
  unfold wX16_least_75 at hb
  refine g_istore (lv' := [(4, .int s0), (0, .ref v0), (1, .int v1), (2, .int v2), (3, .int v3)]) C dX16_least_75 (hnl_of hΓ (by decide)) (by first | rfl | simp [cat_rf]) ?_
  refine g_iconst (v := 0) C dX16_least_77 (by decide) ?_
  refine g_istore (lv' := [(5, .int 0), (4, .int s0), (0, .ref v0), (1, .int v1), (2, .int v2), (3, .int v3)]) C dX16_least_78 (hnl_of hΓ (by decide)) (by first | rfl | simp [cat_rf]) ?_
  refine g_sub (lv' := [(0, .ref v0), (1, .int v1), (2, .int v2), (3, .int v3), (4, .int s0), (5, .int 0)]) [2, 3, 4, 5, 1, 0] rfl ?_
  obtain ⟨f1, hb⟩ := hb
  exact klX16_least_80 C hΓ h49 f1 _ _ _ _ _ _ _ hb
set_option maxRecDepth 20000 in
theorem kwX16_least_49 {Γ : hCT} (C : hC Γ RX16 cX16_least ((Option.some FieldType.long)) "least" 1 25) {Q : Int64 → St → Prop} (hΓ : Γ.2.2.2.2.2.2.2.2.2.2.2 = (6, 0, 0, oJ Q)) {r49 : Nat → Int32 → Int32 → Int32 → St → Prop} (h49 : ∀ (v0 : Nat) (v1 : Int32) (v2 : Int32) (v3 : Int32) (σ : St), r49 v0 v1 v2 v3 σ → hW Γ 0 0 49 [(0, .ref v0), (1, .int v1), (2, .int v2), (3, .int v3)] [] σ) (v0 : Nat) (v1 : Int32) (v2 : Int32) (v3 : Int32) (σ : St) (hb : wX16_least_49 Q r49 v0 v1 v2 v3 σ) : hW Γ 0 0 49 [(0, .ref v0), (1, .int v1), (2, .int v2), (3, .int v3)] [] σ := by
  unfold wX16_least_49 at hb
  refine g_iload_n C dX16_least_49 3 rfl ?_
  refine g_iconst (v := 1) C dX16_least_50 (by decide) ?_
  refine g_aload_n (some v0) C dX16_least_51 0 rfl ?_
  obtain ⟨q1, hb⟩ := hb
  refine g_getIx (zFi σ 1062 v0) C fl_RX16_348 dX16_least_52 q1 rfl rfl rfl ?_
  refine g_ishl C dX16_least_55 ?_
  refine g_icmp_ge (tgt := 137) C dX16_least_56 (by decide) (fun c => ?_) (fun c => ?_)
  ·
    replace hb := hb.1 (c)
    refine g_lconst (v := 0) C dX16_least_137 (by decide) ?_
    refine g_lstore_n (i := 3) (lv' := [(3, .long 0), (0, .ref v0), (1, .int v1), (2, .int v2)]) C dX16_least_138 rfl (hnl_of hΓ (by decide)) (by first | rfl | simp [cat_rf]) ?_
    refine g_iconst (v := 0) C dX16_least_139 (by decide) ?_
    refine g_istore (lv' := [(5, .int 0), (3, .long 0), (0, .ref v0), (1, .int v1), (2, .int v2)]) C dX16_least_140 (hnl_of hΓ (by decide)) (by first | rfl | simp [cat_rf]) ?_
    refine g_sub (lv' := [(0, .ref v0), (2, .int v2), (3, .long 0), (5, .int 0)]) [2, 4, 1, 0] rfl ?_
    obtain ⟨f2, hb⟩ := hb
    exact klX16_least_142 C hΓ  f2 _ _ _ _ _ hb
  ·
    replace hb := hb.2 (c)
    refine g_iload_n C dX16_least_59 3 rfl ?_
    refine g_invS [.int v3] [] zy_X16_sizeOf wd_1567 wd_1568 C dX16_least_60 (by first | exact Nat.le_of_ble_eq_true rfl | simp [cat_rf]) (by first | exact Nat.le_of_ble_eq_true rfl | simp [cat_rf]) (by first | exact Nat.le_of_ble_eq_true rfl | simp [cat_rf]) (Nat.zero_le _) (Nat.zero_le _) rfl rfl  (okX16_sizeOf hb) ?_
    rintro o σ3 ⟨y4, rfl, hb⟩
    refine ⟨_, rfl, ?_⟩
    refine g_iload_n C dX16_least_63 2 rfl ?_
    refine g_invS [.int v2] [.int y4] zy_X16_sizeOf wd_1567 wd_1568 C dX16_least_64 (by first | exact Nat.le_of_ble_eq_true rfl | simp [cat_rf]) (by first | exact Nat.le_of_ble_eq_true rfl | simp [cat_rf]) (by first | exact Nat.le_of_ble_eq_true rfl | simp [cat_rf]) (Nat.zero_le _) (Nat.zero_le _) rfl rfl  (okX16_sizeOf hb) ?_
    rintro o σ5 ⟨y6, rfl, hb⟩
    refine ⟨_, rfl, ?_⟩
    refine g_icmp_ge (tgt := 74) C dX16_least_67 (by decide) (fun c => ?_) (fun c => ?_)
    ·
      replace hb := hb.1 (c)
      refine g_iconst (v := 0) C dX16_least_74 (by decide) ?_
      refine g_sub (lv' := [(0, .ref v0), (1, .int v1), (2, .int v2), (3, .int v3)]) [0, 1, 2, 3] rfl ?_
      exact kwX16_least_75 C hΓ h49 _ _ _ _ _ _ hb
    ·
      replace hb := hb.2 (c)
      refine g_iconst (v := 1) C dX16_least_70 (by decide) ?_
      refine g_goto (tgt := 75) C dX16_least_71 (by decide) ?_
      refine g_sub (lv' := [(0, .ref v0), (1, .int v1), (2, .int v2), (3, .int v3)]) [0, 1, 2, 3] rfl ?_
      exact kwX16_least_75 C hΓ h49 _ _ _ _ _ _ hb
theorem klX16_least_49 {Γ : hCT} (C : hC Γ RX16 cX16_least ((Option.some FieldType.long)) "least" 1 25) {Q : Int64 → St → Prop} (hΓ : Γ.2.2.2.2.2.2.2.2.2.2.2 = (6, 0, 0, oJ Q)) (f : Nat) (v0 : Nat) (v1 : Int32) (v2 : Int32) (v3 : Int32) (σ : St) (hb : lX16_least_49 Q f v0 v1 v2 v3 σ) : hW Γ 0 0 49 [(0, .ref v0), (1, .int v1), (2, .int v2), (3, .int v3)] [] σ := by
  induction f generalizing v0 v1 v2 v3 σ with
  | zero => exact hb.elim
  | succ f ih => exact kwX16_least_49 C hΓ  (fun v0 v1 v2 v3 σ h => ih v0 v1 v2 v3 σ h) _ _ _ _ _ hb
set_option maxRecDepth 20000 in
theorem kwX16_least_0 {Γ : hCT} (C : hC Γ RX16 cX16_least ((Option.some FieldType.long)) "least" 1 25) {Q : Int64 → St → Prop} (hΓ : Γ.2.2.2.2.2.2.2.2.2.2.2 = (6, 0, 0, oJ Q)) (v0 : Nat) (v1 : Int32) (σ : St) (hb : wX16_least_0 Q v0 v1 σ) : hW Γ 0 0 0 [(0, .ref v0), (1, .int v1)] [] σ := by
  unfold wX16_least_0 at hb
  refine g_aload_n (some v0) C dX16_least_0 0 rfl ?_
  refine g_iconst (v := 0) C dX16_least_1 (by decide) ?_
  obtain ⟨q1, hb⟩ := hb
  refine g_putI C fl_RX16_1 dX16_least_2 q1 rfl rfl rfl rfl ?_
  refine g_aload_n (some v0) C dX16_least_5 0 rfl ?_
  refine g_iload_n C dX16_least_6 1 rfl ?_
  refine g_invV (ci := 16) [.int v1] [] zy_X16_isAnswer wd_1491 wd_1493 wd_62 ⟨_, _, rfl⟩ (by decide) C dX16_least_7 (by first | exact Nat.le_of_ble_eq_true rfl | simp [cat_rf]) (by first | exact Nat.le_of_ble_eq_true rfl | simp [cat_rf]) (by first | exact Nat.le_of_ble_eq_true rfl | simp [cat_rf]) (Nat.zero_le _) (Nat.zero_le _) rfl rfl (by rw [zK_uFi]; exact q1) (okX16_isAnswer hb) ?_
  rintro o σ2 ⟨y3, rfl, hb⟩
  refine ⟨_, rfl, ?_⟩
  refine g_if_ne (tgt := 20) C dX16_least_10 (by decide) (fun c => ?_) (fun c => ?_)
  ·
    replace hb := hb.1 (c)
    refine g_aload_n (some v0) C dX16_least_20 0 rfl ?_
    refine g_iload_n C dX16_least_21 1 rfl ?_
    obtain ⟨q4, hb⟩ := hb
    refine g_invV (ci := 16) [.int v1] [] zy_X16_isFew wd_1543 wd_1545 wd_64 ⟨_, _, rfl⟩ (by decide) C dX16_least_22 (by first | exact Nat.le_of_ble_eq_true rfl | simp [cat_rf]) (by first | exact Nat.le_of_ble_eq_true rfl | simp [cat_rf]) (by first | exact Nat.le_of_ble_eq_true rfl | simp [cat_rf]) (Nat.zero_le _) (Nat.zero_le _) rfl rfl q4 (okX16_isFew hb) ?_
    rintro o σ5 ⟨y6, rfl, hb⟩
    refine ⟨_, rfl, ?_⟩
    refine g_if_ne (tgt := 36) C dX16_least_25 (by decide) (fun c => ?_) (fun c => ?_)
    ·
      replace hb := hb.1 (c)
      refine g_iconst (v := 1) C dX16_least_36 (by decide) ?_
      refine g_aload_n (some v0) C dX16_least_37 0 rfl ?_
      obtain ⟨q7, hb⟩ := hb
      refine g_getIx (zFi σ5 1062 v0) C fl_RX16_348 dX16_least_38 q7 rfl rfl rfl ?_
      refine g_ishl C dX16_least_41 ?_
      refine g_istore_n (i := 2) (lv' := [(2, .int ((1 : Int32) <<< ((zFi σ5 1062 v0) &&& 31))), (0, .ref v0), (1, .int v1)]) C dX16_least_42 rfl (hnl_of hΓ (by decide)) (by first | rfl | simp [cat_rf]) ?_
      refine g_iload_n C dX16_least_43 0 rfl ?_
      refine g_iconst (v := 1) C dX16_least_44 (by decide) ?_
      refine g_isub C dX16_least_45 ?_
      refine g_istore_n (i := 2) (lv' := [(2, .int (((1 : Int32) <<< ((zFi σ5 1062 v0) &&& 31)) - 1)), (0, .ref v0), (1, .int v1)]) C dX16_least_46 rfl (hnl_of hΓ (by decide)) (by first | rfl | simp [cat_rf]) ?_
      refine g_iconst (v := 0) C dX16_least_47 (by decide) ?_
      refine g_istore_n (i := 3) (lv' := [(3, .int 0), (2, .int (((1 : Int32) <<< ((zFi σ5 1062 v0) &&& 31)) - 1)), (0, .ref v0), (1, .int v1)]) C dX16_least_48 rfl (hnl_of hΓ (by decide)) (by first | rfl | simp [cat_rf]) ?_
      refine g_sub (lv' := [(0, .ref v0), (1, .int v1), (2, .int (((1 : Int32) <<< ((zFi σ5 1062 v0) &&& 31)) - 1)), (3, .int 0)]) [2, 3, 1, 0] rfl ?_
      obtain ⟨f8, hb⟩ := hb
      exact klX16_least_49 C hΓ  f8 _ _ _ _ _ hb
    ·
      replace hb := hb.2 (c)
      refine g_aload_n (some v0) C dX16_least_28 0 rfl ?_
      refine g_bipush (v := 6) C dX16_least_29 (by decide) ?_
      obtain ⟨q9, hb⟩ := hb
      refine g_invV (ci := 16) [.int 6] [] zy_X16_refused wd_1005 wd_1007 wd_38 ⟨_, _, rfl⟩ (by decide) C dX16_least_31 (by first | exact Nat.le_of_ble_eq_true rfl | simp [cat_rf]) (by first | exact Nat.le_of_ble_eq_true rfl | simp [cat_rf]) (by first | exact Nat.le_of_ble_eq_true rfl | simp [cat_rf]) (Nat.zero_le _) (Nat.zero_le _) rfl rfl q9 (okX16_refused hb) ?_
      rintro o σ10 ⟨y11, rfl, hb⟩
      refine ⟨_, rfl, ?_⟩
      refine g_i2l C dX16_least_34 ?_
      exact g_lreturn C hΓ (Nat.zero_le _) (Nat.zero_le _) dX16_least_35 ⟨_, rfl, hb⟩
  ·
    replace hb := hb.2 (c)
    refine g_aload_n (some v0) C dX16_least_13 0 rfl ?_
    refine g_iconst (v := 1) C dX16_least_14 (by decide) ?_
    obtain ⟨q12, hb⟩ := hb
    refine g_invV (ci := 16) [.int 1] [] zy_X16_refused wd_1005 wd_1007 wd_38 ⟨_, _, rfl⟩ (by decide) C dX16_least_15 (by first | exact Nat.le_of_ble_eq_true rfl | simp [cat_rf]) (by first | exact Nat.le_of_ble_eq_true rfl | simp [cat_rf]) (by first | exact Nat.le_of_ble_eq_true rfl | simp [cat_rf]) (Nat.zero_le _) (Nat.zero_le _) rfl rfl q12 (okX16_refused hb) ?_
    rintro o σ13 ⟨y14, rfl, hb⟩
    refine ⟨_, rfl, ?_⟩
    refine g_i2l C dX16_least_18 ?_
    exact g_lreturn C hΓ (Nat.zero_le _) (Nat.zero_le _) dX16_least_19 ⟨_, rfl, hb⟩
theorem okX16_least {v0 : Nat} {v1 : Int32} {σ : St} {Q : Int64 → St → Prop} (hb : wX16_least v0 v1 σ Q) : hM yX16_least cX16_least 6 ((Option.some FieldType.long)) 1 25 0 0 [.ref v0, .int v1] σ (oJ Q) :=
  hM_of (by decide) (Nat.le_of_ble_eq_true rfl) (fun Γ hΓ C => kwX16_least_0 C hΓ _ _ _ hb)
def wX16_blame_79 (Q : Int32 → St → Prop) (r79 : Nat → Int32 → Int32 → Int32 → Int32 → Int32 → St → Prop) (v0 : Nat) (v1 : Int32) (v3 : Int32) (v4 : Int32) (v5 : Int32) (v6 : Int32) (σ : St) : Prop :=
  ((v4 < v6 → zK σ v0 = 17 ∧ wX16_done v0 v5 σ (fun y3 σ2 => Q y3 σ2)) ∧ (¬ v4 < v6 → ((((v6 >>> (v3 &&& 31)) &&& 1) = (1 : Int32) → r79 v0 v1 v3 v4 v5 (v6 + 1) σ) ∧ (¬ ((v6 >>> (v3 &&& 31)) &&& 1) = (1 : Int32) → wX16_sizeOf v6 σ (fun y5 σ4 => ((y5 < v5 → zK σ4 v0 = 17 ∧ ∃ a7 : Nat, zFr σ4 1050 v0 = some a7 ∧ zK σ4 a7 = 15 ∧ ∃ a10 : Nat, zFr σ4 899 a7 = some a10 ∧ zK σ4 a10 = 20 ∧ vp_in v1 (zL σ4 a10) ∧ wX16_isWhole v0 (v4 &&& (v6 ^^^ (-1))) (zAi σ4 a10 (ix v1)) σ4 (fun y15 σ14 => ((y15 = 0 → r79 v0 v1 v3 v4 v5 (v6 + 1) σ14) ∧ (¬ y15 = 0 → zK σ14 v0 = 17 ∧ ∃ a17 : Nat, zFr σ14 1050 v0 = some a17 ∧ zK σ14 a17 = 15 ∧ ∃ a20 : Nat, zFr σ14 899 a17 = some a20 ∧ zK σ14 a20 = 20 ∧ vp_in v1 (zL σ14 a20) ∧ wX16_isWhole v0 ((v4 &&& (v6 ^^^ (-1))) &&& (((1 : Int32) <<< (v3 &&& 31)) ^^^ (-1))) (zAi σ14 a20 (ix v1)) σ14 (fun y25 σ24 => ((¬ y25 = 0 → r79 v0 v1 v3 v4 v5 (v6 + 1) σ24) ∧ (y25 = 0 → wX16_sizeOf v6 σ24 (fun y27 σ26 => r79 v0 v1 v3 v4 y27 (v6 + 1) σ26)))))))) ∧ (¬ y5 < v5 → r79 v0 v1 v3 v4 v5 (v6 + 1) σ4)))))))
def lX16_blame_79 (Q : Int32 → St → Prop) : Nat → Nat → Int32 → Int32 → Int32 → Int32 → Int32 → St → Prop
  | 0, _, _, _, _, _, _, _ => False
  | f + 1, v0, v1, v3, v4, v5, v6, σ => wX16_blame_79 Q (lX16_blame_79 Q f) v0 v1 v3 v4 v5 v6 σ
def wX16_blame_21 (Q : Int32 → St → Prop) (v0 : Nat) (σ : St) : Prop :=
  zK σ v0 = 17 ∧ wX16_refused v0 1 σ (fun y3 σ2 => Q y3 σ2)
def wX16_blame_0 (Q : Int32 → St → Prop) (v0 : Nat) (v1 : Int32) (v2 : Int32) (σ : St) : Prop :=
  zK σ v0 = 17 ∧ wX16_isAnswer v0 v1 (uFi σ 1024 v0 0) (fun y3 σ2 => ((y3 = 0 → wX16_blame_21 Q v0 σ2) ∧ (¬ y3 = 0 → zK σ2 v0 = 17 ∧ wX16_isFact v0 v2 σ2 (fun y6 σ5 => ((¬ y6 = 0 → zK σ5 v0 = 17 ∧ wX16_isFew v0 v1 σ5 (fun y9 σ8 => ((¬ y9 = 0 → zK σ8 v0 = 17 ∧ wX16_fewAt v0 v2 σ8 (fun y12 σ11 => ((¬ y12 = ((-1) : Int32) → zK σ11 v0 = 17 ∧ ∃ f, lX16_blame_79 Q f v0 v1 y12 (((1 : Int32) <<< ((zFi σ11 1062 v0) &&& 31)) - 1) (zFi σ11 1062 v0) 0 σ11) ∧ (y12 = ((-1) : Int32) → zK σ11 v0 = 17 ∧ wX16_refused v0 6 σ11 (fun y17 σ16 => Q y17 σ16))))) ∧ (y9 = 0 → zK σ8 v0 = 17 ∧ wX16_refused v0 6 σ8 (fun y20 σ19 => Q y20 σ19))))) ∧ (y6 = 0 → wX16_blame_21 Q v0 σ5))))))
def wX16_blame (v0 : Nat) (v1 : Int32) (v2 : Int32) (σ : St) (Q : Int32 → St → Prop) : Prop := wX16_blame_0 Q v0 v1 v2 σ
set_option maxRecDepth 20000 in
theorem kwX16_blame_79 {Γ : hCT} (C : hC Γ RX16 cX16_blame ((Option.some FieldType.int)) "blame" 1 25) {Q : Int32 → St → Prop} (hΓ : Γ.2.2.2.2.2.2.2.2.2.2.2 = (7, 0, 0, oI Q)) {r79 : Nat → Int32 → Int32 → Int32 → Int32 → Int32 → St → Prop} (h79 : ∀ (v0 : Nat) (v1 : Int32) (v3 : Int32) (v4 : Int32) (v5 : Int32) (v6 : Int32) (σ : St), r79 v0 v1 v3 v4 v5 v6 σ → hW Γ 0 0 79 [(0, .ref v0), (1, .int v1), (3, .int v3), (4, .int v4), (5, .int v5), (6, .int v6)] [] σ) (v0 : Nat) (v1 : Int32) (v3 : Int32) (v4 : Int32) (v5 : Int32) (v6 : Int32) (σ : St) (hb : wX16_blame_79 Q r79 v0 v1 v3 v4 v5 v6 σ) : hW Γ 0 0 79 [(0, .ref v0), (1, .int v1), (3, .int v3), (4, .int v4), (5, .int v5), (6, .int v6)] [] σ := by
  unfold wX16_blame_79 at hb
  refine g_iload C dX16_blame_79 5 rfl ?_
  refine g_iload C dX16_blame_81 3 rfl ?_
  refine g_icmp_gt (tgt := 174) C dX16_blame_83 (by decide) (fun c => ?_) (fun c => ?_)
  ·
    replace hb := hb.1 (c)
    refine g_aload_n (some v0) C dX16_blame_174 0 rfl ?_
    refine g_iload C dX16_blame_175 4 rfl ?_
    obtain ⟨q1, hb⟩ := hb
    refine g_invV (ci := 16) [.int v5] [] zy_X16_done wd_1013 wd_1015 wd_40 ⟨_, _, rfl⟩ (by decide) C dX16_blame_177 (by first | exact Nat.le_of_ble_eq_true rfl | simp [cat_rf]) (by first | exact Nat.le_of_ble_eq_true rfl | simp [cat_rf]) (by first | exact Nat.le_of_ble_eq_true rfl | simp [cat_rf]) (Nat.zero_le _) (Nat.zero_le _) rfl rfl q1 (okX16_done hb) ?_
    rintro o σ2 ⟨y3, rfl, hb⟩
    refine ⟨_, rfl, ?_⟩
    exact g_ireturn C hΓ (Nat.zero_le _) (Nat.zero_le _) dX16_blame_180 ⟨_, rfl, hb⟩
  ·
    replace hb := hb.2 (c)
    refine g_iload C dX16_blame_86 5 rfl ?_
    refine g_iload_n C dX16_blame_88 2 rfl ?_
    refine g_ishr C dX16_blame_89 ?_
    refine g_iconst (v := 1) C dX16_blame_90 (by decide) ?_
    refine g_iand C dX16_blame_91 ?_
    refine g_iconst (v := 1) C dX16_blame_92 (by decide) ?_
    refine g_icmp_eq (tgt := 168) C dX16_blame_93 (by decide) (fun c => ?_) (fun c => ?_)
    ·
      replace hb := hb.1 (c)
      refine g_iinc (v := v6 + 1) (lv' := [(6, .int (v6 + 1)), (0, .ref v0), (1, .int v1), (3, .int v3), (4, .int v4), (5, .int v5)]) C dX16_blame_168 5 rfl rfl (hnl_of hΓ (by decide)) (by first | rfl | simp [cat_rf]) ?_
      refine g_goto (tgt := 79) C dX16_blame_171 (by decide) ?_
      refine g_sub (lv' := [(0, .ref v0), (1, .int v1), (3, .int v3), (4, .int v4), (5, .int v5), (6, .int (v6 + 1))]) [1, 2, 3, 4, 5, 0] rfl ?_
      exact h79 _ _ _ _ _ _ _ hb
    ·
      replace hb := hb.2 (c)
      refine g_iload C dX16_blame_96 5 rfl ?_
      refine g_invS [.int v6] [] zy_X16_sizeOf wd_1567 wd_1568 C dX16_blame_98 (by first | exact Nat.le_of_ble_eq_true rfl | simp [cat_rf]) (by first | exact Nat.le_of_ble_eq_true rfl | simp [cat_rf]) (by first | exact Nat.le_of_ble_eq_true rfl | simp [cat_rf]) (Nat.zero_le _) (Nat.zero_le _) rfl rfl  (okX16_sizeOf hb) ?_
      rintro o σ4 ⟨y5, rfl, hb⟩
      refine ⟨_, rfl, ?_⟩
      refine g_iload C dX16_blame_101 4 rfl ?_
      refine g_icmp_lt (tgt := 109) C dX16_blame_103 (by decide) (fun c => ?_) (fun c => ?_)
      ·
        replace hb := hb.1 (c)
        refine g_aload_n (some v0) C dX16_blame_109 0 rfl ?_
        refine g_iload C dX16_blame_110 3 rfl ?_
        refine g_iload C dX16_blame_112 5 rfl ?_
        refine g_iconst (v := (-1)) C dX16_blame_114 (by decide) ?_
        refine g_ixor C dX16_blame_115 ?_
        refine g_iand C dX16_blame_116 ?_
        refine g_aload_n (some v0) C dX16_blame_117 0 rfl ?_
        obtain ⟨q6, hb⟩ := hb
        obtain ⟨a7, q8, hb⟩ := hb
        refine g_getR (some a7) C fl_RX16_31 dX16_blame_118 q6 rfl rfl q8 ?_
        obtain ⟨q9, hb⟩ := hb
        obtain ⟨a10, q11, hb⟩ := hb
        refine g_getR (some a10) C fl_RX16_226 dX16_blame_121 q9 rfl rfl q11 ?_
        refine g_iload_n C dX16_blame_124 1 rfl ?_
        obtain ⟨q12, hb⟩ := hb
        obtain ⟨q13, hb⟩ := hb
        refine g_ialdx (zAi σ4 a10 (ix v1)) C dX16_blame_125 q12 q13 rfl ?_
        refine g_invV (ci := 16) [.int (v4 &&& (v6 ^^^ (-1))), .int (zAi σ4 a10 (ix v1))] [] zy_X16_isWhole wd_1551 wd_1553 wd_66 ⟨_, _, rfl⟩ (by decide) C dX16_blame_126 (by first | exact Nat.le_of_ble_eq_true rfl | simp [cat_rf]) (by first | exact Nat.le_of_ble_eq_true rfl | simp [cat_rf]) (by first | exact Nat.le_of_ble_eq_true rfl | simp [cat_rf]) (Nat.zero_le _) (Nat.zero_le _) rfl rfl q6 (okX16_isWhole hb) ?_
        rintro o σ14 ⟨y15, rfl, hb⟩
        refine ⟨_, rfl, ?_⟩
        refine g_if_eq (tgt := 168) C dX16_blame_129 (by decide) (fun c => ?_) (fun c => ?_)
        ·
          replace hb := hb.1 (c)
          refine g_iinc (v := v6 + 1) (lv' := [(6, .int (v6 + 1)), (0, .ref v0), (1, .int v1), (3, .int v3), (4, .int v4), (5, .int v5)]) C dX16_blame_168 5 rfl rfl (hnl_of hΓ (by decide)) (by first | rfl | simp [cat_rf]) ?_
          refine g_goto (tgt := 79) C dX16_blame_171 (by decide) ?_
          refine g_sub (lv' := [(0, .ref v0), (1, .int v1), (3, .int v3), (4, .int v4), (5, .int v5), (6, .int (v6 + 1))]) [1, 2, 3, 4, 5, 0] rfl ?_
          exact h79 _ _ _ _ _ _ _ hb
        ·
          replace hb := hb.2 (c)
          refine g_aload_n (some v0) C dX16_blame_132 0 rfl ?_
          refine g_iload C dX16_blame_133 3 rfl ?_
          refine g_iload C dX16_blame_135 5 rfl ?_
          refine g_iconst (v := (-1)) C dX16_blame_137 (by decide) ?_
          refine g_ixor C dX16_blame_138 ?_
          refine g_iand C dX16_blame_139 ?_
          refine g_iconst (v := 1) C dX16_blame_140 (by decide) ?_
          refine g_iload_n C dX16_blame_141 2 rfl ?_
          refine g_ishl C dX16_blame_142 ?_
          refine g_iconst (v := (-1)) C dX16_blame_143 (by decide) ?_
          refine g_ixor C dX16_blame_144 ?_
          refine g_iand C dX16_blame_145 ?_
          refine g_aload_n (some v0) C dX16_blame_146 0 rfl ?_
          obtain ⟨q16, hb⟩ := hb
          obtain ⟨a17, q18, hb⟩ := hb
          refine g_getR (some a17) C fl_RX16_31 dX16_blame_147 q16 rfl rfl q18 ?_
          obtain ⟨q19, hb⟩ := hb
          obtain ⟨a20, q21, hb⟩ := hb
          refine g_getR (some a20) C fl_RX16_226 dX16_blame_150 q19 rfl rfl q21 ?_
          refine g_iload_n C dX16_blame_153 1 rfl ?_
          obtain ⟨q22, hb⟩ := hb
          obtain ⟨q23, hb⟩ := hb
          refine g_ialdx (zAi σ14 a20 (ix v1)) C dX16_blame_154 q22 q23 rfl ?_
          refine g_invV (ci := 16) [.int ((v4 &&& (v6 ^^^ (-1))) &&& (((1 : Int32) <<< (v3 &&& 31)) ^^^ (-1))), .int (zAi σ14 a20 (ix v1))] [] zy_X16_isWhole wd_1551 wd_1553 wd_66 ⟨_, _, rfl⟩ (by decide) C dX16_blame_155 (by first | exact Nat.le_of_ble_eq_true rfl | simp [cat_rf]) (by first | exact Nat.le_of_ble_eq_true rfl | simp [cat_rf]) (by first | exact Nat.le_of_ble_eq_true rfl | simp [cat_rf]) (Nat.zero_le _) (Nat.zero_le _) rfl rfl q16 (okX16_isWhole hb) ?_
          rintro o σ24 ⟨y25, rfl, hb⟩
          refine ⟨_, rfl, ?_⟩
          refine g_if_ne (tgt := 168) C dX16_blame_158 (by decide) (fun c => ?_) (fun c => ?_)
          ·
            replace hb := hb.1 (c)
            refine g_iinc (v := v6 + 1) (lv' := [(6, .int (v6 + 1)), (0, .ref v0), (1, .int v1), (3, .int v3), (4, .int v4), (5, .int v5)]) C dX16_blame_168 5 rfl rfl (hnl_of hΓ (by decide)) (by first | rfl | simp [cat_rf]) ?_
            refine g_goto (tgt := 79) C dX16_blame_171 (by decide) ?_
            refine g_sub (lv' := [(0, .ref v0), (1, .int v1), (3, .int v3), (4, .int v4), (5, .int v5), (6, .int (v6 + 1))]) [1, 2, 3, 4, 5, 0] rfl ?_
            exact h79 _ _ _ _ _ _ _ hb
          ·
            replace hb := hb.2 (c)
            refine g_iload C dX16_blame_161 5 rfl ?_
            refine g_invS [.int v6] [] zy_X16_sizeOf wd_1567 wd_1568 C dX16_blame_163 (by first | exact Nat.le_of_ble_eq_true rfl | simp [cat_rf]) (by first | exact Nat.le_of_ble_eq_true rfl | simp [cat_rf]) (by first | exact Nat.le_of_ble_eq_true rfl | simp [cat_rf]) (Nat.zero_le _) (Nat.zero_le _) rfl rfl  (okX16_sizeOf hb) ?_
            rintro o σ26 ⟨y27, rfl, hb⟩
            refine ⟨_, rfl, ?_⟩
            refine g_istore (lv' := [(5, .int y27), (0, .ref v0), (1, .int v1), (3, .int v3), (4, .int v4), (6, .int v6)]) C dX16_blame_166 (hnl_of hΓ (by decide)) (by first | rfl | simp [cat_rf]) ?_
            refine g_iinc (v := v6 + 1) (lv' := [(6, .int (v6 + 1)), (5, .int y27), (0, .ref v0), (1, .int v1), (3, .int v3), (4, .int v4)]) C dX16_blame_168 5 rfl rfl (hnl_of hΓ (by decide)) (by first | rfl | simp [cat_rf]) ?_
            refine g_goto (tgt := 79) C dX16_blame_171 (by decide) ?_
            refine g_sub (lv' := [(0, .ref v0), (1, .int v1), (3, .int v3), (4, .int v4), (5, .int y27), (6, .int (v6 + 1))]) [2, 3, 4, 5, 1, 0] rfl ?_
            exact h79 _ _ _ _ _ _ _ hb
      ·
        replace hb := hb.2 (c)
        refine g_goto (tgt := 168) C dX16_blame_106 (by decide) ?_
        refine g_iinc (v := v6 + 1) (lv' := [(6, .int (v6 + 1)), (0, .ref v0), (1, .int v1), (3, .int v3), (4, .int v4), (5, .int v5)]) C dX16_blame_168 5 rfl rfl (hnl_of hΓ (by decide)) (by first | rfl | simp [cat_rf]) ?_
        refine g_goto (tgt := 79) C dX16_blame_171 (by decide) ?_
        refine g_sub (lv' := [(0, .ref v0), (1, .int v1), (3, .int v3), (4, .int v4), (5, .int v5), (6, .int (v6 + 1))]) [1, 2, 3, 4, 5, 0] rfl ?_
        exact h79 _ _ _ _ _ _ _ hb
theorem klX16_blame_79 {Γ : hCT} (C : hC Γ RX16 cX16_blame ((Option.some FieldType.int)) "blame" 1 25) {Q : Int32 → St → Prop} (hΓ : Γ.2.2.2.2.2.2.2.2.2.2.2 = (7, 0, 0, oI Q)) (f : Nat) (v0 : Nat) (v1 : Int32) (v3 : Int32) (v4 : Int32) (v5 : Int32) (v6 : Int32) (σ : St) (hb : lX16_blame_79 Q f v0 v1 v3 v4 v5 v6 σ) : hW Γ 0 0 79 [(0, .ref v0), (1, .int v1), (3, .int v3), (4, .int v4), (5, .int v5), (6, .int v6)] [] σ := by
  induction f generalizing v0 v1 v3 v4 v5 v6 σ with
  | zero => exact hb.elim
  | succ f ih => exact kwX16_blame_79 C hΓ  (fun v0 v1 v3 v4 v5 v6 σ h => ih v0 v1 v3 v4 v5 v6 σ h) _ _ _ _ _ _ _ hb
set_option maxRecDepth 20000 in
theorem kwX16_blame_21 {Γ : hCT} (C : hC Γ RX16 cX16_blame ((Option.some FieldType.int)) "blame" 1 25) {Q : Int32 → St → Prop} (hΓ : Γ.2.2.2.2.2.2.2.2.2.2.2 = (7, 0, 0, oI Q)) (v0 : Nat) (σ : St) (hb : wX16_blame_21 Q v0 σ) : hW Γ 0 0 21 [(0, .ref v0)] [] σ := by
  unfold wX16_blame_21 at hb
  refine g_aload_n (some v0) C dX16_blame_21 0 rfl ?_
  refine g_iconst (v := 1) C dX16_blame_22 (by decide) ?_
  obtain ⟨q1, hb⟩ := hb
  refine g_invV (ci := 16) [.int 1] [] zy_X16_refused wd_1005 wd_1007 wd_38 ⟨_, _, rfl⟩ (by decide) C dX16_blame_23 (by first | exact Nat.le_of_ble_eq_true rfl | simp [cat_rf]) (by first | exact Nat.le_of_ble_eq_true rfl | simp [cat_rf]) (by first | exact Nat.le_of_ble_eq_true rfl | simp [cat_rf]) (Nat.zero_le _) (Nat.zero_le _) rfl rfl q1 (okX16_refused hb) ?_
  rintro o σ2 ⟨y3, rfl, hb⟩
  refine ⟨_, rfl, ?_⟩
  exact g_ireturn C hΓ (Nat.zero_le _) (Nat.zero_le _) dX16_blame_26 ⟨_, rfl, hb⟩
set_option maxRecDepth 20000 in
theorem kwX16_blame_0 {Γ : hCT} (C : hC Γ RX16 cX16_blame ((Option.some FieldType.int)) "blame" 1 25) {Q : Int32 → St → Prop} (hΓ : Γ.2.2.2.2.2.2.2.2.2.2.2 = (7, 0, 0, oI Q)) (v0 : Nat) (v1 : Int32) (v2 : Int32) (σ : St) (hb : wX16_blame_0 Q v0 v1 v2 σ) : hW Γ 0 0 0 [(0, .ref v0), (1, .int v1), (2, .int v2)] [] σ := by
  unfold wX16_blame_0 at hb
  refine g_aload_n (some v0) C dX16_blame_0 0 rfl ?_
  refine g_iconst (v := 0) C dX16_blame_1 (by decide) ?_
  obtain ⟨q1, hb⟩ := hb
  refine g_putI C fl_RX16_1 dX16_blame_2 q1 rfl rfl rfl rfl ?_
  refine g_aload_n (some v0) C dX16_blame_5 0 rfl ?_
  refine g_iload_n C dX16_blame_6 1 rfl ?_
  refine g_invV (ci := 16) [.int v1] [] zy_X16_isAnswer wd_1491 wd_1493 wd_62 ⟨_, _, rfl⟩ (by decide) C dX16_blame_7 (by first | exact Nat.le_of_ble_eq_true rfl | simp [cat_rf]) (by first | exact Nat.le_of_ble_eq_true rfl | simp [cat_rf]) (by first | exact Nat.le_of_ble_eq_true rfl | simp [cat_rf]) (Nat.zero_le _) (Nat.zero_le _) rfl rfl (by rw [zK_uFi]; exact q1) (okX16_isAnswer hb) ?_
  rintro o σ2 ⟨y3, rfl, hb⟩
  refine ⟨_, rfl, ?_⟩
  refine g_if_eq (tgt := 21) C dX16_blame_10 (by decide) (fun c => ?_) (fun c => ?_)
  ·
    replace hb := hb.1 (c)
    refine g_sub (lv' := [(0, .ref v0)]) [0] rfl ?_
    exact kwX16_blame_21 C hΓ  _ _ hb
  ·
    replace hb := hb.2 (c)
    refine g_aload_n (some v0) C dX16_blame_13 0 rfl ?_
    refine g_iload_n C dX16_blame_14 2 rfl ?_
    obtain ⟨q4, hb⟩ := hb
    refine g_invV (ci := 16) [.int v2] [] zy_X16_isFact wd_1029 wd_1031 wd_42 ⟨_, _, rfl⟩ (by decide) C dX16_blame_15 (by first | exact Nat.le_of_ble_eq_true rfl | simp [cat_rf]) (by first | exact Nat.le_of_ble_eq_true rfl | simp [cat_rf]) (by first | exact Nat.le_of_ble_eq_true rfl | simp [cat_rf]) (Nat.zero_le _) (Nat.zero_le _) rfl rfl q4 (okX16_isFact hb) ?_
    rintro o σ5 ⟨y6, rfl, hb⟩
    refine ⟨_, rfl, ?_⟩
    refine g_if_ne (tgt := 27) C dX16_blame_18 (by decide) (fun c => ?_) (fun c => ?_)
    ·
      replace hb := hb.1 (c)
      refine g_aload_n (some v0) C dX16_blame_27 0 rfl ?_
      refine g_iload_n C dX16_blame_28 1 rfl ?_
      obtain ⟨q7, hb⟩ := hb
      refine g_invV (ci := 16) [.int v1] [] zy_X16_isFew wd_1543 wd_1545 wd_64 ⟨_, _, rfl⟩ (by decide) C dX16_blame_29 (by first | exact Nat.le_of_ble_eq_true rfl | simp [cat_rf]) (by first | exact Nat.le_of_ble_eq_true rfl | simp [cat_rf]) (by first | exact Nat.le_of_ble_eq_true rfl | simp [cat_rf]) (Nat.zero_le _) (Nat.zero_le _) rfl rfl q7 (okX16_isFew hb) ?_
      rintro o σ8 ⟨y9, rfl, hb⟩
      refine ⟨_, rfl, ?_⟩
      refine g_if_ne (tgt := 42) C dX16_blame_32 (by decide) (fun c => ?_) (fun c => ?_)
      ·
        replace hb := hb.1 (c)
        refine g_aload_n (some v0) C dX16_blame_42 0 rfl ?_
        refine g_iload_n C dX16_blame_43 2 rfl ?_
        obtain ⟨q10, hb⟩ := hb
        refine g_invV (ci := 16) [.int v2] [] zy_X16_fewAt wd_1559 wd_1561 wd_67 ⟨_, _, rfl⟩ (by decide) C dX16_blame_44 (by first | exact Nat.le_of_ble_eq_true rfl | simp [cat_rf]) (by first | exact Nat.le_of_ble_eq_true rfl | simp [cat_rf]) (by first | exact Nat.le_of_ble_eq_true rfl | simp [cat_rf]) (Nat.zero_le _) (Nat.zero_le _) rfl rfl q10 (okX16_fewAt hb) ?_
        rintro o σ11 ⟨y12, rfl, hb⟩
        refine ⟨_, rfl, ?_⟩
        refine g_istore_n (i := 3) (lv' := [(3, .int y12), (0, .ref v0), (1, .int v1), (2, .int v2)]) C dX16_blame_47 rfl (hnl_of hΓ (by decide)) (by first | rfl | simp [cat_rf]) ?_
        refine g_iload_n C dX16_blame_48 0 rfl ?_
        refine g_iconst (v := (-1)) C dX16_blame_49 (by decide) ?_
        refine g_icmp_ne (tgt := 60) C dX16_blame_50 (by decide) (fun c => ?_) (fun c => ?_)
        ·
          replace hb := hb.1 (c)
          refine g_iconst (v := 1) C dX16_blame_60 (by decide) ?_
          refine g_aload_n (some v0) C dX16_blame_61 1 rfl ?_
          obtain ⟨q13, hb⟩ := hb
          refine g_getIx (zFi σ11 1062 v0) C fl_RX16_348 dX16_blame_62 q13 rfl rfl rfl ?_
          refine g_ishl C dX16_blame_65 ?_
          refine g_iconst (v := 1) C dX16_blame_66 (by decide) ?_
          refine g_isub C dX16_blame_67 ?_
          refine g_istore (lv' := [(4, .int (((1 : Int32) <<< ((zFi σ11 1062 v0) &&& 31)) - 1)), (3, .int y12), (0, .ref v0), (1, .int v1), (2, .int v2)]) C dX16_blame_68 (hnl_of hΓ (by decide)) (by first | rfl | simp [cat_rf]) ?_
          refine g_aload_n (some v0) C dX16_blame_70 2 rfl ?_
          refine g_getIx (zFi σ11 1062 v0) C fl_RX16_348 dX16_blame_71 q13 rfl rfl rfl ?_
          refine g_istore (lv' := [(5, .int (zFi σ11 1062 v0)), (4, .int (((1 : Int32) <<< ((zFi σ11 1062 v0) &&& 31)) - 1)), (3, .int y12), (0, .ref v0), (1, .int v1), (2, .int v2)]) C dX16_blame_74 (hnl_of hΓ (by decide)) (by first | rfl | simp [cat_rf]) ?_
          refine g_iconst (v := 0) C dX16_blame_76 (by decide) ?_
          refine g_istore (lv' := [(6, .int 0), (5, .int (zFi σ11 1062 v0)), (4, .int (((1 : Int32) <<< ((zFi σ11 1062 v0) &&& 31)) - 1)), (3, .int y12), (0, .ref v0), (1, .int v1), (2, .int v2)]) C dX16_blame_77 (hnl_of hΓ (by decide)) (by first | rfl | simp [cat_rf]) ?_
          refine g_sub (lv' := [(0, .ref v0), (1, .int v1), (3, .int y12), (4, .int (((1 : Int32) <<< ((zFi σ11 1062 v0) &&& 31)) - 1)), (5, .int (zFi σ11 1062 v0)), (6, .int 0)]) [4, 5, 3, 2, 1, 0] rfl ?_
          obtain ⟨f14, hb⟩ := hb
          exact klX16_blame_79 C hΓ  f14 _ _ _ _ _ _ _ hb
        ·
          replace hb := hb.2 (c)
          refine g_aload_n (some v0) C dX16_blame_53 1 rfl ?_
          refine g_bipush (v := 6) C dX16_blame_54 (by decide) ?_
          obtain ⟨q15, hb⟩ := hb
          refine g_invV (ci := 16) [.int 6] [] zy_X16_refused wd_1005 wd_1007 wd_38 ⟨_, _, rfl⟩ (by decide) C dX16_blame_56 (by first | exact Nat.le_of_ble_eq_true rfl | simp [cat_rf]) (by first | exact Nat.le_of_ble_eq_true rfl | simp [cat_rf]) (by first | exact Nat.le_of_ble_eq_true rfl | simp [cat_rf]) (Nat.zero_le _) (Nat.zero_le _) rfl rfl q15 (okX16_refused hb) ?_
          rintro o σ16 ⟨y17, rfl, hb⟩
          refine ⟨_, rfl, ?_⟩
          exact g_ireturn C hΓ (Nat.zero_le _) (Nat.zero_le _) dX16_blame_59 ⟨_, rfl, hb⟩
      ·
        replace hb := hb.2 (c)
        refine g_aload_n (some v0) C dX16_blame_35 0 rfl ?_
        refine g_bipush (v := 6) C dX16_blame_36 (by decide) ?_
        obtain ⟨q18, hb⟩ := hb
        refine g_invV (ci := 16) [.int 6] [] zy_X16_refused wd_1005 wd_1007 wd_38 ⟨_, _, rfl⟩ (by decide) C dX16_blame_38 (by first | exact Nat.le_of_ble_eq_true rfl | simp [cat_rf]) (by first | exact Nat.le_of_ble_eq_true rfl | simp [cat_rf]) (by first | exact Nat.le_of_ble_eq_true rfl | simp [cat_rf]) (Nat.zero_le _) (Nat.zero_le _) rfl rfl q18 (okX16_refused hb) ?_
        rintro o σ19 ⟨y20, rfl, hb⟩
        refine ⟨_, rfl, ?_⟩
        exact g_ireturn C hΓ (Nat.zero_le _) (Nat.zero_le _) dX16_blame_41 ⟨_, rfl, hb⟩
    ·
      replace hb := hb.2 (c)
      refine g_sub (lv' := [(0, .ref v0)]) [0] rfl ?_
      exact kwX16_blame_21 C hΓ  _ _ hb
theorem okX16_blame {v0 : Nat} {v1 : Int32} {v2 : Int32} {σ : St} {Q : Int32 → St → Prop} (hb : wX16_blame v0 v1 v2 σ Q) : hM yX16_blame cX16_blame 7 ((Option.some FieldType.int)) 1 25 0 0 [.ref v0, .int v1, .int v2] σ (oI Q) :=
  hM_of (by decide) (Nat.le_of_ble_eq_true rfl) (fun Γ hΓ C => kwX16_blame_0 C hΓ _ _ _ _ hb)
def wX16_isShelf_0 (Q : Int32 → St → Prop) (v0 : Int32) (σ : St) : Prop :=
  ((v0 < 0 → Q 0 σ) ∧ (¬ v0 < 0 → (((20 : Int32) ≤ v0 → Q 0 σ) ∧ (¬ (20 : Int32) ≤ v0 → Q 1 σ))))
def wX16_isShelf (v0 : Int32) (σ : St) (Q : Int32 → St → Prop) : Prop := wX16_isShelf_0 Q v0 σ
set_option maxRecDepth 20000 in
theorem kwX16_isShelf_0 {Γ : hCT} (C : hC Γ RX16 cX16_isShelf ((Option.some FieldType.boolean)) "isShelf" 0 0) {Q : Int32 → St → Prop} (hΓ : Γ.2.2.2.2.2.2.2.2.2.2.2 = (1, 0, 0, oI Q)) (v0 : Int32) (σ : St) (hb : wX16_isShelf_0 Q v0 σ) : hW Γ 0 0 0 [(0, .int v0)] [] σ := by
  unfold wX16_isShelf_0 at hb
  refine g_iload_n C dX16_isShelf_0 0 rfl ?_
  refine g_if_lt (tgt := 14) C dX16_isShelf_1 (by decide) (fun c => ?_) (fun c => ?_)
  ·
    replace hb := hb.1 (c)
    refine g_iconst (v := 0) C dX16_isShelf_14 (by decide) ?_
    exact g_zreturn C (by decide) hΓ (Nat.zero_le _) (Nat.zero_le _) dX16_isShelf_15 ⟨_, rfl, hb⟩
  ·
    replace hb := hb.2 (c)
    refine g_iload_n C dX16_isShelf_4 0 rfl ?_
    refine g_bipush (v := 20) C dX16_isShelf_5 (by decide) ?_
    refine g_icmp_ge (tgt := 14) C dX16_isShelf_7 (by decide) (fun c => ?_) (fun c => ?_)
    ·
      replace hb := hb.1 (c)
      refine g_iconst (v := 0) C dX16_isShelf_14 (by decide) ?_
      exact g_zreturn C (by decide) hΓ (Nat.zero_le _) (Nat.zero_le _) dX16_isShelf_15 ⟨_, rfl, hb⟩
    ·
      replace hb := hb.2 (c)
      refine g_iconst (v := 1) C dX16_isShelf_10 (by decide) ?_
      refine g_goto (tgt := 15) C dX16_isShelf_11 (by decide) ?_
      exact g_zreturn C (by decide) hΓ (Nat.zero_le _) (Nat.zero_le _) dX16_isShelf_15 ⟨_, rfl, hb⟩
theorem okX16_isShelf {v0 : Int32} {σ : St} {Q : Int32 → St → Prop} (hb : wX16_isShelf v0 σ Q) : hM yX16_isShelf cX16_isShelf 1 ((Option.some FieldType.boolean)) 0 0 0 0 [.int v0] σ (oI Q) :=
  hM_of (by decide) (Nat.le_of_ble_eq_true rfl) (fun Γ hΓ C => kwX16_isShelf_0 C hΓ _ _ hb)
def wX16_lay_175 (Q : Int32 → St → Prop) (r175 : Nat → Int32 → Int32 → Nat → Int32 → St → Prop) (v0 : Nat) (v2 : Int32) (v3 : Int32) (v5 : Nat) (v6 : Int32) (σ : St) : Prop :=
  zK σ v5 = 16 ∧ (((zFi σ 962 v5) ≤ v6 → zK σ v0 = 17 ∧ wX16_done v0 1 σ (fun y4 σ3 => Q y4 σ3)) ∧ (¬ (zFi σ 962 v5) ≤ v6 → ((¬ v2 = (3 : Int32) → ∃ a5 : Nat, zFr σ 964 v5 = some a5 ∧ zK σ v0 = 17 ∧ ∃ a8 : Nat, zFr σ 1050 v0 = some a8 ∧ zK σ a8 = 15 ∧ ∃ a11 : Nat, zFr σ 901 a8 = some a11 ∧ zK σ a11 = 21 ∧ vp_in ((16 * v3) + v6) (zL σ a11) ∧ zK σ a5 = 21 ∧ vp_in v6 (zL σ a5) ∧ r175 v0 v2 v3 v5 (v6 + 1) (uAj σ a5 (ix v6) (zAj σ a11 (ix ((16 * v3) + v6))))) ∧ (v2 = (3 : Int32) → ∃ a17 : Nat, zFr σ 963 v5 = some a17 ∧ zK σ v0 = 17 ∧ ∃ a20 : Nat, zFr σ 1050 v0 = some a20 ∧ zK σ a20 = 15 ∧ ∃ a23 : Nat, zFr σ 898 a20 = some a23 ∧ zK σ a23 = 20 ∧ vp_in ((6 * v3) + v6) (zL σ a23) ∧ zK σ a17 = 20 ∧ vp_in v6 (zL σ a17) ∧ r175 v0 v2 v3 v5 (v6 + 1) (uAi σ a17 (ix v6) (zAi σ a23 (ix ((6 * v3) + v6))))))))
def lX16_lay_175 (Q : Int32 → St → Prop) : Nat → Nat → Int32 → Int32 → Nat → Int32 → St → Prop
  | 0, _, _, _, _, _, _ => False
  | f + 1, v0, v2, v3, v5, v6, σ => wX16_lay_175 Q (lX16_lay_175 Q f) v0 v2 v3 v5 v6 σ
def wX16_lay_169 (Q : Int32 → St → Prop) (v0 : Nat) (v2 : Int32) (v3 : Int32) (v5 : Nat) (s1 : Int32) (s0 : Nat) (σ : St) : Prop :=
  zK σ s0 = 16 ∧ ∃ f, lX16_lay_175 Q f v0 v2 v3 v5 0 (uFi σ 962 s0 s1)
def wX16_lay_82 (Q : Int32 → St → Prop) (v0 : Nat) (v1 : Int32) (v2 : Int32) (v3 : Int32) (s0 : Int32) (σ : St) : Prop :=
  ((¬ s0 = 0 → zK σ v0 = 17 ∧ wX16_act v0 5 v1 0 σ (fun y3 σ2 => zK σ2 y3 = 13 ∧ ∃ a5 : Nat, zFr σ2 772 y3 = some a5 ∧ zK σ2 v0 = 17 ∧ ∃ a8 : Nat, zFr σ2 1052 v0 = some a8 ∧ zK σ2 a8 = 31 ∧ vp_in v1 (zL σ2 a8) ∧ ∃ a12 : Nat, zAr σ2 a8 (ix v1) = some a12 ∧ zK σ2 a5 = 16 ∧ wX15_become a5 a12 σ2 (fun σ15 => zK σ15 v0 = 17 ∧ ∃ a17 : Nat, zFr σ15 1052 v0 = some a17 ∧ zK σ15 a17 = 31 ∧ vp_in v1 (zL σ15 a17) ∧ ∃ a21 : Nat, zAr σ15 a17 (ix v1) = some a21 ∧ zK σ15 a21 = 16 ∧ ((¬ v2 = (3 : Int32) → ((¬ v2 = (4 : Int32) → wX16_lay_169 Q v0 v2 v3 a21 0 a21 (uFi (uFi σ15 960 a21 v2) 961 a21 v3)) ∧ (v2 = (4 : Int32) → ∃ a24 : Nat, zFr σ15 1050 v0 = some a24 ∧ zK σ15 a24 = 15 ∧ ∃ a27 : Nat, zFr σ15 899 a24 = some a27 ∧ zK σ15 a27 = 20 ∧ vp_in v3 (zL σ15 a27) ∧ wX16_lay_169 Q v0 v2 v3 a21 (zAi σ15 a27 (ix v3)) a21 (uFi (uFi σ15 960 a21 v2) 961 a21 v3)))) ∧ (v2 = (3 : Int32) → ∃ a31 : Nat, zFr σ15 1050 v0 = some a31 ∧ zK σ15 a31 = 15 ∧ wX16_lay_169 Q v0 v2 v3 a21 (zFi (uFi (uFi σ15 960 a21 v2) 961 a21 v3) 897 a31) a21 (uFi (uFi σ15 960 a21 v2) 961 a21 v3)))))) ∧ (s0 = 0 → zK σ v0 = 17 ∧ wX16_refused v0 1 σ (fun y36 σ35 => Q y36 σ35)))
def wX16_lay_81 (Q : Int32 → St → Prop) (v0 : Nat) (v1 : Int32) (v2 : Int32) (v3 : Int32) (σ : St) : Prop :=
  wX16_lay_82 Q v0 v1 v2 v3 0 σ
def wX16_lay_77 (Q : Int32 → St → Prop) (v0 : Nat) (v1 : Int32) (v2 : Int32) (v3 : Int32) (σ : St) : Prop :=
  wX16_lay_82 Q v0 v1 v2 v3 1 σ
def wX16_lay_27 (Q : Int32 → St → Prop) (v0 : Nat) (σ : St) : Prop :=
  zK σ v0 = 17 ∧ wX16_refused v0 2 σ (fun y3 σ2 => Q y3 σ2)
def wX16_lay_0 (Q : Int32 → St → Prop) (v0 : Nat) (v1 : Int32) (v2 : Int32) (v3 : Int32) (σ : St) : Prop :=
  zK σ v0 = 17 ∧ wX16_isShelf v1 (uFi σ 1024 v0 0) (fun y3 σ2 => ((¬ y3 = 0 → ((v2 < 0 → wX16_lay_27 Q v0 σ2) ∧ (¬ v2 < 0 → ((v2 ≤ (4 : Int32) → ((v2 = 0 → wX16_lay_77 Q v0 v1 v2 v3 σ2) ∧ (¬ v2 = 0 → ((¬ v2 = (1 : Int32) → ((¬ v2 = (2 : Int32) → zK σ2 v0 = 17 ∧ wX16_isAnswer v0 v3 σ2 (fun y6 σ5 => ((y6 = 0 → wX16_lay_81 Q v0 v1 v2 v3 σ5) ∧ (¬ y6 = 0 → wX16_lay_77 Q v0 v1 v2 v3 σ5)))) ∧ (v2 = (2 : Int32) → zK σ2 v0 = 17 ∧ wX16_isQuestion v0 v3 σ2 (fun y9 σ8 => ((y9 = 0 → wX16_lay_81 Q v0 v1 v2 v3 σ8) ∧ (¬ y9 = 0 → wX16_lay_77 Q v0 v1 v2 v3 σ8)))))) ∧ (v2 = (1 : Int32) → zK σ2 v0 = 17 ∧ wX16_isFact v0 v3 σ2 (fun y12 σ11 => ((y12 = 0 → wX16_lay_81 Q v0 v1 v2 v3 σ11) ∧ (¬ y12 = 0 → wX16_lay_77 Q v0 v1 v2 v3 σ11)))))))) ∧ (¬ v2 ≤ (4 : Int32) → wX16_lay_27 Q v0 σ2))))) ∧ (y3 = 0 → zK σ2 v0 = 17 ∧ wX16_refused v0 1 σ2 (fun y15 σ14 => Q y15 σ14))))
def wX16_lay (v0 : Nat) (v1 : Int32) (v2 : Int32) (v3 : Int32) (σ : St) (Q : Int32 → St → Prop) : Prop := wX16_lay_0 Q v0 v1 v2 v3 σ
set_option maxRecDepth 20000 in
theorem kwX16_lay_175 {Γ : hCT} (C : hC Γ RX16 cX16_lay ((Option.some FieldType.int)) "lay" 1 25) {Q : Int32 → St → Prop} (hΓ : Γ.2.2.2.2.2.2.2.2.2.2.2 = (7, 0, 0, oI Q)) {r175 : Nat → Int32 → Int32 → Nat → Int32 → St → Prop} (h175 : ∀ (v0 : Nat) (v2 : Int32) (v3 : Int32) (v5 : Nat) (v6 : Int32) (σ : St), r175 v0 v2 v3 v5 v6 σ → hW Γ 0 0 175 [(0, .ref v0), (2, .int v2), (3, .int v3), (5, .ref v5), (6, .int v6)] [] σ) (v0 : Nat) (v2 : Int32) (v3 : Int32) (v5 : Nat) (v6 : Int32) (σ : St) (hb : wX16_lay_175 Q r175 v0 v2 v3 v5 v6 σ) : hW Γ 0 0 175 [(0, .ref v0), (2, .int v2), (3, .int v3), (5, .ref v5), (6, .int v6)] [] σ := by
  unfold wX16_lay_175 at hb
  refine g_iload C dX16_lay_175 4 rfl ?_
  refine g_aload (some v5) C dX16_lay_177 3 rfl ?_
  obtain ⟨q1, hb⟩ := hb
  refine g_getIx (zFi σ 962 v5) C fl_RX16_374 dX16_lay_179 q1 rfl rfl rfl ?_
  refine g_icmp_ge (tgt := 245) C dX16_lay_182 (by decide) (fun c => ?_) (fun c => ?_)
  ·
    replace hb := hb.1 (c)
    refine g_aload_n (some v0) C dX16_lay_245 0 rfl ?_
    refine g_iconst (v := 1) C dX16_lay_246 (by decide) ?_
    obtain ⟨q2, hb⟩ := hb
    refine g_invV (ci := 16) [.int 1] [] zy_X16_done wd_1013 wd_1015 wd_40 ⟨_, _, rfl⟩ (by decide) C dX16_lay_247 (by first | exact Nat.le_of_ble_eq_true rfl | simp [cat_rf]) (by first | exact Nat.le_of_ble_eq_true rfl | simp [cat_rf]) (by first | exact Nat.le_of_ble_eq_true rfl | simp [cat_rf]) (Nat.zero_le _) (Nat.zero_le _) rfl rfl q2 (okX16_done hb) ?_
    rintro o σ3 ⟨y4, rfl, hb⟩
    refine ⟨_, rfl, ?_⟩
    exact g_ireturn C hΓ (Nat.zero_le _) (Nat.zero_le _) dX16_lay_250 ⟨_, rfl, hb⟩
  ·
    replace hb := hb.2 (c)
    refine g_iload_n C dX16_lay_185 1 rfl ?_
    refine g_iconst (v := 3) C dX16_lay_186 (by decide) ?_
    refine g_icmp_ne (tgt := 216) C dX16_lay_187 (by decide) (fun c => ?_) (fun c => ?_)
    ·
      replace hb := hb.1 (c)
      refine g_aload (some v5) C dX16_lay_216 3 rfl ?_
      obtain ⟨a5, q6, hb⟩ := hb
      refine g_getR (some a5) C fl_RX16_378 dX16_lay_218 q1 rfl rfl q6 ?_
      refine g_iload C dX16_lay_221 4 rfl ?_
      refine g_aload_n (some v0) C dX16_lay_223 0 rfl ?_
      obtain ⟨q7, hb⟩ := hb
      obtain ⟨a8, q9, hb⟩ := hb
      refine g_getR (some a8) C fl_RX16_31 dX16_lay_224 q7 rfl rfl q9 ?_
      obtain ⟨q10, hb⟩ := hb
      obtain ⟨a11, q12, hb⟩ := hb
      refine g_getR (some a11) C fl_RX16_229 dX16_lay_227 q10 rfl rfl q12 ?_
      refine g_bipush (v := 16) C dX16_lay_230 (by decide) ?_
      refine g_iload_n C dX16_lay_232 2 rfl ?_
      refine g_imul C dX16_lay_233 ?_
      refine g_iload C dX16_lay_234 4 rfl ?_
      refine g_iadd C dX16_lay_236 ?_
      obtain ⟨q13, hb⟩ := hb
      obtain ⟨q14, hb⟩ := hb
      refine g_laldx (zAj σ a11 (ix ((16 * v3) + v6))) C dX16_lay_237 q13 q14 rfl ?_
      obtain ⟨q15, hb⟩ := hb
      obtain ⟨q16, hb⟩ := hb
      refine g_last C dX16_lay_238 q15 q16 ?_
      refine g_iinc (v := v6 + 1) (lv' := [(6, .int (v6 + 1)), (0, .ref v0), (2, .int v2), (3, .int v3), (5, .ref v5)]) C dX16_lay_239 4 rfl rfl (hnl_of hΓ (by decide)) (by first | rfl | simp [cat_rf]) ?_
      refine g_goto (tgt := 175) C dX16_lay_242 (by decide) ?_
      refine g_sub (lv' := [(0, .ref v0), (2, .int v2), (3, .int v3), (5, .ref v5), (6, .int (v6 + 1))]) [1, 2, 3, 4, 0] rfl ?_
      exact h175 _ _ _ _ _ _ hb
    ·
      replace hb := hb.2 (c)
      refine g_aload (some v5) C dX16_lay_190 3 rfl ?_
      obtain ⟨a17, q18, hb⟩ := hb
      refine g_getR (some a17) C fl_RX16_377 dX16_lay_192 q1 rfl rfl q18 ?_
      refine g_iload C dX16_lay_195 4 rfl ?_
      refine g_aload_n (some v0) C dX16_lay_197 0 rfl ?_
      obtain ⟨q19, hb⟩ := hb
      obtain ⟨a20, q21, hb⟩ := hb
      refine g_getR (some a20) C fl_RX16_31 dX16_lay_198 q19 rfl rfl q21 ?_
      obtain ⟨q22, hb⟩ := hb
      obtain ⟨a23, q24, hb⟩ := hb
      refine g_getR (some a23) C fl_RX16_239 dX16_lay_201 q22 rfl rfl q24 ?_
      refine g_bipush (v := 6) C dX16_lay_204 (by decide) ?_
      refine g_iload_n C dX16_lay_206 2 rfl ?_
      refine g_imul C dX16_lay_207 ?_
      refine g_iload C dX16_lay_208 4 rfl ?_
      refine g_iadd C dX16_lay_210 ?_
      obtain ⟨q25, hb⟩ := hb
      obtain ⟨q26, hb⟩ := hb
      refine g_ialdx (zAi σ a23 (ix ((6 * v3) + v6))) C dX16_lay_211 q25 q26 rfl ?_
      obtain ⟨q27, hb⟩ := hb
      obtain ⟨q28, hb⟩ := hb
      refine g_iast C dX16_lay_212 q27 q28 ?_
      refine g_goto (tgt := 239) C dX16_lay_213 (by decide) ?_
      refine g_iinc (v := v6 + 1) (lv' := [(6, .int (v6 + 1)), (0, .ref v0), (2, .int v2), (3, .int v3), (5, .ref v5)]) C dX16_lay_239 4 rfl rfl (hnl_of hΓ (by decide)) (by first | rfl | simp [cat_rf]) ?_
      refine g_goto (tgt := 175) C dX16_lay_242 (by decide) ?_
      refine g_sub (lv' := [(0, .ref v0), (2, .int v2), (3, .int v3), (5, .ref v5), (6, .int (v6 + 1))]) [1, 2, 3, 4, 0] rfl ?_
      exact h175 _ _ _ _ _ _ hb
theorem klX16_lay_175 {Γ : hCT} (C : hC Γ RX16 cX16_lay ((Option.some FieldType.int)) "lay" 1 25) {Q : Int32 → St → Prop} (hΓ : Γ.2.2.2.2.2.2.2.2.2.2.2 = (7, 0, 0, oI Q)) (f : Nat) (v0 : Nat) (v2 : Int32) (v3 : Int32) (v5 : Nat) (v6 : Int32) (σ : St) (hb : lX16_lay_175 Q f v0 v2 v3 v5 v6 σ) : hW Γ 0 0 175 [(0, .ref v0), (2, .int v2), (3, .int v3), (5, .ref v5), (6, .int v6)] [] σ := by
  induction f generalizing v0 v2 v3 v5 v6 σ with
  | zero => exact hb.elim
  | succ f ih => exact kwX16_lay_175 C hΓ  (fun v0 v2 v3 v5 v6 σ h => ih v0 v2 v3 v5 v6 σ h) _ _ _ _ _ _ hb
set_option maxRecDepth 20000 in
theorem kwX16_lay_169 {Γ : hCT} (C : hC Γ RX16 cX16_lay ((Option.some FieldType.int)) "lay" 1 25) {Q : Int32 → St → Prop} (hΓ : Γ.2.2.2.2.2.2.2.2.2.2.2 = (7, 0, 0, oI Q)) (v0 : Nat) (v2 : Int32) (v3 : Int32) (v5 : Nat) (s1 : Int32) (s0 : Nat) (σ : St) (hb : wX16_lay_169 Q v0 v2 v3 v5 s1 s0 σ) : hW Γ 0 0 169 [(0, .ref v0), (2, .int v2), (3, .int v3), (5, .ref v5)] [.int s1, .ref s0] σ := by
  unfold wX16_lay_169 at hb
  obtain ⟨q1, hb⟩ := hb
  refine g_putI C fl_RX16_374 dX16_lay_169 q1 rfl rfl rfl rfl ?_
  refine g_iconst (v := 0) C dX16_lay_172 (by decide) ?_
  refine g_istore (lv' := [(6, .int 0), (0, .ref v0), (2, .int v2), (3, .int v3), (5, .ref v5)]) C dX16_lay_173 (hnl_of hΓ (by decide)) (by first | rfl | simp [cat_rf]) ?_
  refine g_sub (lv' := [(0, .ref v0), (2, .int v2), (3, .int v3), (5, .ref v5), (6, .int 0)]) [1, 2, 3, 4, 0] rfl ?_
  obtain ⟨f2, hb⟩ := hb
  exact klX16_lay_175 C hΓ  f2 _ _ _ _ _ _ hb
set_option maxRecDepth 20000 in
theorem kwX16_lay_82 {Γ : hCT} (C : hC Γ RX16 cX16_lay ((Option.some FieldType.int)) "lay" 1 25) {Q : Int32 → St → Prop} (hΓ : Γ.2.2.2.2.2.2.2.2.2.2.2 = (7, 0, 0, oI Q)) (v0 : Nat) (v1 : Int32) (v2 : Int32) (v3 : Int32) (s0 : Int32) (σ : St) (hb : wX16_lay_82 Q v0 v1 v2 v3 s0 σ) : hW Γ 0 0 82 [(0, .ref v0), (1, .int v1), (2, .int v2), (3, .int v3)] [.int s0] σ := by
  unfold wX16_lay_82 at hb
  refine g_istore (lv' := [(4, .int s0), (0, .ref v0), (1, .int v1), (2, .int v2), (3, .int v3)]) C dX16_lay_82 (hnl_of hΓ (by decide)) (by first | rfl | simp [cat_rf]) ?_
  refine g_iload C dX16_lay_84 0 rfl ?_
  refine g_if_ne (tgt := 95) C dX16_lay_86 (by decide) (fun c => ?_) (fun c => ?_)
  ·
    replace hb := hb.1 (c)
    refine g_aload_n (some v0) C dX16_lay_95 1 rfl ?_
    refine g_iconst (v := 5) C dX16_lay_96 (by decide) ?_
    refine g_iload_n C dX16_lay_97 2 rfl ?_
    refine g_iconst (v := 0) C dX16_lay_98 (by decide) ?_
    obtain ⟨q1, hb⟩ := hb
    refine g_invV (ci := 16) [.int 5, .int v1, .int 0] [] zy_X16_act wd_1009 wd_1011 wd_39 ⟨_, _, rfl⟩ (by decide) C dX16_lay_99 (by first | exact Nat.le_of_ble_eq_true rfl | simp [cat_rf]) (by first | exact Nat.le_of_ble_eq_true rfl | simp [cat_rf]) (by first | exact Nat.le_of_ble_eq_true rfl | simp [cat_rf]) (Nat.zero_le _) (Nat.zero_le _) rfl rfl q1 (okX16_act hb) ?_
    rintro o σ2 ⟨y3, rfl, hb⟩
    refine ⟨_, rfl, ?_⟩
    obtain ⟨q4, hb⟩ := hb
    obtain ⟨a5, q6, hb⟩ := hb
    refine g_getR (some a5) C fl_RX16_62 dX16_lay_102 q4 rfl rfl q6 ?_
    refine g_aload_n (some v0) C dX16_lay_105 1 rfl ?_
    obtain ⟨q7, hb⟩ := hb
    obtain ⟨a8, q9, hb⟩ := hb
    refine g_getR (some a8) C fl_RX16_58 dX16_lay_106 q7 rfl rfl q9 ?_
    refine g_iload_n C dX16_lay_109 2 rfl ?_
    obtain ⟨q10, hb⟩ := hb
    obtain ⟨q11, hb⟩ := hb
    obtain ⟨a12, q13, hb⟩ := hb
    refine g_aald (some a12) el_31 C dX16_lay_110 q10 q11 q13 ?_
    obtain ⟨q14, hb⟩ := hb
    refine g_invV (ci := 15) [.ref a12] [] zy_X15_become wd_997 wd_998 wd_999 ⟨_, _, rfl⟩ (by decide) C dX16_lay_111 (by first | exact Nat.le_of_ble_eq_true rfl | simp [cat_rf]) (by first | exact Nat.le_of_ble_eq_true rfl | simp [cat_rf]) (by first | exact Nat.le_of_ble_eq_true rfl | simp [cat_rf]) (Nat.zero_le _) (Nat.zero_le _) rfl rfl q14 (okX15_become hb) ?_
    rintro o σ15 ⟨rfl, hb⟩
    refine ⟨_, rfl, ?_⟩
    refine g_aload_n (some v0) C dX16_lay_114 1 rfl ?_
    obtain ⟨q16, hb⟩ := hb
    obtain ⟨a17, q18, hb⟩ := hb
    refine g_getR (some a17) C fl_RX16_58 dX16_lay_115 q16 rfl rfl q18 ?_
    refine g_iload_n C dX16_lay_118 2 rfl ?_
    obtain ⟨q19, hb⟩ := hb
    obtain ⟨q20, hb⟩ := hb
    obtain ⟨a21, q22, hb⟩ := hb
    refine g_aald (some a21) el_31 C dX16_lay_119 q19 q20 q22 ?_
    refine g_astore (lv' := [(5, .ref a21), (4, .int s0), (0, .ref v0), (1, .int v1), (2, .int v2), (3, .int v3)]) (some a21) C dX16_lay_120 (hnl_of hΓ (by decide)) (by first | rfl | simp [cat_rf]) ?_
    refine g_aload (some a21) C dX16_lay_122 0 rfl ?_
    refine g_iload_n C dX16_lay_124 4 rfl ?_
    obtain ⟨q23, hb⟩ := hb
    refine g_putI C fl_RX16_369 dX16_lay_125 q23 rfl rfl rfl rfl ?_
    refine g_aload (some a21) C dX16_lay_128 0 rfl ?_
    refine g_iload_n C dX16_lay_130 5 rfl ?_
    refine g_putI C fl_RX16_372 dX16_lay_131 (by rw [zK_uFi]; exact q23) rfl rfl rfl rfl ?_
    refine g_aload (some a21) C dX16_lay_134 0 rfl ?_
    refine g_iload_n C dX16_lay_136 4 rfl ?_
    refine g_iconst (v := 3) C dX16_lay_137 (by decide) ?_
    refine g_icmp_ne (tgt := 151) C dX16_lay_138 (by decide) (fun c => ?_) (fun c => ?_)
    ·
      replace hb := hb.1 (c)
      refine g_iload_n C dX16_lay_151 4 rfl ?_
      refine g_iconst (v := 4) C dX16_lay_152 (by decide) ?_
      refine g_icmp_ne (tgt := 168) C dX16_lay_153 (by decide) (fun c => ?_) (fun c => ?_)
      ·
        replace hb := hb.1 (c)
        refine g_iconst (v := 0) C dX16_lay_168 (by decide) ?_
        refine g_sub (lv' := [(0, .ref v0), (2, .int v2), (3, .int v3), (5, .ref a21)]) [2, 4, 5, 0] rfl ?_
        exact kwX16_lay_169 C hΓ  _ _ _ _ _ _ _ hb
      ·
        replace hb := hb.2 (c)
        refine g_aload_n (some v0) C dX16_lay_156 2 rfl ?_
        obtain ⟨a24, q25, hb⟩ := hb
        refine g_getR (some a24) C fl_RX16_31 dX16_lay_157 (by rw [zK_uFi, zK_uFi]; exact q16) rfl rfl (by rw [zFr_uFi, zFr_uFi]; exact q25) ?_
        obtain ⟨q26, hb⟩ := hb
        obtain ⟨a27, q28, hb⟩ := hb
        refine g_getR (some a27) C fl_RX16_226 dX16_lay_160 (by rw [zK_uFi, zK_uFi]; exact q26) rfl rfl (by rw [zFr_uFi, zFr_uFi]; exact q28) ?_
        refine g_iload_n C dX16_lay_163 5 rfl ?_
        obtain ⟨q29, hb⟩ := hb
        obtain ⟨q30, hb⟩ := hb
        refine g_ialdx (zAi σ15 a27 (ix v3)) C dX16_lay_164 (by rw [zK_uFi, zK_uFi]; exact q29) (by rw [zL_uFi, zL_uFi]; exact q30) (by rw [zAi_uFi, zAi_uFi]) ?_
        refine g_goto (tgt := 169) C dX16_lay_165 (by decide) ?_
        refine g_sub (lv' := [(0, .ref v0), (2, .int v2), (3, .int v3), (5, .ref a21)]) [2, 4, 5, 0] rfl ?_
        exact kwX16_lay_169 C hΓ  _ _ _ _ _ _ _ hb
    ·
      replace hb := hb.2 (c)
      refine g_aload_n (some v0) C dX16_lay_141 2 rfl ?_
      obtain ⟨a31, q32, hb⟩ := hb
      refine g_getR (some a31) C fl_RX16_31 dX16_lay_142 (by rw [zK_uFi, zK_uFi]; exact q16) rfl rfl (by rw [zFr_uFi, zFr_uFi]; exact q32) ?_
      obtain ⟨q33, hb⟩ := hb
      refine g_getIx (zFi (uFi (uFi σ15 960 a21 v2) 961 a21 v3) 897 a31) C fl_RX16_236 dX16_lay_145 (by rw [zK_uFi, zK_uFi]; exact q33) rfl rfl rfl ?_
      refine g_goto (tgt := 169) C dX16_lay_148 (by decide) ?_
      refine g_sub (lv' := [(0, .ref v0), (2, .int v2), (3, .int v3), (5, .ref a21)]) [2, 4, 5, 0] rfl ?_
      exact kwX16_lay_169 C hΓ  _ _ _ _ _ _ _ hb
  ·
    replace hb := hb.2 (c)
    refine g_aload_n (some v0) C dX16_lay_89 1 rfl ?_
    refine g_iconst (v := 1) C dX16_lay_90 (by decide) ?_
    obtain ⟨q34, hb⟩ := hb
    refine g_invV (ci := 16) [.int 1] [] zy_X16_refused wd_1005 wd_1007 wd_38 ⟨_, _, rfl⟩ (by decide) C dX16_lay_91 (by first | exact Nat.le_of_ble_eq_true rfl | simp [cat_rf]) (by first | exact Nat.le_of_ble_eq_true rfl | simp [cat_rf]) (by first | exact Nat.le_of_ble_eq_true rfl | simp [cat_rf]) (Nat.zero_le _) (Nat.zero_le _) rfl rfl q34 (okX16_refused hb) ?_
    rintro o σ35 ⟨y36, rfl, hb⟩
    refine ⟨_, rfl, ?_⟩
    exact g_ireturn C hΓ (Nat.zero_le _) (Nat.zero_le _) dX16_lay_94 ⟨_, rfl, hb⟩
set_option maxRecDepth 20000 in
theorem kwX16_lay_81 {Γ : hCT} (C : hC Γ RX16 cX16_lay ((Option.some FieldType.int)) "lay" 1 25) {Q : Int32 → St → Prop} (hΓ : Γ.2.2.2.2.2.2.2.2.2.2.2 = (7, 0, 0, oI Q)) (v0 : Nat) (v1 : Int32) (v2 : Int32) (v3 : Int32) (σ : St) (hb : wX16_lay_81 Q v0 v1 v2 v3 σ) : hW Γ 0 0 81 [(0, .ref v0), (1, .int v1), (2, .int v2), (3, .int v3)] [] σ := by
  unfold wX16_lay_81 at hb
  refine g_iconst (v := 0) C dX16_lay_81 (by decide) ?_
  refine g_sub (lv' := [(0, .ref v0), (1, .int v1), (2, .int v2), (3, .int v3)]) [0, 1, 2, 3] rfl ?_
  exact kwX16_lay_82 C hΓ  _ _ _ _ _ _ hb
set_option maxRecDepth 20000 in
theorem kwX16_lay_77 {Γ : hCT} (C : hC Γ RX16 cX16_lay ((Option.some FieldType.int)) "lay" 1 25) {Q : Int32 → St → Prop} (hΓ : Γ.2.2.2.2.2.2.2.2.2.2.2 = (7, 0, 0, oI Q)) (v0 : Nat) (v1 : Int32) (v2 : Int32) (v3 : Int32) (σ : St) (hb : wX16_lay_77 Q v0 v1 v2 v3 σ) : hW Γ 0 0 77 [(0, .ref v0), (1, .int v1), (2, .int v2), (3, .int v3)] [] σ := by
  unfold wX16_lay_77 at hb
  refine g_iconst (v := 1) C dX16_lay_77 (by decide) ?_
  refine g_goto (tgt := 82) C dX16_lay_78 (by decide) ?_
  refine g_sub (lv' := [(0, .ref v0), (1, .int v1), (2, .int v2), (3, .int v3)]) [0, 1, 2, 3] rfl ?_
  exact kwX16_lay_82 C hΓ  _ _ _ _ _ _ hb
set_option maxRecDepth 20000 in
theorem kwX16_lay_27 {Γ : hCT} (C : hC Γ RX16 cX16_lay ((Option.some FieldType.int)) "lay" 1 25) {Q : Int32 → St → Prop} (hΓ : Γ.2.2.2.2.2.2.2.2.2.2.2 = (7, 0, 0, oI Q)) (v0 : Nat) (σ : St) (hb : wX16_lay_27 Q v0 σ) : hW Γ 0 0 27 [(0, .ref v0)] [] σ := by
  unfold wX16_lay_27 at hb
  refine g_aload_n (some v0) C dX16_lay_27 0 rfl ?_
  refine g_iconst (v := 2) C dX16_lay_28 (by decide) ?_
  obtain ⟨q1, hb⟩ := hb
  refine g_invV (ci := 16) [.int 2] [] zy_X16_refused wd_1005 wd_1007 wd_38 ⟨_, _, rfl⟩ (by decide) C dX16_lay_29 (by first | exact Nat.le_of_ble_eq_true rfl | simp [cat_rf]) (by first | exact Nat.le_of_ble_eq_true rfl | simp [cat_rf]) (by first | exact Nat.le_of_ble_eq_true rfl | simp [cat_rf]) (Nat.zero_le _) (Nat.zero_le _) rfl rfl q1 (okX16_refused hb) ?_
  rintro o σ2 ⟨y3, rfl, hb⟩
  refine ⟨_, rfl, ?_⟩
  exact g_ireturn C hΓ (Nat.zero_le _) (Nat.zero_le _) dX16_lay_32 ⟨_, rfl, hb⟩
set_option maxRecDepth 20000 in
theorem kwX16_lay_0 {Γ : hCT} (C : hC Γ RX16 cX16_lay ((Option.some FieldType.int)) "lay" 1 25) {Q : Int32 → St → Prop} (hΓ : Γ.2.2.2.2.2.2.2.2.2.2.2 = (7, 0, 0, oI Q)) (v0 : Nat) (v1 : Int32) (v2 : Int32) (v3 : Int32) (σ : St) (hb : wX16_lay_0 Q v0 v1 v2 v3 σ) : hW Γ 0 0 0 [(0, .ref v0), (1, .int v1), (2, .int v2), (3, .int v3)] [] σ := by
  unfold wX16_lay_0 at hb
  refine g_aload_n (some v0) C dX16_lay_0 0 rfl ?_
  refine g_iconst (v := 0) C dX16_lay_1 (by decide) ?_
  obtain ⟨q1, hb⟩ := hb
  refine g_putI C fl_RX16_1 dX16_lay_2 q1 rfl rfl rfl rfl ?_
  refine g_iload_n C dX16_lay_5 1 rfl ?_
  refine g_invS [.int v1] [] zy_X16_isShelf wd_1578 wd_1579 C dX16_lay_6 (by first | exact Nat.le_of_ble_eq_true rfl | simp [cat_rf]) (by first | exact Nat.le_of_ble_eq_true rfl | simp [cat_rf]) (by first | exact Nat.le_of_ble_eq_true rfl | simp [cat_rf]) (Nat.zero_le _) (Nat.zero_le _) rfl rfl  (okX16_isShelf hb) ?_
  rintro o σ2 ⟨y3, rfl, hb⟩
  refine ⟨_, rfl, ?_⟩
  refine g_if_ne (tgt := 18) C dX16_lay_9 (by decide) (fun c => ?_) (fun c => ?_)
  ·
    replace hb := hb.1 (c)
    refine g_iload_n C dX16_lay_18 2 rfl ?_
    refine g_if_lt (tgt := 27) C dX16_lay_19 (by decide) (fun c => ?_) (fun c => ?_)
    ·
      replace hb := hb.1 (c)
      refine g_sub (lv' := [(0, .ref v0)]) [0] rfl ?_
      exact kwX16_lay_27 C hΓ  _ _ hb
    ·
      replace hb := hb.2 (c)
      refine g_iload_n C dX16_lay_22 2 rfl ?_
      refine g_iconst (v := 4) C dX16_lay_23 (by decide) ?_
      refine g_icmp_le (tgt := 33) C dX16_lay_24 (by decide) (fun c => ?_) (fun c => ?_)
      ·
        replace hb := hb.1 (c)
        refine g_iload_n C dX16_lay_33 2 rfl ?_
        refine g_if_eq (tgt := 77) C dX16_lay_34 (by decide) (fun c => ?_) (fun c => ?_)
        ·
          replace hb := hb.1 (c)
          refine g_sub (lv' := [(0, .ref v0), (1, .int v1), (2, .int v2), (3, .int v3)]) [0, 1, 2, 3] rfl ?_
          exact kwX16_lay_77 C hΓ  _ _ _ _ _ hb
        ·
          replace hb := hb.2 (c)
          refine g_iload_n C dX16_lay_37 2 rfl ?_
          refine g_iconst (v := 1) C dX16_lay_38 (by decide) ?_
          refine g_icmp_ne (tgt := 53) C dX16_lay_39 (by decide) (fun c => ?_) (fun c => ?_)
          ·
            replace hb := hb.1 (c)
            refine g_iload_n C dX16_lay_53 2 rfl ?_
            refine g_iconst (v := 2) C dX16_lay_54 (by decide) ?_
            refine g_icmp_ne (tgt := 69) C dX16_lay_55 (by decide) (fun c => ?_) (fun c => ?_)
            ·
              replace hb := hb.1 (c)
              refine g_aload_n (some v0) C dX16_lay_69 0 rfl ?_
              refine g_iload_n C dX16_lay_70 3 rfl ?_
              obtain ⟨q4, hb⟩ := hb
              refine g_invV (ci := 16) [.int v3] [] zy_X16_isAnswer wd_1491 wd_1493 wd_62 ⟨_, _, rfl⟩ (by decide) C dX16_lay_71 (by first | exact Nat.le_of_ble_eq_true rfl | simp [cat_rf]) (by first | exact Nat.le_of_ble_eq_true rfl | simp [cat_rf]) (by first | exact Nat.le_of_ble_eq_true rfl | simp [cat_rf]) (Nat.zero_le _) (Nat.zero_le _) rfl rfl q4 (okX16_isAnswer hb) ?_
              rintro o σ5 ⟨y6, rfl, hb⟩
              refine ⟨_, rfl, ?_⟩
              refine g_if_eq (tgt := 81) C dX16_lay_74 (by decide) (fun c => ?_) (fun c => ?_)
              ·
                replace hb := hb.1 (c)
                refine g_sub (lv' := [(0, .ref v0), (1, .int v1), (2, .int v2), (3, .int v3)]) [0, 1, 2, 3] rfl ?_
                exact kwX16_lay_81 C hΓ  _ _ _ _ _ hb
              ·
                replace hb := hb.2 (c)
                refine g_sub (lv' := [(0, .ref v0), (1, .int v1), (2, .int v2), (3, .int v3)]) [0, 1, 2, 3] rfl ?_
                exact kwX16_lay_77 C hΓ  _ _ _ _ _ hb
            ·
              replace hb := hb.2 (c)
              refine g_aload_n (some v0) C dX16_lay_58 0 rfl ?_
              refine g_iload_n C dX16_lay_59 3 rfl ?_
              obtain ⟨q7, hb⟩ := hb
              refine g_invV (ci := 16) [.int v3] [] zy_X16_isQuestion wd_1072 wd_1074 wd_45 ⟨_, _, rfl⟩ (by decide) C dX16_lay_60 (by first | exact Nat.le_of_ble_eq_true rfl | simp [cat_rf]) (by first | exact Nat.le_of_ble_eq_true rfl | simp [cat_rf]) (by first | exact Nat.le_of_ble_eq_true rfl | simp [cat_rf]) (Nat.zero_le _) (Nat.zero_le _) rfl rfl q7 (okX16_isQuestion hb) ?_
              rintro o σ8 ⟨y9, rfl, hb⟩
              refine ⟨_, rfl, ?_⟩
              refine g_if_eq (tgt := 81) C dX16_lay_63 (by decide) (fun c => ?_) (fun c => ?_)
              ·
                replace hb := hb.1 (c)
                refine g_sub (lv' := [(0, .ref v0), (1, .int v1), (2, .int v2), (3, .int v3)]) [0, 1, 2, 3] rfl ?_
                exact kwX16_lay_81 C hΓ  _ _ _ _ _ hb
              ·
                replace hb := hb.2 (c)
                refine g_goto (tgt := 77) C dX16_lay_66 (by decide) ?_
                refine g_sub (lv' := [(0, .ref v0), (1, .int v1), (2, .int v2), (3, .int v3)]) [0, 1, 2, 3] rfl ?_
                exact kwX16_lay_77 C hΓ  _ _ _ _ _ hb
          ·
            replace hb := hb.2 (c)
            refine g_aload_n (some v0) C dX16_lay_42 0 rfl ?_
            refine g_iload_n C dX16_lay_43 3 rfl ?_
            obtain ⟨q10, hb⟩ := hb
            refine g_invV (ci := 16) [.int v3] [] zy_X16_isFact wd_1029 wd_1031 wd_42 ⟨_, _, rfl⟩ (by decide) C dX16_lay_44 (by first | exact Nat.le_of_ble_eq_true rfl | simp [cat_rf]) (by first | exact Nat.le_of_ble_eq_true rfl | simp [cat_rf]) (by first | exact Nat.le_of_ble_eq_true rfl | simp [cat_rf]) (Nat.zero_le _) (Nat.zero_le _) rfl rfl q10 (okX16_isFact hb) ?_
            rintro o σ11 ⟨y12, rfl, hb⟩
            refine ⟨_, rfl, ?_⟩
            refine g_if_eq (tgt := 81) C dX16_lay_47 (by decide) (fun c => ?_) (fun c => ?_)
            ·
              replace hb := hb.1 (c)
              refine g_sub (lv' := [(0, .ref v0), (1, .int v1), (2, .int v2), (3, .int v3)]) [0, 1, 2, 3] rfl ?_
              exact kwX16_lay_81 C hΓ  _ _ _ _ _ hb
            ·
              replace hb := hb.2 (c)
              refine g_goto (tgt := 77) C dX16_lay_50 (by decide) ?_
              refine g_sub (lv' := [(0, .ref v0), (1, .int v1), (2, .int v2), (3, .int v3)]) [0, 1, 2, 3] rfl ?_
              exact kwX16_lay_77 C hΓ  _ _ _ _ _ hb
      ·
        replace hb := hb.2 (c)
        refine g_sub (lv' := [(0, .ref v0)]) [0] rfl ?_
        exact kwX16_lay_27 C hΓ  _ _ hb
  ·
    replace hb := hb.2 (c)
    refine g_aload_n (some v0) C dX16_lay_12 0 rfl ?_
    refine g_iconst (v := 1) C dX16_lay_13 (by decide) ?_
    obtain ⟨q13, hb⟩ := hb
    refine g_invV (ci := 16) [.int 1] [] zy_X16_refused wd_1005 wd_1007 wd_38 ⟨_, _, rfl⟩ (by decide) C dX16_lay_14 (by first | exact Nat.le_of_ble_eq_true rfl | simp [cat_rf]) (by first | exact Nat.le_of_ble_eq_true rfl | simp [cat_rf]) (by first | exact Nat.le_of_ble_eq_true rfl | simp [cat_rf]) (Nat.zero_le _) (Nat.zero_le _) rfl rfl q13 (okX16_refused hb) ?_
    rintro o σ14 ⟨y15, rfl, hb⟩
    refine ⟨_, rfl, ?_⟩
    exact g_ireturn C hΓ (Nat.zero_le _) (Nat.zero_le _) dX16_lay_17 ⟨_, rfl, hb⟩
theorem okX16_lay {v0 : Nat} {v1 : Int32} {v2 : Int32} {v3 : Int32} {σ : St} {Q : Int32 → St → Prop} (hb : wX16_lay v0 v1 v2 v3 σ Q) : hM yX16_lay cX16_lay 7 ((Option.some FieldType.int)) 1 25 0 0 [.ref v0, .int v1, .int v2, .int v3] σ (oI Q) :=
  hM_of (by decide) (Nat.le_of_ble_eq_true rfl) (fun Γ hΓ C => kwX16_lay_0 C hΓ _ _ _ _ _ hb)
def wX16_lies_0 (Q : Int32 → St → Prop) (v0 : Nat) (v1 : Int32) (σ : St) : Prop :=
  zK σ v0 = 17 ∧ wX16_isShelf v1 (uFi σ 1024 v0 0) (fun y3 σ2 => ((y3 = 0 → zK σ2 v0 = 17 ∧ wX16_refused v0 1 σ2 (fun y6 σ5 => Q y6 σ5)) ∧ (¬ y3 = 0 → zK σ2 v0 = 17 ∧ ∃ a8 : Nat, zFr σ2 1052 v0 = some a8 ∧ zK σ2 a8 = 31 ∧ vp_in v1 (zL σ2 a8) ∧ ∃ a12 : Nat, zAr σ2 a8 (ix v1) = some a12 ∧ zK σ2 a12 = 16 ∧ wX16_done v0 (zFi σ2 960 a12) σ2 (fun y16 σ15 => Q y16 σ15))))
def wX16_lies (v0 : Nat) (v1 : Int32) (σ : St) (Q : Int32 → St → Prop) : Prop := wX16_lies_0 Q v0 v1 σ
set_option maxRecDepth 20000 in
theorem kwX16_lies_0 {Γ : hCT} (C : hC Γ RX16 cX16_lies ((Option.some FieldType.int)) "lies" 1 21) {Q : Int32 → St → Prop} (hΓ : Γ.2.2.2.2.2.2.2.2.2.2.2 = (2, 0, 0, oI Q)) (v0 : Nat) (v1 : Int32) (σ : St) (hb : wX16_lies_0 Q v0 v1 σ) : hW Γ 0 0 0 [(0, .ref v0), (1, .int v1)] [] σ := by
  unfold wX16_lies_0 at hb
  refine g_aload_n (some v0) C dX16_lies_0 0 rfl ?_
  refine g_iconst (v := 0) C dX16_lies_1 (by decide) ?_
  obtain ⟨q1, hb⟩ := hb
  refine g_putI C fl_RX16_1 dX16_lies_2 q1 rfl rfl rfl rfl ?_
  refine g_iload_n C dX16_lies_5 1 rfl ?_
  refine g_invS [.int v1] [] zy_X16_isShelf wd_1578 wd_1579 C dX16_lies_6 (by first | exact Nat.le_of_ble_eq_true rfl | simp [cat_rf]) (by first | exact Nat.le_of_ble_eq_true rfl | simp [cat_rf]) (by first | exact Nat.le_of_ble_eq_true rfl | simp [cat_rf]) (Nat.zero_le _) (Nat.zero_le _) rfl rfl  (okX16_isShelf hb) ?_
  rintro o σ2 ⟨y3, rfl, hb⟩
  refine ⟨_, rfl, ?_⟩
  refine g_if_eq (tgt := 28) C dX16_lies_9 (by decide) (fun c => ?_) (fun c => ?_)
  ·
    replace hb := hb.1 (c)
    refine g_aload_n (some v0) C dX16_lies_28 0 rfl ?_
    refine g_iconst (v := 1) C dX16_lies_29 (by decide) ?_
    obtain ⟨q4, hb⟩ := hb
    refine g_invV (ci := 16) [.int 1] [] zy_X16_refused wd_1005 wd_1007 wd_38 ⟨_, _, rfl⟩ (by decide) C dX16_lies_30 (by first | exact Nat.le_of_ble_eq_true rfl | simp [cat_rf]) (by first | exact Nat.le_of_ble_eq_true rfl | simp [cat_rf]) (by first | exact Nat.le_of_ble_eq_true rfl | simp [cat_rf]) (Nat.zero_le _) (Nat.zero_le _) rfl rfl q4 (okX16_refused hb) ?_
    rintro o σ5 ⟨y6, rfl, hb⟩
    refine ⟨_, rfl, ?_⟩
    exact g_ireturn C hΓ (Nat.zero_le _) (Nat.zero_le _) dX16_lies_33 ⟨_, rfl, hb⟩
  ·
    replace hb := hb.2 (c)
    refine g_aload_n (some v0) C dX16_lies_12 0 rfl ?_
    refine g_aload_n (some v0) C dX16_lies_13 0 rfl ?_
    obtain ⟨q7, hb⟩ := hb
    obtain ⟨a8, q9, hb⟩ := hb
    refine g_getR (some a8) C fl_RX16_58 dX16_lies_14 q7 rfl rfl q9 ?_
    refine g_iload_n C dX16_lies_17 1 rfl ?_
    obtain ⟨q10, hb⟩ := hb
    obtain ⟨q11, hb⟩ := hb
    obtain ⟨a12, q13, hb⟩ := hb
    refine g_aald (some a12) el_31 C dX16_lies_18 q10 q11 q13 ?_
    obtain ⟨q14, hb⟩ := hb
    refine g_getIx (zFi σ2 960 a12) C fl_RX16_369 dX16_lies_19 q14 rfl rfl rfl ?_
    refine g_invV (ci := 16) [.int (zFi σ2 960 a12)] [] zy_X16_done wd_1013 wd_1015 wd_40 ⟨_, _, rfl⟩ (by decide) C dX16_lies_22 (by first | exact Nat.le_of_ble_eq_true rfl | simp [cat_rf]) (by first | exact Nat.le_of_ble_eq_true rfl | simp [cat_rf]) (by first | exact Nat.le_of_ble_eq_true rfl | simp [cat_rf]) (Nat.zero_le _) (Nat.zero_le _) rfl rfl q7 (okX16_done hb) ?_
    rintro o σ15 ⟨y16, rfl, hb⟩
    refine ⟨_, rfl, ?_⟩
    refine g_goto (tgt := 33) C dX16_lies_25 (by decide) ?_
    exact g_ireturn C hΓ (Nat.zero_le _) (Nat.zero_le _) dX16_lies_33 ⟨_, rfl, hb⟩
theorem okX16_lies {v0 : Nat} {v1 : Int32} {σ : St} {Q : Int32 → St → Prop} (hb : wX16_lies v0 v1 σ Q) : hM yX16_lies cX16_lies 2 ((Option.some FieldType.int)) 1 21 0 0 [.ref v0, .int v1] σ (oI Q) :=
  hM_of (by decide) (Nat.le_of_ble_eq_true rfl) (fun Γ hΓ C => kwX16_lies_0 C hΓ _ _ _ hb)
def wX16_taken_90 (Q : Int64 → St → Prop) (v0 : Nat) (σ : St) : Prop :=
  zK σ v0 = 17 ∧ wX16_refused v0 1 σ (fun y3 σ2 => Q (Int32.toInt64 y3) σ2)
def wX16_taken_29 (Q : Int64 → St → Prop) (v0 : Nat) (σ : St) : Prop :=
  zK σ v0 = 17 ∧ wX16_refused v0 2 σ (fun y3 σ2 => Q (Int32.toInt64 y3) σ2)
def wX16_taken_0 (Q : Int64 → St → Prop) (v0 : Nat) (v1 : Int32) (v2 : Int32) (v3 : Int32) (σ : St) : Prop :=
  zK σ v0 = 17 ∧ wX16_isShelf v1 (uFi σ 1024 v0 0) (fun y3 σ2 => ((¬ y3 = 0 → ((v2 < (1 : Int32) → wX16_taken_29 Q v0 σ2) ∧ (¬ v2 < (1 : Int32) → ((v2 ≤ (4 : Int32) → zK σ2 v0 = 17 ∧ ∃ a5 : Nat, zFr σ2 1052 v0 = some a5 ∧ zK σ2 a5 = 31 ∧ vp_in v1 (zL σ2 a5) ∧ ∃ a9 : Nat, zAr σ2 a5 (ix v1) = some a9 ∧ zK σ2 a9 = 16 ∧ (((zFi σ2 960 a9) = v2 → (((3 : Int32) ≤ v2 → ((v3 < 0 → wX16_taken_90 Q v0 σ2) ∧ (¬ v3 < 0 → ((v3 < (zFi σ2 962 a9) → ((¬ v2 = (3 : Int32) → ∃ a12 : Nat, zFr σ2 964 a9 = some a12 ∧ zK σ2 a12 = 21 ∧ vp_in v3 (zL σ2 a12) ∧ Q (zAj σ2 a12 (ix v3)) (uFi σ2 1025 v0 0)) ∧ (v2 = (3 : Int32) → ∃ a16 : Nat, zFr σ2 963 a9 = some a16 ∧ zK σ2 a16 = 20 ∧ vp_in v3 (zL σ2 a16) ∧ Q (Int32.toInt64 (zAi σ2 a16 (ix v3))) (uFi σ2 1025 v0 0)))) ∧ (¬ v3 < (zFi σ2 962 a9) → wX16_taken_90 Q v0 σ2))))) ∧ (¬ (3 : Int32) ≤ v2 → wX16_done v0 (zFi σ2 961 a9) σ2 (fun y21 σ20 => Q (Int32.toInt64 y21) σ20)))) ∧ (¬ (zFi σ2 960 a9) = v2 → wX16_refused v0 7 σ2 (fun y23 σ22 => Q (Int32.toInt64 y23) σ22)))) ∧ (¬ v2 ≤ (4 : Int32) → wX16_taken_29 Q v0 σ2))))) ∧ (y3 = 0 → zK σ2 v0 = 17 ∧ wX16_refused v0 1 σ2 (fun y26 σ25 => Q (Int32.toInt64 y26) σ25))))
def wX16_taken (v0 : Nat) (v1 : Int32) (v2 : Int32) (v3 : Int32) (σ : St) (Q : Int64 → St → Prop) : Prop := wX16_taken_0 Q v0 v1 v2 v3 σ
set_option maxRecDepth 20000 in
theorem kwX16_taken_90 {Γ : hCT} (C : hC Γ RX16 cX16_taken ((Option.some FieldType.long)) "taken" 1 21) {Q : Int64 → St → Prop} (hΓ : Γ.2.2.2.2.2.2.2.2.2.2.2 = (5, 0, 0, oJ Q)) (v0 : Nat) (σ : St) (hb : wX16_taken_90 Q v0 σ) : hW Γ 0 0 90 [(0, .ref v0)] [] σ := by
  unfold wX16_taken_90 at hb
  refine g_aload_n (some v0) C dX16_taken_90 0 rfl ?_
  refine g_iconst (v := 1) C dX16_taken_91 (by decide) ?_
  obtain ⟨q1, hb⟩ := hb
  refine g_invV (ci := 16) [.int 1] [] zy_X16_refused wd_1005 wd_1007 wd_38 ⟨_, _, rfl⟩ (by decide) C dX16_taken_92 (by first | exact Nat.le_of_ble_eq_true rfl | simp [cat_rf]) (by first | exact Nat.le_of_ble_eq_true rfl | simp [cat_rf]) (by first | exact Nat.le_of_ble_eq_true rfl | simp [cat_rf]) (Nat.zero_le _) (Nat.zero_le _) rfl rfl q1 (okX16_refused hb) ?_
  rintro o σ2 ⟨y3, rfl, hb⟩
  refine ⟨_, rfl, ?_⟩
  refine g_i2l C dX16_taken_95 ?_
  exact g_lreturn C hΓ (Nat.zero_le _) (Nat.zero_le _) dX16_taken_96 ⟨_, rfl, hb⟩
set_option maxRecDepth 20000 in
theorem kwX16_taken_29 {Γ : hCT} (C : hC Γ RX16 cX16_taken ((Option.some FieldType.long)) "taken" 1 21) {Q : Int64 → St → Prop} (hΓ : Γ.2.2.2.2.2.2.2.2.2.2.2 = (5, 0, 0, oJ Q)) (v0 : Nat) (σ : St) (hb : wX16_taken_29 Q v0 σ) : hW Γ 0 0 29 [(0, .ref v0)] [] σ := by
  unfold wX16_taken_29 at hb
  refine g_aload_n (some v0) C dX16_taken_29 0 rfl ?_
  refine g_iconst (v := 2) C dX16_taken_30 (by decide) ?_
  obtain ⟨q1, hb⟩ := hb
  refine g_invV (ci := 16) [.int 2] [] zy_X16_refused wd_1005 wd_1007 wd_38 ⟨_, _, rfl⟩ (by decide) C dX16_taken_31 (by first | exact Nat.le_of_ble_eq_true rfl | simp [cat_rf]) (by first | exact Nat.le_of_ble_eq_true rfl | simp [cat_rf]) (by first | exact Nat.le_of_ble_eq_true rfl | simp [cat_rf]) (Nat.zero_le _) (Nat.zero_le _) rfl rfl q1 (okX16_refused hb) ?_
  rintro o σ2 ⟨y3, rfl, hb⟩
  refine ⟨_, rfl, ?_⟩
  refine g_i2l C dX16_taken_34 ?_
  exact g_lreturn C hΓ (Nat.zero_le _) (Nat.zero_le _) dX16_taken_35 ⟨_, rfl, hb⟩
set_option maxRecDepth 20000 in
theorem kwX16_taken_0 {Γ : hCT} (C : hC Γ RX16 cX16_taken ((Option.some FieldType.long)) "taken" 1 21) {Q : Int64 → St → Prop} (hΓ : Γ.2.2.2.2.2.2.2.2.2.2.2 = (5, 0, 0, oJ Q)) (v0 : Nat) (v1 : Int32) (v2 : Int32) (v3 : Int32) (σ : St) (hb : wX16_taken_0 Q v0 v1 v2 v3 σ) : hW Γ 0 0 0 [(0, .ref v0), (1, .int v1), (2, .int v2), (3, .int v3)] [] σ := by
  unfold wX16_taken_0 at hb
  refine g_aload_n (some v0) C dX16_taken_0 0 rfl ?_
  refine g_iconst (v := 0) C dX16_taken_1 (by decide) ?_
  obtain ⟨q1, hb⟩ := hb
  refine g_putI C fl_RX16_1 dX16_taken_2 q1 rfl rfl rfl rfl ?_
  refine g_iload_n C dX16_taken_5 1 rfl ?_
  refine g_invS [.int v1] [] zy_X16_isShelf wd_1578 wd_1579 C dX16_taken_6 (by first | exact Nat.le_of_ble_eq_true rfl | simp [cat_rf]) (by first | exact Nat.le_of_ble_eq_true rfl | simp [cat_rf]) (by first | exact Nat.le_of_ble_eq_true rfl | simp [cat_rf]) (Nat.zero_le _) (Nat.zero_le _) rfl rfl  (okX16_isShelf hb) ?_
  rintro o σ2 ⟨y3, rfl, hb⟩
  refine ⟨_, rfl, ?_⟩
  refine g_if_ne (tgt := 19) C dX16_taken_9 (by decide) (fun c => ?_) (fun c => ?_)
  ·
    replace hb := hb.1 (c)
    refine g_iload_n C dX16_taken_19 2 rfl ?_
    refine g_iconst (v := 1) C dX16_taken_20 (by decide) ?_
    refine g_icmp_lt (tgt := 29) C dX16_taken_21 (by decide) (fun c => ?_) (fun c => ?_)
    ·
      replace hb := hb.1 (c)
      refine g_sub (lv' := [(0, .ref v0)]) [0] rfl ?_
      exact kwX16_taken_29 C hΓ  _ _ hb
    ·
      replace hb := hb.2 (c)
      refine g_iload_n C dX16_taken_24 2 rfl ?_
      refine g_iconst (v := 4) C dX16_taken_25 (by decide) ?_
      refine g_icmp_le (tgt := 36) C dX16_taken_26 (by decide) (fun c => ?_) (fun c => ?_)
      ·
        replace hb := hb.1 (c)
        refine g_aload_n (some v0) C dX16_taken_36 0 rfl ?_
        obtain ⟨q4, hb⟩ := hb
        obtain ⟨a5, q6, hb⟩ := hb
        refine g_getR (some a5) C fl_RX16_58 dX16_taken_37 q4 rfl rfl q6 ?_
        refine g_iload_n C dX16_taken_40 1 rfl ?_
        obtain ⟨q7, hb⟩ := hb
        obtain ⟨q8, hb⟩ := hb
        obtain ⟨a9, q10, hb⟩ := hb
        refine g_aald (some a9) el_31 C dX16_taken_41 q7 q8 q10 ?_
        refine g_astore (lv' := [(4, .ref a9), (0, .ref v0), (1, .int v1), (2, .int v2), (3, .int v3)]) (some a9) C dX16_taken_42 (hnl_of hΓ (by decide)) (by first | rfl | simp [cat_rf]) ?_
        refine g_aload (some a9) C dX16_taken_44 0 rfl ?_
        obtain ⟨q11, hb⟩ := hb
        refine g_getIx (zFi σ2 960 a9) C fl_RX16_369 dX16_taken_46 q11 rfl rfl rfl ?_
        refine g_iload_n C dX16_taken_49 3 rfl ?_
        refine g_icmp_eq (tgt := 61) C dX16_taken_50 (by decide) (fun c => ?_) (fun c => ?_)
        ·
          replace hb := hb.1 (c)
          refine g_iload_n C dX16_taken_61 3 rfl ?_
          refine g_iconst (v := 3) C dX16_taken_62 (by decide) ?_
          refine g_icmp_ge (tgt := 77) C dX16_taken_63 (by decide) (fun c => ?_) (fun c => ?_)
          ·
            replace hb := hb.1 (c)
            refine g_iload_n C dX16_taken_77 4 rfl ?_
            refine g_if_lt (tgt := 90) C dX16_taken_78 (by decide) (fun c => ?_) (fun c => ?_)
            ·
              replace hb := hb.1 (c)
              refine g_sub (lv' := [(0, .ref v0)]) [1] rfl ?_
              exact kwX16_taken_90 C hΓ  _ _ hb
            ·
              replace hb := hb.2 (c)
              refine g_iload_n C dX16_taken_81 4 rfl ?_
              refine g_aload (some a9) C dX16_taken_82 0 rfl ?_
              refine g_getIx (zFi σ2 962 a9) C fl_RX16_374 dX16_taken_84 q11 rfl rfl rfl ?_
              refine g_icmp_lt (tgt := 97) C dX16_taken_87 (by decide) (fun c => ?_) (fun c => ?_)
              ·
                replace hb := hb.1 (c)
                refine g_aload_n (some v0) C dX16_taken_97 1 rfl ?_
                refine g_iconst (v := 0) C dX16_taken_98 (by decide) ?_
                refine g_putI C fl_RX16_7 dX16_taken_99 q4 rfl rfl rfl rfl ?_
                refine g_iload_n C dX16_taken_102 3 rfl ?_
                refine g_iconst (v := 3) C dX16_taken_103 (by decide) ?_
                refine g_icmp_ne (tgt := 118) C dX16_taken_104 (by decide) (fun c => ?_) (fun c => ?_)
                ·
                  replace hb := hb.1 (c)
                  refine g_aload (some a9) C dX16_taken_118 0 rfl ?_
                  obtain ⟨a12, q13, hb⟩ := hb
                  refine g_getR (some a12) C fl_RX16_378 dX16_taken_120 (by rw [zK_uFi]; exact q11) rfl rfl (by rw [zFr_uFi]; exact q13) ?_
                  refine g_iload_n C dX16_taken_123 4 rfl ?_
                  obtain ⟨q14, hb⟩ := hb
                  obtain ⟨q15, hb⟩ := hb
                  refine g_laldx (zAj σ2 a12 (ix v3)) C dX16_taken_124 (by rw [zK_uFi]; exact q14) (by rw [zL_uFi]; exact q15) (by rw [zAj_uFi]) ?_
                  exact g_lreturn C hΓ (Nat.zero_le _) (Nat.zero_le _) dX16_taken_125 ⟨_, rfl, hb⟩
                ·
                  replace hb := hb.2 (c)
                  refine g_aload (some a9) C dX16_taken_107 0 rfl ?_
                  obtain ⟨a16, q17, hb⟩ := hb
                  refine g_getR (some a16) C fl_RX16_377 dX16_taken_109 (by rw [zK_uFi]; exact q11) rfl rfl (by rw [zFr_uFi]; exact q17) ?_
                  refine g_iload_n C dX16_taken_112 4 rfl ?_
                  obtain ⟨q18, hb⟩ := hb
                  obtain ⟨q19, hb⟩ := hb
                  refine g_ialdx (zAi σ2 a16 (ix v3)) C dX16_taken_113 (by rw [zK_uFi]; exact q18) (by rw [zL_uFi]; exact q19) (by rw [zAi_uFi]) ?_
                  refine g_i2l C dX16_taken_114 ?_
                  refine g_goto (tgt := 125) C dX16_taken_115 (by decide) ?_
                  exact g_lreturn C hΓ (Nat.zero_le _) (Nat.zero_le _) dX16_taken_125 ⟨_, rfl, hb⟩
              ·
                replace hb := hb.2 (c)
                refine g_sub (lv' := [(0, .ref v0)]) [1] rfl ?_
                exact kwX16_taken_90 C hΓ  _ _ hb
          ·
            replace hb := hb.2 (c)
            refine g_aload_n (some v0) C dX16_taken_66 1 rfl ?_
            refine g_aload (some a9) C dX16_taken_67 0 rfl ?_
            refine g_getIx (zFi σ2 961 a9) C fl_RX16_372 dX16_taken_69 q11 rfl rfl rfl ?_
            refine g_invV (ci := 16) [.int (zFi σ2 961 a9)] [] zy_X16_done wd_1013 wd_1015 wd_40 ⟨_, _, rfl⟩ (by decide) C dX16_taken_72 (by first | exact Nat.le_of_ble_eq_true rfl | simp [cat_rf]) (by first | exact Nat.le_of_ble_eq_true rfl | simp [cat_rf]) (by first | exact Nat.le_of_ble_eq_true rfl | simp [cat_rf]) (Nat.zero_le _) (Nat.zero_le _) rfl rfl q4 (okX16_done hb) ?_
            rintro o σ20 ⟨y21, rfl, hb⟩
            refine ⟨_, rfl, ?_⟩
            refine g_i2l C dX16_taken_75 ?_
            exact g_lreturn C hΓ (Nat.zero_le _) (Nat.zero_le _) dX16_taken_76 ⟨_, rfl, hb⟩
        ·
          replace hb := hb.2 (c)
          refine g_aload_n (some v0) C dX16_taken_53 1 rfl ?_
          refine g_bipush (v := 7) C dX16_taken_54 (by decide) ?_
          refine g_invV (ci := 16) [.int 7] [] zy_X16_refused wd_1005 wd_1007 wd_38 ⟨_, _, rfl⟩ (by decide) C dX16_taken_56 (by first | exact Nat.le_of_ble_eq_true rfl | simp [cat_rf]) (by first | exact Nat.le_of_ble_eq_true rfl | simp [cat_rf]) (by first | exact Nat.le_of_ble_eq_true rfl | simp [cat_rf]) (Nat.zero_le _) (Nat.zero_le _) rfl rfl q4 (okX16_refused hb) ?_
          rintro o σ22 ⟨y23, rfl, hb⟩
          refine ⟨_, rfl, ?_⟩
          refine g_i2l C dX16_taken_59 ?_
          exact g_lreturn C hΓ (Nat.zero_le _) (Nat.zero_le _) dX16_taken_60 ⟨_, rfl, hb⟩
      ·
        replace hb := hb.2 (c)
        refine g_sub (lv' := [(0, .ref v0)]) [0] rfl ?_
        exact kwX16_taken_29 C hΓ  _ _ hb
  ·
    replace hb := hb.2 (c)
    refine g_aload_n (some v0) C dX16_taken_12 0 rfl ?_
    refine g_iconst (v := 1) C dX16_taken_13 (by decide) ?_
    obtain ⟨q24, hb⟩ := hb
    refine g_invV (ci := 16) [.int 1] [] zy_X16_refused wd_1005 wd_1007 wd_38 ⟨_, _, rfl⟩ (by decide) C dX16_taken_14 (by first | exact Nat.le_of_ble_eq_true rfl | simp [cat_rf]) (by first | exact Nat.le_of_ble_eq_true rfl | simp [cat_rf]) (by first | exact Nat.le_of_ble_eq_true rfl | simp [cat_rf]) (Nat.zero_le _) (Nat.zero_le _) rfl rfl q24 (okX16_refused hb) ?_
    rintro o σ25 ⟨y26, rfl, hb⟩
    refine ⟨_, rfl, ?_⟩
    refine g_i2l C dX16_taken_17 ?_
    exact g_lreturn C hΓ (Nat.zero_le _) (Nat.zero_le _) dX16_taken_18 ⟨_, rfl, hb⟩
theorem okX16_taken {v0 : Nat} {v1 : Int32} {v2 : Int32} {v3 : Int32} {σ : St} {Q : Int64 → St → Prop} (hb : wX16_taken v0 v1 v2 v3 σ Q) : hM yX16_taken cX16_taken 5 ((Option.some FieldType.long)) 1 21 0 0 [.ref v0, .int v1, .int v2, .int v3] σ (oJ Q) :=
  hM_of (by decide) (Nat.le_of_ble_eq_true rfl) (fun Γ hΓ C => kwX16_taken_0 C hΓ _ _ _ _ _ hb)
def wX16_copy_162 (Q : Int32 → St → Prop) (r162 : Nat → Int32 → Int32 → Nat → Int32 → St → Prop) (v0 : Nat) (v4 : Int32) (v5 : Int32) (v7 : Nat) (v8 : Int32) (σ : St) : Prop :=
  ((v5 ≤ v8 → zK σ v0 = 17 ∧ wX16_done v0 1 σ (fun y3 σ2 => Q y3 σ2)) ∧ (¬ v5 ≤ v8 → zK σ v7 = 16 ∧ ∃ a5 : Nat, zFr σ 963 v7 = some a5 ∧ zK σ v0 = 17 ∧ ∃ a8 : Nat, zFr σ 1055 v0 = some a8 ∧ zK σ a8 = 20 ∧ vp_in v8 (zL σ a8) ∧ zK σ a5 = 20 ∧ vp_in (v4 + v8) (zL σ a5) ∧ r162 v0 v4 v5 v7 (v8 + 1) (uAi σ a5 (ix (v4 + v8)) (zAi σ a8 (ix v8)))))
def lX16_copy_162 (Q : Int32 → St → Prop) : Nat → Nat → Int32 → Int32 → Nat → Int32 → St → Prop
  | 0, _, _, _, _, _, _ => False
  | f + 1, v0, v4, v5, v7, v8, σ => wX16_copy_162 Q (lX16_copy_162 Q f) v0 v4 v5 v7 v8 σ
def wX16_copy_129 (Q : Int32 → St → Prop) (r129 : Nat → Int32 → Int32 → Int32 → Nat → Nat → Int32 → St → Prop) (v0 : Nat) (v2 : Int32) (v4 : Int32) (v5 : Int32) (v6 : Nat) (v7 : Nat) (v8 : Int32) (σ : St) : Prop :=
  ((v5 ≤ v8 → ∃ f, lX16_copy_162 Q f v0 v4 v5 v7 0 σ) ∧ (¬ v5 ≤ v8 → zK σ v0 = 17 ∧ ∃ a3 : Nat, zFr σ 1055 v0 = some a3 ∧ zK σ v6 = 16 ∧ ∃ a6 : Nat, zFr σ 963 v6 = some a6 ∧ zK σ a6 = 20 ∧ vp_in (v2 + v8) (zL σ a6) ∧ zK σ a3 = 20 ∧ vp_in v8 (zL σ a3) ∧ r129 v0 v2 v4 v5 v6 v7 (v8 + 1) (uAi σ a3 (ix v8) (zAi σ a6 (ix (v2 + v8))))))
def lX16_copy_129 (Q : Int32 → St → Prop) : Nat → Nat → Int32 → Int32 → Int32 → Nat → Nat → Int32 → St → Prop
  | 0, _, _, _, _, _, _, _, _ => False
  | f + 1, v0, v2, v4, v5, v6, v7, v8, σ => wX16_copy_129 Q (lX16_copy_129 Q f) v0 v2 v4 v5 v6 v7 v8 σ
def wX16_copy_105 (Q : Int32 → St → Prop) (v0 : Nat) (σ : St) : Prop :=
  zK σ v0 = 17 ∧ wX16_refused v0 2 σ (fun y3 σ2 => Q y3 σ2)
def wX16_copy_59 (Q : Int32 → St → Prop) (v0 : Nat) (σ : St) : Prop :=
  zK σ v0 = 17 ∧ wX16_refused v0 7 σ (fun y3 σ2 => Q y3 σ2)
def wX16_copy_19 (Q : Int32 → St → Prop) (v0 : Nat) (σ : St) : Prop :=
  zK σ v0 = 17 ∧ wX16_refused v0 1 σ (fun y3 σ2 => Q y3 σ2)
def wX16_copy_0 (Q : Int32 → St → Prop) (v0 : Nat) (v1 : Int32) (v2 : Int32) (v3 : Int32) (v4 : Int32) (v5 : Int32) (σ : St) : Prop :=
  zK σ v0 = 17 ∧ wX16_isShelf v1 (uFi σ 1024 v0 0) (fun y3 σ2 => ((y3 = 0 → wX16_copy_19 Q v0 σ2) ∧ (¬ y3 = 0 → wX16_isShelf v3 σ2 (fun y5 σ4 => ((¬ y5 = 0 → zK σ4 v0 = 17 ∧ ∃ a7 : Nat, zFr σ4 1052 v0 = some a7 ∧ zK σ4 a7 = 31 ∧ vp_in v1 (zL σ4 a7) ∧ ∃ a11 : Nat, zAr σ4 a7 (ix v1) = some a11 ∧ vp_in v3 (zL σ4 a7) ∧ ∃ a14 : Nat, zAr σ4 a7 (ix v3) = some a14 ∧ zK σ4 a11 = 16 ∧ ((¬ (zFi σ4 960 a11) = (3 : Int32) → wX16_copy_59 Q v0 σ4) ∧ ((zFi σ4 960 a11) = (3 : Int32) → zK σ4 a14 = 16 ∧ (((zFi σ4 960 a14) = (3 : Int32) → ((v2 < 0 → wX16_copy_105 Q v0 σ4) ∧ (¬ v2 < 0 → ((v4 < 0 → wX16_copy_105 Q v0 σ4) ∧ (¬ v4 < 0 → ((v5 < 0 → wX16_copy_105 Q v0 σ4) ∧ (¬ v5 < 0 → ((((zFi σ4 962 a11) - v2) < v5 → wX16_copy_105 Q v0 σ4) ∧ (¬ ((zFi σ4 962 a11) - v2) < v5 → ((v5 ≤ ((zFi σ4 962 a14) - v4) → wX16_act v0 5 v3 0 σ4 (fun y19 σ18 => zK σ18 y19 = 13 ∧ ∃ a21 : Nat, zFr σ18 772 y19 = some a21 ∧ zK σ18 a21 = 16 ∧ wX15_become a21 a14 σ18 (fun σ24 => ∃ f, lX16_copy_129 Q f v0 v2 v4 v5 a11 a14 0 σ24))) ∧ (¬ v5 ≤ ((zFi σ4 962 a14) - v4) → wX16_copy_105 Q v0 σ4))))))))))) ∧ (¬ (zFi σ4 960 a14) = (3 : Int32) → wX16_copy_59 Q v0 σ4))))) ∧ (y5 = 0 → wX16_copy_19 Q v0 σ4))))))
def wX16_copy (v0 : Nat) (v1 : Int32) (v2 : Int32) (v3 : Int32) (v4 : Int32) (v5 : Int32) (σ : St) (Q : Int32 → St → Prop) : Prop := wX16_copy_0 Q v0 v1 v2 v3 v4 v5 σ
set_option maxRecDepth 20000 in
theorem kwX16_copy_162 {Γ : hCT} (C : hC Γ RX16 cX16_copy ((Option.some FieldType.int)) "copy" 1 25) {Q : Int32 → St → Prop} (hΓ : Γ.2.2.2.2.2.2.2.2.2.2.2 = (9, 0, 0, oI Q)) {r162 : Nat → Int32 → Int32 → Nat → Int32 → St → Prop} (h162 : ∀ (v0 : Nat) (v4 : Int32) (v5 : Int32) (v7 : Nat) (v8 : Int32) (σ : St), r162 v0 v4 v5 v7 v8 σ → hW Γ 0 0 162 [(0, .ref v0), (4, .int v4), (5, .int v5), (7, .ref v7), (8, .int v8)] [] σ) (v0 : Nat) (v4 : Int32) (v5 : Int32) (v7 : Nat) (v8 : Int32) (σ : St) (hb : wX16_copy_162 Q r162 v0 v4 v5 v7 v8 σ) : hW Γ 0 0 162 [(0, .ref v0), (4, .int v4), (5, .int v5), (7, .ref v7), (8, .int v8)] [] σ := by
  unfold wX16_copy_162 at hb
  refine g_iload C dX16_copy_162 4 rfl ?_
  refine g_iload C dX16_copy_164 2 rfl ?_
  refine g_icmp_ge (tgt := 193) C dX16_copy_166 (by decide) (fun c => ?_) (fun c => ?_)
  ·
    replace hb := hb.1 (c)
    refine g_aload_n (some v0) C dX16_copy_193 0 rfl ?_
    refine g_iconst (v := 1) C dX16_copy_194 (by decide) ?_
    obtain ⟨q1, hb⟩ := hb
    refine g_invV (ci := 16) [.int 1] [] zy_X16_done wd_1013 wd_1015 wd_40 ⟨_, _, rfl⟩ (by decide) C dX16_copy_195 (by first | exact Nat.le_of_ble_eq_true rfl | simp [cat_rf]) (by first | exact Nat.le_of_ble_eq_true rfl | simp [cat_rf]) (by first | exact Nat.le_of_ble_eq_true rfl | simp [cat_rf]) (Nat.zero_le _) (Nat.zero_le _) rfl rfl q1 (okX16_done hb) ?_
    rintro o σ2 ⟨y3, rfl, hb⟩
    refine ⟨_, rfl, ?_⟩
    exact g_ireturn C hΓ (Nat.zero_le _) (Nat.zero_le _) dX16_copy_198 ⟨_, rfl, hb⟩
  ·
    replace hb := hb.2 (c)
    refine g_aload (some v7) C dX16_copy_169 3 rfl ?_
    obtain ⟨q4, hb⟩ := hb
    obtain ⟨a5, q6, hb⟩ := hb
    refine g_getR (some a5) C fl_RX16_377 dX16_copy_171 q4 rfl rfl q6 ?_
    refine g_iload C dX16_copy_174 1 rfl ?_
    refine g_iload C dX16_copy_176 4 rfl ?_
    refine g_iadd C dX16_copy_178 ?_
    refine g_aload_n (some v0) C dX16_copy_179 0 rfl ?_
    obtain ⟨q7, hb⟩ := hb
    obtain ⟨a8, q9, hb⟩ := hb
    refine g_getR (some a8) C fl_RX16_200 dX16_copy_180 q7 rfl rfl q9 ?_
    refine g_iload C dX16_copy_183 4 rfl ?_
    obtain ⟨q10, hb⟩ := hb
    obtain ⟨q11, hb⟩ := hb
    refine g_ialdx (zAi σ a8 (ix v8)) C dX16_copy_185 q10 q11 rfl ?_
    obtain ⟨q12, hb⟩ := hb
    obtain ⟨q13, hb⟩ := hb
    refine g_iast C dX16_copy_186 q12 q13 ?_
    refine g_iinc (v := v8 + 1) (lv' := [(8, .int (v8 + 1)), (0, .ref v0), (4, .int v4), (5, .int v5), (7, .ref v7)]) C dX16_copy_187 4 rfl rfl (hnl_of hΓ (by decide)) (by first | rfl | simp [cat_rf]) ?_
    refine g_goto (tgt := 162) C dX16_copy_190 (by decide) ?_
    refine g_sub (lv' := [(0, .ref v0), (4, .int v4), (5, .int v5), (7, .ref v7), (8, .int (v8 + 1))]) [1, 2, 3, 4, 0] rfl ?_
    exact h162 _ _ _ _ _ _ hb
theorem klX16_copy_162 {Γ : hCT} (C : hC Γ RX16 cX16_copy ((Option.some FieldType.int)) "copy" 1 25) {Q : Int32 → St → Prop} (hΓ : Γ.2.2.2.2.2.2.2.2.2.2.2 = (9, 0, 0, oI Q)) (f : Nat) (v0 : Nat) (v4 : Int32) (v5 : Int32) (v7 : Nat) (v8 : Int32) (σ : St) (hb : lX16_copy_162 Q f v0 v4 v5 v7 v8 σ) : hW Γ 0 0 162 [(0, .ref v0), (4, .int v4), (5, .int v5), (7, .ref v7), (8, .int v8)] [] σ := by
  induction f generalizing v0 v4 v5 v7 v8 σ with
  | zero => exact hb.elim
  | succ f ih => exact kwX16_copy_162 C hΓ  (fun v0 v4 v5 v7 v8 σ h => ih v0 v4 v5 v7 v8 σ h) _ _ _ _ _ _ hb
set_option maxRecDepth 20000 in
theorem kwX16_copy_129 {Γ : hCT} (C : hC Γ RX16 cX16_copy ((Option.some FieldType.int)) "copy" 1 25) {Q : Int32 → St → Prop} (hΓ : Γ.2.2.2.2.2.2.2.2.2.2.2 = (9, 0, 0, oI Q)) {r129 : Nat → Int32 → Int32 → Int32 → Nat → Nat → Int32 → St → Prop} (h129 : ∀ (v0 : Nat) (v2 : Int32) (v4 : Int32) (v5 : Int32) (v6 : Nat) (v7 : Nat) (v8 : Int32) (σ : St), r129 v0 v2 v4 v5 v6 v7 v8 σ → hW Γ 0 0 129 [(0, .ref v0), (2, .int v2), (4, .int v4), (5, .int v5), (6, .ref v6), (7, .ref v7), (8, .int v8)] [] σ) (v0 : Nat) (v2 : Int32) (v4 : Int32) (v5 : Int32) (v6 : Nat) (v7 : Nat) (v8 : Int32) (σ : St) (hb : wX16_copy_129 Q r129 v0 v2 v4 v5 v6 v7 v8 σ) : hW Γ 0 0 129 [(0, .ref v0), (2, .int v2), (4, .int v4), (5, .int v5), (6, .ref v6), (7, .ref v7), (8, .int v8)] [] σ := by
  unfold wX16_copy_129 at hb
  refine g_iload C dX16_copy_129 6 rfl ?_
  refine g_iload C dX16_copy_131 3 rfl ?_
  refine g_icmp_ge (tgt := 159) C dX16_copy_133 (by decide) (fun c => ?_) (fun c => ?_)
  ·
    replace hb := hb.1 (c)
    refine g_iconst (v := 0) C dX16_copy_159 (by decide) ?_
    refine g_istore (lv' := [(8, .int 0), (0, .ref v0), (2, .int v2), (4, .int v4), (5, .int v5), (6, .ref v6), (7, .ref v7)]) C dX16_copy_160 (hnl_of hΓ (by decide)) (by first | rfl | simp [cat_rf]) ?_
    refine g_sub (lv' := [(0, .ref v0), (4, .int v4), (5, .int v5), (7, .ref v7), (8, .int 0)]) [1, 3, 4, 6, 0] rfl ?_
    obtain ⟨f1, hb⟩ := hb
    exact klX16_copy_162 C hΓ  f1 _ _ _ _ _ _ hb
  ·
    replace hb := hb.2 (c)
    refine g_aload_n (some v0) C dX16_copy_136 0 rfl ?_
    obtain ⟨q2, hb⟩ := hb
    obtain ⟨a3, q4, hb⟩ := hb
    refine g_getR (some a3) C fl_RX16_200 dX16_copy_137 q2 rfl rfl q4 ?_
    refine g_iload C dX16_copy_140 6 rfl ?_
    refine g_aload (some v6) C dX16_copy_142 4 rfl ?_
    obtain ⟨q5, hb⟩ := hb
    obtain ⟨a6, q7, hb⟩ := hb
    refine g_getR (some a6) C fl_RX16_377 dX16_copy_144 q5 rfl rfl q7 ?_
    refine g_iload_n C dX16_copy_147 1 rfl ?_
    refine g_iload C dX16_copy_148 6 rfl ?_
    refine g_iadd C dX16_copy_150 ?_
    obtain ⟨q8, hb⟩ := hb
    obtain ⟨q9, hb⟩ := hb
    refine g_ialdx (zAi σ a6 (ix (v2 + v8))) C dX16_copy_151 q8 q9 rfl ?_
    obtain ⟨q10, hb⟩ := hb
    obtain ⟨q11, hb⟩ := hb
    refine g_iast C dX16_copy_152 q10 q11 ?_
    refine g_iinc (v := v8 + 1) (lv' := [(8, .int (v8 + 1)), (0, .ref v0), (2, .int v2), (4, .int v4), (5, .int v5), (6, .ref v6), (7, .ref v7)]) C dX16_copy_153 6 rfl rfl (hnl_of hΓ (by decide)) (by first | rfl | simp [cat_rf]) ?_
    refine g_goto (tgt := 129) C dX16_copy_156 (by decide) ?_
    refine g_sub (lv' := [(0, .ref v0), (2, .int v2), (4, .int v4), (5, .int v5), (6, .ref v6), (7, .ref v7), (8, .int (v8 + 1))]) [1, 2, 3, 4, 5, 6, 0] rfl ?_
    exact h129 _ _ _ _ _ _ _ _ hb
theorem klX16_copy_129 {Γ : hCT} (C : hC Γ RX16 cX16_copy ((Option.some FieldType.int)) "copy" 1 25) {Q : Int32 → St → Prop} (hΓ : Γ.2.2.2.2.2.2.2.2.2.2.2 = (9, 0, 0, oI Q)) (f : Nat) (v0 : Nat) (v2 : Int32) (v4 : Int32) (v5 : Int32) (v6 : Nat) (v7 : Nat) (v8 : Int32) (σ : St) (hb : lX16_copy_129 Q f v0 v2 v4 v5 v6 v7 v8 σ) : hW Γ 0 0 129 [(0, .ref v0), (2, .int v2), (4, .int v4), (5, .int v5), (6, .ref v6), (7, .ref v7), (8, .int v8)] [] σ := by
  induction f generalizing v0 v2 v4 v5 v6 v7 v8 σ with
  | zero => exact hb.elim
  | succ f ih => exact kwX16_copy_129 C hΓ  (fun v0 v2 v4 v5 v6 v7 v8 σ h => ih v0 v2 v4 v5 v6 v7 v8 σ h) _ _ _ _ _ _ _ _ hb
set_option maxRecDepth 20000 in
theorem kwX16_copy_105 {Γ : hCT} (C : hC Γ RX16 cX16_copy ((Option.some FieldType.int)) "copy" 1 25) {Q : Int32 → St → Prop} (hΓ : Γ.2.2.2.2.2.2.2.2.2.2.2 = (9, 0, 0, oI Q)) (v0 : Nat) (σ : St) (hb : wX16_copy_105 Q v0 σ) : hW Γ 0 0 105 [(0, .ref v0)] [] σ := by
  unfold wX16_copy_105 at hb
  refine g_aload_n (some v0) C dX16_copy_105 0 rfl ?_
  refine g_iconst (v := 2) C dX16_copy_106 (by decide) ?_
  obtain ⟨q1, hb⟩ := hb
  refine g_invV (ci := 16) [.int 2] [] zy_X16_refused wd_1005 wd_1007 wd_38 ⟨_, _, rfl⟩ (by decide) C dX16_copy_107 (by first | exact Nat.le_of_ble_eq_true rfl | simp [cat_rf]) (by first | exact Nat.le_of_ble_eq_true rfl | simp [cat_rf]) (by first | exact Nat.le_of_ble_eq_true rfl | simp [cat_rf]) (Nat.zero_le _) (Nat.zero_le _) rfl rfl q1 (okX16_refused hb) ?_
  rintro o σ2 ⟨y3, rfl, hb⟩
  refine ⟨_, rfl, ?_⟩
  exact g_ireturn C hΓ (Nat.zero_le _) (Nat.zero_le _) dX16_copy_110 ⟨_, rfl, hb⟩
set_option maxRecDepth 20000 in
theorem kwX16_copy_59 {Γ : hCT} (C : hC Γ RX16 cX16_copy ((Option.some FieldType.int)) "copy" 1 25) {Q : Int32 → St → Prop} (hΓ : Γ.2.2.2.2.2.2.2.2.2.2.2 = (9, 0, 0, oI Q)) (v0 : Nat) (σ : St) (hb : wX16_copy_59 Q v0 σ) : hW Γ 0 0 59 [(0, .ref v0)] [] σ := by
  unfold wX16_copy_59 at hb
  refine g_aload_n (some v0) C dX16_copy_59 0 rfl ?_
  refine g_bipush (v := 7) C dX16_copy_60 (by decide) ?_
  obtain ⟨q1, hb⟩ := hb
  refine g_invV (ci := 16) [.int 7] [] zy_X16_refused wd_1005 wd_1007 wd_38 ⟨_, _, rfl⟩ (by decide) C dX16_copy_62 (by first | exact Nat.le_of_ble_eq_true rfl | simp [cat_rf]) (by first | exact Nat.le_of_ble_eq_true rfl | simp [cat_rf]) (by first | exact Nat.le_of_ble_eq_true rfl | simp [cat_rf]) (Nat.zero_le _) (Nat.zero_le _) rfl rfl q1 (okX16_refused hb) ?_
  rintro o σ2 ⟨y3, rfl, hb⟩
  refine ⟨_, rfl, ?_⟩
  exact g_ireturn C hΓ (Nat.zero_le _) (Nat.zero_le _) dX16_copy_65 ⟨_, rfl, hb⟩
set_option maxRecDepth 20000 in
theorem kwX16_copy_19 {Γ : hCT} (C : hC Γ RX16 cX16_copy ((Option.some FieldType.int)) "copy" 1 25) {Q : Int32 → St → Prop} (hΓ : Γ.2.2.2.2.2.2.2.2.2.2.2 = (9, 0, 0, oI Q)) (v0 : Nat) (σ : St) (hb : wX16_copy_19 Q v0 σ) : hW Γ 0 0 19 [(0, .ref v0)] [] σ := by
  unfold wX16_copy_19 at hb
  refine g_aload_n (some v0) C dX16_copy_19 0 rfl ?_
  refine g_iconst (v := 1) C dX16_copy_20 (by decide) ?_
  obtain ⟨q1, hb⟩ := hb
  refine g_invV (ci := 16) [.int 1] [] zy_X16_refused wd_1005 wd_1007 wd_38 ⟨_, _, rfl⟩ (by decide) C dX16_copy_21 (by first | exact Nat.le_of_ble_eq_true rfl | simp [cat_rf]) (by first | exact Nat.le_of_ble_eq_true rfl | simp [cat_rf]) (by first | exact Nat.le_of_ble_eq_true rfl | simp [cat_rf]) (Nat.zero_le _) (Nat.zero_le _) rfl rfl q1 (okX16_refused hb) ?_
  rintro o σ2 ⟨y3, rfl, hb⟩
  refine ⟨_, rfl, ?_⟩
  exact g_ireturn C hΓ (Nat.zero_le _) (Nat.zero_le _) dX16_copy_24 ⟨_, rfl, hb⟩
set_option maxRecDepth 20000 in
theorem kwX16_copy_0 {Γ : hCT} (C : hC Γ RX16 cX16_copy ((Option.some FieldType.int)) "copy" 1 25) {Q : Int32 → St → Prop} (hΓ : Γ.2.2.2.2.2.2.2.2.2.2.2 = (9, 0, 0, oI Q)) (v0 : Nat) (v1 : Int32) (v2 : Int32) (v3 : Int32) (v4 : Int32) (v5 : Int32) (σ : St) (hb : wX16_copy_0 Q v0 v1 v2 v3 v4 v5 σ) : hW Γ 0 0 0 [(0, .ref v0), (1, .int v1), (2, .int v2), (3, .int v3), (4, .int v4), (5, .int v5)] [] σ := by
  unfold wX16_copy_0 at hb
  refine g_aload_n (some v0) C dX16_copy_0 0 rfl ?_
  refine g_iconst (v := 0) C dX16_copy_1 (by decide) ?_
  obtain ⟨q1, hb⟩ := hb
  refine g_putI C fl_RX16_1 dX16_copy_2 q1 rfl rfl rfl rfl ?_
  refine g_iload_n C dX16_copy_5 1 rfl ?_
  refine g_invS [.int v1] [] zy_X16_isShelf wd_1578 wd_1579 C dX16_copy_6 (by first | exact Nat.le_of_ble_eq_true rfl | simp [cat_rf]) (by first | exact Nat.le_of_ble_eq_true rfl | simp [cat_rf]) (by first | exact Nat.le_of_ble_eq_true rfl | simp [cat_rf]) (Nat.zero_le _) (Nat.zero_le _) rfl rfl  (okX16_isShelf hb) ?_
  rintro o σ2 ⟨y3, rfl, hb⟩
  refine ⟨_, rfl, ?_⟩
  refine g_if_eq (tgt := 19) C dX16_copy_9 (by decide) (fun c => ?_) (fun c => ?_)
  ·
    replace hb := hb.1 (c)
    refine g_sub (lv' := [(0, .ref v0)]) [0] rfl ?_
    exact kwX16_copy_19 C hΓ  _ _ hb
  ·
    replace hb := hb.2 (c)
    refine g_iload_n C dX16_copy_12 3 rfl ?_
    refine g_invS [.int v3] [] zy_X16_isShelf wd_1578 wd_1579 C dX16_copy_13 (by first | exact Nat.le_of_ble_eq_true rfl | simp [cat_rf]) (by first | exact Nat.le_of_ble_eq_true rfl | simp [cat_rf]) (by first | exact Nat.le_of_ble_eq_true rfl | simp [cat_rf]) (Nat.zero_le _) (Nat.zero_le _) rfl rfl  (okX16_isShelf hb) ?_
    rintro o σ4 ⟨y5, rfl, hb⟩
    refine ⟨_, rfl, ?_⟩
    refine g_if_ne (tgt := 25) C dX16_copy_16 (by decide) (fun c => ?_) (fun c => ?_)
    ·
      replace hb := hb.1 (c)
      refine g_aload_n (some v0) C dX16_copy_25 0 rfl ?_
      obtain ⟨q6, hb⟩ := hb
      obtain ⟨a7, q8, hb⟩ := hb
      refine g_getR (some a7) C fl_RX16_58 dX16_copy_26 q6 rfl rfl q8 ?_
      refine g_iload_n C dX16_copy_29 1 rfl ?_
      obtain ⟨q9, hb⟩ := hb
      obtain ⟨q10, hb⟩ := hb
      obtain ⟨a11, q12, hb⟩ := hb
      refine g_aald (some a11) el_31 C dX16_copy_30 q9 q10 q12 ?_
      refine g_astore (lv' := [(6, .ref a11), (0, .ref v0), (1, .int v1), (2, .int v2), (3, .int v3), (4, .int v4), (5, .int v5)]) (some a11) C dX16_copy_31 (hnl_of hΓ (by decide)) (by first | rfl | simp [cat_rf]) ?_
      refine g_aload_n (some v0) C dX16_copy_33 1 rfl ?_
      refine g_getR (some a7) C fl_RX16_58 dX16_copy_34 q6 rfl rfl q8 ?_
      refine g_iload_n C dX16_copy_37 4 rfl ?_
      obtain ⟨q13, hb⟩ := hb
      obtain ⟨a14, q15, hb⟩ := hb
      refine g_aald (some a14) el_31 C dX16_copy_38 q9 q13 q15 ?_
      refine g_astore (lv' := [(7, .ref a14), (6, .ref a11), (0, .ref v0), (1, .int v1), (2, .int v2), (3, .int v3), (4, .int v4), (5, .int v5)]) (some a14) C dX16_copy_39 (hnl_of hΓ (by decide)) (by first | rfl | simp [cat_rf]) ?_
      refine g_aload (some a11) C dX16_copy_41 1 rfl ?_
      obtain ⟨q16, hb⟩ := hb
      refine g_getIx (zFi σ4 960 a11) C fl_RX16_369 dX16_copy_43 q16 rfl rfl rfl ?_
      refine g_iconst (v := 3) C dX16_copy_46 (by decide) ?_
      refine g_icmp_ne (tgt := 59) C dX16_copy_47 (by decide) (fun c => ?_) (fun c => ?_)
      ·
        replace hb := hb.1 (c)
        refine g_sub (lv' := [(0, .ref v0)]) [2] rfl ?_
        exact kwX16_copy_59 C hΓ  _ _ hb
      ·
        replace hb := hb.2 (c)
        refine g_aload (some a14) C dX16_copy_50 0 rfl ?_
        obtain ⟨q17, hb⟩ := hb
        refine g_getIx (zFi σ4 960 a14) C fl_RX16_369 dX16_copy_52 q17 rfl rfl rfl ?_
        refine g_iconst (v := 3) C dX16_copy_55 (by decide) ?_
        refine g_icmp_eq (tgt := 66) C dX16_copy_56 (by decide) (fun c => ?_) (fun c => ?_)
        ·
          replace hb := hb.1 (c)
          refine g_iload_n C dX16_copy_66 4 rfl ?_
          refine g_if_lt (tgt := 105) C dX16_copy_67 (by decide) (fun c => ?_) (fun c => ?_)
          ·
            replace hb := hb.1 (c)
            refine g_sub (lv' := [(0, .ref v0)]) [2] rfl ?_
            exact kwX16_copy_105 C hΓ  _ _ hb
          ·
            replace hb := hb.2 (c)
            refine g_iload C dX16_copy_70 6 rfl ?_
            refine g_if_lt (tgt := 105) C dX16_copy_72 (by decide) (fun c => ?_) (fun c => ?_)
            ·
              replace hb := hb.1 (c)
              refine g_sub (lv' := [(0, .ref v0)]) [2] rfl ?_
              exact kwX16_copy_105 C hΓ  _ _ hb
            ·
              replace hb := hb.2 (c)
              refine g_iload C dX16_copy_75 7 rfl ?_
              refine g_if_lt (tgt := 105) C dX16_copy_77 (by decide) (fun c => ?_) (fun c => ?_)
              ·
                replace hb := hb.1 (c)
                refine g_sub (lv' := [(0, .ref v0)]) [2] rfl ?_
                exact kwX16_copy_105 C hΓ  _ _ hb
              ·
                replace hb := hb.2 (c)
                refine g_iload C dX16_copy_80 7 rfl ?_
                refine g_aload (some a11) C dX16_copy_82 1 rfl ?_
                refine g_getIx (zFi σ4 962 a11) C fl_RX16_374 dX16_copy_84 q16 rfl rfl rfl ?_
                refine g_iload_n C dX16_copy_87 4 rfl ?_
                refine g_isub C dX16_copy_88 ?_
                refine g_icmp_gt (tgt := 105) C dX16_copy_89 (by decide) (fun c => ?_) (fun c => ?_)
                ·
                  replace hb := hb.1 (c)
                  refine g_sub (lv' := [(0, .ref v0)]) [2] rfl ?_
                  exact kwX16_copy_105 C hΓ  _ _ hb
                ·
                  replace hb := hb.2 (c)
                  refine g_iload C dX16_copy_92 7 rfl ?_
                  refine g_aload (some a14) C dX16_copy_94 0 rfl ?_
                  refine g_getIx (zFi σ4 962 a14) C fl_RX16_374 dX16_copy_96 q17 rfl rfl rfl ?_
                  refine g_iload C dX16_copy_99 6 rfl ?_
                  refine g_isub C dX16_copy_101 ?_
                  refine g_icmp_le (tgt := 111) C dX16_copy_102 (by decide) (fun c => ?_) (fun c => ?_)
                  ·
                    replace hb := hb.1 (c)
                    refine g_aload_n (some v0) C dX16_copy_111 2 rfl ?_
                    refine g_iconst (v := 5) C dX16_copy_112 (by decide) ?_
                    refine g_iload_n C dX16_copy_113 5 rfl ?_
                    refine g_iconst (v := 0) C dX16_copy_114 (by decide) ?_
                    refine g_invV (ci := 16) [.int 5, .int v3, .int 0] [] zy_X16_act wd_1009 wd_1011 wd_39 ⟨_, _, rfl⟩ (by decide) C dX16_copy_115 (by first | exact Nat.le_of_ble_eq_true rfl | simp [cat_rf]) (by first | exact Nat.le_of_ble_eq_true rfl | simp [cat_rf]) (by first | exact Nat.le_of_ble_eq_true rfl | simp [cat_rf]) (Nat.zero_le _) (Nat.zero_le _) rfl rfl q6 (okX16_act hb) ?_
                    rintro o σ18 ⟨y19, rfl, hb⟩
                    refine ⟨_, rfl, ?_⟩
                    obtain ⟨q20, hb⟩ := hb
                    obtain ⟨a21, q22, hb⟩ := hb
                    refine g_getR (some a21) C fl_RX16_62 dX16_copy_118 q20 rfl rfl q22 ?_
                    refine g_aload (some a14) C dX16_copy_121 0 rfl ?_
                    obtain ⟨q23, hb⟩ := hb
                    refine g_invV (ci := 15) [.ref a14] [] zy_X15_become wd_997 wd_998 wd_999 ⟨_, _, rfl⟩ (by decide) C dX16_copy_123 (by first | exact Nat.le_of_ble_eq_true rfl | simp [cat_rf]) (by first | exact Nat.le_of_ble_eq_true rfl | simp [cat_rf]) (by first | exact Nat.le_of_ble_eq_true rfl | simp [cat_rf]) (Nat.zero_le _) (Nat.zero_le _) rfl rfl q23 (okX15_become hb) ?_
                    rintro o σ24 ⟨rfl, hb⟩
                    refine ⟨_, rfl, ?_⟩
                    refine g_iconst (v := 0) C dX16_copy_126 (by decide) ?_
                    refine g_istore (lv' := [(8, .int 0), (7, .ref a14), (6, .ref a11), (0, .ref v0), (1, .int v1), (2, .int v2), (3, .int v3), (4, .int v4), (5, .int v5)]) C dX16_copy_127 (hnl_of hΓ (by decide)) (by first | rfl | simp [cat_rf]) ?_
                    refine g_sub (lv' := [(0, .ref v0), (2, .int v2), (4, .int v4), (5, .int v5), (6, .ref a11), (7, .ref a14), (8, .int 0)]) [3, 5, 7, 8, 2, 1, 0] rfl ?_
                    obtain ⟨f25, hb⟩ := hb
                    exact klX16_copy_129 C hΓ  f25 _ _ _ _ _ _ _ _ hb
                  ·
                    replace hb := hb.2 (c)
                    refine g_sub (lv' := [(0, .ref v0)]) [2] rfl ?_
                    exact kwX16_copy_105 C hΓ  _ _ hb
        ·
          replace hb := hb.2 (c)
          refine g_sub (lv' := [(0, .ref v0)]) [2] rfl ?_
          exact kwX16_copy_59 C hΓ  _ _ hb
    ·
      replace hb := hb.2 (c)
      refine g_sub (lv' := [(0, .ref v0)]) [0] rfl ?_
      exact kwX16_copy_19 C hΓ  _ _ hb
theorem okX16_copy {v0 : Nat} {v1 : Int32} {v2 : Int32} {v3 : Int32} {v4 : Int32} {v5 : Int32} {σ : St} {Q : Int32 → St → Prop} (hb : wX16_copy v0 v1 v2 v3 v4 v5 σ Q) : hM yX16_copy cX16_copy 9 ((Option.some FieldType.int)) 1 25 0 0 [.ref v0, .int v1, .int v2, .int v3, .int v4, .int v5] σ (oI Q) :=
  hM_of (by decide) (Nat.le_of_ble_eq_true rfl) (fun Γ hΓ C => kwX16_copy_0 C hΓ _ _ _ _ _ _ _ hb)
def wX16_size_0 (Q : Int32 → St → Prop) (v0 : Nat) (v1 : Int32) (σ : St) : Prop :=
  zK σ v0 = 17 ∧ ((v1 = 0 → Q (zFi (uFi σ 1024 v0 0) 1028 v0) (uFi σ 1024 v0 0)) ∧ (v1 = 1 → Q (zFi (uFi σ 1024 v0 0) 1029 v0) (uFi σ 1024 v0 0)) ∧ (v1 = 2 → Q (zFi (uFi σ 1024 v0 0) 1030 v0) (uFi σ 1024 v0 0)) ∧ (v1 = 3 → ∃ a5 : Nat, zFr σ 1050 v0 = some a5 ∧ zK σ a5 = 15 ∧ Q (zFi (uFi σ 1024 v0 0) 896 a5) (uFi σ 1024 v0 0)) ∧ (v1 = 4 → Q (zFi (uFi σ 1024 v0 0) 1027 v0) (uFi σ 1024 v0 0)) ∧ (¬ v1 = 0 → ¬ v1 = 1 → ¬ v1 = 2 → ¬ v1 = 3 → ¬ v1 = 4 → Q (-1) (uFi σ 1024 v0 0)))
def wX16_size (v0 : Nat) (v1 : Int32) (σ : St) (Q : Int32 → St → Prop) : Prop := wX16_size_0 Q v0 v1 σ
set_option maxRecDepth 20000 in
theorem kwX16_size_0 {Γ : hCT} (C : hC Γ RX16 cX16_size ((Option.some FieldType.int)) "size" 0 0) {Q : Int32 → St → Prop} (hΓ : Γ.2.2.2.2.2.2.2.2.2.2.2 = (2, 0, 0, oI Q)) (v0 : Nat) (v1 : Int32) (σ : St) (hb : wX16_size_0 Q v0 v1 σ) : hW Γ 0 0 0 [(0, .ref v0), (1, .int v1)] [] σ := by
  unfold wX16_size_0 at hb
  refine g_aload_n (some v0) C dX16_size_0 0 rfl ?_
  refine g_iconst (v := 0) C dX16_size_1 (by decide) ?_
  obtain ⟨q1, hb⟩ := hb
  refine g_putI C fl_RX16_1 dX16_size_2 q1 rfl rfl rfl rfl ?_
  refine g_iload_n C dX16_size_5 1 rfl ?_
  by_cases c2 : v1 = 0
  ·
    replace hb := hb.1 c2
    refine g_tabIn (tgt := 40) (off := 34) C dX16_size_6 (by rw [c2]; decide) (by rw [c2]; decide) (by rw [c2]; rfl) (by decide) ?_
    refine g_aload_n (some v0) C dX16_size_40 0 rfl ?_
    refine g_getIx (zFi (uFi σ 1024 v0 0) 1028 v0) C fl_RX16_28 dX16_size_41 (by rw [zK_uFi]; exact q1) rfl rfl rfl ?_
    exact g_ireturn C hΓ (Nat.zero_le _) (Nat.zero_le _) dX16_size_44 ⟨_, rfl, hb⟩
  ·
    by_cases c3 : v1 = 1
    ·
      replace hb := hb.2.1 c3
      refine g_tabIn (tgt := 45) (off := 39) C dX16_size_6 (by rw [c3]; decide) (by rw [c3]; decide) (by rw [c3]; rfl) (by decide) ?_
      refine g_aload_n (some v0) C dX16_size_45 0 rfl ?_
      refine g_getIx (zFi (uFi σ 1024 v0 0) 1029 v0) C fl_RX16_40 dX16_size_46 (by rw [zK_uFi]; exact q1) rfl rfl rfl ?_
      exact g_ireturn C hΓ (Nat.zero_le _) (Nat.zero_le _) dX16_size_49 ⟨_, rfl, hb⟩
    ·
      by_cases c4 : v1 = 2
      ·
        replace hb := hb.2.2.1 c4
        refine g_tabIn (tgt := 50) (off := 44) C dX16_size_6 (by rw [c4]; decide) (by rw [c4]; decide) (by rw [c4]; rfl) (by decide) ?_
        refine g_aload_n (some v0) C dX16_size_50 0 rfl ?_
        refine g_getIx (zFi (uFi σ 1024 v0 0) 1030 v0) C fl_RX16_55 dX16_size_51 (by rw [zK_uFi]; exact q1) rfl rfl rfl ?_
        exact g_ireturn C hΓ (Nat.zero_le _) (Nat.zero_le _) dX16_size_54 ⟨_, rfl, hb⟩
      ·
        by_cases c8 : v1 = 3
        ·
          replace hb := hb.2.2.2.1 c8
          refine g_tabIn (tgt := 55) (off := 49) C dX16_size_6 (by rw [c8]; decide) (by rw [c8]; decide) (by rw [c8]; rfl) (by decide) ?_
          refine g_aload_n (some v0) C dX16_size_55 0 rfl ?_
          obtain ⟨a5, q6, hb⟩ := hb
          refine g_getR (some a5) C fl_RX16_31 dX16_size_56 (by rw [zK_uFi]; exact q1) rfl rfl (by rw [zFr_uFi]; exact q6) ?_
          obtain ⟨q7, hb⟩ := hb
          refine g_getIx (zFi (uFi σ 1024 v0 0) 896 a5) C fl_RX16_35 dX16_size_59 (by rw [zK_uFi]; exact q7) rfl rfl rfl ?_
          exact g_ireturn C hΓ (Nat.zero_le _) (Nat.zero_le _) dX16_size_62 ⟨_, rfl, hb⟩
        ·
          by_cases c9 : v1 = 4
          ·
            replace hb := hb.2.2.2.2.1 c9
            refine g_tabIn (tgt := 63) (off := 57) C dX16_size_6 (by rw [c9]; decide) (by rw [c9]; decide) (by rw [c9]; rfl) (by decide) ?_
            refine g_aload_n (some v0) C dX16_size_63 0 rfl ?_
            refine g_getIx (zFi (uFi σ 1024 v0 0) 1027 v0) C fl_RX16_10 dX16_size_64 (by rw [zK_uFi]; exact q1) rfl rfl rfl ?_
            exact g_ireturn C hΓ (Nat.zero_le _) (Nat.zero_le _) dX16_size_67 ⟨_, rfl, hb⟩
          ·
            replace hb := hb.2.2.2.2.2 c2 c3 c4 c8 c9
            have hz : Int32.toInt v1 < 0 ∨ 4 < Int32.toInt v1 := by
              have h_c2 := i32_ne c2
              have h_c3 := i32_ne c3
              have h_c4 := i32_ne c4
              have h_c8 := i32_ne c8
              have h_c9 := i32_ne c9
              rw [show Int32.toInt 0 = 0 from rfl] at h_c2; rw [show Int32.toInt 1 = 1 from rfl] at h_c3; rw [show Int32.toInt 2 = 2 from rfl] at h_c4; rw [show Int32.toInt 3 = 3 from rfl] at h_c8; rw [show Int32.toInt 4 = 4 from rfl] at h_c9
              omega
            refine g_tabOut (tgt := 68) C dX16_size_6 hz (by decide) ?_
            refine g_iconst (v := (-1)) C dX16_size_68 (by decide) ?_
            exact g_ireturn C hΓ (Nat.zero_le _) (Nat.zero_le _) dX16_size_69 ⟨_, rfl, hb⟩
theorem okX16_size {v0 : Nat} {v1 : Int32} {σ : St} {Q : Int32 → St → Prop} (hb : wX16_size v0 v1 σ Q) : hM yX16_size cX16_size 2 ((Option.some FieldType.int)) 0 0 0 0 [.ref v0, .int v1] σ (oI Q) :=
  hM_of (by decide) (Nat.le_of_ble_eq_true rfl) (fun Γ hΓ C => kwX16_size_0 C hΓ _ _ _ hb)
def wX16_status_0 (Q : Int32 → St → Prop) (v0 : Nat) (σ : St) : Prop :=
  zK σ v0 = 17 ∧ Q (zFi (uFi σ 1024 v0 0) 1025 v0) (uFi σ 1024 v0 0)
def wX16_status (v0 : Nat) (σ : St) (Q : Int32 → St → Prop) : Prop := wX16_status_0 Q v0 σ
set_option maxRecDepth 20000 in
theorem kwX16_status_0 {Γ : hCT} (C : hC Γ RX16 cX16_status ((Option.some FieldType.int)) "status" 0 0) {Q : Int32 → St → Prop} (hΓ : Γ.2.2.2.2.2.2.2.2.2.2.2 = (1, 0, 0, oI Q)) (v0 : Nat) (σ : St) (hb : wX16_status_0 Q v0 σ) : hW Γ 0 0 0 [(0, .ref v0)] [] σ := by
  unfold wX16_status_0 at hb
  refine g_aload_n (some v0) C dX16_status_0 0 rfl ?_
  refine g_iconst (v := 0) C dX16_status_1 (by decide) ?_
  obtain ⟨q1, hb⟩ := hb
  refine g_putI C fl_RX16_1 dX16_status_2 q1 rfl rfl rfl rfl ?_
  refine g_aload_n (some v0) C dX16_status_5 0 rfl ?_
  refine g_getIx (zFi (uFi σ 1024 v0 0) 1025 v0) C fl_RX16_7 dX16_status_6 (by rw [zK_uFi]; exact q1) rfl rfl rfl ?_
  exact g_ireturn C hΓ (Nat.zero_le _) (Nat.zero_le _) dX16_status_9 ⟨_, rfl, hb⟩
theorem okX16_status {v0 : Nat} {σ : St} {Q : Int32 → St → Prop} (hb : wX16_status v0 σ Q) : hM yX16_status cX16_status 1 ((Option.some FieldType.int)) 0 0 0 0 [.ref v0] σ (oI Q) :=
  hM_of (by decide) (Nat.le_of_ble_eq_true rfl) (fun Γ hΓ C => kwX16_status_0 C hΓ _ _ hb)
