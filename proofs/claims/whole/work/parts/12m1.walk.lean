def wX16_weighs__0 (Q : St → Prop) (v0 : Nat) (v1 : Int32) (v2 : Int64) (v4 : Int32) (v5 : UInt64) (σ : St) : Prop :=
  zK σ v0 = 15 ∧ ∃ a2 : Nat, zFr σ 902 v0 = some a2 ∧ zK σ a2 = 21 ∧ vp_in v1 (zL σ a2) ∧ ∃ a6 : Nat, zFr σ 900 v0 = some a6 ∧ zK σ a6 = 20 ∧ vp_in v1 (zL σ a6) ∧ ∃ a10 : Nat, zFr σ 903 v0 = some a10 ∧ zK σ a10 = 22 ∧ vp_in v1 (zL σ a10) ∧ FP.dIsNaN (zAd σ a10 (ix v1)) = false ∧ FP.dIsNaN v5 = false ∧ Q (uAd (uAi (uAj σ a2 (ix v1) ((zAj σ a2 (ix v1)) + v2)) a6 (ix v1) (if v4 < (zAi σ a6 (ix v1)) then v4 else (zAi σ a6 (ix v1)))) a10 (ix v1) (pkD true (zAd σ a10 (ix v1)) v5))
def wX16_weighs_ (v0 : Nat) (v1 : Int32) (v2 : Int64) (v4 : Int32) (v5 : UInt64) (σ : St) (Q : St → Prop) : Prop := wX16_weighs__0 Q v0 v1 v2 v4 v5 σ
set_option maxRecDepth 20000 in
theorem kwX16_weighs__0 {Γ : hCT} (C : hC Γ RX16 cX16_weighs_ ((Option.none : Option Jvm.ClassFile.FieldType)) "weighs" 1 40) {Q : St → Prop} (hΓ : Γ.2.2.2.2.2.2.2.2.2.2.2 = (7, 0, 0, oV Q)) (v0 : Nat) (v1 : Int32) (v2 : Int64) (v4 : Int32) (v5 : UInt64) (σ : St) (hb : wX16_weighs__0 Q v0 v1 v2 v4 v5 σ) : hW Γ 0 0 0 [(0, .ref v0), (1, .int v1), (2, .long v2), (4, .int v4), (5, .double v5)] [] σ := by
  unfold wX16_weighs__0 at hb
  refine g_aload_n (some v0) C dX16_weighs__0 0 rfl ?_
  obtain ⟨q1, hb⟩ := hb
  obtain ⟨a2, q3, hb⟩ := hb
  refine g_getR (some a2) C fl_RX16_242 dX16_weighs__1 q1 rfl rfl q3 ?_
  refine g_iload_n C dX16_weighs__4 1 rfl ?_
  refine g_dup2 C dX16_weighs__5 rfl rfl ?_
  obtain ⟨q4, hb⟩ := hb
  obtain ⟨q5, hb⟩ := hb
  refine g_laldx (zAj σ a2 (ix v1)) C dX16_weighs__6 q4 q5 rfl ?_
  refine g_lload_n C dX16_weighs__7 2 rfl ?_
  refine g_ladd C dX16_weighs__8 ?_
  refine g_last C dX16_weighs__9 q4 q5 ?_
  refine g_aload_n (some v0) C dX16_weighs__10 0 rfl ?_
  obtain ⟨a6, q7, hb⟩ := hb
  refine g_getR (some a6) C fl_RX16_245 dX16_weighs__11 (by rw [zK_uAj]; exact q1) rfl rfl (by rw [zFr_uAj]; exact q7) ?_
  refine g_iload_n C dX16_weighs__14 1 rfl ?_
  refine g_aload_n (some v0) C dX16_weighs__15 0 rfl ?_
  refine g_getR (some a6) C fl_RX16_245 dX16_weighs__16 (by rw [zK_uAj]; exact q1) rfl rfl (by rw [zFr_uAj]; exact q7) ?_
  refine g_iload_n C dX16_weighs__19 1 rfl ?_
  obtain ⟨q8, hb⟩ := hb
  obtain ⟨q9, hb⟩ := hb
  refine g_ialdx (zAi σ a6 (ix v1)) C dX16_weighs__20 (by rw [zK_uAj]; exact q8) (by rw [zL_uAj]; exact q9) (by rw [zAi_uAj]) ?_
  refine g_iload C dX16_weighs__21 3 rfl ?_
  refine g_mmin wd_1429 wd_401 wd_87 wd_402 C (by first | exact Nat.le_of_ble_eq_true rfl | simp [cat_rf]) (by first | exact Nat.le_of_ble_eq_true rfl | simp [cat_rf]) (Nat.zero_le _) (Nat.zero_le _) dX16_weighs__23 ?_
  refine g_iast C dX16_weighs__26 (by rw [zK_uAj]; exact q8) (by rw [zL_uAj]; exact q9) ?_
  refine g_aload_n (some v0) C dX16_weighs__27 0 rfl ?_
  obtain ⟨a10, q11, hb⟩ := hb
  refine g_getR (some a10) C fl_RX16_249 dX16_weighs__28 (by rw [zK_uAi, zK_uAj]; exact q1) rfl rfl (by rw [zFr_uAi, zFr_uAj]; exact q11) ?_
  refine g_iload_n C dX16_weighs__31 1 rfl ?_
  refine g_aload_n (some v0) C dX16_weighs__32 0 rfl ?_
  refine g_getR (some a10) C fl_RX16_249 dX16_weighs__33 (by rw [zK_uAi, zK_uAj]; exact q1) rfl rfl (by rw [zFr_uAi, zFr_uAj]; exact q11) ?_
  refine g_iload_n C dX16_weighs__36 1 rfl ?_
  obtain ⟨q12, hb⟩ := hb
  obtain ⟨q13, hb⟩ := hb
  refine g_daldx (zAd σ a10 (ix v1)) C dX16_weighs__37 (by rw [zK_uAi, zK_uAj]; exact q12) (by rw [zL_uAi, zL_uAj]; exact q13) (by rw [zAd_uAi, zAd_uAj]) ?_
  refine g_dload C dX16_weighs__38 4 rfl ?_
  obtain ⟨q14, q15, hb⟩ := hb
  refine g_mmaxD wd_1430 wd_1431 wd_87 wd_1432 C (by first | exact Nat.le_of_ble_eq_true rfl | simp [cat_rf]) (by first | exact Nat.le_of_ble_eq_true rfl | simp [cat_rf]) (Nat.zero_le _) (Nat.zero_le _) dX16_weighs__40 q14 q15 ?_
  refine g_dast C dX16_weighs__43 (by rw [zK_uAi, zK_uAj]; exact q12) (by rw [zL_uAi, zL_uAj]; exact q13) ?_
  exact g_vreturn C hΓ (Nat.zero_le _) (Nat.zero_le _) dX16_weighs__44 ⟨rfl, hb⟩
theorem okX16_weighs_ {v0 : Nat} {v1 : Int32} {v2 : Int64} {v4 : Int32} {v5 : UInt64} {σ : St} {Q : St → Prop} (hb : wX16_weighs_ v0 v1 v2 v4 v5 σ Q) : hM yX16_weighs_ cX16_weighs_ 7 ((Option.none : Option Jvm.ClassFile.FieldType)) 1 40 0 0 [.ref v0, .int v1, .long v2, .int v4, .double v5] σ (oV Q) :=
  hM_of (by decide) (Nat.le_of_ble_eq_true rfl) (fun Γ hΓ C => kwX16_weighs__0 C hΓ _ _ _ _ _ _ hb)
def wX16_bases_56 (Q : St → Prop) (E : St → Prop) (r2 : Nat → Nat → Int32 → Int32 → St → Prop) (v0 : Nat) (v1 : Nat) (v2 : Int32) (v3 : Int32) (v4 : Int32) (σ : St) : Prop :=
  zK σ v0 = 17 ∧ wX16_pilesAll v0 v1 v4 (uFi σ 1054 v0 0) (fun σ2 => zK σ2 v0 = 17 ∧ wX16_piles v0 ((1 : Int64) <<< (Int32.toInt64 v3 &&& 63)) σ2 (fun σ4 => zK σ4 v0 = 17 ∧ wX16_lays v0 v1 v4 σ4 (fun y7 σ6 => zK σ6 v0 = 17 ∧ ∃ a9 : Nat, zFr σ6 1034 v0 = some a9 ∧ zK σ6 a9 = 20 ∧ vp_in v3 (zL σ6 a9) ∧ ∃ a13 : Nat, zFr σ6 1035 v0 = some a13 ∧ zK σ6 a13 = 20 ∧ vp_in v3 (zL σ6 a13) ∧ ∃ a17 : Nat, zFr σ6 1037 v0 = some a17 ∧ zK σ6 a17 = 22 ∧ vp_in v3 (zL σ6 a17) ∧ wX16_weighs_ v1 v4 (Int32.toInt64 (zAi σ6 a9 (ix v3))) (zAi σ6 a13 (ix v3)) (zAd σ6 a17 (ix v3)) σ6 (fun σ21 => r2 v0 v1 v2 (v3 + 1) σ21)) E))
def wX16_bases_2 (Q : St → Prop) (E : St → Prop) (r2 : Nat → Nat → Int32 → Int32 → St → Prop) (v0 : Nat) (v1 : Nat) (v2 : Int32) (v3 : Int32) (σ : St) : Prop :=
  zK σ v0 = 17 ∧ (((zFi σ 1029 v0) ≤ v3 → Q σ) ∧ (¬ (zFi σ 1029 v0) ≤ v3 → ∃ a2 : Nat, zFr σ 1032 v0 = some a2 ∧ zK σ a2 = 20 ∧ vp_in v3 (zL σ a2) ∧ (((zAi σ a2 (ix v3)) = v2 → ∃ a6 : Nat, zFr σ 1033 v0 = some a6 ∧ zK σ v1 = 15 ∧ wX14_find v1 a6 (4 * v3) σ (fun y10 σ9 => ((¬ y10 = ((-1) : Int32) → wX16_bases_56 Q E r2 v0 v1 v2 v3 y10 σ9) ∧ (y10 = ((-1) : Int32) → zK σ9 v0 = 17 ∧ ∃ a12 : Nat, zFr σ9 1033 v0 = some a12 ∧ wX16_adds v0 v1 a12 (4 * v3) σ9 (fun y15 σ14 => wX16_bases_56 Q E r2 v0 v1 v2 v3 y15 σ14) E)))) ∧ (¬ (zAi σ a2 (ix v3)) = v2 → r2 v0 v1 v2 (v3 + 1) σ))))
def lX16_bases_2 (Q : St → Prop) (E : St → Prop) : Nat → Nat → Nat → Int32 → Int32 → St → Prop
  | 0, _, _, _, _, _ => False
  | f + 1, v0, v1, v2, v3, σ => wX16_bases_2 Q E (lX16_bases_2 Q E f) v0 v1 v2 v3 σ
def wX16_bases_0 (Q : St → Prop) (E : St → Prop) (v0 : Nat) (v1 : Nat) (v2 : Int32) (σ : St) : Prop :=
  ∃ f, lX16_bases_2 Q E f v0 v1 v2 0 σ
def wX16_bases (v0 : Nat) (v1 : Nat) (v2 : Int32) (σ : St) (Q : St → Prop) (E : St → Prop) : Prop := wX16_bases_0 Q E v0 v1 v2 σ
set_option maxRecDepth 20000 in
theorem kwX16_bases_56 {Γ : hCT} (C : hC Γ RX16 cX16_bases ((Option.none : Option Jvm.ClassFile.FieldType)) "bases" 2 66) {Q : St → Prop} {E : St → Prop} (hΓ : Γ.2.2.2.2.2.2.2.2.2.2.2 = (6, 0, 0, oT (oV Q) E)) (hne : hNE Γ) {r2 : Nat → Nat → Int32 → Int32 → St → Prop} (h2 : ∀ (v0 : Nat) (v1 : Nat) (v2 : Int32) (v3 : Int32) (σ : St), r2 v0 v1 v2 v3 σ → hW Γ 0 0 2 [(0, .ref v0), (1, .ref v1), (2, .int v2), (3, .int v3)] [] σ) (v0 : Nat) (v1 : Nat) (v2 : Int32) (v3 : Int32) (v4 : Int32) (σ : St) (hb : wX16_bases_56 Q E r2 v0 v1 v2 v3 v4 σ) : hW Γ 0 0 56 [(0, .ref v0), (1, .ref v1), (2, .int v2), (3, .int v3), (4, .int v4)] [] σ := by
  unfold wX16_bases_56 at hb
  refine g_aload_n (some v0) C dX16_bases_56 0 rfl ?_
  refine g_iconst (v := 0) C dX16_bases_57 (by decide) ?_
  obtain ⟨q1, hb⟩ := hb
  refine g_putI C fl_RX16_223 dX16_bases_58 q1 rfl rfl rfl rfl ?_
  refine g_aload_n (some v0) C dX16_bases_61 0 rfl ?_
  refine g_aload_n (some v1) C dX16_bases_62 1 rfl ?_
  refine g_iload C dX16_bases_63 4 rfl ?_
  refine g_invV (ci := 16) [.ref v1, .int v4] [] zy_X16_pilesAll wd_1414 wd_1416 wd_50 ⟨_, _, rfl⟩ (by decide) C dX16_bases_65 (by first | exact Nat.le_of_ble_eq_true rfl | simp [cat_rf]) (by first | exact Nat.le_of_ble_eq_true rfl | simp [cat_rf]) (by first | exact Nat.le_of_ble_eq_true rfl | simp [cat_rf]) (Nat.zero_le _) (Nat.zero_le _) rfl rfl (by rw [zK_uFi]; exact q1) (okX16_pilesAll hb) ?_
  rintro o σ2 ⟨rfl, hb⟩
  refine ⟨_, rfl, ?_⟩
  refine g_aload_n (some v0) C dX16_bases_68 0 rfl ?_
  refine g_lconst (v := 1) C dX16_bases_69 (by decide) ?_
  refine g_iload_n C dX16_bases_70 3 rfl ?_
  refine g_lshl C dX16_bases_71 ?_
  obtain ⟨q3, hb⟩ := hb
  refine g_invV (ci := 16) [.long ((1 : Int64) <<< (Int32.toInt64 v3 &&& 63))] [] zy_X16_piles wd_1418 wd_1420 wd_51 ⟨_, _, rfl⟩ (by decide) C dX16_bases_72 (by first | exact Nat.le_of_ble_eq_true rfl | simp [cat_rf]) (by first | exact Nat.le_of_ble_eq_true rfl | simp [cat_rf]) (by first | exact Nat.le_of_ble_eq_true rfl | simp [cat_rf]) (Nat.zero_le _) (Nat.zero_le _) rfl rfl q3 (okX16_piles hb) ?_
  rintro o σ4 ⟨rfl, hb⟩
  refine ⟨_, rfl, ?_⟩
  refine g_aload_n (some v0) C dX16_bases_75 0 rfl ?_
  refine g_aload_n (some v1) C dX16_bases_76 1 rfl ?_
  refine g_iload C dX16_bases_77 4 rfl ?_
  obtain ⟨q5, hb⟩ := hb
  refine g_invXV (ci := 16) [.ref v1, .int v4] [] zy_X16_lays wd_1422 wd_1424 wd_52 ⟨_, _, rfl⟩ (by decide) C dX16_bases_79 (by first | exact Nat.le_of_ble_eq_true rfl | simp [cat_rf]) (by first | exact Nat.le_of_ble_eq_true rfl | simp [cat_rf]) (by first | exact Nat.le_of_ble_eq_true rfl | simp [cat_rf]) (Nat.zero_le _) (Nat.zero_le _) rfl rfl q5 hΓ hne (okX16_lays hb) ?_
  rintro o σ6 ((⟨y7, rfl, hb⟩) | ⟨x, rfl, hx, hb⟩)
  case inr => exact Or.inr ⟨x, rfl, g_thrown hΓ hx hb⟩
  refine Or.inl ⟨_, rfl, ?_⟩
  refine g_istore (lv' := [(5, .int y7), (0, .ref v0), (1, .ref v1), (2, .int v2), (3, .int v3), (4, .int v4)]) C dX16_bases_82 (hnl_of hΓ (by decide)) (by first | rfl | simp [cat_rf]) ?_
  refine g_aload_n (some v1) C dX16_bases_84 2 rfl ?_
  refine g_iload C dX16_bases_85 5 rfl ?_
  refine g_aload_n (some v0) C dX16_bases_87 1 rfl ?_
  obtain ⟨q8, hb⟩ := hb
  obtain ⟨a9, q10, hb⟩ := hb
  refine g_getR (some a9) C fl_RX16_97 dX16_bases_88 q8 rfl rfl q10 ?_
  refine g_iload_n C dX16_bases_91 4 rfl ?_
  obtain ⟨q11, hb⟩ := hb
  obtain ⟨q12, hb⟩ := hb
  refine g_ialdx (zAi σ6 a9 (ix v3)) C dX16_bases_92 q11 q12 rfl ?_
  refine g_i2l C dX16_bases_93 ?_
  refine g_aload_n (some v0) C dX16_bases_94 1 rfl ?_
  obtain ⟨a13, q14, hb⟩ := hb
  refine g_getR (some a13) C fl_RX16_100 dX16_bases_95 q8 rfl rfl q14 ?_
  refine g_iload_n C dX16_bases_98 4 rfl ?_
  obtain ⟨q15, hb⟩ := hb
  obtain ⟨q16, hb⟩ := hb
  refine g_ialdx (zAi σ6 a13 (ix v3)) C dX16_bases_99 q15 q16 rfl ?_
  refine g_aload_n (some v0) C dX16_bases_100 1 rfl ?_
  obtain ⟨a17, q18, hb⟩ := hb
  refine g_getR (some a17) C fl_RX16_103 dX16_bases_101 q8 rfl rfl q18 ?_
  refine g_iload_n C dX16_bases_104 4 rfl ?_
  obtain ⟨q19, hb⟩ := hb
  obtain ⟨q20, hb⟩ := hb
  refine g_daldx (zAd σ6 a17 (ix v3)) C dX16_bases_105 q19 q20 rfl ?_
  refine g_invS [.ref v1, .int v4, .long (Int32.toInt64 (zAi σ6 a9 (ix v3))), .int (zAi σ6 a13 (ix v3)), .double (zAd σ6 a17 (ix v3))] [] zy_X16_weighs_ wd_1426 wd_1427 C dX16_bases_106 (by first | exact Nat.le_of_ble_eq_true rfl | simp [cat_rf]) (by first | exact Nat.le_of_ble_eq_true rfl | simp [cat_rf]) (by first | exact Nat.le_of_ble_eq_true rfl | simp [cat_rf]) (Nat.zero_le _) (Nat.zero_le _) rfl rfl  (okX16_weighs_ hb) ?_
  rintro o σ21 ⟨rfl, hb⟩
  refine ⟨_, rfl, ?_⟩
  refine g_iinc (v := v3 + 1) (lv' := [(3, .int (v3 + 1)), (5, .int y7), (0, .ref v0), (1, .ref v1), (2, .int v2), (4, .int v4)]) C dX16_bases_109 4 rfl rfl (hnl_of hΓ (by decide)) (by first | rfl | simp [cat_rf]) ?_
  refine g_goto (tgt := 2) C dX16_bases_112 (by decide) ?_
  refine g_sub (lv' := [(0, .ref v0), (1, .ref v1), (2, .int v2), (3, .int (v3 + 1))]) [2, 3, 4, 0] rfl ?_
  exact h2 _ _ _ _ _ hb
set_option maxRecDepth 20000 in
theorem kwX16_bases_2 {Γ : hCT} (C : hC Γ RX16 cX16_bases ((Option.none : Option Jvm.ClassFile.FieldType)) "bases" 2 66) {Q : St → Prop} {E : St → Prop} (hΓ : Γ.2.2.2.2.2.2.2.2.2.2.2 = (6, 0, 0, oT (oV Q) E)) (hne : hNE Γ) {r2 : Nat → Nat → Int32 → Int32 → St → Prop} (h2 : ∀ (v0 : Nat) (v1 : Nat) (v2 : Int32) (v3 : Int32) (σ : St), r2 v0 v1 v2 v3 σ → hW Γ 0 0 2 [(0, .ref v0), (1, .ref v1), (2, .int v2), (3, .int v3)] [] σ) (v0 : Nat) (v1 : Nat) (v2 : Int32) (v3 : Int32) (σ : St) (hb : wX16_bases_2 Q E r2 v0 v1 v2 v3 σ) : hW Γ 0 0 2 [(0, .ref v0), (1, .ref v1), (2, .int v2), (3, .int v3)] [] σ := by
  unfold wX16_bases_2 at hb
  refine g_iload_n C dX16_bases_2 3 rfl ?_
  refine g_aload_n (some v0) C dX16_bases_3 0 rfl ?_
  obtain ⟨q1, hb⟩ := hb
  refine g_getIx (zFi σ 1029 v0) C fl_RX16_40 dX16_bases_4 q1 rfl rfl rfl ?_
  refine g_icmp_ge (tgt := 115) C dX16_bases_7 (by decide) (fun c => ?_) (fun c => ?_)
  ·
    replace hb := hb.1 (c)
    exact g_vreturn C hΓ (Nat.zero_le _) (Nat.zero_le _) dX16_bases_115 (Or.inl ⟨rfl, hb⟩)
  ·
    replace hb := hb.2 (c)
    refine g_aload_n (some v0) C dX16_bases_10 0 rfl ?_
    obtain ⟨a2, q3, hb⟩ := hb
    refine g_getR (some a2) C fl_RX16_91 dX16_bases_11 q1 rfl rfl q3 ?_
    refine g_iload_n C dX16_bases_14 3 rfl ?_
    obtain ⟨q4, hb⟩ := hb
    obtain ⟨q5, hb⟩ := hb
    refine g_ialdx (zAi σ a2 (ix v3)) C dX16_bases_15 q4 q5 rfl ?_
    refine g_iload_n C dX16_bases_16 2 rfl ?_
    refine g_icmp_eq (tgt := 23) C dX16_bases_17 (by decide) (fun c => ?_) (fun c => ?_)
    ·
      replace hb := hb.1 (c)
      refine g_aload_n (some v1) C dX16_bases_23 1 rfl ?_
      refine g_aload_n (some v0) C dX16_bases_24 0 rfl ?_
      obtain ⟨a6, q7, hb⟩ := hb
      refine g_getR (some a6) C fl_RX16_94 dX16_bases_25 q1 rfl rfl q7 ?_
      refine g_iconst (v := 4) C dX16_bases_28 (by decide) ?_
      refine g_iload_n C dX16_bases_29 3 rfl ?_
      refine g_imul C dX16_bases_30 ?_
      obtain ⟨q8, hb⟩ := hb
      refine g_invV (ci := 14) [.ref a6, .int (4 * v3)] [] zy_X14_find wd_1405 wd_1406 wd_1407 ⟨_, _, rfl⟩ (by decide) C dX16_bases_31 (by first | exact Nat.le_of_ble_eq_true rfl | simp [cat_rf]) (by first | exact Nat.le_of_ble_eq_true rfl | simp [cat_rf]) (by first | exact Nat.le_of_ble_eq_true rfl | simp [cat_rf]) (Nat.zero_le _) (Nat.zero_le _) rfl rfl q8 (okX14_find hb) ?_
      rintro o σ9 ⟨y10, rfl, hb⟩
      refine ⟨_, rfl, ?_⟩
      refine g_istore (lv' := [(4, .int y10), (0, .ref v0), (1, .ref v1), (2, .int v2), (3, .int v3)]) C dX16_bases_34 (hnl_of hΓ (by decide)) (by first | rfl | simp [cat_rf]) ?_
      refine g_iload C dX16_bases_36 0 rfl ?_
      refine g_iconst (v := (-1)) C dX16_bases_38 (by decide) ?_
      refine g_icmp_ne (tgt := 56) C dX16_bases_39 (by decide) (fun c => ?_) (fun c => ?_)
      ·
        replace hb := hb.1 (c)
        refine g_sub (lv' := [(0, .ref v0), (1, .ref v1), (2, .int v2), (3, .int v3), (4, .int y10)]) [1, 2, 3, 4, 0] rfl ?_
        exact kwX16_bases_56 C hΓ hne h2 _ _ _ _ _ _ hb
      ·
        replace hb := hb.2 (c)
        refine g_aload_n (some v0) C dX16_bases_42 1 rfl ?_
        refine g_aload_n (some v1) C dX16_bases_43 2 rfl ?_
        refine g_aload_n (some v0) C dX16_bases_44 1 rfl ?_
        obtain ⟨q11, hb⟩ := hb
        obtain ⟨a12, q13, hb⟩ := hb
        refine g_getR (some a12) C fl_RX16_94 dX16_bases_45 q11 rfl rfl q13 ?_
        refine g_iconst (v := 4) C dX16_bases_48 (by decide) ?_
        refine g_iload_n C dX16_bases_49 4 rfl ?_
        refine g_imul C dX16_bases_50 ?_
        refine g_invXV (ci := 16) [.ref v1, .ref a12, .int (4 * v3)] [] zy_X16_adds wd_1409 wd_1411 wd_49 ⟨_, _, rfl⟩ (by decide) C dX16_bases_51 (by first | exact Nat.le_of_ble_eq_true rfl | simp [cat_rf]) (by first | exact Nat.le_of_ble_eq_true rfl | simp [cat_rf]) (by first | exact Nat.le_of_ble_eq_true rfl | simp [cat_rf]) (Nat.zero_le _) (Nat.zero_le _) rfl rfl q11 hΓ hne (okX16_adds hb) ?_
        rintro o σ14 ((⟨y15, rfl, hb⟩) | ⟨x, rfl, hx, hb⟩)
        case inr => exact Or.inr ⟨x, rfl, g_thrown hΓ hx hb⟩
        refine Or.inl ⟨_, rfl, ?_⟩
        refine g_istore (lv' := [(4, .int y15), (0, .ref v0), (1, .ref v1), (2, .int v2), (3, .int v3)]) C dX16_bases_54 (hnl_of hΓ (by decide)) (by first | rfl | simp [cat_rf]) ?_
        refine g_sub (lv' := [(0, .ref v0), (1, .ref v1), (2, .int v2), (3, .int v3), (4, .int y15)]) [1, 2, 3, 4, 0] rfl ?_
        exact kwX16_bases_56 C hΓ hne h2 _ _ _ _ _ _ hb
    ·
      replace hb := hb.2 (c)
      refine g_goto (tgt := 109) C dX16_bases_20 (by decide) ?_
      refine g_iinc (v := v3 + 1) (lv' := [(3, .int (v3 + 1)), (0, .ref v0), (1, .ref v1), (2, .int v2)]) C dX16_bases_109 3 rfl rfl (hnl_of hΓ (by decide)) (by first | rfl | simp [cat_rf]) ?_
      refine g_goto (tgt := 2) C dX16_bases_112 (by decide) ?_
      refine g_sub (lv' := [(0, .ref v0), (1, .ref v1), (2, .int v2), (3, .int (v3 + 1))]) [1, 2, 3, 0] rfl ?_
      exact h2 _ _ _ _ _ hb
theorem klX16_bases_2 {Γ : hCT} (C : hC Γ RX16 cX16_bases ((Option.none : Option Jvm.ClassFile.FieldType)) "bases" 2 66) {Q : St → Prop} {E : St → Prop} (hΓ : Γ.2.2.2.2.2.2.2.2.2.2.2 = (6, 0, 0, oT (oV Q) E)) (hne : hNE Γ) (f : Nat) (v0 : Nat) (v1 : Nat) (v2 : Int32) (v3 : Int32) (σ : St) (hb : lX16_bases_2 Q E f v0 v1 v2 v3 σ) : hW Γ 0 0 2 [(0, .ref v0), (1, .ref v1), (2, .int v2), (3, .int v3)] [] σ := by
  induction f generalizing v0 v1 v2 v3 σ with
  | zero => exact hb.elim
  | succ f ih => exact kwX16_bases_2 C hΓ hne  (fun v0 v1 v2 v3 σ h => ih v0 v1 v2 v3 σ h) _ _ _ _ _ hb
set_option maxRecDepth 20000 in
theorem kwX16_bases_0 {Γ : hCT} (C : hC Γ RX16 cX16_bases ((Option.none : Option Jvm.ClassFile.FieldType)) "bases" 2 66) {Q : St → Prop} {E : St → Prop} (hΓ : Γ.2.2.2.2.2.2.2.2.2.2.2 = (6, 0, 0, oT (oV Q) E)) (hne : hNE Γ) (v0 : Nat) (v1 : Nat) (v2 : Int32) (σ : St) (hb : wX16_bases_0 Q E v0 v1 v2 σ) : hW Γ 0 0 0 [(0, .ref v0), (1, .ref v1), (2, .int v2)] [] σ := by
  unfold wX16_bases_0 at hb
  refine g_iconst (v := 0) C dX16_bases_0 (by decide) ?_
  refine g_istore_n (i := 3) (lv' := [(3, .int 0), (0, .ref v0), (1, .ref v1), (2, .int v2)]) C dX16_bases_1 rfl (hnl_of hΓ (by decide)) (by first | rfl | simp [cat_rf]) ?_
  refine g_sub (lv' := [(0, .ref v0), (1, .ref v1), (2, .int v2), (3, .int 0)]) [1, 2, 3, 0] rfl ?_
  obtain ⟨f1, hb⟩ := hb
  exact klX16_bases_2 C hΓ hne  f1 _ _ _ _ _ hb
theorem okX16_bases {v0 : Nat} {v1 : Nat} {v2 : Int32} {σ : St} {Q : St → Prop} {E : St → Prop} (hb : wX16_bases v0 v1 v2 σ Q E) : hM yX16_bases cX16_bases 6 ((Option.none : Option Jvm.ClassFile.FieldType)) 2 66 0 0 [.ref v0, .ref v1, .int v2] σ (oT (oV Q) E) :=
  hM_ofX (by decide) (Nat.le_of_ble_eq_true rfl) (fun Γ hΓ C hne => kwX16_bases_0 C hΓ hne _ _ _ _ hb)
def wX16_cuts_189 (Q : St → Prop) (E : St → Prop) (r172 : Nat → Nat → Nat → Int32 → St → Prop) (r189 : Nat → Nat → Nat → Int32 → Int32 → St → Prop) (v0 : Nat) (v2 : Nat) (v3 : Nat) (v4 : Int32) (v5 : Int32) (σ : St) : Prop :=
  zK σ v3 = 15 ∧ (((zFi σ 896 v3) ≤ v5 → zK σ v0 = 17 ∧ wX16_lays v0 v2 v4 σ (fun y4 σ3 => r172 v0 v2 v3 (v4 + 1) σ3) E) ∧ (¬ (zFi σ 896 v3) ≤ v5 → zK σ v0 = 17 ∧ ∃ a6 : Nat, zFr σ 1056 v0 = some a6 ∧ zK σ a6 = 20 ∧ vp_in v5 (zL σ a6) ∧ ((¬ (zAi σ a6 (ix v5)) = v4 → r189 v0 v2 v3 v4 (v5 + 1) σ) ∧ ((zAi σ a6 (ix v5)) = v4 → wX16_pilesAll v0 v3 v5 σ (fun σ10 => r189 v0 v2 v3 v4 (v5 + 1) σ10)))))
def lX16_cuts_189 (Q : St → Prop) (E : St → Prop) (r172 : Nat → Nat → Nat → Int32 → St → Prop) : Nat → Nat → Nat → Nat → Int32 → Int32 → St → Prop
  | 0, _, _, _, _, _, _ => False
  | f + 1, v0, v2, v3, v4, v5, σ => wX16_cuts_189 Q E r172 (lX16_cuts_189 Q E r172 f) v0 v2 v3 v4 v5 σ
def wX16_cuts_172 (Q : St → Prop) (E : St → Prop) (r172 : Nat → Nat → Nat → Int32 → St → Prop) (v0 : Nat) (v2 : Nat) (v3 : Nat) (v4 : Int32) (σ : St) : Prop :=
  zK σ v2 = 15 ∧ (((zFi σ 896 v2) ≤ v4 → Q σ) ∧ (¬ (zFi σ 896 v2) ≤ v4 → zK σ v0 = 17 ∧ ∃ f, lX16_cuts_189 Q E r172 f v0 v2 v3 v4 0 (uFi σ 1054 v0 0)))
def lX16_cuts_172 (Q : St → Prop) (E : St → Prop) : Nat → Nat → Nat → Nat → Int32 → St → Prop
  | 0, _, _, _, _, _ => False
  | f + 1, v0, v2, v3, v4, σ => wX16_cuts_172 Q E (lX16_cuts_172 Q E f) v0 v2 v3 v4 σ
def wX16_cuts_127 (Q : St → Prop) (E : St → Prop) (r3 : Nat → Int32 → Nat → Nat → Int32 → St → Prop) (v0 : Nat) (v1 : Int32) (v2 : Nat) (v3 : Nat) (v4 : Int32) (v5 : Int32) (σ : St) : Prop :=
  zK σ v0 = 17 ∧ ∃ a2 : Nat, zFr σ 1056 v0 = some a2 ∧ zK σ a2 = 20 ∧ vp_in v4 (zL σ a2) ∧ zK σ v3 = 15 ∧ ∃ a7 : Nat, zFr σ 902 v3 = some a7 ∧ zK σ a7 = 21 ∧ vp_in v4 (zL σ a7) ∧ ∃ a11 : Nat, zFr σ 900 v3 = some a11 ∧ zK σ a11 = 20 ∧ vp_in v4 (zL σ a11) ∧ ∃ a15 : Nat, zFr σ 903 v3 = some a15 ∧ zK σ a15 = 22 ∧ vp_in v4 (zL σ a15) ∧ wX16_weighs_ v2 v5 (zAj σ a7 (ix v4)) (zAi (uAi σ a2 (ix v4) v5) a11 (ix v4)) (zAd σ a15 (ix v4)) (uAi σ a2 (ix v4) v5) (fun σ19 => r3 v0 v1 v2 v3 (v4 + 1) σ19)
def wX16_cuts_89 (Q : St → Prop) (E : St → Prop) (r3 : Nat → Int32 → Nat → Nat → Int32 → St → Prop) (r15 : Nat → Int32 → Nat → Nat → Int32 → Int32 → St → Prop) (v0 : Nat) (v1 : Int32) (v2 : Nat) (v3 : Nat) (v4 : Int32) (v5 : Int32) (s4 : Int32) (s3 : Int32) (s2 : Nat) (s1 : Int32) (s0 : Nat) (σ : St) : Prop :=
  zK σ s2 = 20 ∧ vp_in (s3 + s4) (zL σ s2) ∧ zK σ s0 = 20 ∧ vp_in s1 (zL σ s0) ∧ r15 v0 v1 v2 v3 v4 (v5 + 1) (uAi σ s0 (ix s1) (zAi σ s2 (ix (s3 + s4))))
def wX16_cuts_15 (Q : St → Prop) (E : St → Prop) (r3 : Nat → Int32 → Nat → Nat → Int32 → St → Prop) (r15 : Nat → Int32 → Nat → Nat → Int32 → Int32 → St → Prop) (v0 : Nat) (v1 : Int32) (v2 : Nat) (v3 : Nat) (v4 : Int32) (v5 : Int32) (σ : St) : Prop :=
  zK σ v2 = 15 ∧ (((zFi σ 897 v2) ≤ v5 → zK σ v0 = 17 ∧ ∃ a3 : Nat, zFr σ 1055 v0 = some a3 ∧ wX14_find v2 a3 0 σ (fun y6 σ5 => ((¬ y6 = ((-1) : Int32) → wX16_cuts_127 Q E r3 v0 v1 v2 v3 v4 y6 σ5) ∧ (y6 = ((-1) : Int32) → zK σ5 v0 = 17 ∧ ∃ a8 : Nat, zFr σ5 1055 v0 = some a8 ∧ wX16_adds v0 v2 a8 0 σ5 (fun y11 σ10 => wX16_cuts_127 Q E r3 v0 v1 v2 v3 v4 y11 σ10) E)))) ∧ (¬ (zFi σ 897 v2) ≤ v5 → zK σ v0 = 17 ∧ ∃ a13 : Nat, zFr σ 1055 v0 = some a13 ∧ zK σ v3 = 15 ∧ ∃ a16 : Nat, zFr σ 898 v3 = some a16 ∧ ((¬ v5 = 0 → ((¬ v5 = (1 : Int32) → ((¬ v5 = (2 : Int32) → ∃ a18 : Nat, zFr σ 1046 v0 = some a18 ∧ zK σ a18 = 20 ∧ vp_in v1 (zL σ a18) ∧ wX16_cuts_89 Q E r3 r15 v0 v1 v2 v3 v4 v5 (zAi σ a18 (ix v1)) (6 * v4) a16 v5 a13 σ) ∧ (v5 = (2 : Int32) → ∃ a22 : Nat, zFr σ 1045 v0 = some a22 ∧ zK σ a22 = 20 ∧ vp_in v1 (zL σ a22) ∧ wX16_cuts_89 Q E r3 r15 v0 v1 v2 v3 v4 v5 (zAi σ a22 (ix v1)) (6 * v4) a16 v5 a13 σ))) ∧ (v5 = (1 : Int32) → ∃ a26 : Nat, zFr σ 1044 v0 = some a26 ∧ zK σ a26 = 20 ∧ vp_in v1 (zL σ a26) ∧ wX16_cuts_89 Q E r3 r15 v0 v1 v2 v3 v4 v5 (zAi σ a26 (ix v1)) (6 * v4) a16 v5 a13 σ))) ∧ (v5 = 0 → ∃ a30 : Nat, zFr σ 1043 v0 = some a30 ∧ zK σ a30 = 20 ∧ vp_in v1 (zL σ a30) ∧ wX16_cuts_89 Q E r3 r15 v0 v1 v2 v3 v4 v5 (zAi σ a30 (ix v1)) (6 * v4) a16 v5 a13 σ))))
def lX16_cuts_15 (Q : St → Prop) (E : St → Prop) (r3 : Nat → Int32 → Nat → Nat → Int32 → St → Prop) : Nat → Nat → Int32 → Nat → Nat → Int32 → Int32 → St → Prop
  | 0, _, _, _, _, _, _, _ => False
  | f + 1, v0, v1, v2, v3, v4, v5, σ => wX16_cuts_15 Q E r3 (lX16_cuts_15 Q E r3 f) v0 v1 v2 v3 v4 v5 σ
def wX16_cuts_3 (Q : St → Prop) (E : St → Prop) (r3 : Nat → Int32 → Nat → Nat → Int32 → St → Prop) (v0 : Nat) (v1 : Int32) (v2 : Nat) (v3 : Nat) (v4 : Int32) (σ : St) : Prop :=
  zK σ v3 = 15 ∧ (((zFi σ 896 v3) ≤ v4 → ∃ f, lX16_cuts_172 Q E f v0 v2 v3 0 σ) ∧ (¬ (zFi σ 896 v3) ≤ v4 → ∃ f, lX16_cuts_15 Q E r3 f v0 v1 v2 v3 v4 0 σ))
def lX16_cuts_3 (Q : St → Prop) (E : St → Prop) : Nat → Nat → Int32 → Nat → Nat → Int32 → St → Prop
  | 0, _, _, _, _, _, _ => False
  | f + 1, v0, v1, v2, v3, v4, σ => wX16_cuts_3 Q E (lX16_cuts_3 Q E f) v0 v1 v2 v3 v4 σ
def wX16_cuts_0 (Q : St → Prop) (E : St → Prop) (v0 : Nat) (v1 : Int32) (v2 : Nat) (v3 : Nat) (σ : St) : Prop :=
  ∃ f, lX16_cuts_3 Q E f v0 v1 v2 v3 0 σ
def wX16_cuts (v0 : Nat) (v1 : Int32) (v2 : Nat) (v3 : Nat) (σ : St) (Q : St → Prop) (E : St → Prop) : Prop := wX16_cuts_0 Q E v0 v1 v2 v3 σ
set_option maxRecDepth 20000 in
theorem kwX16_cuts_189 {Γ : hCT} (C : hC Γ RX16 cX16_cuts ((Option.none : Option Jvm.ClassFile.FieldType)) "cuts" 2 66) {Q : St → Prop} {E : St → Prop} (hΓ : Γ.2.2.2.2.2.2.2.2.2.2.2 = (6, 0, 0, oT (oV Q) E)) (hne : hNE Γ) {r172 : Nat → Nat → Nat → Int32 → St → Prop} (h172 : ∀ (v0 : Nat) (v2 : Nat) (v3 : Nat) (v4 : Int32) (σ : St), r172 v0 v2 v3 v4 σ → hW Γ 0 0 172 [(0, .ref v0), (2, .ref v2), (3, .ref v3), (4, .int v4)] [] σ) {r189 : Nat → Nat → Nat → Int32 → Int32 → St → Prop} (h189 : ∀ (v0 : Nat) (v2 : Nat) (v3 : Nat) (v4 : Int32) (v5 : Int32) (σ : St), r189 v0 v2 v3 v4 v5 σ → hW Γ 0 0 189 [(0, .ref v0), (2, .ref v2), (3, .ref v3), (4, .int v4), (5, .int v5)] [] σ) (v0 : Nat) (v2 : Nat) (v3 : Nat) (v4 : Int32) (v5 : Int32) (σ : St) (hb : wX16_cuts_189 Q E r172 r189 v0 v2 v3 v4 v5 σ) : hW Γ 0 0 189 [(0, .ref v0), (2, .ref v2), (3, .ref v3), (4, .int v4), (5, .int v5)] [] σ := by
  unfold wX16_cuts_189 at hb
  refine g_iload C dX16_cuts_189 4 rfl ?_
  refine g_aload_n (some v3) C dX16_cuts_191 2 rfl ?_
  obtain ⟨q1, hb⟩ := hb
  refine g_getIx (zFi σ 896 v3) C fl_RX16_35 dX16_cuts_192 q1 rfl rfl rfl ?_
  refine g_icmp_ge (tgt := 223) C dX16_cuts_195 (by decide) (fun c => ?_) (fun c => ?_)
  ·
    replace hb := hb.1 (c)
    refine g_aload_n (some v0) C dX16_cuts_223 0 rfl ?_
    refine g_aload_n (some v2) C dX16_cuts_224 1 rfl ?_
    refine g_iload C dX16_cuts_225 3 rfl ?_
    obtain ⟨q2, hb⟩ := hb
    refine g_invXV (ci := 16) [.ref v2, .int v4] [] zy_X16_lays wd_1422 wd_1424 wd_52 ⟨_, _, rfl⟩ (by decide) C dX16_cuts_227 (by first | exact Nat.le_of_ble_eq_true rfl | simp [cat_rf]) (by first | exact Nat.le_of_ble_eq_true rfl | simp [cat_rf]) (by first | exact Nat.le_of_ble_eq_true rfl | simp [cat_rf]) (Nat.zero_le _) (Nat.zero_le _) rfl rfl q2 hΓ hne (okX16_lays hb) ?_
    rintro o σ3 ((⟨y4, rfl, hb⟩) | ⟨x, rfl, hx, hb⟩)
    case inr => exact Or.inr ⟨x, rfl, g_thrown hΓ hx hb⟩
    refine Or.inl ⟨_, rfl, ?_⟩
    refine g_istore (lv' := [(5, .int y4), (0, .ref v0), (2, .ref v2), (3, .ref v3), (4, .int v4)]) C dX16_cuts_230 (hnl_of hΓ (by decide)) (by first | rfl | simp [cat_rf]) ?_
    refine g_iinc (v := v4 + 1) (lv' := [(4, .int (v4 + 1)), (5, .int y4), (0, .ref v0), (2, .ref v2), (3, .ref v3)]) C dX16_cuts_232 4 rfl rfl (hnl_of hΓ (by decide)) (by first | rfl | simp [cat_rf]) ?_
    refine g_goto (tgt := 172) C dX16_cuts_235 (by decide) ?_
    refine g_sub (lv' := [(0, .ref v0), (2, .ref v2), (3, .ref v3), (4, .int (v4 + 1))]) [2, 3, 4, 0] rfl ?_
    exact h172 _ _ _ _ _ hb
  ·
    replace hb := hb.2 (c)
    refine g_aload_n (some v0) C dX16_cuts_198 0 rfl ?_
    obtain ⟨q5, hb⟩ := hb
    obtain ⟨a6, q7, hb⟩ := hb
    refine g_getR (some a6) C fl_RX16_203 dX16_cuts_199 q5 rfl rfl q7 ?_
    refine g_iload C dX16_cuts_202 4 rfl ?_
    obtain ⟨q8, hb⟩ := hb
    obtain ⟨q9, hb⟩ := hb
    refine g_ialdx (zAi σ a6 (ix v5)) C dX16_cuts_204 q8 q9 rfl ?_
    refine g_iload C dX16_cuts_205 3 rfl ?_
    refine g_icmp_ne (tgt := 217) C dX16_cuts_207 (by decide) (fun c => ?_) (fun c => ?_)
    ·
      replace hb := hb.1 (c)
      refine g_iinc (v := v5 + 1) (lv' := [(5, .int (v5 + 1)), (0, .ref v0), (2, .ref v2), (3, .ref v3), (4, .int v4)]) C dX16_cuts_217 4 rfl rfl (hnl_of hΓ (by decide)) (by first | rfl | simp [cat_rf]) ?_
      refine g_goto (tgt := 189) C dX16_cuts_220 (by decide) ?_
      refine g_sub (lv' := [(0, .ref v0), (2, .ref v2), (3, .ref v3), (4, .int v4), (5, .int (v5 + 1))]) [1, 2, 3, 4, 0] rfl ?_
      exact h189 _ _ _ _ _ _ hb
    ·
      replace hb := hb.2 (c)
      refine g_aload_n (some v0) C dX16_cuts_210 0 rfl ?_
      refine g_aload_n (some v3) C dX16_cuts_211 2 rfl ?_
      refine g_iload C dX16_cuts_212 4 rfl ?_
      refine g_invV (ci := 16) [.ref v3, .int v5] [] zy_X16_pilesAll wd_1414 wd_1416 wd_50 ⟨_, _, rfl⟩ (by decide) C dX16_cuts_214 (by first | exact Nat.le_of_ble_eq_true rfl | simp [cat_rf]) (by first | exact Nat.le_of_ble_eq_true rfl | simp [cat_rf]) (by first | exact Nat.le_of_ble_eq_true rfl | simp [cat_rf]) (Nat.zero_le _) (Nat.zero_le _) rfl rfl q5 (okX16_pilesAll hb) ?_
      rintro o σ10 ⟨rfl, hb⟩
      refine ⟨_, rfl, ?_⟩
      refine g_iinc (v := v5 + 1) (lv' := [(5, .int (v5 + 1)), (0, .ref v0), (2, .ref v2), (3, .ref v3), (4, .int v4)]) C dX16_cuts_217 4 rfl rfl (hnl_of hΓ (by decide)) (by first | rfl | simp [cat_rf]) ?_
      refine g_goto (tgt := 189) C dX16_cuts_220 (by decide) ?_
      refine g_sub (lv' := [(0, .ref v0), (2, .ref v2), (3, .ref v3), (4, .int v4), (5, .int (v5 + 1))]) [1, 2, 3, 4, 0] rfl ?_
      exact h189 _ _ _ _ _ _ hb
theorem klX16_cuts_189 {Γ : hCT} (C : hC Γ RX16 cX16_cuts ((Option.none : Option Jvm.ClassFile.FieldType)) "cuts" 2 66) {Q : St → Prop} {E : St → Prop} (hΓ : Γ.2.2.2.2.2.2.2.2.2.2.2 = (6, 0, 0, oT (oV Q) E)) (hne : hNE Γ) {r172 : Nat → Nat → Nat → Int32 → St → Prop} (h172 : ∀ (v0 : Nat) (v2 : Nat) (v3 : Nat) (v4 : Int32) (σ : St), r172 v0 v2 v3 v4 σ → hW Γ 0 0 172 [(0, .ref v0), (2, .ref v2), (3, .ref v3), (4, .int v4)] [] σ) (f : Nat) (v0 : Nat) (v2 : Nat) (v3 : Nat) (v4 : Int32) (v5 : Int32) (σ : St) (hb : lX16_cuts_189 Q E r172 f v0 v2 v3 v4 v5 σ) : hW Γ 0 0 189 [(0, .ref v0), (2, .ref v2), (3, .ref v3), (4, .int v4), (5, .int v5)] [] σ := by
  induction f generalizing v0 v2 v3 v4 v5 σ with
  | zero => exact hb.elim
  | succ f ih => exact kwX16_cuts_189 C hΓ hne h172 (fun v0 v2 v3 v4 v5 σ h => ih v0 v2 v3 v4 v5 σ h) _ _ _ _ _ _ hb
set_option maxRecDepth 20000 in
theorem kwX16_cuts_172 {Γ : hCT} (C : hC Γ RX16 cX16_cuts ((Option.none : Option Jvm.ClassFile.FieldType)) "cuts" 2 66) {Q : St → Prop} {E : St → Prop} (hΓ : Γ.2.2.2.2.2.2.2.2.2.2.2 = (6, 0, 0, oT (oV Q) E)) (hne : hNE Γ) {r172 : Nat → Nat → Nat → Int32 → St → Prop} (h172 : ∀ (v0 : Nat) (v2 : Nat) (v3 : Nat) (v4 : Int32) (σ : St), r172 v0 v2 v3 v4 σ → hW Γ 0 0 172 [(0, .ref v0), (2, .ref v2), (3, .ref v3), (4, .int v4)] [] σ) (v0 : Nat) (v2 : Nat) (v3 : Nat) (v4 : Int32) (σ : St) (hb : wX16_cuts_172 Q E r172 v0 v2 v3 v4 σ) : hW Γ 0 0 172 [(0, .ref v0), (2, .ref v2), (3, .ref v3), (4, .int v4)] [] σ := by
  unfold wX16_cuts_172 at hb
  refine g_iload C dX16_cuts_172 3 rfl ?_
  refine g_aload_n (some v2) C dX16_cuts_174 1 rfl ?_
  obtain ⟨q1, hb⟩ := hb
  refine g_getIx (zFi σ 896 v2) C fl_RX16_35 dX16_cuts_175 q1 rfl rfl rfl ?_
  refine g_icmp_ge (tgt := 238) C dX16_cuts_178 (by decide) (fun c => ?_) (fun c => ?_)
  ·
    replace hb := hb.1 (c)
    exact g_vreturn C hΓ (Nat.zero_le _) (Nat.zero_le _) dX16_cuts_238 (Or.inl ⟨rfl, hb⟩)
  ·
    replace hb := hb.2 (c)
    refine g_aload_n (some v0) C dX16_cuts_181 0 rfl ?_
    refine g_iconst (v := 0) C dX16_cuts_182 (by decide) ?_
    obtain ⟨q2, hb⟩ := hb
    refine g_putI C fl_RX16_223 dX16_cuts_183 q2 rfl rfl rfl rfl ?_
    refine g_iconst (v := 0) C dX16_cuts_186 (by decide) ?_
    refine g_istore (lv' := [(5, .int 0), (0, .ref v0), (2, .ref v2), (3, .ref v3), (4, .int v4)]) C dX16_cuts_187 (hnl_of hΓ (by decide)) (by first | rfl | simp [cat_rf]) ?_
    refine g_sub (lv' := [(0, .ref v0), (2, .ref v2), (3, .ref v3), (4, .int v4), (5, .int 0)]) [1, 2, 3, 4, 0] rfl ?_
    obtain ⟨f3, hb⟩ := hb
    exact klX16_cuts_189 C hΓ hne h172 f3 _ _ _ _ _ _ hb
theorem klX16_cuts_172 {Γ : hCT} (C : hC Γ RX16 cX16_cuts ((Option.none : Option Jvm.ClassFile.FieldType)) "cuts" 2 66) {Q : St → Prop} {E : St → Prop} (hΓ : Γ.2.2.2.2.2.2.2.2.2.2.2 = (6, 0, 0, oT (oV Q) E)) (hne : hNE Γ) (f : Nat) (v0 : Nat) (v2 : Nat) (v3 : Nat) (v4 : Int32) (σ : St) (hb : lX16_cuts_172 Q E f v0 v2 v3 v4 σ) : hW Γ 0 0 172 [(0, .ref v0), (2, .ref v2), (3, .ref v3), (4, .int v4)] [] σ := by
  induction f generalizing v0 v2 v3 v4 σ with
  | zero => exact hb.elim
  | succ f ih => exact kwX16_cuts_172 C hΓ hne  (fun v0 v2 v3 v4 σ h => ih v0 v2 v3 v4 σ h) _ _ _ _ _ hb
set_option maxRecDepth 20000 in
theorem kwX16_cuts_127 {Γ : hCT} (C : hC Γ RX16 cX16_cuts ((Option.none : Option Jvm.ClassFile.FieldType)) "cuts" 2 66) {Q : St → Prop} {E : St → Prop} (hΓ : Γ.2.2.2.2.2.2.2.2.2.2.2 = (6, 0, 0, oT (oV Q) E)) (hne : hNE Γ) {r3 : Nat → Int32 → Nat → Nat → Int32 → St → Prop} (h3 : ∀ (v0 : Nat) (v1 : Int32) (v2 : Nat) (v3 : Nat) (v4 : Int32) (σ : St), r3 v0 v1 v2 v3 v4 σ → hW Γ 0 0 3 [(0, .ref v0), (1, .int v1), (2, .ref v2), (3, .ref v3), (4, .int v4)] [] σ) (v0 : Nat) (v1 : Int32) (v2 : Nat) (v3 : Nat) (v4 : Int32) (v5 : Int32) (σ : St) (hb : wX16_cuts_127 Q E r3 v0 v1 v2 v3 v4 v5 σ) : hW Γ 0 0 127 [(0, .ref v0), (1, .int v1), (2, .ref v2), (3, .ref v3), (4, .int v4), (5, .int v5)] [] σ := by
  unfold wX16_cuts_127 at hb
  refine g_aload_n (some v0) C dX16_cuts_127 0 rfl ?_
  obtain ⟨q1, hb⟩ := hb
  obtain ⟨a2, q3, hb⟩ := hb
  refine g_getR (some a2) C fl_RX16_203 dX16_cuts_128 q1 rfl rfl q3 ?_
  refine g_iload C dX16_cuts_131 4 rfl ?_
  refine g_iload C dX16_cuts_133 5 rfl ?_
  obtain ⟨q4, hb⟩ := hb
  obtain ⟨q5, hb⟩ := hb
  refine g_iast C dX16_cuts_135 q4 q5 ?_
  refine g_aload_n (some v2) C dX16_cuts_136 2 rfl ?_
  refine g_iload C dX16_cuts_137 5 rfl ?_
  refine g_aload_n (some v3) C dX16_cuts_139 3 rfl ?_
  obtain ⟨q6, hb⟩ := hb
  obtain ⟨a7, q8, hb⟩ := hb
  refine g_getR (some a7) C fl_RX16_242 dX16_cuts_140 (by rw [zK_uAi]; exact q6) rfl rfl (by rw [zFr_uAi]; exact q8) ?_
  refine g_iload C dX16_cuts_143 4 rfl ?_
  obtain ⟨q9, hb⟩ := hb
  obtain ⟨q10, hb⟩ := hb
  refine g_laldx (zAj σ a7 (ix v4)) C dX16_cuts_145 (by rw [zK_uAi]; exact q9) (by rw [zL_uAi]; exact q10) (by rw [zAj_uAi]) ?_
  refine g_aload_n (some v3) C dX16_cuts_146 3 rfl ?_
  obtain ⟨a11, q12, hb⟩ := hb
  refine g_getR (some a11) C fl_RX16_245 dX16_cuts_147 (by rw [zK_uAi]; exact q6) rfl rfl (by rw [zFr_uAi]; exact q12) ?_
  refine g_iload C dX16_cuts_150 4 rfl ?_
  obtain ⟨q13, hb⟩ := hb
  obtain ⟨q14, hb⟩ := hb
  refine g_ialdx (zAi (uAi σ a2 (ix v4) v5) a11 (ix v4)) C dX16_cuts_152 (by rw [zK_uAi]; exact q13) (by rw [zL_uAi]; exact q14) rfl ?_
  refine g_aload_n (some v3) C dX16_cuts_153 3 rfl ?_
  obtain ⟨a15, q16, hb⟩ := hb
  refine g_getR (some a15) C fl_RX16_249 dX16_cuts_154 (by rw [zK_uAi]; exact q6) rfl rfl (by rw [zFr_uAi]; exact q16) ?_
  refine g_iload C dX16_cuts_157 4 rfl ?_
  obtain ⟨q17, hb⟩ := hb
  obtain ⟨q18, hb⟩ := hb
  refine g_daldx (zAd σ a15 (ix v4)) C dX16_cuts_159 (by rw [zK_uAi]; exact q17) (by rw [zL_uAi]; exact q18) (by rw [zAd_uAi]) ?_
  refine g_invS [.ref v2, .int v5, .long (zAj σ a7 (ix v4)), .int (zAi (uAi σ a2 (ix v4) v5) a11 (ix v4)), .double (zAd σ a15 (ix v4))] [] zy_X16_weighs_ wd_1426 wd_1427 C dX16_cuts_160 (by first | exact Nat.le_of_ble_eq_true rfl | simp [cat_rf]) (by first | exact Nat.le_of_ble_eq_true rfl | simp [cat_rf]) (by first | exact Nat.le_of_ble_eq_true rfl | simp [cat_rf]) (Nat.zero_le _) (Nat.zero_le _) rfl rfl  (okX16_weighs_ hb) ?_
  rintro o σ19 ⟨rfl, hb⟩
  refine ⟨_, rfl, ?_⟩
  refine g_iinc (v := v4 + 1) (lv' := [(4, .int (v4 + 1)), (0, .ref v0), (1, .int v1), (2, .ref v2), (3, .ref v3), (5, .int v5)]) C dX16_cuts_163 4 rfl rfl (hnl_of hΓ (by decide)) (by first | rfl | simp [cat_rf]) ?_
  refine g_goto (tgt := 3) C dX16_cuts_166 (by decide) ?_
  refine g_sub (lv' := [(0, .ref v0), (1, .int v1), (2, .ref v2), (3, .ref v3), (4, .int (v4 + 1))]) [1, 2, 3, 4, 0] rfl ?_
  exact h3 _ _ _ _ _ _ hb
set_option maxRecDepth 20000 in
theorem kwX16_cuts_89 {Γ : hCT} (C : hC Γ RX16 cX16_cuts ((Option.none : Option Jvm.ClassFile.FieldType)) "cuts" 2 66) {Q : St → Prop} {E : St → Prop} (hΓ : Γ.2.2.2.2.2.2.2.2.2.2.2 = (6, 0, 0, oT (oV Q) E)) (hne : hNE Γ) {r3 : Nat → Int32 → Nat → Nat → Int32 → St → Prop} (h3 : ∀ (v0 : Nat) (v1 : Int32) (v2 : Nat) (v3 : Nat) (v4 : Int32) (σ : St), r3 v0 v1 v2 v3 v4 σ → hW Γ 0 0 3 [(0, .ref v0), (1, .int v1), (2, .ref v2), (3, .ref v3), (4, .int v4)] [] σ) {r15 : Nat → Int32 → Nat → Nat → Int32 → Int32 → St → Prop} (h15 : ∀ (v0 : Nat) (v1 : Int32) (v2 : Nat) (v3 : Nat) (v4 : Int32) (v5 : Int32) (σ : St), r15 v0 v1 v2 v3 v4 v5 σ → hW Γ 0 0 15 [(0, .ref v0), (1, .int v1), (2, .ref v2), (3, .ref v3), (4, .int v4), (5, .int v5)] [] σ) (v0 : Nat) (v1 : Int32) (v2 : Nat) (v3 : Nat) (v4 : Int32) (v5 : Int32) (s4 : Int32) (s3 : Int32) (s2 : Nat) (s1 : Int32) (s0 : Nat) (σ : St) (hb : wX16_cuts_89 Q E r3 r15 v0 v1 v2 v3 v4 v5 s4 s3 s2 s1 s0 σ) : hW Γ 0 0 89 [(0, .ref v0), (1, .int v1), (2, .ref v2), (3, .ref v3), (4, .int v4), (5, .int v5)] [.int s4, .int s3, .ref s2, .int s1, .ref s0] σ := by
  unfold wX16_cuts_89 at hb
  refine g_iadd C dX16_cuts_89 ?_
  obtain ⟨q1, hb⟩ := hb
  obtain ⟨q2, hb⟩ := hb
  refine g_ialdx (zAi σ s2 (ix (s3 + s4))) C dX16_cuts_90 q1 q2 rfl ?_
  obtain ⟨q3, hb⟩ := hb
  obtain ⟨q4, hb⟩ := hb
  refine g_iast C dX16_cuts_91 q3 q4 ?_
  refine g_iinc (v := v5 + 1) (lv' := [(5, .int (v5 + 1)), (0, .ref v0), (1, .int v1), (2, .ref v2), (3, .ref v3), (4, .int v4)]) C dX16_cuts_92 5 rfl rfl (hnl_of hΓ (by decide)) (by first | rfl | simp [cat_rf]) ?_
  refine g_goto (tgt := 15) C dX16_cuts_95 (by decide) ?_
  refine g_sub (lv' := [(0, .ref v0), (1, .int v1), (2, .ref v2), (3, .ref v3), (4, .int v4), (5, .int (v5 + 1))]) [1, 2, 3, 4, 5, 0] rfl ?_
  exact h15 _ _ _ _ _ _ _ hb
set_option maxRecDepth 20000 in
theorem kwX16_cuts_15 {Γ : hCT} (C : hC Γ RX16 cX16_cuts ((Option.none : Option Jvm.ClassFile.FieldType)) "cuts" 2 66) {Q : St → Prop} {E : St → Prop} (hΓ : Γ.2.2.2.2.2.2.2.2.2.2.2 = (6, 0, 0, oT (oV Q) E)) (hne : hNE Γ) {r3 : Nat → Int32 → Nat → Nat → Int32 → St → Prop} (h3 : ∀ (v0 : Nat) (v1 : Int32) (v2 : Nat) (v3 : Nat) (v4 : Int32) (σ : St), r3 v0 v1 v2 v3 v4 σ → hW Γ 0 0 3 [(0, .ref v0), (1, .int v1), (2, .ref v2), (3, .ref v3), (4, .int v4)] [] σ) {r15 : Nat → Int32 → Nat → Nat → Int32 → Int32 → St → Prop} (h15 : ∀ (v0 : Nat) (v1 : Int32) (v2 : Nat) (v3 : Nat) (v4 : Int32) (v5 : Int32) (σ : St), r15 v0 v1 v2 v3 v4 v5 σ → hW Γ 0 0 15 [(0, .ref v0), (1, .int v1), (2, .ref v2), (3, .ref v3), (4, .int v4), (5, .int v5)] [] σ) (v0 : Nat) (v1 : Int32) (v2 : Nat) (v3 : Nat) (v4 : Int32) (v5 : Int32) (σ : St) (hb : wX16_cuts_15 Q E r3 r15 v0 v1 v2 v3 v4 v5 σ) : hW Γ 0 0 15 [(0, .ref v0), (1, .int v1), (2, .ref v2), (3, .ref v3), (4, .int v4), (5, .int v5)] [] σ := by
  unfold wX16_cuts_15 at hb
  refine g_iload C dX16_cuts_15 5 rfl ?_
  refine g_aload_n (some v2) C dX16_cuts_17 2 rfl ?_
  obtain ⟨q1, hb⟩ := hb
  refine g_getIx (zFi σ 897 v2) C fl_RX16_236 dX16_cuts_18 q1 rfl rfl rfl ?_
  refine g_icmp_ge (tgt := 98) C dX16_cuts_21 (by decide) (fun c => ?_) (fun c => ?_)
  ·
    replace hb := hb.1 (c)
    refine g_aload_n (some v2) C dX16_cuts_98 2 rfl ?_
    refine g_aload_n (some v0) C dX16_cuts_99 0 rfl ?_
    obtain ⟨q2, hb⟩ := hb
    obtain ⟨a3, q4, hb⟩ := hb
    refine g_getR (some a3) C fl_RX16_200 dX16_cuts_100 q2 rfl rfl q4 ?_
    refine g_iconst (v := 0) C dX16_cuts_103 (by decide) ?_
    refine g_invV (ci := 14) [.ref a3, .int 0] [] zy_X14_find wd_1405 wd_1406 wd_1407 ⟨_, _, rfl⟩ (by decide) C dX16_cuts_104 (by first | exact Nat.le_of_ble_eq_true rfl | simp [cat_rf]) (by first | exact Nat.le_of_ble_eq_true rfl | simp [cat_rf]) (by first | exact Nat.le_of_ble_eq_true rfl | simp [cat_rf]) (Nat.zero_le _) (Nat.zero_le _) rfl rfl q1 (okX14_find hb) ?_
    rintro o σ5 ⟨y6, rfl, hb⟩
    refine ⟨_, rfl, ?_⟩
    refine g_istore (lv' := [(5, .int y6), (0, .ref v0), (1, .int v1), (2, .ref v2), (3, .ref v3), (4, .int v4)]) C dX16_cuts_107 (hnl_of hΓ (by decide)) (by first | rfl | simp [cat_rf]) ?_
    refine g_iload C dX16_cuts_109 0 rfl ?_
    refine g_iconst (v := (-1)) C dX16_cuts_111 (by decide) ?_
    refine g_icmp_ne (tgt := 127) C dX16_cuts_112 (by decide) (fun c => ?_) (fun c => ?_)
    ·
      replace hb := hb.1 (c)
      refine g_sub (lv' := [(0, .ref v0), (1, .int v1), (2, .ref v2), (3, .ref v3), (4, .int v4), (5, .int y6)]) [1, 2, 3, 4, 5, 0] rfl ?_
      exact kwX16_cuts_127 C hΓ hne h3 _ _ _ _ _ _ _ hb
    ·
      replace hb := hb.2 (c)
      refine g_aload_n (some v0) C dX16_cuts_115 1 rfl ?_
      refine g_aload_n (some v2) C dX16_cuts_116 3 rfl ?_
      refine g_aload_n (some v0) C dX16_cuts_117 1 rfl ?_
      obtain ⟨q7, hb⟩ := hb
      obtain ⟨a8, q9, hb⟩ := hb
      refine g_getR (some a8) C fl_RX16_200 dX16_cuts_118 q7 rfl rfl q9 ?_
      refine g_iconst (v := 0) C dX16_cuts_121 (by decide) ?_
      refine g_invXV (ci := 16) [.ref v2, .ref a8, .int 0] [] zy_X16_adds wd_1409 wd_1411 wd_49 ⟨_, _, rfl⟩ (by decide) C dX16_cuts_122 (by first | exact Nat.le_of_ble_eq_true rfl | simp [cat_rf]) (by first | exact Nat.le_of_ble_eq_true rfl | simp [cat_rf]) (by first | exact Nat.le_of_ble_eq_true rfl | simp [cat_rf]) (Nat.zero_le _) (Nat.zero_le _) rfl rfl q7 hΓ hne (okX16_adds hb) ?_
      rintro o σ10 ((⟨y11, rfl, hb⟩) | ⟨x, rfl, hx, hb⟩)
      case inr => exact Or.inr ⟨x, rfl, g_thrown hΓ hx hb⟩
      refine Or.inl ⟨_, rfl, ?_⟩
      refine g_istore (lv' := [(5, .int y11), (0, .ref v0), (1, .int v1), (2, .ref v2), (3, .ref v3), (4, .int v4)]) C dX16_cuts_125 (hnl_of hΓ (by decide)) (by first | rfl | simp [cat_rf]) ?_
      refine g_sub (lv' := [(0, .ref v0), (1, .int v1), (2, .ref v2), (3, .ref v3), (4, .int v4), (5, .int y11)]) [1, 2, 3, 4, 5, 0] rfl ?_
      exact kwX16_cuts_127 C hΓ hne h3 _ _ _ _ _ _ _ hb
  ·
    replace hb := hb.2 (c)
    refine g_aload_n (some v0) C dX16_cuts_24 0 rfl ?_
    obtain ⟨q12, hb⟩ := hb
    obtain ⟨a13, q14, hb⟩ := hb
    refine g_getR (some a13) C fl_RX16_200 dX16_cuts_25 q12 rfl rfl q14 ?_
    refine g_iload C dX16_cuts_28 5 rfl ?_
    refine g_aload_n (some v3) C dX16_cuts_30 3 rfl ?_
    obtain ⟨q15, hb⟩ := hb
    obtain ⟨a16, q17, hb⟩ := hb
    refine g_getR (some a16) C fl_RX16_239 dX16_cuts_31 q15 rfl rfl q17 ?_
    refine g_bipush (v := 6) C dX16_cuts_34 (by decide) ?_
    refine g_iload C dX16_cuts_36 4 rfl ?_
    refine g_imul C dX16_cuts_38 ?_
    refine g_iload C dX16_cuts_39 5 rfl ?_
    refine g_if_ne (tgt := 53) C dX16_cuts_41 (by decide) (fun c => ?_) (fun c => ?_)
    ·
      replace hb := hb.1 (c)
      refine g_iload C dX16_cuts_53 5 rfl ?_
      refine g_iconst (v := 1) C dX16_cuts_55 (by decide) ?_
      refine g_icmp_ne (tgt := 68) C dX16_cuts_56 (by decide) (fun c => ?_) (fun c => ?_)
      ·
        replace hb := hb.1 (c)
        refine g_iload C dX16_cuts_68 5 rfl ?_
        refine g_iconst (v := 2) C dX16_cuts_70 (by decide) ?_
        refine g_icmp_ne (tgt := 83) C dX16_cuts_71 (by decide) (fun c => ?_) (fun c => ?_)
        ·
          replace hb := hb.1 (c)
          refine g_aload_n (some v0) C dX16_cuts_83 0 rfl ?_
          obtain ⟨a18, q19, hb⟩ := hb
          refine g_getR (some a18) C fl_RX16_158 dX16_cuts_84 q12 rfl rfl q19 ?_
          refine g_iload_n C dX16_cuts_87 1 rfl ?_
          obtain ⟨q20, hb⟩ := hb
          obtain ⟨q21, hb⟩ := hb
          refine g_ialdx (zAi σ a18 (ix v1)) C dX16_cuts_88 q20 q21 rfl ?_
          refine g_sub (lv' := [(0, .ref v0), (1, .int v1), (2, .ref v2), (3, .ref v3), (4, .int v4), (5, .int v5)]) [0, 1, 2, 3, 4, 5] rfl ?_
          exact kwX16_cuts_89 C hΓ hne h3 h15 _ _ _ _ _ _ _ _ _ _ _ _ hb
        ·
          replace hb := hb.2 (c)
          refine g_aload_n (some v0) C dX16_cuts_74 0 rfl ?_
          obtain ⟨a22, q23, hb⟩ := hb
          refine g_getR (some a22) C fl_RX16_155 dX16_cuts_75 q12 rfl rfl q23 ?_
          refine g_iload_n C dX16_cuts_78 1 rfl ?_
          obtain ⟨q24, hb⟩ := hb
          obtain ⟨q25, hb⟩ := hb
          refine g_ialdx (zAi σ a22 (ix v1)) C dX16_cuts_79 q24 q25 rfl ?_
          refine g_goto (tgt := 89) C dX16_cuts_80 (by decide) ?_
          refine g_sub (lv' := [(0, .ref v0), (1, .int v1), (2, .ref v2), (3, .ref v3), (4, .int v4), (5, .int v5)]) [0, 1, 2, 3, 4, 5] rfl ?_
          exact kwX16_cuts_89 C hΓ hne h3 h15 _ _ _ _ _ _ _ _ _ _ _ _ hb
      ·
        replace hb := hb.2 (c)
        refine g_aload_n (some v0) C dX16_cuts_59 0 rfl ?_
        obtain ⟨a26, q27, hb⟩ := hb
        refine g_getR (some a26) C fl_RX16_152 dX16_cuts_60 q12 rfl rfl q27 ?_
        refine g_iload_n C dX16_cuts_63 1 rfl ?_
        obtain ⟨q28, hb⟩ := hb
        obtain ⟨q29, hb⟩ := hb
        refine g_ialdx (zAi σ a26 (ix v1)) C dX16_cuts_64 q28 q29 rfl ?_
        refine g_goto (tgt := 89) C dX16_cuts_65 (by decide) ?_
        refine g_sub (lv' := [(0, .ref v0), (1, .int v1), (2, .ref v2), (3, .ref v3), (4, .int v4), (5, .int v5)]) [0, 1, 2, 3, 4, 5] rfl ?_
        exact kwX16_cuts_89 C hΓ hne h3 h15 _ _ _ _ _ _ _ _ _ _ _ _ hb
    ·
      replace hb := hb.2 (c)
      refine g_aload_n (some v0) C dX16_cuts_44 0 rfl ?_
      obtain ⟨a30, q31, hb⟩ := hb
      refine g_getR (some a30) C fl_RX16_149 dX16_cuts_45 q12 rfl rfl q31 ?_
      refine g_iload_n C dX16_cuts_48 1 rfl ?_
      obtain ⟨q32, hb⟩ := hb
      obtain ⟨q33, hb⟩ := hb
      refine g_ialdx (zAi σ a30 (ix v1)) C dX16_cuts_49 q32 q33 rfl ?_
      refine g_goto (tgt := 89) C dX16_cuts_50 (by decide) ?_
      refine g_sub (lv' := [(0, .ref v0), (1, .int v1), (2, .ref v2), (3, .ref v3), (4, .int v4), (5, .int v5)]) [0, 1, 2, 3, 4, 5] rfl ?_
      exact kwX16_cuts_89 C hΓ hne h3 h15 _ _ _ _ _ _ _ _ _ _ _ _ hb
theorem klX16_cuts_15 {Γ : hCT} (C : hC Γ RX16 cX16_cuts ((Option.none : Option Jvm.ClassFile.FieldType)) "cuts" 2 66) {Q : St → Prop} {E : St → Prop} (hΓ : Γ.2.2.2.2.2.2.2.2.2.2.2 = (6, 0, 0, oT (oV Q) E)) (hne : hNE Γ) {r3 : Nat → Int32 → Nat → Nat → Int32 → St → Prop} (h3 : ∀ (v0 : Nat) (v1 : Int32) (v2 : Nat) (v3 : Nat) (v4 : Int32) (σ : St), r3 v0 v1 v2 v3 v4 σ → hW Γ 0 0 3 [(0, .ref v0), (1, .int v1), (2, .ref v2), (3, .ref v3), (4, .int v4)] [] σ) (f : Nat) (v0 : Nat) (v1 : Int32) (v2 : Nat) (v3 : Nat) (v4 : Int32) (v5 : Int32) (σ : St) (hb : lX16_cuts_15 Q E r3 f v0 v1 v2 v3 v4 v5 σ) : hW Γ 0 0 15 [(0, .ref v0), (1, .int v1), (2, .ref v2), (3, .ref v3), (4, .int v4), (5, .int v5)] [] σ := by
  induction f generalizing v0 v1 v2 v3 v4 v5 σ with
  | zero => exact hb.elim
  | succ f ih => exact kwX16_cuts_15 C hΓ hne h3 (fun v0 v1 v2 v3 v4 v5 σ h => ih v0 v1 v2 v3 v4 v5 σ h) _ _ _ _ _ _ _ hb
set_option maxRecDepth 20000 in
theorem kwX16_cuts_3 {Γ : hCT} (C : hC Γ RX16 cX16_cuts ((Option.none : Option Jvm.ClassFile.FieldType)) "cuts" 2 66) {Q : St → Prop} {E : St → Prop} (hΓ : Γ.2.2.2.2.2.2.2.2.2.2.2 = (6, 0, 0, oT (oV Q) E)) (hne : hNE Γ) {r3 : Nat → Int32 → Nat → Nat → Int32 → St → Prop} (h3 : ∀ (v0 : Nat) (v1 : Int32) (v2 : Nat) (v3 : Nat) (v4 : Int32) (σ : St), r3 v0 v1 v2 v3 v4 σ → hW Γ 0 0 3 [(0, .ref v0), (1, .int v1), (2, .ref v2), (3, .ref v3), (4, .int v4)] [] σ) (v0 : Nat) (v1 : Int32) (v2 : Nat) (v3 : Nat) (v4 : Int32) (σ : St) (hb : wX16_cuts_3 Q E r3 v0 v1 v2 v3 v4 σ) : hW Γ 0 0 3 [(0, .ref v0), (1, .int v1), (2, .ref v2), (3, .ref v3), (4, .int v4)] [] σ := by
  unfold wX16_cuts_3 at hb
  refine g_iload C dX16_cuts_3 4 rfl ?_
  refine g_aload_n (some v3) C dX16_cuts_5 3 rfl ?_
  obtain ⟨q1, hb⟩ := hb
  refine g_getIx (zFi σ 896 v3) C fl_RX16_35 dX16_cuts_6 q1 rfl rfl rfl ?_
  refine g_icmp_ge (tgt := 169) C dX16_cuts_9 (by decide) (fun c => ?_) (fun c => ?_)
  ·
    replace hb := hb.1 (c)
    refine g_iconst (v := 0) C dX16_cuts_169 (by decide) ?_
    refine g_istore (lv' := [(4, .int 0), (0, .ref v0), (1, .int v1), (2, .ref v2), (3, .ref v3)]) C dX16_cuts_170 (hnl_of hΓ (by decide)) (by first | rfl | simp [cat_rf]) ?_
    refine g_sub (lv' := [(0, .ref v0), (2, .ref v2), (3, .ref v3), (4, .int 0)]) [1, 3, 4, 0] rfl ?_
    obtain ⟨f2, hb⟩ := hb
    exact klX16_cuts_172 C hΓ hne  f2 _ _ _ _ _ hb
  ·
    replace hb := hb.2 (c)
    refine g_iconst (v := 0) C dX16_cuts_12 (by decide) ?_
    refine g_istore (lv' := [(5, .int 0), (0, .ref v0), (1, .int v1), (2, .ref v2), (3, .ref v3), (4, .int v4)]) C dX16_cuts_13 (hnl_of hΓ (by decide)) (by first | rfl | simp [cat_rf]) ?_
    refine g_sub (lv' := [(0, .ref v0), (1, .int v1), (2, .ref v2), (3, .ref v3), (4, .int v4), (5, .int 0)]) [1, 2, 3, 4, 5, 0] rfl ?_
    obtain ⟨f3, hb⟩ := hb
    exact klX16_cuts_15 C hΓ hne h3 f3 _ _ _ _ _ _ _ hb
theorem klX16_cuts_3 {Γ : hCT} (C : hC Γ RX16 cX16_cuts ((Option.none : Option Jvm.ClassFile.FieldType)) "cuts" 2 66) {Q : St → Prop} {E : St → Prop} (hΓ : Γ.2.2.2.2.2.2.2.2.2.2.2 = (6, 0, 0, oT (oV Q) E)) (hne : hNE Γ) (f : Nat) (v0 : Nat) (v1 : Int32) (v2 : Nat) (v3 : Nat) (v4 : Int32) (σ : St) (hb : lX16_cuts_3 Q E f v0 v1 v2 v3 v4 σ) : hW Γ 0 0 3 [(0, .ref v0), (1, .int v1), (2, .ref v2), (3, .ref v3), (4, .int v4)] [] σ := by
  induction f generalizing v0 v1 v2 v3 v4 σ with
  | zero => exact hb.elim
  | succ f ih => exact kwX16_cuts_3 C hΓ hne  (fun v0 v1 v2 v3 v4 σ h => ih v0 v1 v2 v3 v4 σ h) _ _ _ _ _ _ hb
set_option maxRecDepth 20000 in
theorem kwX16_cuts_0 {Γ : hCT} (C : hC Γ RX16 cX16_cuts ((Option.none : Option Jvm.ClassFile.FieldType)) "cuts" 2 66) {Q : St → Prop} {E : St → Prop} (hΓ : Γ.2.2.2.2.2.2.2.2.2.2.2 = (6, 0, 0, oT (oV Q) E)) (hne : hNE Γ) (v0 : Nat) (v1 : Int32) (v2 : Nat) (v3 : Nat) (σ : St) (hb : wX16_cuts_0 Q E v0 v1 v2 v3 σ) : hW Γ 0 0 0 [(0, .ref v0), (1, .int v1), (2, .ref v2), (3, .ref v3)] [] σ := by
  unfold wX16_cuts_0 at hb
  refine g_iconst (v := 0) C dX16_cuts_0 (by decide) ?_
  refine g_istore (lv' := [(4, .int 0), (0, .ref v0), (1, .int v1), (2, .ref v2), (3, .ref v3)]) C dX16_cuts_1 (hnl_of hΓ (by decide)) (by first | rfl | simp [cat_rf]) ?_
  refine g_sub (lv' := [(0, .ref v0), (1, .int v1), (2, .ref v2), (3, .ref v3), (4, .int 0)]) [1, 2, 3, 4, 0] rfl ?_
  obtain ⟨f1, hb⟩ := hb
  exact klX16_cuts_3 C hΓ hne  f1 _ _ _ _ _ _ hb
theorem okX16_cuts {v0 : Nat} {v1 : Int32} {v2 : Nat} {v3 : Nat} {σ : St} {Q : St → Prop} {E : St → Prop} (hb : wX16_cuts v0 v1 v2 v3 σ Q E) : hM yX16_cuts cX16_cuts 6 ((Option.none : Option Jvm.ClassFile.FieldType)) 2 66 0 0 [.ref v0, .int v1, .ref v2, .ref v3] σ (oT (oV Q) E) :=
  hM_ofX (by decide) (Nat.le_of_ble_eq_true rfl) (fun Γ hΓ C hne => kwX16_cuts_0 C hΓ hne _ _ _ _ _ hb)
def wX16_pilesBoth_17 (Q : St → Prop) (r3 : Nat → Nat → Int32 → Nat → Int32 → Int32 → St → Prop) (r17 : Nat → Nat → Int32 → Nat → Int32 → Int32 → Int32 → St → Prop) (v0 : Nat) (v1 : Nat) (v2 : Int32) (v3 : Nat) (v4 : Int32) (v5 : Int32) (v6 : Int32) (σ : St) : Prop :=
  zK σ v3 = 15 ∧ ∃ a2 : Nat, zFr σ 899 v3 = some a2 ∧ zK σ a2 = 20 ∧ vp_in v4 (zL σ a2) ∧ (((zAi σ a2 (ix v4)) ≤ v6 → r3 v0 v1 v2 v3 v4 (v5 + 1) σ) ∧ (¬ (zAi σ a2 (ix v4)) ≤ v6 → zK σ v1 = 15 ∧ ∃ a7 : Nat, zFr σ 901 v1 = some a7 ∧ zK σ a7 = 21 ∧ vp_in ((16 * v2) + v5) (zL σ a7) ∧ ∃ a11 : Nat, zFr σ 901 v3 = some a11 ∧ zK σ a11 = 21 ∧ vp_in ((16 * v4) + v6) (zL σ a11) ∧ zK σ v0 = 17 ∧ wX16_piles v0 ((zAj σ a7 (ix ((16 * v2) + v5))) ||| (zAj σ a11 (ix ((16 * v4) + v6)))) σ (fun σ16 => r17 v0 v1 v2 v3 v4 v5 (v6 + 1) σ16)))
def lX16_pilesBoth_17 (Q : St → Prop) (r3 : Nat → Nat → Int32 → Nat → Int32 → Int32 → St → Prop) : Nat → Nat → Nat → Int32 → Nat → Int32 → Int32 → Int32 → St → Prop
  | 0, _, _, _, _, _, _, _, _ => False
  | f + 1, v0, v1, v2, v3, v4, v5, v6, σ => wX16_pilesBoth_17 Q r3 (lX16_pilesBoth_17 Q r3 f) v0 v1 v2 v3 v4 v5 v6 σ
def wX16_pilesBoth_3 (Q : St → Prop) (r3 : Nat → Nat → Int32 → Nat → Int32 → Int32 → St → Prop) (v0 : Nat) (v1 : Nat) (v2 : Int32) (v3 : Nat) (v4 : Int32) (v5 : Int32) (σ : St) : Prop :=
  zK σ v1 = 15 ∧ ∃ a2 : Nat, zFr σ 899 v1 = some a2 ∧ zK σ a2 = 20 ∧ vp_in v2 (zL σ a2) ∧ (((zAi σ a2 (ix v2)) ≤ v5 → Q σ) ∧ (¬ (zAi σ a2 (ix v2)) ≤ v5 → ∃ f, lX16_pilesBoth_17 Q r3 f v0 v1 v2 v3 v4 v5 0 σ))
def lX16_pilesBoth_3 (Q : St → Prop) : Nat → Nat → Nat → Int32 → Nat → Int32 → Int32 → St → Prop
  | 0, _, _, _, _, _, _, _ => False
  | f + 1, v0, v1, v2, v3, v4, v5, σ => wX16_pilesBoth_3 Q (lX16_pilesBoth_3 Q f) v0 v1 v2 v3 v4 v5 σ
def wX16_pilesBoth_0 (Q : St → Prop) (v0 : Nat) (v1 : Nat) (v2 : Int32) (v3 : Nat) (v4 : Int32) (σ : St) : Prop :=
  ∃ f, lX16_pilesBoth_3 Q f v0 v1 v2 v3 v4 0 σ
def wX16_pilesBoth (v0 : Nat) (v1 : Nat) (v2 : Int32) (v3 : Nat) (v4 : Int32) (σ : St) (Q : St → Prop) : Prop := wX16_pilesBoth_0 Q v0 v1 v2 v3 v4 σ
set_option maxRecDepth 20000 in
theorem kwX16_pilesBoth_17 {Γ : hCT} (C : hC Γ RX16 cX16_pilesBoth ((Option.none : Option Jvm.ClassFile.FieldType)) "pilesBoth" 1 24) {Q : St → Prop} (hΓ : Γ.2.2.2.2.2.2.2.2.2.2.2 = (7, 0, 0, oV Q)) {r3 : Nat → Nat → Int32 → Nat → Int32 → Int32 → St → Prop} (h3 : ∀ (v0 : Nat) (v1 : Nat) (v2 : Int32) (v3 : Nat) (v4 : Int32) (v5 : Int32) (σ : St), r3 v0 v1 v2 v3 v4 v5 σ → hW Γ 0 0 3 [(0, .ref v0), (1, .ref v1), (2, .int v2), (3, .ref v3), (4, .int v4), (5, .int v5)] [] σ) {r17 : Nat → Nat → Int32 → Nat → Int32 → Int32 → Int32 → St → Prop} (h17 : ∀ (v0 : Nat) (v1 : Nat) (v2 : Int32) (v3 : Nat) (v4 : Int32) (v5 : Int32) (v6 : Int32) (σ : St), r17 v0 v1 v2 v3 v4 v5 v6 σ → hW Γ 0 0 17 [(0, .ref v0), (1, .ref v1), (2, .int v2), (3, .ref v3), (4, .int v4), (5, .int v5), (6, .int v6)] [] σ) (v0 : Nat) (v1 : Nat) (v2 : Int32) (v3 : Nat) (v4 : Int32) (v5 : Int32) (v6 : Int32) (σ : St) (hb : wX16_pilesBoth_17 Q r3 r17 v0 v1 v2 v3 v4 v5 v6 σ) : hW Γ 0 0 17 [(0, .ref v0), (1, .ref v1), (2, .int v2), (3, .ref v3), (4, .int v4), (5, .int v5), (6, .int v6)] [] σ := by
  unfold wX16_pilesBoth_17 at hb
  refine g_iload C dX16_pilesBoth_17 6 rfl ?_
  refine g_aload_n (some v3) C dX16_pilesBoth_19 3 rfl ?_
  obtain ⟨q1, hb⟩ := hb
  obtain ⟨a2, q3, hb⟩ := hb
  refine g_getR (some a2) C fl_RX16_226 dX16_pilesBoth_20 q1 rfl rfl q3 ?_
  refine g_iload C dX16_pilesBoth_23 4 rfl ?_
  obtain ⟨q4, hb⟩ := hb
  obtain ⟨q5, hb⟩ := hb
  refine g_ialdx (zAi σ a2 (ix v4)) C dX16_pilesBoth_25 q4 q5 rfl ?_
  refine g_icmp_ge (tgt := 65) C dX16_pilesBoth_26 (by decide) (fun c => ?_) (fun c => ?_)
  ·
    replace hb := hb.1 (c)
    refine g_iinc (v := v5 + 1) (lv' := [(5, .int (v5 + 1)), (0, .ref v0), (1, .ref v1), (2, .int v2), (3, .ref v3), (4, .int v4), (6, .int v6)]) C dX16_pilesBoth_65 5 rfl rfl (hnl_of hΓ (by decide)) (by first | rfl | simp [cat_rf]) ?_
    refine g_goto (tgt := 3) C dX16_pilesBoth_68 (by decide) ?_
    refine g_sub (lv' := [(0, .ref v0), (1, .ref v1), (2, .int v2), (3, .ref v3), (4, .int v4), (5, .int (v5 + 1))]) [1, 2, 3, 4, 5, 0] rfl ?_
    exact h3 _ _ _ _ _ _ _ hb
  ·
    replace hb := hb.2 (c)
    refine g_aload_n (some v0) C dX16_pilesBoth_29 0 rfl ?_
    refine g_aload_n (some v1) C dX16_pilesBoth_30 1 rfl ?_
    obtain ⟨q6, hb⟩ := hb
    obtain ⟨a7, q8, hb⟩ := hb
    refine g_getR (some a7) C fl_RX16_229 dX16_pilesBoth_31 q6 rfl rfl q8 ?_
    refine g_bipush (v := 16) C dX16_pilesBoth_34 (by decide) ?_
    refine g_iload_n C dX16_pilesBoth_36 2 rfl ?_
    refine g_imul C dX16_pilesBoth_37 ?_
    refine g_iload C dX16_pilesBoth_38 5 rfl ?_
    refine g_iadd C dX16_pilesBoth_40 ?_
    obtain ⟨q9, hb⟩ := hb
    obtain ⟨q10, hb⟩ := hb
    refine g_laldx (zAj σ a7 (ix ((16 * v2) + v5))) C dX16_pilesBoth_41 q9 q10 rfl ?_
    refine g_aload_n (some v3) C dX16_pilesBoth_42 3 rfl ?_
    obtain ⟨a11, q12, hb⟩ := hb
    refine g_getR (some a11) C fl_RX16_229 dX16_pilesBoth_43 q1 rfl rfl q12 ?_
    refine g_bipush (v := 16) C dX16_pilesBoth_46 (by decide) ?_
    refine g_iload C dX16_pilesBoth_48 4 rfl ?_
    refine g_imul C dX16_pilesBoth_50 ?_
    refine g_iload C dX16_pilesBoth_51 6 rfl ?_
    refine g_iadd C dX16_pilesBoth_53 ?_
    obtain ⟨q13, hb⟩ := hb
    obtain ⟨q14, hb⟩ := hb
    refine g_laldx (zAj σ a11 (ix ((16 * v4) + v6))) C dX16_pilesBoth_54 q13 q14 rfl ?_
    refine g_lor C dX16_pilesBoth_55 ?_
    obtain ⟨q15, hb⟩ := hb
    refine g_invV (ci := 16) [.long ((zAj σ a7 (ix ((16 * v2) + v5))) ||| (zAj σ a11 (ix ((16 * v4) + v6))))] [] zy_X16_piles wd_1418 wd_1420 wd_51 ⟨_, _, rfl⟩ (by decide) C dX16_pilesBoth_56 (by first | exact Nat.le_of_ble_eq_true rfl | simp [cat_rf]) (by first | exact Nat.le_of_ble_eq_true rfl | simp [cat_rf]) (by first | exact Nat.le_of_ble_eq_true rfl | simp [cat_rf]) (Nat.zero_le _) (Nat.zero_le _) rfl rfl q15 (okX16_piles hb) ?_
    rintro o σ16 ⟨rfl, hb⟩
    refine ⟨_, rfl, ?_⟩
    refine g_iinc (v := v6 + 1) (lv' := [(6, .int (v6 + 1)), (0, .ref v0), (1, .ref v1), (2, .int v2), (3, .ref v3), (4, .int v4), (5, .int v5)]) C dX16_pilesBoth_59 6 rfl rfl (hnl_of hΓ (by decide)) (by first | rfl | simp [cat_rf]) ?_
    refine g_goto (tgt := 17) C dX16_pilesBoth_62 (by decide) ?_
    refine g_sub (lv' := [(0, .ref v0), (1, .ref v1), (2, .int v2), (3, .ref v3), (4, .int v4), (5, .int v5), (6, .int (v6 + 1))]) [1, 2, 3, 4, 5, 6, 0] rfl ?_
    exact h17 _ _ _ _ _ _ _ _ hb
theorem klX16_pilesBoth_17 {Γ : hCT} (C : hC Γ RX16 cX16_pilesBoth ((Option.none : Option Jvm.ClassFile.FieldType)) "pilesBoth" 1 24) {Q : St → Prop} (hΓ : Γ.2.2.2.2.2.2.2.2.2.2.2 = (7, 0, 0, oV Q)) {r3 : Nat → Nat → Int32 → Nat → Int32 → Int32 → St → Prop} (h3 : ∀ (v0 : Nat) (v1 : Nat) (v2 : Int32) (v3 : Nat) (v4 : Int32) (v5 : Int32) (σ : St), r3 v0 v1 v2 v3 v4 v5 σ → hW Γ 0 0 3 [(0, .ref v0), (1, .ref v1), (2, .int v2), (3, .ref v3), (4, .int v4), (5, .int v5)] [] σ) (f : Nat) (v0 : Nat) (v1 : Nat) (v2 : Int32) (v3 : Nat) (v4 : Int32) (v5 : Int32) (v6 : Int32) (σ : St) (hb : lX16_pilesBoth_17 Q r3 f v0 v1 v2 v3 v4 v5 v6 σ) : hW Γ 0 0 17 [(0, .ref v0), (1, .ref v1), (2, .int v2), (3, .ref v3), (4, .int v4), (5, .int v5), (6, .int v6)] [] σ := by
  induction f generalizing v0 v1 v2 v3 v4 v5 v6 σ with
  | zero => exact hb.elim
  | succ f ih => exact kwX16_pilesBoth_17 C hΓ h3 (fun v0 v1 v2 v3 v4 v5 v6 σ h => ih v0 v1 v2 v3 v4 v5 v6 σ h) _ _ _ _ _ _ _ _ hb
set_option maxRecDepth 20000 in
theorem kwX16_pilesBoth_3 {Γ : hCT} (C : hC Γ RX16 cX16_pilesBoth ((Option.none : Option Jvm.ClassFile.FieldType)) "pilesBoth" 1 24) {Q : St → Prop} (hΓ : Γ.2.2.2.2.2.2.2.2.2.2.2 = (7, 0, 0, oV Q)) {r3 : Nat → Nat → Int32 → Nat → Int32 → Int32 → St → Prop} (h3 : ∀ (v0 : Nat) (v1 : Nat) (v2 : Int32) (v3 : Nat) (v4 : Int32) (v5 : Int32) (σ : St), r3 v0 v1 v2 v3 v4 v5 σ → hW Γ 0 0 3 [(0, .ref v0), (1, .ref v1), (2, .int v2), (3, .ref v3), (4, .int v4), (5, .int v5)] [] σ) (v0 : Nat) (v1 : Nat) (v2 : Int32) (v3 : Nat) (v4 : Int32) (v5 : Int32) (σ : St) (hb : wX16_pilesBoth_3 Q r3 v0 v1 v2 v3 v4 v5 σ) : hW Γ 0 0 3 [(0, .ref v0), (1, .ref v1), (2, .int v2), (3, .ref v3), (4, .int v4), (5, .int v5)] [] σ := by
  unfold wX16_pilesBoth_3 at hb
  refine g_iload C dX16_pilesBoth_3 5 rfl ?_
  refine g_aload_n (some v1) C dX16_pilesBoth_5 1 rfl ?_
  obtain ⟨q1, hb⟩ := hb
  obtain ⟨a2, q3, hb⟩ := hb
  refine g_getR (some a2) C fl_RX16_226 dX16_pilesBoth_6 q1 rfl rfl q3 ?_
  refine g_iload_n C dX16_pilesBoth_9 2 rfl ?_
  obtain ⟨q4, hb⟩ := hb
  obtain ⟨q5, hb⟩ := hb
  refine g_ialdx (zAi σ a2 (ix v2)) C dX16_pilesBoth_10 q4 q5 rfl ?_
  refine g_icmp_ge (tgt := 71) C dX16_pilesBoth_11 (by decide) (fun c => ?_) (fun c => ?_)
  ·
    replace hb := hb.1 (c)
    exact g_vreturn C hΓ (Nat.zero_le _) (Nat.zero_le _) dX16_pilesBoth_71 ⟨rfl, hb⟩
  ·
    replace hb := hb.2 (c)
    refine g_iconst (v := 0) C dX16_pilesBoth_14 (by decide) ?_
    refine g_istore (lv' := [(6, .int 0), (0, .ref v0), (1, .ref v1), (2, .int v2), (3, .ref v3), (4, .int v4), (5, .int v5)]) C dX16_pilesBoth_15 (hnl_of hΓ (by decide)) (by first | rfl | simp [cat_rf]) ?_
    refine g_sub (lv' := [(0, .ref v0), (1, .ref v1), (2, .int v2), (3, .ref v3), (4, .int v4), (5, .int v5), (6, .int 0)]) [1, 2, 3, 4, 5, 6, 0] rfl ?_
    obtain ⟨f6, hb⟩ := hb
    exact klX16_pilesBoth_17 C hΓ h3 f6 _ _ _ _ _ _ _ _ hb
theorem klX16_pilesBoth_3 {Γ : hCT} (C : hC Γ RX16 cX16_pilesBoth ((Option.none : Option Jvm.ClassFile.FieldType)) "pilesBoth" 1 24) {Q : St → Prop} (hΓ : Γ.2.2.2.2.2.2.2.2.2.2.2 = (7, 0, 0, oV Q)) (f : Nat) (v0 : Nat) (v1 : Nat) (v2 : Int32) (v3 : Nat) (v4 : Int32) (v5 : Int32) (σ : St) (hb : lX16_pilesBoth_3 Q f v0 v1 v2 v3 v4 v5 σ) : hW Γ 0 0 3 [(0, .ref v0), (1, .ref v1), (2, .int v2), (3, .ref v3), (4, .int v4), (5, .int v5)] [] σ := by
  induction f generalizing v0 v1 v2 v3 v4 v5 σ with
  | zero => exact hb.elim
  | succ f ih => exact kwX16_pilesBoth_3 C hΓ  (fun v0 v1 v2 v3 v4 v5 σ h => ih v0 v1 v2 v3 v4 v5 σ h) _ _ _ _ _ _ _ hb
set_option maxRecDepth 20000 in
theorem kwX16_pilesBoth_0 {Γ : hCT} (C : hC Γ RX16 cX16_pilesBoth ((Option.none : Option Jvm.ClassFile.FieldType)) "pilesBoth" 1 24) {Q : St → Prop} (hΓ : Γ.2.2.2.2.2.2.2.2.2.2.2 = (7, 0, 0, oV Q)) (v0 : Nat) (v1 : Nat) (v2 : Int32) (v3 : Nat) (v4 : Int32) (σ : St) (hb : wX16_pilesBoth_0 Q v0 v1 v2 v3 v4 σ) : hW Γ 0 0 0 [(0, .ref v0), (1, .ref v1), (2, .int v2), (3, .ref v3), (4, .int v4)] [] σ := by
  unfold wX16_pilesBoth_0 at hb
  refine g_iconst (v := 0) C dX16_pilesBoth_0 (by decide) ?_
  refine g_istore (lv' := [(5, .int 0), (0, .ref v0), (1, .ref v1), (2, .int v2), (3, .ref v3), (4, .int v4)]) C dX16_pilesBoth_1 (hnl_of hΓ (by decide)) (by first | rfl | simp [cat_rf]) ?_
  refine g_sub (lv' := [(0, .ref v0), (1, .ref v1), (2, .int v2), (3, .ref v3), (4, .int v4), (5, .int 0)]) [1, 2, 3, 4, 5, 0] rfl ?_
  obtain ⟨f1, hb⟩ := hb
  exact klX16_pilesBoth_3 C hΓ  f1 _ _ _ _ _ _ _ hb
theorem okX16_pilesBoth {v0 : Nat} {v1 : Nat} {v2 : Int32} {v3 : Nat} {v4 : Int32} {σ : St} {Q : St → Prop} (hb : wX16_pilesBoth v0 v1 v2 v3 v4 σ Q) : hM yX16_pilesBoth cX16_pilesBoth 7 ((Option.none : Option Jvm.ClassFile.FieldType)) 1 24 0 0 [.ref v0, .ref v1, .int v2, .ref v3, .int v4] σ (oV Q) :=
  hM_of (by decide) (Nat.le_of_ble_eq_true rfl) (fun Γ hΓ C => kwX16_pilesBoth_0 C hΓ _ _ _ _ _ _ hb)
def wX16_sum_0 (Q : Int32 → St → Prop) (v0 : Int32) (v1 : Int32) (σ : St) : Prop :=
  Q (if 1000000000 < (v0 + v1) then 1000000000 else (v0 + v1)) σ
def wX16_sum (v0 : Int32) (v1 : Int32) (σ : St) (Q : Int32 → St → Prop) : Prop := wX16_sum_0 Q v0 v1 σ
set_option maxRecDepth 20000 in
theorem kwX16_sum_0 {Γ : hCT} (C : hC Γ RX16 cX16_sum ((Option.some FieldType.int)) "sum" 1 40) {Q : Int32 → St → Prop} (hΓ : Γ.2.2.2.2.2.2.2.2.2.2.2 = (2, 0, 0, oI Q)) (v0 : Int32) (v1 : Int32) (σ : St) (hb : wX16_sum_0 Q v0 v1 σ) : hW Γ 0 0 0 [(0, .int v0), (1, .int v1)] [] σ := by
  unfold wX16_sum_0 at hb
  refine g_iload_n C dX16_sum_0 0 rfl ?_
  refine g_iload_n C dX16_sum_1 1 rfl ?_
  refine g_iadd C dX16_sum_2 ?_
  refine g_ldc C wd_1413 dX16_sum_3 ?_
  refine g_mmin wd_1429 wd_401 wd_87 wd_402 C (by first | exact Nat.le_of_ble_eq_true rfl | simp [cat_rf]) (by first | exact Nat.le_of_ble_eq_true rfl | simp [cat_rf]) (Nat.zero_le _) (Nat.zero_le _) dX16_sum_5 ?_
  exact g_ireturn C hΓ (Nat.zero_le _) (Nat.zero_le _) dX16_sum_8 ⟨_, rfl, hb⟩
theorem okX16_sum {v0 : Int32} {v1 : Int32} {σ : St} {Q : Int32 → St → Prop} (hb : wX16_sum v0 v1 σ Q) : hM yX16_sum cX16_sum 2 ((Option.some FieldType.int)) 1 40 0 0 [.int v0, .int v1] σ (oI Q) :=
  hM_of (by decide) (Nat.le_of_ble_eq_true rfl) (fun Γ hΓ C => kwX16_sum_0 C hΓ _ _ _ hb)
def wX16_pairs_128 (Q : St → Prop) (E : St → Prop) (r3 : Nat → Int32 → Nat → Nat → Nat → Int32 → St → Prop) (r15 : Nat → Int32 → Nat → Nat → Nat → Int32 → Int32 → St → Prop) (r69 : Nat → Int32 → Nat → Nat → Nat → Int32 → Int32 → Int32 → St → Prop) (v0 : Nat) (v1 : Int32) (v2 : Nat) (v3 : Nat) (v4 : Nat) (v5 : Int32) (v6 : Int32) (v7 : Int32) (s2 : Int32) (s1 : Int32) (s0 : Nat) (σ : St) : Prop :=
  zK σ s0 = 20 ∧ vp_in s1 (zL σ s0) ∧ r69 v0 v1 v2 v3 v4 v5 v6 (v7 + 1) (uAi σ s0 (ix s1) s2)
def wX16_pairs_69 (Q : St → Prop) (E : St → Prop) (r3 : Nat → Int32 → Nat → Nat → Nat → Int32 → St → Prop) (r15 : Nat → Int32 → Nat → Nat → Nat → Int32 → Int32 → St → Prop) (r69 : Nat → Int32 → Nat → Nat → Nat → Int32 → Int32 → Int32 → St → Prop) (v0 : Nat) (v1 : Int32) (v2 : Nat) (v3 : Nat) (v4 : Nat) (v5 : Int32) (v6 : Int32) (v7 : Int32) (σ : St) : Prop :=
  zK σ v2 = 15 ∧ (((zFi σ 897 v2) ≤ v7 → zK σ v0 = 17 ∧ ∃ a3 : Nat, zFr σ 1055 v0 = some a3 ∧ wX16_adds v0 v2 a3 0 σ (fun y6 σ5 => zK σ5 v0 = 17 ∧ wX16_pilesBoth v0 v3 v5 v4 v6 (uFi σ5 1054 v0 0) (fun σ8 => zK σ8 v0 = 17 ∧ wX16_lays v0 v2 y6 σ8 (fun y11 σ10 => zK σ10 v3 = 15 ∧ ∃ a13 : Nat, zFr σ10 902 v3 = some a13 ∧ zK σ10 a13 = 21 ∧ vp_in v5 (zL σ10 a13) ∧ zK σ10 v4 = 15 ∧ ∃ a18 : Nat, zFr σ10 902 v4 = some a18 ∧ zK σ10 a18 = 21 ∧ vp_in v6 (zL σ10 a18) ∧ ∃ a22 : Nat, zFr σ10 900 v3 = some a22 ∧ zK σ10 a22 = 20 ∧ vp_in v5 (zL σ10 a22) ∧ ∃ a26 : Nat, zFr σ10 900 v4 = some a26 ∧ zK σ10 a26 = 20 ∧ vp_in v6 (zL σ10 a26) ∧ wX16_sum (zAi σ10 a22 (ix v5)) (zAi σ10 a26 (ix v6)) σ10 (fun y31 σ30 => zK σ30 v3 = 15 ∧ ∃ a33 : Nat, zFr σ30 903 v3 = some a33 ∧ zK σ30 a33 = 22 ∧ vp_in v5 (zL σ30 a33) ∧ zK σ30 v4 = 15 ∧ ∃ a38 : Nat, zFr σ30 903 v4 = some a38 ∧ zK σ30 a38 = 22 ∧ vp_in v6 (zL σ30 a38) ∧ FP.dIsNaN (zAd σ30 a33 (ix v5)) = false ∧ FP.dIsNaN (zAd σ30 a38 (ix v6)) = false ∧ wX16_weighs_ v2 y6 ((zAj σ10 a13 (ix v5)) * (zAj σ10 a18 (ix v6))) y31 (pkD false (zAd σ30 a33 (ix v5)) (zAd σ30 a38 (ix v6))) σ30 (fun σ44 => r15 v0 v1 v2 v3 v4 v5 (v6 + 1) σ44))) E)) E) ∧ (¬ (zFi σ 897 v2) ≤ v7 → zK σ v0 = 17 ∧ ∃ a46 : Nat, zFr σ 1055 v0 = some a46 ∧ zK σ v3 = 15 ∧ (((zFi σ 897 v3) ≤ v7 → zK σ v4 = 15 ∧ ∃ a50 : Nat, zFr σ 898 v4 = some a50 ∧ zK σ a50 = 20 ∧ vp_in (((6 * v6) + v7) - (zFi σ 897 v3)) (zL σ a50) ∧ wX16_pairs_128 Q E r3 r15 r69 v0 v1 v2 v3 v4 v5 v6 v7 (zAi σ a50 (ix (((6 * v6) + v7) - (zFi σ 897 v3)))) v7 a46 σ) ∧ (¬ (zFi σ 897 v3) ≤ v7 → ∃ a54 : Nat, zFr σ 898 v3 = some a54 ∧ zK σ a54 = 20 ∧ vp_in ((6 * v5) + v7) (zL σ a54) ∧ wX16_pairs_128 Q E r3 r15 r69 v0 v1 v2 v3 v4 v5 v6 v7 (zAi σ a54 (ix ((6 * v5) + v7))) v7 a46 σ))))
def lX16_pairs_69 (Q : St → Prop) (E : St → Prop) (r3 : Nat → Int32 → Nat → Nat → Nat → Int32 → St → Prop) (r15 : Nat → Int32 → Nat → Nat → Nat → Int32 → Int32 → St → Prop) : Nat → Nat → Int32 → Nat → Nat → Nat → Int32 → Int32 → Int32 → St → Prop
  | 0, _, _, _, _, _, _, _, _, _ => False
  | f + 1, v0, v1, v2, v3, v4, v5, v6, v7, σ => wX16_pairs_69 Q E r3 r15 (lX16_pairs_69 Q E r3 r15 f) v0 v1 v2 v3 v4 v5 v6 v7 σ
def wX16_pairs_15 (Q : St → Prop) (E : St → Prop) (r3 : Nat → Int32 → Nat → Nat → Nat → Int32 → St → Prop) (r15 : Nat → Int32 → Nat → Nat → Nat → Int32 → Int32 → St → Prop) (v0 : Nat) (v1 : Int32) (v2 : Nat) (v3 : Nat) (v4 : Nat) (v5 : Int32) (v6 : Int32) (σ : St) : Prop :=
  zK σ v4 = 15 ∧ (((zFi σ 896 v4) ≤ v6 → r3 v0 v1 v2 v3 v4 (v5 + 1) σ) ∧ (¬ (zFi σ 896 v4) ≤ v6 → zK σ v3 = 15 ∧ ∃ a3 : Nat, zFr σ 898 v3 = some a3 ∧ zK σ v0 = 17 ∧ ∃ a6 : Nat, zFr σ 1043 v0 = some a6 ∧ zK σ a6 = 20 ∧ vp_in v1 (zL σ a6) ∧ zK σ a3 = 20 ∧ vp_in ((6 * v5) + (zAi σ a6 (ix v1))) (zL σ a3) ∧ ∃ a12 : Nat, zFr σ 898 v4 = some a12 ∧ ∃ a14 : Nat, zFr σ 1044 v0 = some a14 ∧ zK σ a14 = 20 ∧ vp_in v1 (zL σ a14) ∧ zK σ a12 = 20 ∧ vp_in ((6 * v6) + (zAi σ a14 (ix v1))) (zL σ a12) ∧ (((zAi σ a3 (ix ((6 * v5) + (zAi σ a6 (ix v1))))) = (zAi σ a12 (ix ((6 * v6) + (zAi σ a14 (ix v1))))) → ∃ f, lX16_pairs_69 Q E r3 r15 f v0 v1 v2 v3 v4 v5 v6 0 σ) ∧ (¬ (zAi σ a3 (ix ((6 * v5) + (zAi σ a6 (ix v1))))) = (zAi σ a12 (ix ((6 * v6) + (zAi σ a14 (ix v1))))) → r15 v0 v1 v2 v3 v4 v5 (v6 + 1) σ))))
def lX16_pairs_15 (Q : St → Prop) (E : St → Prop) (r3 : Nat → Int32 → Nat → Nat → Nat → Int32 → St → Prop) : Nat → Nat → Int32 → Nat → Nat → Nat → Int32 → Int32 → St → Prop
  | 0, _, _, _, _, _, _, _, _ => False
  | f + 1, v0, v1, v2, v3, v4, v5, v6, σ => wX16_pairs_15 Q E r3 (lX16_pairs_15 Q E r3 f) v0 v1 v2 v3 v4 v5 v6 σ
def wX16_pairs_3 (Q : St → Prop) (E : St → Prop) (r3 : Nat → Int32 → Nat → Nat → Nat → Int32 → St → Prop) (v0 : Nat) (v1 : Int32) (v2 : Nat) (v3 : Nat) (v4 : Nat) (v5 : Int32) (σ : St) : Prop :=
  zK σ v3 = 15 ∧ (((zFi σ 896 v3) ≤ v5 → Q σ) ∧ (¬ (zFi σ 896 v3) ≤ v5 → ∃ f, lX16_pairs_15 Q E r3 f v0 v1 v2 v3 v4 v5 0 σ))
def lX16_pairs_3 (Q : St → Prop) (E : St → Prop) : Nat → Nat → Int32 → Nat → Nat → Nat → Int32 → St → Prop
  | 0, _, _, _, _, _, _, _ => False
  | f + 1, v0, v1, v2, v3, v4, v5, σ => wX16_pairs_3 Q E (lX16_pairs_3 Q E f) v0 v1 v2 v3 v4 v5 σ
def wX16_pairs_0 (Q : St → Prop) (E : St → Prop) (v0 : Nat) (v1 : Int32) (v2 : Nat) (v3 : Nat) (v4 : Nat) (σ : St) : Prop :=
  ∃ f, lX16_pairs_3 Q E f v0 v1 v2 v3 v4 0 σ
def wX16_pairs (v0 : Nat) (v1 : Int32) (v2 : Nat) (v3 : Nat) (v4 : Nat) (σ : St) (Q : St → Prop) (E : St → Prop) : Prop := wX16_pairs_0 Q E v0 v1 v2 v3 v4 σ
set_option maxRecDepth 20000 in
theorem kwX16_pairs_128 {Γ : hCT} (C : hC Γ RX16 cX16_pairs ((Option.none : Option Jvm.ClassFile.FieldType)) "pairs" 2 66) {Q : St → Prop} {E : St → Prop} (hΓ : Γ.2.2.2.2.2.2.2.2.2.2.2 = (9, 0, 0, oT (oV Q) E)) (hne : hNE Γ) {r3 : Nat → Int32 → Nat → Nat → Nat → Int32 → St → Prop} (h3 : ∀ (v0 : Nat) (v1 : Int32) (v2 : Nat) (v3 : Nat) (v4 : Nat) (v5 : Int32) (σ : St), r3 v0 v1 v2 v3 v4 v5 σ → hW Γ 0 0 3 [(0, .ref v0), (1, .int v1), (2, .ref v2), (3, .ref v3), (4, .ref v4), (5, .int v5)] [] σ) {r15 : Nat → Int32 → Nat → Nat → Nat → Int32 → Int32 → St → Prop} (h15 : ∀ (v0 : Nat) (v1 : Int32) (v2 : Nat) (v3 : Nat) (v4 : Nat) (v5 : Int32) (v6 : Int32) (σ : St), r15 v0 v1 v2 v3 v4 v5 v6 σ → hW Γ 0 0 15 [(0, .ref v0), (1, .int v1), (2, .ref v2), (3, .ref v3), (4, .ref v4), (5, .int v5), (6, .int v6)] [] σ) {r69 : Nat → Int32 → Nat → Nat → Nat → Int32 → Int32 → Int32 → St → Prop} (h69 : ∀ (v0 : Nat) (v1 : Int32) (v2 : Nat) (v3 : Nat) (v4 : Nat) (v5 : Int32) (v6 : Int32) (v7 : Int32) (σ : St), r69 v0 v1 v2 v3 v4 v5 v6 v7 σ → hW Γ 0 0 69 [(0, .ref v0), (1, .int v1), (2, .ref v2), (3, .ref v3), (4, .ref v4), (5, .int v5), (6, .int v6), (7, .int v7)] [] σ) (v0 : Nat) (v1 : Int32) (v2 : Nat) (v3 : Nat) (v4 : Nat) (v5 : Int32) (v6 : Int32) (v7 : Int32) (s2 : Int32) (s1 : Int32) (s0 : Nat) (σ : St) (hb : wX16_pairs_128 Q E r3 r15 r69 v0 v1 v2 v3 v4 v5 v6 v7 s2 s1 s0 σ) : hW Γ 0 0 128 [(0, .ref v0), (1, .int v1), (2, .ref v2), (3, .ref v3), (4, .ref v4), (5, .int v5), (6, .int v6), (7, .int v7)] [.int s2, .int s1, .ref s0] σ := by
  unfold wX16_pairs_128 at hb
  obtain ⟨q1, hb⟩ := hb
  obtain ⟨q2, hb⟩ := hb
  refine g_iast C dX16_pairs_128 q1 q2 ?_
  refine g_iinc (v := v7 + 1) (lv' := [(7, .int (v7 + 1)), (0, .ref v0), (1, .int v1), (2, .ref v2), (3, .ref v3), (4, .ref v4), (5, .int v5), (6, .int v6)]) C dX16_pairs_129 7 rfl rfl (hnl_of hΓ (by decide)) (by first | rfl | simp [cat_rf]) ?_
  refine g_goto (tgt := 69) C dX16_pairs_132 (by decide) ?_
  refine g_sub (lv' := [(0, .ref v0), (1, .int v1), (2, .ref v2), (3, .ref v3), (4, .ref v4), (5, .int v5), (6, .int v6), (7, .int (v7 + 1))]) [1, 2, 3, 4, 5, 6, 7, 0] rfl ?_
  exact h69 _ _ _ _ _ _ _ _ _ hb
set_option maxRecDepth 20000 in
theorem kwX16_pairs_69 {Γ : hCT} (C : hC Γ RX16 cX16_pairs ((Option.none : Option Jvm.ClassFile.FieldType)) "pairs" 2 66) {Q : St → Prop} {E : St → Prop} (hΓ : Γ.2.2.2.2.2.2.2.2.2.2.2 = (9, 0, 0, oT (oV Q) E)) (hne : hNE Γ) {r3 : Nat → Int32 → Nat → Nat → Nat → Int32 → St → Prop} (h3 : ∀ (v0 : Nat) (v1 : Int32) (v2 : Nat) (v3 : Nat) (v4 : Nat) (v5 : Int32) (σ : St), r3 v0 v1 v2 v3 v4 v5 σ → hW Γ 0 0 3 [(0, .ref v0), (1, .int v1), (2, .ref v2), (3, .ref v3), (4, .ref v4), (5, .int v5)] [] σ) {r15 : Nat → Int32 → Nat → Nat → Nat → Int32 → Int32 → St → Prop} (h15 : ∀ (v0 : Nat) (v1 : Int32) (v2 : Nat) (v3 : Nat) (v4 : Nat) (v5 : Int32) (v6 : Int32) (σ : St), r15 v0 v1 v2 v3 v4 v5 v6 σ → hW Γ 0 0 15 [(0, .ref v0), (1, .int v1), (2, .ref v2), (3, .ref v3), (4, .ref v4), (5, .int v5), (6, .int v6)] [] σ) {r69 : Nat → Int32 → Nat → Nat → Nat → Int32 → Int32 → Int32 → St → Prop} (h69 : ∀ (v0 : Nat) (v1 : Int32) (v2 : Nat) (v3 : Nat) (v4 : Nat) (v5 : Int32) (v6 : Int32) (v7 : Int32) (σ : St), r69 v0 v1 v2 v3 v4 v5 v6 v7 σ → hW Γ 0 0 69 [(0, .ref v0), (1, .int v1), (2, .ref v2), (3, .ref v3), (4, .ref v4), (5, .int v5), (6, .int v6), (7, .int v7)] [] σ) (v0 : Nat) (v1 : Int32) (v2 : Nat) (v3 : Nat) (v4 : Nat) (v5 : Int32) (v6 : Int32) (v7 : Int32) (σ : St) (hb : wX16_pairs_69 Q E r3 r15 r69 v0 v1 v2 v3 v4 v5 v6 v7 σ) : hW Γ 0 0 69 [(0, .ref v0), (1, .int v1), (2, .ref v2), (3, .ref v3), (4, .ref v4), (5, .int v5), (6, .int v6), (7, .int v7)] [] σ := by
  unfold wX16_pairs_69 at hb
  refine g_iload C dX16_pairs_69 7 rfl ?_
  refine g_aload_n (some v2) C dX16_pairs_71 2 rfl ?_
  obtain ⟨q1, hb⟩ := hb
  refine g_getIx (zFi σ 897 v2) C fl_RX16_236 dX16_pairs_72 q1 rfl rfl rfl ?_
  refine g_icmp_ge (tgt := 135) C dX16_pairs_75 (by decide) (fun c => ?_) (fun c => ?_)
  ·
    replace hb := hb.1 (c)
    refine g_aload_n (some v0) C dX16_pairs_135 0 rfl ?_
    refine g_aload_n (some v2) C dX16_pairs_136 2 rfl ?_
    refine g_aload_n (some v0) C dX16_pairs_137 0 rfl ?_
    obtain ⟨q2, hb⟩ := hb
    obtain ⟨a3, q4, hb⟩ := hb
    refine g_getR (some a3) C fl_RX16_200 dX16_pairs_138 q2 rfl rfl q4 ?_
    refine g_iconst (v := 0) C dX16_pairs_141 (by decide) ?_
    refine g_invXV (ci := 16) [.ref v2, .ref a3, .int 0] [] zy_X16_adds wd_1409 wd_1411 wd_49 ⟨_, _, rfl⟩ (by decide) C dX16_pairs_142 (by first | exact Nat.le_of_ble_eq_true rfl | simp [cat_rf]) (by first | exact Nat.le_of_ble_eq_true rfl | simp [cat_rf]) (by first | exact Nat.le_of_ble_eq_true rfl | simp [cat_rf]) (Nat.zero_le _) (Nat.zero_le _) rfl rfl q2 hΓ hne (okX16_adds hb) ?_
    rintro o σ5 ((⟨y6, rfl, hb⟩) | ⟨x, rfl, hx, hb⟩)
    case inr => exact Or.inr ⟨x, rfl, g_thrown hΓ hx hb⟩
    refine Or.inl ⟨_, rfl, ?_⟩
    refine g_istore (lv' := [(7, .int y6), (0, .ref v0), (1, .int v1), (2, .ref v2), (3, .ref v3), (4, .ref v4), (5, .int v5), (6, .int v6)]) C dX16_pairs_145 (hnl_of hΓ (by decide)) (by first | rfl | simp [cat_rf]) ?_
    refine g_aload_n (some v0) C dX16_pairs_147 1 rfl ?_
    refine g_iconst (v := 0) C dX16_pairs_148 (by decide) ?_
    obtain ⟨q7, hb⟩ := hb
    refine g_putI C fl_RX16_223 dX16_pairs_149 q7 rfl rfl rfl rfl ?_
    refine g_aload_n (some v0) C dX16_pairs_152 1 rfl ?_
    refine g_aload_n (some v3) C dX16_pairs_153 4 rfl ?_
    refine g_iload C dX16_pairs_154 6 rfl ?_
    refine g_aload (some v4) C dX16_pairs_156 5 rfl ?_
    refine g_iload C dX16_pairs_158 7 rfl ?_
    refine g_invV (ci := 16) [.ref v3, .int v5, .ref v4, .int v6] [] zy_X16_pilesBoth wd_1444 wd_1446 wd_55 ⟨_, _, rfl⟩ (by decide) C dX16_pairs_160 (by first | exact Nat.le_of_ble_eq_true rfl | simp [cat_rf]) (by first | exact Nat.le_of_ble_eq_true rfl | simp [cat_rf]) (by first | exact Nat.le_of_ble_eq_true rfl | simp [cat_rf]) (Nat.zero_le _) (Nat.zero_le _) rfl rfl (by rw [zK_uFi]; exact q7) (okX16_pilesBoth hb) ?_
    rintro o σ8 ⟨rfl, hb⟩
    refine ⟨_, rfl, ?_⟩
    refine g_aload_n (some v0) C dX16_pairs_163 1 rfl ?_
    refine g_aload_n (some v2) C dX16_pairs_164 3 rfl ?_
    refine g_iload C dX16_pairs_165 0 rfl ?_
    obtain ⟨q9, hb⟩ := hb
    refine g_invXV (ci := 16) [.ref v2, .int y6] [] zy_X16_lays wd_1422 wd_1424 wd_52 ⟨_, _, rfl⟩ (by decide) C dX16_pairs_167 (by first | exact Nat.le_of_ble_eq_true rfl | simp [cat_rf]) (by first | exact Nat.le_of_ble_eq_true rfl | simp [cat_rf]) (by first | exact Nat.le_of_ble_eq_true rfl | simp [cat_rf]) (Nat.zero_le _) (Nat.zero_le _) rfl rfl q9 hΓ hne (okX16_lays hb) ?_
    rintro o σ10 ((⟨y11, rfl, hb⟩) | ⟨x, rfl, hx, hb⟩)
    case inr => exact Or.inr ⟨x, rfl, g_thrown hΓ hx hb⟩
    refine Or.inl ⟨_, rfl, ?_⟩
    refine g_istore (lv' := [(8, .int y11), (7, .int y6), (0, .ref v0), (1, .int v1), (2, .ref v2), (3, .ref v3), (4, .ref v4), (5, .int v5), (6, .int v6)]) C dX16_pairs_170 (hnl_of hΓ (by decide)) (by first | rfl | simp [cat_rf]) ?_
    refine g_aload_n (some v2) C dX16_pairs_172 4 rfl ?_
    refine g_iload C dX16_pairs_173 1 rfl ?_
    refine g_aload_n (some v3) C dX16_pairs_175 5 rfl ?_
    obtain ⟨q12, hb⟩ := hb
    obtain ⟨a13, q14, hb⟩ := hb
    refine g_getR (some a13) C fl_RX16_242 dX16_pairs_176 q12 rfl rfl q14 ?_
    refine g_iload C dX16_pairs_179 7 rfl ?_
    obtain ⟨q15, hb⟩ := hb
    obtain ⟨q16, hb⟩ := hb
    refine g_laldx (zAj σ10 a13 (ix v5)) C dX16_pairs_181 q15 q16 rfl ?_
    refine g_aload (some v4) C dX16_pairs_182 6 rfl ?_
    obtain ⟨q17, hb⟩ := hb
    obtain ⟨a18, q19, hb⟩ := hb
    refine g_getR (some a18) C fl_RX16_242 dX16_pairs_184 q17 rfl rfl q19 ?_
    refine g_iload C dX16_pairs_187 8 rfl ?_
    obtain ⟨q20, hb⟩ := hb
    obtain ⟨q21, hb⟩ := hb
    refine g_laldx (zAj σ10 a18 (ix v6)) C dX16_pairs_189 q20 q21 rfl ?_
    refine g_lmul C dX16_pairs_190 ?_
    refine g_aload_n (some v3) C dX16_pairs_191 5 rfl ?_
    obtain ⟨a22, q23, hb⟩ := hb
    refine g_getR (some a22) C fl_RX16_245 dX16_pairs_192 q12 rfl rfl q23 ?_
    refine g_iload C dX16_pairs_195 7 rfl ?_
    obtain ⟨q24, hb⟩ := hb
    obtain ⟨q25, hb⟩ := hb
    refine g_ialdx (zAi σ10 a22 (ix v5)) C dX16_pairs_197 q24 q25 rfl ?_
    refine g_aload (some v4) C dX16_pairs_198 6 rfl ?_
    obtain ⟨a26, q27, hb⟩ := hb
    refine g_getR (some a26) C fl_RX16_245 dX16_pairs_200 q17 rfl rfl q27 ?_
    refine g_iload C dX16_pairs_203 8 rfl ?_
    obtain ⟨q28, hb⟩ := hb
    obtain ⟨q29, hb⟩ := hb
    refine g_ialdx (zAi σ10 a26 (ix v6)) C dX16_pairs_205 q28 q29 rfl ?_
    refine g_invS [.int (zAi σ10 a22 (ix v5)), .int (zAi σ10 a26 (ix v6))] [.long ((zAj σ10 a13 (ix v5)) * (zAj σ10 a18 (ix v6))), .int y6, .ref v2] zy_X16_sum wd_1448 wd_1449 C dX16_pairs_206 (by first | exact Nat.le_of_ble_eq_true rfl | simp [cat_rf]) (by first | exact Nat.le_of_ble_eq_true rfl | simp [cat_rf]) (by first | exact Nat.le_of_ble_eq_true rfl | simp [cat_rf]) (Nat.zero_le _) (Nat.zero_le _) rfl rfl  (okX16_sum hb) ?_
    rintro o σ30 ⟨y31, rfl, hb⟩
    refine ⟨_, rfl, ?_⟩
    refine g_aload_n (some v3) C dX16_pairs_209 5 rfl ?_
    obtain ⟨q32, hb⟩ := hb
    obtain ⟨a33, q34, hb⟩ := hb
    refine g_getR (some a33) C fl_RX16_249 dX16_pairs_210 q32 rfl rfl q34 ?_
    refine g_iload C dX16_pairs_213 7 rfl ?_
    obtain ⟨q35, hb⟩ := hb
    obtain ⟨q36, hb⟩ := hb
    refine g_daldx (zAd σ30 a33 (ix v5)) C dX16_pairs_215 q35 q36 rfl ?_
    refine g_aload (some v4) C dX16_pairs_216 6 rfl ?_
    obtain ⟨q37, hb⟩ := hb
    obtain ⟨a38, q39, hb⟩ := hb
    refine g_getR (some a38) C fl_RX16_249 dX16_pairs_218 q37 rfl rfl q39 ?_
    refine g_iload C dX16_pairs_221 8 rfl ?_
    obtain ⟨q40, hb⟩ := hb
    obtain ⟨q41, hb⟩ := hb
    refine g_daldx (zAd σ30 a38 (ix v6)) C dX16_pairs_223 q40 q41 rfl ?_
    obtain ⟨q42, q43, hb⟩ := hb
    refine g_mminD wd_1451 wd_1452 wd_87 wd_1453 C (by first | exact Nat.le_of_ble_eq_true rfl | simp [cat_rf]) (by first | exact Nat.le_of_ble_eq_true rfl | simp [cat_rf]) (Nat.zero_le _) (Nat.zero_le _) dX16_pairs_224 q42 q43 ?_
    refine g_invS [.ref v2, .int y6, .long ((zAj σ10 a13 (ix v5)) * (zAj σ10 a18 (ix v6))), .int y31, .double (pkD false (zAd σ30 a33 (ix v5)) (zAd σ30 a38 (ix v6)))] [] zy_X16_weighs_ wd_1426 wd_1427 C dX16_pairs_227 (by first | exact Nat.le_of_ble_eq_true rfl | simp [cat_rf]) (by first | exact Nat.le_of_ble_eq_true rfl | simp [cat_rf]) (by first | exact Nat.le_of_ble_eq_true rfl | simp [cat_rf]) (Nat.zero_le _) (Nat.zero_le _) rfl rfl  (okX16_weighs_ hb) ?_
    rintro o σ44 ⟨rfl, hb⟩
    refine ⟨_, rfl, ?_⟩
    refine g_iinc (v := v6 + 1) (lv' := [(6, .int (v6 + 1)), (8, .int y11), (7, .int y6), (0, .ref v0), (1, .int v1), (2, .ref v2), (3, .ref v3), (4, .ref v4), (5, .int v5)]) C dX16_pairs_230 8 rfl rfl (hnl_of hΓ (by decide)) (by first | rfl | simp [cat_rf]) ?_
    refine g_goto (tgt := 15) C dX16_pairs_233 (by decide) ?_
    refine g_sub (lv' := [(0, .ref v0), (1, .int v1), (2, .ref v2), (3, .ref v3), (4, .ref v4), (5, .int v5), (6, .int (v6 + 1))]) [3, 4, 5, 6, 7, 8, 0] rfl ?_
    exact h15 _ _ _ _ _ _ _ _ hb
  ·
    replace hb := hb.2 (c)
    refine g_aload_n (some v0) C dX16_pairs_78 0 rfl ?_
    obtain ⟨q45, hb⟩ := hb
    obtain ⟨a46, q47, hb⟩ := hb
    refine g_getR (some a46) C fl_RX16_200 dX16_pairs_79 q45 rfl rfl q47 ?_
    refine g_iload C dX16_pairs_82 7 rfl ?_
    refine g_iload C dX16_pairs_84 7 rfl ?_
    refine g_aload_n (some v3) C dX16_pairs_86 3 rfl ?_
    obtain ⟨q48, hb⟩ := hb
    refine g_getIx (zFi σ 897 v3) C fl_RX16_236 dX16_pairs_87 q48 rfl rfl rfl ?_
    refine g_icmp_ge (tgt := 109) C dX16_pairs_90 (by decide) (fun c => ?_) (fun c => ?_)
    ·
      replace hb := hb.1 (c)
      refine g_aload (some v4) C dX16_pairs_109 4 rfl ?_
      obtain ⟨q49, hb⟩ := hb
      obtain ⟨a50, q51, hb⟩ := hb
      refine g_getR (some a50) C fl_RX16_239 dX16_pairs_111 q49 rfl rfl q51 ?_
      refine g_bipush (v := 6) C dX16_pairs_114 (by decide) ?_
      refine g_iload C dX16_pairs_116 6 rfl ?_
      refine g_imul C dX16_pairs_118 ?_
      refine g_iload C dX16_pairs_119 7 rfl ?_
      refine g_iadd C dX16_pairs_121 ?_
      refine g_aload_n (some v3) C dX16_pairs_122 3 rfl ?_
      refine g_getIx (zFi σ 897 v3) C fl_RX16_236 dX16_pairs_123 q48 rfl rfl rfl ?_
      refine g_isub C dX16_pairs_126 ?_
      obtain ⟨q52, hb⟩ := hb
      obtain ⟨q53, hb⟩ := hb
      refine g_ialdx (zAi σ a50 (ix (((6 * v6) + v7) - (zFi σ 897 v3)))) C dX16_pairs_127 q52 q53 rfl ?_
      refine g_sub (lv' := [(0, .ref v0), (1, .int v1), (2, .ref v2), (3, .ref v3), (4, .ref v4), (5, .int v5), (6, .int v6), (7, .int v7)]) [0, 1, 2, 3, 4, 5, 6, 7] rfl ?_
      exact kwX16_pairs_128 C hΓ hne h3 h15 h69 _ _ _ _ _ _ _ _ _ _ _ _ hb
    ·
      replace hb := hb.2 (c)
      refine g_aload_n (some v3) C dX16_pairs_93 3 rfl ?_
      obtain ⟨a54, q55, hb⟩ := hb
      refine g_getR (some a54) C fl_RX16_239 dX16_pairs_94 q48 rfl rfl q55 ?_
      refine g_bipush (v := 6) C dX16_pairs_97 (by decide) ?_
      refine g_iload C dX16_pairs_99 5 rfl ?_
      refine g_imul C dX16_pairs_101 ?_
      refine g_iload C dX16_pairs_102 7 rfl ?_
      refine g_iadd C dX16_pairs_104 ?_
      obtain ⟨q56, hb⟩ := hb
      obtain ⟨q57, hb⟩ := hb
      refine g_ialdx (zAi σ a54 (ix ((6 * v5) + v7))) C dX16_pairs_105 q56 q57 rfl ?_
      refine g_goto (tgt := 128) C dX16_pairs_106 (by decide) ?_
      refine g_sub (lv' := [(0, .ref v0), (1, .int v1), (2, .ref v2), (3, .ref v3), (4, .ref v4), (5, .int v5), (6, .int v6), (7, .int v7)]) [0, 1, 2, 3, 4, 5, 6, 7] rfl ?_
      exact kwX16_pairs_128 C hΓ hne h3 h15 h69 _ _ _ _ _ _ _ _ _ _ _ _ hb
theorem klX16_pairs_69 {Γ : hCT} (C : hC Γ RX16 cX16_pairs ((Option.none : Option Jvm.ClassFile.FieldType)) "pairs" 2 66) {Q : St → Prop} {E : St → Prop} (hΓ : Γ.2.2.2.2.2.2.2.2.2.2.2 = (9, 0, 0, oT (oV Q) E)) (hne : hNE Γ) {r3 : Nat → Int32 → Nat → Nat → Nat → Int32 → St → Prop} (h3 : ∀ (v0 : Nat) (v1 : Int32) (v2 : Nat) (v3 : Nat) (v4 : Nat) (v5 : Int32) (σ : St), r3 v0 v1 v2 v3 v4 v5 σ → hW Γ 0 0 3 [(0, .ref v0), (1, .int v1), (2, .ref v2), (3, .ref v3), (4, .ref v4), (5, .int v5)] [] σ) {r15 : Nat → Int32 → Nat → Nat → Nat → Int32 → Int32 → St → Prop} (h15 : ∀ (v0 : Nat) (v1 : Int32) (v2 : Nat) (v3 : Nat) (v4 : Nat) (v5 : Int32) (v6 : Int32) (σ : St), r15 v0 v1 v2 v3 v4 v5 v6 σ → hW Γ 0 0 15 [(0, .ref v0), (1, .int v1), (2, .ref v2), (3, .ref v3), (4, .ref v4), (5, .int v5), (6, .int v6)] [] σ) (f : Nat) (v0 : Nat) (v1 : Int32) (v2 : Nat) (v3 : Nat) (v4 : Nat) (v5 : Int32) (v6 : Int32) (v7 : Int32) (σ : St) (hb : lX16_pairs_69 Q E r3 r15 f v0 v1 v2 v3 v4 v5 v6 v7 σ) : hW Γ 0 0 69 [(0, .ref v0), (1, .int v1), (2, .ref v2), (3, .ref v3), (4, .ref v4), (5, .int v5), (6, .int v6), (7, .int v7)] [] σ := by
  induction f generalizing v0 v1 v2 v3 v4 v5 v6 v7 σ with
  | zero => exact hb.elim
  | succ f ih => exact kwX16_pairs_69 C hΓ hne h3 h15 (fun v0 v1 v2 v3 v4 v5 v6 v7 σ h => ih v0 v1 v2 v3 v4 v5 v6 v7 σ h) _ _ _ _ _ _ _ _ _ hb
set_option maxRecDepth 20000 in
theorem kwX16_pairs_15 {Γ : hCT} (C : hC Γ RX16 cX16_pairs ((Option.none : Option Jvm.ClassFile.FieldType)) "pairs" 2 66) {Q : St → Prop} {E : St → Prop} (hΓ : Γ.2.2.2.2.2.2.2.2.2.2.2 = (9, 0, 0, oT (oV Q) E)) (hne : hNE Γ) {r3 : Nat → Int32 → Nat → Nat → Nat → Int32 → St → Prop} (h3 : ∀ (v0 : Nat) (v1 : Int32) (v2 : Nat) (v3 : Nat) (v4 : Nat) (v5 : Int32) (σ : St), r3 v0 v1 v2 v3 v4 v5 σ → hW Γ 0 0 3 [(0, .ref v0), (1, .int v1), (2, .ref v2), (3, .ref v3), (4, .ref v4), (5, .int v5)] [] σ) {r15 : Nat → Int32 → Nat → Nat → Nat → Int32 → Int32 → St → Prop} (h15 : ∀ (v0 : Nat) (v1 : Int32) (v2 : Nat) (v3 : Nat) (v4 : Nat) (v5 : Int32) (v6 : Int32) (σ : St), r15 v0 v1 v2 v3 v4 v5 v6 σ → hW Γ 0 0 15 [(0, .ref v0), (1, .int v1), (2, .ref v2), (3, .ref v3), (4, .ref v4), (5, .int v5), (6, .int v6)] [] σ) (v0 : Nat) (v1 : Int32) (v2 : Nat) (v3 : Nat) (v4 : Nat) (v5 : Int32) (v6 : Int32) (σ : St) (hb : wX16_pairs_15 Q E r3 r15 v0 v1 v2 v3 v4 v5 v6 σ) : hW Γ 0 0 15 [(0, .ref v0), (1, .int v1), (2, .ref v2), (3, .ref v3), (4, .ref v4), (5, .int v5), (6, .int v6)] [] σ := by
  unfold wX16_pairs_15 at hb
  refine g_iload C dX16_pairs_15 6 rfl ?_
  refine g_aload (some v4) C dX16_pairs_17 4 rfl ?_
  obtain ⟨q1, hb⟩ := hb
  refine g_getIx (zFi σ 896 v4) C fl_RX16_35 dX16_pairs_19 q1 rfl rfl rfl ?_
  refine g_icmp_ge (tgt := 236) C dX16_pairs_22 (by decide) (fun c => ?_) (fun c => ?_)
  ·
    replace hb := hb.1 (c)
    refine g_iinc (v := v5 + 1) (lv' := [(5, .int (v5 + 1)), (0, .ref v0), (1, .int v1), (2, .ref v2), (3, .ref v3), (4, .ref v4), (6, .int v6)]) C dX16_pairs_236 5 rfl rfl (hnl_of hΓ (by decide)) (by first | rfl | simp [cat_rf]) ?_
    refine g_goto (tgt := 3) C dX16_pairs_239 (by decide) ?_
    refine g_sub (lv' := [(0, .ref v0), (1, .int v1), (2, .ref v2), (3, .ref v3), (4, .ref v4), (5, .int (v5 + 1))]) [1, 2, 3, 4, 5, 0] rfl ?_
    exact h3 _ _ _ _ _ _ _ hb
  ·
    replace hb := hb.2 (c)
    refine g_aload_n (some v3) C dX16_pairs_25 3 rfl ?_
    obtain ⟨q2, hb⟩ := hb
    obtain ⟨a3, q4, hb⟩ := hb
    refine g_getR (some a3) C fl_RX16_239 dX16_pairs_26 q2 rfl rfl q4 ?_
    refine g_bipush (v := 6) C dX16_pairs_29 (by decide) ?_
    refine g_iload C dX16_pairs_31 5 rfl ?_
    refine g_imul C dX16_pairs_33 ?_
    refine g_aload_n (some v0) C dX16_pairs_34 0 rfl ?_
    obtain ⟨q5, hb⟩ := hb
    obtain ⟨a6, q7, hb⟩ := hb
    refine g_getR (some a6) C fl_RX16_149 dX16_pairs_35 q5 rfl rfl q7 ?_
    refine g_iload_n C dX16_pairs_38 1 rfl ?_
    obtain ⟨q8, hb⟩ := hb
    obtain ⟨q9, hb⟩ := hb
    refine g_ialdx (zAi σ a6 (ix v1)) C dX16_pairs_39 q8 q9 rfl ?_
    refine g_iadd C dX16_pairs_40 ?_
    obtain ⟨q10, hb⟩ := hb
    obtain ⟨q11, hb⟩ := hb
    refine g_ialdx (zAi σ a3 (ix ((6 * v5) + (zAi σ a6 (ix v1))))) C dX16_pairs_41 q10 q11 rfl ?_
    refine g_aload (some v4) C dX16_pairs_42 4 rfl ?_
    obtain ⟨a12, q13, hb⟩ := hb
    refine g_getR (some a12) C fl_RX16_239 dX16_pairs_44 q1 rfl rfl q13 ?_
    refine g_bipush (v := 6) C dX16_pairs_47 (by decide) ?_
    refine g_iload C dX16_pairs_49 6 rfl ?_
    refine g_imul C dX16_pairs_51 ?_
    refine g_aload_n (some v0) C dX16_pairs_52 0 rfl ?_
    obtain ⟨a14, q15, hb⟩ := hb
    refine g_getR (some a14) C fl_RX16_152 dX16_pairs_53 q5 rfl rfl q15 ?_
    refine g_iload_n C dX16_pairs_56 1 rfl ?_
    obtain ⟨q16, hb⟩ := hb
    obtain ⟨q17, hb⟩ := hb
    refine g_ialdx (zAi σ a14 (ix v1)) C dX16_pairs_57 q16 q17 rfl ?_
    refine g_iadd C dX16_pairs_58 ?_
    obtain ⟨q18, hb⟩ := hb
    obtain ⟨q19, hb⟩ := hb
    refine g_ialdx (zAi σ a12 (ix ((6 * v6) + (zAi σ a14 (ix v1))))) C dX16_pairs_59 q18 q19 rfl ?_
    refine g_icmp_eq (tgt := 66) C dX16_pairs_60 (by decide) (fun c => ?_) (fun c => ?_)
    ·
      replace hb := hb.1 (c)
      refine g_iconst (v := 0) C dX16_pairs_66 (by decide) ?_
      refine g_istore (lv' := [(7, .int 0), (0, .ref v0), (1, .int v1), (2, .ref v2), (3, .ref v3), (4, .ref v4), (5, .int v5), (6, .int v6)]) C dX16_pairs_67 (hnl_of hΓ (by decide)) (by first | rfl | simp [cat_rf]) ?_
      refine g_sub (lv' := [(0, .ref v0), (1, .int v1), (2, .ref v2), (3, .ref v3), (4, .ref v4), (5, .int v5), (6, .int v6), (7, .int 0)]) [1, 2, 3, 4, 5, 6, 7, 0] rfl ?_
      obtain ⟨f20, hb⟩ := hb
      exact klX16_pairs_69 C hΓ hne h3 h15 f20 _ _ _ _ _ _ _ _ _ hb
    ·
      replace hb := hb.2 (c)
      refine g_goto (tgt := 230) C dX16_pairs_63 (by decide) ?_
      refine g_iinc (v := v6 + 1) (lv' := [(6, .int (v6 + 1)), (0, .ref v0), (1, .int v1), (2, .ref v2), (3, .ref v3), (4, .ref v4), (5, .int v5)]) C dX16_pairs_230 6 rfl rfl (hnl_of hΓ (by decide)) (by first | rfl | simp [cat_rf]) ?_
      refine g_goto (tgt := 15) C dX16_pairs_233 (by decide) ?_
      refine g_sub (lv' := [(0, .ref v0), (1, .int v1), (2, .ref v2), (3, .ref v3), (4, .ref v4), (5, .int v5), (6, .int (v6 + 1))]) [1, 2, 3, 4, 5, 6, 0] rfl ?_
      exact h15 _ _ _ _ _ _ _ _ hb
theorem klX16_pairs_15 {Γ : hCT} (C : hC Γ RX16 cX16_pairs ((Option.none : Option Jvm.ClassFile.FieldType)) "pairs" 2 66) {Q : St → Prop} {E : St → Prop} (hΓ : Γ.2.2.2.2.2.2.2.2.2.2.2 = (9, 0, 0, oT (oV Q) E)) (hne : hNE Γ) {r3 : Nat → Int32 → Nat → Nat → Nat → Int32 → St → Prop} (h3 : ∀ (v0 : Nat) (v1 : Int32) (v2 : Nat) (v3 : Nat) (v4 : Nat) (v5 : Int32) (σ : St), r3 v0 v1 v2 v3 v4 v5 σ → hW Γ 0 0 3 [(0, .ref v0), (1, .int v1), (2, .ref v2), (3, .ref v3), (4, .ref v4), (5, .int v5)] [] σ) (f : Nat) (v0 : Nat) (v1 : Int32) (v2 : Nat) (v3 : Nat) (v4 : Nat) (v5 : Int32) (v6 : Int32) (σ : St) (hb : lX16_pairs_15 Q E r3 f v0 v1 v2 v3 v4 v5 v6 σ) : hW Γ 0 0 15 [(0, .ref v0), (1, .int v1), (2, .ref v2), (3, .ref v3), (4, .ref v4), (5, .int v5), (6, .int v6)] [] σ := by
  induction f generalizing v0 v1 v2 v3 v4 v5 v6 σ with
  | zero => exact hb.elim
  | succ f ih => exact kwX16_pairs_15 C hΓ hne h3 (fun v0 v1 v2 v3 v4 v5 v6 σ h => ih v0 v1 v2 v3 v4 v5 v6 σ h) _ _ _ _ _ _ _ _ hb
set_option maxRecDepth 20000 in
theorem kwX16_pairs_3 {Γ : hCT} (C : hC Γ RX16 cX16_pairs ((Option.none : Option Jvm.ClassFile.FieldType)) "pairs" 2 66) {Q : St → Prop} {E : St → Prop} (hΓ : Γ.2.2.2.2.2.2.2.2.2.2.2 = (9, 0, 0, oT (oV Q) E)) (hne : hNE Γ) {r3 : Nat → Int32 → Nat → Nat → Nat → Int32 → St → Prop} (h3 : ∀ (v0 : Nat) (v1 : Int32) (v2 : Nat) (v3 : Nat) (v4 : Nat) (v5 : Int32) (σ : St), r3 v0 v1 v2 v3 v4 v5 σ → hW Γ 0 0 3 [(0, .ref v0), (1, .int v1), (2, .ref v2), (3, .ref v3), (4, .ref v4), (5, .int v5)] [] σ) (v0 : Nat) (v1 : Int32) (v2 : Nat) (v3 : Nat) (v4 : Nat) (v5 : Int32) (σ : St) (hb : wX16_pairs_3 Q E r3 v0 v1 v2 v3 v4 v5 σ) : hW Γ 0 0 3 [(0, .ref v0), (1, .int v1), (2, .ref v2), (3, .ref v3), (4, .ref v4), (5, .int v5)] [] σ := by
  unfold wX16_pairs_3 at hb
  refine g_iload C dX16_pairs_3 5 rfl ?_
  refine g_aload_n (some v3) C dX16_pairs_5 3 rfl ?_
  obtain ⟨q1, hb⟩ := hb
  refine g_getIx (zFi σ 896 v3) C fl_RX16_35 dX16_pairs_6 q1 rfl rfl rfl ?_
  refine g_icmp_ge (tgt := 242) C dX16_pairs_9 (by decide) (fun c => ?_) (fun c => ?_)
  ·
    replace hb := hb.1 (c)
    exact g_vreturn C hΓ (Nat.zero_le _) (Nat.zero_le _) dX16_pairs_242 (Or.inl ⟨rfl, hb⟩)
  ·
    replace hb := hb.2 (c)
    refine g_iconst (v := 0) C dX16_pairs_12 (by decide) ?_
    refine g_istore (lv' := [(6, .int 0), (0, .ref v0), (1, .int v1), (2, .ref v2), (3, .ref v3), (4, .ref v4), (5, .int v5)]) C dX16_pairs_13 (hnl_of hΓ (by decide)) (by first | rfl | simp [cat_rf]) ?_
    refine g_sub (lv' := [(0, .ref v0), (1, .int v1), (2, .ref v2), (3, .ref v3), (4, .ref v4), (5, .int v5), (6, .int 0)]) [1, 2, 3, 4, 5, 6, 0] rfl ?_
    obtain ⟨f2, hb⟩ := hb
    exact klX16_pairs_15 C hΓ hne h3 f2 _ _ _ _ _ _ _ _ hb
theorem klX16_pairs_3 {Γ : hCT} (C : hC Γ RX16 cX16_pairs ((Option.none : Option Jvm.ClassFile.FieldType)) "pairs" 2 66) {Q : St → Prop} {E : St → Prop} (hΓ : Γ.2.2.2.2.2.2.2.2.2.2.2 = (9, 0, 0, oT (oV Q) E)) (hne : hNE Γ) (f : Nat) (v0 : Nat) (v1 : Int32) (v2 : Nat) (v3 : Nat) (v4 : Nat) (v5 : Int32) (σ : St) (hb : lX16_pairs_3 Q E f v0 v1 v2 v3 v4 v5 σ) : hW Γ 0 0 3 [(0, .ref v0), (1, .int v1), (2, .ref v2), (3, .ref v3), (4, .ref v4), (5, .int v5)] [] σ := by
  induction f generalizing v0 v1 v2 v3 v4 v5 σ with
  | zero => exact hb.elim
  | succ f ih => exact kwX16_pairs_3 C hΓ hne  (fun v0 v1 v2 v3 v4 v5 σ h => ih v0 v1 v2 v3 v4 v5 σ h) _ _ _ _ _ _ _ hb
set_option maxRecDepth 20000 in
theorem kwX16_pairs_0 {Γ : hCT} (C : hC Γ RX16 cX16_pairs ((Option.none : Option Jvm.ClassFile.FieldType)) "pairs" 2 66) {Q : St → Prop} {E : St → Prop} (hΓ : Γ.2.2.2.2.2.2.2.2.2.2.2 = (9, 0, 0, oT (oV Q) E)) (hne : hNE Γ) (v0 : Nat) (v1 : Int32) (v2 : Nat) (v3 : Nat) (v4 : Nat) (σ : St) (hb : wX16_pairs_0 Q E v0 v1 v2 v3 v4 σ) : hW Γ 0 0 0 [(0, .ref v0), (1, .int v1), (2, .ref v2), (3, .ref v3), (4, .ref v4)] [] σ := by
  unfold wX16_pairs_0 at hb
  refine g_iconst (v := 0) C dX16_pairs_0 (by decide) ?_
  refine g_istore (lv' := [(5, .int 0), (0, .ref v0), (1, .int v1), (2, .ref v2), (3, .ref v3), (4, .ref v4)]) C dX16_pairs_1 (hnl_of hΓ (by decide)) (by first | rfl | simp [cat_rf]) ?_
  refine g_sub (lv' := [(0, .ref v0), (1, .int v1), (2, .ref v2), (3, .ref v3), (4, .ref v4), (5, .int 0)]) [1, 2, 3, 4, 5, 0] rfl ?_
  obtain ⟨f1, hb⟩ := hb
  exact klX16_pairs_3 C hΓ hne  f1 _ _ _ _ _ _ _ hb
theorem okX16_pairs {v0 : Nat} {v1 : Int32} {v2 : Nat} {v3 : Nat} {v4 : Nat} {σ : St} {Q : St → Prop} {E : St → Prop} (hb : wX16_pairs v0 v1 v2 v3 v4 σ Q E) : hM yX16_pairs cX16_pairs 9 ((Option.none : Option Jvm.ClassFile.FieldType)) 2 66 0 0 [.ref v0, .int v1, .ref v2, .ref v3, .ref v4] σ (oT (oV Q) E) :=
  hM_ofX (by decide) (Nat.le_of_ble_eq_true rfl) (fun Γ hΓ C hne => kwX16_pairs_0 C hΓ hne _ _ _ _ _ _ hb)
def wX16_copies_0 (Q : St → Prop) (E : St → Prop) (v0 : Nat) (v1 : Nat) (v2 : Int32) (v3 : Nat) (σ : St) : Prop :=
  zK σ v1 = 15 ∧ ∃ a2 : Nat, zFr σ 898 v1 = some a2 ∧ zK σ v0 = 17 ∧ wX16_adds v0 v3 a2 (6 * v2) σ (fun y6 σ5 => zK σ5 v0 = 17 ∧ wX16_pilesAll v0 v1 v2 (uFi σ5 1054 v0 0) (fun σ8 => zK σ8 v0 = 17 ∧ wX16_lays v0 v3 y6 σ8 (fun y11 σ10 => zK σ10 v1 = 15 ∧ ∃ a13 : Nat, zFr σ10 902 v1 = some a13 ∧ zK σ10 a13 = 21 ∧ vp_in v2 (zL σ10 a13) ∧ ∃ a17 : Nat, zFr σ10 900 v1 = some a17 ∧ zK σ10 a17 = 20 ∧ vp_in v2 (zL σ10 a17) ∧ ∃ a21 : Nat, zFr σ10 903 v1 = some a21 ∧ zK σ10 a21 = 22 ∧ vp_in v2 (zL σ10 a21) ∧ wX16_weighs_ v3 y6 (zAj σ10 a13 (ix v2)) (zAi σ10 a17 (ix v2)) (zAd σ10 a21 (ix v2)) σ10 (fun σ25 => Q σ25)) E)) E
def wX16_copies (v0 : Nat) (v1 : Nat) (v2 : Int32) (v3 : Nat) (σ : St) (Q : St → Prop) (E : St → Prop) : Prop := wX16_copies_0 Q E v0 v1 v2 v3 σ
set_option maxRecDepth 20000 in
theorem kwX16_copies_0 {Γ : hCT} (C : hC Γ RX16 cX16_copies ((Option.none : Option Jvm.ClassFile.FieldType)) "copies" 2 66) {Q : St → Prop} {E : St → Prop} (hΓ : Γ.2.2.2.2.2.2.2.2.2.2.2 = (6, 0, 0, oT (oV Q) E)) (hne : hNE Γ) (v0 : Nat) (v1 : Nat) (v2 : Int32) (v3 : Nat) (σ : St) (hb : wX16_copies_0 Q E v0 v1 v2 v3 σ) : hW Γ 0 0 0 [(0, .ref v0), (1, .ref v1), (2, .int v2), (3, .ref v3)] [] σ := by
  unfold wX16_copies_0 at hb
  refine g_aload_n (some v0) C dX16_copies_0 0 rfl ?_
  refine g_aload_n (some v3) C dX16_copies_1 3 rfl ?_
  refine g_aload_n (some v1) C dX16_copies_2 1 rfl ?_
  obtain ⟨q1, hb⟩ := hb
  obtain ⟨a2, q3, hb⟩ := hb
  refine g_getR (some a2) C fl_RX16_239 dX16_copies_3 q1 rfl rfl q3 ?_
  refine g_bipush (v := 6) C dX16_copies_6 (by decide) ?_
  refine g_iload_n C dX16_copies_8 2 rfl ?_
  refine g_imul C dX16_copies_9 ?_
  obtain ⟨q4, hb⟩ := hb
  refine g_invXV (ci := 16) [.ref v3, .ref a2, .int (6 * v2)] [] zy_X16_adds wd_1409 wd_1411 wd_49 ⟨_, _, rfl⟩ (by decide) C dX16_copies_10 (by first | exact Nat.le_of_ble_eq_true rfl | simp [cat_rf]) (by first | exact Nat.le_of_ble_eq_true rfl | simp [cat_rf]) (by first | exact Nat.le_of_ble_eq_true rfl | simp [cat_rf]) (Nat.zero_le _) (Nat.zero_le _) rfl rfl q4 hΓ hne (okX16_adds hb) ?_
  rintro o σ5 ((⟨y6, rfl, hb⟩) | ⟨x, rfl, hx, hb⟩)
  case inr => exact Or.inr ⟨x, rfl, g_thrown hΓ hx hb⟩
  refine Or.inl ⟨_, rfl, ?_⟩
  refine g_istore (lv' := [(4, .int y6), (0, .ref v0), (1, .ref v1), (2, .int v2), (3, .ref v3)]) C dX16_copies_13 (hnl_of hΓ (by decide)) (by first | rfl | simp [cat_rf]) ?_
  refine g_aload_n (some v0) C dX16_copies_15 1 rfl ?_
  refine g_iconst (v := 0) C dX16_copies_16 (by decide) ?_
  obtain ⟨q7, hb⟩ := hb
  refine g_putI C fl_RX16_223 dX16_copies_17 q7 rfl rfl rfl rfl ?_
  refine g_aload_n (some v0) C dX16_copies_20 1 rfl ?_
  refine g_aload_n (some v1) C dX16_copies_21 2 rfl ?_
  refine g_iload_n C dX16_copies_22 3 rfl ?_
  refine g_invV (ci := 16) [.ref v1, .int v2] [] zy_X16_pilesAll wd_1414 wd_1416 wd_50 ⟨_, _, rfl⟩ (by decide) C dX16_copies_23 (by first | exact Nat.le_of_ble_eq_true rfl | simp [cat_rf]) (by first | exact Nat.le_of_ble_eq_true rfl | simp [cat_rf]) (by first | exact Nat.le_of_ble_eq_true rfl | simp [cat_rf]) (Nat.zero_le _) (Nat.zero_le _) rfl rfl (by rw [zK_uFi]; exact q7) (okX16_pilesAll hb) ?_
  rintro o σ8 ⟨rfl, hb⟩
  refine ⟨_, rfl, ?_⟩
  refine g_aload_n (some v0) C dX16_copies_26 1 rfl ?_
  refine g_aload_n (some v3) C dX16_copies_27 4 rfl ?_
  refine g_iload C dX16_copies_28 0 rfl ?_
  obtain ⟨q9, hb⟩ := hb
  refine g_invXV (ci := 16) [.ref v3, .int y6] [] zy_X16_lays wd_1422 wd_1424 wd_52 ⟨_, _, rfl⟩ (by decide) C dX16_copies_30 (by first | exact Nat.le_of_ble_eq_true rfl | simp [cat_rf]) (by first | exact Nat.le_of_ble_eq_true rfl | simp [cat_rf]) (by first | exact Nat.le_of_ble_eq_true rfl | simp [cat_rf]) (Nat.zero_le _) (Nat.zero_le _) rfl rfl q9 hΓ hne (okX16_lays hb) ?_
  rintro o σ10 ((⟨y11, rfl, hb⟩) | ⟨x, rfl, hx, hb⟩)
  case inr => exact Or.inr ⟨x, rfl, g_thrown hΓ hx hb⟩
  refine Or.inl ⟨_, rfl, ?_⟩
  refine g_istore (lv' := [(5, .int y11), (4, .int y6), (0, .ref v0), (1, .ref v1), (2, .int v2), (3, .ref v3)]) C dX16_copies_33 (hnl_of hΓ (by decide)) (by first | rfl | simp [cat_rf]) ?_
  refine g_aload_n (some v3) C dX16_copies_35 5 rfl ?_
  refine g_iload C dX16_copies_36 1 rfl ?_
  refine g_aload_n (some v1) C dX16_copies_38 3 rfl ?_
  obtain ⟨q12, hb⟩ := hb
  obtain ⟨a13, q14, hb⟩ := hb
  refine g_getR (some a13) C fl_RX16_242 dX16_copies_39 q12 rfl rfl q14 ?_
  refine g_iload_n C dX16_copies_42 4 rfl ?_
  obtain ⟨q15, hb⟩ := hb
  obtain ⟨q16, hb⟩ := hb
  refine g_laldx (zAj σ10 a13 (ix v2)) C dX16_copies_43 q15 q16 rfl ?_
  refine g_aload_n (some v1) C dX16_copies_44 3 rfl ?_
  obtain ⟨a17, q18, hb⟩ := hb
  refine g_getR (some a17) C fl_RX16_245 dX16_copies_45 q12 rfl rfl q18 ?_
  refine g_iload_n C dX16_copies_48 4 rfl ?_
  obtain ⟨q19, hb⟩ := hb
  obtain ⟨q20, hb⟩ := hb
  refine g_ialdx (zAi σ10 a17 (ix v2)) C dX16_copies_49 q19 q20 rfl ?_
  refine g_aload_n (some v1) C dX16_copies_50 3 rfl ?_
  obtain ⟨a21, q22, hb⟩ := hb
  refine g_getR (some a21) C fl_RX16_249 dX16_copies_51 q12 rfl rfl q22 ?_
  refine g_iload_n C dX16_copies_54 4 rfl ?_
  obtain ⟨q23, hb⟩ := hb
  obtain ⟨q24, hb⟩ := hb
  refine g_daldx (zAd σ10 a21 (ix v2)) C dX16_copies_55 q23 q24 rfl ?_
  refine g_invS [.ref v3, .int y6, .long (zAj σ10 a13 (ix v2)), .int (zAi σ10 a17 (ix v2)), .double (zAd σ10 a21 (ix v2))] [] zy_X16_weighs_ wd_1426 wd_1427 C dX16_copies_56 (by first | exact Nat.le_of_ble_eq_true rfl | simp [cat_rf]) (by first | exact Nat.le_of_ble_eq_true rfl | simp [cat_rf]) (by first | exact Nat.le_of_ble_eq_true rfl | simp [cat_rf]) (Nat.zero_le _) (Nat.zero_le _) rfl rfl  (okX16_weighs_ hb) ?_
  rintro o σ25 ⟨rfl, hb⟩
  refine ⟨_, rfl, ?_⟩
  exact g_vreturn C hΓ (Nat.zero_le _) (Nat.zero_le _) dX16_copies_59 (Or.inl ⟨rfl, hb⟩)
theorem okX16_copies {v0 : Nat} {v1 : Nat} {v2 : Int32} {v3 : Nat} {σ : St} {Q : St → Prop} {E : St → Prop} (hb : wX16_copies v0 v1 v2 v3 σ Q E) : hM yX16_copies cX16_copies 6 ((Option.none : Option Jvm.ClassFile.FieldType)) 2 66 0 0 [.ref v0, .ref v1, .int v2, .ref v3] σ (oT (oV Q) E) :=
  hM_ofX (by decide) (Nat.le_of_ble_eq_true rfl) (fun Γ hΓ C hne => kwX16_copies_0 C hΓ hne _ _ _ _ _ hb)
def wX16_eithers_140 (Q : St → Prop) (E : St → Prop) (r140 : Nat → Nat → Nat → Nat → Int32 → St → Prop) (v0 : Nat) (v1 : Nat) (v2 : Nat) (v3 : Nat) (v4 : Int32) (σ : St) : Prop :=
  zK σ v3 = 15 ∧ (((zFi σ 896 v3) ≤ v4 → Q σ) ∧ (¬ (zFi σ 896 v3) ≤ v4 → ∃ a2 : Nat, zFr σ 898 v3 = some a2 ∧ zK σ v2 = 15 ∧ wX14_find v2 a2 (6 * v4) σ (fun y6 σ5 => ((¬ y6 = ((-1) : Int32) → r140 v0 v1 v2 v3 (v4 + 1) σ5) ∧ (y6 = ((-1) : Int32) → zK σ5 v0 = 17 ∧ wX16_copies v0 v3 v4 v1 σ5 (fun σ8 => r140 v0 v1 v2 v3 (v4 + 1) σ8) E)))))
def lX16_eithers_140 (Q : St → Prop) (E : St → Prop) : Nat → Nat → Nat → Nat → Nat → Int32 → St → Prop
  | 0, _, _, _, _, _, _ => False
  | f + 1, v0, v1, v2, v3, v4, σ => wX16_eithers_140 Q E (lX16_eithers_140 Q E f) v0 v1 v2 v3 v4 σ
def wX16_eithers_122 (Q : St → Prop) (E : St → Prop) (r3 : Nat → Nat → Nat → Nat → Int32 → St → Prop) (v0 : Nat) (v1 : Nat) (v2 : Nat) (v3 : Nat) (v4 : Int32) (v6 : Int32) (σ : St) : Prop :=
  zK σ v0 = 17 ∧ wX16_lays v0 v1 v6 σ (fun y3 σ2 => r3 v0 v1 v2 v3 (v4 + 1) σ2) E
def wX16_eithers_3 (Q : St → Prop) (E : St → Prop) (r3 : Nat → Nat → Nat → Nat → Int32 → St → Prop) (v0 : Nat) (v1 : Nat) (v2 : Nat) (v3 : Nat) (v4 : Int32) (σ : St) : Prop :=
  zK σ v2 = 15 ∧ (((zFi σ 896 v2) ≤ v4 → ∃ f, lX16_eithers_140 Q E f v0 v1 v2 v3 0 σ) ∧ (¬ (zFi σ 896 v2) ≤ v4 → ∃ a3 : Nat, zFr σ 898 v2 = some a3 ∧ zK σ v3 = 15 ∧ wX14_find v3 a3 (6 * v4) σ (fun y7 σ6 => zK σ6 v2 = 15 ∧ ∃ a9 : Nat, zFr σ6 898 v2 = some a9 ∧ zK σ6 v0 = 17 ∧ wX16_adds v0 v1 a9 (6 * v4) σ6 (fun y13 σ12 => zK σ12 v0 = 17 ∧ wX16_pilesAll v0 v2 v4 (uFi σ12 1054 v0 0) (fun σ15 => zK σ15 v2 = 15 ∧ ∃ a17 : Nat, zFr σ15 902 v2 = some a17 ∧ zK σ15 a17 = 21 ∧ vp_in v4 (zL σ15 a17) ∧ ∃ a21 : Nat, zFr σ15 900 v2 = some a21 ∧ zK σ15 a21 = 20 ∧ vp_in v4 (zL σ15 a21) ∧ ∃ a25 : Nat, zFr σ15 903 v2 = some a25 ∧ zK σ15 a25 = 22 ∧ vp_in v4 (zL σ15 a25) ∧ wX16_weighs_ v1 y13 (zAj σ15 a17 (ix v4)) (zAi σ15 a21 (ix v4)) (zAd σ15 a25 (ix v4)) σ15 (fun σ29 => ((y7 = ((-1) : Int32) → wX16_eithers_122 Q E r3 v0 v1 v2 v3 v4 y13 σ29) ∧ (¬ y7 = ((-1) : Int32) → zK σ29 v0 = 17 ∧ wX16_pilesAll v0 v3 y7 σ29 (fun σ31 => zK σ31 v3 = 15 ∧ ∃ a33 : Nat, zFr σ31 902 v3 = some a33 ∧ zK σ31 a33 = 21 ∧ vp_in y7 (zL σ31 a33) ∧ ∃ a37 : Nat, zFr σ31 900 v3 = some a37 ∧ zK σ31 a37 = 20 ∧ vp_in y7 (zL σ31 a37) ∧ ∃ a41 : Nat, zFr σ31 903 v3 = some a41 ∧ zK σ31 a41 = 22 ∧ vp_in y7 (zL σ31 a41) ∧ wX16_weighs_ v1 y13 (zAj σ31 a33 (ix y7)) (zAi σ31 a37 (ix y7)) (zAd σ31 a41 (ix y7)) σ31 (fun σ45 => wX16_eithers_122 Q E r3 v0 v1 v2 v3 v4 y13 σ45))))))) E)))
def lX16_eithers_3 (Q : St → Prop) (E : St → Prop) : Nat → Nat → Nat → Nat → Nat → Int32 → St → Prop
  | 0, _, _, _, _, _, _ => False
  | f + 1, v0, v1, v2, v3, v4, σ => wX16_eithers_3 Q E (lX16_eithers_3 Q E f) v0 v1 v2 v3 v4 σ
def wX16_eithers_0 (Q : St → Prop) (E : St → Prop) (v0 : Nat) (v1 : Nat) (v2 : Nat) (v3 : Nat) (σ : St) : Prop :=
  ∃ f, lX16_eithers_3 Q E f v0 v1 v2 v3 0 σ
def wX16_eithers (v0 : Nat) (v1 : Nat) (v2 : Nat) (v3 : Nat) (σ : St) (Q : St → Prop) (E : St → Prop) : Prop := wX16_eithers_0 Q E v0 v1 v2 v3 σ
set_option maxRecDepth 20000 in
theorem kwX16_eithers_140 {Γ : hCT} (C : hC Γ RX16 cX16_eithers ((Option.none : Option Jvm.ClassFile.FieldType)) "eithers" 3 91) {Q : St → Prop} {E : St → Prop} (hΓ : Γ.2.2.2.2.2.2.2.2.2.2.2 = (8, 0, 0, oT (oV Q) E)) (hne : hNE Γ) {r140 : Nat → Nat → Nat → Nat → Int32 → St → Prop} (h140 : ∀ (v0 : Nat) (v1 : Nat) (v2 : Nat) (v3 : Nat) (v4 : Int32) (σ : St), r140 v0 v1 v2 v3 v4 σ → hW Γ 0 0 140 [(0, .ref v0), (1, .ref v1), (2, .ref v2), (3, .ref v3), (4, .int v4)] [] σ) (v0 : Nat) (v1 : Nat) (v2 : Nat) (v3 : Nat) (v4 : Int32) (σ : St) (hb : wX16_eithers_140 Q E r140 v0 v1 v2 v3 v4 σ) : hW Γ 0 0 140 [(0, .ref v0), (1, .ref v1), (2, .ref v2), (3, .ref v3), (4, .int v4)] [] σ := by
  unfold wX16_eithers_140 at hb
  refine g_iload C dX16_eithers_140 4 rfl ?_
  refine g_aload_n (some v3) C dX16_eithers_142 3 rfl ?_
  obtain ⟨q1, hb⟩ := hb
  refine g_getIx (zFi σ 896 v3) C fl_RX16_35 dX16_eithers_143 q1 rfl rfl rfl ?_
  refine g_icmp_ge (tgt := 180) C dX16_eithers_146 (by decide) (fun c => ?_) (fun c => ?_)
  ·
    replace hb := hb.1 (c)
    exact g_vreturn C hΓ (Nat.zero_le _) (Nat.zero_le _) dX16_eithers_180 (Or.inl ⟨rfl, hb⟩)
  ·
    replace hb := hb.2 (c)
    refine g_aload_n (some v2) C dX16_eithers_149 2 rfl ?_
    refine g_aload_n (some v3) C dX16_eithers_150 3 rfl ?_
    obtain ⟨a2, q3, hb⟩ := hb
    refine g_getR (some a2) C fl_RX16_239 dX16_eithers_151 q1 rfl rfl q3 ?_
    refine g_bipush (v := 6) C dX16_eithers_154 (by decide) ?_
    refine g_iload C dX16_eithers_156 4 rfl ?_
    refine g_imul C dX16_eithers_158 ?_
    obtain ⟨q4, hb⟩ := hb
    refine g_invV (ci := 14) [.ref a2, .int (6 * v4)] [] zy_X14_find wd_1405 wd_1406 wd_1407 ⟨_, _, rfl⟩ (by decide) C dX16_eithers_159 (by first | exact Nat.le_of_ble_eq_true rfl | simp [cat_rf]) (by first | exact Nat.le_of_ble_eq_true rfl | simp [cat_rf]) (by first | exact Nat.le_of_ble_eq_true rfl | simp [cat_rf]) (Nat.zero_le _) (Nat.zero_le _) rfl rfl q4 (okX14_find hb) ?_
    rintro o σ5 ⟨y6, rfl, hb⟩
    refine ⟨_, rfl, ?_⟩
    refine g_iconst (v := (-1)) C dX16_eithers_162 (by decide) ?_
    refine g_icmp_ne (tgt := 174) C dX16_eithers_163 (by decide) (fun c => ?_) (fun c => ?_)
    ·
      replace hb := hb.1 (c)
      refine g_iinc (v := v4 + 1) (lv' := [(4, .int (v4 + 1)), (0, .ref v0), (1, .ref v1), (2, .ref v2), (3, .ref v3)]) C dX16_eithers_174 4 rfl rfl (hnl_of hΓ (by decide)) (by first | rfl | simp [cat_rf]) ?_
      refine g_goto (tgt := 140) C dX16_eithers_177 (by decide) ?_
      refine g_sub (lv' := [(0, .ref v0), (1, .ref v1), (2, .ref v2), (3, .ref v3), (4, .int (v4 + 1))]) [1, 2, 3, 4, 0] rfl ?_
      exact h140 _ _ _ _ _ _ hb
    ·
      replace hb := hb.2 (c)
      refine g_aload_n (some v0) C dX16_eithers_166 0 rfl ?_
      refine g_aload_n (some v3) C dX16_eithers_167 3 rfl ?_
      refine g_iload C dX16_eithers_168 4 rfl ?_
      refine g_aload_n (some v1) C dX16_eithers_170 1 rfl ?_
      obtain ⟨q7, hb⟩ := hb
      refine g_invXV (ci := 16) [.ref v3, .int v4, .ref v1] [] zy_X16_copies wd_1458 wd_1460 wd_57 ⟨_, _, rfl⟩ (by decide) C dX16_eithers_171 (by first | exact Nat.le_of_ble_eq_true rfl | simp [cat_rf]) (by first | exact Nat.le_of_ble_eq_true rfl | simp [cat_rf]) (by first | exact Nat.le_of_ble_eq_true rfl | simp [cat_rf]) (Nat.zero_le _) (Nat.zero_le _) rfl rfl q7 hΓ hne (okX16_copies hb) ?_
      rintro o σ8 ((⟨rfl, hb⟩) | ⟨x, rfl, hx, hb⟩)
      case inr => exact Or.inr ⟨x, rfl, g_thrown hΓ hx hb⟩
      refine Or.inl ⟨_, rfl, ?_⟩
      refine g_iinc (v := v4 + 1) (lv' := [(4, .int (v4 + 1)), (0, .ref v0), (1, .ref v1), (2, .ref v2), (3, .ref v3)]) C dX16_eithers_174 4 rfl rfl (hnl_of hΓ (by decide)) (by first | rfl | simp [cat_rf]) ?_
      refine g_goto (tgt := 140) C dX16_eithers_177 (by decide) ?_
      refine g_sub (lv' := [(0, .ref v0), (1, .ref v1), (2, .ref v2), (3, .ref v3), (4, .int (v4 + 1))]) [1, 2, 3, 4, 0] rfl ?_
      exact h140 _ _ _ _ _ _ hb
theorem klX16_eithers_140 {Γ : hCT} (C : hC Γ RX16 cX16_eithers ((Option.none : Option Jvm.ClassFile.FieldType)) "eithers" 3 91) {Q : St → Prop} {E : St → Prop} (hΓ : Γ.2.2.2.2.2.2.2.2.2.2.2 = (8, 0, 0, oT (oV Q) E)) (hne : hNE Γ) (f : Nat) (v0 : Nat) (v1 : Nat) (v2 : Nat) (v3 : Nat) (v4 : Int32) (σ : St) (hb : lX16_eithers_140 Q E f v0 v1 v2 v3 v4 σ) : hW Γ 0 0 140 [(0, .ref v0), (1, .ref v1), (2, .ref v2), (3, .ref v3), (4, .int v4)] [] σ := by
  induction f generalizing v0 v1 v2 v3 v4 σ with
  | zero => exact hb.elim
  | succ f ih => exact kwX16_eithers_140 C hΓ hne  (fun v0 v1 v2 v3 v4 σ h => ih v0 v1 v2 v3 v4 σ h) _ _ _ _ _ _ hb
set_option maxRecDepth 20000 in
theorem kwX16_eithers_122 {Γ : hCT} (C : hC Γ RX16 cX16_eithers ((Option.none : Option Jvm.ClassFile.FieldType)) "eithers" 3 91) {Q : St → Prop} {E : St → Prop} (hΓ : Γ.2.2.2.2.2.2.2.2.2.2.2 = (8, 0, 0, oT (oV Q) E)) (hne : hNE Γ) {r3 : Nat → Nat → Nat → Nat → Int32 → St → Prop} (h3 : ∀ (v0 : Nat) (v1 : Nat) (v2 : Nat) (v3 : Nat) (v4 : Int32) (σ : St), r3 v0 v1 v2 v3 v4 σ → hW Γ 0 0 3 [(0, .ref v0), (1, .ref v1), (2, .ref v2), (3, .ref v3), (4, .int v4)] [] σ) (v0 : Nat) (v1 : Nat) (v2 : Nat) (v3 : Nat) (v4 : Int32) (v6 : Int32) (σ : St) (hb : wX16_eithers_122 Q E r3 v0 v1 v2 v3 v4 v6 σ) : hW Γ 0 0 122 [(0, .ref v0), (1, .ref v1), (2, .ref v2), (3, .ref v3), (4, .int v4), (6, .int v6)] [] σ := by
  unfold wX16_eithers_122 at hb
  refine g_aload_n (some v0) C dX16_eithers_122 0 rfl ?_
  refine g_aload_n (some v1) C dX16_eithers_123 1 rfl ?_
  refine g_iload C dX16_eithers_124 5 rfl ?_
  obtain ⟨q1, hb⟩ := hb
  refine g_invXV (ci := 16) [.ref v1, .int v6] [] zy_X16_lays wd_1422 wd_1424 wd_52 ⟨_, _, rfl⟩ (by decide) C dX16_eithers_126 (by first | exact Nat.le_of_ble_eq_true rfl | simp [cat_rf]) (by first | exact Nat.le_of_ble_eq_true rfl | simp [cat_rf]) (by first | exact Nat.le_of_ble_eq_true rfl | simp [cat_rf]) (Nat.zero_le _) (Nat.zero_le _) rfl rfl q1 hΓ hne (okX16_lays hb) ?_
  rintro o σ2 ((⟨y3, rfl, hb⟩) | ⟨x, rfl, hx, hb⟩)
  case inr => exact Or.inr ⟨x, rfl, g_thrown hΓ hx hb⟩
  refine Or.inl ⟨_, rfl, ?_⟩
  refine g_istore (lv' := [(7, .int y3), (0, .ref v0), (1, .ref v1), (2, .ref v2), (3, .ref v3), (4, .int v4), (6, .int v6)]) C dX16_eithers_129 (hnl_of hΓ (by decide)) (by first | rfl | simp [cat_rf]) ?_
  refine g_iinc (v := v4 + 1) (lv' := [(4, .int (v4 + 1)), (7, .int y3), (0, .ref v0), (1, .ref v1), (2, .ref v2), (3, .ref v3), (6, .int v6)]) C dX16_eithers_131 5 rfl rfl (hnl_of hΓ (by decide)) (by first | rfl | simp [cat_rf]) ?_
  refine g_goto (tgt := 3) C dX16_eithers_134 (by decide) ?_
  refine g_sub (lv' := [(0, .ref v0), (1, .ref v1), (2, .ref v2), (3, .ref v3), (4, .int (v4 + 1))]) [2, 3, 4, 5, 0] rfl ?_
  exact h3 _ _ _ _ _ _ hb
set_option maxRecDepth 20000 in
theorem kwX16_eithers_3 {Γ : hCT} (C : hC Γ RX16 cX16_eithers ((Option.none : Option Jvm.ClassFile.FieldType)) "eithers" 3 91) {Q : St → Prop} {E : St → Prop} (hΓ : Γ.2.2.2.2.2.2.2.2.2.2.2 = (8, 0, 0, oT (oV Q) E)) (hne : hNE Γ) {r3 : Nat → Nat → Nat → Nat → Int32 → St → Prop} (h3 : ∀ (v0 : Nat) (v1 : Nat) (v2 : Nat) (v3 : Nat) (v4 : Int32) (σ : St), r3 v0 v1 v2 v3 v4 σ → hW Γ 0 0 3 [(0, .ref v0), (1, .ref v1), (2, .ref v2), (3, .ref v3), (4, .int v4)] [] σ) (v0 : Nat) (v1 : Nat) (v2 : Nat) (v3 : Nat) (v4 : Int32) (σ : St) (hb : wX16_eithers_3 Q E r3 v0 v1 v2 v3 v4 σ) : hW Γ 0 0 3 [(0, .ref v0), (1, .ref v1), (2, .ref v2), (3, .ref v3), (4, .int v4)] [] σ := by
  unfold wX16_eithers_3 at hb
  refine g_iload C dX16_eithers_3 4 rfl ?_
  refine g_aload_n (some v2) C dX16_eithers_5 2 rfl ?_
  obtain ⟨q1, hb⟩ := hb
  refine g_getIx (zFi σ 896 v2) C fl_RX16_35 dX16_eithers_6 q1 rfl rfl rfl ?_
  refine g_icmp_ge (tgt := 137) C dX16_eithers_9 (by decide) (fun c => ?_) (fun c => ?_)
  ·
    replace hb := hb.1 (c)
    refine g_iconst (v := 0) C dX16_eithers_137 (by decide) ?_
    refine g_istore (lv' := [(4, .int 0), (0, .ref v0), (1, .ref v1), (2, .ref v2), (3, .ref v3)]) C dX16_eithers_138 (hnl_of hΓ (by decide)) (by first | rfl | simp [cat_rf]) ?_
    refine g_sub (lv' := [(0, .ref v0), (1, .ref v1), (2, .ref v2), (3, .ref v3), (4, .int 0)]) [1, 2, 3, 4, 0] rfl ?_
    obtain ⟨f2, hb⟩ := hb
    exact klX16_eithers_140 C hΓ hne  f2 _ _ _ _ _ _ hb
  ·
    replace hb := hb.2 (c)
    refine g_aload_n (some v3) C dX16_eithers_12 3 rfl ?_
    refine g_aload_n (some v2) C dX16_eithers_13 2 rfl ?_
    obtain ⟨a3, q4, hb⟩ := hb
    refine g_getR (some a3) C fl_RX16_239 dX16_eithers_14 q1 rfl rfl q4 ?_
    refine g_bipush (v := 6) C dX16_eithers_17 (by decide) ?_
    refine g_iload C dX16_eithers_19 4 rfl ?_
    refine g_imul C dX16_eithers_21 ?_
    obtain ⟨q5, hb⟩ := hb
    refine g_invV (ci := 14) [.ref a3, .int (6 * v4)] [] zy_X14_find wd_1405 wd_1406 wd_1407 ⟨_, _, rfl⟩ (by decide) C dX16_eithers_22 (by first | exact Nat.le_of_ble_eq_true rfl | simp [cat_rf]) (by first | exact Nat.le_of_ble_eq_true rfl | simp [cat_rf]) (by first | exact Nat.le_of_ble_eq_true rfl | simp [cat_rf]) (Nat.zero_le _) (Nat.zero_le _) rfl rfl q5 (okX14_find hb) ?_
    rintro o σ6 ⟨y7, rfl, hb⟩
    refine ⟨_, rfl, ?_⟩
    refine g_istore (lv' := [(5, .int y7), (0, .ref v0), (1, .ref v1), (2, .ref v2), (3, .ref v3), (4, .int v4)]) C dX16_eithers_25 (hnl_of hΓ (by decide)) (by first | rfl | simp [cat_rf]) ?_
    refine g_aload_n (some v0) C dX16_eithers_27 1 rfl ?_
    refine g_aload_n (some v1) C dX16_eithers_28 2 rfl ?_
    refine g_aload_n (some v2) C dX16_eithers_29 3 rfl ?_
    obtain ⟨q8, hb⟩ := hb
    obtain ⟨a9, q10, hb⟩ := hb
    refine g_getR (some a9) C fl_RX16_239 dX16_eithers_30 q8 rfl rfl q10 ?_
    refine g_bipush (v := 6) C dX16_eithers_33 (by decide) ?_
    refine g_iload C dX16_eithers_35 5 rfl ?_
    refine g_imul C dX16_eithers_37 ?_
    obtain ⟨q11, hb⟩ := hb
    refine g_invXV (ci := 16) [.ref v1, .ref a9, .int (6 * v4)] [] zy_X16_adds wd_1409 wd_1411 wd_49 ⟨_, _, rfl⟩ (by decide) C dX16_eithers_38 (by first | exact Nat.le_of_ble_eq_true rfl | simp [cat_rf]) (by first | exact Nat.le_of_ble_eq_true rfl | simp [cat_rf]) (by first | exact Nat.le_of_ble_eq_true rfl | simp [cat_rf]) (Nat.zero_le _) (Nat.zero_le _) rfl rfl q11 hΓ hne (okX16_adds hb) ?_
    rintro o σ12 ((⟨y13, rfl, hb⟩) | ⟨x, rfl, hx, hb⟩)
    case inr => exact Or.inr ⟨x, rfl, g_thrown hΓ hx hb⟩
    refine Or.inl ⟨_, rfl, ?_⟩
    refine g_istore (lv' := [(6, .int y13), (5, .int y7), (0, .ref v0), (1, .ref v1), (2, .ref v2), (3, .ref v3), (4, .int v4)]) C dX16_eithers_41 (hnl_of hΓ (by decide)) (by first | rfl | simp [cat_rf]) ?_
    refine g_aload_n (some v0) C dX16_eithers_43 2 rfl ?_
    refine g_iconst (v := 0) C dX16_eithers_44 (by decide) ?_
    obtain ⟨q14, hb⟩ := hb
    refine g_putI C fl_RX16_223 dX16_eithers_45 q14 rfl rfl rfl rfl ?_
    refine g_aload_n (some v0) C dX16_eithers_48 2 rfl ?_
    refine g_aload_n (some v2) C dX16_eithers_49 4 rfl ?_
    refine g_iload C dX16_eithers_50 6 rfl ?_
    refine g_invV (ci := 16) [.ref v2, .int v4] [] zy_X16_pilesAll wd_1414 wd_1416 wd_50 ⟨_, _, rfl⟩ (by decide) C dX16_eithers_52 (by first | exact Nat.le_of_ble_eq_true rfl | simp [cat_rf]) (by first | exact Nat.le_of_ble_eq_true rfl | simp [cat_rf]) (by first | exact Nat.le_of_ble_eq_true rfl | simp [cat_rf]) (Nat.zero_le _) (Nat.zero_le _) rfl rfl (by rw [zK_uFi]; exact q14) (okX16_pilesAll hb) ?_
    rintro o σ15 ⟨rfl, hb⟩
    refine ⟨_, rfl, ?_⟩
    refine g_aload_n (some v1) C dX16_eithers_55 3 rfl ?_
    refine g_iload C dX16_eithers_56 0 rfl ?_
    refine g_aload_n (some v2) C dX16_eithers_58 4 rfl ?_
    obtain ⟨q16, hb⟩ := hb
    obtain ⟨a17, q18, hb⟩ := hb
    refine g_getR (some a17) C fl_RX16_242 dX16_eithers_59 q16 rfl rfl q18 ?_
    refine g_iload C dX16_eithers_62 6 rfl ?_
    obtain ⟨q19, hb⟩ := hb
    obtain ⟨q20, hb⟩ := hb
    refine g_laldx (zAj σ15 a17 (ix v4)) C dX16_eithers_64 q19 q20 rfl ?_
    refine g_aload_n (some v2) C dX16_eithers_65 4 rfl ?_
    obtain ⟨a21, q22, hb⟩ := hb
    refine g_getR (some a21) C fl_RX16_245 dX16_eithers_66 q16 rfl rfl q22 ?_
    refine g_iload C dX16_eithers_69 6 rfl ?_
    obtain ⟨q23, hb⟩ := hb
    obtain ⟨q24, hb⟩ := hb
    refine g_ialdx (zAi σ15 a21 (ix v4)) C dX16_eithers_71 q23 q24 rfl ?_
    refine g_aload_n (some v2) C dX16_eithers_72 4 rfl ?_
    obtain ⟨a25, q26, hb⟩ := hb
    refine g_getR (some a25) C fl_RX16_249 dX16_eithers_73 q16 rfl rfl q26 ?_
    refine g_iload C dX16_eithers_76 6 rfl ?_
    obtain ⟨q27, hb⟩ := hb
    obtain ⟨q28, hb⟩ := hb
    refine g_daldx (zAd σ15 a25 (ix v4)) C dX16_eithers_78 q27 q28 rfl ?_
    refine g_invS [.ref v1, .int y13, .long (zAj σ15 a17 (ix v4)), .int (zAi σ15 a21 (ix v4)), .double (zAd σ15 a25 (ix v4))] [] zy_X16_weighs_ wd_1426 wd_1427 C dX16_eithers_79 (by first | exact Nat.le_of_ble_eq_true rfl | simp [cat_rf]) (by first | exact Nat.le_of_ble_eq_true rfl | simp [cat_rf]) (by first | exact Nat.le_of_ble_eq_true rfl | simp [cat_rf]) (Nat.zero_le _) (Nat.zero_le _) rfl rfl  (okX16_weighs_ hb) ?_
    rintro o σ29 ⟨rfl, hb⟩
    refine ⟨_, rfl, ?_⟩
    refine g_iload C dX16_eithers_82 1 rfl ?_
    refine g_iconst (v := (-1)) C dX16_eithers_84 (by decide) ?_
    refine g_icmp_eq (tgt := 122) C dX16_eithers_85 (by decide) (fun c => ?_) (fun c => ?_)
    ·
      replace hb := hb.1 (c)
      refine g_sub (lv' := [(0, .ref v0), (1, .ref v1), (2, .ref v2), (3, .ref v3), (4, .int v4), (6, .int y13)]) [2, 3, 4, 5, 6, 0] rfl ?_
      exact kwX16_eithers_122 C hΓ hne h3 _ _ _ _ _ _ _ hb
    ·
      replace hb := hb.2 (c)
      refine g_aload_n (some v0) C dX16_eithers_88 2 rfl ?_
      refine g_aload_n (some v3) C dX16_eithers_89 5 rfl ?_
      refine g_iload C dX16_eithers_90 1 rfl ?_
      obtain ⟨q30, hb⟩ := hb
      refine g_invV (ci := 16) [.ref v3, .int y7] [] zy_X16_pilesAll wd_1414 wd_1416 wd_50 ⟨_, _, rfl⟩ (by decide) C dX16_eithers_92 (by first | exact Nat.le_of_ble_eq_true rfl | simp [cat_rf]) (by first | exact Nat.le_of_ble_eq_true rfl | simp [cat_rf]) (by first | exact Nat.le_of_ble_eq_true rfl | simp [cat_rf]) (Nat.zero_le _) (Nat.zero_le _) rfl rfl q30 (okX16_pilesAll hb) ?_
      rintro o σ31 ⟨rfl, hb⟩
      refine ⟨_, rfl, ?_⟩
      refine g_aload_n (some v1) C dX16_eithers_95 3 rfl ?_
      refine g_iload C dX16_eithers_96 0 rfl ?_
      refine g_aload_n (some v3) C dX16_eithers_98 5 rfl ?_
      obtain ⟨q32, hb⟩ := hb
      obtain ⟨a33, q34, hb⟩ := hb
      refine g_getR (some a33) C fl_RX16_242 dX16_eithers_99 q32 rfl rfl q34 ?_
      refine g_iload C dX16_eithers_102 1 rfl ?_
      obtain ⟨q35, hb⟩ := hb
      obtain ⟨q36, hb⟩ := hb
      refine g_laldx (zAj σ31 a33 (ix y7)) C dX16_eithers_104 q35 q36 rfl ?_
      refine g_aload_n (some v3) C dX16_eithers_105 5 rfl ?_
      obtain ⟨a37, q38, hb⟩ := hb
      refine g_getR (some a37) C fl_RX16_245 dX16_eithers_106 q32 rfl rfl q38 ?_
      refine g_iload C dX16_eithers_109 1 rfl ?_
      obtain ⟨q39, hb⟩ := hb
      obtain ⟨q40, hb⟩ := hb
      refine g_ialdx (zAi σ31 a37 (ix y7)) C dX16_eithers_111 q39 q40 rfl ?_
      refine g_aload_n (some v3) C dX16_eithers_112 5 rfl ?_
      obtain ⟨a41, q42, hb⟩ := hb
      refine g_getR (some a41) C fl_RX16_249 dX16_eithers_113 q32 rfl rfl q42 ?_
      refine g_iload C dX16_eithers_116 1 rfl ?_
      obtain ⟨q43, hb⟩ := hb
      obtain ⟨q44, hb⟩ := hb
      refine g_daldx (zAd σ31 a41 (ix y7)) C dX16_eithers_118 q43 q44 rfl ?_
      refine g_invS [.ref v1, .int y13, .long (zAj σ31 a33 (ix y7)), .int (zAi σ31 a37 (ix y7)), .double (zAd σ31 a41 (ix y7))] [] zy_X16_weighs_ wd_1426 wd_1427 C dX16_eithers_119 (by first | exact Nat.le_of_ble_eq_true rfl | simp [cat_rf]) (by first | exact Nat.le_of_ble_eq_true rfl | simp [cat_rf]) (by first | exact Nat.le_of_ble_eq_true rfl | simp [cat_rf]) (Nat.zero_le _) (Nat.zero_le _) rfl rfl  (okX16_weighs_ hb) ?_
      rintro o σ45 ⟨rfl, hb⟩
      refine ⟨_, rfl, ?_⟩
      refine g_sub (lv' := [(0, .ref v0), (1, .ref v1), (2, .ref v2), (3, .ref v3), (4, .int v4), (6, .int y13)]) [2, 3, 4, 5, 6, 0] rfl ?_
      exact kwX16_eithers_122 C hΓ hne h3 _ _ _ _ _ _ _ hb
theorem klX16_eithers_3 {Γ : hCT} (C : hC Γ RX16 cX16_eithers ((Option.none : Option Jvm.ClassFile.FieldType)) "eithers" 3 91) {Q : St → Prop} {E : St → Prop} (hΓ : Γ.2.2.2.2.2.2.2.2.2.2.2 = (8, 0, 0, oT (oV Q) E)) (hne : hNE Γ) (f : Nat) (v0 : Nat) (v1 : Nat) (v2 : Nat) (v3 : Nat) (v4 : Int32) (σ : St) (hb : lX16_eithers_3 Q E f v0 v1 v2 v3 v4 σ) : hW Γ 0 0 3 [(0, .ref v0), (1, .ref v1), (2, .ref v2), (3, .ref v3), (4, .int v4)] [] σ := by
  induction f generalizing v0 v1 v2 v3 v4 σ with
  | zero => exact hb.elim
  | succ f ih => exact kwX16_eithers_3 C hΓ hne  (fun v0 v1 v2 v3 v4 σ h => ih v0 v1 v2 v3 v4 σ h) _ _ _ _ _ _ hb
set_option maxRecDepth 20000 in
theorem kwX16_eithers_0 {Γ : hCT} (C : hC Γ RX16 cX16_eithers ((Option.none : Option Jvm.ClassFile.FieldType)) "eithers" 3 91) {Q : St → Prop} {E : St → Prop} (hΓ : Γ.2.2.2.2.2.2.2.2.2.2.2 = (8, 0, 0, oT (oV Q) E)) (hne : hNE Γ) (v0 : Nat) (v1 : Nat) (v2 : Nat) (v3 : Nat) (σ : St) (hb : wX16_eithers_0 Q E v0 v1 v2 v3 σ) : hW Γ 0 0 0 [(0, .ref v0), (1, .ref v1), (2, .ref v2), (3, .ref v3)] [] σ := by
  unfold wX16_eithers_0 at hb
  refine g_iconst (v := 0) C dX16_eithers_0 (by decide) ?_
  refine g_istore (lv' := [(4, .int 0), (0, .ref v0), (1, .ref v1), (2, .ref v2), (3, .ref v3)]) C dX16_eithers_1 (hnl_of hΓ (by decide)) (by first | rfl | simp [cat_rf]) ?_
  refine g_sub (lv' := [(0, .ref v0), (1, .ref v1), (2, .ref v2), (3, .ref v3), (4, .int 0)]) [1, 2, 3, 4, 0] rfl ?_
  obtain ⟨f1, hb⟩ := hb
  exact klX16_eithers_3 C hΓ hne  f1 _ _ _ _ _ _ hb
theorem okX16_eithers {v0 : Nat} {v1 : Nat} {v2 : Nat} {v3 : Nat} {σ : St} {Q : St → Prop} {E : St → Prop} (hb : wX16_eithers v0 v1 v2 v3 σ Q E) : hM yX16_eithers cX16_eithers 8 ((Option.none : Option Jvm.ClassFile.FieldType)) 3 91 0 0 [.ref v0, .ref v1, .ref v2, .ref v3] σ (oT (oV Q) E) :=
  hM_ofX (by decide) (Nat.le_of_ble_eq_true rfl) (fun Γ hΓ C hne => kwX16_eithers_0 C hΓ hne _ _ _ _ _ hb)
def wX16_becomes_72 (Q : St → Prop) (r72 : Nat → Nat → Int32 → St → Prop) (v0 : Nat) (v1 : Nat) (v2 : Int32) (σ : St) : Prop :=
  (((32 : Int32) ≤ v2 → Q σ) ∧ (¬ (32 : Int32) ≤ v2 → zK σ v0 = 15 ∧ ∃ a2 : Nat, zFr σ 899 v0 = some a2 ∧ zK σ v1 = 15 ∧ ∃ a5 : Nat, zFr σ 899 v1 = some a5 ∧ zK σ a5 = 20 ∧ vp_in v2 (zL σ a5) ∧ zK σ a2 = 20 ∧ vp_in v2 (zL σ a2) ∧ ∃ a11 : Nat, zFr σ 902 v0 = some a11 ∧ ∃ a13 : Nat, zFr σ 902 v1 = some a13 ∧ zK σ a13 = 21 ∧ vp_in v2 (zL σ a13) ∧ zK σ a11 = 21 ∧ vp_in v2 (zL σ a11) ∧ ∃ a19 : Nat, zFr σ 900 v0 = some a19 ∧ ∃ a21 : Nat, zFr σ 900 v1 = some a21 ∧ zK σ a21 = 20 ∧ vp_in v2 (zL σ a21) ∧ zK σ a19 = 20 ∧ vp_in v2 (zL σ a19) ∧ ∃ a27 : Nat, zFr σ 903 v0 = some a27 ∧ ∃ a29 : Nat, zFr σ 903 v1 = some a29 ∧ zK σ a29 = 22 ∧ vp_in v2 (zL σ a29) ∧ zK σ a27 = 22 ∧ vp_in v2 (zL σ a27) ∧ r72 v0 v1 (v2 + 1) (uAd (uAi (uAj (uAi σ a2 (ix v2) (zAi σ a5 (ix v2))) a11 (ix v2) (zAj σ a13 (ix v2))) a19 (ix v2) (zAi (uAi σ a2 (ix v2) (zAi σ a5 (ix v2))) a21 (ix v2))) a27 (ix v2) (zAd σ a29 (ix v2)))))
def lX16_becomes_72 (Q : St → Prop) : Nat → Nat → Nat → Int32 → St → Prop
  | 0, _, _, _, _ => False
  | f + 1, v0, v1, v2, σ => wX16_becomes_72 Q (lX16_becomes_72 Q f) v0 v1 v2 σ
def wX16_becomes_45 (Q : St → Prop) (r45 : Nat → Nat → Int32 → St → Prop) (v0 : Nat) (v1 : Nat) (v2 : Int32) (σ : St) : Prop :=
  (((512 : Int32) ≤ v2 → ∃ f, lX16_becomes_72 Q f v0 v1 0 σ) ∧ (¬ (512 : Int32) ≤ v2 → zK σ v0 = 15 ∧ ∃ a3 : Nat, zFr σ 901 v0 = some a3 ∧ zK σ v1 = 15 ∧ ∃ a6 : Nat, zFr σ 901 v1 = some a6 ∧ zK σ a6 = 21 ∧ vp_in v2 (zL σ a6) ∧ zK σ a3 = 21 ∧ vp_in v2 (zL σ a3) ∧ r45 v0 v1 (v2 + 1) (uAj σ a3 (ix v2) (zAj σ a6 (ix v2)))))
def lX16_becomes_45 (Q : St → Prop) : Nat → Nat → Nat → Int32 → St → Prop
  | 0, _, _, _, _ => False
  | f + 1, v0, v1, v2, σ => wX16_becomes_45 Q (lX16_becomes_45 Q f) v0 v1 v2 σ
def wX16_becomes_18 (Q : St → Prop) (r18 : Nat → Nat → Int32 → St → Prop) (v0 : Nat) (v1 : Nat) (v2 : Int32) (σ : St) : Prop :=
  (((192 : Int32) ≤ v2 → ∃ f, lX16_becomes_45 Q f v0 v1 0 σ) ∧ (¬ (192 : Int32) ≤ v2 → zK σ v0 = 15 ∧ ∃ a3 : Nat, zFr σ 898 v0 = some a3 ∧ zK σ v1 = 15 ∧ ∃ a6 : Nat, zFr σ 898 v1 = some a6 ∧ zK σ a6 = 20 ∧ vp_in v2 (zL σ a6) ∧ zK σ a3 = 20 ∧ vp_in v2 (zL σ a3) ∧ r18 v0 v1 (v2 + 1) (uAi σ a3 (ix v2) (zAi σ a6 (ix v2)))))
def lX16_becomes_18 (Q : St → Prop) : Nat → Nat → Nat → Int32 → St → Prop
  | 0, _, _, _, _ => False
  | f + 1, v0, v1, v2, σ => wX16_becomes_18 Q (lX16_becomes_18 Q f) v0 v1 v2 σ
def wX16_becomes_0 (Q : St → Prop) (v0 : Nat) (v1 : Nat) (σ : St) : Prop :=
  zK σ v1 = 15 ∧ zK σ v0 = 15 ∧ ∃ f, lX16_becomes_18 Q f v0 v1 0 (uFi (uFi σ 896 v0 (zFi σ 896 v1)) 897 v0 (zFi (uFi σ 896 v0 (zFi σ 896 v1)) 897 v1))
def wX16_becomes (v0 : Nat) (v1 : Nat) (σ : St) (Q : St → Prop) : Prop := wX16_becomes_0 Q v0 v1 σ
set_option maxRecDepth 20000 in
theorem kwX16_becomes_72 {Γ : hCT} (C : hC Γ RX16 cX16_becomes ((Option.none : Option Jvm.ClassFile.FieldType)) "becomes" 0 0) {Q : St → Prop} (hΓ : Γ.2.2.2.2.2.2.2.2.2.2.2 = (3, 0, 0, oV Q)) {r72 : Nat → Nat → Int32 → St → Prop} (h72 : ∀ (v0 : Nat) (v1 : Nat) (v2 : Int32) (σ : St), r72 v0 v1 v2 σ → hW Γ 0 0 72 [(0, .ref v0), (1, .ref v1), (2, .int v2)] [] σ) (v0 : Nat) (v1 : Nat) (v2 : Int32) (σ : St) (hb : wX16_becomes_72 Q r72 v0 v1 v2 σ) : hW Γ 0 0 72 [(0, .ref v0), (1, .ref v1), (2, .int v2)] [] σ := by
  unfold wX16_becomes_72 at hb
  refine g_iload_n C dX16_becomes_72 2 rfl ?_
  refine g_bipush (v := 32) C dX16_becomes_73 (by decide) ?_
  refine g_icmp_ge (tgt := 132) C dX16_becomes_75 (by decide) (fun c => ?_) (fun c => ?_)
  ·
    replace hb := hb.1 (c)
    exact g_vreturn C hΓ (Nat.zero_le _) (Nat.zero_le _) dX16_becomes_132 ⟨rfl, hb⟩
  ·
    replace hb := hb.2 (c)
    refine g_aload_n (some v0) C dX16_becomes_78 0 rfl ?_
    obtain ⟨q1, hb⟩ := hb
    obtain ⟨a2, q3, hb⟩ := hb
    refine g_getR (some a2) C fl_RX16_226 dX16_becomes_79 q1 rfl rfl q3 ?_
    refine g_iload_n C dX16_becomes_82 2 rfl ?_
    refine g_aload_n (some v1) C dX16_becomes_83 1 rfl ?_
    obtain ⟨q4, hb⟩ := hb
    obtain ⟨a5, q6, hb⟩ := hb
    refine g_getR (some a5) C fl_RX16_226 dX16_becomes_84 q4 rfl rfl q6 ?_
    refine g_iload_n C dX16_becomes_87 2 rfl ?_
    obtain ⟨q7, hb⟩ := hb
    obtain ⟨q8, hb⟩ := hb
    refine g_ialdx (zAi σ a5 (ix v2)) C dX16_becomes_88 q7 q8 rfl ?_
    obtain ⟨q9, hb⟩ := hb
    obtain ⟨q10, hb⟩ := hb
    refine g_iast C dX16_becomes_89 q9 q10 ?_
    refine g_aload_n (some v0) C dX16_becomes_90 0 rfl ?_
    obtain ⟨a11, q12, hb⟩ := hb
    refine g_getR (some a11) C fl_RX16_242 dX16_becomes_91 (by rw [zK_uAi]; exact q1) rfl rfl (by rw [zFr_uAi]; exact q12) ?_
    refine g_iload_n C dX16_becomes_94 2 rfl ?_
    refine g_aload_n (some v1) C dX16_becomes_95 1 rfl ?_
    obtain ⟨a13, q14, hb⟩ := hb
    refine g_getR (some a13) C fl_RX16_242 dX16_becomes_96 (by rw [zK_uAi]; exact q4) rfl rfl (by rw [zFr_uAi]; exact q14) ?_
    refine g_iload_n C dX16_becomes_99 2 rfl ?_
    obtain ⟨q15, hb⟩ := hb
    obtain ⟨q16, hb⟩ := hb
    refine g_laldx (zAj σ a13 (ix v2)) C dX16_becomes_100 (by rw [zK_uAi]; exact q15) (by rw [zL_uAi]; exact q16) (by rw [zAj_uAi]) ?_
    obtain ⟨q17, hb⟩ := hb
    obtain ⟨q18, hb⟩ := hb
    refine g_last C dX16_becomes_101 (by rw [zK_uAi]; exact q17) (by rw [zL_uAi]; exact q18) ?_
    refine g_aload_n (some v0) C dX16_becomes_102 0 rfl ?_
    obtain ⟨a19, q20, hb⟩ := hb
    refine g_getR (some a19) C fl_RX16_245 dX16_becomes_103 (by rw [zK_uAj, zK_uAi]; exact q1) rfl rfl (by rw [zFr_uAj, zFr_uAi]; exact q20) ?_
    refine g_iload_n C dX16_becomes_106 2 rfl ?_
    refine g_aload_n (some v1) C dX16_becomes_107 1 rfl ?_
    obtain ⟨a21, q22, hb⟩ := hb
    refine g_getR (some a21) C fl_RX16_245 dX16_becomes_108 (by rw [zK_uAj, zK_uAi]; exact q4) rfl rfl (by rw [zFr_uAj, zFr_uAi]; exact q22) ?_
    refine g_iload_n C dX16_becomes_111 2 rfl ?_
    obtain ⟨q23, hb⟩ := hb
    obtain ⟨q24, hb⟩ := hb
    refine g_ialdx (zAi (uAi σ a2 (ix v2) (zAi σ a5 (ix v2))) a21 (ix v2)) C dX16_becomes_112 (by rw [zK_uAj, zK_uAi]; exact q23) (by rw [zL_uAj, zL_uAi]; exact q24) (by rw [zAi_uAj]) ?_
    obtain ⟨q25, hb⟩ := hb
    obtain ⟨q26, hb⟩ := hb
    refine g_iast C dX16_becomes_113 (by rw [zK_uAj, zK_uAi]; exact q25) (by rw [zL_uAj, zL_uAi]; exact q26) ?_
    refine g_aload_n (some v0) C dX16_becomes_114 0 rfl ?_
    obtain ⟨a27, q28, hb⟩ := hb
    refine g_getR (some a27) C fl_RX16_249 dX16_becomes_115 (by rw [zK_uAi, zK_uAj, zK_uAi]; exact q1) rfl rfl (by rw [zFr_uAi, zFr_uAj, zFr_uAi]; exact q28) ?_
    refine g_iload_n C dX16_becomes_118 2 rfl ?_
    refine g_aload_n (some v1) C dX16_becomes_119 1 rfl ?_
    obtain ⟨a29, q30, hb⟩ := hb
    refine g_getR (some a29) C fl_RX16_249 dX16_becomes_120 (by rw [zK_uAi, zK_uAj, zK_uAi]; exact q4) rfl rfl (by rw [zFr_uAi, zFr_uAj, zFr_uAi]; exact q30) ?_
    refine g_iload_n C dX16_becomes_123 2 rfl ?_
    obtain ⟨q31, hb⟩ := hb
    obtain ⟨q32, hb⟩ := hb
    refine g_daldx (zAd σ a29 (ix v2)) C dX16_becomes_124 (by rw [zK_uAi, zK_uAj, zK_uAi]; exact q31) (by rw [zL_uAi, zL_uAj, zL_uAi]; exact q32) (by rw [zAd_uAi, zAd_uAj, zAd_uAi]) ?_
    obtain ⟨q33, hb⟩ := hb
    obtain ⟨q34, hb⟩ := hb
    refine g_dast C dX16_becomes_125 (by rw [zK_uAi, zK_uAj, zK_uAi]; exact q33) (by rw [zL_uAi, zL_uAj, zL_uAi]; exact q34) ?_
    refine g_iinc (v := v2 + 1) (lv' := [(2, .int (v2 + 1)), (0, .ref v0), (1, .ref v1)]) C dX16_becomes_126 2 rfl rfl (hnl_of hΓ (by decide)) (by first | rfl | simp [cat_rf]) ?_
    refine g_goto (tgt := 72) C dX16_becomes_129 (by decide) ?_
    refine g_sub (lv' := [(0, .ref v0), (1, .ref v1), (2, .int (v2 + 1))]) [1, 2, 0] rfl ?_
    exact h72 _ _ _ _ hb
theorem klX16_becomes_72 {Γ : hCT} (C : hC Γ RX16 cX16_becomes ((Option.none : Option Jvm.ClassFile.FieldType)) "becomes" 0 0) {Q : St → Prop} (hΓ : Γ.2.2.2.2.2.2.2.2.2.2.2 = (3, 0, 0, oV Q)) (f : Nat) (v0 : Nat) (v1 : Nat) (v2 : Int32) (σ : St) (hb : lX16_becomes_72 Q f v0 v1 v2 σ) : hW Γ 0 0 72 [(0, .ref v0), (1, .ref v1), (2, .int v2)] [] σ := by
  induction f generalizing v0 v1 v2 σ with
  | zero => exact hb.elim
  | succ f ih => exact kwX16_becomes_72 C hΓ  (fun v0 v1 v2 σ h => ih v0 v1 v2 σ h) _ _ _ _ hb
set_option maxRecDepth 20000 in
theorem kwX16_becomes_45 {Γ : hCT} (C : hC Γ RX16 cX16_becomes ((Option.none : Option Jvm.ClassFile.FieldType)) "becomes" 0 0) {Q : St → Prop} (hΓ : Γ.2.2.2.2.2.2.2.2.2.2.2 = (3, 0, 0, oV Q)) {r45 : Nat → Nat → Int32 → St → Prop} (h45 : ∀ (v0 : Nat) (v1 : Nat) (v2 : Int32) (σ : St), r45 v0 v1 v2 σ → hW Γ 0 0 45 [(0, .ref v0), (1, .ref v1), (2, .int v2)] [] σ) (v0 : Nat) (v1 : Nat) (v2 : Int32) (σ : St) (hb : wX16_becomes_45 Q r45 v0 v1 v2 σ) : hW Γ 0 0 45 [(0, .ref v0), (1, .ref v1), (2, .int v2)] [] σ := by
  unfold wX16_becomes_45 at hb
  refine g_iload_n C dX16_becomes_45 2 rfl ?_
  refine g_sipush (v := 512) C dX16_becomes_46 (by decide) ?_
  refine g_icmp_ge (tgt := 70) C dX16_becomes_49 (by decide) (fun c => ?_) (fun c => ?_)
  ·
    replace hb := hb.1 (c)
    refine g_iconst (v := 0) C dX16_becomes_70 (by decide) ?_
    refine g_istore_n (i := 2) (lv' := [(2, .int 0), (0, .ref v0), (1, .ref v1)]) C dX16_becomes_71 rfl (hnl_of hΓ (by decide)) (by first | rfl | simp [cat_rf]) ?_
    refine g_sub (lv' := [(0, .ref v0), (1, .ref v1), (2, .int 0)]) [1, 2, 0] rfl ?_
    obtain ⟨f1, hb⟩ := hb
    exact klX16_becomes_72 C hΓ  f1 _ _ _ _ hb
  ·
    replace hb := hb.2 (c)
    refine g_aload_n (some v0) C dX16_becomes_52 0 rfl ?_
    obtain ⟨q2, hb⟩ := hb
    obtain ⟨a3, q4, hb⟩ := hb
    refine g_getR (some a3) C fl_RX16_229 dX16_becomes_53 q2 rfl rfl q4 ?_
    refine g_iload_n C dX16_becomes_56 2 rfl ?_
    refine g_aload_n (some v1) C dX16_becomes_57 1 rfl ?_
    obtain ⟨q5, hb⟩ := hb
    obtain ⟨a6, q7, hb⟩ := hb
    refine g_getR (some a6) C fl_RX16_229 dX16_becomes_58 q5 rfl rfl q7 ?_
    refine g_iload_n C dX16_becomes_61 2 rfl ?_
    obtain ⟨q8, hb⟩ := hb
    obtain ⟨q9, hb⟩ := hb
    refine g_laldx (zAj σ a6 (ix v2)) C dX16_becomes_62 q8 q9 rfl ?_
    obtain ⟨q10, hb⟩ := hb
    obtain ⟨q11, hb⟩ := hb
    refine g_last C dX16_becomes_63 q10 q11 ?_
    refine g_iinc (v := v2 + 1) (lv' := [(2, .int (v2 + 1)), (0, .ref v0), (1, .ref v1)]) C dX16_becomes_64 2 rfl rfl (hnl_of hΓ (by decide)) (by first | rfl | simp [cat_rf]) ?_
    refine g_goto (tgt := 45) C dX16_becomes_67 (by decide) ?_
    refine g_sub (lv' := [(0, .ref v0), (1, .ref v1), (2, .int (v2 + 1))]) [1, 2, 0] rfl ?_
    exact h45 _ _ _ _ hb
theorem klX16_becomes_45 {Γ : hCT} (C : hC Γ RX16 cX16_becomes ((Option.none : Option Jvm.ClassFile.FieldType)) "becomes" 0 0) {Q : St → Prop} (hΓ : Γ.2.2.2.2.2.2.2.2.2.2.2 = (3, 0, 0, oV Q)) (f : Nat) (v0 : Nat) (v1 : Nat) (v2 : Int32) (σ : St) (hb : lX16_becomes_45 Q f v0 v1 v2 σ) : hW Γ 0 0 45 [(0, .ref v0), (1, .ref v1), (2, .int v2)] [] σ := by
  induction f generalizing v0 v1 v2 σ with
  | zero => exact hb.elim
  | succ f ih => exact kwX16_becomes_45 C hΓ  (fun v0 v1 v2 σ h => ih v0 v1 v2 σ h) _ _ _ _ hb
set_option maxRecDepth 20000 in
theorem kwX16_becomes_18 {Γ : hCT} (C : hC Γ RX16 cX16_becomes ((Option.none : Option Jvm.ClassFile.FieldType)) "becomes" 0 0) {Q : St → Prop} (hΓ : Γ.2.2.2.2.2.2.2.2.2.2.2 = (3, 0, 0, oV Q)) {r18 : Nat → Nat → Int32 → St → Prop} (h18 : ∀ (v0 : Nat) (v1 : Nat) (v2 : Int32) (σ : St), r18 v0 v1 v2 σ → hW Γ 0 0 18 [(0, .ref v0), (1, .ref v1), (2, .int v2)] [] σ) (v0 : Nat) (v1 : Nat) (v2 : Int32) (σ : St) (hb : wX16_becomes_18 Q r18 v0 v1 v2 σ) : hW Γ 0 0 18 [(0, .ref v0), (1, .ref v1), (2, .int v2)] [] σ := by
  unfold wX16_becomes_18 at hb
  refine g_iload_n C dX16_becomes_18 2 rfl ?_
  refine g_sipush (v := 192) C dX16_becomes_19 (by decide) ?_
  refine g_icmp_ge (tgt := 43) C dX16_becomes_22 (by decide) (fun c => ?_) (fun c => ?_)
  ·
    replace hb := hb.1 (c)
    refine g_iconst (v := 0) C dX16_becomes_43 (by decide) ?_
    refine g_istore_n (i := 2) (lv' := [(2, .int 0), (0, .ref v0), (1, .ref v1)]) C dX16_becomes_44 rfl (hnl_of hΓ (by decide)) (by first | rfl | simp [cat_rf]) ?_
    refine g_sub (lv' := [(0, .ref v0), (1, .ref v1), (2, .int 0)]) [1, 2, 0] rfl ?_
    obtain ⟨f1, hb⟩ := hb
    exact klX16_becomes_45 C hΓ  f1 _ _ _ _ hb
  ·
    replace hb := hb.2 (c)
    refine g_aload_n (some v0) C dX16_becomes_25 0 rfl ?_
    obtain ⟨q2, hb⟩ := hb
    obtain ⟨a3, q4, hb⟩ := hb
    refine g_getR (some a3) C fl_RX16_239 dX16_becomes_26 q2 rfl rfl q4 ?_
    refine g_iload_n C dX16_becomes_29 2 rfl ?_
    refine g_aload_n (some v1) C dX16_becomes_30 1 rfl ?_
    obtain ⟨q5, hb⟩ := hb
    obtain ⟨a6, q7, hb⟩ := hb
    refine g_getR (some a6) C fl_RX16_239 dX16_becomes_31 q5 rfl rfl q7 ?_
    refine g_iload_n C dX16_becomes_34 2 rfl ?_
    obtain ⟨q8, hb⟩ := hb
    obtain ⟨q9, hb⟩ := hb
    refine g_ialdx (zAi σ a6 (ix v2)) C dX16_becomes_35 q8 q9 rfl ?_
    obtain ⟨q10, hb⟩ := hb
    obtain ⟨q11, hb⟩ := hb
    refine g_iast C dX16_becomes_36 q10 q11 ?_
    refine g_iinc (v := v2 + 1) (lv' := [(2, .int (v2 + 1)), (0, .ref v0), (1, .ref v1)]) C dX16_becomes_37 2 rfl rfl (hnl_of hΓ (by decide)) (by first | rfl | simp [cat_rf]) ?_
    refine g_goto (tgt := 18) C dX16_becomes_40 (by decide) ?_
    refine g_sub (lv' := [(0, .ref v0), (1, .ref v1), (2, .int (v2 + 1))]) [1, 2, 0] rfl ?_
    exact h18 _ _ _ _ hb
theorem klX16_becomes_18 {Γ : hCT} (C : hC Γ RX16 cX16_becomes ((Option.none : Option Jvm.ClassFile.FieldType)) "becomes" 0 0) {Q : St → Prop} (hΓ : Γ.2.2.2.2.2.2.2.2.2.2.2 = (3, 0, 0, oV Q)) (f : Nat) (v0 : Nat) (v1 : Nat) (v2 : Int32) (σ : St) (hb : lX16_becomes_18 Q f v0 v1 v2 σ) : hW Γ 0 0 18 [(0, .ref v0), (1, .ref v1), (2, .int v2)] [] σ := by
  induction f generalizing v0 v1 v2 σ with
  | zero => exact hb.elim
  | succ f ih => exact kwX16_becomes_18 C hΓ  (fun v0 v1 v2 σ h => ih v0 v1 v2 σ h) _ _ _ _ hb
set_option maxRecDepth 20000 in
theorem kwX16_becomes_0 {Γ : hCT} (C : hC Γ RX16 cX16_becomes ((Option.none : Option Jvm.ClassFile.FieldType)) "becomes" 0 0) {Q : St → Prop} (hΓ : Γ.2.2.2.2.2.2.2.2.2.2.2 = (3, 0, 0, oV Q)) (v0 : Nat) (v1 : Nat) (σ : St) (hb : wX16_becomes_0 Q v0 v1 σ) : hW Γ 0 0 0 [(0, .ref v0), (1, .ref v1)] [] σ := by
  unfold wX16_becomes_0 at hb
  refine g_aload_n (some v0) C dX16_becomes_0 0 rfl ?_
  refine g_aload_n (some v1) C dX16_becomes_1 1 rfl ?_
  obtain ⟨q1, hb⟩ := hb
  refine g_getIx (zFi σ 896 v1) C fl_RX16_35 dX16_becomes_2 q1 rfl rfl rfl ?_
  obtain ⟨q2, hb⟩ := hb
  refine g_putI C fl_RX16_35 dX16_becomes_5 q2 rfl rfl rfl rfl ?_
  refine g_aload_n (some v0) C dX16_becomes_8 0 rfl ?_
  refine g_aload_n (some v1) C dX16_becomes_9 1 rfl ?_
  refine g_getIx (zFi (uFi σ 896 v0 (zFi σ 896 v1)) 897 v1) C fl_RX16_236 dX16_becomes_10 (by rw [zK_uFi]; exact q1) rfl rfl rfl ?_
  refine g_putI C fl_RX16_236 dX16_becomes_13 (by rw [zK_uFi]; exact q2) rfl rfl rfl rfl ?_
  refine g_iconst (v := 0) C dX16_becomes_16 (by decide) ?_
  refine g_istore_n (i := 2) (lv' := [(2, .int 0), (0, .ref v0), (1, .ref v1)]) C dX16_becomes_17 rfl (hnl_of hΓ (by decide)) (by first | rfl | simp [cat_rf]) ?_
  refine g_sub (lv' := [(0, .ref v0), (1, .ref v1), (2, .int 0)]) [1, 2, 0] rfl ?_
  obtain ⟨f3, hb⟩ := hb
  exact klX16_becomes_18 C hΓ  f3 _ _ _ _ hb
theorem okX16_becomes {v0 : Nat} {v1 : Nat} {σ : St} {Q : St → Prop} (hb : wX16_becomes v0 v1 σ Q) : hM yX16_becomes cX16_becomes 3 ((Option.none : Option Jvm.ClassFile.FieldType)) 0 0 0 0 [.ref v0, .ref v1] σ (oV Q) :=
  hM_of (by decide) (Nat.le_of_ble_eq_true rfl) (fun Γ hΓ C => kwX16_becomes_0 C hΓ _ _ _ hb)
def wX16_chains_185 (Q : St → Prop) (r2 : Nat → Nat → Int32 → St → Prop) (r10 : Nat → Nat → Int32 → Int32 → St → Prop) (r21 : Nat → Nat → Int32 → Int32 → Int32 → St → Prop) (r60 : Nat → Nat → Int32 → Int32 → Int32 → Int32 → St → Prop) (v0 : Nat) (v1 : Nat) (v3 : Int32) (v4 : Int32) (v5 : Int32) (v6 : Int32) (v7 : UInt64) (σ : St) : Prop :=
  zK σ v0 = 15 ∧ ∃ a2 : Nat, zFr σ 900 v0 = some a2 ∧ zK σ a2 = 20 ∧ vp_in v5 (zL σ a2) ∧ ∃ a6 : Nat, zFr σ 903 v0 = some a6 ∧ zK σ a6 = 22 ∧ vp_in v5 (zL σ a6) ∧ FP.dIsNaN (zAd σ a6 (ix v5)) = false ∧ FP.dIsNaN v7 = false ∧ r60 v0 v1 1 v3 v4 (v5 + 1) (uAd (uAi σ a2 (ix v5) (if v6 < (zAi σ a2 (ix v5)) then v6 else (zAi σ a2 (ix v5)))) a6 (ix v5) (pkD true (zAd σ a6 (ix v5)) v7))
def wX16_chains_60 (Q : St → Prop) (r2 : Nat → Nat → Int32 → St → Prop) (r10 : Nat → Nat → Int32 → Int32 → St → Prop) (r21 : Nat → Nat → Int32 → Int32 → Int32 → St → Prop) (r60 : Nat → Nat → Int32 → Int32 → Int32 → Int32 → St → Prop) (v0 : Nat) (v1 : Nat) (v2 : Int32) (v3 : Int32) (v4 : Int32) (v5 : Int32) (σ : St) : Prop :=
  zK σ v0 = 15 ∧ (((zFi σ 896 v0) ≤ v5 → r21 v0 v1 v2 v3 (v4 + 1) σ) ∧ (¬ (zFi σ 896 v0) ≤ v5 → ∃ a2 : Nat, zFr σ 898 v0 = some a2 ∧ zK σ a2 = 20 ∧ vp_in (6 * v5) (zL σ a2) ∧ vp_in (6 * v3) (zL σ a2) ∧ ((¬ (zAi σ a2 (ix (6 * v5))) = (zAi σ a2 (ix (6 * v3))) → r60 v0 v1 v2 v3 v4 (v5 + 1) σ) ∧ ((zAi σ a2 (ix (6 * v5))) = (zAi σ a2 (ix (6 * v3))) → vp_in ((6 * v5) + 1) (zL σ a2) ∧ zK σ v1 = 15 ∧ ∃ a9 : Nat, zFr σ 898 v1 = some a9 ∧ zK σ a9 = 20 ∧ vp_in ((6 * v4) + 1) (zL σ a9) ∧ (((zAi σ a2 (ix ((6 * v5) + 1))) = (zAi σ a9 (ix ((6 * v4) + 1))) → ∃ a13 : Nat, zFr σ 900 v0 = some a13 ∧ zK σ a13 = 20 ∧ vp_in v3 (zL σ a13) ∧ ∃ a17 : Nat, zFr σ 900 v1 = some a17 ∧ zK σ a17 = 20 ∧ vp_in v4 (zL σ a17) ∧ wX16_sum (zAi σ a13 (ix v3)) (zAi σ a17 (ix v4)) σ (fun y22 σ21 => zK σ21 v0 = 15 ∧ ∃ a24 : Nat, zFr σ21 903 v0 = some a24 ∧ zK σ21 a24 = 22 ∧ vp_in v3 (zL σ21 a24) ∧ zK σ21 v1 = 15 ∧ ∃ a29 : Nat, zFr σ21 903 v1 = some a29 ∧ zK σ21 a29 = 22 ∧ vp_in v4 (zL σ21 a29) ∧ FP.dIsNaN (zAd σ21 a24 (ix v3)) = false ∧ FP.dIsNaN (zAd σ21 a29 (ix v4)) = false ∧ ∃ a35 : Nat, zFr σ21 900 v0 = some a35 ∧ zK σ21 a35 = 20 ∧ vp_in v5 (zL σ21 a35) ∧ ((y22 < (zAi σ21 a35 (ix v5)) → wX16_chains_185 Q r2 r10 r21 r60 v0 v1 v3 v4 v5 y22 (pkD false (zAd σ21 a24 (ix v3)) (zAd σ21 a29 (ix v4))) σ21) ∧ (¬ y22 < (zAi σ21 a35 (ix v5)) → vp_in v5 (zL σ21 a24) ∧ ((0 < (Op.cmpValue (FP.dcmp (pkD false (zAd σ21 a24 (ix v3)) (zAd σ21 a29 (ix v4))) (zAd σ21 a24 (ix v5))) .g) → wX16_chains_185 Q r2 r10 r21 r60 v0 v1 v3 v4 v5 y22 (pkD false (zAd σ21 a24 (ix v3)) (zAd σ21 a29 (ix v4))) σ21) ∧ (¬ 0 < (Op.cmpValue (FP.dcmp (pkD false (zAd σ21 a24 (ix v3)) (zAd σ21 a29 (ix v4))) (zAd σ21 a24 (ix v5))) .g) → r60 v0 v1 v2 v3 v4 (v5 + 1) σ21)))))) ∧ (¬ (zAi σ a2 (ix ((6 * v5) + 1))) = (zAi σ a9 (ix ((6 * v4) + 1))) → r60 v0 v1 v2 v3 v4 (v5 + 1) σ))))))
def lX16_chains_60 (Q : St → Prop) (r2 : Nat → Nat → Int32 → St → Prop) (r10 : Nat → Nat → Int32 → Int32 → St → Prop) (r21 : Nat → Nat → Int32 → Int32 → Int32 → St → Prop) : Nat → Nat → Nat → Int32 → Int32 → Int32 → Int32 → St → Prop
  | 0, _, _, _, _, _, _, _ => False
  | f + 1, v0, v1, v2, v3, v4, v5, σ => wX16_chains_60 Q r2 r10 r21 (lX16_chains_60 Q r2 r10 r21 f) v0 v1 v2 v3 v4 v5 σ
def wX16_chains_21 (Q : St → Prop) (r2 : Nat → Nat → Int32 → St → Prop) (r10 : Nat → Nat → Int32 → Int32 → St → Prop) (r21 : Nat → Nat → Int32 → Int32 → Int32 → St → Prop) (v0 : Nat) (v1 : Nat) (v2 : Int32) (v3 : Int32) (v4 : Int32) (σ : St) : Prop :=
  zK σ v1 = 15 ∧ (((zFi σ 896 v1) ≤ v4 → r10 v0 v1 v2 (v3 + 1) σ) ∧ (¬ (zFi σ 896 v1) ≤ v4 → zK σ v0 = 15 ∧ ∃ a3 : Nat, zFr σ 898 v0 = some a3 ∧ zK σ a3 = 20 ∧ vp_in ((6 * v3) + 1) (zL σ a3) ∧ ∃ a7 : Nat, zFr σ 898 v1 = some a7 ∧ zK σ a7 = 20 ∧ vp_in (6 * v4) (zL σ a7) ∧ (((zAi σ a3 (ix ((6 * v3) + 1))) = (zAi σ a7 (ix (6 * v4))) → ∃ f, lX16_chains_60 Q r2 r10 r21 f v0 v1 v2 v3 v4 0 σ) ∧ (¬ (zAi σ a3 (ix ((6 * v3) + 1))) = (zAi σ a7 (ix (6 * v4))) → r21 v0 v1 v2 v3 (v4 + 1) σ))))
def lX16_chains_21 (Q : St → Prop) (r2 : Nat → Nat → Int32 → St → Prop) (r10 : Nat → Nat → Int32 → Int32 → St → Prop) : Nat → Nat → Nat → Int32 → Int32 → Int32 → St → Prop
  | 0, _, _, _, _, _, _ => False
  | f + 1, v0, v1, v2, v3, v4, σ => wX16_chains_21 Q r2 r10 (lX16_chains_21 Q r2 r10 f) v0 v1 v2 v3 v4 σ
def wX16_chains_10 (Q : St → Prop) (r2 : Nat → Nat → Int32 → St → Prop) (r10 : Nat → Nat → Int32 → Int32 → St → Prop) (v0 : Nat) (v1 : Nat) (v2 : Int32) (v3 : Int32) (σ : St) : Prop :=
  zK σ v0 = 15 ∧ (((zFi σ 896 v0) ≤ v3 → r2 v0 v1 v2 σ) ∧ (¬ (zFi σ 896 v0) ≤ v3 → ∃ f, lX16_chains_21 Q r2 r10 f v0 v1 v2 v3 0 σ))
def lX16_chains_10 (Q : St → Prop) (r2 : Nat → Nat → Int32 → St → Prop) : Nat → Nat → Nat → Int32 → Int32 → St → Prop
  | 0, _, _, _, _, _ => False
  | f + 1, v0, v1, v2, v3, σ => wX16_chains_10 Q r2 (lX16_chains_10 Q r2 f) v0 v1 v2 v3 σ
def wX16_chains_2 (Q : St → Prop) (r2 : Nat → Nat → Int32 → St → Prop) (v0 : Nat) (v1 : Nat) (v2 : Int32) (σ : St) : Prop :=
  ((v2 = 0 → Q σ) ∧ (¬ v2 = 0 → ∃ f, lX16_chains_10 Q r2 f v0 v1 0 0 σ))
def lX16_chains_2 (Q : St → Prop) : Nat → Nat → Nat → Int32 → St → Prop
  | 0, _, _, _, _ => False
  | f + 1, v0, v1, v2, σ => wX16_chains_2 Q (lX16_chains_2 Q f) v0 v1 v2 σ
def wX16_chains_0 (Q : St → Prop) (v0 : Nat) (v1 : Nat) (σ : St) : Prop :=
  ∃ f, lX16_chains_2 Q f v0 v1 1 σ
def wX16_chains (v0 : Nat) (v1 : Nat) (σ : St) (Q : St → Prop) : Prop := wX16_chains_0 Q v0 v1 σ
set_option maxRecDepth 20000 in
theorem kwX16_chains_185 {Γ : hCT} (C : hC Γ RX16 cX16_chains ((Option.none : Option Jvm.ClassFile.FieldType)) "chains" 2 61) {Q : St → Prop} (hΓ : Γ.2.2.2.2.2.2.2.2.2.2.2 = (9, 0, 0, oV Q)) {r2 : Nat → Nat → Int32 → St → Prop} (h2 : ∀ (v0 : Nat) (v1 : Nat) (v2 : Int32) (σ : St), r2 v0 v1 v2 σ → hW Γ 0 0 2 [(0, .ref v0), (1, .ref v1), (2, .int v2)] [] σ) {r10 : Nat → Nat → Int32 → Int32 → St → Prop} (h10 : ∀ (v0 : Nat) (v1 : Nat) (v2 : Int32) (v3 : Int32) (σ : St), r10 v0 v1 v2 v3 σ → hW Γ 0 0 10 [(0, .ref v0), (1, .ref v1), (2, .int v2), (3, .int v3)] [] σ) {r21 : Nat → Nat → Int32 → Int32 → Int32 → St → Prop} (h21 : ∀ (v0 : Nat) (v1 : Nat) (v2 : Int32) (v3 : Int32) (v4 : Int32) (σ : St), r21 v0 v1 v2 v3 v4 σ → hW Γ 0 0 21 [(0, .ref v0), (1, .ref v1), (2, .int v2), (3, .int v3), (4, .int v4)] [] σ) {r60 : Nat → Nat → Int32 → Int32 → Int32 → Int32 → St → Prop} (h60 : ∀ (v0 : Nat) (v1 : Nat) (v2 : Int32) (v3 : Int32) (v4 : Int32) (v5 : Int32) (σ : St), r60 v0 v1 v2 v3 v4 v5 σ → hW Γ 0 0 60 [(0, .ref v0), (1, .ref v1), (2, .int v2), (3, .int v3), (4, .int v4), (5, .int v5)] [] σ) (v0 : Nat) (v1 : Nat) (v3 : Int32) (v4 : Int32) (v5 : Int32) (v6 : Int32) (v7 : UInt64) (σ : St) (hb : wX16_chains_185 Q r2 r10 r21 r60 v0 v1 v3 v4 v5 v6 v7 σ) : hW Γ 0 0 185 [(0, .ref v0), (1, .ref v1), (3, .int v3), (4, .int v4), (5, .int v5), (6, .int v6), (7, .double v7)] [] σ := by
  unfold wX16_chains_185 at hb
  refine g_aload_n (some v0) C dX16_chains_185 0 rfl ?_
  obtain ⟨q1, hb⟩ := hb
  obtain ⟨a2, q3, hb⟩ := hb
  refine g_getR (some a2) C fl_RX16_245 dX16_chains_186 q1 rfl rfl q3 ?_
  refine g_iload C dX16_chains_189 4 rfl ?_
  refine g_aload_n (some v0) C dX16_chains_191 0 rfl ?_
  refine g_getR (some a2) C fl_RX16_245 dX16_chains_192 q1 rfl rfl q3 ?_
  refine g_iload C dX16_chains_195 4 rfl ?_
  obtain ⟨q4, hb⟩ := hb
  obtain ⟨q5, hb⟩ := hb
  refine g_ialdx (zAi σ a2 (ix v5)) C dX16_chains_197 q4 q5 rfl ?_
  refine g_iload C dX16_chains_198 5 rfl ?_
  refine g_mmin wd_1429 wd_401 wd_87 wd_402 C (by first | exact Nat.le_of_ble_eq_true rfl | simp [cat_rf]) (by first | exact Nat.le_of_ble_eq_true rfl | simp [cat_rf]) (Nat.zero_le _) (Nat.zero_le _) dX16_chains_200 ?_
  refine g_iast C dX16_chains_203 q4 q5 ?_
  refine g_aload_n (some v0) C dX16_chains_204 0 rfl ?_
  obtain ⟨a6, q7, hb⟩ := hb
  refine g_getR (some a6) C fl_RX16_249 dX16_chains_205 (by rw [zK_uAi]; exact q1) rfl rfl (by rw [zFr_uAi]; exact q7) ?_
  refine g_iload C dX16_chains_208 4 rfl ?_
  refine g_aload_n (some v0) C dX16_chains_210 0 rfl ?_
  refine g_getR (some a6) C fl_RX16_249 dX16_chains_211 (by rw [zK_uAi]; exact q1) rfl rfl (by rw [zFr_uAi]; exact q7) ?_
  refine g_iload C dX16_chains_214 4 rfl ?_
  obtain ⟨q8, hb⟩ := hb
  obtain ⟨q9, hb⟩ := hb
  refine g_daldx (zAd σ a6 (ix v5)) C dX16_chains_216 (by rw [zK_uAi]; exact q8) (by rw [zL_uAi]; exact q9) (by rw [zAd_uAi]) ?_
  refine g_dload C dX16_chains_217 6 rfl ?_
  obtain ⟨q10, q11, hb⟩ := hb
  refine g_mmaxD wd_1430 wd_1431 wd_87 wd_1432 C (by first | exact Nat.le_of_ble_eq_true rfl | simp [cat_rf]) (by first | exact Nat.le_of_ble_eq_true rfl | simp [cat_rf]) (Nat.zero_le _) (Nat.zero_le _) dX16_chains_219 q10 q11 ?_
  refine g_dast C dX16_chains_222 (by rw [zK_uAi]; exact q8) (by rw [zL_uAi]; exact q9) ?_
  refine g_iconst (v := 1) C dX16_chains_223 (by decide) ?_
  refine g_istore_n (i := 2) (lv' := [(2, .int 1), (0, .ref v0), (1, .ref v1), (3, .int v3), (4, .int v4), (5, .int v5), (6, .int v6), (7, .double v7)]) C dX16_chains_224 rfl (hnl_of hΓ (by decide)) (by first | rfl | simp [cat_rf]) ?_
  refine g_iinc (v := v5 + 1) (lv' := [(5, .int (v5 + 1)), (2, .int 1), (0, .ref v0), (1, .ref v1), (3, .int v3), (4, .int v4), (6, .int v6), (7, .double v7)]) C dX16_chains_225 5 rfl rfl (hnl_of hΓ (by decide)) (by first | rfl | simp [cat_rf]) ?_
  refine g_goto (tgt := 60) C dX16_chains_228 (by decide) ?_
  refine g_sub (lv' := [(0, .ref v0), (1, .ref v1), (2, .int 1), (3, .int v3), (4, .int v4), (5, .int (v5 + 1))]) [2, 3, 1, 4, 5, 0] rfl ?_
  exact h60 _ _ _ _ _ _ _ hb
set_option maxRecDepth 20000 in
theorem kwX16_chains_60 {Γ : hCT} (C : hC Γ RX16 cX16_chains ((Option.none : Option Jvm.ClassFile.FieldType)) "chains" 2 61) {Q : St → Prop} (hΓ : Γ.2.2.2.2.2.2.2.2.2.2.2 = (9, 0, 0, oV Q)) {r2 : Nat → Nat → Int32 → St → Prop} (h2 : ∀ (v0 : Nat) (v1 : Nat) (v2 : Int32) (σ : St), r2 v0 v1 v2 σ → hW Γ 0 0 2 [(0, .ref v0), (1, .ref v1), (2, .int v2)] [] σ) {r10 : Nat → Nat → Int32 → Int32 → St → Prop} (h10 : ∀ (v0 : Nat) (v1 : Nat) (v2 : Int32) (v3 : Int32) (σ : St), r10 v0 v1 v2 v3 σ → hW Γ 0 0 10 [(0, .ref v0), (1, .ref v1), (2, .int v2), (3, .int v3)] [] σ) {r21 : Nat → Nat → Int32 → Int32 → Int32 → St → Prop} (h21 : ∀ (v0 : Nat) (v1 : Nat) (v2 : Int32) (v3 : Int32) (v4 : Int32) (σ : St), r21 v0 v1 v2 v3 v4 σ → hW Γ 0 0 21 [(0, .ref v0), (1, .ref v1), (2, .int v2), (3, .int v3), (4, .int v4)] [] σ) {r60 : Nat → Nat → Int32 → Int32 → Int32 → Int32 → St → Prop} (h60 : ∀ (v0 : Nat) (v1 : Nat) (v2 : Int32) (v3 : Int32) (v4 : Int32) (v5 : Int32) (σ : St), r60 v0 v1 v2 v3 v4 v5 σ → hW Γ 0 0 60 [(0, .ref v0), (1, .ref v1), (2, .int v2), (3, .int v3), (4, .int v4), (5, .int v5)] [] σ) (v0 : Nat) (v1 : Nat) (v2 : Int32) (v3 : Int32) (v4 : Int32) (v5 : Int32) (σ : St) (hb : wX16_chains_60 Q r2 r10 r21 r60 v0 v1 v2 v3 v4 v5 σ) : hW Γ 0 0 60 [(0, .ref v0), (1, .ref v1), (2, .int v2), (3, .int v3), (4, .int v4), (5, .int v5)] [] σ := by
  unfold wX16_chains_60 at hb
  refine g_iload C dX16_chains_60 5 rfl ?_
  refine g_aload_n (some v0) C dX16_chains_62 0 rfl ?_
  obtain ⟨q1, hb⟩ := hb
  refine g_getIx (zFi σ 896 v0) C fl_RX16_35 dX16_chains_63 q1 rfl rfl rfl ?_
  refine g_icmp_ge (tgt := 231) C dX16_chains_66 (by decide) (fun c => ?_) (fun c => ?_)
  ·
    replace hb := hb.1 (c)
    refine g_iinc (v := v4 + 1) (lv' := [(4, .int (v4 + 1)), (0, .ref v0), (1, .ref v1), (2, .int v2), (3, .int v3), (5, .int v5)]) C dX16_chains_231 4 rfl rfl (hnl_of hΓ (by decide)) (by first | rfl | simp [cat_rf]) ?_
    refine g_goto (tgt := 21) C dX16_chains_234 (by decide) ?_
    refine g_sub (lv' := [(0, .ref v0), (1, .ref v1), (2, .int v2), (3, .int v3), (4, .int (v4 + 1))]) [1, 2, 3, 4, 0] rfl ?_
    exact h21 _ _ _ _ _ _ hb
  ·
    replace hb := hb.2 (c)
    refine g_aload_n (some v0) C dX16_chains_69 0 rfl ?_
    obtain ⟨a2, q3, hb⟩ := hb
    refine g_getR (some a2) C fl_RX16_239 dX16_chains_70 q1 rfl rfl q3 ?_
    refine g_bipush (v := 6) C dX16_chains_73 (by decide) ?_
    refine g_iload C dX16_chains_75 5 rfl ?_
    refine g_imul C dX16_chains_77 ?_
    obtain ⟨q4, hb⟩ := hb
    obtain ⟨q5, hb⟩ := hb
    refine g_ialdx (zAi σ a2 (ix (6 * v5))) C dX16_chains_78 q4 q5 rfl ?_
    refine g_aload_n (some v0) C dX16_chains_79 0 rfl ?_
    refine g_getR (some a2) C fl_RX16_239 dX16_chains_80 q1 rfl rfl q3 ?_
    refine g_bipush (v := 6) C dX16_chains_83 (by decide) ?_
    refine g_iload_n C dX16_chains_85 3 rfl ?_
    refine g_imul C dX16_chains_86 ?_
    obtain ⟨q6, hb⟩ := hb
    refine g_ialdx (zAi σ a2 (ix (6 * v3))) C dX16_chains_87 q4 q6 rfl ?_
    refine g_icmp_ne (tgt := 225) C dX16_chains_88 (by decide) (fun c => ?_) (fun c => ?_)
    ·
      replace hb := hb.1 (c)
      refine g_iinc (v := v5 + 1) (lv' := [(5, .int (v5 + 1)), (0, .ref v0), (1, .ref v1), (2, .int v2), (3, .int v3), (4, .int v4)]) C dX16_chains_225 5 rfl rfl (hnl_of hΓ (by decide)) (by first | rfl | simp [cat_rf]) ?_
      refine g_goto (tgt := 60) C dX16_chains_228 (by decide) ?_
      refine g_sub (lv' := [(0, .ref v0), (1, .ref v1), (2, .int v2), (3, .int v3), (4, .int v4), (5, .int (v5 + 1))]) [1, 2, 3, 4, 5, 0] rfl ?_
      exact h60 _ _ _ _ _ _ _ hb
    ·
      replace hb := hb.2 (c)
      refine g_aload_n (some v0) C dX16_chains_91 0 rfl ?_
      refine g_getR (some a2) C fl_RX16_239 dX16_chains_92 q1 rfl rfl q3 ?_
      refine g_bipush (v := 6) C dX16_chains_95 (by decide) ?_
      refine g_iload C dX16_chains_97 5 rfl ?_
      refine g_imul C dX16_chains_99 ?_
      refine g_iconst (v := 1) C dX16_chains_100 (by decide) ?_
      refine g_iadd C dX16_chains_101 ?_
      obtain ⟨q7, hb⟩ := hb
      refine g_ialdx (zAi σ a2 (ix ((6 * v5) + 1))) C dX16_chains_102 q4 q7 rfl ?_
      refine g_aload_n (some v1) C dX16_chains_103 1 rfl ?_
      obtain ⟨q8, hb⟩ := hb
      obtain ⟨a9, q10, hb⟩ := hb
      refine g_getR (some a9) C fl_RX16_239 dX16_chains_104 q8 rfl rfl q10 ?_
      refine g_bipush (v := 6) C dX16_chains_107 (by decide) ?_
      refine g_iload C dX16_chains_109 4 rfl ?_
      refine g_imul C dX16_chains_111 ?_
      refine g_iconst (v := 1) C dX16_chains_112 (by decide) ?_
      refine g_iadd C dX16_chains_113 ?_
      obtain ⟨q11, hb⟩ := hb
      obtain ⟨q12, hb⟩ := hb
      refine g_ialdx (zAi σ a9 (ix ((6 * v4) + 1))) C dX16_chains_114 q11 q12 rfl ?_
      refine g_icmp_eq (tgt := 121) C dX16_chains_115 (by decide) (fun c => ?_) (fun c => ?_)
      ·
        replace hb := hb.1 (c)
        refine g_aload_n (some v0) C dX16_chains_121 0 rfl ?_
        obtain ⟨a13, q14, hb⟩ := hb
        refine g_getR (some a13) C fl_RX16_245 dX16_chains_122 q1 rfl rfl q14 ?_
        refine g_iload_n C dX16_chains_125 3 rfl ?_
        obtain ⟨q15, hb⟩ := hb
        obtain ⟨q16, hb⟩ := hb
        refine g_ialdx (zAi σ a13 (ix v3)) C dX16_chains_126 q15 q16 rfl ?_
        refine g_aload_n (some v1) C dX16_chains_127 1 rfl ?_
        obtain ⟨a17, q18, hb⟩ := hb
        refine g_getR (some a17) C fl_RX16_245 dX16_chains_128 q8 rfl rfl q18 ?_
        refine g_iload C dX16_chains_131 4 rfl ?_
        obtain ⟨q19, hb⟩ := hb
        obtain ⟨q20, hb⟩ := hb
        refine g_ialdx (zAi σ a17 (ix v4)) C dX16_chains_133 q19 q20 rfl ?_
        refine g_invS [.int (zAi σ a13 (ix v3)), .int (zAi σ a17 (ix v4))] [] zy_X16_sum wd_1448 wd_1449 C dX16_chains_134 (by first | exact Nat.le_of_ble_eq_true rfl | simp [cat_rf]) (by first | exact Nat.le_of_ble_eq_true rfl | simp [cat_rf]) (by first | exact Nat.le_of_ble_eq_true rfl | simp [cat_rf]) (Nat.zero_le _) (Nat.zero_le _) rfl rfl  (okX16_sum hb) ?_
        rintro o σ21 ⟨y22, rfl, hb⟩
        refine ⟨_, rfl, ?_⟩
        refine g_istore (lv' := [(6, .int y22), (0, .ref v0), (1, .ref v1), (2, .int v2), (3, .int v3), (4, .int v4), (5, .int v5)]) C dX16_chains_137 (hnl_of hΓ (by decide)) (by first | rfl | simp [cat_rf]) ?_
        refine g_aload_n (some v0) C dX16_chains_139 1 rfl ?_
        obtain ⟨q23, hb⟩ := hb
        obtain ⟨a24, q25, hb⟩ := hb
        refine g_getR (some a24) C fl_RX16_249 dX16_chains_140 q23 rfl rfl q25 ?_
        refine g_iload_n C dX16_chains_143 4 rfl ?_
        obtain ⟨q26, hb⟩ := hb
        obtain ⟨q27, hb⟩ := hb
        refine g_daldx (zAd σ21 a24 (ix v3)) C dX16_chains_144 q26 q27 rfl ?_
        refine g_aload_n (some v1) C dX16_chains_145 2 rfl ?_
        obtain ⟨q28, hb⟩ := hb
        obtain ⟨a29, q30, hb⟩ := hb
        refine g_getR (some a29) C fl_RX16_249 dX16_chains_146 q28 rfl rfl q30 ?_
        refine g_iload C dX16_chains_149 5 rfl ?_
        obtain ⟨q31, hb⟩ := hb
        obtain ⟨q32, hb⟩ := hb
        refine g_daldx (zAd σ21 a29 (ix v4)) C dX16_chains_151 q31 q32 rfl ?_
        obtain ⟨q33, q34, hb⟩ := hb
        refine g_mminD wd_1451 wd_1452 wd_87 wd_1453 C (by first | exact Nat.le_of_ble_eq_true rfl | simp [cat_rf]) (by first | exact Nat.le_of_ble_eq_true rfl | simp [cat_rf]) (Nat.zero_le _) (Nat.zero_le _) dX16_chains_152 q33 q34 ?_
        refine g_dstore (lv' := [(7, .double (pkD false (zAd σ21 a24 (ix v3)) (zAd σ21 a29 (ix v4)))), (6, .int y22), (0, .ref v0), (1, .ref v1), (2, .int v2), (3, .int v3), (4, .int v4), (5, .int v5)]) C dX16_chains_155 (hnl_of hΓ (by decide)) (by first | rfl | simp [cat_rf]) ?_
        refine g_iload C dX16_chains_157 1 rfl ?_
        refine g_aload_n (some v0) C dX16_chains_159 2 rfl ?_
        obtain ⟨a35, q36, hb⟩ := hb
        refine g_getR (some a35) C fl_RX16_245 dX16_chains_160 q23 rfl rfl q36 ?_
        refine g_iload C dX16_chains_163 7 rfl ?_
        obtain ⟨q37, hb⟩ := hb
        obtain ⟨q38, hb⟩ := hb
        refine g_ialdx (zAi σ21 a35 (ix v5)) C dX16_chains_165 q37 q38 rfl ?_
        refine g_icmp_lt (tgt := 185) C dX16_chains_166 (by decide) (fun c => ?_) (fun c => ?_)
        ·
          replace hb := hb.1 (c)
          refine g_sub (lv' := [(0, .ref v0), (1, .ref v1), (3, .int v3), (4, .int v4), (5, .int v5), (6, .int y22), (7, .double (pkD false (zAd σ21 a24 (ix v3)) (zAd σ21 a29 (ix v4))))]) [2, 3, 5, 6, 7, 1, 0] rfl ?_
          exact kwX16_chains_185 C hΓ h2 h10 h21 h60 _ _ _ _ _ _ _ _ hb
        ·
          replace hb := hb.2 (c)
          refine g_dload C dX16_chains_169 0 rfl ?_
          refine g_aload_n (some v0) C dX16_chains_171 2 rfl ?_
          refine g_getR (some a24) C fl_RX16_249 dX16_chains_172 q23 rfl rfl q25 ?_
          refine g_iload C dX16_chains_175 7 rfl ?_
          obtain ⟨q39, hb⟩ := hb
          refine g_daldx (zAd σ21 a24 (ix v5)) C dX16_chains_177 q26 q39 rfl ?_
          refine g_dcmp C dX16_chains_178 ?_
          refine g_if_gt (tgt := 185) C dX16_chains_179 (by decide) (fun c => ?_) (fun c => ?_)
          ·
            replace hb := hb.1 (c)
            refine g_sub (lv' := [(0, .ref v0), (1, .ref v1), (3, .int v3), (4, .int v4), (5, .int v5), (6, .int y22), (7, .double (pkD false (zAd σ21 a24 (ix v3)) (zAd σ21 a29 (ix v4))))]) [2, 3, 5, 6, 7, 1, 0] rfl ?_
            exact kwX16_chains_185 C hΓ h2 h10 h21 h60 _ _ _ _ _ _ _ _ hb
          ·
            replace hb := hb.2 (c)
            refine g_goto (tgt := 225) C dX16_chains_182 (by decide) ?_
            refine g_iinc (v := v5 + 1) (lv' := [(5, .int (v5 + 1)), (7, .double (pkD false (zAd σ21 a24 (ix v3)) (zAd σ21 a29 (ix v4)))), (6, .int y22), (0, .ref v0), (1, .ref v1), (2, .int v2), (3, .int v3), (4, .int v4)]) C dX16_chains_225 7 rfl rfl (hnl_of hΓ (by decide)) (by first | rfl | simp [cat_rf]) ?_
            refine g_goto (tgt := 60) C dX16_chains_228 (by decide) ?_
            refine g_sub (lv' := [(0, .ref v0), (1, .ref v1), (2, .int v2), (3, .int v3), (4, .int v4), (5, .int (v5 + 1))]) [3, 4, 5, 6, 7, 0] rfl ?_
            exact h60 _ _ _ _ _ _ _ hb
      ·
        replace hb := hb.2 (c)
        refine g_goto (tgt := 225) C dX16_chains_118 (by decide) ?_
        refine g_iinc (v := v5 + 1) (lv' := [(5, .int (v5 + 1)), (0, .ref v0), (1, .ref v1), (2, .int v2), (3, .int v3), (4, .int v4)]) C dX16_chains_225 5 rfl rfl (hnl_of hΓ (by decide)) (by first | rfl | simp [cat_rf]) ?_
        refine g_goto (tgt := 60) C dX16_chains_228 (by decide) ?_
        refine g_sub (lv' := [(0, .ref v0), (1, .ref v1), (2, .int v2), (3, .int v3), (4, .int v4), (5, .int (v5 + 1))]) [1, 2, 3, 4, 5, 0] rfl ?_
        exact h60 _ _ _ _ _ _ _ hb
theorem klX16_chains_60 {Γ : hCT} (C : hC Γ RX16 cX16_chains ((Option.none : Option Jvm.ClassFile.FieldType)) "chains" 2 61) {Q : St → Prop} (hΓ : Γ.2.2.2.2.2.2.2.2.2.2.2 = (9, 0, 0, oV Q)) {r2 : Nat → Nat → Int32 → St → Prop} (h2 : ∀ (v0 : Nat) (v1 : Nat) (v2 : Int32) (σ : St), r2 v0 v1 v2 σ → hW Γ 0 0 2 [(0, .ref v0), (1, .ref v1), (2, .int v2)] [] σ) {r10 : Nat → Nat → Int32 → Int32 → St → Prop} (h10 : ∀ (v0 : Nat) (v1 : Nat) (v2 : Int32) (v3 : Int32) (σ : St), r10 v0 v1 v2 v3 σ → hW Γ 0 0 10 [(0, .ref v0), (1, .ref v1), (2, .int v2), (3, .int v3)] [] σ) {r21 : Nat → Nat → Int32 → Int32 → Int32 → St → Prop} (h21 : ∀ (v0 : Nat) (v1 : Nat) (v2 : Int32) (v3 : Int32) (v4 : Int32) (σ : St), r21 v0 v1 v2 v3 v4 σ → hW Γ 0 0 21 [(0, .ref v0), (1, .ref v1), (2, .int v2), (3, .int v3), (4, .int v4)] [] σ) (f : Nat) (v0 : Nat) (v1 : Nat) (v2 : Int32) (v3 : Int32) (v4 : Int32) (v5 : Int32) (σ : St) (hb : lX16_chains_60 Q r2 r10 r21 f v0 v1 v2 v3 v4 v5 σ) : hW Γ 0 0 60 [(0, .ref v0), (1, .ref v1), (2, .int v2), (3, .int v3), (4, .int v4), (5, .int v5)] [] σ := by
  induction f generalizing v0 v1 v2 v3 v4 v5 σ with
  | zero => exact hb.elim
  | succ f ih => exact kwX16_chains_60 C hΓ h2 h10 h21 (fun v0 v1 v2 v3 v4 v5 σ h => ih v0 v1 v2 v3 v4 v5 σ h) _ _ _ _ _ _ _ hb
set_option maxRecDepth 20000 in
theorem kwX16_chains_21 {Γ : hCT} (C : hC Γ RX16 cX16_chains ((Option.none : Option Jvm.ClassFile.FieldType)) "chains" 2 61) {Q : St → Prop} (hΓ : Γ.2.2.2.2.2.2.2.2.2.2.2 = (9, 0, 0, oV Q)) {r2 : Nat → Nat → Int32 → St → Prop} (h2 : ∀ (v0 : Nat) (v1 : Nat) (v2 : Int32) (σ : St), r2 v0 v1 v2 σ → hW Γ 0 0 2 [(0, .ref v0), (1, .ref v1), (2, .int v2)] [] σ) {r10 : Nat → Nat → Int32 → Int32 → St → Prop} (h10 : ∀ (v0 : Nat) (v1 : Nat) (v2 : Int32) (v3 : Int32) (σ : St), r10 v0 v1 v2 v3 σ → hW Γ 0 0 10 [(0, .ref v0), (1, .ref v1), (2, .int v2), (3, .int v3)] [] σ) {r21 : Nat → Nat → Int32 → Int32 → Int32 → St → Prop} (h21 : ∀ (v0 : Nat) (v1 : Nat) (v2 : Int32) (v3 : Int32) (v4 : Int32) (σ : St), r21 v0 v1 v2 v3 v4 σ → hW Γ 0 0 21 [(0, .ref v0), (1, .ref v1), (2, .int v2), (3, .int v3), (4, .int v4)] [] σ) (v0 : Nat) (v1 : Nat) (v2 : Int32) (v3 : Int32) (v4 : Int32) (σ : St) (hb : wX16_chains_21 Q r2 r10 r21 v0 v1 v2 v3 v4 σ) : hW Γ 0 0 21 [(0, .ref v0), (1, .ref v1), (2, .int v2), (3, .int v3), (4, .int v4)] [] σ := by
  unfold wX16_chains_21 at hb
  refine g_iload C dX16_chains_21 4 rfl ?_
  refine g_aload_n (some v1) C dX16_chains_23 1 rfl ?_
  obtain ⟨q1, hb⟩ := hb
  refine g_getIx (zFi σ 896 v1) C fl_RX16_35 dX16_chains_24 q1 rfl rfl rfl ?_
  refine g_icmp_ge (tgt := 237) C dX16_chains_27 (by decide) (fun c => ?_) (fun c => ?_)
  ·
    replace hb := hb.1 (c)
    refine g_iinc (v := v3 + 1) (lv' := [(3, .int (v3 + 1)), (0, .ref v0), (1, .ref v1), (2, .int v2), (4, .int v4)]) C dX16_chains_237 3 rfl rfl (hnl_of hΓ (by decide)) (by first | rfl | simp [cat_rf]) ?_
    refine g_goto (tgt := 10) C dX16_chains_240 (by decide) ?_
    refine g_sub (lv' := [(0, .ref v0), (1, .ref v1), (2, .int v2), (3, .int (v3 + 1))]) [1, 2, 3, 0] rfl ?_
    exact h10 _ _ _ _ _ hb
  ·
    replace hb := hb.2 (c)
    refine g_aload_n (some v0) C dX16_chains_30 0 rfl ?_
    obtain ⟨q2, hb⟩ := hb
    obtain ⟨a3, q4, hb⟩ := hb
    refine g_getR (some a3) C fl_RX16_239 dX16_chains_31 q2 rfl rfl q4 ?_
    refine g_bipush (v := 6) C dX16_chains_34 (by decide) ?_
    refine g_iload_n C dX16_chains_36 3 rfl ?_
    refine g_imul C dX16_chains_37 ?_
    refine g_iconst (v := 1) C dX16_chains_38 (by decide) ?_
    refine g_iadd C dX16_chains_39 ?_
    obtain ⟨q5, hb⟩ := hb
    obtain ⟨q6, hb⟩ := hb
    refine g_ialdx (zAi σ a3 (ix ((6 * v3) + 1))) C dX16_chains_40 q5 q6 rfl ?_
    refine g_aload_n (some v1) C dX16_chains_41 1 rfl ?_
    obtain ⟨a7, q8, hb⟩ := hb
    refine g_getR (some a7) C fl_RX16_239 dX16_chains_42 q1 rfl rfl q8 ?_
    refine g_bipush (v := 6) C dX16_chains_45 (by decide) ?_
    refine g_iload C dX16_chains_47 4 rfl ?_
    refine g_imul C dX16_chains_49 ?_
    obtain ⟨q9, hb⟩ := hb
    obtain ⟨q10, hb⟩ := hb
    refine g_ialdx (zAi σ a7 (ix (6 * v4))) C dX16_chains_50 q9 q10 rfl ?_
    refine g_icmp_eq (tgt := 57) C dX16_chains_51 (by decide) (fun c => ?_) (fun c => ?_)
    ·
      replace hb := hb.1 (c)
      refine g_iconst (v := 0) C dX16_chains_57 (by decide) ?_
      refine g_istore (lv' := [(5, .int 0), (0, .ref v0), (1, .ref v1), (2, .int v2), (3, .int v3), (4, .int v4)]) C dX16_chains_58 (hnl_of hΓ (by decide)) (by first | rfl | simp [cat_rf]) ?_
      refine g_sub (lv' := [(0, .ref v0), (1, .ref v1), (2, .int v2), (3, .int v3), (4, .int v4), (5, .int 0)]) [1, 2, 3, 4, 5, 0] rfl ?_
      obtain ⟨f11, hb⟩ := hb
      exact klX16_chains_60 C hΓ h2 h10 h21 f11 _ _ _ _ _ _ _ hb
    ·
      replace hb := hb.2 (c)
      refine g_goto (tgt := 231) C dX16_chains_54 (by decide) ?_
      refine g_iinc (v := v4 + 1) (lv' := [(4, .int (v4 + 1)), (0, .ref v0), (1, .ref v1), (2, .int v2), (3, .int v3)]) C dX16_chains_231 4 rfl rfl (hnl_of hΓ (by decide)) (by first | rfl | simp [cat_rf]) ?_
      refine g_goto (tgt := 21) C dX16_chains_234 (by decide) ?_
      refine g_sub (lv' := [(0, .ref v0), (1, .ref v1), (2, .int v2), (3, .int v3), (4, .int (v4 + 1))]) [1, 2, 3, 4, 0] rfl ?_
      exact h21 _ _ _ _ _ _ hb
theorem klX16_chains_21 {Γ : hCT} (C : hC Γ RX16 cX16_chains ((Option.none : Option Jvm.ClassFile.FieldType)) "chains" 2 61) {Q : St → Prop} (hΓ : Γ.2.2.2.2.2.2.2.2.2.2.2 = (9, 0, 0, oV Q)) {r2 : Nat → Nat → Int32 → St → Prop} (h2 : ∀ (v0 : Nat) (v1 : Nat) (v2 : Int32) (σ : St), r2 v0 v1 v2 σ → hW Γ 0 0 2 [(0, .ref v0), (1, .ref v1), (2, .int v2)] [] σ) {r10 : Nat → Nat → Int32 → Int32 → St → Prop} (h10 : ∀ (v0 : Nat) (v1 : Nat) (v2 : Int32) (v3 : Int32) (σ : St), r10 v0 v1 v2 v3 σ → hW Γ 0 0 10 [(0, .ref v0), (1, .ref v1), (2, .int v2), (3, .int v3)] [] σ) (f : Nat) (v0 : Nat) (v1 : Nat) (v2 : Int32) (v3 : Int32) (v4 : Int32) (σ : St) (hb : lX16_chains_21 Q r2 r10 f v0 v1 v2 v3 v4 σ) : hW Γ 0 0 21 [(0, .ref v0), (1, .ref v1), (2, .int v2), (3, .int v3), (4, .int v4)] [] σ := by
  induction f generalizing v0 v1 v2 v3 v4 σ with
  | zero => exact hb.elim
  | succ f ih => exact kwX16_chains_21 C hΓ h2 h10 (fun v0 v1 v2 v3 v4 σ h => ih v0 v1 v2 v3 v4 σ h) _ _ _ _ _ _ hb
set_option maxRecDepth 20000 in
theorem kwX16_chains_10 {Γ : hCT} (C : hC Γ RX16 cX16_chains ((Option.none : Option Jvm.ClassFile.FieldType)) "chains" 2 61) {Q : St → Prop} (hΓ : Γ.2.2.2.2.2.2.2.2.2.2.2 = (9, 0, 0, oV Q)) {r2 : Nat → Nat → Int32 → St → Prop} (h2 : ∀ (v0 : Nat) (v1 : Nat) (v2 : Int32) (σ : St), r2 v0 v1 v2 σ → hW Γ 0 0 2 [(0, .ref v0), (1, .ref v1), (2, .int v2)] [] σ) {r10 : Nat → Nat → Int32 → Int32 → St → Prop} (h10 : ∀ (v0 : Nat) (v1 : Nat) (v2 : Int32) (v3 : Int32) (σ : St), r10 v0 v1 v2 v3 σ → hW Γ 0 0 10 [(0, .ref v0), (1, .ref v1), (2, .int v2), (3, .int v3)] [] σ) (v0 : Nat) (v1 : Nat) (v2 : Int32) (v3 : Int32) (σ : St) (hb : wX16_chains_10 Q r2 r10 v0 v1 v2 v3 σ) : hW Γ 0 0 10 [(0, .ref v0), (1, .ref v1), (2, .int v2), (3, .int v3)] [] σ := by
  unfold wX16_chains_10 at hb
  refine g_iload_n C dX16_chains_10 3 rfl ?_
  refine g_aload_n (some v0) C dX16_chains_11 0 rfl ?_
  obtain ⟨q1, hb⟩ := hb
  refine g_getIx (zFi σ 896 v0) C fl_RX16_35 dX16_chains_12 q1 rfl rfl rfl ?_
  refine g_icmp_ge (tgt := 243) C dX16_chains_15 (by decide) (fun c => ?_) (fun c => ?_)
  ·
    replace hb := hb.1 (c)
    refine g_goto (tgt := 2) C dX16_chains_243 (by decide) ?_
    refine g_sub (lv' := [(0, .ref v0), (1, .ref v1), (2, .int v2)]) [0, 1, 2] rfl ?_
    exact h2 _ _ _ _ hb
  ·
    replace hb := hb.2 (c)
    refine g_iconst (v := 0) C dX16_chains_18 (by decide) ?_
    refine g_istore (lv' := [(4, .int 0), (0, .ref v0), (1, .ref v1), (2, .int v2), (3, .int v3)]) C dX16_chains_19 (hnl_of hΓ (by decide)) (by first | rfl | simp [cat_rf]) ?_
    refine g_sub (lv' := [(0, .ref v0), (1, .ref v1), (2, .int v2), (3, .int v3), (4, .int 0)]) [1, 2, 3, 4, 0] rfl ?_
    obtain ⟨f2, hb⟩ := hb
    exact klX16_chains_21 C hΓ h2 h10 f2 _ _ _ _ _ _ hb
theorem klX16_chains_10 {Γ : hCT} (C : hC Γ RX16 cX16_chains ((Option.none : Option Jvm.ClassFile.FieldType)) "chains" 2 61) {Q : St → Prop} (hΓ : Γ.2.2.2.2.2.2.2.2.2.2.2 = (9, 0, 0, oV Q)) {r2 : Nat → Nat → Int32 → St → Prop} (h2 : ∀ (v0 : Nat) (v1 : Nat) (v2 : Int32) (σ : St), r2 v0 v1 v2 σ → hW Γ 0 0 2 [(0, .ref v0), (1, .ref v1), (2, .int v2)] [] σ) (f : Nat) (v0 : Nat) (v1 : Nat) (v2 : Int32) (v3 : Int32) (σ : St) (hb : lX16_chains_10 Q r2 f v0 v1 v2 v3 σ) : hW Γ 0 0 10 [(0, .ref v0), (1, .ref v1), (2, .int v2), (3, .int v3)] [] σ := by
  induction f generalizing v0 v1 v2 v3 σ with
  | zero => exact hb.elim
  | succ f ih => exact kwX16_chains_10 C hΓ h2 (fun v0 v1 v2 v3 σ h => ih v0 v1 v2 v3 σ h) _ _ _ _ _ hb
set_option maxRecDepth 20000 in
theorem kwX16_chains_2 {Γ : hCT} (C : hC Γ RX16 cX16_chains ((Option.none : Option Jvm.ClassFile.FieldType)) "chains" 2 61) {Q : St → Prop} (hΓ : Γ.2.2.2.2.2.2.2.2.2.2.2 = (9, 0, 0, oV Q)) {r2 : Nat → Nat → Int32 → St → Prop} (h2 : ∀ (v0 : Nat) (v1 : Nat) (v2 : Int32) (σ : St), r2 v0 v1 v2 σ → hW Γ 0 0 2 [(0, .ref v0), (1, .ref v1), (2, .int v2)] [] σ) (v0 : Nat) (v1 : Nat) (v2 : Int32) (σ : St) (hb : wX16_chains_2 Q r2 v0 v1 v2 σ) : hW Γ 0 0 2 [(0, .ref v0), (1, .ref v1), (2, .int v2)] [] σ := by
  unfold wX16_chains_2 at hb
  refine g_iload_n C dX16_chains_2 2 rfl ?_
  refine g_if_eq (tgt := 246) C dX16_chains_3 (by decide) (fun c => ?_) (fun c => ?_)
  ·
    replace hb := hb.1 (c)
    exact g_vreturn C hΓ (Nat.zero_le _) (Nat.zero_le _) dX16_chains_246 ⟨rfl, hb⟩
  ·
    replace hb := hb.2 (c)
    refine g_iconst (v := 0) C dX16_chains_6 (by decide) ?_
    refine g_istore_n (i := 2) (lv' := [(2, .int 0), (0, .ref v0), (1, .ref v1)]) C dX16_chains_7 rfl (hnl_of hΓ (by decide)) (by first | rfl | simp [cat_rf]) ?_
    refine g_iconst (v := 0) C dX16_chains_8 (by decide) ?_
    refine g_istore_n (i := 3) (lv' := [(3, .int 0), (2, .int 0), (0, .ref v0), (1, .ref v1)]) C dX16_chains_9 rfl (hnl_of hΓ (by decide)) (by first | rfl | simp [cat_rf]) ?_
    refine g_sub (lv' := [(0, .ref v0), (1, .ref v1), (2, .int 0), (3, .int 0)]) [2, 3, 1, 0] rfl ?_
    obtain ⟨f1, hb⟩ := hb
    exact klX16_chains_10 C hΓ h2 f1 _ _ _ _ _ hb
theorem klX16_chains_2 {Γ : hCT} (C : hC Γ RX16 cX16_chains ((Option.none : Option Jvm.ClassFile.FieldType)) "chains" 2 61) {Q : St → Prop} (hΓ : Γ.2.2.2.2.2.2.2.2.2.2.2 = (9, 0, 0, oV Q)) (f : Nat) (v0 : Nat) (v1 : Nat) (v2 : Int32) (σ : St) (hb : lX16_chains_2 Q f v0 v1 v2 σ) : hW Γ 0 0 2 [(0, .ref v0), (1, .ref v1), (2, .int v2)] [] σ := by
  induction f generalizing v0 v1 v2 σ with
  | zero => exact hb.elim
  | succ f ih => exact kwX16_chains_2 C hΓ  (fun v0 v1 v2 σ h => ih v0 v1 v2 σ h) _ _ _ _ hb
set_option maxRecDepth 20000 in
theorem kwX16_chains_0 {Γ : hCT} (C : hC Γ RX16 cX16_chains ((Option.none : Option Jvm.ClassFile.FieldType)) "chains" 2 61) {Q : St → Prop} (hΓ : Γ.2.2.2.2.2.2.2.2.2.2.2 = (9, 0, 0, oV Q)) (v0 : Nat) (v1 : Nat) (σ : St) (hb : wX16_chains_0 Q v0 v1 σ) : hW Γ 0 0 0 [(0, .ref v0), (1, .ref v1)] [] σ := by
  unfold wX16_chains_0 at hb
  refine g_iconst (v := 1) C dX16_chains_0 (by decide) ?_
  refine g_istore_n (i := 2) (lv' := [(2, .int 1), (0, .ref v0), (1, .ref v1)]) C dX16_chains_1 rfl (hnl_of hΓ (by decide)) (by first | rfl | simp [cat_rf]) ?_
  refine g_sub (lv' := [(0, .ref v0), (1, .ref v1), (2, .int 1)]) [1, 2, 0] rfl ?_
  obtain ⟨f1, hb⟩ := hb
  exact klX16_chains_2 C hΓ  f1 _ _ _ _ hb
theorem okX16_chains {v0 : Nat} {v1 : Nat} {σ : St} {Q : St → Prop} (hb : wX16_chains v0 v1 σ Q) : hM yX16_chains cX16_chains 9 ((Option.none : Option Jvm.ClassFile.FieldType)) 2 61 0 0 [.ref v0, .ref v1] σ (oV Q) :=
  hM_of (by decide) (Nat.le_of_ble_eq_true rfl) (fun Γ hΓ C => kwX16_chains_0 C hΓ _ _ _ hb)
def wX16_rounds_229 (Q : St → Prop) (E : St → Prop) (r7 : Nat → Nat → Nat → Int32 → St → Prop) (r161 : Nat → Nat → Nat → Int32 → Int32 → St → Prop) (r185 : Nat → Nat → Nat → Int32 → Int32 → Int32 → St → Prop) (r229 : Nat → Nat → Nat → Int32 → Int32 → Int32 → Int32 → St → Prop) (v0 : Nat) (v1 : Nat) (v2 : Nat) (v3 : Int32) (v4 : Int32) (v5 : Int32) (v6 : Int32) (σ : St) : Prop :=
  zK σ v2 = 15 ∧ (((zFi σ 896 v2) ≤ v6 → r185 v0 v1 v2 v3 v4 (v5 + 1) σ) ∧ (¬ (zFi σ 896 v2) ≤ v6 → zK σ v0 = 17 ∧ ∃ a3 : Nat, zFr σ 1051 v0 = some a3 ∧ zK σ a3 = 15 ∧ ∃ a6 : Nat, zFr σ 898 a3 = some a6 ∧ zK σ a6 = 20 ∧ vp_in ((6 * v5) + 1) (zL σ a6) ∧ ∃ a10 : Nat, zFr σ 898 v2 = some a10 ∧ zK σ a10 = 20 ∧ vp_in (6 * v6) (zL σ a10) ∧ ((¬ (zAi σ a6 (ix ((6 * v5) + 1))) = (zAi σ a10 (ix (6 * v6))) → r229 v0 v1 v2 v3 v4 v5 (v6 + 1) σ) ∧ ((zAi σ a6 (ix ((6 * v5) + 1))) = (zAi σ a10 (ix (6 * v6))) → vp_in ((6 * v6) + 1) (zL σ a10) ∧ zK σ v1 = 15 ∧ ∃ a16 : Nat, zFr σ 898 v1 = some a16 ∧ zK σ a16 = 20 ∧ vp_in ((6 * v4) + 1) (zL σ a16) ∧ ((¬ (zAi σ a10 (ix ((6 * v6) + 1))) = (zAi σ a16 (ix ((6 * v4) + 1))) → r229 v0 v1 v2 v3 v4 v5 (v6 + 1) σ) ∧ ((zAi σ a10 (ix ((6 * v6) + 1))) = (zAi σ a16 (ix ((6 * v4) + 1))) → wX16_pilesBoth v0 a3 v5 v2 v6 σ (fun σ20 => r229 v0 v1 v2 v3 v4 v5 (v6 + 1) σ20)))))))
def lX16_rounds_229 (Q : St → Prop) (E : St → Prop) (r7 : Nat → Nat → Nat → Int32 → St → Prop) (r161 : Nat → Nat → Nat → Int32 → Int32 → St → Prop) (r185 : Nat → Nat → Nat → Int32 → Int32 → Int32 → St → Prop) : Nat → Nat → Nat → Nat → Int32 → Int32 → Int32 → Int32 → St → Prop
  | 0, _, _, _, _, _, _, _, _ => False
  | f + 1, v0, v1, v2, v3, v4, v5, v6, σ => wX16_rounds_229 Q E r7 r161 r185 (lX16_rounds_229 Q E r7 r161 r185 f) v0 v1 v2 v3 v4 v5 v6 σ
def wX16_rounds_185 (Q : St → Prop) (E : St → Prop) (r7 : Nat → Nat → Nat → Int32 → St → Prop) (r161 : Nat → Nat → Nat → Int32 → Int32 → St → Prop) (r185 : Nat → Nat → Nat → Int32 → Int32 → Int32 → St → Prop) (v0 : Nat) (v1 : Nat) (v2 : Nat) (v3 : Int32) (v4 : Int32) (v5 : Int32) (σ : St) : Prop :=
  zK σ v0 = 17 ∧ ∃ a2 : Nat, zFr σ 1051 v0 = some a2 ∧ zK σ a2 = 15 ∧ (((zFi σ 896 a2) ≤ v5 → wX16_lays v0 v1 v4 σ (fun y6 σ5 => ((¬ y6 = 0 → r161 v0 v1 v2 1 (v4 + 1) σ5) ∧ (y6 = 0 → ((v3 = 0 → r161 v0 v1 v2 0 (v4 + 1) σ5) ∧ (¬ v3 = 0 → r161 v0 v1 v2 1 (v4 + 1) σ5))))) E) ∧ (¬ (zFi σ 896 a2) ≤ v5 → ∃ a7 : Nat, zFr σ 898 a2 = some a7 ∧ zK σ a7 = 20 ∧ vp_in (6 * v5) (zL σ a7) ∧ zK σ v1 = 15 ∧ ∃ a12 : Nat, zFr σ 898 v1 = some a12 ∧ zK σ a12 = 20 ∧ vp_in (6 * v4) (zL σ a12) ∧ (((zAi σ a7 (ix (6 * v5))) = (zAi σ a12 (ix (6 * v4))) → ∃ f, lX16_rounds_229 Q E r7 r161 r185 f v0 v1 v2 v3 v4 v5 0 σ) ∧ (¬ (zAi σ a7 (ix (6 * v5))) = (zAi σ a12 (ix (6 * v4))) → r185 v0 v1 v2 v3 v4 (v5 + 1) σ))))
def lX16_rounds_185 (Q : St → Prop) (E : St → Prop) (r7 : Nat → Nat → Nat → Int32 → St → Prop) (r161 : Nat → Nat → Nat → Int32 → Int32 → St → Prop) : Nat → Nat → Nat → Nat → Int32 → Int32 → Int32 → St → Prop
  | 0, _, _, _, _, _, _, _ => False
  | f + 1, v0, v1, v2, v3, v4, v5, σ => wX16_rounds_185 Q E r7 r161 (lX16_rounds_185 Q E r7 r161 f) v0 v1 v2 v3 v4 v5 σ
def wX16_rounds_161 (Q : St → Prop) (E : St → Prop) (r7 : Nat → Nat → Nat → Int32 → St → Prop) (r161 : Nat → Nat → Nat → Int32 → Int32 → St → Prop) (v0 : Nat) (v1 : Nat) (v2 : Nat) (v3 : Int32) (v4 : Int32) (σ : St) : Prop :=
  zK σ v1 = 15 ∧ (((zFi σ 896 v1) ≤ v4 → r7 v0 v1 v2 v3 σ) ∧ (¬ (zFi σ 896 v1) ≤ v4 → zK σ v0 = 17 ∧ wX16_pilesAll v0 v1 v4 (uFi σ 1054 v0 0) (fun σ3 => ∃ f, lX16_rounds_185 Q E r7 r161 f v0 v1 v2 v3 v4 0 σ3)))
def lX16_rounds_161 (Q : St → Prop) (E : St → Prop) (r7 : Nat → Nat → Nat → Int32 → St → Prop) : Nat → Nat → Nat → Nat → Int32 → Int32 → St → Prop
  | 0, _, _, _, _, _, _ => False
  | f + 1, v0, v1, v2, v3, v4, σ => wX16_rounds_161 Q E r7 (lX16_rounds_161 Q E r7 f) v0 v1 v2 v3 v4 σ
def wX16_rounds_39 (Q : St → Prop) (E : St → Prop) (r7 : Nat → Nat → Nat → Int32 → St → Prop) (r24 : Nat → Nat → Nat → Int32 → Int32 → St → Prop) (r39 : Nat → Nat → Nat → Int32 → Int32 → Int32 → St → Prop) (v0 : Nat) (v1 : Nat) (v2 : Nat) (v3 : Int32) (v4 : Int32) (v5 : Int32) (σ : St) : Prop :=
  zK σ v2 = 15 ∧ (((zFi σ 896 v2) ≤ v5 → r24 v0 v1 v2 v3 (v4 + 1) σ) ∧ (¬ (zFi σ 896 v2) ≤ v5 → zK σ v0 = 17 ∧ ∃ a3 : Nat, zFr σ 1051 v0 = some a3 ∧ zK σ a3 = 15 ∧ ∃ a6 : Nat, zFr σ 898 a3 = some a6 ∧ zK σ a6 = 20 ∧ vp_in ((6 * v4) + 1) (zL σ a6) ∧ ∃ a10 : Nat, zFr σ 898 v2 = some a10 ∧ zK σ a10 = 20 ∧ vp_in (6 * v5) (zL σ a10) ∧ (((zAi σ a6 (ix ((6 * v4) + 1))) = (zAi σ a10 (ix (6 * v5))) → ∃ a14 : Nat, zFr σ 1055 v0 = some a14 ∧ vp_in (6 * v4) (zL σ a6) ∧ zK σ a14 = 20 ∧ vp_in 0 (zL σ a14) ∧ vp_in ((6 * v5) + 1) (zL σ a10) ∧ vp_in 1 (zL σ a14) ∧ zK σ v1 = 15 ∧ wX14_find v1 a14 0 (uAi (uAi σ a14 (ix 0) (zAi σ a6 (ix (6 * v4)))) a14 (ix 1) (zAi (uAi σ a14 (ix 0) (zAi σ a6 (ix (6 * v4)))) a10 (ix ((6 * v5) + 1)))) (fun y23 σ22 => ((y23 = ((-1) : Int32) → zK σ22 v0 = 17 ∧ ∃ a25 : Nat, zFr σ22 1055 v0 = some a25 ∧ wX16_adds v0 v1 a25 0 σ22 (fun y28 σ27 => r39 v0 v1 v2 1 v4 (v5 + 1) σ27) E) ∧ (¬ y23 = ((-1) : Int32) → r39 v0 v1 v2 v3 v4 (v5 + 1) σ22)))) ∧ (¬ (zAi σ a6 (ix ((6 * v4) + 1))) = (zAi σ a10 (ix (6 * v5))) → r39 v0 v1 v2 v3 v4 (v5 + 1) σ))))
def lX16_rounds_39 (Q : St → Prop) (E : St → Prop) (r7 : Nat → Nat → Nat → Int32 → St → Prop) (r24 : Nat → Nat → Nat → Int32 → Int32 → St → Prop) : Nat → Nat → Nat → Nat → Int32 → Int32 → Int32 → St → Prop
  | 0, _, _, _, _, _, _, _ => False
  | f + 1, v0, v1, v2, v3, v4, v5, σ => wX16_rounds_39 Q E r7 r24 (lX16_rounds_39 Q E r7 r24 f) v0 v1 v2 v3 v4 v5 σ
def wX16_rounds_24 (Q : St → Prop) (E : St → Prop) (r7 : Nat → Nat → Nat → Int32 → St → Prop) (r24 : Nat → Nat → Nat → Int32 → Int32 → St → Prop) (v0 : Nat) (v1 : Nat) (v2 : Nat) (v3 : Int32) (v4 : Int32) (σ : St) : Prop :=
  zK σ v0 = 17 ∧ ∃ a2 : Nat, zFr σ 1051 v0 = some a2 ∧ zK σ a2 = 15 ∧ (((zFi σ 896 a2) ≤ v4 → ∃ f, lX16_rounds_161 Q E r7 f v0 v1 v2 v3 0 σ) ∧ (¬ (zFi σ 896 a2) ≤ v4 → ∃ f, lX16_rounds_39 Q E r7 r24 f v0 v1 v2 v3 v4 0 σ))
def lX16_rounds_24 (Q : St → Prop) (E : St → Prop) (r7 : Nat → Nat → Nat → Int32 → St → Prop) : Nat → Nat → Nat → Nat → Int32 → Int32 → St → Prop
  | 0, _, _, _, _, _, _ => False
  | f + 1, v0, v1, v2, v3, v4, σ => wX16_rounds_24 Q E r7 (lX16_rounds_24 Q E r7 f) v0 v1 v2 v3 v4 σ
def wX16_rounds_7 (Q : St → Prop) (E : St → Prop) (r7 : Nat → Nat → Nat → Int32 → St → Prop) (v0 : Nat) (v1 : Nat) (v2 : Nat) (v3 : Int32) (σ : St) : Prop :=
  ((v3 = 0 → wX16_chains v1 v2 σ (fun σ1 => Q σ1)) ∧ (¬ v3 = 0 → zK σ v0 = 17 ∧ ∃ a3 : Nat, zFr σ 1051 v0 = some a3 ∧ wX16_becomes a3 v1 σ (fun σ5 => ∃ f, lX16_rounds_24 Q E r7 f v0 v1 v2 0 0 σ5)))
def lX16_rounds_7 (Q : St → Prop) (E : St → Prop) : Nat → Nat → Nat → Nat → Int32 → St → Prop
  | 0, _, _, _, _, _ => False
  | f + 1, v0, v1, v2, v3, σ => wX16_rounds_7 Q E (lX16_rounds_7 Q E f) v0 v1 v2 v3 σ
def wX16_rounds_0 (Q : St → Prop) (E : St → Prop) (v0 : Nat) (v1 : Nat) (v2 : Nat) (σ : St) : Prop :=
  wX16_becomes v1 v2 σ (fun σ1 => ∃ f, lX16_rounds_7 Q E f v0 v1 v2 1 σ1)
def wX16_rounds (v0 : Nat) (v1 : Nat) (v2 : Nat) (σ : St) (Q : St → Prop) (E : St → Prop) : Prop := wX16_rounds_0 Q E v0 v1 v2 σ
set_option maxRecDepth 20000 in
theorem kwX16_rounds_229 {Γ : hCT} (C : hC Γ RX16 cX16_rounds ((Option.none : Option Jvm.ClassFile.FieldType)) "rounds" 3 89) {Q : St → Prop} {E : St → Prop} (hΓ : Γ.2.2.2.2.2.2.2.2.2.2.2 = (7, 0, 0, oT (oV Q) E)) (hne : hNE Γ) {r7 : Nat → Nat → Nat → Int32 → St → Prop} (h7 : ∀ (v0 : Nat) (v1 : Nat) (v2 : Nat) (v3 : Int32) (σ : St), r7 v0 v1 v2 v3 σ → hW Γ 0 0 7 [(0, .ref v0), (1, .ref v1), (2, .ref v2), (3, .int v3)] [] σ) {r161 : Nat → Nat → Nat → Int32 → Int32 → St → Prop} (h161 : ∀ (v0 : Nat) (v1 : Nat) (v2 : Nat) (v3 : Int32) (v4 : Int32) (σ : St), r161 v0 v1 v2 v3 v4 σ → hW Γ 0 0 161 [(0, .ref v0), (1, .ref v1), (2, .ref v2), (3, .int v3), (4, .int v4)] [] σ) {r185 : Nat → Nat → Nat → Int32 → Int32 → Int32 → St → Prop} (h185 : ∀ (v0 : Nat) (v1 : Nat) (v2 : Nat) (v3 : Int32) (v4 : Int32) (v5 : Int32) (σ : St), r185 v0 v1 v2 v3 v4 v5 σ → hW Γ 0 0 185 [(0, .ref v0), (1, .ref v1), (2, .ref v2), (3, .int v3), (4, .int v4), (5, .int v5)] [] σ) {r229 : Nat → Nat → Nat → Int32 → Int32 → Int32 → Int32 → St → Prop} (h229 : ∀ (v0 : Nat) (v1 : Nat) (v2 : Nat) (v3 : Int32) (v4 : Int32) (v5 : Int32) (v6 : Int32) (σ : St), r229 v0 v1 v2 v3 v4 v5 v6 σ → hW Γ 0 0 229 [(0, .ref v0), (1, .ref v1), (2, .ref v2), (3, .int v3), (4, .int v4), (5, .int v5), (6, .int v6)] [] σ) (v0 : Nat) (v1 : Nat) (v2 : Nat) (v3 : Int32) (v4 : Int32) (v5 : Int32) (v6 : Int32) (σ : St) (hb : wX16_rounds_229 Q E r7 r161 r185 r229 v0 v1 v2 v3 v4 v5 v6 σ) : hW Γ 0 0 229 [(0, .ref v0), (1, .ref v1), (2, .ref v2), (3, .int v3), (4, .int v4), (5, .int v5), (6, .int v6)] [] σ := by
  unfold wX16_rounds_229 at hb
  refine g_iload C dX16_rounds_229 6 rfl ?_
  refine g_aload_n (some v2) C dX16_rounds_231 2 rfl ?_
  obtain ⟨q1, hb⟩ := hb
  refine g_getIx (zFi σ 896 v2) C fl_RX16_35 dX16_rounds_232 q1 rfl rfl rfl ?_
  refine g_icmp_ge (tgt := 312) C dX16_rounds_235 (by decide) (fun c => ?_) (fun c => ?_)
  ·
    replace hb := hb.1 (c)
    refine g_iinc (v := v5 + 1) (lv' := [(5, .int (v5 + 1)), (0, .ref v0), (1, .ref v1), (2, .ref v2), (3, .int v3), (4, .int v4), (6, .int v6)]) C dX16_rounds_312 5 rfl rfl (hnl_of hΓ (by decide)) (by first | rfl | simp [cat_rf]) ?_
    refine g_goto (tgt := 185) C dX16_rounds_315 (by decide) ?_
    refine g_sub (lv' := [(0, .ref v0), (1, .ref v1), (2, .ref v2), (3, .int v3), (4, .int v4), (5, .int (v5 + 1))]) [1, 2, 3, 4, 5, 0] rfl ?_
    exact h185 _ _ _ _ _ _ _ hb
  ·
    replace hb := hb.2 (c)
    refine g_aload_n (some v0) C dX16_rounds_238 0 rfl ?_
    obtain ⟨q2, hb⟩ := hb
    obtain ⟨a3, q4, hb⟩ := hb
    refine g_getR (some a3) C fl_RX16_193 dX16_rounds_239 q2 rfl rfl q4 ?_
    obtain ⟨q5, hb⟩ := hb
    obtain ⟨a6, q7, hb⟩ := hb
    refine g_getR (some a6) C fl_RX16_239 dX16_rounds_242 q5 rfl rfl q7 ?_
    refine g_bipush (v := 6) C dX16_rounds_245 (by decide) ?_
    refine g_iload C dX16_rounds_247 5 rfl ?_
    refine g_imul C dX16_rounds_249 ?_
    refine g_iconst (v := 1) C dX16_rounds_250 (by decide) ?_
    refine g_iadd C dX16_rounds_251 ?_
    obtain ⟨q8, hb⟩ := hb
    obtain ⟨q9, hb⟩ := hb
    refine g_ialdx (zAi σ a6 (ix ((6 * v5) + 1))) C dX16_rounds_252 q8 q9 rfl ?_
    refine g_aload_n (some v2) C dX16_rounds_253 2 rfl ?_
    obtain ⟨a10, q11, hb⟩ := hb
    refine g_getR (some a10) C fl_RX16_239 dX16_rounds_254 q1 rfl rfl q11 ?_
    refine g_bipush (v := 6) C dX16_rounds_257 (by decide) ?_
    refine g_iload C dX16_rounds_259 6 rfl ?_
    refine g_imul C dX16_rounds_261 ?_
    obtain ⟨q12, hb⟩ := hb
    obtain ⟨q13, hb⟩ := hb
    refine g_ialdx (zAi σ a10 (ix (6 * v6))) C dX16_rounds_262 q12 q13 rfl ?_
    refine g_icmp_ne (tgt := 306) C dX16_rounds_263 (by decide) (fun c => ?_) (fun c => ?_)
    ·
      replace hb := hb.1 (c)
      refine g_iinc (v := v6 + 1) (lv' := [(6, .int (v6 + 1)), (0, .ref v0), (1, .ref v1), (2, .ref v2), (3, .int v3), (4, .int v4), (5, .int v5)]) C dX16_rounds_306 6 rfl rfl (hnl_of hΓ (by decide)) (by first | rfl | simp [cat_rf]) ?_
      refine g_goto (tgt := 229) C dX16_rounds_309 (by decide) ?_
      refine g_sub (lv' := [(0, .ref v0), (1, .ref v1), (2, .ref v2), (3, .int v3), (4, .int v4), (5, .int v5), (6, .int (v6 + 1))]) [1, 2, 3, 4, 5, 6, 0] rfl ?_
      exact h229 _ _ _ _ _ _ _ _ hb
    ·
      replace hb := hb.2 (c)
      refine g_aload_n (some v2) C dX16_rounds_266 2 rfl ?_
      refine g_getR (some a10) C fl_RX16_239 dX16_rounds_267 q1 rfl rfl q11 ?_
      refine g_bipush (v := 6) C dX16_rounds_270 (by decide) ?_
      refine g_iload C dX16_rounds_272 6 rfl ?_
      refine g_imul C dX16_rounds_274 ?_
      refine g_iconst (v := 1) C dX16_rounds_275 (by decide) ?_
      refine g_iadd C dX16_rounds_276 ?_
      obtain ⟨q14, hb⟩ := hb
      refine g_ialdx (zAi σ a10 (ix ((6 * v6) + 1))) C dX16_rounds_277 q12 q14 rfl ?_
      refine g_aload_n (some v1) C dX16_rounds_278 1 rfl ?_
      obtain ⟨q15, hb⟩ := hb
      obtain ⟨a16, q17, hb⟩ := hb
      refine g_getR (some a16) C fl_RX16_239 dX16_rounds_279 q15 rfl rfl q17 ?_
      refine g_bipush (v := 6) C dX16_rounds_282 (by decide) ?_
      refine g_iload C dX16_rounds_284 4 rfl ?_
      refine g_imul C dX16_rounds_286 ?_
      refine g_iconst (v := 1) C dX16_rounds_287 (by decide) ?_
      refine g_iadd C dX16_rounds_288 ?_
      obtain ⟨q18, hb⟩ := hb
      obtain ⟨q19, hb⟩ := hb
      refine g_ialdx (zAi σ a16 (ix ((6 * v4) + 1))) C dX16_rounds_289 q18 q19 rfl ?_
      refine g_icmp_ne (tgt := 306) C dX16_rounds_290 (by decide) (fun c => ?_) (fun c => ?_)
      ·
        replace hb := hb.1 (c)
        refine g_iinc (v := v6 + 1) (lv' := [(6, .int (v6 + 1)), (0, .ref v0), (1, .ref v1), (2, .ref v2), (3, .int v3), (4, .int v4), (5, .int v5)]) C dX16_rounds_306 6 rfl rfl (hnl_of hΓ (by decide)) (by first | rfl | simp [cat_rf]) ?_
        refine g_goto (tgt := 229) C dX16_rounds_309 (by decide) ?_
        refine g_sub (lv' := [(0, .ref v0), (1, .ref v1), (2, .ref v2), (3, .int v3), (4, .int v4), (5, .int v5), (6, .int (v6 + 1))]) [1, 2, 3, 4, 5, 6, 0] rfl ?_
        exact h229 _ _ _ _ _ _ _ _ hb
      ·
        replace hb := hb.2 (c)
        refine g_aload_n (some v0) C dX16_rounds_293 0 rfl ?_
        refine g_aload_n (some v0) C dX16_rounds_294 0 rfl ?_
        refine g_getR (some a3) C fl_RX16_193 dX16_rounds_295 q2 rfl rfl q4 ?_
        refine g_iload C dX16_rounds_298 5 rfl ?_
        refine g_aload_n (some v2) C dX16_rounds_300 2 rfl ?_
        refine g_iload C dX16_rounds_301 6 rfl ?_
        refine g_invV (ci := 16) [.ref a3, .int v5, .ref v2, .int v6] [] zy_X16_pilesBoth wd_1444 wd_1446 wd_55 ⟨_, _, rfl⟩ (by decide) C dX16_rounds_303 (by first | exact Nat.le_of_ble_eq_true rfl | simp [cat_rf]) (by first | exact Nat.le_of_ble_eq_true rfl | simp [cat_rf]) (by first | exact Nat.le_of_ble_eq_true rfl | simp [cat_rf]) (Nat.zero_le _) (Nat.zero_le _) rfl rfl q2 (okX16_pilesBoth hb) ?_
        rintro o σ20 ⟨rfl, hb⟩
        refine ⟨_, rfl, ?_⟩
        refine g_iinc (v := v6 + 1) (lv' := [(6, .int (v6 + 1)), (0, .ref v0), (1, .ref v1), (2, .ref v2), (3, .int v3), (4, .int v4), (5, .int v5)]) C dX16_rounds_306 6 rfl rfl (hnl_of hΓ (by decide)) (by first | rfl | simp [cat_rf]) ?_
        refine g_goto (tgt := 229) C dX16_rounds_309 (by decide) ?_
        refine g_sub (lv' := [(0, .ref v0), (1, .ref v1), (2, .ref v2), (3, .int v3), (4, .int v4), (5, .int v5), (6, .int (v6 + 1))]) [1, 2, 3, 4, 5, 6, 0] rfl ?_
        exact h229 _ _ _ _ _ _ _ _ hb
theorem klX16_rounds_229 {Γ : hCT} (C : hC Γ RX16 cX16_rounds ((Option.none : Option Jvm.ClassFile.FieldType)) "rounds" 3 89) {Q : St → Prop} {E : St → Prop} (hΓ : Γ.2.2.2.2.2.2.2.2.2.2.2 = (7, 0, 0, oT (oV Q) E)) (hne : hNE Γ) {r7 : Nat → Nat → Nat → Int32 → St → Prop} (h7 : ∀ (v0 : Nat) (v1 : Nat) (v2 : Nat) (v3 : Int32) (σ : St), r7 v0 v1 v2 v3 σ → hW Γ 0 0 7 [(0, .ref v0), (1, .ref v1), (2, .ref v2), (3, .int v3)] [] σ) {r161 : Nat → Nat → Nat → Int32 → Int32 → St → Prop} (h161 : ∀ (v0 : Nat) (v1 : Nat) (v2 : Nat) (v3 : Int32) (v4 : Int32) (σ : St), r161 v0 v1 v2 v3 v4 σ → hW Γ 0 0 161 [(0, .ref v0), (1, .ref v1), (2, .ref v2), (3, .int v3), (4, .int v4)] [] σ) {r185 : Nat → Nat → Nat → Int32 → Int32 → Int32 → St → Prop} (h185 : ∀ (v0 : Nat) (v1 : Nat) (v2 : Nat) (v3 : Int32) (v4 : Int32) (v5 : Int32) (σ : St), r185 v0 v1 v2 v3 v4 v5 σ → hW Γ 0 0 185 [(0, .ref v0), (1, .ref v1), (2, .ref v2), (3, .int v3), (4, .int v4), (5, .int v5)] [] σ) (f : Nat) (v0 : Nat) (v1 : Nat) (v2 : Nat) (v3 : Int32) (v4 : Int32) (v5 : Int32) (v6 : Int32) (σ : St) (hb : lX16_rounds_229 Q E r7 r161 r185 f v0 v1 v2 v3 v4 v5 v6 σ) : hW Γ 0 0 229 [(0, .ref v0), (1, .ref v1), (2, .ref v2), (3, .int v3), (4, .int v4), (5, .int v5), (6, .int v6)] [] σ := by
  induction f generalizing v0 v1 v2 v3 v4 v5 v6 σ with
  | zero => exact hb.elim
  | succ f ih => exact kwX16_rounds_229 C hΓ hne h7 h161 h185 (fun v0 v1 v2 v3 v4 v5 v6 σ h => ih v0 v1 v2 v3 v4 v5 v6 σ h) _ _ _ _ _ _ _ _ hb
set_option maxRecDepth 20000 in
theorem kwX16_rounds_185 {Γ : hCT} (C : hC Γ RX16 cX16_rounds ((Option.none : Option Jvm.ClassFile.FieldType)) "rounds" 3 89) {Q : St → Prop} {E : St → Prop} (hΓ : Γ.2.2.2.2.2.2.2.2.2.2.2 = (7, 0, 0, oT (oV Q) E)) (hne : hNE Γ) {r7 : Nat → Nat → Nat → Int32 → St → Prop} (h7 : ∀ (v0 : Nat) (v1 : Nat) (v2 : Nat) (v3 : Int32) (σ : St), r7 v0 v1 v2 v3 σ → hW Γ 0 0 7 [(0, .ref v0), (1, .ref v1), (2, .ref v2), (3, .int v3)] [] σ) {r161 : Nat → Nat → Nat → Int32 → Int32 → St → Prop} (h161 : ∀ (v0 : Nat) (v1 : Nat) (v2 : Nat) (v3 : Int32) (v4 : Int32) (σ : St), r161 v0 v1 v2 v3 v4 σ → hW Γ 0 0 161 [(0, .ref v0), (1, .ref v1), (2, .ref v2), (3, .int v3), (4, .int v4)] [] σ) {r185 : Nat → Nat → Nat → Int32 → Int32 → Int32 → St → Prop} (h185 : ∀ (v0 : Nat) (v1 : Nat) (v2 : Nat) (v3 : Int32) (v4 : Int32) (v5 : Int32) (σ : St), r185 v0 v1 v2 v3 v4 v5 σ → hW Γ 0 0 185 [(0, .ref v0), (1, .ref v1), (2, .ref v2), (3, .int v3), (4, .int v4), (5, .int v5)] [] σ) (v0 : Nat) (v1 : Nat) (v2 : Nat) (v3 : Int32) (v4 : Int32) (v5 : Int32) (σ : St) (hb : wX16_rounds_185 Q E r7 r161 r185 v0 v1 v2 v3 v4 v5 σ) : hW Γ 0 0 185 [(0, .ref v0), (1, .ref v1), (2, .ref v2), (3, .int v3), (4, .int v4), (5, .int v5)] [] σ := by
  unfold wX16_rounds_185 at hb
  refine g_iload C dX16_rounds_185 5 rfl ?_
  refine g_aload_n (some v0) C dX16_rounds_187 0 rfl ?_
  obtain ⟨q1, hb⟩ := hb
  obtain ⟨a2, q3, hb⟩ := hb
  refine g_getR (some a2) C fl_RX16_193 dX16_rounds_188 q1 rfl rfl q3 ?_
  obtain ⟨q4, hb⟩ := hb
  refine g_getIx (zFi σ 896 a2) C fl_RX16_35 dX16_rounds_191 q4 rfl rfl rfl ?_
  refine g_icmp_ge (tgt := 318) C dX16_rounds_194 (by decide) (fun c => ?_) (fun c => ?_)
  ·
    replace hb := hb.1 (c)
    refine g_aload_n (some v0) C dX16_rounds_318 0 rfl ?_
    refine g_aload_n (some v1) C dX16_rounds_319 1 rfl ?_
    refine g_iload C dX16_rounds_320 4 rfl ?_
    refine g_invXV (ci := 16) [.ref v1, .int v4] [] zy_X16_lays wd_1422 wd_1424 wd_52 ⟨_, _, rfl⟩ (by decide) C dX16_rounds_322 (by first | exact Nat.le_of_ble_eq_true rfl | simp [cat_rf]) (by first | exact Nat.le_of_ble_eq_true rfl | simp [cat_rf]) (by first | exact Nat.le_of_ble_eq_true rfl | simp [cat_rf]) (Nat.zero_le _) (Nat.zero_le _) rfl rfl q1 hΓ hne (okX16_lays hb) ?_
    rintro o σ5 ((⟨y6, rfl, hb⟩) | ⟨x, rfl, hx, hb⟩)
    case inr => exact Or.inr ⟨x, rfl, g_thrown hΓ hx hb⟩
    refine Or.inl ⟨_, rfl, ?_⟩
    refine g_if_ne (tgt := 332) C dX16_rounds_325 (by decide) (fun c => ?_) (fun c => ?_)
    ·
      replace hb := hb.1 (c)
      refine g_iconst (v := 1) C dX16_rounds_332 (by decide) ?_
      refine g_goto (tgt := 337) C dX16_rounds_333 (by decide) ?_
      refine g_istore_n (i := 3) (lv' := [(3, .int 1), (0, .ref v0), (1, .ref v1), (2, .ref v2), (4, .int v4), (5, .int v5)]) C dX16_rounds_337 rfl (hnl_of hΓ (by decide)) (by first | rfl | simp [cat_rf]) ?_
      refine g_iinc (v := v4 + 1) (lv' := [(4, .int (v4 + 1)), (3, .int 1), (0, .ref v0), (1, .ref v1), (2, .ref v2), (5, .int v5)]) C dX16_rounds_338 4 rfl rfl (hnl_of hΓ (by decide)) (by first | rfl | simp [cat_rf]) ?_
      refine g_goto (tgt := 161) C dX16_rounds_341 (by decide) ?_
      refine g_sub (lv' := [(0, .ref v0), (1, .ref v1), (2, .ref v2), (3, .int 1), (4, .int (v4 + 1))]) [2, 3, 4, 1, 0] rfl ?_
      exact h161 _ _ _ _ _ _ hb
    ·
      replace hb := hb.2 (c)
      refine g_iload_n C dX16_rounds_328 3 rfl ?_
      refine g_if_eq (tgt := 336) C dX16_rounds_329 (by decide) (fun c => ?_) (fun c => ?_)
      ·
        replace hb := hb.1 (c)
        refine g_iconst (v := 0) C dX16_rounds_336 (by decide) ?_
        refine g_istore_n (i := 3) (lv' := [(3, .int 0), (0, .ref v0), (1, .ref v1), (2, .ref v2), (4, .int v4), (5, .int v5)]) C dX16_rounds_337 rfl (hnl_of hΓ (by decide)) (by first | rfl | simp [cat_rf]) ?_
        refine g_iinc (v := v4 + 1) (lv' := [(4, .int (v4 + 1)), (3, .int 0), (0, .ref v0), (1, .ref v1), (2, .ref v2), (5, .int v5)]) C dX16_rounds_338 4 rfl rfl (hnl_of hΓ (by decide)) (by first | rfl | simp [cat_rf]) ?_
        refine g_goto (tgt := 161) C dX16_rounds_341 (by decide) ?_
        refine g_sub (lv' := [(0, .ref v0), (1, .ref v1), (2, .ref v2), (3, .int 0), (4, .int (v4 + 1))]) [2, 3, 4, 1, 0] rfl ?_
        exact h161 _ _ _ _ _ _ hb
      ·
        replace hb := hb.2 (c)
        refine g_iconst (v := 1) C dX16_rounds_332 (by decide) ?_
        refine g_goto (tgt := 337) C dX16_rounds_333 (by decide) ?_
        refine g_istore_n (i := 3) (lv' := [(3, .int 1), (0, .ref v0), (1, .ref v1), (2, .ref v2), (4, .int v4), (5, .int v5)]) C dX16_rounds_337 rfl (hnl_of hΓ (by decide)) (by first | rfl | simp [cat_rf]) ?_
        refine g_iinc (v := v4 + 1) (lv' := [(4, .int (v4 + 1)), (3, .int 1), (0, .ref v0), (1, .ref v1), (2, .ref v2), (5, .int v5)]) C dX16_rounds_338 4 rfl rfl (hnl_of hΓ (by decide)) (by first | rfl | simp [cat_rf]) ?_
        refine g_goto (tgt := 161) C dX16_rounds_341 (by decide) ?_
        refine g_sub (lv' := [(0, .ref v0), (1, .ref v1), (2, .ref v2), (3, .int 1), (4, .int (v4 + 1))]) [2, 3, 4, 1, 0] rfl ?_
        exact h161 _ _ _ _ _ _ hb
  ·
    replace hb := hb.2 (c)
    refine g_aload_n (some v0) C dX16_rounds_197 0 rfl ?_
    refine g_getR (some a2) C fl_RX16_193 dX16_rounds_198 q1 rfl rfl q3 ?_
    obtain ⟨a7, q8, hb⟩ := hb
    refine g_getR (some a7) C fl_RX16_239 dX16_rounds_201 q4 rfl rfl q8 ?_
    refine g_bipush (v := 6) C dX16_rounds_204 (by decide) ?_
    refine g_iload C dX16_rounds_206 5 rfl ?_
    refine g_imul C dX16_rounds_208 ?_
    obtain ⟨q9, hb⟩ := hb
    obtain ⟨q10, hb⟩ := hb
    refine g_ialdx (zAi σ a7 (ix (6 * v5))) C dX16_rounds_209 q9 q10 rfl ?_
    refine g_aload_n (some v1) C dX16_rounds_210 1 rfl ?_
    obtain ⟨q11, hb⟩ := hb
    obtain ⟨a12, q13, hb⟩ := hb
    refine g_getR (some a12) C fl_RX16_239 dX16_rounds_211 q11 rfl rfl q13 ?_
    refine g_bipush (v := 6) C dX16_rounds_214 (by decide) ?_
    refine g_iload C dX16_rounds_216 4 rfl ?_
    refine g_imul C dX16_rounds_218 ?_
    obtain ⟨q14, hb⟩ := hb
    obtain ⟨q15, hb⟩ := hb
    refine g_ialdx (zAi σ a12 (ix (6 * v4))) C dX16_rounds_219 q14 q15 rfl ?_
    refine g_icmp_eq (tgt := 226) C dX16_rounds_220 (by decide) (fun c => ?_) (fun c => ?_)
    ·
      replace hb := hb.1 (c)
      refine g_iconst (v := 0) C dX16_rounds_226 (by decide) ?_
      refine g_istore (lv' := [(6, .int 0), (0, .ref v0), (1, .ref v1), (2, .ref v2), (3, .int v3), (4, .int v4), (5, .int v5)]) C dX16_rounds_227 (hnl_of hΓ (by decide)) (by first | rfl | simp [cat_rf]) ?_
      refine g_sub (lv' := [(0, .ref v0), (1, .ref v1), (2, .ref v2), (3, .int v3), (4, .int v4), (5, .int v5), (6, .int 0)]) [1, 2, 3, 4, 5, 6, 0] rfl ?_
      obtain ⟨f16, hb⟩ := hb
      exact klX16_rounds_229 C hΓ hne h7 h161 h185 f16 _ _ _ _ _ _ _ _ hb
    ·
      replace hb := hb.2 (c)
      refine g_goto (tgt := 312) C dX16_rounds_223 (by decide) ?_
      refine g_iinc (v := v5 + 1) (lv' := [(5, .int (v5 + 1)), (0, .ref v0), (1, .ref v1), (2, .ref v2), (3, .int v3), (4, .int v4)]) C dX16_rounds_312 5 rfl rfl (hnl_of hΓ (by decide)) (by first | rfl | simp [cat_rf]) ?_
      refine g_goto (tgt := 185) C dX16_rounds_315 (by decide) ?_
      refine g_sub (lv' := [(0, .ref v0), (1, .ref v1), (2, .ref v2), (3, .int v3), (4, .int v4), (5, .int (v5 + 1))]) [1, 2, 3, 4, 5, 0] rfl ?_
      exact h185 _ _ _ _ _ _ _ hb
theorem klX16_rounds_185 {Γ : hCT} (C : hC Γ RX16 cX16_rounds ((Option.none : Option Jvm.ClassFile.FieldType)) "rounds" 3 89) {Q : St → Prop} {E : St → Prop} (hΓ : Γ.2.2.2.2.2.2.2.2.2.2.2 = (7, 0, 0, oT (oV Q) E)) (hne : hNE Γ) {r7 : Nat → Nat → Nat → Int32 → St → Prop} (h7 : ∀ (v0 : Nat) (v1 : Nat) (v2 : Nat) (v3 : Int32) (σ : St), r7 v0 v1 v2 v3 σ → hW Γ 0 0 7 [(0, .ref v0), (1, .ref v1), (2, .ref v2), (3, .int v3)] [] σ) {r161 : Nat → Nat → Nat → Int32 → Int32 → St → Prop} (h161 : ∀ (v0 : Nat) (v1 : Nat) (v2 : Nat) (v3 : Int32) (v4 : Int32) (σ : St), r161 v0 v1 v2 v3 v4 σ → hW Γ 0 0 161 [(0, .ref v0), (1, .ref v1), (2, .ref v2), (3, .int v3), (4, .int v4)] [] σ) (f : Nat) (v0 : Nat) (v1 : Nat) (v2 : Nat) (v3 : Int32) (v4 : Int32) (v5 : Int32) (σ : St) (hb : lX16_rounds_185 Q E r7 r161 f v0 v1 v2 v3 v4 v5 σ) : hW Γ 0 0 185 [(0, .ref v0), (1, .ref v1), (2, .ref v2), (3, .int v3), (4, .int v4), (5, .int v5)] [] σ := by
  induction f generalizing v0 v1 v2 v3 v4 v5 σ with
  | zero => exact hb.elim
  | succ f ih => exact kwX16_rounds_185 C hΓ hne h7 h161 (fun v0 v1 v2 v3 v4 v5 σ h => ih v0 v1 v2 v3 v4 v5 σ h) _ _ _ _ _ _ _ hb
set_option maxRecDepth 20000 in
theorem kwX16_rounds_161 {Γ : hCT} (C : hC Γ RX16 cX16_rounds ((Option.none : Option Jvm.ClassFile.FieldType)) "rounds" 3 89) {Q : St → Prop} {E : St → Prop} (hΓ : Γ.2.2.2.2.2.2.2.2.2.2.2 = (7, 0, 0, oT (oV Q) E)) (hne : hNE Γ) {r7 : Nat → Nat → Nat → Int32 → St → Prop} (h7 : ∀ (v0 : Nat) (v1 : Nat) (v2 : Nat) (v3 : Int32) (σ : St), r7 v0 v1 v2 v3 σ → hW Γ 0 0 7 [(0, .ref v0), (1, .ref v1), (2, .ref v2), (3, .int v3)] [] σ) {r161 : Nat → Nat → Nat → Int32 → Int32 → St → Prop} (h161 : ∀ (v0 : Nat) (v1 : Nat) (v2 : Nat) (v3 : Int32) (v4 : Int32) (σ : St), r161 v0 v1 v2 v3 v4 σ → hW Γ 0 0 161 [(0, .ref v0), (1, .ref v1), (2, .ref v2), (3, .int v3), (4, .int v4)] [] σ) (v0 : Nat) (v1 : Nat) (v2 : Nat) (v3 : Int32) (v4 : Int32) (σ : St) (hb : wX16_rounds_161 Q E r7 r161 v0 v1 v2 v3 v4 σ) : hW Γ 0 0 161 [(0, .ref v0), (1, .ref v1), (2, .ref v2), (3, .int v3), (4, .int v4)] [] σ := by
  unfold wX16_rounds_161 at hb
  refine g_iload C dX16_rounds_161 4 rfl ?_
  refine g_aload_n (some v1) C dX16_rounds_163 1 rfl ?_
  obtain ⟨q1, hb⟩ := hb
  refine g_getIx (zFi σ 896 v1) C fl_RX16_35 dX16_rounds_164 q1 rfl rfl rfl ?_
  refine g_icmp_ge (tgt := 344) C dX16_rounds_167 (by decide) (fun c => ?_) (fun c => ?_)
  ·
    replace hb := hb.1 (c)
    refine g_goto (tgt := 7) C dX16_rounds_344 (by decide) ?_
    refine g_sub (lv' := [(0, .ref v0), (1, .ref v1), (2, .ref v2), (3, .int v3)]) [0, 1, 2, 3] rfl ?_
    exact h7 _ _ _ _ _ hb
  ·
    replace hb := hb.2 (c)
    refine g_aload_n (some v0) C dX16_rounds_170 0 rfl ?_
    refine g_iconst (v := 0) C dX16_rounds_171 (by decide) ?_
    obtain ⟨q2, hb⟩ := hb
    refine g_putI C fl_RX16_223 dX16_rounds_172 q2 rfl rfl rfl rfl ?_
    refine g_aload_n (some v0) C dX16_rounds_175 0 rfl ?_
    refine g_aload_n (some v1) C dX16_rounds_176 1 rfl ?_
    refine g_iload C dX16_rounds_177 4 rfl ?_
    refine g_invV (ci := 16) [.ref v1, .int v4] [] zy_X16_pilesAll wd_1414 wd_1416 wd_50 ⟨_, _, rfl⟩ (by decide) C dX16_rounds_179 (by first | exact Nat.le_of_ble_eq_true rfl | simp [cat_rf]) (by first | exact Nat.le_of_ble_eq_true rfl | simp [cat_rf]) (by first | exact Nat.le_of_ble_eq_true rfl | simp [cat_rf]) (Nat.zero_le _) (Nat.zero_le _) rfl rfl (by rw [zK_uFi]; exact q2) (okX16_pilesAll hb) ?_
    rintro o σ3 ⟨rfl, hb⟩
    refine ⟨_, rfl, ?_⟩
    refine g_iconst (v := 0) C dX16_rounds_182 (by decide) ?_
    refine g_istore (lv' := [(5, .int 0), (0, .ref v0), (1, .ref v1), (2, .ref v2), (3, .int v3), (4, .int v4)]) C dX16_rounds_183 (hnl_of hΓ (by decide)) (by first | rfl | simp [cat_rf]) ?_
    refine g_sub (lv' := [(0, .ref v0), (1, .ref v1), (2, .ref v2), (3, .int v3), (4, .int v4), (5, .int 0)]) [1, 2, 3, 4, 5, 0] rfl ?_
    obtain ⟨f4, hb⟩ := hb
    exact klX16_rounds_185 C hΓ hne h7 h161 f4 _ _ _ _ _ _ _ hb
theorem klX16_rounds_161 {Γ : hCT} (C : hC Γ RX16 cX16_rounds ((Option.none : Option Jvm.ClassFile.FieldType)) "rounds" 3 89) {Q : St → Prop} {E : St → Prop} (hΓ : Γ.2.2.2.2.2.2.2.2.2.2.2 = (7, 0, 0, oT (oV Q) E)) (hne : hNE Γ) {r7 : Nat → Nat → Nat → Int32 → St → Prop} (h7 : ∀ (v0 : Nat) (v1 : Nat) (v2 : Nat) (v3 : Int32) (σ : St), r7 v0 v1 v2 v3 σ → hW Γ 0 0 7 [(0, .ref v0), (1, .ref v1), (2, .ref v2), (3, .int v3)] [] σ) (f : Nat) (v0 : Nat) (v1 : Nat) (v2 : Nat) (v3 : Int32) (v4 : Int32) (σ : St) (hb : lX16_rounds_161 Q E r7 f v0 v1 v2 v3 v4 σ) : hW Γ 0 0 161 [(0, .ref v0), (1, .ref v1), (2, .ref v2), (3, .int v3), (4, .int v4)] [] σ := by
  induction f generalizing v0 v1 v2 v3 v4 σ with
  | zero => exact hb.elim
  | succ f ih => exact kwX16_rounds_161 C hΓ hne h7 (fun v0 v1 v2 v3 v4 σ h => ih v0 v1 v2 v3 v4 σ h) _ _ _ _ _ _ hb
set_option maxRecDepth 20000 in
theorem kwX16_rounds_39 {Γ : hCT} (C : hC Γ RX16 cX16_rounds ((Option.none : Option Jvm.ClassFile.FieldType)) "rounds" 3 89) {Q : St → Prop} {E : St → Prop} (hΓ : Γ.2.2.2.2.2.2.2.2.2.2.2 = (7, 0, 0, oT (oV Q) E)) (hne : hNE Γ) {r7 : Nat → Nat → Nat → Int32 → St → Prop} (h7 : ∀ (v0 : Nat) (v1 : Nat) (v2 : Nat) (v3 : Int32) (σ : St), r7 v0 v1 v2 v3 σ → hW Γ 0 0 7 [(0, .ref v0), (1, .ref v1), (2, .ref v2), (3, .int v3)] [] σ) {r24 : Nat → Nat → Nat → Int32 → Int32 → St → Prop} (h24 : ∀ (v0 : Nat) (v1 : Nat) (v2 : Nat) (v3 : Int32) (v4 : Int32) (σ : St), r24 v0 v1 v2 v3 v4 σ → hW Γ 0 0 24 [(0, .ref v0), (1, .ref v1), (2, .ref v2), (3, .int v3), (4, .int v4)] [] σ) {r39 : Nat → Nat → Nat → Int32 → Int32 → Int32 → St → Prop} (h39 : ∀ (v0 : Nat) (v1 : Nat) (v2 : Nat) (v3 : Int32) (v4 : Int32) (v5 : Int32) (σ : St), r39 v0 v1 v2 v3 v4 v5 σ → hW Γ 0 0 39 [(0, .ref v0), (1, .ref v1), (2, .ref v2), (3, .int v3), (4, .int v4), (5, .int v5)] [] σ) (v0 : Nat) (v1 : Nat) (v2 : Nat) (v3 : Int32) (v4 : Int32) (v5 : Int32) (σ : St) (hb : wX16_rounds_39 Q E r7 r24 r39 v0 v1 v2 v3 v4 v5 σ) : hW Γ 0 0 39 [(0, .ref v0), (1, .ref v1), (2, .ref v2), (3, .int v3), (4, .int v4), (5, .int v5)] [] σ := by
  unfold wX16_rounds_39 at hb
  refine g_iload C dX16_rounds_39 5 rfl ?_
  refine g_aload_n (some v2) C dX16_rounds_41 2 rfl ?_
  obtain ⟨q1, hb⟩ := hb
  refine g_getIx (zFi σ 896 v2) C fl_RX16_35 dX16_rounds_42 q1 rfl rfl rfl ?_
  refine g_icmp_ge (tgt := 152) C dX16_rounds_45 (by decide) (fun c => ?_) (fun c => ?_)
  ·
    replace hb := hb.1 (c)
    refine g_iinc (v := v4 + 1) (lv' := [(4, .int (v4 + 1)), (0, .ref v0), (1, .ref v1), (2, .ref v2), (3, .int v3), (5, .int v5)]) C dX16_rounds_152 4 rfl rfl (hnl_of hΓ (by decide)) (by first | rfl | simp [cat_rf]) ?_
    refine g_goto (tgt := 24) C dX16_rounds_155 (by decide) ?_
    refine g_sub (lv' := [(0, .ref v0), (1, .ref v1), (2, .ref v2), (3, .int v3), (4, .int (v4 + 1))]) [1, 2, 3, 4, 0] rfl ?_
    exact h24 _ _ _ _ _ _ hb
  ·
    replace hb := hb.2 (c)
    refine g_aload_n (some v0) C dX16_rounds_48 0 rfl ?_
    obtain ⟨q2, hb⟩ := hb
    obtain ⟨a3, q4, hb⟩ := hb
    refine g_getR (some a3) C fl_RX16_193 dX16_rounds_49 q2 rfl rfl q4 ?_
    obtain ⟨q5, hb⟩ := hb
    obtain ⟨a6, q7, hb⟩ := hb
    refine g_getR (some a6) C fl_RX16_239 dX16_rounds_52 q5 rfl rfl q7 ?_
    refine g_bipush (v := 6) C dX16_rounds_55 (by decide) ?_
    refine g_iload C dX16_rounds_57 4 rfl ?_
    refine g_imul C dX16_rounds_59 ?_
    refine g_iconst (v := 1) C dX16_rounds_60 (by decide) ?_
    refine g_iadd C dX16_rounds_61 ?_
    obtain ⟨q8, hb⟩ := hb
    obtain ⟨q9, hb⟩ := hb
    refine g_ialdx (zAi σ a6 (ix ((6 * v4) + 1))) C dX16_rounds_62 q8 q9 rfl ?_
    refine g_aload_n (some v2) C dX16_rounds_63 2 rfl ?_
    obtain ⟨a10, q11, hb⟩ := hb
    refine g_getR (some a10) C fl_RX16_239 dX16_rounds_64 q1 rfl rfl q11 ?_
    refine g_bipush (v := 6) C dX16_rounds_67 (by decide) ?_
    refine g_iload C dX16_rounds_69 5 rfl ?_
    refine g_imul C dX16_rounds_71 ?_
    obtain ⟨q12, hb⟩ := hb
    obtain ⟨q13, hb⟩ := hb
    refine g_ialdx (zAi σ a10 (ix (6 * v5))) C dX16_rounds_72 q12 q13 rfl ?_
    refine g_icmp_eq (tgt := 79) C dX16_rounds_73 (by decide) (fun c => ?_) (fun c => ?_)
    ·
      replace hb := hb.1 (c)
      refine g_aload_n (some v0) C dX16_rounds_79 0 rfl ?_
      obtain ⟨a14, q15, hb⟩ := hb
      refine g_getR (some a14) C fl_RX16_200 dX16_rounds_80 q2 rfl rfl q15 ?_
      refine g_iconst (v := 0) C dX16_rounds_83 (by decide) ?_
      refine g_aload_n (some v0) C dX16_rounds_84 0 rfl ?_
      refine g_getR (some a3) C fl_RX16_193 dX16_rounds_85 q2 rfl rfl q4 ?_
      refine g_getR (some a6) C fl_RX16_239 dX16_rounds_88 q5 rfl rfl q7 ?_
      refine g_bipush (v := 6) C dX16_rounds_91 (by decide) ?_
      refine g_iload C dX16_rounds_93 4 rfl ?_
      refine g_imul C dX16_rounds_95 ?_
      obtain ⟨q16, hb⟩ := hb
      refine g_ialdx (zAi σ a6 (ix (6 * v4))) C dX16_rounds_96 q8 q16 rfl ?_
      obtain ⟨q17, hb⟩ := hb
      obtain ⟨q18, hb⟩ := hb
      refine g_iast C dX16_rounds_97 q17 q18 ?_
      refine g_aload_n (some v0) C dX16_rounds_98 0 rfl ?_
      refine g_getR (some a14) C fl_RX16_200 dX16_rounds_99 (by rw [zK_uAi]; exact q2) rfl rfl (by rw [zFr_uAi]; exact q15) ?_
      refine g_iconst (v := 1) C dX16_rounds_102 (by decide) ?_
      refine g_aload_n (some v2) C dX16_rounds_103 2 rfl ?_
      refine g_getR (some a10) C fl_RX16_239 dX16_rounds_104 (by rw [zK_uAi]; exact q1) rfl rfl (by rw [zFr_uAi]; exact q11) ?_
      refine g_bipush (v := 6) C dX16_rounds_107 (by decide) ?_
      refine g_iload C dX16_rounds_109 5 rfl ?_
      refine g_imul C dX16_rounds_111 ?_
      refine g_iconst (v := 1) C dX16_rounds_112 (by decide) ?_
      refine g_iadd C dX16_rounds_113 ?_
      obtain ⟨q19, hb⟩ := hb
      refine g_ialdx (zAi (uAi σ a14 (ix 0) (zAi σ a6 (ix (6 * v4)))) a10 (ix ((6 * v5) + 1))) C dX16_rounds_114 (by rw [zK_uAi]; exact q12) (by rw [zL_uAi]; exact q19) rfl ?_
      obtain ⟨q20, hb⟩ := hb
      refine g_iast C dX16_rounds_115 (by rw [zK_uAi]; exact q17) (by rw [zL_uAi]; exact q20) ?_
      refine g_aload_n (some v1) C dX16_rounds_116 1 rfl ?_
      refine g_aload_n (some v0) C dX16_rounds_117 0 rfl ?_
      refine g_getR (some a14) C fl_RX16_200 dX16_rounds_118 (by rw [zK_uAi, zK_uAi]; exact q2) rfl rfl (by rw [zFr_uAi, zFr_uAi]; exact q15) ?_
      refine g_iconst (v := 0) C dX16_rounds_121 (by decide) ?_
      obtain ⟨q21, hb⟩ := hb
      refine g_invV (ci := 14) [.ref a14, .int 0] [] zy_X14_find wd_1405 wd_1406 wd_1407 ⟨_, _, rfl⟩ (by decide) C dX16_rounds_122 (by first | exact Nat.le_of_ble_eq_true rfl | simp [cat_rf]) (by first | exact Nat.le_of_ble_eq_true rfl | simp [cat_rf]) (by first | exact Nat.le_of_ble_eq_true rfl | simp [cat_rf]) (Nat.zero_le _) (Nat.zero_le _) rfl rfl (by rw [zK_uAi, zK_uAi]; exact q21) (okX14_find hb) ?_
      rintro o σ22 ⟨y23, rfl, hb⟩
      refine ⟨_, rfl, ?_⟩
      refine g_iconst (v := (-1)) C dX16_rounds_125 (by decide) ?_
      refine g_icmp_eq (tgt := 132) C dX16_rounds_126 (by decide) (fun c => ?_) (fun c => ?_)
      ·
        replace hb := hb.1 (c)
        refine g_aload_n (some v0) C dX16_rounds_132 0 rfl ?_
        refine g_aload_n (some v1) C dX16_rounds_133 1 rfl ?_
        refine g_aload_n (some v0) C dX16_rounds_134 0 rfl ?_
        obtain ⟨q24, hb⟩ := hb
        obtain ⟨a25, q26, hb⟩ := hb
        refine g_getR (some a25) C fl_RX16_200 dX16_rounds_135 q24 rfl rfl q26 ?_
        refine g_iconst (v := 0) C dX16_rounds_138 (by decide) ?_
        refine g_invXV (ci := 16) [.ref v1, .ref a25, .int 0] [] zy_X16_adds wd_1409 wd_1411 wd_49 ⟨_, _, rfl⟩ (by decide) C dX16_rounds_139 (by first | exact Nat.le_of_ble_eq_true rfl | simp [cat_rf]) (by first | exact Nat.le_of_ble_eq_true rfl | simp [cat_rf]) (by first | exact Nat.le_of_ble_eq_true rfl | simp [cat_rf]) (Nat.zero_le _) (Nat.zero_le _) rfl rfl q24 hΓ hne (okX16_adds hb) ?_
        rintro o σ27 ((⟨y28, rfl, hb⟩) | ⟨x, rfl, hx, hb⟩)
        case inr => exact Or.inr ⟨x, rfl, g_thrown hΓ hx hb⟩
        refine Or.inl ⟨_, rfl, ?_⟩
        refine g_istore (lv' := [(6, .int y28), (0, .ref v0), (1, .ref v1), (2, .ref v2), (3, .int v3), (4, .int v4), (5, .int v5)]) C dX16_rounds_142 (hnl_of hΓ (by decide)) (by first | rfl | simp [cat_rf]) ?_
        refine g_iconst (v := 1) C dX16_rounds_144 (by decide) ?_
        refine g_istore_n (i := 3) (lv' := [(3, .int 1), (6, .int y28), (0, .ref v0), (1, .ref v1), (2, .ref v2), (4, .int v4), (5, .int v5)]) C dX16_rounds_145 rfl (hnl_of hΓ (by decide)) (by first | rfl | simp [cat_rf]) ?_
        refine g_iinc (v := v5 + 1) (lv' := [(5, .int (v5 + 1)), (3, .int 1), (6, .int y28), (0, .ref v0), (1, .ref v1), (2, .ref v2), (4, .int v4)]) C dX16_rounds_146 6 rfl rfl (hnl_of hΓ (by decide)) (by first | rfl | simp [cat_rf]) ?_
        refine g_goto (tgt := 39) C dX16_rounds_149 (by decide) ?_
        refine g_sub (lv' := [(0, .ref v0), (1, .ref v1), (2, .ref v2), (3, .int 1), (4, .int v4), (5, .int (v5 + 1))]) [3, 4, 5, 1, 6, 0] rfl ?_
        exact h39 _ _ _ _ _ _ _ hb
      ·
        replace hb := hb.2 (c)
        refine g_goto (tgt := 146) C dX16_rounds_129 (by decide) ?_
        refine g_iinc (v := v5 + 1) (lv' := [(5, .int (v5 + 1)), (0, .ref v0), (1, .ref v1), (2, .ref v2), (3, .int v3), (4, .int v4)]) C dX16_rounds_146 5 rfl rfl (hnl_of hΓ (by decide)) (by first | rfl | simp [cat_rf]) ?_
        refine g_goto (tgt := 39) C dX16_rounds_149 (by decide) ?_
        refine g_sub (lv' := [(0, .ref v0), (1, .ref v1), (2, .ref v2), (3, .int v3), (4, .int v4), (5, .int (v5 + 1))]) [1, 2, 3, 4, 5, 0] rfl ?_
        exact h39 _ _ _ _ _ _ _ hb
    ·
      replace hb := hb.2 (c)
      refine g_goto (tgt := 146) C dX16_rounds_76 (by decide) ?_
      refine g_iinc (v := v5 + 1) (lv' := [(5, .int (v5 + 1)), (0, .ref v0), (1, .ref v1), (2, .ref v2), (3, .int v3), (4, .int v4)]) C dX16_rounds_146 5 rfl rfl (hnl_of hΓ (by decide)) (by first | rfl | simp [cat_rf]) ?_
      refine g_goto (tgt := 39) C dX16_rounds_149 (by decide) ?_
      refine g_sub (lv' := [(0, .ref v0), (1, .ref v1), (2, .ref v2), (3, .int v3), (4, .int v4), (5, .int (v5 + 1))]) [1, 2, 3, 4, 5, 0] rfl ?_
      exact h39 _ _ _ _ _ _ _ hb
theorem klX16_rounds_39 {Γ : hCT} (C : hC Γ RX16 cX16_rounds ((Option.none : Option Jvm.ClassFile.FieldType)) "rounds" 3 89) {Q : St → Prop} {E : St → Prop} (hΓ : Γ.2.2.2.2.2.2.2.2.2.2.2 = (7, 0, 0, oT (oV Q) E)) (hne : hNE Γ) {r7 : Nat → Nat → Nat → Int32 → St → Prop} (h7 : ∀ (v0 : Nat) (v1 : Nat) (v2 : Nat) (v3 : Int32) (σ : St), r7 v0 v1 v2 v3 σ → hW Γ 0 0 7 [(0, .ref v0), (1, .ref v1), (2, .ref v2), (3, .int v3)] [] σ) {r24 : Nat → Nat → Nat → Int32 → Int32 → St → Prop} (h24 : ∀ (v0 : Nat) (v1 : Nat) (v2 : Nat) (v3 : Int32) (v4 : Int32) (σ : St), r24 v0 v1 v2 v3 v4 σ → hW Γ 0 0 24 [(0, .ref v0), (1, .ref v1), (2, .ref v2), (3, .int v3), (4, .int v4)] [] σ) (f : Nat) (v0 : Nat) (v1 : Nat) (v2 : Nat) (v3 : Int32) (v4 : Int32) (v5 : Int32) (σ : St) (hb : lX16_rounds_39 Q E r7 r24 f v0 v1 v2 v3 v4 v5 σ) : hW Γ 0 0 39 [(0, .ref v0), (1, .ref v1), (2, .ref v2), (3, .int v3), (4, .int v4), (5, .int v5)] [] σ := by
  induction f generalizing v0 v1 v2 v3 v4 v5 σ with
  | zero => exact hb.elim
  | succ f ih => exact kwX16_rounds_39 C hΓ hne h7 h24 (fun v0 v1 v2 v3 v4 v5 σ h => ih v0 v1 v2 v3 v4 v5 σ h) _ _ _ _ _ _ _ hb
set_option maxRecDepth 20000 in
theorem kwX16_rounds_24 {Γ : hCT} (C : hC Γ RX16 cX16_rounds ((Option.none : Option Jvm.ClassFile.FieldType)) "rounds" 3 89) {Q : St → Prop} {E : St → Prop} (hΓ : Γ.2.2.2.2.2.2.2.2.2.2.2 = (7, 0, 0, oT (oV Q) E)) (hne : hNE Γ) {r7 : Nat → Nat → Nat → Int32 → St → Prop} (h7 : ∀ (v0 : Nat) (v1 : Nat) (v2 : Nat) (v3 : Int32) (σ : St), r7 v0 v1 v2 v3 σ → hW Γ 0 0 7 [(0, .ref v0), (1, .ref v1), (2, .ref v2), (3, .int v3)] [] σ) {r24 : Nat → Nat → Nat → Int32 → Int32 → St → Prop} (h24 : ∀ (v0 : Nat) (v1 : Nat) (v2 : Nat) (v3 : Int32) (v4 : Int32) (σ : St), r24 v0 v1 v2 v3 v4 σ → hW Γ 0 0 24 [(0, .ref v0), (1, .ref v1), (2, .ref v2), (3, .int v3), (4, .int v4)] [] σ) (v0 : Nat) (v1 : Nat) (v2 : Nat) (v3 : Int32) (v4 : Int32) (σ : St) (hb : wX16_rounds_24 Q E r7 r24 v0 v1 v2 v3 v4 σ) : hW Γ 0 0 24 [(0, .ref v0), (1, .ref v1), (2, .ref v2), (3, .int v3), (4, .int v4)] [] σ := by
  unfold wX16_rounds_24 at hb
  refine g_iload C dX16_rounds_24 4 rfl ?_
  refine g_aload_n (some v0) C dX16_rounds_26 0 rfl ?_
  obtain ⟨q1, hb⟩ := hb
  obtain ⟨a2, q3, hb⟩ := hb
  refine g_getR (some a2) C fl_RX16_193 dX16_rounds_27 q1 rfl rfl q3 ?_
  obtain ⟨q4, hb⟩ := hb
  refine g_getIx (zFi σ 896 a2) C fl_RX16_35 dX16_rounds_30 q4 rfl rfl rfl ?_
  refine g_icmp_ge (tgt := 158) C dX16_rounds_33 (by decide) (fun c => ?_) (fun c => ?_)
  ·
    replace hb := hb.1 (c)
    refine g_iconst (v := 0) C dX16_rounds_158 (by decide) ?_
    refine g_istore (lv' := [(4, .int 0), (0, .ref v0), (1, .ref v1), (2, .ref v2), (3, .int v3)]) C dX16_rounds_159 (hnl_of hΓ (by decide)) (by first | rfl | simp [cat_rf]) ?_
    refine g_sub (lv' := [(0, .ref v0), (1, .ref v1), (2, .ref v2), (3, .int v3), (4, .int 0)]) [1, 2, 3, 4, 0] rfl ?_
    obtain ⟨f5, hb⟩ := hb
    exact klX16_rounds_161 C hΓ hne h7 f5 _ _ _ _ _ _ hb
  ·
    replace hb := hb.2 (c)
    refine g_iconst (v := 0) C dX16_rounds_36 (by decide) ?_
    refine g_istore (lv' := [(5, .int 0), (0, .ref v0), (1, .ref v1), (2, .ref v2), (3, .int v3), (4, .int v4)]) C dX16_rounds_37 (hnl_of hΓ (by decide)) (by first | rfl | simp [cat_rf]) ?_
    refine g_sub (lv' := [(0, .ref v0), (1, .ref v1), (2, .ref v2), (3, .int v3), (4, .int v4), (5, .int 0)]) [1, 2, 3, 4, 5, 0] rfl ?_
    obtain ⟨f6, hb⟩ := hb
    exact klX16_rounds_39 C hΓ hne h7 h24 f6 _ _ _ _ _ _ _ hb
theorem klX16_rounds_24 {Γ : hCT} (C : hC Γ RX16 cX16_rounds ((Option.none : Option Jvm.ClassFile.FieldType)) "rounds" 3 89) {Q : St → Prop} {E : St → Prop} (hΓ : Γ.2.2.2.2.2.2.2.2.2.2.2 = (7, 0, 0, oT (oV Q) E)) (hne : hNE Γ) {r7 : Nat → Nat → Nat → Int32 → St → Prop} (h7 : ∀ (v0 : Nat) (v1 : Nat) (v2 : Nat) (v3 : Int32) (σ : St), r7 v0 v1 v2 v3 σ → hW Γ 0 0 7 [(0, .ref v0), (1, .ref v1), (2, .ref v2), (3, .int v3)] [] σ) (f : Nat) (v0 : Nat) (v1 : Nat) (v2 : Nat) (v3 : Int32) (v4 : Int32) (σ : St) (hb : lX16_rounds_24 Q E r7 f v0 v1 v2 v3 v4 σ) : hW Γ 0 0 24 [(0, .ref v0), (1, .ref v1), (2, .ref v2), (3, .int v3), (4, .int v4)] [] σ := by
  induction f generalizing v0 v1 v2 v3 v4 σ with
  | zero => exact hb.elim
  | succ f ih => exact kwX16_rounds_24 C hΓ hne h7 (fun v0 v1 v2 v3 v4 σ h => ih v0 v1 v2 v3 v4 σ h) _ _ _ _ _ _ hb
set_option maxRecDepth 20000 in
theorem kwX16_rounds_7 {Γ : hCT} (C : hC Γ RX16 cX16_rounds ((Option.none : Option Jvm.ClassFile.FieldType)) "rounds" 3 89) {Q : St → Prop} {E : St → Prop} (hΓ : Γ.2.2.2.2.2.2.2.2.2.2.2 = (7, 0, 0, oT (oV Q) E)) (hne : hNE Γ) {r7 : Nat → Nat → Nat → Int32 → St → Prop} (h7 : ∀ (v0 : Nat) (v1 : Nat) (v2 : Nat) (v3 : Int32) (σ : St), r7 v0 v1 v2 v3 σ → hW Γ 0 0 7 [(0, .ref v0), (1, .ref v1), (2, .ref v2), (3, .int v3)] [] σ) (v0 : Nat) (v1 : Nat) (v2 : Nat) (v3 : Int32) (σ : St) (hb : wX16_rounds_7 Q E r7 v0 v1 v2 v3 σ) : hW Γ 0 0 7 [(0, .ref v0), (1, .ref v1), (2, .ref v2), (3, .int v3)] [] σ := by
  unfold wX16_rounds_7 at hb
  refine g_iload_n C dX16_rounds_7 3 rfl ?_
  refine g_if_eq (tgt := 347) C dX16_rounds_8 (by decide) (fun c => ?_) (fun c => ?_)
  ·
    replace hb := hb.1 (c)
    refine g_aload_n (some v1) C dX16_rounds_347 1 rfl ?_
    refine g_aload_n (some v2) C dX16_rounds_348 2 rfl ?_
    refine g_invS [.ref v1, .ref v2] [] zy_X16_chains wd_1469 wd_1470 C dX16_rounds_349 (by first | exact Nat.le_of_ble_eq_true rfl | simp [cat_rf]) (by first | exact Nat.le_of_ble_eq_true rfl | simp [cat_rf]) (by first | exact Nat.le_of_ble_eq_true rfl | simp [cat_rf]) (Nat.zero_le _) (Nat.zero_le _) rfl rfl  (okX16_chains hb) ?_
    rintro o σ1 ⟨rfl, hb⟩
    refine ⟨_, rfl, ?_⟩
    exact g_vreturn C hΓ (Nat.zero_le _) (Nat.zero_le _) dX16_rounds_352 (Or.inl ⟨rfl, hb⟩)
  ·
    replace hb := hb.2 (c)
    refine g_iconst (v := 0) C dX16_rounds_11 (by decide) ?_
    refine g_istore_n (i := 3) (lv' := [(3, .int 0), (0, .ref v0), (1, .ref v1), (2, .ref v2)]) C dX16_rounds_12 rfl (hnl_of hΓ (by decide)) (by first | rfl | simp [cat_rf]) ?_
    refine g_aload_n (some v0) C dX16_rounds_13 1 rfl ?_
    obtain ⟨q2, hb⟩ := hb
    obtain ⟨a3, q4, hb⟩ := hb
    refine g_getR (some a3) C fl_RX16_193 dX16_rounds_14 q2 rfl rfl q4 ?_
    refine g_aload_n (some v1) C dX16_rounds_17 2 rfl ?_
    refine g_invS [.ref a3, .ref v1] [] zy_X16_becomes wd_1466 wd_1467 C dX16_rounds_18 (by first | exact Nat.le_of_ble_eq_true rfl | simp [cat_rf]) (by first | exact Nat.le_of_ble_eq_true rfl | simp [cat_rf]) (by first | exact Nat.le_of_ble_eq_true rfl | simp [cat_rf]) (Nat.zero_le _) (Nat.zero_le _) rfl rfl  (okX16_becomes hb) ?_
    rintro o σ5 ⟨rfl, hb⟩
    refine ⟨_, rfl, ?_⟩
    refine g_iconst (v := 0) C dX16_rounds_21 (by decide) ?_
    refine g_istore (lv' := [(4, .int 0), (3, .int 0), (0, .ref v0), (1, .ref v1), (2, .ref v2)]) C dX16_rounds_22 (hnl_of hΓ (by decide)) (by first | rfl | simp [cat_rf]) ?_
    refine g_sub (lv' := [(0, .ref v0), (1, .ref v1), (2, .ref v2), (3, .int 0), (4, .int 0)]) [2, 3, 4, 1, 0] rfl ?_
    obtain ⟨f6, hb⟩ := hb
    exact klX16_rounds_24 C hΓ hne h7 f6 _ _ _ _ _ _ hb
theorem klX16_rounds_7 {Γ : hCT} (C : hC Γ RX16 cX16_rounds ((Option.none : Option Jvm.ClassFile.FieldType)) "rounds" 3 89) {Q : St → Prop} {E : St → Prop} (hΓ : Γ.2.2.2.2.2.2.2.2.2.2.2 = (7, 0, 0, oT (oV Q) E)) (hne : hNE Γ) (f : Nat) (v0 : Nat) (v1 : Nat) (v2 : Nat) (v3 : Int32) (σ : St) (hb : lX16_rounds_7 Q E f v0 v1 v2 v3 σ) : hW Γ 0 0 7 [(0, .ref v0), (1, .ref v1), (2, .ref v2), (3, .int v3)] [] σ := by
  induction f generalizing v0 v1 v2 v3 σ with
  | zero => exact hb.elim
  | succ f ih => exact kwX16_rounds_7 C hΓ hne  (fun v0 v1 v2 v3 σ h => ih v0 v1 v2 v3 σ h) _ _ _ _ _ hb
set_option maxRecDepth 20000 in
theorem kwX16_rounds_0 {Γ : hCT} (C : hC Γ RX16 cX16_rounds ((Option.none : Option Jvm.ClassFile.FieldType)) "rounds" 3 89) {Q : St → Prop} {E : St → Prop} (hΓ : Γ.2.2.2.2.2.2.2.2.2.2.2 = (7, 0, 0, oT (oV Q) E)) (hne : hNE Γ) (v0 : Nat) (v1 : Nat) (v2 : Nat) (σ : St) (hb : wX16_rounds_0 Q E v0 v1 v2 σ) : hW Γ 0 0 0 [(0, .ref v0), (1, .ref v1), (2, .ref v2)] [] σ := by
  unfold wX16_rounds_0 at hb
  refine g_aload_n (some v1) C dX16_rounds_0 1 rfl ?_
  refine g_aload_n (some v2) C dX16_rounds_1 2 rfl ?_
  refine g_invS [.ref v1, .ref v2] [] zy_X16_becomes wd_1466 wd_1467 C dX16_rounds_2 (by first | exact Nat.le_of_ble_eq_true rfl | simp [cat_rf]) (by first | exact Nat.le_of_ble_eq_true rfl | simp [cat_rf]) (by first | exact Nat.le_of_ble_eq_true rfl | simp [cat_rf]) (Nat.zero_le _) (Nat.zero_le _) rfl rfl  (okX16_becomes hb) ?_
  rintro o σ1 ⟨rfl, hb⟩
  refine ⟨_, rfl, ?_⟩
  refine g_iconst (v := 1) C dX16_rounds_5 (by decide) ?_
  refine g_istore_n (i := 3) (lv' := [(3, .int 1), (0, .ref v0), (1, .ref v1), (2, .ref v2)]) C dX16_rounds_6 rfl (hnl_of hΓ (by decide)) (by first | rfl | simp [cat_rf]) ?_
  refine g_sub (lv' := [(0, .ref v0), (1, .ref v1), (2, .ref v2), (3, .int 1)]) [1, 2, 3, 0] rfl ?_
  obtain ⟨f2, hb⟩ := hb
  exact klX16_rounds_7 C hΓ hne  f2 _ _ _ _ _ hb
theorem okX16_rounds {v0 : Nat} {v1 : Nat} {v2 : Nat} {σ : St} {Q : St → Prop} {E : St → Prop} (hb : wX16_rounds v0 v1 v2 σ Q E) : hM yX16_rounds cX16_rounds 7 ((Option.none : Option Jvm.ClassFile.FieldType)) 3 89 0 0 [.ref v0, .ref v1, .ref v2] σ (oT (oV Q) E) :=
  hM_ofX (by decide) (Nat.le_of_ble_eq_true rfl) (fun Γ hΓ C hne => kwX16_rounds_0 C hΓ hne _ _ _ _ hb)
def wX16_isThere_5 (Q : Int32 → St → Prop) (r5 : Nat → Int64 → Int32 → Int32 → St → Prop) (v0 : Nat) (v1 : Int64) (v3 : Int32) (v4 : Int32) (σ : St) : Prop :=
  zK σ v0 = 17 ∧ (((zFi σ 1029 v0) ≤ v4 → (v3 = 0 ∨ v3 = 1) ∧ Q v3 σ) ∧ (¬ (zFi σ 1029 v0) ≤ v4 → ((v3 = 0 → r5 v0 v1 0 (v4 + 1) σ) ∧ (¬ v3 = 0 → ((((v1 >>> (Int32.toInt64 v4 &&& 63)) &&& 1) = 0 → r5 v0 v1 1 (v4 + 1) σ) ∧ (¬ ((v1 >>> (Int32.toInt64 v4 &&& 63)) &&& 1) = 0 → ∃ a3 : Nat, zFr σ 1038 v0 = some a3 ∧ zK σ a3 = 23 ∧ vp_in v4 (zL σ a3) ∧ ((¬ (zAi σ a3 (ix v4)) = 0 → r5 v0 v1 0 (v4 + 1) σ) ∧ ((zAi σ a3 (ix v4)) = 0 → r5 v0 v1 1 (v4 + 1) σ))))))))
def lX16_isThere_5 (Q : Int32 → St → Prop) : Nat → Nat → Int64 → Int32 → Int32 → St → Prop
  | 0, _, _, _, _, _ => False
  | f + 1, v0, v1, v3, v4, σ => wX16_isThere_5 Q (lX16_isThere_5 Q f) v0 v1 v3 v4 σ
def wX16_isThere_0 (Q : Int32 → St → Prop) (v0 : Nat) (v1 : Int64) (σ : St) : Prop :=
  ∃ f, lX16_isThere_5 Q f v0 v1 1 0 σ
def wX16_isThere (v0 : Nat) (v1 : Int64) (σ : St) (Q : Int32 → St → Prop) : Prop := wX16_isThere_0 Q v0 v1 σ
set_option maxRecDepth 20000 in
theorem kwX16_isThere_5 {Γ : hCT} (C : hC Γ RX16 cX16_isThere ((Option.some FieldType.boolean)) "isThere" 0 0) {Q : Int32 → St → Prop} (hΓ : Γ.2.2.2.2.2.2.2.2.2.2.2 = (5, 0, 0, oI Q)) {r5 : Nat → Int64 → Int32 → Int32 → St → Prop} (h5 : ∀ (v0 : Nat) (v1 : Int64) (v3 : Int32) (v4 : Int32) (σ : St), r5 v0 v1 v3 v4 σ → hW Γ 0 0 5 [(0, .ref v0), (1, .long v1), (3, .int v3), (4, .int v4)] [] σ) (v0 : Nat) (v1 : Int64) (v3 : Int32) (v4 : Int32) (σ : St) (hb : wX16_isThere_5 Q r5 v0 v1 v3 v4 σ) : hW Γ 0 0 5 [(0, .ref v0), (1, .long v1), (3, .int v3), (4, .int v4)] [] σ := by
  unfold wX16_isThere_5 at hb
  refine g_iload C dX16_isThere_5 3 rfl ?_
  refine g_aload_n (some v0) C dX16_isThere_7 0 rfl ?_
  obtain ⟨q1, hb⟩ := hb
  refine g_getIx (zFi σ 1029 v0) C fl_RX16_40 dX16_isThere_8 q1 rfl rfl rfl ?_
  refine g_icmp_ge (tgt := 51) C dX16_isThere_11 (by decide) (fun c => ?_) (fun c => ?_)
  ·
    replace hb := hb.1 (c)
    refine g_iload_n C dX16_isThere_51 2 rfl ?_
    obtain ⟨q2, hb⟩ := hb
    exact g_zreturn C (nz_n q2) hΓ (Nat.zero_le _) (Nat.zero_le _) dX16_isThere_52 ⟨_, rfl, hb⟩
  ·
    replace hb := hb.2 (c)
    refine g_iload_n C dX16_isThere_14 2 rfl ?_
    refine g_if_eq (tgt := 43) C dX16_isThere_15 (by decide) (fun c => ?_) (fun c => ?_)
    ·
      replace hb := hb.1 (c)
      refine g_iconst (v := 0) C dX16_isThere_43 (by decide) ?_
      refine g_istore_n (i := 3) (lv' := [(3, .int 0), (0, .ref v0), (1, .long v1), (4, .int v4)]) C dX16_isThere_44 rfl (hnl_of hΓ (by decide)) (by first | rfl | simp [cat_rf]) ?_
      refine g_iinc (v := v4 + 1) (lv' := [(4, .int (v4 + 1)), (3, .int 0), (0, .ref v0), (1, .long v1)]) C dX16_isThere_45 3 rfl rfl (hnl_of hΓ (by decide)) (by first | rfl | simp [cat_rf]) ?_
      refine g_goto (tgt := 5) C dX16_isThere_48 (by decide) ?_
      refine g_sub (lv' := [(0, .ref v0), (1, .long v1), (3, .int 0), (4, .int (v4 + 1))]) [2, 3, 1, 0] rfl ?_
      exact h5 _ _ _ _ _ hb
    ·
      replace hb := hb.2 (c)
      refine g_lload_n C dX16_isThere_18 1 rfl ?_
      refine g_iload C dX16_isThere_19 3 rfl ?_
      refine g_lshr C dX16_isThere_21 ?_
      refine g_lconst (v := 1) C dX16_isThere_22 (by decide) ?_
      refine g_land C dX16_isThere_23 ?_
      refine g_lconst (v := 0) C dX16_isThere_24 (by decide) ?_
      refine g_lcmp C dX16_isThere_25 ?_
      refine g_if_eq (tgt := 39) C dX16_isThere_26 (by decide) (fun c => ?_) (fun c => ?_)
      ·
        replace hb := hb.1 (lc_eq.mp c)
        refine g_iconst (v := 1) C dX16_isThere_39 (by decide) ?_
        refine g_goto (tgt := 44) C dX16_isThere_40 (by decide) ?_
        refine g_istore_n (i := 3) (lv' := [(3, .int 1), (0, .ref v0), (1, .long v1), (4, .int v4)]) C dX16_isThere_44 rfl (hnl_of hΓ (by decide)) (by first | rfl | simp [cat_rf]) ?_
        refine g_iinc (v := v4 + 1) (lv' := [(4, .int (v4 + 1)), (3, .int 1), (0, .ref v0), (1, .long v1)]) C dX16_isThere_45 3 rfl rfl (hnl_of hΓ (by decide)) (by first | rfl | simp [cat_rf]) ?_
        refine g_goto (tgt := 5) C dX16_isThere_48 (by decide) ?_
        refine g_sub (lv' := [(0, .ref v0), (1, .long v1), (3, .int 1), (4, .int (v4 + 1))]) [2, 3, 1, 0] rfl ?_
        exact h5 _ _ _ _ _ hb
      ·
        replace hb := hb.2 (lcn_eq.mp c)
        refine g_aload_n (some v0) C dX16_isThere_29 0 rfl ?_
        obtain ⟨a3, q4, hb⟩ := hb
        refine g_getR (some a3) C fl_RX16_43 dX16_isThere_30 q1 rfl rfl q4 ?_
        refine g_iload C dX16_isThere_33 3 rfl ?_
        obtain ⟨q5, hb⟩ := hb
        obtain ⟨q6, hb⟩ := hb
        refine g_zaldx (zAi σ a3 (ix v4)) C dX16_isThere_35 q5 q6 rfl ?_
        refine g_if_ne (tgt := 43) C dX16_isThere_36 (by decide) (fun c => ?_) (fun c => ?_)
        ·
          replace hb := hb.1 (c)
          refine g_iconst (v := 0) C dX16_isThere_43 (by decide) ?_
          refine g_istore_n (i := 3) (lv' := [(3, .int 0), (0, .ref v0), (1, .long v1), (4, .int v4)]) C dX16_isThere_44 rfl (hnl_of hΓ (by decide)) (by first | rfl | simp [cat_rf]) ?_
          refine g_iinc (v := v4 + 1) (lv' := [(4, .int (v4 + 1)), (3, .int 0), (0, .ref v0), (1, .long v1)]) C dX16_isThere_45 3 rfl rfl (hnl_of hΓ (by decide)) (by first | rfl | simp [cat_rf]) ?_
          refine g_goto (tgt := 5) C dX16_isThere_48 (by decide) ?_
          refine g_sub (lv' := [(0, .ref v0), (1, .long v1), (3, .int 0), (4, .int (v4 + 1))]) [2, 3, 1, 0] rfl ?_
          exact h5 _ _ _ _ _ hb
        ·
          replace hb := hb.2 (c)
          refine g_iconst (v := 1) C dX16_isThere_39 (by decide) ?_
          refine g_goto (tgt := 44) C dX16_isThere_40 (by decide) ?_
          refine g_istore_n (i := 3) (lv' := [(3, .int 1), (0, .ref v0), (1, .long v1), (4, .int v4)]) C dX16_isThere_44 rfl (hnl_of hΓ (by decide)) (by first | rfl | simp [cat_rf]) ?_
          refine g_iinc (v := v4 + 1) (lv' := [(4, .int (v4 + 1)), (3, .int 1), (0, .ref v0), (1, .long v1)]) C dX16_isThere_45 3 rfl rfl (hnl_of hΓ (by decide)) (by first | rfl | simp [cat_rf]) ?_
          refine g_goto (tgt := 5) C dX16_isThere_48 (by decide) ?_
          refine g_sub (lv' := [(0, .ref v0), (1, .long v1), (3, .int 1), (4, .int (v4 + 1))]) [2, 3, 1, 0] rfl ?_
          exact h5 _ _ _ _ _ hb
theorem klX16_isThere_5 {Γ : hCT} (C : hC Γ RX16 cX16_isThere ((Option.some FieldType.boolean)) "isThere" 0 0) {Q : Int32 → St → Prop} (hΓ : Γ.2.2.2.2.2.2.2.2.2.2.2 = (5, 0, 0, oI Q)) (f : Nat) (v0 : Nat) (v1 : Int64) (v3 : Int32) (v4 : Int32) (σ : St) (hb : lX16_isThere_5 Q f v0 v1 v3 v4 σ) : hW Γ 0 0 5 [(0, .ref v0), (1, .long v1), (3, .int v3), (4, .int v4)] [] σ := by
  induction f generalizing v0 v1 v3 v4 σ with
  | zero => exact hb.elim
  | succ f ih => exact kwX16_isThere_5 C hΓ  (fun v0 v1 v3 v4 σ h => ih v0 v1 v3 v4 σ h) _ _ _ _ _ hb
set_option maxRecDepth 20000 in
theorem kwX16_isThere_0 {Γ : hCT} (C : hC Γ RX16 cX16_isThere ((Option.some FieldType.boolean)) "isThere" 0 0) {Q : Int32 → St → Prop} (hΓ : Γ.2.2.2.2.2.2.2.2.2.2.2 = (5, 0, 0, oI Q)) (v0 : Nat) (v1 : Int64) (σ : St) (hb : wX16_isThere_0 Q v0 v1 σ) : hW Γ 0 0 0 [(0, .ref v0), (1, .long v1)] [] σ := by
  unfold wX16_isThere_0 at hb
  refine g_iconst (v := 1) C dX16_isThere_0 (by decide) ?_
  refine g_istore_n (i := 3) (lv' := [(3, .int 1), (0, .ref v0), (1, .long v1)]) C dX16_isThere_1 rfl (hnl_of hΓ (by decide)) (by first | rfl | simp [cat_rf]) ?_
  refine g_iconst (v := 0) C dX16_isThere_2 (by decide) ?_
  refine g_istore (lv' := [(4, .int 0), (3, .int 1), (0, .ref v0), (1, .long v1)]) C dX16_isThere_3 (hnl_of hΓ (by decide)) (by first | rfl | simp [cat_rf]) ?_
  refine g_sub (lv' := [(0, .ref v0), (1, .long v1), (3, .int 1), (4, .int 0)]) [2, 3, 1, 0] rfl ?_
  obtain ⟨f1, hb⟩ := hb
  exact klX16_isThere_5 C hΓ  f1 _ _ _ _ _ hb
theorem okX16_isThere {v0 : Nat} {v1 : Int64} {σ : St} {Q : Int32 → St → Prop} (hb : wX16_isThere v0 v1 σ Q) : hM yX16_isThere cX16_isThere 5 ((Option.some FieldType.boolean)) 0 0 0 0 [.ref v0, .long v1] σ (oI Q) :=
  hM_of (by decide) (Nat.le_of_ble_eq_true rfl) (fun Γ hΓ C => kwX16_isThere_0 C hΓ _ _ _ hb)
def wX16_isTrue_5 (Q : Int32 → St → Prop) (r5 : Nat → Nat → Int32 → Int32 → Int32 → St → Prop) (v0 : Nat) (v1 : Nat) (v2 : Int32) (v3 : Int32) (v4 : Int32) (σ : St) : Prop :=
  zK σ v1 = 15 ∧ ∃ a2 : Nat, zFr σ 899 v1 = some a2 ∧ zK σ a2 = 20 ∧ vp_in v2 (zL σ a2) ∧ (((zAi σ a2 (ix v2)) ≤ v4 → (v3 = 0 ∨ v3 = 1) ∧ Q v3 σ) ∧ (¬ (zAi σ a2 (ix v2)) ≤ v4 → ((¬ v3 = 0 → (v3 = 0 ∨ v3 = 1) ∧ Q v3 σ) ∧ (v3 = 0 → ∃ a8 : Nat, zFr σ 901 v1 = some a8 ∧ zK σ a8 = 21 ∧ vp_in ((16 * v2) + v4) (zL σ a8) ∧ zK σ v0 = 17 ∧ wX16_isThere v0 (zAj σ a8 (ix ((16 * v2) + v4))) σ (fun y14 σ13 => r5 v0 v1 v2 y14 (v4 + 1) σ13)))))
def lX16_isTrue_5 (Q : Int32 → St → Prop) : Nat → Nat → Nat → Int32 → Int32 → Int32 → St → Prop
  | 0, _, _, _, _, _, _ => False
  | f + 1, v0, v1, v2, v3, v4, σ => wX16_isTrue_5 Q (lX16_isTrue_5 Q f) v0 v1 v2 v3 v4 σ
def wX16_isTrue_0 (Q : Int32 → St → Prop) (v0 : Nat) (v1 : Nat) (v2 : Int32) (σ : St) : Prop :=
  ∃ f, lX16_isTrue_5 Q f v0 v1 v2 0 0 σ
def wX16_isTrue (v0 : Nat) (v1 : Nat) (v2 : Int32) (σ : St) (Q : Int32 → St → Prop) : Prop := wX16_isTrue_0 Q v0 v1 v2 σ
set_option maxRecDepth 20000 in
theorem kwX16_isTrue_5 {Γ : hCT} (C : hC Γ RX16 cX16_isTrue ((Option.some FieldType.boolean)) "isTrue" 1 24) {Q : Int32 → St → Prop} (hΓ : Γ.2.2.2.2.2.2.2.2.2.2.2 = (5, 0, 0, oI Q)) {r5 : Nat → Nat → Int32 → Int32 → Int32 → St → Prop} (h5 : ∀ (v0 : Nat) (v1 : Nat) (v2 : Int32) (v3 : Int32) (v4 : Int32) (σ : St), r5 v0 v1 v2 v3 v4 σ → hW Γ 0 0 5 [(0, .ref v0), (1, .ref v1), (2, .int v2), (3, .int v3), (4, .int v4)] [] σ) (v0 : Nat) (v1 : Nat) (v2 : Int32) (v3 : Int32) (v4 : Int32) (σ : St) (hb : wX16_isTrue_5 Q r5 v0 v1 v2 v3 v4 σ) : hW Γ 0 0 5 [(0, .ref v0), (1, .ref v1), (2, .int v2), (3, .int v3), (4, .int v4)] [] σ := by
  unfold wX16_isTrue_5 at hb
  refine g_iload C dX16_isTrue_5 4 rfl ?_
  refine g_aload_n (some v1) C dX16_isTrue_7 1 rfl ?_
  obtain ⟨q1, hb⟩ := hb
  obtain ⟨a2, q3, hb⟩ := hb
  refine g_getR (some a2) C fl_RX16_226 dX16_isTrue_8 q1 rfl rfl q3 ?_
  refine g_iload_n C dX16_isTrue_11 2 rfl ?_
  obtain ⟨q4, hb⟩ := hb
  obtain ⟨q5, hb⟩ := hb
  refine g_ialdx (zAi σ a2 (ix v2)) C dX16_isTrue_12 q4 q5 rfl ?_
  refine g_icmp_ge (tgt := 43) C dX16_isTrue_13 (by decide) (fun c => ?_) (fun c => ?_)
  ·
    replace hb := hb.1 (c)
    refine g_iload_n C dX16_isTrue_43 3 rfl ?_
    obtain ⟨q6, hb⟩ := hb
    exact g_zreturn C (nz_n q6) hΓ (Nat.zero_le _) (Nat.zero_le _) dX16_isTrue_44 ⟨_, rfl, hb⟩
  ·
    replace hb := hb.2 (c)
    refine g_iload_n C dX16_isTrue_16 3 rfl ?_
    refine g_if_ne (tgt := 43) C dX16_isTrue_17 (by decide) (fun c => ?_) (fun c => ?_)
    ·
      replace hb := hb.1 (c)
      refine g_iload_n C dX16_isTrue_43 3 rfl ?_
      obtain ⟨q7, hb⟩ := hb
      exact g_zreturn C (nz_n q7) hΓ (Nat.zero_le _) (Nat.zero_le _) dX16_isTrue_44 ⟨_, rfl, hb⟩
    ·
      replace hb := hb.2 (c)
      refine g_aload_n (some v0) C dX16_isTrue_20 0 rfl ?_
      refine g_aload_n (some v1) C dX16_isTrue_21 1 rfl ?_
      obtain ⟨a8, q9, hb⟩ := hb
      refine g_getR (some a8) C fl_RX16_229 dX16_isTrue_22 q1 rfl rfl q9 ?_
      refine g_bipush (v := 16) C dX16_isTrue_25 (by decide) ?_
      refine g_iload_n C dX16_isTrue_27 2 rfl ?_
      refine g_imul C dX16_isTrue_28 ?_
      refine g_iload C dX16_isTrue_29 4 rfl ?_
      refine g_iadd C dX16_isTrue_31 ?_
      obtain ⟨q10, hb⟩ := hb
      obtain ⟨q11, hb⟩ := hb
      refine g_laldx (zAj σ a8 (ix ((16 * v2) + v4))) C dX16_isTrue_32 q10 q11 rfl ?_
      obtain ⟨q12, hb⟩ := hb
      refine g_invV (ci := 16) [.long (zAj σ a8 (ix ((16 * v2) + v4)))] [] zy_X16_isThere wd_1480 wd_1482 wd_61 ⟨_, _, rfl⟩ (by decide) C dX16_isTrue_33 (by first | exact Nat.le_of_ble_eq_true rfl | simp [cat_rf]) (by first | exact Nat.le_of_ble_eq_true rfl | simp [cat_rf]) (by first | exact Nat.le_of_ble_eq_true rfl | simp [cat_rf]) (Nat.zero_le _) (Nat.zero_le _) rfl rfl q12 (okX16_isThere hb) ?_
      rintro o σ13 ⟨y14, rfl, hb⟩
      refine ⟨_, rfl, ?_⟩
      refine g_istore_n (i := 3) (lv' := [(3, .int y14), (0, .ref v0), (1, .ref v1), (2, .int v2), (4, .int v4)]) C dX16_isTrue_36 rfl (hnl_of hΓ (by decide)) (by first | rfl | simp [cat_rf]) ?_
      refine g_iinc (v := v4 + 1) (lv' := [(4, .int (v4 + 1)), (3, .int y14), (0, .ref v0), (1, .ref v1), (2, .int v2)]) C dX16_isTrue_37 4 rfl rfl (hnl_of hΓ (by decide)) (by first | rfl | simp [cat_rf]) ?_
      refine g_goto (tgt := 5) C dX16_isTrue_40 (by decide) ?_
      refine g_sub (lv' := [(0, .ref v0), (1, .ref v1), (2, .int v2), (3, .int y14), (4, .int (v4 + 1))]) [2, 3, 4, 1, 0] rfl ?_
      exact h5 _ _ _ _ _ _ hb
theorem klX16_isTrue_5 {Γ : hCT} (C : hC Γ RX16 cX16_isTrue ((Option.some FieldType.boolean)) "isTrue" 1 24) {Q : Int32 → St → Prop} (hΓ : Γ.2.2.2.2.2.2.2.2.2.2.2 = (5, 0, 0, oI Q)) (f : Nat) (v0 : Nat) (v1 : Nat) (v2 : Int32) (v3 : Int32) (v4 : Int32) (σ : St) (hb : lX16_isTrue_5 Q f v0 v1 v2 v3 v4 σ) : hW Γ 0 0 5 [(0, .ref v0), (1, .ref v1), (2, .int v2), (3, .int v3), (4, .int v4)] [] σ := by
  induction f generalizing v0 v1 v2 v3 v4 σ with
  | zero => exact hb.elim
  | succ f ih => exact kwX16_isTrue_5 C hΓ  (fun v0 v1 v2 v3 v4 σ h => ih v0 v1 v2 v3 v4 σ h) _ _ _ _ _ _ hb
set_option maxRecDepth 20000 in
theorem kwX16_isTrue_0 {Γ : hCT} (C : hC Γ RX16 cX16_isTrue ((Option.some FieldType.boolean)) "isTrue" 1 24) {Q : Int32 → St → Prop} (hΓ : Γ.2.2.2.2.2.2.2.2.2.2.2 = (5, 0, 0, oI Q)) (v0 : Nat) (v1 : Nat) (v2 : Int32) (σ : St) (hb : wX16_isTrue_0 Q v0 v1 v2 σ) : hW Γ 0 0 0 [(0, .ref v0), (1, .ref v1), (2, .int v2)] [] σ := by
  unfold wX16_isTrue_0 at hb
  refine g_iconst (v := 0) C dX16_isTrue_0 (by decide) ?_
  refine g_istore_n (i := 3) (lv' := [(3, .int 0), (0, .ref v0), (1, .ref v1), (2, .int v2)]) C dX16_isTrue_1 rfl (hnl_of hΓ (by decide)) (by first | rfl | simp [cat_rf]) ?_
  refine g_iconst (v := 0) C dX16_isTrue_2 (by decide) ?_
  refine g_istore (lv' := [(4, .int 0), (3, .int 0), (0, .ref v0), (1, .ref v1), (2, .int v2)]) C dX16_isTrue_3 (hnl_of hΓ (by decide)) (by first | rfl | simp [cat_rf]) ?_
  refine g_sub (lv' := [(0, .ref v0), (1, .ref v1), (2, .int v2), (3, .int 0), (4, .int 0)]) [2, 3, 4, 1, 0] rfl ?_
  obtain ⟨f1, hb⟩ := hb
  exact klX16_isTrue_5 C hΓ  f1 _ _ _ _ _ _ hb
theorem okX16_isTrue {v0 : Nat} {v1 : Nat} {v2 : Int32} {σ : St} {Q : Int32 → St → Prop} (hb : wX16_isTrue v0 v1 v2 σ Q) : hM yX16_isTrue cX16_isTrue 5 ((Option.some FieldType.boolean)) 1 24 0 0 [.ref v0, .ref v1, .int v2] σ (oI Q) :=
  hM_of (by decide) (Nat.le_of_ble_eq_true rfl) (fun Γ hΓ C => kwX16_isTrue_0 C hΓ _ _ _ _ hb)
def wX16_picks_168 (Q : St → Prop) (E : St → Prop) (r3 : Nat → Int32 → Nat → Nat → Int32 → St → Prop) (v0 : Nat) (v1 : Int32) (v2 : Nat) (v3 : Nat) (v4 : Int32) (v6 : Int32) (σ : St) : Prop :=
  ((v6 = 0 → r3 v0 v1 v2 v3 (v4 + 1) σ) ∧ (¬ v6 = 0 → zK σ v0 = 17 ∧ wX16_copies v0 v3 v4 v2 σ (fun σ2 => r3 v0 v1 v2 v3 (v4 + 1) σ2) E))
def wX16_picks_166 (Q : St → Prop) (E : St → Prop) (r3 : Nat → Int32 → Nat → Nat → Int32 → St → Prop) (v0 : Nat) (v1 : Int32) (v2 : Nat) (v3 : Nat) (v4 : Int32) (s0 : Int32) (σ : St) : Prop :=
  wX16_picks_168 Q E r3 v0 v1 v2 v3 v4 s0 σ
def wX16_picks_161 (Q : St → Prop) (E : St → Prop) (r3 : Nat → Int32 → Nat → Nat → Int32 → St → Prop) (v0 : Nat) (v1 : Int32) (v2 : Nat) (v3 : Nat) (v4 : Int32) (σ : St) : Prop :=
  wX16_picks_166 Q E r3 v0 v1 v2 v3 v4 1 σ
def wX16_picks_108 (Q : St → Prop) (E : St → Prop) (r3 : Nat → Int32 → Nat → Nat → Int32 → St → Prop) (v0 : Nat) (v1 : Int32) (v2 : Nat) (v3 : Nat) (v4 : Int32) (s0 : Int32) (σ : St) : Prop :=
  wX16_picks_168 Q E r3 v0 v1 v2 v3 v4 s0 σ
def wX16_picks_57 (Q : St → Prop) (E : St → Prop) (r3 : Nat → Int32 → Nat → Nat → Int32 → St → Prop) (v0 : Nat) (v1 : Int32) (v2 : Nat) (v3 : Nat) (v4 : Int32) (s0 : Int32) (σ : St) : Prop :=
  wX16_picks_168 Q E r3 v0 v1 v2 v3 v4 s0 σ
def wX16_picks_3 (Q : St → Prop) (E : St → Prop) (r3 : Nat → Int32 → Nat → Nat → Int32 → St → Prop) (v0 : Nat) (v1 : Int32) (v2 : Nat) (v3 : Nat) (v4 : Int32) (σ : St) : Prop :=
  zK σ v3 = 15 ∧ (((zFi σ 896 v3) ≤ v4 → Q σ) ∧ (¬ (zFi σ 896 v3) ≤ v4 → zK σ v0 = 17 ∧ ∃ a3 : Nat, zFr σ 1039 v0 = some a3 ∧ zK σ a3 = 20 ∧ vp_in v1 (zL σ a3) ∧ ((¬ (zAi σ a3 (ix v1)) = (1 : Int32) → ((¬ (zAi σ a3 (ix v1)) = (2 : Int32) → ∃ a7 : Nat, zFr σ 1049 v0 = some a7 ∧ ∃ a9 : Nat, zFr σ 1041 v0 = some a9 ∧ zK σ a9 = 20 ∧ vp_in v1 (zL σ a9) ∧ zK σ a7 = 30 ∧ vp_in (zAi σ a9 (ix v1)) (zL σ a7) ∧ ∃ a15 : Nat, zAr σ a7 (ix (zAi σ a9 (ix v1))) = some a15 ∧ ∃ a17 : Nat, zFr σ 898 v3 = some a17 ∧ zK σ a15 = 15 ∧ wX14_find a15 a17 (6 * v4) σ (fun y21 σ20 => ((y21 = ((-1) : Int32) → wX16_picks_161 Q E r3 v0 v1 v2 v3 v4 σ20) ∧ (¬ y21 = ((-1) : Int32) → zK σ20 v0 = 17 ∧ ∃ a23 : Nat, zFr σ20 1049 v0 = some a23 ∧ ∃ a25 : Nat, zFr σ20 1041 v0 = some a25 ∧ zK σ20 a25 = 20 ∧ vp_in v1 (zL σ20 a25) ∧ zK σ20 a23 = 30 ∧ vp_in (zAi σ20 a25 (ix v1)) (zL σ20 a23) ∧ ∃ a31 : Nat, zAr σ20 a23 (ix (zAi σ20 a25 (ix v1))) = some a31 ∧ wX16_isTrue v0 a31 y21 σ20 (fun y34 σ33 => ((¬ y34 = 0 → wX16_picks_166 Q E r3 v0 v1 v2 v3 v4 0 σ33) ∧ (y34 = 0 → wX16_picks_161 Q E r3 v0 v1 v2 v3 v4 σ33))))))) ∧ ((zAi σ a3 (ix v1)) = (2 : Int32) → ∃ a35 : Nat, zFr σ 898 v3 = some a35 ∧ ∃ a37 : Nat, zFr σ 1043 v0 = some a37 ∧ zK σ a37 = 20 ∧ vp_in v1 (zL σ a37) ∧ zK σ a35 = 20 ∧ vp_in ((6 * v4) + (zAi σ a37 (ix v1))) (zL σ a35) ∧ ∃ a43 : Nat, zFr σ 1044 v0 = some a43 ∧ zK σ a43 = 20 ∧ vp_in v1 (zL σ a43) ∧ vp_in ((6 * v4) + (zAi σ a43 (ix v1))) (zL σ a35) ∧ ((¬ (zAi σ a35 (ix ((6 * v4) + (zAi σ a37 (ix v1))))) = (zAi σ a35 (ix ((6 * v4) + (zAi σ a43 (ix v1))))) → wX16_picks_108 Q E r3 v0 v1 v2 v3 v4 0 σ) ∧ ((zAi σ a35 (ix ((6 * v4) + (zAi σ a37 (ix v1))))) = (zAi σ a35 (ix ((6 * v4) + (zAi σ a43 (ix v1))))) → wX16_picks_108 Q E r3 v0 v1 v2 v3 v4 1 σ))))) ∧ ((zAi σ a3 (ix v1)) = (1 : Int32) → ∃ a48 : Nat, zFr σ 898 v3 = some a48 ∧ ∃ a50 : Nat, zFr σ 1043 v0 = some a50 ∧ zK σ a50 = 20 ∧ vp_in v1 (zL σ a50) ∧ zK σ a48 = 20 ∧ vp_in ((6 * v4) + (zAi σ a50 (ix v1))) (zL σ a48) ∧ ∃ a56 : Nat, zFr σ 1044 v0 = some a56 ∧ zK σ a56 = 20 ∧ vp_in v1 (zL σ a56) ∧ ((¬ (zAi σ a48 (ix ((6 * v4) + (zAi σ a50 (ix v1))))) = (zAi σ a56 (ix v1)) → wX16_picks_57 Q E r3 v0 v1 v2 v3 v4 0 σ) ∧ ((zAi σ a48 (ix ((6 * v4) + (zAi σ a50 (ix v1))))) = (zAi σ a56 (ix v1)) → wX16_picks_57 Q E r3 v0 v1 v2 v3 v4 1 σ))))))
def lX16_picks_3 (Q : St → Prop) (E : St → Prop) : Nat → Nat → Int32 → Nat → Nat → Int32 → St → Prop
  | 0, _, _, _, _, _, _ => False
  | f + 1, v0, v1, v2, v3, v4, σ => wX16_picks_3 Q E (lX16_picks_3 Q E f) v0 v1 v2 v3 v4 σ
def wX16_picks_0 (Q : St → Prop) (E : St → Prop) (v0 : Nat) (v1 : Int32) (v2 : Nat) (v3 : Nat) (σ : St) : Prop :=
  ∃ f, lX16_picks_3 Q E f v0 v1 v2 v3 0 σ
def wX16_picks (v0 : Nat) (v1 : Int32) (v2 : Nat) (v3 : Nat) (σ : St) (Q : St → Prop) (E : St → Prop) : Prop := wX16_picks_0 Q E v0 v1 v2 v3 σ
set_option maxRecDepth 20000 in
theorem kwX16_picks_168 {Γ : hCT} (C : hC Γ RX16 cX16_picks ((Option.none : Option Jvm.ClassFile.FieldType)) "picks" 3 91) {Q : St → Prop} {E : St → Prop} (hΓ : Γ.2.2.2.2.2.2.2.2.2.2.2 = (8, 0, 0, oT (oV Q) E)) (hne : hNE Γ) {r3 : Nat → Int32 → Nat → Nat → Int32 → St → Prop} (h3 : ∀ (v0 : Nat) (v1 : Int32) (v2 : Nat) (v3 : Nat) (v4 : Int32) (σ : St), r3 v0 v1 v2 v3 v4 σ → hW Γ 0 0 3 [(0, .ref v0), (1, .int v1), (2, .ref v2), (3, .ref v3), (4, .int v4)] [] σ) (v0 : Nat) (v1 : Int32) (v2 : Nat) (v3 : Nat) (v4 : Int32) (v6 : Int32) (σ : St) (hb : wX16_picks_168 Q E r3 v0 v1 v2 v3 v4 v6 σ) : hW Γ 0 0 168 [(0, .ref v0), (1, .int v1), (2, .ref v2), (3, .ref v3), (4, .int v4), (6, .int v6)] [] σ := by
  unfold wX16_picks_168 at hb
  refine g_iload C dX16_picks_168 5 rfl ?_
  refine g_if_eq (tgt := 181) C dX16_picks_170 (by decide) (fun c => ?_) (fun c => ?_)
  ·
    replace hb := hb.1 (c)
    refine g_iinc (v := v4 + 1) (lv' := [(4, .int (v4 + 1)), (0, .ref v0), (1, .int v1), (2, .ref v2), (3, .ref v3), (6, .int v6)]) C dX16_picks_181 4 rfl rfl (hnl_of hΓ (by decide)) (by first | rfl | simp [cat_rf]) ?_
    refine g_goto (tgt := 3) C dX16_picks_184 (by decide) ?_
    refine g_sub (lv' := [(0, .ref v0), (1, .int v1), (2, .ref v2), (3, .ref v3), (4, .int (v4 + 1))]) [1, 2, 3, 4, 0] rfl ?_
    exact h3 _ _ _ _ _ _ hb
  ·
    replace hb := hb.2 (c)
    refine g_aload_n (some v0) C dX16_picks_173 0 rfl ?_
    refine g_aload_n (some v3) C dX16_picks_174 3 rfl ?_
    refine g_iload C dX16_picks_175 4 rfl ?_
    refine g_aload_n (some v2) C dX16_picks_177 2 rfl ?_
    obtain ⟨q1, hb⟩ := hb
    refine g_invXV (ci := 16) [.ref v3, .int v4, .ref v2] [] zy_X16_copies wd_1458 wd_1460 wd_57 ⟨_, _, rfl⟩ (by decide) C dX16_picks_178 (by first | exact Nat.le_of_ble_eq_true rfl | simp [cat_rf]) (by first | exact Nat.le_of_ble_eq_true rfl | simp [cat_rf]) (by first | exact Nat.le_of_ble_eq_true rfl | simp [cat_rf]) (Nat.zero_le _) (Nat.zero_le _) rfl rfl q1 hΓ hne (okX16_copies hb) ?_
    rintro o σ2 ((⟨rfl, hb⟩) | ⟨x, rfl, hx, hb⟩)
    case inr => exact Or.inr ⟨x, rfl, g_thrown hΓ hx hb⟩
    refine Or.inl ⟨_, rfl, ?_⟩
    refine g_iinc (v := v4 + 1) (lv' := [(4, .int (v4 + 1)), (0, .ref v0), (1, .int v1), (2, .ref v2), (3, .ref v3), (6, .int v6)]) C dX16_picks_181 4 rfl rfl (hnl_of hΓ (by decide)) (by first | rfl | simp [cat_rf]) ?_
    refine g_goto (tgt := 3) C dX16_picks_184 (by decide) ?_
    refine g_sub (lv' := [(0, .ref v0), (1, .int v1), (2, .ref v2), (3, .ref v3), (4, .int (v4 + 1))]) [1, 2, 3, 4, 0] rfl ?_
    exact h3 _ _ _ _ _ _ hb
set_option maxRecDepth 20000 in
theorem kwX16_picks_166 {Γ : hCT} (C : hC Γ RX16 cX16_picks ((Option.none : Option Jvm.ClassFile.FieldType)) "picks" 3 91) {Q : St → Prop} {E : St → Prop} (hΓ : Γ.2.2.2.2.2.2.2.2.2.2.2 = (8, 0, 0, oT (oV Q) E)) (hne : hNE Γ) {r3 : Nat → Int32 → Nat → Nat → Int32 → St → Prop} (h3 : ∀ (v0 : Nat) (v1 : Int32) (v2 : Nat) (v3 : Nat) (v4 : Int32) (σ : St), r3 v0 v1 v2 v3 v4 σ → hW Γ 0 0 3 [(0, .ref v0), (1, .int v1), (2, .ref v2), (3, .ref v3), (4, .int v4)] [] σ) (v0 : Nat) (v1 : Int32) (v2 : Nat) (v3 : Nat) (v4 : Int32) (s0 : Int32) (σ : St) (hb : wX16_picks_166 Q E r3 v0 v1 v2 v3 v4 s0 σ) : hW Γ 0 0 166 [(0, .ref v0), (1, .int v1), (2, .ref v2), (3, .ref v3), (4, .int v4)] [.int s0] σ := by
  unfold wX16_picks_166 at hb
  refine g_istore (lv' := [(6, .int s0), (0, .ref v0), (1, .int v1), (2, .ref v2), (3, .ref v3), (4, .int v4)]) C dX16_picks_166 (hnl_of hΓ (by decide)) (by first | rfl | simp [cat_rf]) ?_
  refine g_sub (lv' := [(0, .ref v0), (1, .int v1), (2, .ref v2), (3, .ref v3), (4, .int v4), (6, .int s0)]) [1, 2, 3, 4, 5, 0] rfl ?_
  exact kwX16_picks_168 C hΓ hne h3 _ _ _ _ _ _ _ hb
set_option maxRecDepth 20000 in
theorem kwX16_picks_161 {Γ : hCT} (C : hC Γ RX16 cX16_picks ((Option.none : Option Jvm.ClassFile.FieldType)) "picks" 3 91) {Q : St → Prop} {E : St → Prop} (hΓ : Γ.2.2.2.2.2.2.2.2.2.2.2 = (8, 0, 0, oT (oV Q) E)) (hne : hNE Γ) {r3 : Nat → Int32 → Nat → Nat → Int32 → St → Prop} (h3 : ∀ (v0 : Nat) (v1 : Int32) (v2 : Nat) (v3 : Nat) (v4 : Int32) (σ : St), r3 v0 v1 v2 v3 v4 σ → hW Γ 0 0 3 [(0, .ref v0), (1, .int v1), (2, .ref v2), (3, .ref v3), (4, .int v4)] [] σ) (v0 : Nat) (v1 : Int32) (v2 : Nat) (v3 : Nat) (v4 : Int32) (σ : St) (hb : wX16_picks_161 Q E r3 v0 v1 v2 v3 v4 σ) : hW Γ 0 0 161 [(0, .ref v0), (1, .int v1), (2, .ref v2), (3, .ref v3), (4, .int v4)] [] σ := by
  unfold wX16_picks_161 at hb
  refine g_iconst (v := 1) C dX16_picks_161 (by decide) ?_
  refine g_goto (tgt := 166) C dX16_picks_162 (by decide) ?_
  refine g_sub (lv' := [(0, .ref v0), (1, .int v1), (2, .ref v2), (3, .ref v3), (4, .int v4)]) [0, 1, 2, 3, 4] rfl ?_
  exact kwX16_picks_166 C hΓ hne h3 _ _ _ _ _ _ _ hb
set_option maxRecDepth 20000 in
theorem kwX16_picks_108 {Γ : hCT} (C : hC Γ RX16 cX16_picks ((Option.none : Option Jvm.ClassFile.FieldType)) "picks" 3 91) {Q : St → Prop} {E : St → Prop} (hΓ : Γ.2.2.2.2.2.2.2.2.2.2.2 = (8, 0, 0, oT (oV Q) E)) (hne : hNE Γ) {r3 : Nat → Int32 → Nat → Nat → Int32 → St → Prop} (h3 : ∀ (v0 : Nat) (v1 : Int32) (v2 : Nat) (v3 : Nat) (v4 : Int32) (σ : St), r3 v0 v1 v2 v3 v4 σ → hW Γ 0 0 3 [(0, .ref v0), (1, .int v1), (2, .ref v2), (3, .ref v3), (4, .int v4)] [] σ) (v0 : Nat) (v1 : Int32) (v2 : Nat) (v3 : Nat) (v4 : Int32) (s0 : Int32) (σ : St) (hb : wX16_picks_108 Q E r3 v0 v1 v2 v3 v4 s0 σ) : hW Γ 0 0 108 [(0, .ref v0), (1, .int v1), (2, .ref v2), (3, .ref v3), (4, .int v4)] [.int s0] σ := by
  unfold wX16_picks_108 at hb
  refine g_istore (lv' := [(6, .int s0), (0, .ref v0), (1, .int v1), (2, .ref v2), (3, .ref v3), (4, .int v4)]) C dX16_picks_108 (hnl_of hΓ (by decide)) (by first | rfl | simp [cat_rf]) ?_
  refine g_goto (tgt := 168) C dX16_picks_110 (by decide) ?_
  refine g_sub (lv' := [(0, .ref v0), (1, .int v1), (2, .ref v2), (3, .ref v3), (4, .int v4), (6, .int s0)]) [1, 2, 3, 4, 5, 0] rfl ?_
  exact kwX16_picks_168 C hΓ hne h3 _ _ _ _ _ _ _ hb
set_option maxRecDepth 20000 in
theorem kwX16_picks_57 {Γ : hCT} (C : hC Γ RX16 cX16_picks ((Option.none : Option Jvm.ClassFile.FieldType)) "picks" 3 91) {Q : St → Prop} {E : St → Prop} (hΓ : Γ.2.2.2.2.2.2.2.2.2.2.2 = (8, 0, 0, oT (oV Q) E)) (hne : hNE Γ) {r3 : Nat → Int32 → Nat → Nat → Int32 → St → Prop} (h3 : ∀ (v0 : Nat) (v1 : Int32) (v2 : Nat) (v3 : Nat) (v4 : Int32) (σ : St), r3 v0 v1 v2 v3 v4 σ → hW Γ 0 0 3 [(0, .ref v0), (1, .int v1), (2, .ref v2), (3, .ref v3), (4, .int v4)] [] σ) (v0 : Nat) (v1 : Int32) (v2 : Nat) (v3 : Nat) (v4 : Int32) (s0 : Int32) (σ : St) (hb : wX16_picks_57 Q E r3 v0 v1 v2 v3 v4 s0 σ) : hW Γ 0 0 57 [(0, .ref v0), (1, .int v1), (2, .ref v2), (3, .ref v3), (4, .int v4)] [.int s0] σ := by
  unfold wX16_picks_57 at hb
  refine g_istore (lv' := [(6, .int s0), (0, .ref v0), (1, .int v1), (2, .ref v2), (3, .ref v3), (4, .int v4)]) C dX16_picks_57 (hnl_of hΓ (by decide)) (by first | rfl | simp [cat_rf]) ?_
  refine g_goto (tgt := 168) C dX16_picks_59 (by decide) ?_
  refine g_sub (lv' := [(0, .ref v0), (1, .int v1), (2, .ref v2), (3, .ref v3), (4, .int v4), (6, .int s0)]) [1, 2, 3, 4, 5, 0] rfl ?_
  exact kwX16_picks_168 C hΓ hne h3 _ _ _ _ _ _ _ hb
set_option maxRecDepth 20000 in
theorem kwX16_picks_3 {Γ : hCT} (C : hC Γ RX16 cX16_picks ((Option.none : Option Jvm.ClassFile.FieldType)) "picks" 3 91) {Q : St → Prop} {E : St → Prop} (hΓ : Γ.2.2.2.2.2.2.2.2.2.2.2 = (8, 0, 0, oT (oV Q) E)) (hne : hNE Γ) {r3 : Nat → Int32 → Nat → Nat → Int32 → St → Prop} (h3 : ∀ (v0 : Nat) (v1 : Int32) (v2 : Nat) (v3 : Nat) (v4 : Int32) (σ : St), r3 v0 v1 v2 v3 v4 σ → hW Γ 0 0 3 [(0, .ref v0), (1, .int v1), (2, .ref v2), (3, .ref v3), (4, .int v4)] [] σ) (v0 : Nat) (v1 : Int32) (v2 : Nat) (v3 : Nat) (v4 : Int32) (σ : St) (hb : wX16_picks_3 Q E r3 v0 v1 v2 v3 v4 σ) : hW Γ 0 0 3 [(0, .ref v0), (1, .int v1), (2, .ref v2), (3, .ref v3), (4, .int v4)] [] σ := by
  unfold wX16_picks_3 at hb
  refine g_iload C dX16_picks_3 4 rfl ?_
  refine g_aload_n (some v3) C dX16_picks_5 3 rfl ?_
  obtain ⟨q1, hb⟩ := hb
  refine g_getIx (zFi σ 896 v3) C fl_RX16_35 dX16_picks_6 q1 rfl rfl rfl ?_
  refine g_icmp_ge (tgt := 187) C dX16_picks_9 (by decide) (fun c => ?_) (fun c => ?_)
  ·
    replace hb := hb.1 (c)
    exact g_vreturn C hΓ (Nat.zero_le _) (Nat.zero_le _) dX16_picks_187 (Or.inl ⟨rfl, hb⟩)
  ·
    replace hb := hb.2 (c)
    refine g_bipush (v := 6) C dX16_picks_12 (by decide) ?_
    refine g_iload C dX16_picks_14 4 rfl ?_
    refine g_imul C dX16_picks_16 ?_
    refine g_istore (lv' := [(5, .int (6 * v4)), (0, .ref v0), (1, .int v1), (2, .ref v2), (3, .ref v3), (4, .int v4)]) C dX16_picks_17 (hnl_of hΓ (by decide)) (by first | rfl | simp [cat_rf]) ?_
    refine g_aload_n (some v0) C dX16_picks_19 1 rfl ?_
    obtain ⟨q2, hb⟩ := hb
    obtain ⟨a3, q4, hb⟩ := hb
    refine g_getR (some a3) C fl_RX16_137 dX16_picks_20 q2 rfl rfl q4 ?_
    refine g_iload_n C dX16_picks_23 2 rfl ?_
    obtain ⟨q5, hb⟩ := hb
    obtain ⟨q6, hb⟩ := hb
    refine g_ialdx (zAi σ a3 (ix v1)) C dX16_picks_24 q5 q6 rfl ?_
    refine g_iconst (v := 1) C dX16_picks_25 (by decide) ?_
    refine g_icmp_ne (tgt := 62) C dX16_picks_26 (by decide) (fun c => ?_) (fun c => ?_)
    ·
      replace hb := hb.1 (c)
      refine g_aload_n (some v0) C dX16_picks_62 1 rfl ?_
      refine g_getR (some a3) C fl_RX16_137 dX16_picks_63 q2 rfl rfl q4 ?_
      refine g_iload_n C dX16_picks_66 2 rfl ?_
      refine g_ialdx (zAi σ a3 (ix v1)) C dX16_picks_67 q5 q6 rfl ?_
      refine g_iconst (v := 2) C dX16_picks_68 (by decide) ?_
      refine g_icmp_ne (tgt := 113) C dX16_picks_69 (by decide) (fun c => ?_) (fun c => ?_)
      ·
        replace hb := hb.1 (c)
        refine g_aload_n (some v0) C dX16_picks_113 1 rfl ?_
        obtain ⟨a7, q8, hb⟩ := hb
        refine g_getR (some a7) C fl_RX16_188 dX16_picks_114 q2 rfl rfl q8 ?_
        refine g_aload_n (some v0) C dX16_picks_117 1 rfl ?_
        obtain ⟨a9, q10, hb⟩ := hb
        refine g_getR (some a9) C fl_RX16_143 dX16_picks_118 q2 rfl rfl q10 ?_
        refine g_iload_n C dX16_picks_121 2 rfl ?_
        obtain ⟨q11, hb⟩ := hb
        obtain ⟨q12, hb⟩ := hb
        refine g_ialdx (zAi σ a9 (ix v1)) C dX16_picks_122 q11 q12 rfl ?_
        obtain ⟨q13, hb⟩ := hb
        obtain ⟨q14, hb⟩ := hb
        obtain ⟨a15, q16, hb⟩ := hb
        refine g_aald (some a15) el_30 C dX16_picks_123 q13 q14 q16 ?_
        refine g_aload_n (some v3) C dX16_picks_124 4 rfl ?_
        obtain ⟨a17, q18, hb⟩ := hb
        refine g_getR (some a17) C fl_RX16_239 dX16_picks_125 q1 rfl rfl q18 ?_
        refine g_iload C dX16_picks_128 0 rfl ?_
        obtain ⟨q19, hb⟩ := hb
        refine g_invV (ci := 14) [.ref a17, .int (6 * v4)] [] zy_X14_find wd_1405 wd_1406 wd_1407 ⟨_, _, rfl⟩ (by decide) C dX16_picks_130 (by first | exact Nat.le_of_ble_eq_true rfl | simp [cat_rf]) (by first | exact Nat.le_of_ble_eq_true rfl | simp [cat_rf]) (by first | exact Nat.le_of_ble_eq_true rfl | simp [cat_rf]) (Nat.zero_le _) (Nat.zero_le _) rfl rfl q19 (okX14_find hb) ?_
        rintro o σ20 ⟨y21, rfl, hb⟩
        refine ⟨_, rfl, ?_⟩
        refine g_istore (lv' := [(7, .int y21), (5, .int (6 * v4)), (0, .ref v0), (1, .int v1), (2, .ref v2), (3, .ref v3), (4, .int v4)]) C dX16_picks_133 (hnl_of hΓ (by decide)) (by first | rfl | simp [cat_rf]) ?_
        refine g_iload C dX16_picks_135 0 rfl ?_
        refine g_iconst (v := (-1)) C dX16_picks_137 (by decide) ?_
        refine g_icmp_eq (tgt := 161) C dX16_picks_138 (by decide) (fun c => ?_) (fun c => ?_)
        ·
          replace hb := hb.1 (c)
          refine g_sub (lv' := [(0, .ref v0), (1, .int v1), (2, .ref v2), (3, .ref v3), (4, .int v4)]) [2, 3, 4, 5, 6] rfl ?_
          exact kwX16_picks_161 C hΓ hne h3 _ _ _ _ _ _ hb
        ·
          replace hb := hb.2 (c)
          refine g_aload_n (some v0) C dX16_picks_141 2 rfl ?_
          refine g_aload_n (some v0) C dX16_picks_142 2 rfl ?_
          obtain ⟨q22, hb⟩ := hb
          obtain ⟨a23, q24, hb⟩ := hb
          refine g_getR (some a23) C fl_RX16_188 dX16_picks_143 q22 rfl rfl q24 ?_
          refine g_aload_n (some v0) C dX16_picks_146 2 rfl ?_
          obtain ⟨a25, q26, hb⟩ := hb
          refine g_getR (some a25) C fl_RX16_143 dX16_picks_147 q22 rfl rfl q26 ?_
          refine g_iload_n C dX16_picks_150 3 rfl ?_
          obtain ⟨q27, hb⟩ := hb
          obtain ⟨q28, hb⟩ := hb
          refine g_ialdx (zAi σ20 a25 (ix v1)) C dX16_picks_151 q27 q28 rfl ?_
          obtain ⟨q29, hb⟩ := hb
          obtain ⟨q30, hb⟩ := hb
          obtain ⟨a31, q32, hb⟩ := hb
          refine g_aald (some a31) el_30 C dX16_picks_152 q29 q30 q32 ?_
          refine g_iload C dX16_picks_153 0 rfl ?_
          refine g_invV (ci := 16) [.ref a31, .int y21] [] zy_X16_isTrue wd_1476 wd_1478 wd_60 ⟨_, _, rfl⟩ (by decide) C dX16_picks_155 (by first | exact Nat.le_of_ble_eq_true rfl | simp [cat_rf]) (by first | exact Nat.le_of_ble_eq_true rfl | simp [cat_rf]) (by first | exact Nat.le_of_ble_eq_true rfl | simp [cat_rf]) (Nat.zero_le _) (Nat.zero_le _) rfl rfl q22 (okX16_isTrue hb) ?_
          rintro o σ33 ⟨y34, rfl, hb⟩
          refine ⟨_, rfl, ?_⟩
          refine g_if_ne (tgt := 165) C dX16_picks_158 (by decide) (fun c => ?_) (fun c => ?_)
          ·
            replace hb := hb.1 (c)
            refine g_iconst (v := 0) C dX16_picks_165 (by decide) ?_
            refine g_sub (lv' := [(0, .ref v0), (1, .int v1), (2, .ref v2), (3, .ref v3), (4, .int v4)]) [2, 3, 4, 5, 6] rfl ?_
            exact kwX16_picks_166 C hΓ hne h3 _ _ _ _ _ _ _ hb
          ·
            replace hb := hb.2 (c)
            refine g_sub (lv' := [(0, .ref v0), (1, .int v1), (2, .ref v2), (3, .ref v3), (4, .int v4)]) [2, 3, 4, 5, 6] rfl ?_
            exact kwX16_picks_161 C hΓ hne h3 _ _ _ _ _ _ hb
      ·
        replace hb := hb.2 (c)
        refine g_aload_n (some v3) C dX16_picks_72 4 rfl ?_
        obtain ⟨a35, q36, hb⟩ := hb
        refine g_getR (some a35) C fl_RX16_239 dX16_picks_73 q1 rfl rfl q36 ?_
        refine g_iload C dX16_picks_76 0 rfl ?_
        refine g_aload_n (some v0) C dX16_picks_78 1 rfl ?_
        obtain ⟨a37, q38, hb⟩ := hb
        refine g_getR (some a37) C fl_RX16_149 dX16_picks_79 q2 rfl rfl q38 ?_
        refine g_iload_n C dX16_picks_82 2 rfl ?_
        obtain ⟨q39, hb⟩ := hb
        obtain ⟨q40, hb⟩ := hb
        refine g_ialdx (zAi σ a37 (ix v1)) C dX16_picks_83 q39 q40 rfl ?_
        refine g_iadd C dX16_picks_84 ?_
        obtain ⟨q41, hb⟩ := hb
        obtain ⟨q42, hb⟩ := hb
        refine g_ialdx (zAi σ a35 (ix ((6 * v4) + (zAi σ a37 (ix v1))))) C dX16_picks_85 q41 q42 rfl ?_
        refine g_aload_n (some v3) C dX16_picks_86 4 rfl ?_
        refine g_getR (some a35) C fl_RX16_239 dX16_picks_87 q1 rfl rfl q36 ?_
        refine g_iload C dX16_picks_90 0 rfl ?_
        refine g_aload_n (some v0) C dX16_picks_92 1 rfl ?_
        obtain ⟨a43, q44, hb⟩ := hb
        refine g_getR (some a43) C fl_RX16_152 dX16_picks_93 q2 rfl rfl q44 ?_
        refine g_iload_n C dX16_picks_96 2 rfl ?_
        obtain ⟨q45, hb⟩ := hb
        obtain ⟨q46, hb⟩ := hb
        refine g_ialdx (zAi σ a43 (ix v1)) C dX16_picks_97 q45 q46 rfl ?_
        refine g_iadd C dX16_picks_98 ?_
        obtain ⟨q47, hb⟩ := hb
        refine g_ialdx (zAi σ a35 (ix ((6 * v4) + (zAi σ a43 (ix v1))))) C dX16_picks_99 q41 q47 rfl ?_
        refine g_icmp_ne (tgt := 107) C dX16_picks_100 (by decide) (fun c => ?_) (fun c => ?_)
        ·
          replace hb := hb.1 (c)
          refine g_iconst (v := 0) C dX16_picks_107 (by decide) ?_
          refine g_sub (lv' := [(0, .ref v0), (1, .int v1), (2, .ref v2), (3, .ref v3), (4, .int v4)]) [1, 2, 3, 4, 5] rfl ?_
          exact kwX16_picks_108 C hΓ hne h3 _ _ _ _ _ _ _ hb
        ·
          replace hb := hb.2 (c)
          refine g_iconst (v := 1) C dX16_picks_103 (by decide) ?_
          refine g_goto (tgt := 108) C dX16_picks_104 (by decide) ?_
          refine g_sub (lv' := [(0, .ref v0), (1, .int v1), (2, .ref v2), (3, .ref v3), (4, .int v4)]) [1, 2, 3, 4, 5] rfl ?_
          exact kwX16_picks_108 C hΓ hne h3 _ _ _ _ _ _ _ hb
    ·
      replace hb := hb.2 (c)
      refine g_aload_n (some v3) C dX16_picks_29 4 rfl ?_
      obtain ⟨a48, q49, hb⟩ := hb
      refine g_getR (some a48) C fl_RX16_239 dX16_picks_30 q1 rfl rfl q49 ?_
      refine g_iload C dX16_picks_33 0 rfl ?_
      refine g_aload_n (some v0) C dX16_picks_35 1 rfl ?_
      obtain ⟨a50, q51, hb⟩ := hb
      refine g_getR (some a50) C fl_RX16_149 dX16_picks_36 q2 rfl rfl q51 ?_
      refine g_iload_n C dX16_picks_39 2 rfl ?_
      obtain ⟨q52, hb⟩ := hb
      obtain ⟨q53, hb⟩ := hb
      refine g_ialdx (zAi σ a50 (ix v1)) C dX16_picks_40 q52 q53 rfl ?_
      refine g_iadd C dX16_picks_41 ?_
      obtain ⟨q54, hb⟩ := hb
      obtain ⟨q55, hb⟩ := hb
      refine g_ialdx (zAi σ a48 (ix ((6 * v4) + (zAi σ a50 (ix v1))))) C dX16_picks_42 q54 q55 rfl ?_
      refine g_aload_n (some v0) C dX16_picks_43 1 rfl ?_
      obtain ⟨a56, q57, hb⟩ := hb
      refine g_getR (some a56) C fl_RX16_152 dX16_picks_44 q2 rfl rfl q57 ?_
      refine g_iload_n C dX16_picks_47 2 rfl ?_
      obtain ⟨q58, hb⟩ := hb
      obtain ⟨q59, hb⟩ := hb
      refine g_ialdx (zAi σ a56 (ix v1)) C dX16_picks_48 q58 q59 rfl ?_
      refine g_icmp_ne (tgt := 56) C dX16_picks_49 (by decide) (fun c => ?_) (fun c => ?_)
      ·
        replace hb := hb.1 (c)
        refine g_iconst (v := 0) C dX16_picks_56 (by decide) ?_
        refine g_sub (lv' := [(0, .ref v0), (1, .int v1), (2, .ref v2), (3, .ref v3), (4, .int v4)]) [1, 2, 3, 4, 5] rfl ?_
        exact kwX16_picks_57 C hΓ hne h3 _ _ _ _ _ _ _ hb
      ·
        replace hb := hb.2 (c)
        refine g_iconst (v := 1) C dX16_picks_52 (by decide) ?_
        refine g_goto (tgt := 57) C dX16_picks_53 (by decide) ?_
        refine g_sub (lv' := [(0, .ref v0), (1, .int v1), (2, .ref v2), (3, .ref v3), (4, .int v4)]) [1, 2, 3, 4, 5] rfl ?_
        exact kwX16_picks_57 C hΓ hne h3 _ _ _ _ _ _ _ hb
theorem klX16_picks_3 {Γ : hCT} (C : hC Γ RX16 cX16_picks ((Option.none : Option Jvm.ClassFile.FieldType)) "picks" 3 91) {Q : St → Prop} {E : St → Prop} (hΓ : Γ.2.2.2.2.2.2.2.2.2.2.2 = (8, 0, 0, oT (oV Q) E)) (hne : hNE Γ) (f : Nat) (v0 : Nat) (v1 : Int32) (v2 : Nat) (v3 : Nat) (v4 : Int32) (σ : St) (hb : lX16_picks_3 Q E f v0 v1 v2 v3 v4 σ) : hW Γ 0 0 3 [(0, .ref v0), (1, .int v1), (2, .ref v2), (3, .ref v3), (4, .int v4)] [] σ := by
  induction f generalizing v0 v1 v2 v3 v4 σ with
  | zero => exact hb.elim
  | succ f ih => exact kwX16_picks_3 C hΓ hne  (fun v0 v1 v2 v3 v4 σ h => ih v0 v1 v2 v3 v4 σ h) _ _ _ _ _ _ hb
set_option maxRecDepth 20000 in
theorem kwX16_picks_0 {Γ : hCT} (C : hC Γ RX16 cX16_picks ((Option.none : Option Jvm.ClassFile.FieldType)) "picks" 3 91) {Q : St → Prop} {E : St → Prop} (hΓ : Γ.2.2.2.2.2.2.2.2.2.2.2 = (8, 0, 0, oT (oV Q) E)) (hne : hNE Γ) (v0 : Nat) (v1 : Int32) (v2 : Nat) (v3 : Nat) (σ : St) (hb : wX16_picks_0 Q E v0 v1 v2 v3 σ) : hW Γ 0 0 0 [(0, .ref v0), (1, .int v1), (2, .ref v2), (3, .ref v3)] [] σ := by
  unfold wX16_picks_0 at hb
  refine g_iconst (v := 0) C dX16_picks_0 (by decide) ?_
  refine g_istore (lv' := [(4, .int 0), (0, .ref v0), (1, .int v1), (2, .ref v2), (3, .ref v3)]) C dX16_picks_1 (hnl_of hΓ (by decide)) (by first | rfl | simp [cat_rf]) ?_
  refine g_sub (lv' := [(0, .ref v0), (1, .int v1), (2, .ref v2), (3, .ref v3), (4, .int 0)]) [1, 2, 3, 4, 0] rfl ?_
  obtain ⟨f1, hb⟩ := hb
  exact klX16_picks_3 C hΓ hne  f1 _ _ _ _ _ _ hb
theorem okX16_picks {v0 : Nat} {v1 : Int32} {v2 : Nat} {v3 : Nat} {σ : St} {Q : St → Prop} {E : St → Prop} (hb : wX16_picks v0 v1 v2 v3 σ Q E) : hM yX16_picks cX16_picks 8 ((Option.none : Option Jvm.ClassFile.FieldType)) 3 91 0 0 [.ref v0, .int v1, .ref v2, .ref v3] σ (oT (oV Q) E) :=
  hM_ofX (by decide) (Nat.le_of_ble_eq_true rfl) (fun Γ hΓ C hne => kwX16_picks_0 C hΓ hne _ _ _ _ _ hb)
def wX16_works_0 (Q : St → Prop) (E : St → Prop) (v0 : Nat) (v1 : Int32) (σ : St) : Prop :=
  zK σ v0 = 17 ∧ ∃ a2 : Nat, zFr σ 1049 v0 = some a2 ∧ zK σ a2 = 30 ∧ vp_in v1 (zL σ a2) ∧ ∃ a6 : Nat, zAr σ a2 (ix v1) = some a6 ∧ zK σ a6 = 15 ∧ ∃ a9 : Nat, zFr σ 1042 v0 = some a9 ∧ zK σ a9 = 20 ∧ vp_in v1 (zL σ a9) ∧ ∃ a13 : Nat, zFr σ 1039 v0 = some a13 ∧ zK σ a13 = 20 ∧ vp_in v1 (zL σ a13) ∧ (((zAi σ a13 (ix v1)) = 0 → ∃ a17 : Nat, zFr σ 1040 v0 = some a17 ∧ zK σ a17 = 20 ∧ vp_in v1 (zL σ a17) ∧ wX16_bases v0 a6 (zAi σ a17 (ix v1)) (uFi (uFi σ 896 a6 0) 897 a6 (zAi σ a9 (ix v1))) (fun σ21 => Q σ21) E) ∧ ((zAi σ a13 (ix v1)) = 1 → ∃ a23 : Nat, zFr σ 1040 v0 = some a23 ∧ zK σ a23 = 20 ∧ vp_in v1 (zL σ a23) ∧ vp_in (zAi σ a23 (ix v1)) (zL σ a2) ∧ ∃ a28 : Nat, zAr σ a2 (ix (zAi σ a23 (ix v1))) = some a28 ∧ wX16_picks v0 v1 a6 a28 (uFi (uFi σ 896 a6 0) 897 a6 (zAi σ a9 (ix v1))) (fun σ30 => Q σ30) E) ∧ ((zAi σ a13 (ix v1)) = 2 → ∃ a32 : Nat, zFr σ 1040 v0 = some a32 ∧ zK σ a32 = 20 ∧ vp_in v1 (zL σ a32) ∧ vp_in (zAi σ a32 (ix v1)) (zL σ a2) ∧ ∃ a37 : Nat, zAr σ a2 (ix (zAi σ a32 (ix v1))) = some a37 ∧ wX16_picks v0 v1 a6 a37 (uFi (uFi σ 896 a6 0) 897 a6 (zAi σ a9 (ix v1))) (fun σ39 => Q σ39) E) ∧ ((zAi σ a13 (ix v1)) = 3 → ∃ a41 : Nat, zFr σ 1040 v0 = some a41 ∧ zK σ a41 = 20 ∧ vp_in v1 (zL σ a41) ∧ vp_in (zAi σ a41 (ix v1)) (zL σ a2) ∧ ∃ a46 : Nat, zAr σ a2 (ix (zAi σ a41 (ix v1))) = some a46 ∧ wX16_cuts v0 v1 a6 a46 (uFi (uFi σ 896 a6 0) 897 a6 (zAi σ a9 (ix v1))) (fun σ48 => Q σ48) E) ∧ ((zAi σ a13 (ix v1)) = 4 → ∃ a50 : Nat, zFr σ 1040 v0 = some a50 ∧ zK σ a50 = 20 ∧ vp_in v1 (zL σ a50) ∧ vp_in (zAi σ a50 (ix v1)) (zL σ a2) ∧ ∃ a55 : Nat, zAr σ a2 (ix (zAi σ a50 (ix v1))) = some a55 ∧ ∃ a57 : Nat, zFr σ 1041 v0 = some a57 ∧ zK σ a57 = 20 ∧ vp_in v1 (zL σ a57) ∧ vp_in (zAi σ a57 (ix v1)) (zL σ a2) ∧ ∃ a62 : Nat, zAr σ a2 (ix (zAi σ a57 (ix v1))) = some a62 ∧ wX16_pairs v0 v1 a6 a55 a62 (uFi (uFi σ 896 a6 0) 897 a6 (zAi σ a9 (ix v1))) (fun σ64 => Q σ64) E) ∧ ((zAi σ a13 (ix v1)) = 5 → ∃ a66 : Nat, zFr σ 1040 v0 = some a66 ∧ zK σ a66 = 20 ∧ vp_in v1 (zL σ a66) ∧ vp_in (zAi σ a66 (ix v1)) (zL σ a2) ∧ ∃ a71 : Nat, zAr σ a2 (ix (zAi σ a66 (ix v1))) = some a71 ∧ ∃ a73 : Nat, zFr σ 1041 v0 = some a73 ∧ zK σ a73 = 20 ∧ vp_in v1 (zL σ a73) ∧ vp_in (zAi σ a73 (ix v1)) (zL σ a2) ∧ ∃ a78 : Nat, zAr σ a2 (ix (zAi σ a73 (ix v1))) = some a78 ∧ wX16_eithers v0 a6 a71 a78 (uFi (uFi σ 896 a6 0) 897 a6 (zAi σ a9 (ix v1))) (fun σ80 => Q σ80) E) ∧ ((zAi σ a13 (ix v1)) = 6 → ∃ a82 : Nat, zFr σ 1040 v0 = some a82 ∧ zK σ a82 = 20 ∧ vp_in v1 (zL σ a82) ∧ vp_in (zAi σ a82 (ix v1)) (zL σ a2) ∧ ∃ a87 : Nat, zAr σ a2 (ix (zAi σ a82 (ix v1))) = some a87 ∧ wX16_rounds v0 a6 a87 (uFi (uFi σ 896 a6 0) 897 a6 (zAi σ a9 (ix v1))) (fun σ89 => Q σ89) E) ∧ (¬ (zAi σ a13 (ix v1)) = 0 → ¬ (zAi σ a13 (ix v1)) = 1 → ¬ (zAi σ a13 (ix v1)) = 2 → ¬ (zAi σ a13 (ix v1)) = 3 → ¬ (zAi σ a13 (ix v1)) = 4 → ¬ (zAi σ a13 (ix v1)) = 5 → ¬ (zAi σ a13 (ix v1)) = 6 → ∃ a91 : Nat, zFr σ 1040 v0 = some a91 ∧ zK σ a91 = 20 ∧ vp_in v1 (zL σ a91) ∧ vp_in (zAi σ a91 (ix v1)) (zL σ a2) ∧ ∃ a96 : Nat, zAr σ a2 (ix (zAi σ a91 (ix v1))) = some a96 ∧ wX16_picks v0 v1 a6 a96 (uFi (uFi σ 896 a6 0) 897 a6 (zAi σ a9 (ix v1))) (fun σ98 => Q σ98) E))
def wX16_works (v0 : Nat) (v1 : Int32) (σ : St) (Q : St → Prop) (E : St → Prop) : Prop := wX16_works_0 Q E v0 v1 σ
set_option maxRecDepth 20000 in
theorem kwX16_works_0 {Γ : hCT} (C : hC Γ RX16 cX16_works ((Option.none : Option Jvm.ClassFile.FieldType)) "works" 4 118) {Q : St → Prop} {E : St → Prop} (hΓ : Γ.2.2.2.2.2.2.2.2.2.2.2 = (3, 0, 0, oT (oV Q) E)) (hne : hNE Γ) (v0 : Nat) (v1 : Int32) (σ : St) (hb : wX16_works_0 Q E v0 v1 σ) : hW Γ 0 0 0 [(0, .ref v0), (1, .int v1)] [] σ := by
  unfold wX16_works_0 at hb
  refine g_aload_n (some v0) C dX16_works_0 0 rfl ?_
  obtain ⟨q1, hb⟩ := hb
  obtain ⟨a2, q3, hb⟩ := hb
  refine g_getR (some a2) C fl_RX16_188 dX16_works_1 q1 rfl rfl q3 ?_
  refine g_iload_n C dX16_works_4 1 rfl ?_
  obtain ⟨q4, hb⟩ := hb
  obtain ⟨q5, hb⟩ := hb
  obtain ⟨a6, q7, hb⟩ := hb
  refine g_aald (some a6) el_30 C dX16_works_5 q4 q5 q7 ?_
  refine g_astore_n (i := 2) (lv' := [(2, .ref a6), (0, .ref v0), (1, .int v1)]) (some a6) C dX16_works_6 rfl (hnl_of hΓ (by decide)) (by first | rfl | simp [cat_rf]) ?_
  refine g_aload_n (some a6) C dX16_works_7 0 rfl ?_
  refine g_iconst (v := 0) C dX16_works_8 (by decide) ?_
  obtain ⟨q8, hb⟩ := hb
  refine g_putI C fl_RX16_35 dX16_works_9 q8 rfl rfl rfl rfl ?_
  refine g_aload_n (some a6) C dX16_works_12 0 rfl ?_
  refine g_aload_n (some v0) C dX16_works_13 1 rfl ?_
  obtain ⟨a9, q10, hb⟩ := hb
  refine g_getR (some a9) C fl_RX16_146 dX16_works_14 (by rw [zK_uFi]; exact q1) rfl rfl (by rw [zFr_uFi]; exact q10) ?_
  refine g_iload_n C dX16_works_17 2 rfl ?_
  obtain ⟨q11, hb⟩ := hb
  obtain ⟨q12, hb⟩ := hb
  refine g_ialdx (zAi σ a9 (ix v1)) C dX16_works_18 (by rw [zK_uFi]; exact q11) (by rw [zL_uFi]; exact q12) (by rw [zAi_uFi]) ?_
  refine g_putI C fl_RX16_236 dX16_works_19 (by rw [zK_uFi]; exact q8) rfl rfl rfl rfl ?_
  refine g_aload_n (some v0) C dX16_works_22 1 rfl ?_
  obtain ⟨a13, q14, hb⟩ := hb
  refine g_getR (some a13) C fl_RX16_137 dX16_works_23 (by rw [zK_uFi, zK_uFi]; exact q1) rfl rfl (by rw [zFr_uFi, zFr_uFi]; exact q14) ?_
  refine g_iload_n C dX16_works_26 2 rfl ?_
  obtain ⟨q15, hb⟩ := hb
  obtain ⟨q16, hb⟩ := hb
  refine g_ialdx (zAi σ a13 (ix v1)) C dX16_works_27 (by rw [zK_uFi, zK_uFi]; exact q15) (by rw [zL_uFi, zL_uFi]; exact q16) (by rw [zAi_uFi, zAi_uFi]) ?_
  by_cases c22 : (zAi σ a13 (ix v1)) = 0
  ·
    replace hb := hb.1 c22
    refine g_tabIn (tgt := 72) (off := 44) C dX16_works_28 (by rw [c22]; decide) (by rw [c22]; decide) (by rw [c22]; rfl) (by decide) ?_
    refine g_aload_n (some v0) C dX16_works_72 1 rfl ?_
    refine g_aload_n (some a6) C dX16_works_73 0 rfl ?_
    refine g_aload_n (some v0) C dX16_works_74 1 rfl ?_
    obtain ⟨a17, q18, hb⟩ := hb
    refine g_getR (some a17) C fl_RX16_140 dX16_works_75 (by rw [zK_uFi, zK_uFi]; exact q1) rfl rfl (by rw [zFr_uFi, zFr_uFi]; exact q18) ?_
    refine g_iload_n C dX16_works_78 2 rfl ?_
    obtain ⟨q19, hb⟩ := hb
    obtain ⟨q20, hb⟩ := hb
    refine g_ialdx (zAi σ a17 (ix v1)) C dX16_works_79 (by rw [zK_uFi, zK_uFi]; exact q19) (by rw [zL_uFi, zL_uFi]; exact q20) (by rw [zAi_uFi, zAi_uFi]) ?_
    refine g_invXV (ci := 16) [.ref a6, .int (zAi σ a17 (ix v1))] [] zy_X16_bases wd_1401 wd_1403 wd_48 ⟨_, _, rfl⟩ (by decide) C dX16_works_80 (by first | exact Nat.le_of_ble_eq_true rfl | simp [cat_rf]) (by first | exact Nat.le_of_ble_eq_true rfl | simp [cat_rf]) (by first | exact Nat.le_of_ble_eq_true rfl | simp [cat_rf]) (Nat.zero_le _) (Nat.zero_le _) rfl rfl (by rw [zK_uFi, zK_uFi]; exact q1) hΓ hne (okX16_bases hb) ?_
    rintro o σ21 ((⟨rfl, hb⟩) | ⟨x, rfl, hx, hb⟩)
    case inr => exact Or.inr ⟨x, rfl, g_thrown hΓ hx hb⟩
    refine Or.inl ⟨_, rfl, ?_⟩
    refine g_goto (tgt := 203) C dX16_works_83 (by decide) ?_
    exact g_vreturn C hΓ (Nat.zero_le _) (Nat.zero_le _) dX16_works_203 (Or.inl ⟨rfl, hb⟩)
  ·
    by_cases c31 : (zAi σ a13 (ix v1)) = 1
    ·
      replace hb := hb.2.1 c31
      refine g_tabIn (tgt := 186) (off := 158) C dX16_works_28 (by rw [c31]; decide) (by rw [c31]; decide) (by rw [c31]; rfl) (by decide) ?_
      refine g_aload_n (some v0) C dX16_works_186 1 rfl ?_
      refine g_iload_n C dX16_works_187 2 rfl ?_
      refine g_aload_n (some a6) C dX16_works_188 0 rfl ?_
      refine g_aload_n (some v0) C dX16_works_189 1 rfl ?_
      refine g_getR (some a2) C fl_RX16_188 dX16_works_190 (by rw [zK_uFi, zK_uFi]; exact q1) rfl rfl (by rw [zFr_uFi, zFr_uFi]; exact q3) ?_
      refine g_aload_n (some v0) C dX16_works_193 1 rfl ?_
      obtain ⟨a23, q24, hb⟩ := hb
      refine g_getR (some a23) C fl_RX16_140 dX16_works_194 (by rw [zK_uFi, zK_uFi]; exact q1) rfl rfl (by rw [zFr_uFi, zFr_uFi]; exact q24) ?_
      refine g_iload_n C dX16_works_197 2 rfl ?_
      obtain ⟨q25, hb⟩ := hb
      obtain ⟨q26, hb⟩ := hb
      refine g_ialdx (zAi σ a23 (ix v1)) C dX16_works_198 (by rw [zK_uFi, zK_uFi]; exact q25) (by rw [zL_uFi, zL_uFi]; exact q26) (by rw [zAi_uFi, zAi_uFi]) ?_
      obtain ⟨q27, hb⟩ := hb
      obtain ⟨a28, q29, hb⟩ := hb
      refine g_aald (some a28) el_30 C dX16_works_199 (by rw [zK_uFi, zK_uFi]; exact q4) (by rw [zL_uFi, zL_uFi]; exact q27) (by rw [zAr_uFi, zAr_uFi]; exact q29) ?_
      refine g_invXV (ci := 16) [.int v1, .ref a6, .ref a28] [] zy_X16_picks wd_1472 wd_1474 wd_59 ⟨_, _, rfl⟩ (by decide) C dX16_works_200 (by first | exact Nat.le_of_ble_eq_true rfl | simp [cat_rf]) (by first | exact Nat.le_of_ble_eq_true rfl | simp [cat_rf]) (by first | exact Nat.le_of_ble_eq_true rfl | simp [cat_rf]) (Nat.zero_le _) (Nat.zero_le _) rfl rfl (by rw [zK_uFi, zK_uFi]; exact q1) hΓ hne (okX16_picks hb) ?_
      rintro o σ30 ((⟨rfl, hb⟩) | ⟨x, rfl, hx, hb⟩)
      case inr => exact Or.inr ⟨x, rfl, g_thrown hΓ hx hb⟩
      refine Or.inl ⟨_, rfl, ?_⟩
      exact g_vreturn C hΓ (Nat.zero_le _) (Nat.zero_le _) dX16_works_203 (Or.inl ⟨rfl, hb⟩)
    ·
      by_cases c40 : (zAi σ a13 (ix v1)) = 2
      ·
        replace hb := hb.2.2.1 c40
        refine g_tabIn (tgt := 186) (off := 158) C dX16_works_28 (by rw [c40]; decide) (by rw [c40]; decide) (by rw [c40]; rfl) (by decide) ?_
        refine g_aload_n (some v0) C dX16_works_186 1 rfl ?_
        refine g_iload_n C dX16_works_187 2 rfl ?_
        refine g_aload_n (some a6) C dX16_works_188 0 rfl ?_
        refine g_aload_n (some v0) C dX16_works_189 1 rfl ?_
        refine g_getR (some a2) C fl_RX16_188 dX16_works_190 (by rw [zK_uFi, zK_uFi]; exact q1) rfl rfl (by rw [zFr_uFi, zFr_uFi]; exact q3) ?_
        refine g_aload_n (some v0) C dX16_works_193 1 rfl ?_
        obtain ⟨a32, q33, hb⟩ := hb
        refine g_getR (some a32) C fl_RX16_140 dX16_works_194 (by rw [zK_uFi, zK_uFi]; exact q1) rfl rfl (by rw [zFr_uFi, zFr_uFi]; exact q33) ?_
        refine g_iload_n C dX16_works_197 2 rfl ?_
        obtain ⟨q34, hb⟩ := hb
        obtain ⟨q35, hb⟩ := hb
        refine g_ialdx (zAi σ a32 (ix v1)) C dX16_works_198 (by rw [zK_uFi, zK_uFi]; exact q34) (by rw [zL_uFi, zL_uFi]; exact q35) (by rw [zAi_uFi, zAi_uFi]) ?_
        obtain ⟨q36, hb⟩ := hb
        obtain ⟨a37, q38, hb⟩ := hb
        refine g_aald (some a37) el_30 C dX16_works_199 (by rw [zK_uFi, zK_uFi]; exact q4) (by rw [zL_uFi, zL_uFi]; exact q36) (by rw [zAr_uFi, zAr_uFi]; exact q38) ?_
        refine g_invXV (ci := 16) [.int v1, .ref a6, .ref a37] [] zy_X16_picks wd_1472 wd_1474 wd_59 ⟨_, _, rfl⟩ (by decide) C dX16_works_200 (by first | exact Nat.le_of_ble_eq_true rfl | simp [cat_rf]) (by first | exact Nat.le_of_ble_eq_true rfl | simp [cat_rf]) (by first | exact Nat.le_of_ble_eq_true rfl | simp [cat_rf]) (Nat.zero_le _) (Nat.zero_le _) rfl rfl (by rw [zK_uFi, zK_uFi]; exact q1) hΓ hne (okX16_picks hb) ?_
        rintro o σ39 ((⟨rfl, hb⟩) | ⟨x, rfl, hx, hb⟩)
        case inr => exact Or.inr ⟨x, rfl, g_thrown hΓ hx hb⟩
        refine Or.inl ⟨_, rfl, ?_⟩
        exact g_vreturn C hΓ (Nat.zero_le _) (Nat.zero_le _) dX16_works_203 (Or.inl ⟨rfl, hb⟩)
      ·
        by_cases c49 : (zAi σ a13 (ix v1)) = 3
        ·
          replace hb := hb.2.2.2.1 c49
          refine g_tabIn (tgt := 86) (off := 58) C dX16_works_28 (by rw [c49]; decide) (by rw [c49]; decide) (by rw [c49]; rfl) (by decide) ?_
          refine g_aload_n (some v0) C dX16_works_86 1 rfl ?_
          refine g_iload_n C dX16_works_87 2 rfl ?_
          refine g_aload_n (some a6) C dX16_works_88 0 rfl ?_
          refine g_aload_n (some v0) C dX16_works_89 1 rfl ?_
          refine g_getR (some a2) C fl_RX16_188 dX16_works_90 (by rw [zK_uFi, zK_uFi]; exact q1) rfl rfl (by rw [zFr_uFi, zFr_uFi]; exact q3) ?_
          refine g_aload_n (some v0) C dX16_works_93 1 rfl ?_
          obtain ⟨a41, q42, hb⟩ := hb
          refine g_getR (some a41) C fl_RX16_140 dX16_works_94 (by rw [zK_uFi, zK_uFi]; exact q1) rfl rfl (by rw [zFr_uFi, zFr_uFi]; exact q42) ?_
          refine g_iload_n C dX16_works_97 2 rfl ?_
          obtain ⟨q43, hb⟩ := hb
          obtain ⟨q44, hb⟩ := hb
          refine g_ialdx (zAi σ a41 (ix v1)) C dX16_works_98 (by rw [zK_uFi, zK_uFi]; exact q43) (by rw [zL_uFi, zL_uFi]; exact q44) (by rw [zAi_uFi, zAi_uFi]) ?_
          obtain ⟨q45, hb⟩ := hb
          obtain ⟨a46, q47, hb⟩ := hb
          refine g_aald (some a46) el_30 C dX16_works_99 (by rw [zK_uFi, zK_uFi]; exact q4) (by rw [zL_uFi, zL_uFi]; exact q45) (by rw [zAr_uFi, zAr_uFi]; exact q47) ?_
          refine g_invXV (ci := 16) [.int v1, .ref a6, .ref a46] [] zy_X16_cuts wd_1436 wd_1438 wd_53 ⟨_, _, rfl⟩ (by decide) C dX16_works_100 (by first | exact Nat.le_of_ble_eq_true rfl | simp [cat_rf]) (by first | exact Nat.le_of_ble_eq_true rfl | simp [cat_rf]) (by first | exact Nat.le_of_ble_eq_true rfl | simp [cat_rf]) (Nat.zero_le _) (Nat.zero_le _) rfl rfl (by rw [zK_uFi, zK_uFi]; exact q1) hΓ hne (okX16_cuts hb) ?_
          rintro o σ48 ((⟨rfl, hb⟩) | ⟨x, rfl, hx, hb⟩)
          case inr => exact Or.inr ⟨x, rfl, g_thrown hΓ hx hb⟩
          refine Or.inl ⟨_, rfl, ?_⟩
          refine g_goto (tgt := 203) C dX16_works_103 (by decide) ?_
          exact g_vreturn C hΓ (Nat.zero_le _) (Nat.zero_le _) dX16_works_203 (Or.inl ⟨rfl, hb⟩)
        ·
          by_cases c65 : (zAi σ a13 (ix v1)) = 4
          ·
            replace hb := hb.2.2.2.2.1 c65
            refine g_tabIn (tgt := 106) (off := 78) C dX16_works_28 (by rw [c65]; decide) (by rw [c65]; decide) (by rw [c65]; rfl) (by decide) ?_
            refine g_aload_n (some v0) C dX16_works_106 1 rfl ?_
            refine g_iload_n C dX16_works_107 2 rfl ?_
            refine g_aload_n (some a6) C dX16_works_108 0 rfl ?_
            refine g_aload_n (some v0) C dX16_works_109 1 rfl ?_
            refine g_getR (some a2) C fl_RX16_188 dX16_works_110 (by rw [zK_uFi, zK_uFi]; exact q1) rfl rfl (by rw [zFr_uFi, zFr_uFi]; exact q3) ?_
            refine g_aload_n (some v0) C dX16_works_113 1 rfl ?_
            obtain ⟨a50, q51, hb⟩ := hb
            refine g_getR (some a50) C fl_RX16_140 dX16_works_114 (by rw [zK_uFi, zK_uFi]; exact q1) rfl rfl (by rw [zFr_uFi, zFr_uFi]; exact q51) ?_
            refine g_iload_n C dX16_works_117 2 rfl ?_
            obtain ⟨q52, hb⟩ := hb
            obtain ⟨q53, hb⟩ := hb
            refine g_ialdx (zAi σ a50 (ix v1)) C dX16_works_118 (by rw [zK_uFi, zK_uFi]; exact q52) (by rw [zL_uFi, zL_uFi]; exact q53) (by rw [zAi_uFi, zAi_uFi]) ?_
            obtain ⟨q54, hb⟩ := hb
            obtain ⟨a55, q56, hb⟩ := hb
            refine g_aald (some a55) el_30 C dX16_works_119 (by rw [zK_uFi, zK_uFi]; exact q4) (by rw [zL_uFi, zL_uFi]; exact q54) (by rw [zAr_uFi, zAr_uFi]; exact q56) ?_
            refine g_aload_n (some v0) C dX16_works_120 1 rfl ?_
            refine g_getR (some a2) C fl_RX16_188 dX16_works_121 (by rw [zK_uFi, zK_uFi]; exact q1) rfl rfl (by rw [zFr_uFi, zFr_uFi]; exact q3) ?_
            refine g_aload_n (some v0) C dX16_works_124 1 rfl ?_
            obtain ⟨a57, q58, hb⟩ := hb
            refine g_getR (some a57) C fl_RX16_143 dX16_works_125 (by rw [zK_uFi, zK_uFi]; exact q1) rfl rfl (by rw [zFr_uFi, zFr_uFi]; exact q58) ?_
            refine g_iload_n C dX16_works_128 2 rfl ?_
            obtain ⟨q59, hb⟩ := hb
            obtain ⟨q60, hb⟩ := hb
            refine g_ialdx (zAi σ a57 (ix v1)) C dX16_works_129 (by rw [zK_uFi, zK_uFi]; exact q59) (by rw [zL_uFi, zL_uFi]; exact q60) (by rw [zAi_uFi, zAi_uFi]) ?_
            obtain ⟨q61, hb⟩ := hb
            obtain ⟨a62, q63, hb⟩ := hb
            refine g_aald (some a62) el_30 C dX16_works_130 (by rw [zK_uFi, zK_uFi]; exact q4) (by rw [zL_uFi, zL_uFi]; exact q61) (by rw [zAr_uFi, zAr_uFi]; exact q63) ?_
            refine g_invXV (ci := 16) [.int v1, .ref a6, .ref a55, .ref a62] [] zy_X16_pairs wd_1440 wd_1442 wd_54 ⟨_, _, rfl⟩ (by decide) C dX16_works_131 (by first | exact Nat.le_of_ble_eq_true rfl | simp [cat_rf]) (by first | exact Nat.le_of_ble_eq_true rfl | simp [cat_rf]) (by first | exact Nat.le_of_ble_eq_true rfl | simp [cat_rf]) (Nat.zero_le _) (Nat.zero_le _) rfl rfl (by rw [zK_uFi, zK_uFi]; exact q1) hΓ hne (okX16_pairs hb) ?_
            rintro o σ64 ((⟨rfl, hb⟩) | ⟨x, rfl, hx, hb⟩)
            case inr => exact Or.inr ⟨x, rfl, g_thrown hΓ hx hb⟩
            refine Or.inl ⟨_, rfl, ?_⟩
            refine g_goto (tgt := 203) C dX16_works_134 (by decide) ?_
            exact g_vreturn C hΓ (Nat.zero_le _) (Nat.zero_le _) dX16_works_203 (Or.inl ⟨rfl, hb⟩)
          ·
            by_cases c81 : (zAi σ a13 (ix v1)) = 5
            ·
              replace hb := hb.2.2.2.2.2.1 c81
              refine g_tabIn (tgt := 137) (off := 109) C dX16_works_28 (by rw [c81]; decide) (by rw [c81]; decide) (by rw [c81]; rfl) (by decide) ?_
              refine g_aload_n (some v0) C dX16_works_137 1 rfl ?_
              refine g_aload_n (some a6) C dX16_works_138 0 rfl ?_
              refine g_aload_n (some v0) C dX16_works_139 1 rfl ?_
              refine g_getR (some a2) C fl_RX16_188 dX16_works_140 (by rw [zK_uFi, zK_uFi]; exact q1) rfl rfl (by rw [zFr_uFi, zFr_uFi]; exact q3) ?_
              refine g_aload_n (some v0) C dX16_works_143 1 rfl ?_
              obtain ⟨a66, q67, hb⟩ := hb
              refine g_getR (some a66) C fl_RX16_140 dX16_works_144 (by rw [zK_uFi, zK_uFi]; exact q1) rfl rfl (by rw [zFr_uFi, zFr_uFi]; exact q67) ?_
              refine g_iload_n C dX16_works_147 2 rfl ?_
              obtain ⟨q68, hb⟩ := hb
              obtain ⟨q69, hb⟩ := hb
              refine g_ialdx (zAi σ a66 (ix v1)) C dX16_works_148 (by rw [zK_uFi, zK_uFi]; exact q68) (by rw [zL_uFi, zL_uFi]; exact q69) (by rw [zAi_uFi, zAi_uFi]) ?_
              obtain ⟨q70, hb⟩ := hb
              obtain ⟨a71, q72, hb⟩ := hb
              refine g_aald (some a71) el_30 C dX16_works_149 (by rw [zK_uFi, zK_uFi]; exact q4) (by rw [zL_uFi, zL_uFi]; exact q70) (by rw [zAr_uFi, zAr_uFi]; exact q72) ?_
              refine g_aload_n (some v0) C dX16_works_150 1 rfl ?_
              refine g_getR (some a2) C fl_RX16_188 dX16_works_151 (by rw [zK_uFi, zK_uFi]; exact q1) rfl rfl (by rw [zFr_uFi, zFr_uFi]; exact q3) ?_
              refine g_aload_n (some v0) C dX16_works_154 1 rfl ?_
              obtain ⟨a73, q74, hb⟩ := hb
              refine g_getR (some a73) C fl_RX16_143 dX16_works_155 (by rw [zK_uFi, zK_uFi]; exact q1) rfl rfl (by rw [zFr_uFi, zFr_uFi]; exact q74) ?_
              refine g_iload_n C dX16_works_158 2 rfl ?_
              obtain ⟨q75, hb⟩ := hb
              obtain ⟨q76, hb⟩ := hb
              refine g_ialdx (zAi σ a73 (ix v1)) C dX16_works_159 (by rw [zK_uFi, zK_uFi]; exact q75) (by rw [zL_uFi, zL_uFi]; exact q76) (by rw [zAi_uFi, zAi_uFi]) ?_
              obtain ⟨q77, hb⟩ := hb
              obtain ⟨a78, q79, hb⟩ := hb
              refine g_aald (some a78) el_30 C dX16_works_160 (by rw [zK_uFi, zK_uFi]; exact q4) (by rw [zL_uFi, zL_uFi]; exact q77) (by rw [zAr_uFi, zAr_uFi]; exact q79) ?_
              refine g_invXV (ci := 16) [.ref a6, .ref a71, .ref a78] [] zy_X16_eithers wd_1454 wd_1456 wd_56 ⟨_, _, rfl⟩ (by decide) C dX16_works_161 (by first | exact Nat.le_of_ble_eq_true rfl | simp [cat_rf]) (by first | exact Nat.le_of_ble_eq_true rfl | simp [cat_rf]) (by first | exact Nat.le_of_ble_eq_true rfl | simp [cat_rf]) (Nat.zero_le _) (Nat.zero_le _) rfl rfl (by rw [zK_uFi, zK_uFi]; exact q1) hΓ hne (okX16_eithers hb) ?_
              rintro o σ80 ((⟨rfl, hb⟩) | ⟨x, rfl, hx, hb⟩)
              case inr => exact Or.inr ⟨x, rfl, g_thrown hΓ hx hb⟩
              refine Or.inl ⟨_, rfl, ?_⟩
              refine g_goto (tgt := 203) C dX16_works_164 (by decide) ?_
              exact g_vreturn C hΓ (Nat.zero_le _) (Nat.zero_le _) dX16_works_203 (Or.inl ⟨rfl, hb⟩)
            ·
              by_cases c90 : (zAi σ a13 (ix v1)) = 6
              ·
                replace hb := hb.2.2.2.2.2.2.1 c90
                refine g_tabIn (tgt := 167) (off := 139) C dX16_works_28 (by rw [c90]; decide) (by rw [c90]; decide) (by rw [c90]; rfl) (by decide) ?_
                refine g_aload_n (some v0) C dX16_works_167 1 rfl ?_
                refine g_aload_n (some a6) C dX16_works_168 0 rfl ?_
                refine g_aload_n (some v0) C dX16_works_169 1 rfl ?_
                refine g_getR (some a2) C fl_RX16_188 dX16_works_170 (by rw [zK_uFi, zK_uFi]; exact q1) rfl rfl (by rw [zFr_uFi, zFr_uFi]; exact q3) ?_
                refine g_aload_n (some v0) C dX16_works_173 1 rfl ?_
                obtain ⟨a82, q83, hb⟩ := hb
                refine g_getR (some a82) C fl_RX16_140 dX16_works_174 (by rw [zK_uFi, zK_uFi]; exact q1) rfl rfl (by rw [zFr_uFi, zFr_uFi]; exact q83) ?_
                refine g_iload_n C dX16_works_177 2 rfl ?_
                obtain ⟨q84, hb⟩ := hb
                obtain ⟨q85, hb⟩ := hb
                refine g_ialdx (zAi σ a82 (ix v1)) C dX16_works_178 (by rw [zK_uFi, zK_uFi]; exact q84) (by rw [zL_uFi, zL_uFi]; exact q85) (by rw [zAi_uFi, zAi_uFi]) ?_
                obtain ⟨q86, hb⟩ := hb
                obtain ⟨a87, q88, hb⟩ := hb
                refine g_aald (some a87) el_30 C dX16_works_179 (by rw [zK_uFi, zK_uFi]; exact q4) (by rw [zL_uFi, zL_uFi]; exact q86) (by rw [zAr_uFi, zAr_uFi]; exact q88) ?_
                refine g_invXV (ci := 16) [.ref a6, .ref a87] [] zy_X16_rounds wd_1462 wd_1464 wd_58 ⟨_, _, rfl⟩ (by decide) C dX16_works_180 (by first | exact Nat.le_of_ble_eq_true rfl | simp [cat_rf]) (by first | exact Nat.le_of_ble_eq_true rfl | simp [cat_rf]) (by first | exact Nat.le_of_ble_eq_true rfl | simp [cat_rf]) (Nat.zero_le _) (Nat.zero_le _) rfl rfl (by rw [zK_uFi, zK_uFi]; exact q1) hΓ hne (okX16_rounds hb) ?_
                rintro o σ89 ((⟨rfl, hb⟩) | ⟨x, rfl, hx, hb⟩)
                case inr => exact Or.inr ⟨x, rfl, g_thrown hΓ hx hb⟩
                refine Or.inl ⟨_, rfl, ?_⟩
                refine g_goto (tgt := 203) C dX16_works_183 (by decide) ?_
                exact g_vreturn C hΓ (Nat.zero_le _) (Nat.zero_le _) dX16_works_203 (Or.inl ⟨rfl, hb⟩)
              ·
                replace hb := hb.2.2.2.2.2.2.2 c22 c31 c40 c49 c65 c81 c90
                have hz : Int32.toInt (zAi σ a13 (ix v1)) < 0 ∨ 6 < Int32.toInt (zAi σ a13 (ix v1)) := by
                  have h_c22 := i32_ne c22
                  have h_c31 := i32_ne c31
                  have h_c40 := i32_ne c40
                  have h_c49 := i32_ne c49
                  have h_c65 := i32_ne c65
                  have h_c81 := i32_ne c81
                  have h_c90 := i32_ne c90
                  rw [show Int32.toInt 0 = 0 from rfl] at h_c22; rw [show Int32.toInt 1 = 1 from rfl] at h_c31; rw [show Int32.toInt 2 = 2 from rfl] at h_c40; rw [show Int32.toInt 3 = 3 from rfl] at h_c49; rw [show Int32.toInt 4 = 4 from rfl] at h_c65; rw [show Int32.toInt 5 = 5 from rfl] at h_c81; rw [show Int32.toInt 6 = 6 from rfl] at h_c90
                  omega
                refine g_tabOut (tgt := 186) C dX16_works_28 hz (by decide) ?_
                refine g_aload_n (some v0) C dX16_works_186 1 rfl ?_
                refine g_iload_n C dX16_works_187 2 rfl ?_
                refine g_aload_n (some a6) C dX16_works_188 0 rfl ?_
                refine g_aload_n (some v0) C dX16_works_189 1 rfl ?_
                refine g_getR (some a2) C fl_RX16_188 dX16_works_190 (by rw [zK_uFi, zK_uFi]; exact q1) rfl rfl (by rw [zFr_uFi, zFr_uFi]; exact q3) ?_
                refine g_aload_n (some v0) C dX16_works_193 1 rfl ?_
                obtain ⟨a91, q92, hb⟩ := hb
                refine g_getR (some a91) C fl_RX16_140 dX16_works_194 (by rw [zK_uFi, zK_uFi]; exact q1) rfl rfl (by rw [zFr_uFi, zFr_uFi]; exact q92) ?_
                refine g_iload_n C dX16_works_197 2 rfl ?_
                obtain ⟨q93, hb⟩ := hb
                obtain ⟨q94, hb⟩ := hb
                refine g_ialdx (zAi σ a91 (ix v1)) C dX16_works_198 (by rw [zK_uFi, zK_uFi]; exact q93) (by rw [zL_uFi, zL_uFi]; exact q94) (by rw [zAi_uFi, zAi_uFi]) ?_
                obtain ⟨q95, hb⟩ := hb
                obtain ⟨a96, q97, hb⟩ := hb
                refine g_aald (some a96) el_30 C dX16_works_199 (by rw [zK_uFi, zK_uFi]; exact q4) (by rw [zL_uFi, zL_uFi]; exact q95) (by rw [zAr_uFi, zAr_uFi]; exact q97) ?_
                refine g_invXV (ci := 16) [.int v1, .ref a6, .ref a96] [] zy_X16_picks wd_1472 wd_1474 wd_59 ⟨_, _, rfl⟩ (by decide) C dX16_works_200 (by first | exact Nat.le_of_ble_eq_true rfl | simp [cat_rf]) (by first | exact Nat.le_of_ble_eq_true rfl | simp [cat_rf]) (by first | exact Nat.le_of_ble_eq_true rfl | simp [cat_rf]) (Nat.zero_le _) (Nat.zero_le _) rfl rfl (by rw [zK_uFi, zK_uFi]; exact q1) hΓ hne (okX16_picks hb) ?_
                rintro o σ98 ((⟨rfl, hb⟩) | ⟨x, rfl, hx, hb⟩)
                case inr => exact Or.inr ⟨x, rfl, g_thrown hΓ hx hb⟩
                refine Or.inl ⟨_, rfl, ?_⟩
                exact g_vreturn C hΓ (Nat.zero_le _) (Nat.zero_le _) dX16_works_203 (Or.inl ⟨rfl, hb⟩)
theorem okX16_works {v0 : Nat} {v1 : Int32} {σ : St} {Q : St → Prop} {E : St → Prop} (hb : wX16_works v0 v1 σ Q E) : hM yX16_works cX16_works 3 ((Option.none : Option Jvm.ClassFile.FieldType)) 4 118 0 0 [.ref v0, .int v1] σ (oT (oV Q) E) :=
  hM_ofX (by decide) (Nat.le_of_ble_eq_true rfl) (fun Γ hΓ C hne => kwX16_works_0 C hΓ hne _ _ _ hb)
def wX16_isLess_43 (Q : Int32 → St → Prop) (v0 : Nat) (v1 : Int32) (v2 : Int32) (v3 : Int32) (σ : St) : Prop :=
  zK σ v0 = 15 ∧ ∃ a2 : Nat, zFr σ 898 v0 = some a2 ∧ zK σ a2 = 20 ∧ vp_in ((6 * v1) + v3) (zL σ a2) ∧ vp_in ((6 * v2) + v3) (zL σ a2) ∧ (((zAi σ a2 (ix ((6 * v2) + v3))) ≤ (zAi σ a2 (ix ((6 * v1) + v3))) → Q 0 σ) ∧ (¬ (zAi σ a2 (ix ((6 * v2) + v3))) ≤ (zAi σ a2 (ix ((6 * v1) + v3))) → Q 1 σ))
def wX16_isLess_2 (Q : Int32 → St → Prop) (r2 : Nat → Int32 → Int32 → Int32 → St → Prop) (v0 : Nat) (v1 : Int32) (v2 : Int32) (v3 : Int32) (σ : St) : Prop :=
  zK σ v0 = 15 ∧ ((((zFi σ 897 v0) - 1) ≤ v3 → wX16_isLess_43 Q v0 v1 v2 v3 σ) ∧ (¬ ((zFi σ 897 v0) - 1) ≤ v3 → ∃ a2 : Nat, zFr σ 898 v0 = some a2 ∧ zK σ a2 = 20 ∧ vp_in ((6 * v1) + v3) (zL σ a2) ∧ vp_in ((6 * v2) + v3) (zL σ a2) ∧ ((¬ (zAi σ a2 (ix ((6 * v1) + v3))) = (zAi σ a2 (ix ((6 * v2) + v3))) → wX16_isLess_43 Q v0 v1 v2 v3 σ) ∧ ((zAi σ a2 (ix ((6 * v1) + v3))) = (zAi σ a2 (ix ((6 * v2) + v3))) → r2 v0 v1 v2 (v3 + 1) σ))))
def lX16_isLess_2 (Q : Int32 → St → Prop) : Nat → Nat → Int32 → Int32 → Int32 → St → Prop
  | 0, _, _, _, _, _ => False
  | f + 1, v0, v1, v2, v3, σ => wX16_isLess_2 Q (lX16_isLess_2 Q f) v0 v1 v2 v3 σ
def wX16_isLess_0 (Q : Int32 → St → Prop) (v0 : Nat) (v1 : Int32) (v2 : Int32) (σ : St) : Prop :=
  ∃ f, lX16_isLess_2 Q f v0 v1 v2 0 σ
def wX16_isLess (v0 : Nat) (v1 : Int32) (v2 : Int32) (σ : St) (Q : Int32 → St → Prop) : Prop := wX16_isLess_0 Q v0 v1 v2 σ
set_option maxRecDepth 20000 in
theorem kwX16_isLess_43 {Γ : hCT} (C : hC Γ RX16 cX16_isLess ((Option.some FieldType.boolean)) "isLess" 0 0) {Q : Int32 → St → Prop} (hΓ : Γ.2.2.2.2.2.2.2.2.2.2.2 = (4, 0, 0, oI Q)) (v0 : Nat) (v1 : Int32) (v2 : Int32) (v3 : Int32) (σ : St) (hb : wX16_isLess_43 Q v0 v1 v2 v3 σ) : hW Γ 0 0 43 [(0, .ref v0), (1, .int v1), (2, .int v2), (3, .int v3)] [] σ := by
  unfold wX16_isLess_43 at hb
  refine g_aload_n (some v0) C dX16_isLess_43 0 rfl ?_
  obtain ⟨q1, hb⟩ := hb
  obtain ⟨a2, q3, hb⟩ := hb
  refine g_getR (some a2) C fl_RX16_239 dX16_isLess_44 q1 rfl rfl q3 ?_
  refine g_bipush (v := 6) C dX16_isLess_47 (by decide) ?_
  refine g_iload_n C dX16_isLess_49 1 rfl ?_
  refine g_imul C dX16_isLess_50 ?_
  refine g_iload_n C dX16_isLess_51 3 rfl ?_
  refine g_iadd C dX16_isLess_52 ?_
  obtain ⟨q4, hb⟩ := hb
  obtain ⟨q5, hb⟩ := hb
  refine g_ialdx (zAi σ a2 (ix ((6 * v1) + v3))) C dX16_isLess_53 q4 q5 rfl ?_
  refine g_aload_n (some v0) C dX16_isLess_54 0 rfl ?_
  refine g_getR (some a2) C fl_RX16_239 dX16_isLess_55 q1 rfl rfl q3 ?_
  refine g_bipush (v := 6) C dX16_isLess_58 (by decide) ?_
  refine g_iload_n C dX16_isLess_60 2 rfl ?_
  refine g_imul C dX16_isLess_61 ?_
  refine g_iload_n C dX16_isLess_62 3 rfl ?_
  refine g_iadd C dX16_isLess_63 ?_
  obtain ⟨q6, hb⟩ := hb
  refine g_ialdx (zAi σ a2 (ix ((6 * v2) + v3))) C dX16_isLess_64 q4 q6 rfl ?_
  refine g_icmp_ge (tgt := 72) C dX16_isLess_65 (by decide) (fun c => ?_) (fun c => ?_)
  ·
    replace hb := hb.1 (c)
    refine g_iconst (v := 0) C dX16_isLess_72 (by decide) ?_
    exact g_zreturn C (by decide) hΓ (Nat.zero_le _) (Nat.zero_le _) dX16_isLess_73 ⟨_, rfl, hb⟩
  ·
    replace hb := hb.2 (c)
    refine g_iconst (v := 1) C dX16_isLess_68 (by decide) ?_
    refine g_goto (tgt := 73) C dX16_isLess_69 (by decide) ?_
    exact g_zreturn C (by decide) hΓ (Nat.zero_le _) (Nat.zero_le _) dX16_isLess_73 ⟨_, rfl, hb⟩
set_option maxRecDepth 20000 in
theorem kwX16_isLess_2 {Γ : hCT} (C : hC Γ RX16 cX16_isLess ((Option.some FieldType.boolean)) "isLess" 0 0) {Q : Int32 → St → Prop} (hΓ : Γ.2.2.2.2.2.2.2.2.2.2.2 = (4, 0, 0, oI Q)) {r2 : Nat → Int32 → Int32 → Int32 → St → Prop} (h2 : ∀ (v0 : Nat) (v1 : Int32) (v2 : Int32) (v3 : Int32) (σ : St), r2 v0 v1 v2 v3 σ → hW Γ 0 0 2 [(0, .ref v0), (1, .int v1), (2, .int v2), (3, .int v3)] [] σ) (v0 : Nat) (v1 : Int32) (v2 : Int32) (v3 : Int32) (σ : St) (hb : wX16_isLess_2 Q r2 v0 v1 v2 v3 σ) : hW Γ 0 0 2 [(0, .ref v0), (1, .int v1), (2, .int v2), (3, .int v3)] [] σ := by
  unfold wX16_isLess_2 at hb
  refine g_iload_n C dX16_isLess_2 3 rfl ?_
  refine g_aload_n (some v0) C dX16_isLess_3 0 rfl ?_
  obtain ⟨q1, hb⟩ := hb
  refine g_getIx (zFi σ 897 v0) C fl_RX16_236 dX16_isLess_4 q1 rfl rfl rfl ?_
  refine g_iconst (v := 1) C dX16_isLess_7 (by decide) ?_
  refine g_isub C dX16_isLess_8 ?_
  refine g_icmp_ge (tgt := 43) C dX16_isLess_9 (by decide) (fun c => ?_) (fun c => ?_)
  ·
    replace hb := hb.1 (c)
    refine g_sub (lv' := [(0, .ref v0), (1, .int v1), (2, .int v2), (3, .int v3)]) [0, 1, 2, 3] rfl ?_
    exact kwX16_isLess_43 C hΓ  _ _ _ _ _ hb
  ·
    replace hb := hb.2 (c)
    refine g_aload_n (some v0) C dX16_isLess_12 0 rfl ?_
    obtain ⟨a2, q3, hb⟩ := hb
    refine g_getR (some a2) C fl_RX16_239 dX16_isLess_13 q1 rfl rfl q3 ?_
    refine g_bipush (v := 6) C dX16_isLess_16 (by decide) ?_
    refine g_iload_n C dX16_isLess_18 1 rfl ?_
    refine g_imul C dX16_isLess_19 ?_
    refine g_iload_n C dX16_isLess_20 3 rfl ?_
    refine g_iadd C dX16_isLess_21 ?_
    obtain ⟨q4, hb⟩ := hb
    obtain ⟨q5, hb⟩ := hb
    refine g_ialdx (zAi σ a2 (ix ((6 * v1) + v3))) C dX16_isLess_22 q4 q5 rfl ?_
    refine g_aload_n (some v0) C dX16_isLess_23 0 rfl ?_
    refine g_getR (some a2) C fl_RX16_239 dX16_isLess_24 q1 rfl rfl q3 ?_
    refine g_bipush (v := 6) C dX16_isLess_27 (by decide) ?_
    refine g_iload_n C dX16_isLess_29 2 rfl ?_
    refine g_imul C dX16_isLess_30 ?_
    refine g_iload_n C dX16_isLess_31 3 rfl ?_
    refine g_iadd C dX16_isLess_32 ?_
    obtain ⟨q6, hb⟩ := hb
    refine g_ialdx (zAi σ a2 (ix ((6 * v2) + v3))) C dX16_isLess_33 q4 q6 rfl ?_
    refine g_icmp_ne (tgt := 43) C dX16_isLess_34 (by decide) (fun c => ?_) (fun c => ?_)
    ·
      replace hb := hb.1 (c)
      refine g_sub (lv' := [(0, .ref v0), (1, .int v1), (2, .int v2), (3, .int v3)]) [0, 1, 2, 3] rfl ?_
      exact kwX16_isLess_43 C hΓ  _ _ _ _ _ hb
    ·
      replace hb := hb.2 (c)
      refine g_iinc (v := v3 + 1) (lv' := [(3, .int (v3 + 1)), (0, .ref v0), (1, .int v1), (2, .int v2)]) C dX16_isLess_37 3 rfl rfl (hnl_of hΓ (by decide)) (by first | rfl | simp [cat_rf]) ?_
      refine g_goto (tgt := 2) C dX16_isLess_40 (by decide) ?_
      refine g_sub (lv' := [(0, .ref v0), (1, .int v1), (2, .int v2), (3, .int (v3 + 1))]) [1, 2, 3, 0] rfl ?_
      exact h2 _ _ _ _ _ hb
theorem klX16_isLess_2 {Γ : hCT} (C : hC Γ RX16 cX16_isLess ((Option.some FieldType.boolean)) "isLess" 0 0) {Q : Int32 → St → Prop} (hΓ : Γ.2.2.2.2.2.2.2.2.2.2.2 = (4, 0, 0, oI Q)) (f : Nat) (v0 : Nat) (v1 : Int32) (v2 : Int32) (v3 : Int32) (σ : St) (hb : lX16_isLess_2 Q f v0 v1 v2 v3 σ) : hW Γ 0 0 2 [(0, .ref v0), (1, .int v1), (2, .int v2), (3, .int v3)] [] σ := by
  induction f generalizing v0 v1 v2 v3 σ with
  | zero => exact hb.elim
  | succ f ih => exact kwX16_isLess_2 C hΓ  (fun v0 v1 v2 v3 σ h => ih v0 v1 v2 v3 σ h) _ _ _ _ _ hb
set_option maxRecDepth 20000 in
theorem kwX16_isLess_0 {Γ : hCT} (C : hC Γ RX16 cX16_isLess ((Option.some FieldType.boolean)) "isLess" 0 0) {Q : Int32 → St → Prop} (hΓ : Γ.2.2.2.2.2.2.2.2.2.2.2 = (4, 0, 0, oI Q)) (v0 : Nat) (v1 : Int32) (v2 : Int32) (σ : St) (hb : wX16_isLess_0 Q v0 v1 v2 σ) : hW Γ 0 0 0 [(0, .ref v0), (1, .int v1), (2, .int v2)] [] σ := by
  unfold wX16_isLess_0 at hb
  refine g_iconst (v := 0) C dX16_isLess_0 (by decide) ?_
  refine g_istore_n (i := 3) (lv' := [(3, .int 0), (0, .ref v0), (1, .int v1), (2, .int v2)]) C dX16_isLess_1 rfl (hnl_of hΓ (by decide)) (by first | rfl | simp [cat_rf]) ?_
  refine g_sub (lv' := [(0, .ref v0), (1, .int v1), (2, .int v2), (3, .int 0)]) [1, 2, 3, 0] rfl ?_
  obtain ⟨f1, hb⟩ := hb
  exact klX16_isLess_2 C hΓ  f1 _ _ _ _ _ hb
theorem okX16_isLess {v0 : Nat} {v1 : Int32} {v2 : Int32} {σ : St} {Q : Int32 → St → Prop} (hb : wX16_isLess v0 v1 v2 σ Q) : hM yX16_isLess cX16_isLess 4 ((Option.some FieldType.boolean)) 0 0 0 0 [.ref v0, .int v1, .int v2] σ (oI Q) :=
  hM_of (by decide) (Nat.le_of_ble_eq_true rfl) (fun Γ hΓ C => kwX16_isLess_0 C hΓ _ _ _ _ hb)
def wX16_ask_302 (Q : Int32 → St → Prop) (v0 : Nat) (s1 : Int32) (s0 : Nat) (σ : St) : Prop :=
  zK σ s0 = 17 ∧ (s1 = 0 ∨ s1 = 1) ∧ zK σ v0 = 17 ∧ ∃ a4 : Nat, zFr σ 1050 v0 = some a4 ∧ zK σ a4 = 15 ∧ wX16_done v0 (zFi (uFi σ 1057 s0 s1) 896 a4) (uFi σ 1057 s0 s1) (fun y8 σ7 => Q y8 σ7)
def wX16_ask_216 (Q : Int32 → St → Prop) (r202 : Nat → Int32 → Nat → Int32 → St → Prop) (r216 : Nat → Int32 → Nat → Int32 → Int32 → Int32 → St → Prop) (v0 : Nat) (v1 : Int32) (v2 : Nat) (v3 : Int32) (v4 : Int32) (v5 : Int32) (σ : St) : Prop :=
  zK σ v2 = 15 ∧ (((zFi σ 896 v2) ≤ v5 → zK σ v0 = 17 ∧ ∃ a3 : Nat, zFr σ 1059 v0 = some a3 ∧ zK σ a3 = 23 ∧ vp_in v4 (zL σ a3) ∧ ∃ a7 : Nat, zFr σ 1050 v0 = some a7 ∧ wX16_copies v0 v2 v4 a7 (uAi σ a3 (ix v4) (vp_nar .boolean 1)) (fun σ9 => r202 v0 v1 v2 (v3 + 1) σ9) (fun _ => False)) ∧ (¬ (zFi σ 896 v2) ≤ v5 → zK σ v0 = 17 ∧ ∃ a11 : Nat, zFr σ 1059 v0 = some a11 ∧ zK σ a11 = 23 ∧ vp_in v5 (zL σ a11) ∧ ((¬ (zAi σ a11 (ix v5)) = 0 → r216 v0 v1 v2 v3 v4 (v5 + 1) σ) ∧ ((zAi σ a11 (ix v5)) = 0 → ((v4 = ((-1) : Int32) → r216 v0 v1 v2 v3 v5 (v5 + 1) σ) ∧ (¬ v4 = ((-1) : Int32) → wX16_isLess v2 v5 v4 σ (fun y16 σ15 => ((y16 = 0 → r216 v0 v1 v2 v3 v4 (v5 + 1) σ15) ∧ (¬ y16 = 0 → r216 v0 v1 v2 v3 v5 (v5 + 1) σ15)))))))))
def lX16_ask_216 (Q : Int32 → St → Prop) (r202 : Nat → Int32 → Nat → Int32 → St → Prop) : Nat → Nat → Int32 → Nat → Int32 → Int32 → Int32 → St → Prop
  | 0, _, _, _, _, _, _, _ => False
  | f + 1, v0, v1, v2, v3, v4, v5, σ => wX16_ask_216 Q r202 (lX16_ask_216 Q r202 f) v0 v1 v2 v3 v4 v5 σ
def wX16_ask_202 (Q : Int32 → St → Prop) (r202 : Nat → Int32 → Nat → Int32 → St → Prop) (v0 : Nat) (v1 : Int32) (v2 : Nat) (v3 : Int32) (σ : St) : Prop :=
  zK σ v2 = 15 ∧ (((zFi σ 896 v2) ≤ v3 → zK σ v0 = 17 ∧ ∃ a3 : Nat, zFr σ 1047 v0 = some a3 ∧ zK σ a3 = 23 ∧ vp_in v1 (zL σ a3) ∧ ((¬ (zAi σ a3 (ix v1)) = 0 → wX16_ask_302 Q v0 0 v0 σ) ∧ ((zAi σ a3 (ix v1)) = 0 → wX16_ask_302 Q v0 1 v0 σ))) ∧ (¬ (zFi σ 896 v2) ≤ v3 → ∃ f, lX16_ask_216 Q r202 f v0 v1 v2 v3 (-1) 0 σ))
def lX16_ask_202 (Q : Int32 → St → Prop) : Nat → Nat → Int32 → Nat → Int32 → St → Prop
  | 0, _, _, _, _, _ => False
  | f + 1, v0, v1, v2, v3, σ => wX16_ask_202 Q (lX16_ask_202 Q f) v0 v1 v2 v3 σ
def wX16_ask_181 (Q : Int32 → St → Prop) (r181 : Nat → Int32 → Nat → Int32 → St → Prop) (v0 : Nat) (v1 : Int32) (v2 : Nat) (v3 : Int32) (σ : St) : Prop :=
  (((32 : Int32) ≤ v3 → ∃ f, lX16_ask_202 Q f v0 v1 v2 0 σ) ∧ (¬ (32 : Int32) ≤ v3 → zK σ v0 = 17 ∧ ∃ a3 : Nat, zFr σ 1059 v0 = some a3 ∧ zK σ a3 = 23 ∧ vp_in v3 (zL σ a3) ∧ r181 v0 v1 v2 (v3 + 1) (uAi σ a3 (ix v3) (vp_nar .boolean 0))))
def lX16_ask_181 (Q : Int32 → St → Prop) : Nat → Nat → Int32 → Nat → Int32 → St → Prop
  | 0, _, _, _, _, _ => False
  | f + 1, v0, v1, v2, v3, σ => wX16_ask_181 Q (lX16_ask_181 Q f) v0 v1 v2 v3 σ
def wX16_ask_118 (Q : Int32 → St → Prop) (r118 : Nat → Int32 → Int32 → St → Prop) (v0 : Nat) (v1 : Int32) (v2 : Int32) (σ : St) : Prop :=
  ((v1 < v2 → zK σ v0 = 17 ∧ ∃ a2 : Nat, zFr σ 1049 v0 = some a2 ∧ zK σ a2 = 30 ∧ vp_in v1 (zL σ a2) ∧ ∃ a6 : Nat, zAr σ a2 (ix v1) = some a6 ∧ ∃ a8 : Nat, zFr σ 1050 v0 = some a8 ∧ zK σ a8 = 15 ∧ zK σ a6 = 15 ∧ ∃ f, lX16_ask_181 Q f v0 v1 a6 0 (uFi (uFi σ 896 a8 0) 897 a8 (zFi (uFi σ 896 a8 0) 897 a6))) ∧ (¬ v1 < v2 → zK σ v0 = 17 ∧ ∃ a14 : Nat, zFr σ 1058 v0 = some a14 ∧ zK σ a14 = 23 ∧ vp_in v2 (zL σ a14) ∧ (((zAi σ a14 (ix v2)) = 0 → r118 v0 v1 (v2 + 1) σ) ∧ (¬ (zAi σ a14 (ix v2)) = 0 → wX16_works v0 v2 σ (fun σ18 => r118 v0 v1 (v2 + 1) σ18) (fun σ18 => zK σ18 v0 = 17 ∧ wX16_refused v0 5 σ18 (fun y21 σ20 => Q y21 σ20))))))
def lX16_ask_118 (Q : Int32 → St → Prop) : Nat → Nat → Int32 → Int32 → St → Prop
  | 0, _, _, _, _ => False
  | f + 1, v0, v1, v2, σ => wX16_ask_118 Q (lX16_ask_118 Q f) v0 v1 v2 σ
def wX16_ask_51 (Q : Int32 → St → Prop) (r51 : Nat → Int32 → Int32 → St → Prop) (v0 : Nat) (v1 : Int32) (v2 : Int32) (σ : St) : Prop :=
  ((v2 < 0 → ∃ f, lX16_ask_118 Q f v0 v1 0 σ) ∧ (¬ v2 < 0 → zK σ v0 = 17 ∧ ∃ a3 : Nat, zFr σ 1058 v0 = some a3 ∧ zK σ a3 = 23 ∧ vp_in v2 (zL σ a3) ∧ (((zAi σ a3 (ix v2)) = 0 → r51 v0 v1 (v2 + (-1)) σ) ∧ (¬ (zAi σ a3 (ix v2)) = 0 → ∃ a7 : Nat, zFr σ 1039 v0 = some a7 ∧ zK σ a7 = 20 ∧ vp_in v2 (zL σ a7) ∧ ((¬ (zAi σ a7 (ix v2)) = 0 → ∃ a11 : Nat, zFr σ 1040 v0 = some a11 ∧ zK σ a11 = 20 ∧ vp_in v2 (zL σ a11) ∧ vp_in (zAi σ a11 (ix v2)) (zL σ a3) ∧ ∃ a16 : Nat, zFr σ 1041 v0 = some a16 ∧ zK σ a16 = 20 ∧ vp_in v2 (zL σ a16) ∧ (((zAi (uAi σ a3 (ix (zAi σ a11 (ix v2))) (vp_nar .boolean 1)) a16 (ix v2)) = ((-1) : Int32) → r51 v0 v1 (v2 + (-1)) (uAi σ a3 (ix (zAi σ a11 (ix v2))) (vp_nar .boolean 1))) ∧ (¬ (zAi (uAi σ a3 (ix (zAi σ a11 (ix v2))) (vp_nar .boolean 1)) a16 (ix v2)) = ((-1) : Int32) → vp_in (zAi (uAi σ a3 (ix (zAi σ a11 (ix v2))) (vp_nar .boolean 1)) a16 (ix v2)) (zL σ a3) ∧ r51 v0 v1 (v2 + (-1)) (uAi (uAi σ a3 (ix (zAi σ a11 (ix v2))) (vp_nar .boolean 1)) a3 (ix (zAi (uAi σ a3 (ix (zAi σ a11 (ix v2))) (vp_nar .boolean 1)) a16 (ix v2))) (vp_nar .boolean 1))))) ∧ ((zAi σ a7 (ix v2)) = 0 → r51 v0 v1 (v2 + (-1)) σ))))))
def lX16_ask_51 (Q : Int32 → St → Prop) : Nat → Nat → Int32 → Int32 → St → Prop
  | 0, _, _, _, _ => False
  | f + 1, v0, v1, v2, σ => wX16_ask_51 Q (lX16_ask_51 Q f) v0 v1 v2 σ
def wX16_ask_42 (Q : Int32 → St → Prop) (r21 : Nat → Int32 → Int32 → St → Prop) (v0 : Nat) (v1 : Int32) (v2 : Int32) (s2 : Int32) (s1 : Int32) (s0 : Nat) (σ : St) : Prop :=
  zK σ s0 = 23 ∧ vp_in s1 (zL σ s0) ∧ r21 v0 v1 (v2 + 1) (uAi σ s0 (ix s1) (vp_nar .boolean s2))
def wX16_ask_21 (Q : Int32 → St → Prop) (r21 : Nat → Int32 → Int32 → St → Prop) (v0 : Nat) (v1 : Int32) (v2 : Int32) (σ : St) : Prop :=
  (((40 : Int32) ≤ v2 → ∃ f, lX16_ask_51 Q f v0 v1 v1 σ) ∧ (¬ (40 : Int32) ≤ v2 → zK σ v0 = 17 ∧ ∃ a3 : Nat, zFr σ 1058 v0 = some a3 ∧ ((¬ v2 = v1 → wX16_ask_42 Q r21 v0 v1 v2 0 v2 a3 σ) ∧ (v2 = v1 → wX16_ask_42 Q r21 v0 v1 v2 1 v2 a3 σ))))
def lX16_ask_21 (Q : Int32 → St → Prop) : Nat → Nat → Int32 → Int32 → St → Prop
  | 0, _, _, _, _ => False
  | f + 1, v0, v1, v2, σ => wX16_ask_21 Q (lX16_ask_21 Q f) v0 v1 v2 σ
def wX16_ask_0 (Q : Int32 → St → Prop) (v0 : Nat) (v1 : Int32) (σ : St) : Prop :=
  zK σ v0 = 17 ∧ wX16_isQuestion v0 v1 (uFi σ 1024 v0 0) (fun y3 σ2 => ((¬ y3 = 0 → ∃ f, lX16_ask_21 Q f v0 v1 0 σ2) ∧ (y3 = 0 → zK σ2 v0 = 17 ∧ wX16_refused v0 1 σ2 (fun y7 σ6 => Q y7 σ6))))
def wX16_ask (v0 : Nat) (v1 : Int32) (σ : St) (Q : Int32 → St → Prop) : Prop := wX16_ask_0 Q v0 v1 σ
set_option maxRecDepth 20000 in
theorem kwX16_ask_302 {Γ : hCT} (C : hC Γ RX16 cX16_ask ((Option.some FieldType.int)) "ask" 5 140) {Q : Int32 → St → Prop} (hΓ : Γ.2.2.2.2.2.2.2.2.2.2.2 = (6, 0, 0, oI Q)) (hex : hEX Γ (116, 143, 146, 181)) (v0 : Nat) (s1 : Int32) (s0 : Nat) (σ : St) (hb : wX16_ask_302 Q v0 s1 s0 σ) : hW Γ 0 0 302 [(0, .ref v0)] [.int s1, .ref s0] σ := by
  unfold wX16_ask_302 at hb
  obtain ⟨q1, hb⟩ := hb
  obtain ⟨q2, hb⟩ := hb
  refine g_putI C fl_RX16_337 dX16_ask_302 q1 rfl rfl (nz_n q2) (nz_f q2) ?_
  refine g_aload_n (some v0) C dX16_ask_305 0 rfl ?_
  refine g_aload_n (some v0) C dX16_ask_306 0 rfl ?_
  obtain ⟨q3, hb⟩ := hb
  obtain ⟨a4, q5, hb⟩ := hb
  refine g_getR (some a4) C fl_RX16_31 dX16_ask_307 (by rw [zK_uFi]; exact q3) rfl rfl (by rw [zFr_uFi]; exact q5) ?_
  obtain ⟨q6, hb⟩ := hb
  refine g_getIx (zFi (uFi σ 1057 s0 s1) 896 a4) C fl_RX16_35 dX16_ask_310 (by rw [zK_uFi]; exact q6) rfl rfl rfl ?_
  refine g_invV (ci := 16) [.int (zFi (uFi σ 1057 s0 s1) 896 a4)] [] zy_X16_done wd_1013 wd_1015 wd_40 ⟨_, _, rfl⟩ (by decide) C dX16_ask_313 (by first | exact Nat.le_of_ble_eq_true rfl | simp [cat_rf]) (by first | exact Nat.le_of_ble_eq_true rfl | simp [cat_rf]) (by first | exact Nat.le_of_ble_eq_true rfl | simp [cat_rf]) (Nat.zero_le _) (Nat.zero_le _) rfl rfl (by rw [zK_uFi]; exact q3) (okX16_done hb) ?_
  rintro o σ7 ⟨y8, rfl, hb⟩
  refine ⟨_, rfl, ?_⟩
  exact g_ireturn C hΓ (Nat.zero_le _) (Nat.zero_le _) dX16_ask_316 ⟨_, rfl, hb⟩
set_option maxRecDepth 20000 in
theorem kwX16_ask_216 {Γ : hCT} (C : hC Γ RX16 cX16_ask ((Option.some FieldType.int)) "ask" 5 140) {Q : Int32 → St → Prop} (hΓ : Γ.2.2.2.2.2.2.2.2.2.2.2 = (6, 0, 0, oI Q)) (hex : hEX Γ (116, 143, 146, 181)) {r202 : Nat → Int32 → Nat → Int32 → St → Prop} (h202 : ∀ (v0 : Nat) (v1 : Int32) (v2 : Nat) (v3 : Int32) (σ : St), r202 v0 v1 v2 v3 σ → hW Γ 0 0 202 [(0, .ref v0), (1, .int v1), (2, .ref v2), (3, .int v3)] [] σ) {r216 : Nat → Int32 → Nat → Int32 → Int32 → Int32 → St → Prop} (h216 : ∀ (v0 : Nat) (v1 : Int32) (v2 : Nat) (v3 : Int32) (v4 : Int32) (v5 : Int32) (σ : St), r216 v0 v1 v2 v3 v4 v5 σ → hW Γ 0 0 216 [(0, .ref v0), (1, .int v1), (2, .ref v2), (3, .int v3), (4, .int v4), (5, .int v5)] [] σ) (v0 : Nat) (v1 : Int32) (v2 : Nat) (v3 : Int32) (v4 : Int32) (v5 : Int32) (σ : St) (hb : wX16_ask_216 Q r202 r216 v0 v1 v2 v3 v4 v5 σ) : hW Γ 0 0 216 [(0, .ref v0), (1, .int v1), (2, .ref v2), (3, .int v3), (4, .int v4), (5, .int v5)] [] σ := by
  unfold wX16_ask_216 at hb
  refine g_iload C dX16_ask_216 5 rfl ?_
  refine g_aload_n (some v2) C dX16_ask_218 2 rfl ?_
  obtain ⟨q1, hb⟩ := hb
  refine g_getIx (zFi σ 896 v2) C fl_RX16_35 dX16_ask_219 q1 rfl rfl rfl ?_
  refine g_icmp_ge (tgt := 262) C dX16_ask_222 (by decide) (fun c => ?_) (fun c => ?_)
  ·
    replace hb := hb.1 (c)
    refine g_aload_n (some v0) C dX16_ask_262 0 rfl ?_
    obtain ⟨q2, hb⟩ := hb
    obtain ⟨a3, q4, hb⟩ := hb
    refine g_getR (some a3) C fl_RX16_209 dX16_ask_263 q2 rfl rfl q4 ?_
    refine g_iload C dX16_ask_266 4 rfl ?_
    refine g_iconst (v := 1) C dX16_ask_268 (by decide) ?_
    obtain ⟨q5, hb⟩ := hb
    obtain ⟨q6, hb⟩ := hb
    refine g_zast C dX16_ask_269 q5 q6 ?_
    refine g_aload_n (some v0) C dX16_ask_270 0 rfl ?_
    refine g_aload_n (some v2) C dX16_ask_271 2 rfl ?_
    refine g_iload C dX16_ask_272 4 rfl ?_
    refine g_aload_n (some v0) C dX16_ask_274 0 rfl ?_
    obtain ⟨a7, q8, hb⟩ := hb
    refine g_getR (some a7) C fl_RX16_31 dX16_ask_275 (by rw [zK_uAi]; exact q2) rfl rfl (by rw [zFr_uAi]; exact q8) ?_
    refine g_invV (ci := 16) [.ref v2, .int v4, .ref a7] [] zy_X16_copies wd_1458 wd_1460 wd_57 ⟨_, _, rfl⟩ (by decide) C dX16_ask_278 (by first | exact Nat.le_of_ble_eq_true rfl | simp [cat_rf]) (by first | exact Nat.le_of_ble_eq_true rfl | simp [cat_rf]) (by first | exact Nat.le_of_ble_eq_true rfl | simp [cat_rf]) (Nat.zero_le _) (Nat.zero_le _) rfl rfl (by rw [zK_uAi]; exact q2) (okX16_copies hb) ?_
    rintro o σ9 ((⟨rfl, hb⟩) | ⟨x, rfl, hx, hb⟩)
    case inr => exact hb.elim
    refine ⟨_, rfl, ?_⟩
    refine g_iinc (v := v3 + 1) (lv' := [(3, .int (v3 + 1)), (0, .ref v0), (1, .int v1), (2, .ref v2), (4, .int v4), (5, .int v5)]) C dX16_ask_281 3 rfl rfl (hnl_of hΓ (by decide)) (by first | rfl | simp [cat_rf]) ?_
    refine g_goto (tgt := 202) C dX16_ask_284 (by decide) ?_
    refine g_sub (lv' := [(0, .ref v0), (1, .int v1), (2, .ref v2), (3, .int (v3 + 1))]) [1, 2, 3, 0] rfl ?_
    exact h202 _ _ _ _ _ hb
  ·
    replace hb := hb.2 (c)
    refine g_aload_n (some v0) C dX16_ask_225 0 rfl ?_
    obtain ⟨q10, hb⟩ := hb
    obtain ⟨a11, q12, hb⟩ := hb
    refine g_getR (some a11) C fl_RX16_209 dX16_ask_226 q10 rfl rfl q12 ?_
    refine g_iload C dX16_ask_229 5 rfl ?_
    obtain ⟨q13, hb⟩ := hb
    obtain ⟨q14, hb⟩ := hb
    refine g_zaldx (zAi σ a11 (ix v5)) C dX16_ask_231 q13 q14 rfl ?_
    refine g_if_ne (tgt := 256) C dX16_ask_232 (by decide) (fun c => ?_) (fun c => ?_)
    ·
      replace hb := hb.1 (c)
      refine g_iinc (v := v5 + 1) (lv' := [(5, .int (v5 + 1)), (0, .ref v0), (1, .int v1), (2, .ref v2), (3, .int v3), (4, .int v4)]) C dX16_ask_256 5 rfl rfl (hnl_of hΓ (by decide)) (by first | rfl | simp [cat_rf]) ?_
      refine g_goto (tgt := 216) C dX16_ask_259 (by decide) ?_
      refine g_sub (lv' := [(0, .ref v0), (1, .int v1), (2, .ref v2), (3, .int v3), (4, .int v4), (5, .int (v5 + 1))]) [1, 2, 3, 4, 5, 0] rfl ?_
      exact h216 _ _ _ _ _ _ _ hb
    ·
      replace hb := hb.2 (c)
      refine g_iload C dX16_ask_235 4 rfl ?_
      refine g_iconst (v := (-1)) C dX16_ask_237 (by decide) ?_
      refine g_icmp_eq (tgt := 252) C dX16_ask_238 (by decide) (fun c => ?_) (fun c => ?_)
      ·
        replace hb := hb.1 (c)
        refine g_iload C dX16_ask_252 5 rfl ?_
        refine g_istore (lv' := [(4, .int v5), (0, .ref v0), (1, .int v1), (2, .ref v2), (3, .int v3), (5, .int v5)]) C dX16_ask_254 (hnl_of hΓ (by decide)) (by first | rfl | simp [cat_rf]) ?_
        refine g_iinc (v := v5 + 1) (lv' := [(5, .int (v5 + 1)), (4, .int v5), (0, .ref v0), (1, .int v1), (2, .ref v2), (3, .int v3)]) C dX16_ask_256 5 rfl rfl (hnl_of hΓ (by decide)) (by first | rfl | simp [cat_rf]) ?_
        refine g_goto (tgt := 216) C dX16_ask_259 (by decide) ?_
        refine g_sub (lv' := [(0, .ref v0), (1, .int v1), (2, .ref v2), (3, .int v3), (4, .int v5), (5, .int (v5 + 1))]) [2, 3, 4, 5, 1, 0] rfl ?_
        exact h216 _ _ _ _ _ _ _ hb
      ·
        replace hb := hb.2 (c)
        refine g_aload_n (some v2) C dX16_ask_241 2 rfl ?_
        refine g_iload C dX16_ask_242 5 rfl ?_
        refine g_iload C dX16_ask_244 4 rfl ?_
        refine g_invS [.ref v2, .int v5, .int v4] [] zy_X16_isLess wd_1484 wd_1485 C dX16_ask_246 (by first | exact Nat.le_of_ble_eq_true rfl | simp [cat_rf]) (by first | exact Nat.le_of_ble_eq_true rfl | simp [cat_rf]) (by first | exact Nat.le_of_ble_eq_true rfl | simp [cat_rf]) (Nat.zero_le _) (Nat.zero_le _) rfl rfl  (okX16_isLess hb) ?_
        rintro o σ15 ⟨y16, rfl, hb⟩
        refine ⟨_, rfl, ?_⟩
        refine g_if_eq (tgt := 256) C dX16_ask_249 (by decide) (fun c => ?_) (fun c => ?_)
        ·
          replace hb := hb.1 (c)
          refine g_iinc (v := v5 + 1) (lv' := [(5, .int (v5 + 1)), (0, .ref v0), (1, .int v1), (2, .ref v2), (3, .int v3), (4, .int v4)]) C dX16_ask_256 5 rfl rfl (hnl_of hΓ (by decide)) (by first | rfl | simp [cat_rf]) ?_
          refine g_goto (tgt := 216) C dX16_ask_259 (by decide) ?_
          refine g_sub (lv' := [(0, .ref v0), (1, .int v1), (2, .ref v2), (3, .int v3), (4, .int v4), (5, .int (v5 + 1))]) [1, 2, 3, 4, 5, 0] rfl ?_
          exact h216 _ _ _ _ _ _ _ hb
        ·
          replace hb := hb.2 (c)
          refine g_iload C dX16_ask_252 5 rfl ?_
          refine g_istore (lv' := [(4, .int v5), (0, .ref v0), (1, .int v1), (2, .ref v2), (3, .int v3), (5, .int v5)]) C dX16_ask_254 (hnl_of hΓ (by decide)) (by first | rfl | simp [cat_rf]) ?_
          refine g_iinc (v := v5 + 1) (lv' := [(5, .int (v5 + 1)), (4, .int v5), (0, .ref v0), (1, .int v1), (2, .ref v2), (3, .int v3)]) C dX16_ask_256 5 rfl rfl (hnl_of hΓ (by decide)) (by first | rfl | simp [cat_rf]) ?_
          refine g_goto (tgt := 216) C dX16_ask_259 (by decide) ?_
          refine g_sub (lv' := [(0, .ref v0), (1, .int v1), (2, .ref v2), (3, .int v3), (4, .int v5), (5, .int (v5 + 1))]) [2, 3, 4, 5, 1, 0] rfl ?_
          exact h216 _ _ _ _ _ _ _ hb
theorem klX16_ask_216 {Γ : hCT} (C : hC Γ RX16 cX16_ask ((Option.some FieldType.int)) "ask" 5 140) {Q : Int32 → St → Prop} (hΓ : Γ.2.2.2.2.2.2.2.2.2.2.2 = (6, 0, 0, oI Q)) (hex : hEX Γ (116, 143, 146, 181)) {r202 : Nat → Int32 → Nat → Int32 → St → Prop} (h202 : ∀ (v0 : Nat) (v1 : Int32) (v2 : Nat) (v3 : Int32) (σ : St), r202 v0 v1 v2 v3 σ → hW Γ 0 0 202 [(0, .ref v0), (1, .int v1), (2, .ref v2), (3, .int v3)] [] σ) (f : Nat) (v0 : Nat) (v1 : Int32) (v2 : Nat) (v3 : Int32) (v4 : Int32) (v5 : Int32) (σ : St) (hb : lX16_ask_216 Q r202 f v0 v1 v2 v3 v4 v5 σ) : hW Γ 0 0 216 [(0, .ref v0), (1, .int v1), (2, .ref v2), (3, .int v3), (4, .int v4), (5, .int v5)] [] σ := by
  induction f generalizing v0 v1 v2 v3 v4 v5 σ with
  | zero => exact hb.elim
  | succ f ih => exact kwX16_ask_216 C hΓ hex h202 (fun v0 v1 v2 v3 v4 v5 σ h => ih v0 v1 v2 v3 v4 v5 σ h) _ _ _ _ _ _ _ hb
set_option maxRecDepth 20000 in
theorem kwX16_ask_202 {Γ : hCT} (C : hC Γ RX16 cX16_ask ((Option.some FieldType.int)) "ask" 5 140) {Q : Int32 → St → Prop} (hΓ : Γ.2.2.2.2.2.2.2.2.2.2.2 = (6, 0, 0, oI Q)) (hex : hEX Γ (116, 143, 146, 181)) {r202 : Nat → Int32 → Nat → Int32 → St → Prop} (h202 : ∀ (v0 : Nat) (v1 : Int32) (v2 : Nat) (v3 : Int32) (σ : St), r202 v0 v1 v2 v3 σ → hW Γ 0 0 202 [(0, .ref v0), (1, .int v1), (2, .ref v2), (3, .int v3)] [] σ) (v0 : Nat) (v1 : Int32) (v2 : Nat) (v3 : Int32) (σ : St) (hb : wX16_ask_202 Q r202 v0 v1 v2 v3 σ) : hW Γ 0 0 202 [(0, .ref v0), (1, .int v1), (2, .ref v2), (3, .int v3)] [] σ := by
  unfold wX16_ask_202 at hb
  refine g_iload_n C dX16_ask_202 3 rfl ?_
  refine g_aload_n (some v2) C dX16_ask_203 2 rfl ?_
  obtain ⟨q1, hb⟩ := hb
  refine g_getIx (zFi σ 896 v2) C fl_RX16_35 dX16_ask_204 q1 rfl rfl rfl ?_
  refine g_icmp_ge (tgt := 287) C dX16_ask_207 (by decide) (fun c => ?_) (fun c => ?_)
  ·
    replace hb := hb.1 (c)
    refine g_aload_n (some v0) C dX16_ask_287 0 rfl ?_
    refine g_aload_n (some v0) C dX16_ask_288 0 rfl ?_
    obtain ⟨q2, hb⟩ := hb
    obtain ⟨a3, q4, hb⟩ := hb
    refine g_getR (some a3) C fl_RX16_161 dX16_ask_289 q2 rfl rfl q4 ?_
    refine g_iload_n C dX16_ask_292 1 rfl ?_
    obtain ⟨q5, hb⟩ := hb
    obtain ⟨q6, hb⟩ := hb
    refine g_zaldx (zAi σ a3 (ix v1)) C dX16_ask_293 q5 q6 rfl ?_
    refine g_if_ne (tgt := 301) C dX16_ask_294 (by decide) (fun c => ?_) (fun c => ?_)
    ·
      replace hb := hb.1 (c)
      refine g_iconst (v := 0) C dX16_ask_301 (by decide) ?_
      refine g_sub (lv' := [(0, .ref v0)]) [0] rfl ?_
      exact kwX16_ask_302 C hΓ hex  _ _ _ _ hb
    ·
      replace hb := hb.2 (c)
      refine g_iconst (v := 1) C dX16_ask_297 (by decide) ?_
      refine g_goto (tgt := 302) C dX16_ask_298 (by decide) ?_
      refine g_sub (lv' := [(0, .ref v0)]) [0] rfl ?_
      exact kwX16_ask_302 C hΓ hex  _ _ _ _ hb
  ·
    replace hb := hb.2 (c)
    refine g_iconst (v := (-1)) C dX16_ask_210 (by decide) ?_
    refine g_istore (lv' := [(4, .int (-1)), (0, .ref v0), (1, .int v1), (2, .ref v2), (3, .int v3)]) C dX16_ask_211 (hnl_of hΓ (by decide)) (by first | rfl | simp [cat_rf]) ?_
    refine g_iconst (v := 0) C dX16_ask_213 (by decide) ?_
    refine g_istore (lv' := [(5, .int 0), (4, .int (-1)), (0, .ref v0), (1, .int v1), (2, .ref v2), (3, .int v3)]) C dX16_ask_214 (hnl_of hΓ (by decide)) (by first | rfl | simp [cat_rf]) ?_
    refine g_sub (lv' := [(0, .ref v0), (1, .int v1), (2, .ref v2), (3, .int v3), (4, .int (-1)), (5, .int 0)]) [2, 3, 4, 5, 1, 0] rfl ?_
    obtain ⟨f7, hb⟩ := hb
    exact klX16_ask_216 C hΓ hex h202 f7 _ _ _ _ _ _ _ hb
theorem klX16_ask_202 {Γ : hCT} (C : hC Γ RX16 cX16_ask ((Option.some FieldType.int)) "ask" 5 140) {Q : Int32 → St → Prop} (hΓ : Γ.2.2.2.2.2.2.2.2.2.2.2 = (6, 0, 0, oI Q)) (hex : hEX Γ (116, 143, 146, 181)) (f : Nat) (v0 : Nat) (v1 : Int32) (v2 : Nat) (v3 : Int32) (σ : St) (hb : lX16_ask_202 Q f v0 v1 v2 v3 σ) : hW Γ 0 0 202 [(0, .ref v0), (1, .int v1), (2, .ref v2), (3, .int v3)] [] σ := by
  induction f generalizing v0 v1 v2 v3 σ with
  | zero => exact hb.elim
  | succ f ih => exact kwX16_ask_202 C hΓ hex  (fun v0 v1 v2 v3 σ h => ih v0 v1 v2 v3 σ h) _ _ _ _ _ hb
set_option maxRecDepth 20000 in
theorem kwX16_ask_181 {Γ : hCT} (C : hC Γ RX16 cX16_ask ((Option.some FieldType.int)) "ask" 5 140) {Q : Int32 → St → Prop} (hΓ : Γ.2.2.2.2.2.2.2.2.2.2.2 = (6, 0, 0, oI Q)) (hex : hEX Γ (116, 143, 146, 181)) {r181 : Nat → Int32 → Nat → Int32 → St → Prop} (h181 : ∀ (v0 : Nat) (v1 : Int32) (v2 : Nat) (v3 : Int32) (σ : St), r181 v0 v1 v2 v3 σ → hW Γ 0 0 181 [(0, .ref v0), (1, .int v1), (2, .ref v2), (3, .int v3)] [] σ) (v0 : Nat) (v1 : Int32) (v2 : Nat) (v3 : Int32) (σ : St) (hb : wX16_ask_181 Q r181 v0 v1 v2 v3 σ) : hW Γ 0 0 181 [(0, .ref v0), (1, .int v1), (2, .ref v2), (3, .int v3)] [] σ := by
  unfold wX16_ask_181 at hb
  refine g_iload_n C dX16_ask_181 3 rfl ?_
  refine g_bipush (v := 32) C dX16_ask_182 (by decide) ?_
  refine g_icmp_ge (tgt := 200) C dX16_ask_184 (by decide) (fun c => ?_) (fun c => ?_)
  ·
    replace hb := hb.1 (c)
    refine g_iconst (v := 0) C dX16_ask_200 (by decide) ?_
    refine g_istore_n (i := 3) (lv' := [(3, .int 0), (0, .ref v0), (1, .int v1), (2, .ref v2)]) C dX16_ask_201 rfl (hnl_of hΓ (by decide)) (by first | rfl | simp [cat_rf]) ?_
    refine g_sub (lv' := [(0, .ref v0), (1, .int v1), (2, .ref v2), (3, .int 0)]) [1, 2, 3, 0] rfl ?_
    obtain ⟨f1, hb⟩ := hb
    exact klX16_ask_202 C hΓ hex  f1 _ _ _ _ _ hb
  ·
    replace hb := hb.2 (c)
    refine g_aload_n (some v0) C dX16_ask_187 0 rfl ?_
    obtain ⟨q2, hb⟩ := hb
    obtain ⟨a3, q4, hb⟩ := hb
    refine g_getR (some a3) C fl_RX16_209 dX16_ask_188 q2 rfl rfl q4 ?_
    refine g_iload_n C dX16_ask_191 3 rfl ?_
    refine g_iconst (v := 0) C dX16_ask_192 (by decide) ?_
    obtain ⟨q5, hb⟩ := hb
    obtain ⟨q6, hb⟩ := hb
    refine g_zast C dX16_ask_193 q5 q6 ?_
    refine g_iinc (v := v3 + 1) (lv' := [(3, .int (v3 + 1)), (0, .ref v0), (1, .int v1), (2, .ref v2)]) C dX16_ask_194 3 rfl rfl (hnl_of hΓ (by decide)) (by first | rfl | simp [cat_rf]) ?_
    refine g_goto (tgt := 181) C dX16_ask_197 (by decide) ?_
    refine g_sub (lv' := [(0, .ref v0), (1, .int v1), (2, .ref v2), (3, .int (v3 + 1))]) [1, 2, 3, 0] rfl ?_
    exact h181 _ _ _ _ _ hb
theorem klX16_ask_181 {Γ : hCT} (C : hC Γ RX16 cX16_ask ((Option.some FieldType.int)) "ask" 5 140) {Q : Int32 → St → Prop} (hΓ : Γ.2.2.2.2.2.2.2.2.2.2.2 = (6, 0, 0, oI Q)) (hex : hEX Γ (116, 143, 146, 181)) (f : Nat) (v0 : Nat) (v1 : Int32) (v2 : Nat) (v3 : Int32) (σ : St) (hb : lX16_ask_181 Q f v0 v1 v2 v3 σ) : hW Γ 0 0 181 [(0, .ref v0), (1, .int v1), (2, .ref v2), (3, .int v3)] [] σ := by
  induction f generalizing v0 v1 v2 v3 σ with
  | zero => exact hb.elim
  | succ f ih => exact kwX16_ask_181 C hΓ hex  (fun v0 v1 v2 v3 σ h => ih v0 v1 v2 v3 σ h) _ _ _ _ _ hb
set_option maxRecDepth 20000 in
theorem kwX16_ask_118 {Γ : hCT} (C : hC Γ RX16 cX16_ask ((Option.some FieldType.int)) "ask" 5 140) {Q : Int32 → St → Prop} (hΓ : Γ.2.2.2.2.2.2.2.2.2.2.2 = (6, 0, 0, oI Q)) (hex : hEX Γ (116, 143, 146, 181)) {r118 : Nat → Int32 → Int32 → St → Prop} (h118 : ∀ (v0 : Nat) (v1 : Int32) (v2 : Int32) (σ : St), r118 v0 v1 v2 σ → hW Γ 0 0 118 [(0, .ref v0), (1, .int v1), (2, .int v2)] [] σ) (v0 : Nat) (v1 : Int32) (v2 : Int32) (σ : St) (hb : wX16_ask_118 Q r118 v0 v1 v2 σ) : hW Γ 0 0 118 [(0, .ref v0), (1, .int v1), (2, .int v2)] [] σ := by
  unfold wX16_ask_118 at hb
  refine g_iload_n C dX16_ask_118 2 rfl ?_
  refine g_iload_n C dX16_ask_119 1 rfl ?_
  refine g_icmp_gt (tgt := 143) C dX16_ask_120 (by decide) (fun c => ?_) (fun c => ?_)
  ·
    replace hb := hb.1 (c)
    refine g_goto (tgt := 153) C dX16_ask_143 (by decide) ?_
    refine g_aload_n (some v0) C dX16_ask_153 0 rfl ?_
    obtain ⟨q1, hb⟩ := hb
    obtain ⟨a2, q3, hb⟩ := hb
    refine g_getR (some a2) C fl_RX16_188 dX16_ask_154 q1 rfl rfl q3 ?_
    refine g_iload_n C dX16_ask_157 1 rfl ?_
    obtain ⟨q4, hb⟩ := hb
    obtain ⟨q5, hb⟩ := hb
    obtain ⟨a6, q7, hb⟩ := hb
    refine g_aald (some a6) el_30 C dX16_ask_158 q4 q5 q7 ?_
    refine g_astore_n (i := 2) (lv' := [(2, .ref a6), (0, .ref v0), (1, .int v1)]) (some a6) C dX16_ask_159 rfl (hnl_of hΓ (by decide)) (by first | rfl | simp [cat_rf]) ?_
    refine g_aload_n (some v0) C dX16_ask_160 1 rfl ?_
    obtain ⟨a8, q9, hb⟩ := hb
    refine g_getR (some a8) C fl_RX16_31 dX16_ask_161 q1 rfl rfl q9 ?_
    refine g_iconst (v := 0) C dX16_ask_164 (by decide) ?_
    obtain ⟨q10, hb⟩ := hb
    refine g_putI C fl_RX16_35 dX16_ask_165 q10 rfl rfl rfl rfl ?_
    refine g_aload_n (some v0) C dX16_ask_168 1 rfl ?_
    refine g_getR (some a8) C fl_RX16_31 dX16_ask_169 (by rw [zK_uFi]; exact q1) rfl rfl (by rw [zFr_uFi]; exact q9) ?_
    refine g_aload_n (some a6) C dX16_ask_172 0 rfl ?_
    obtain ⟨q11, hb⟩ := hb
    refine g_getIx (zFi (uFi σ 896 a8 0) 897 a6) C fl_RX16_236 dX16_ask_173 (by rw [zK_uFi]; exact q11) rfl rfl rfl ?_
    refine g_putI C fl_RX16_236 dX16_ask_176 (by rw [zK_uFi]; exact q10) rfl rfl rfl rfl ?_
    refine g_iconst (v := 0) C dX16_ask_179 (by decide) ?_
    refine g_istore_n (i := 3) (lv' := [(3, .int 0), (2, .ref a6), (0, .ref v0), (1, .int v1)]) C dX16_ask_180 rfl (hnl_of hΓ (by decide)) (by first | rfl | simp [cat_rf]) ?_
    refine g_sub (lv' := [(0, .ref v0), (1, .int v1), (2, .ref a6), (3, .int 0)]) [2, 3, 1, 0] rfl ?_
    obtain ⟨f12, hb⟩ := hb
    exact klX16_ask_181 C hΓ hex  f12 _ _ _ _ _ hb
  ·
    replace hb := hb.2 (c)
    refine g_aload_n (some v0) C dX16_ask_123 0 rfl ?_
    obtain ⟨q13, hb⟩ := hb
    obtain ⟨a14, q15, hb⟩ := hb
    refine g_getR (some a14) C fl_RX16_206 dX16_ask_124 q13 rfl rfl q15 ?_
    refine g_iload_n C dX16_ask_127 2 rfl ?_
    obtain ⟨q16, hb⟩ := hb
    obtain ⟨q17, hb⟩ := hb
    refine g_zaldx (zAi σ a14 (ix v2)) C dX16_ask_128 q16 q17 rfl ?_
    refine g_if_eq (tgt := 137) C dX16_ask_129 (by decide) (fun c => ?_) (fun c => ?_)
    ·
      replace hb := hb.1 (c)
      refine g_iinc (v := v2 + 1) (lv' := [(2, .int (v2 + 1)), (0, .ref v0), (1, .int v1)]) C dX16_ask_137 2 rfl rfl (hnl_of hΓ (by decide)) (by first | rfl | simp [cat_rf]) ?_
      refine g_goto (tgt := 118) C dX16_ask_140 (by decide) ?_
      refine g_sub (lv' := [(0, .ref v0), (1, .int v1), (2, .int (v2 + 1))]) [1, 2, 0] rfl ?_
      exact h118 _ _ _ _ hb
    ·
      replace hb := hb.2 (c)
      refine g_aload_n (some v0) C dX16_ask_132 0 rfl ?_
      refine g_iload_n C dX16_ask_133 2 rfl ?_
      refine g_invCV (ci := 16) [.int v2] [] zy_X16_works wd_1397 wd_1399 wd_47 ⟨_, _, rfl⟩ (by decide) C dX16_ask_134 (by first | exact Nat.le_of_ble_eq_true rfl | simp [cat_rf]) (by first | exact Nat.le_of_ble_eq_true rfl | simp [cat_rf]) (by first | exact Nat.le_of_ble_eq_true rfl | simp [cat_rf]) (Nat.zero_le _) (Nat.zero_le _) rfl rfl q13 hex (by decide) (by decide) (by decide) wd_1114 wn_1116 (okX16_works hb) ?_
      rintro o σ18 ((⟨rfl, hb⟩) | ⟨x, rfl, hx, hb⟩)
      ·
        refine Or.inl ⟨_, rfl, ?_⟩
        refine g_iinc (v := v2 + 1) (lv' := [(2, .int (v2 + 1)), (0, .ref v0), (1, .int v1)]) C dX16_ask_137 2 rfl rfl (hnl_of hΓ (by decide)) (by first | rfl | simp [cat_rf]) ?_
        refine g_goto (tgt := 118) C dX16_ask_140 (by decide) ?_
        refine g_sub (lv' := [(0, .ref v0), (1, .int v1), (2, .int (v2 + 1))]) [1, 2, 0] rfl ?_
        exact h118 _ _ _ _ hb
      ·
        refine Or.inr ⟨x, rfl, hx, ?_⟩
        refine g_astore_n (i := 2) (lv' := [(2, .ref x), (0, .ref v0), (1, .int v1)]) (some x) C dX16_ask_146 rfl (hnl_of hΓ (by decide)) (by first | rfl | simp [cat_rf]) ?_
        refine g_aload_n (some v0) C dX16_ask_147 1 rfl ?_
        refine g_iconst (v := 5) C dX16_ask_148 (by decide) ?_
        obtain ⟨q19, hb⟩ := hb
        refine g_invV (ci := 16) [.int 5] [] zy_X16_refused wd_1005 wd_1007 wd_38 ⟨_, _, rfl⟩ (by decide) C dX16_ask_149 (by first | exact Nat.le_of_ble_eq_true rfl | simp [cat_rf]) (by first | exact Nat.le_of_ble_eq_true rfl | simp [cat_rf]) (by first | exact Nat.le_of_ble_eq_true rfl | simp [cat_rf]) (Nat.zero_le _) (Nat.zero_le _) rfl rfl q19 (okX16_refused hb) ?_
        rintro o σ20 ⟨y21, rfl, hb⟩
        refine ⟨_, rfl, ?_⟩
        exact g_ireturn C hΓ (Nat.zero_le _) (Nat.zero_le _) dX16_ask_152 ⟨_, rfl, hb⟩
theorem klX16_ask_118 {Γ : hCT} (C : hC Γ RX16 cX16_ask ((Option.some FieldType.int)) "ask" 5 140) {Q : Int32 → St → Prop} (hΓ : Γ.2.2.2.2.2.2.2.2.2.2.2 = (6, 0, 0, oI Q)) (hex : hEX Γ (116, 143, 146, 181)) (f : Nat) (v0 : Nat) (v1 : Int32) (v2 : Int32) (σ : St) (hb : lX16_ask_118 Q f v0 v1 v2 σ) : hW Γ 0 0 118 [(0, .ref v0), (1, .int v1), (2, .int v2)] [] σ := by
  induction f generalizing v0 v1 v2 σ with
  | zero => exact hb.elim
  | succ f ih => exact kwX16_ask_118 C hΓ hex  (fun v0 v1 v2 σ h => ih v0 v1 v2 σ h) _ _ _ _ hb
set_option maxRecDepth 20000 in
theorem kwX16_ask_51 {Γ : hCT} (C : hC Γ RX16 cX16_ask ((Option.some FieldType.int)) "ask" 5 140) {Q : Int32 → St → Prop} (hΓ : Γ.2.2.2.2.2.2.2.2.2.2.2 = (6, 0, 0, oI Q)) (hex : hEX Γ (116, 143, 146, 181)) {r51 : Nat → Int32 → Int32 → St → Prop} (h51 : ∀ (v0 : Nat) (v1 : Int32) (v2 : Int32) (σ : St), r51 v0 v1 v2 σ → hW Γ 0 0 51 [(0, .ref v0), (1, .int v1), (2, .int v2)] [] σ) (v0 : Nat) (v1 : Int32) (v2 : Int32) (σ : St) (hb : wX16_ask_51 Q r51 v0 v1 v2 σ) : hW Γ 0 0 51 [(0, .ref v0), (1, .int v1), (2, .int v2)] [] σ := by
  unfold wX16_ask_51 at hb
  refine g_iload_n C dX16_ask_51 2 rfl ?_
  refine g_if_lt (tgt := 116) C dX16_ask_52 (by decide) (fun c => ?_) (fun c => ?_)
  ·
    replace hb := hb.1 (c)
    refine g_iconst (v := 0) C dX16_ask_116 (by decide) ?_
    refine g_istore_n (i := 2) (lv' := [(2, .int 0), (0, .ref v0), (1, .int v1)]) C dX16_ask_117 rfl (hnl_of hΓ (by decide)) (by first | rfl | simp [cat_rf]) ?_
    refine g_sub (lv' := [(0, .ref v0), (1, .int v1), (2, .int 0)]) [1, 2, 0] rfl ?_
    obtain ⟨f1, hb⟩ := hb
    exact klX16_ask_118 C hΓ hex  f1 _ _ _ _ hb
  ·
    replace hb := hb.2 (c)
    refine g_aload_n (some v0) C dX16_ask_55 0 rfl ?_
    obtain ⟨q2, hb⟩ := hb
    obtain ⟨a3, q4, hb⟩ := hb
    refine g_getR (some a3) C fl_RX16_206 dX16_ask_56 q2 rfl rfl q4 ?_
    refine g_iload_n C dX16_ask_59 2 rfl ?_
    obtain ⟨q5, hb⟩ := hb
    obtain ⟨q6, hb⟩ := hb
    refine g_zaldx (zAi σ a3 (ix v2)) C dX16_ask_60 q5 q6 rfl ?_
    refine g_if_eq (tgt := 110) C dX16_ask_61 (by decide) (fun c => ?_) (fun c => ?_)
    ·
      replace hb := hb.1 (c)
      refine g_iinc (v := v2 + (-1)) (lv' := [(2, .int (v2 + (-1))), (0, .ref v0), (1, .int v1)]) C dX16_ask_110 2 rfl rfl (hnl_of hΓ (by decide)) (by first | rfl | simp [cat_rf]) ?_
      refine g_goto (tgt := 51) C dX16_ask_113 (by decide) ?_
      refine g_sub (lv' := [(0, .ref v0), (1, .int v1), (2, .int (v2 + (-1)))]) [1, 2, 0] rfl ?_
      exact h51 _ _ _ _ hb
    ·
      replace hb := hb.2 (c)
      refine g_aload_n (some v0) C dX16_ask_64 0 rfl ?_
      obtain ⟨a7, q8, hb⟩ := hb
      refine g_getR (some a7) C fl_RX16_137 dX16_ask_65 q2 rfl rfl q8 ?_
      refine g_iload_n C dX16_ask_68 2 rfl ?_
      obtain ⟨q9, hb⟩ := hb
      obtain ⟨q10, hb⟩ := hb
      refine g_ialdx (zAi σ a7 (ix v2)) C dX16_ask_69 q9 q10 rfl ?_
      refine g_if_ne (tgt := 76) C dX16_ask_70 (by decide) (fun c => ?_) (fun c => ?_)
      ·
        replace hb := hb.1 (c)
        refine g_aload_n (some v0) C dX16_ask_76 0 rfl ?_
        refine g_getR (some a3) C fl_RX16_206 dX16_ask_77 q2 rfl rfl q4 ?_
        refine g_aload_n (some v0) C dX16_ask_80 0 rfl ?_
        obtain ⟨a11, q12, hb⟩ := hb
        refine g_getR (some a11) C fl_RX16_140 dX16_ask_81 q2 rfl rfl q12 ?_
        refine g_iload_n C dX16_ask_84 2 rfl ?_
        obtain ⟨q13, hb⟩ := hb
        obtain ⟨q14, hb⟩ := hb
        refine g_ialdx (zAi σ a11 (ix v2)) C dX16_ask_85 q13 q14 rfl ?_
        refine g_iconst (v := 1) C dX16_ask_86 (by decide) ?_
        obtain ⟨q15, hb⟩ := hb
        refine g_zast C dX16_ask_87 q5 q15 ?_
        refine g_aload_n (some v0) C dX16_ask_88 0 rfl ?_
        obtain ⟨a16, q17, hb⟩ := hb
        refine g_getR (some a16) C fl_RX16_143 dX16_ask_89 (by rw [zK_uAi]; exact q2) rfl rfl (by rw [zFr_uAi]; exact q17) ?_
        refine g_iload_n C dX16_ask_92 2 rfl ?_
        obtain ⟨q18, hb⟩ := hb
        obtain ⟨q19, hb⟩ := hb
        refine g_ialdx (zAi (uAi σ a3 (ix (zAi σ a11 (ix v2))) (vp_nar .boolean 1)) a16 (ix v2)) C dX16_ask_93 (by rw [zK_uAi]; exact q18) (by rw [zL_uAi]; exact q19) rfl ?_
        refine g_iconst (v := (-1)) C dX16_ask_94 (by decide) ?_
        refine g_icmp_eq (tgt := 110) C dX16_ask_95 (by decide) (fun c => ?_) (fun c => ?_)
        ·
          replace hb := hb.1 (c)
          refine g_iinc (v := v2 + (-1)) (lv' := [(2, .int (v2 + (-1))), (0, .ref v0), (1, .int v1)]) C dX16_ask_110 2 rfl rfl (hnl_of hΓ (by decide)) (by first | rfl | simp [cat_rf]) ?_
          refine g_goto (tgt := 51) C dX16_ask_113 (by decide) ?_
          refine g_sub (lv' := [(0, .ref v0), (1, .int v1), (2, .int (v2 + (-1)))]) [1, 2, 0] rfl ?_
          exact h51 _ _ _ _ hb
        ·
          replace hb := hb.2 (c)
          refine g_aload_n (some v0) C dX16_ask_98 0 rfl ?_
          refine g_getR (some a3) C fl_RX16_206 dX16_ask_99 (by rw [zK_uAi]; exact q2) rfl rfl (by rw [zFr_uAi]; exact q4) ?_
          refine g_aload_n (some v0) C dX16_ask_102 0 rfl ?_
          refine g_getR (some a16) C fl_RX16_143 dX16_ask_103 (by rw [zK_uAi]; exact q2) rfl rfl (by rw [zFr_uAi]; exact q17) ?_
          refine g_iload_n C dX16_ask_106 2 rfl ?_
          refine g_ialdx (zAi (uAi σ a3 (ix (zAi σ a11 (ix v2))) (vp_nar .boolean 1)) a16 (ix v2)) C dX16_ask_107 (by rw [zK_uAi]; exact q18) (by rw [zL_uAi]; exact q19) rfl ?_
          refine g_iconst (v := 1) C dX16_ask_108 (by decide) ?_
          obtain ⟨q20, hb⟩ := hb
          refine g_zast C dX16_ask_109 (by rw [zK_uAi]; exact q5) (by rw [zL_uAi]; exact q20) ?_
          refine g_iinc (v := v2 + (-1)) (lv' := [(2, .int (v2 + (-1))), (0, .ref v0), (1, .int v1)]) C dX16_ask_110 2 rfl rfl (hnl_of hΓ (by decide)) (by first | rfl | simp [cat_rf]) ?_
          refine g_goto (tgt := 51) C dX16_ask_113 (by decide) ?_
          refine g_sub (lv' := [(0, .ref v0), (1, .int v1), (2, .int (v2 + (-1)))]) [1, 2, 0] rfl ?_
          exact h51 _ _ _ _ hb
      ·
        replace hb := hb.2 (c)
        refine g_goto (tgt := 110) C dX16_ask_73 (by decide) ?_
        refine g_iinc (v := v2 + (-1)) (lv' := [(2, .int (v2 + (-1))), (0, .ref v0), (1, .int v1)]) C dX16_ask_110 2 rfl rfl (hnl_of hΓ (by decide)) (by first | rfl | simp [cat_rf]) ?_
        refine g_goto (tgt := 51) C dX16_ask_113 (by decide) ?_
        refine g_sub (lv' := [(0, .ref v0), (1, .int v1), (2, .int (v2 + (-1)))]) [1, 2, 0] rfl ?_
        exact h51 _ _ _ _ hb
theorem klX16_ask_51 {Γ : hCT} (C : hC Γ RX16 cX16_ask ((Option.some FieldType.int)) "ask" 5 140) {Q : Int32 → St → Prop} (hΓ : Γ.2.2.2.2.2.2.2.2.2.2.2 = (6, 0, 0, oI Q)) (hex : hEX Γ (116, 143, 146, 181)) (f : Nat) (v0 : Nat) (v1 : Int32) (v2 : Int32) (σ : St) (hb : lX16_ask_51 Q f v0 v1 v2 σ) : hW Γ 0 0 51 [(0, .ref v0), (1, .int v1), (2, .int v2)] [] σ := by
  induction f generalizing v0 v1 v2 σ with
  | zero => exact hb.elim
  | succ f ih => exact kwX16_ask_51 C hΓ hex  (fun v0 v1 v2 σ h => ih v0 v1 v2 σ h) _ _ _ _ hb
set_option maxRecDepth 20000 in
theorem kwX16_ask_42 {Γ : hCT} (C : hC Γ RX16 cX16_ask ((Option.some FieldType.int)) "ask" 5 140) {Q : Int32 → St → Prop} (hΓ : Γ.2.2.2.2.2.2.2.2.2.2.2 = (6, 0, 0, oI Q)) (hex : hEX Γ (116, 143, 146, 181)) {r21 : Nat → Int32 → Int32 → St → Prop} (h21 : ∀ (v0 : Nat) (v1 : Int32) (v2 : Int32) (σ : St), r21 v0 v1 v2 σ → hW Γ 0 0 21 [(0, .ref v0), (1, .int v1), (2, .int v2)] [] σ) (v0 : Nat) (v1 : Int32) (v2 : Int32) (s2 : Int32) (s1 : Int32) (s0 : Nat) (σ : St) (hb : wX16_ask_42 Q r21 v0 v1 v2 s2 s1 s0 σ) : hW Γ 0 0 42 [(0, .ref v0), (1, .int v1), (2, .int v2)] [.int s2, .int s1, .ref s0] σ := by
  unfold wX16_ask_42 at hb
  obtain ⟨q1, hb⟩ := hb
  obtain ⟨q2, hb⟩ := hb
  refine g_zast C dX16_ask_42 q1 q2 ?_
  refine g_iinc (v := v2 + 1) (lv' := [(2, .int (v2 + 1)), (0, .ref v0), (1, .int v1)]) C dX16_ask_43 2 rfl rfl (hnl_of hΓ (by decide)) (by first | rfl | simp [cat_rf]) ?_
  refine g_goto (tgt := 21) C dX16_ask_46 (by decide) ?_
  refine g_sub (lv' := [(0, .ref v0), (1, .int v1), (2, .int (v2 + 1))]) [1, 2, 0] rfl ?_
  exact h21 _ _ _ _ hb
set_option maxRecDepth 20000 in
theorem kwX16_ask_21 {Γ : hCT} (C : hC Γ RX16 cX16_ask ((Option.some FieldType.int)) "ask" 5 140) {Q : Int32 → St → Prop} (hΓ : Γ.2.2.2.2.2.2.2.2.2.2.2 = (6, 0, 0, oI Q)) (hex : hEX Γ (116, 143, 146, 181)) {r21 : Nat → Int32 → Int32 → St → Prop} (h21 : ∀ (v0 : Nat) (v1 : Int32) (v2 : Int32) (σ : St), r21 v0 v1 v2 σ → hW Γ 0 0 21 [(0, .ref v0), (1, .int v1), (2, .int v2)] [] σ) (v0 : Nat) (v1 : Int32) (v2 : Int32) (σ : St) (hb : wX16_ask_21 Q r21 v0 v1 v2 σ) : hW Γ 0 0 21 [(0, .ref v0), (1, .int v1), (2, .int v2)] [] σ := by
  unfold wX16_ask_21 at hb
  refine g_iload_n C dX16_ask_21 2 rfl ?_
  refine g_bipush (v := 40) C dX16_ask_22 (by decide) ?_
  refine g_icmp_ge (tgt := 49) C dX16_ask_24 (by decide) (fun c => ?_) (fun c => ?_)
  ·
    replace hb := hb.1 (c)
    refine g_iload_n C dX16_ask_49 1 rfl ?_
    refine g_istore_n (i := 2) (lv' := [(2, .int v1), (0, .ref v0), (1, .int v1)]) C dX16_ask_50 rfl (hnl_of hΓ (by decide)) (by first | rfl | simp [cat_rf]) ?_
    refine g_sub (lv' := [(0, .ref v0), (1, .int v1), (2, .int v1)]) [1, 2, 0] rfl ?_
    obtain ⟨f1, hb⟩ := hb
    exact klX16_ask_51 C hΓ hex  f1 _ _ _ _ hb
  ·
    replace hb := hb.2 (c)
    refine g_aload_n (some v0) C dX16_ask_27 0 rfl ?_
    obtain ⟨q2, hb⟩ := hb
    obtain ⟨a3, q4, hb⟩ := hb
    refine g_getR (some a3) C fl_RX16_206 dX16_ask_28 q2 rfl rfl q4 ?_
    refine g_iload_n C dX16_ask_31 2 rfl ?_
    refine g_iload_n C dX16_ask_32 2 rfl ?_
    refine g_iload_n C dX16_ask_33 1 rfl ?_
    refine g_icmp_ne (tgt := 41) C dX16_ask_34 (by decide) (fun c => ?_) (fun c => ?_)
    ·
      replace hb := hb.1 (c)
      refine g_iconst (v := 0) C dX16_ask_41 (by decide) ?_
      refine g_sub (lv' := [(0, .ref v0), (1, .int v1), (2, .int v2)]) [0, 1, 2] rfl ?_
      exact kwX16_ask_42 C hΓ hex h21 _ _ _ _ _ _ _ hb
    ·
      replace hb := hb.2 (c)
      refine g_iconst (v := 1) C dX16_ask_37 (by decide) ?_
      refine g_goto (tgt := 42) C dX16_ask_38 (by decide) ?_
      refine g_sub (lv' := [(0, .ref v0), (1, .int v1), (2, .int v2)]) [0, 1, 2] rfl ?_
      exact kwX16_ask_42 C hΓ hex h21 _ _ _ _ _ _ _ hb
theorem klX16_ask_21 {Γ : hCT} (C : hC Γ RX16 cX16_ask ((Option.some FieldType.int)) "ask" 5 140) {Q : Int32 → St → Prop} (hΓ : Γ.2.2.2.2.2.2.2.2.2.2.2 = (6, 0, 0, oI Q)) (hex : hEX Γ (116, 143, 146, 181)) (f : Nat) (v0 : Nat) (v1 : Int32) (v2 : Int32) (σ : St) (hb : lX16_ask_21 Q f v0 v1 v2 σ) : hW Γ 0 0 21 [(0, .ref v0), (1, .int v1), (2, .int v2)] [] σ := by
  induction f generalizing v0 v1 v2 σ with
  | zero => exact hb.elim
  | succ f ih => exact kwX16_ask_21 C hΓ hex  (fun v0 v1 v2 σ h => ih v0 v1 v2 σ h) _ _ _ _ hb
set_option maxRecDepth 20000 in
theorem kwX16_ask_0 {Γ : hCT} (C : hC Γ RX16 cX16_ask ((Option.some FieldType.int)) "ask" 5 140) {Q : Int32 → St → Prop} (hΓ : Γ.2.2.2.2.2.2.2.2.2.2.2 = (6, 0, 0, oI Q)) (hex : hEX Γ (116, 143, 146, 181)) (v0 : Nat) (v1 : Int32) (σ : St) (hb : wX16_ask_0 Q v0 v1 σ) : hW Γ 0 0 0 [(0, .ref v0), (1, .int v1)] [] σ := by
  unfold wX16_ask_0 at hb
  refine g_aload_n (some v0) C dX16_ask_0 0 rfl ?_
  refine g_iconst (v := 0) C dX16_ask_1 (by decide) ?_
  obtain ⟨q1, hb⟩ := hb
  refine g_putI C fl_RX16_1 dX16_ask_2 q1 rfl rfl rfl rfl ?_
  refine g_aload_n (some v0) C dX16_ask_5 0 rfl ?_
  refine g_iload_n C dX16_ask_6 1 rfl ?_
  refine g_invV (ci := 16) [.int v1] [] zy_X16_isQuestion wd_1072 wd_1074 wd_45 ⟨_, _, rfl⟩ (by decide) C dX16_ask_7 (by first | exact Nat.le_of_ble_eq_true rfl | simp [cat_rf]) (by first | exact Nat.le_of_ble_eq_true rfl | simp [cat_rf]) (by first | exact Nat.le_of_ble_eq_true rfl | simp [cat_rf]) (Nat.zero_le _) (Nat.zero_le _) rfl rfl (by rw [zK_uFi]; exact q1) (okX16_isQuestion hb) ?_
  rintro o σ2 ⟨y3, rfl, hb⟩
  refine ⟨_, rfl, ?_⟩
  refine g_if_ne (tgt := 19) C dX16_ask_10 (by decide) (fun c => ?_) (fun c => ?_)
  ·
    replace hb := hb.1 (c)
    refine g_iconst (v := 0) C dX16_ask_19 (by decide) ?_
    refine g_istore_n (i := 2) (lv' := [(2, .int 0), (0, .ref v0), (1, .int v1)]) C dX16_ask_20 rfl (hnl_of hΓ (by decide)) (by first | rfl | simp [cat_rf]) ?_
    refine g_sub (lv' := [(0, .ref v0), (1, .int v1), (2, .int 0)]) [1, 2, 0] rfl ?_
    obtain ⟨f4, hb⟩ := hb
    exact klX16_ask_21 C hΓ hex  f4 _ _ _ _ hb
  ·
    replace hb := hb.2 (c)
    refine g_aload_n (some v0) C dX16_ask_13 0 rfl ?_
    refine g_iconst (v := 1) C dX16_ask_14 (by decide) ?_
    obtain ⟨q5, hb⟩ := hb
    refine g_invV (ci := 16) [.int 1] [] zy_X16_refused wd_1005 wd_1007 wd_38 ⟨_, _, rfl⟩ (by decide) C dX16_ask_15 (by first | exact Nat.le_of_ble_eq_true rfl | simp [cat_rf]) (by first | exact Nat.le_of_ble_eq_true rfl | simp [cat_rf]) (by first | exact Nat.le_of_ble_eq_true rfl | simp [cat_rf]) (Nat.zero_le _) (Nat.zero_le _) rfl rfl q5 (okX16_refused hb) ?_
    rintro o σ6 ⟨y7, rfl, hb⟩
    refine ⟨_, rfl, ?_⟩
    exact g_ireturn C hΓ (Nat.zero_le _) (Nat.zero_le _) dX16_ask_18 ⟨_, rfl, hb⟩
theorem okX16_ask {v0 : Nat} {v1 : Int32} {σ : St} {Q : Int32 → St → Prop} (hb : wX16_ask v0 v1 σ Q) : hMW yX16_ask cX16_ask 6 ((Option.some FieldType.int)) [(116, 143, 146, 181)] 5 140 0 0 [.ref v0, .int v1] σ (oI Q) :=
  hMW_of (by decide) (Nat.le_of_ble_eq_true rfl) (fun Γ hΓ C hex => kwX16_ask_0 C hΓ hex _ _ _ hb)
def wX16_isAnswer_0 (Q : Int32 → St → Prop) (v0 : Nat) (v1 : Int32) (σ : St) : Prop :=
  ((v1 < 0 → Q 0 σ) ∧ (¬ v1 < 0 → zK σ v0 = 17 ∧ ∃ a2 : Nat, zFr σ 1050 v0 = some a2 ∧ zK σ a2 = 15 ∧ (((zFi σ 896 a2) ≤ v1 → Q 0 σ) ∧ (¬ (zFi σ 896 a2) ≤ v1 → Q 1 σ))))
def wX16_isAnswer (v0 : Nat) (v1 : Int32) (σ : St) (Q : Int32 → St → Prop) : Prop := wX16_isAnswer_0 Q v0 v1 σ
set_option maxRecDepth 20000 in
theorem kwX16_isAnswer_0 {Γ : hCT} (C : hC Γ RX16 cX16_isAnswer ((Option.some FieldType.boolean)) "isAnswer" 0 0) {Q : Int32 → St → Prop} (hΓ : Γ.2.2.2.2.2.2.2.2.2.2.2 = (2, 0, 0, oI Q)) (v0 : Nat) (v1 : Int32) (σ : St) (hb : wX16_isAnswer_0 Q v0 v1 σ) : hW Γ 0 0 0 [(0, .ref v0), (1, .int v1)] [] σ := by
  unfold wX16_isAnswer_0 at hb
  refine g_iload_n C dX16_isAnswer_0 1 rfl ?_
  refine g_if_lt (tgt := 19) C dX16_isAnswer_1 (by decide) (fun c => ?_) (fun c => ?_)
  ·
    replace hb := hb.1 (c)
    refine g_iconst (v := 0) C dX16_isAnswer_19 (by decide) ?_
    exact g_zreturn C (by decide) hΓ (Nat.zero_le _) (Nat.zero_le _) dX16_isAnswer_20 ⟨_, rfl, hb⟩
  ·
    replace hb := hb.2 (c)
    refine g_iload_n C dX16_isAnswer_4 1 rfl ?_
    refine g_aload_n (some v0) C dX16_isAnswer_5 0 rfl ?_
    obtain ⟨q1, hb⟩ := hb
    obtain ⟨a2, q3, hb⟩ := hb
    refine g_getR (some a2) C fl_RX16_31 dX16_isAnswer_6 q1 rfl rfl q3 ?_
    obtain ⟨q4, hb⟩ := hb
    refine g_getIx (zFi σ 896 a2) C fl_RX16_35 dX16_isAnswer_9 q4 rfl rfl rfl ?_
    refine g_icmp_ge (tgt := 19) C dX16_isAnswer_12 (by decide) (fun c => ?_) (fun c => ?_)
    ·
      replace hb := hb.1 (c)
      refine g_iconst (v := 0) C dX16_isAnswer_19 (by decide) ?_
      exact g_zreturn C (by decide) hΓ (Nat.zero_le _) (Nat.zero_le _) dX16_isAnswer_20 ⟨_, rfl, hb⟩
    ·
      replace hb := hb.2 (c)
      refine g_iconst (v := 1) C dX16_isAnswer_15 (by decide) ?_
      refine g_goto (tgt := 20) C dX16_isAnswer_16 (by decide) ?_
      exact g_zreturn C (by decide) hΓ (Nat.zero_le _) (Nat.zero_le _) dX16_isAnswer_20 ⟨_, rfl, hb⟩
theorem okX16_isAnswer {v0 : Nat} {v1 : Int32} {σ : St} {Q : Int32 → St → Prop} (hb : wX16_isAnswer v0 v1 σ Q) : hM yX16_isAnswer cX16_isAnswer 2 ((Option.some FieldType.boolean)) 0 0 0 0 [.ref v0, .int v1] σ (oI Q) :=
  hM_of (by decide) (Nat.le_of_ble_eq_true rfl) (fun Γ hΓ C => kwX16_isAnswer_0 C hΓ _ _ _ hb)
