def wX4_melt_100 (Q : Int32 → St → Prop) (r83 : Nat → Nat → Int32 → St → Prop) (r100 : Nat → Nat → Int32 → Int32 → St → Prop) (v0 : Nat) (v1 : Nat) (v2 : Int32) (v3 : Int32) (σ : St) : Prop :=
  zK σ v0 = 5 ∧ ∃ a2 : Nat, zFr σ 260 v0 = some a2 ∧ zK σ a2 = 4 ∧ (((zFi σ 193 a2) ≤ v3 → ∃ a5 : Nat, zFr σ 259 v0 = some a5 ∧ zK σ v1 = 4 ∧ ∃ a8 : Nat, zFr σ 192 v1 = some a8 ∧ zK σ a8 = 25 ∧ vp_in v2 (zL σ a8) ∧ ∃ a12 : Nat, zAr σ a8 (ix v2) = some a12 ∧ zK σ a5 = 8 ∧ wX7_giveAll a5 a12 σ (fun y16 σ15 => ((¬ y16 = 0 → r83 v0 v1 (v2 + 1) σ15) ∧ (y16 = 0 → Q 0 σ15)))) ∧ (¬ (zFi σ 193 a2) ≤ v3 → ∃ a17 : Nat, zFr σ 262 v0 = some a17 ∧ zK σ a17 = 20 ∧ vp_in v3 (zL σ a17) ∧ ((¬ (zAi σ a17 (ix v3)) = v2 → r100 v0 v1 v2 (v3 + 1) σ) ∧ ((zAi σ a17 (ix v3)) = v2 → ∃ a21 : Nat, zFr σ 259 v0 = some a21 ∧ ∃ a23 : Nat, zFr σ 192 a2 = some a23 ∧ zK σ a23 = 25 ∧ vp_in v3 (zL σ a23) ∧ ∃ a27 : Nat, zAr σ a23 (ix v3) = some a27 ∧ zK σ a21 = 8 ∧ wX7_addWays a21 a27 σ (fun σ30 => zK σ30 v0 = 5 ∧ ∃ a32 : Nat, zFr σ30 259 v0 = some a32 ∧ ∃ a34 : Nat, zFr σ30 260 v0 = some a34 ∧ zK σ30 a34 = 4 ∧ ∃ a37 : Nat, zFr σ30 192 a34 = some a37 ∧ zK σ30 a37 = 25 ∧ vp_in v3 (zL σ30 a37) ∧ ∃ a41 : Nat, zAr σ30 a37 (ix v3) = some a41 ∧ zK σ30 a32 = 8 ∧ wX7_addReadings a32 a41 σ30 (fun σ44 => r100 v0 v1 v2 (v3 + 1) σ44))))))
def lX4_melt_100 (Q : Int32 → St → Prop) (r83 : Nat → Nat → Int32 → St → Prop) : Nat → Nat → Nat → Int32 → Int32 → St → Prop
  | 0, _, _, _, _, _ => False
  | f + 1, v0, v1, v2, v3, σ => wX4_melt_100 Q r83 (lX4_melt_100 Q r83 f) v0 v1 v2 v3 σ
def wX4_melt_83 (Q : Int32 → St → Prop) (r83 : Nat → Nat → Int32 → St → Prop) (v0 : Nat) (v1 : Nat) (v2 : Int32) (σ : St) : Prop :=
  zK σ v1 = 4 ∧ (((zFi σ 193 v1) ≤ v2 → Q 1 σ) ∧ (¬ (zFi σ 193 v1) ≤ v2 → zK σ v0 = 5 ∧ ∃ a3 : Nat, zFr σ 259 v0 = some a3 ∧ zK σ a3 = 8 ∧ wX7_clear a3 σ (fun σ6 => ∃ f, lX4_melt_100 Q r83 f v0 v1 v2 0 σ6)))
def lX4_melt_83 (Q : Int32 → St → Prop) : Nat → Nat → Nat → Int32 → St → Prop
  | 0, _, _, _, _ => False
  | f + 1, v0, v1, v2, σ => wX4_melt_83 Q (lX4_melt_83 Q f) v0 v1 v2 σ
def wX4_melt_42 (Q : Int32 → St → Prop) (r42 : Nat → Nat → Int32 → St → Prop) (v0 : Nat) (v1 : Nat) (v2 : Int32) (σ : St) : Prop :=
  zK σ v0 = 5 ∧ ∃ a2 : Nat, zFr σ 260 v0 = some a2 ∧ zK σ a2 = 4 ∧ (((zFi σ 193 a2) ≤ v2 → ∃ f, lX4_melt_83 Q f v0 v1 0 σ) ∧ (¬ (zFi σ 193 a2) ≤ v2 → ∃ a6 : Nat, zFr σ 262 v0 = some a6 ∧ ∃ a8 : Nat, zFr σ 192 a2 = some a8 ∧ zK σ a8 = 25 ∧ vp_in v2 (zL σ a8) ∧ ∃ a12 : Nat, zAr σ a8 (ix v2) = some a12 ∧ zK σ a12 = 3 ∧ ∃ a15 : Nat, zFr σ 128 a12 = some a15 ∧ zK σ v1 = 4 ∧ wX3_spot v1 a15 σ (fun y19 σ18 => zK σ18 a6 = 20 ∧ vp_in v2 (zL σ18 a6) ∧ r42 v0 v1 (v2 + 1) (uAi σ18 a6 (ix v2) y19))))
def lX4_melt_42 (Q : Int32 → St → Prop) : Nat → Nat → Nat → Int32 → St → Prop
  | 0, _, _, _, _ => False
  | f + 1, v0, v1, v2, σ => wX4_melt_42 Q (lX4_melt_42 Q f) v0 v1 v2 σ
def wX4_melt_2 (Q : Int32 → St → Prop) (r2 : Nat → Nat → Int32 → St → Prop) (v0 : Nat) (v1 : Nat) (v2 : Int32) (σ : St) : Prop :=
  zK σ v0 = 5 ∧ ∃ a2 : Nat, zFr σ 260 v0 = some a2 ∧ zK σ a2 = 4 ∧ (((zFi σ 193 a2) ≤ v2 → ∃ f, lX4_melt_42 Q f v0 v1 0 σ) ∧ (¬ (zFi σ 193 a2) ≤ v2 → ∃ a6 : Nat, zFr σ 192 a2 = some a6 ∧ zK σ a6 = 25 ∧ vp_in v2 (zL σ a6) ∧ ∃ a10 : Nat, zAr σ a6 (ix v2) = some a10 ∧ zK σ a10 = 3 ∧ ∃ a13 : Nat, zFr σ 128 a10 = some a13 ∧ zK σ v1 = 4 ∧ wX3_insert v1 a13 σ (fun y17 σ16 => ((¬ y17 = 0 → r2 v0 v1 (v2 + 1) σ16) ∧ (y17 = 0 → Q 0 σ16)))))
def lX4_melt_2 (Q : Int32 → St → Prop) : Nat → Nat → Nat → Int32 → St → Prop
  | 0, _, _, _, _ => False
  | f + 1, v0, v1, v2, σ => wX4_melt_2 Q (lX4_melt_2 Q f) v0 v1 v2 σ
def wX4_melt_0 (Q : Int32 → St → Prop) (v0 : Nat) (v1 : Nat) (σ : St) : Prop :=
  ∃ f, lX4_melt_2 Q f v0 v1 0 σ
def wX4_melt (v0 : Nat) (v1 : Nat) (σ : St) (Q : Int32 → St → Prop) : Prop := wX4_melt_0 Q v0 v1 σ
set_option maxRecDepth 20000 in
theorem kwX4_melt_100 {Γ : hCT} (C : hC Γ RX4 cX4_melt ((Option.some FieldType.boolean)) "melt" 3 105) {Q : Int32 → St → Prop} (hΓ : Γ.2.2.2.2.2.2.2.2.2.2.2 = (4, 0, 0, oI Q)) {r83 : Nat → Nat → Int32 → St → Prop} (h83 : ∀ (v0 : Nat) (v1 : Nat) (v2 : Int32) (σ : St), r83 v0 v1 v2 σ → hW Γ 0 0 83 [(0, .ref v0), (1, .ref v1), (2, .int v2)] [] σ) {r100 : Nat → Nat → Int32 → Int32 → St → Prop} (h100 : ∀ (v0 : Nat) (v1 : Nat) (v2 : Int32) (v3 : Int32) (σ : St), r100 v0 v1 v2 v3 σ → hW Γ 0 0 100 [(0, .ref v0), (1, .ref v1), (2, .int v2), (3, .int v3)] [] σ) (v0 : Nat) (v1 : Nat) (v2 : Int32) (v3 : Int32) (σ : St) (hb : wX4_melt_100 Q r83 r100 v0 v1 v2 v3 σ) : hW Γ 0 0 100 [(0, .ref v0), (1, .ref v1), (2, .int v2), (3, .int v3)] [] σ := by
  unfold wX4_melt_100 at hb
  refine g_iload_n C dX4_melt_100 3 rfl ?_
  refine g_aload_n (some v0) C dX4_melt_101 0 rfl ?_
  obtain ⟨q1, hb⟩ := hb
  obtain ⟨a2, q3, hb⟩ := hb
  refine g_getR (some a2) C fl_RX4_27 dX4_melt_102 q1 rfl rfl q3 ?_
  obtain ⟨q4, hb⟩ := hb
  refine g_getIx (zFi σ 193 a2) C fl_RX4_127 dX4_melt_105 q4 rfl rfl rfl ?_
  refine g_icmp_ge (tgt := 159) C dX4_melt_108 (by decide) (fun c => ?_) (fun c => ?_)
  ·
    replace hb := hb.1 (c)
    refine g_aload_n (some v0) C dX4_melt_159 0 rfl ?_
    obtain ⟨a5, q6, hb⟩ := hb
    refine g_getR (some a5) C fl_RX4_20 dX4_melt_160 q1 rfl rfl q6 ?_
    refine g_aload_n (some v1) C dX4_melt_163 1 rfl ?_
    obtain ⟨q7, hb⟩ := hb
    obtain ⟨a8, q9, hb⟩ := hb
    refine g_getR (some a8) C fl_RX4_130 dX4_melt_164 q7 rfl rfl q9 ?_
    refine g_iload_n C dX4_melt_167 2 rfl ?_
    obtain ⟨q10, hb⟩ := hb
    obtain ⟨q11, hb⟩ := hb
    obtain ⟨a12, q13, hb⟩ := hb
    refine g_aald (some a12) el_25 C dX4_melt_168 q10 q11 q13 ?_
    obtain ⟨q14, hb⟩ := hb
    refine g_invV (ci := 7) [.ref a12] [] zy_X7_giveAll wd_657 wd_658 wd_659 ⟨_, _, rfl⟩ (by decide) C dX4_melt_169 (by first | exact Nat.le_of_ble_eq_true rfl | simp [cat_rf]) (by first | exact Nat.le_of_ble_eq_true rfl | simp [cat_rf]) (by first | exact Nat.le_of_ble_eq_true rfl | simp [cat_rf]) (Nat.zero_le _) (Nat.zero_le _) rfl rfl q14 (okX7_giveAll hb) ?_
    rintro o σ15 ⟨y16, rfl, hb⟩
    refine ⟨_, rfl, ?_⟩
    refine g_if_ne (tgt := 177) C dX4_melt_172 (by decide) (fun c => ?_) (fun c => ?_)
    ·
      replace hb := hb.1 (c)
      refine g_iinc (v := v2 + 1) (lv' := [(2, .int (v2 + 1)), (0, .ref v0), (1, .ref v1), (3, .int v3)]) C dX4_melt_177 2 rfl rfl (hnl_of hΓ (by decide)) (by first | rfl | simp [cat_rf]) ?_
      refine g_goto (tgt := 83) C dX4_melt_180 (by decide) ?_
      refine g_sub (lv' := [(0, .ref v0), (1, .ref v1), (2, .int (v2 + 1))]) [1, 2, 0] rfl ?_
      exact h83 _ _ _ _ hb
    ·
      replace hb := hb.2 (c)
      refine g_iconst (v := 0) C dX4_melt_175 (by decide) ?_
      exact g_zreturn C (by decide) hΓ (Nat.zero_le _) (Nat.zero_le _) dX4_melt_176 ⟨_, rfl, hb⟩
  ·
    replace hb := hb.2 (c)
    refine g_aload_n (some v0) C dX4_melt_111 0 rfl ?_
    obtain ⟨a17, q18, hb⟩ := hb
    refine g_getR (some a17) C fl_RX4_34 dX4_melt_112 q1 rfl rfl q18 ?_
    refine g_iload_n C dX4_melt_115 3 rfl ?_
    obtain ⟨q19, hb⟩ := hb
    obtain ⟨q20, hb⟩ := hb
    refine g_ialdx (zAi σ a17 (ix v3)) C dX4_melt_116 q19 q20 rfl ?_
    refine g_iload_n C dX4_melt_117 2 rfl ?_
    refine g_icmp_ne (tgt := 153) C dX4_melt_118 (by decide) (fun c => ?_) (fun c => ?_)
    ·
      replace hb := hb.1 (c)
      refine g_iinc (v := v3 + 1) (lv' := [(3, .int (v3 + 1)), (0, .ref v0), (1, .ref v1), (2, .int v2)]) C dX4_melt_153 3 rfl rfl (hnl_of hΓ (by decide)) (by first | rfl | simp [cat_rf]) ?_
      refine g_goto (tgt := 100) C dX4_melt_156 (by decide) ?_
      refine g_sub (lv' := [(0, .ref v0), (1, .ref v1), (2, .int v2), (3, .int (v3 + 1))]) [1, 2, 3, 0] rfl ?_
      exact h100 _ _ _ _ _ hb
    ·
      replace hb := hb.2 (c)
      refine g_aload_n (some v0) C dX4_melt_121 0 rfl ?_
      obtain ⟨a21, q22, hb⟩ := hb
      refine g_getR (some a21) C fl_RX4_20 dX4_melt_122 q1 rfl rfl q22 ?_
      refine g_aload_n (some v0) C dX4_melt_125 0 rfl ?_
      refine g_getR (some a2) C fl_RX4_27 dX4_melt_126 q1 rfl rfl q3 ?_
      obtain ⟨a23, q24, hb⟩ := hb
      refine g_getR (some a23) C fl_RX4_130 dX4_melt_129 q4 rfl rfl q24 ?_
      refine g_iload_n C dX4_melt_132 3 rfl ?_
      obtain ⟨q25, hb⟩ := hb
      obtain ⟨q26, hb⟩ := hb
      obtain ⟨a27, q28, hb⟩ := hb
      refine g_aald (some a27) el_25 C dX4_melt_133 q25 q26 q28 ?_
      obtain ⟨q29, hb⟩ := hb
      refine g_invV (ci := 7) [.ref a27] [] zy_X7_addWays wd_640 wd_641 wd_642 ⟨_, _, rfl⟩ (by decide) C dX4_melt_134 (by first | exact Nat.le_of_ble_eq_true rfl | simp [cat_rf]) (by first | exact Nat.le_of_ble_eq_true rfl | simp [cat_rf]) (by first | exact Nat.le_of_ble_eq_true rfl | simp [cat_rf]) (Nat.zero_le _) (Nat.zero_le _) rfl rfl q29 (okX7_addWays hb) ?_
      rintro o σ30 ⟨rfl, hb⟩
      refine ⟨_, rfl, ?_⟩
      refine g_aload_n (some v0) C dX4_melt_137 0 rfl ?_
      obtain ⟨q31, hb⟩ := hb
      obtain ⟨a32, q33, hb⟩ := hb
      refine g_getR (some a32) C fl_RX4_20 dX4_melt_138 q31 rfl rfl q33 ?_
      refine g_aload_n (some v0) C dX4_melt_141 0 rfl ?_
      obtain ⟨a34, q35, hb⟩ := hb
      refine g_getR (some a34) C fl_RX4_27 dX4_melt_142 q31 rfl rfl q35 ?_
      obtain ⟨q36, hb⟩ := hb
      obtain ⟨a37, q38, hb⟩ := hb
      refine g_getR (some a37) C fl_RX4_130 dX4_melt_145 q36 rfl rfl q38 ?_
      refine g_iload_n C dX4_melt_148 3 rfl ?_
      obtain ⟨q39, hb⟩ := hb
      obtain ⟨q40, hb⟩ := hb
      obtain ⟨a41, q42, hb⟩ := hb
      refine g_aald (some a41) el_25 C dX4_melt_149 q39 q40 q42 ?_
      obtain ⟨q43, hb⟩ := hb
      refine g_invV (ci := 7) [.ref a41] [] zy_X7_addReadings wd_649 wd_650 wd_651 ⟨_, _, rfl⟩ (by decide) C dX4_melt_150 (by first | exact Nat.le_of_ble_eq_true rfl | simp [cat_rf]) (by first | exact Nat.le_of_ble_eq_true rfl | simp [cat_rf]) (by first | exact Nat.le_of_ble_eq_true rfl | simp [cat_rf]) (Nat.zero_le _) (Nat.zero_le _) rfl rfl q43 (okX7_addReadings hb) ?_
      rintro o σ44 ⟨rfl, hb⟩
      refine ⟨_, rfl, ?_⟩
      refine g_iinc (v := v3 + 1) (lv' := [(3, .int (v3 + 1)), (0, .ref v0), (1, .ref v1), (2, .int v2)]) C dX4_melt_153 3 rfl rfl (hnl_of hΓ (by decide)) (by first | rfl | simp [cat_rf]) ?_
      refine g_goto (tgt := 100) C dX4_melt_156 (by decide) ?_
      refine g_sub (lv' := [(0, .ref v0), (1, .ref v1), (2, .int v2), (3, .int (v3 + 1))]) [1, 2, 3, 0] rfl ?_
      exact h100 _ _ _ _ _ hb
theorem klX4_melt_100 {Γ : hCT} (C : hC Γ RX4 cX4_melt ((Option.some FieldType.boolean)) "melt" 3 105) {Q : Int32 → St → Prop} (hΓ : Γ.2.2.2.2.2.2.2.2.2.2.2 = (4, 0, 0, oI Q)) {r83 : Nat → Nat → Int32 → St → Prop} (h83 : ∀ (v0 : Nat) (v1 : Nat) (v2 : Int32) (σ : St), r83 v0 v1 v2 σ → hW Γ 0 0 83 [(0, .ref v0), (1, .ref v1), (2, .int v2)] [] σ) (f : Nat) (v0 : Nat) (v1 : Nat) (v2 : Int32) (v3 : Int32) (σ : St) (hb : lX4_melt_100 Q r83 f v0 v1 v2 v3 σ) : hW Γ 0 0 100 [(0, .ref v0), (1, .ref v1), (2, .int v2), (3, .int v3)] [] σ := by
  induction f generalizing v0 v1 v2 v3 σ with
  | zero => exact hb.elim
  | succ f ih => exact kwX4_melt_100 C hΓ h83 (fun v0 v1 v2 v3 σ h => ih v0 v1 v2 v3 σ h) _ _ _ _ _ hb
set_option maxRecDepth 20000 in
theorem kwX4_melt_83 {Γ : hCT} (C : hC Γ RX4 cX4_melt ((Option.some FieldType.boolean)) "melt" 3 105) {Q : Int32 → St → Prop} (hΓ : Γ.2.2.2.2.2.2.2.2.2.2.2 = (4, 0, 0, oI Q)) {r83 : Nat → Nat → Int32 → St → Prop} (h83 : ∀ (v0 : Nat) (v1 : Nat) (v2 : Int32) (σ : St), r83 v0 v1 v2 σ → hW Γ 0 0 83 [(0, .ref v0), (1, .ref v1), (2, .int v2)] [] σ) (v0 : Nat) (v1 : Nat) (v2 : Int32) (σ : St) (hb : wX4_melt_83 Q r83 v0 v1 v2 σ) : hW Γ 0 0 83 [(0, .ref v0), (1, .ref v1), (2, .int v2)] [] σ := by
  unfold wX4_melt_83 at hb
  refine g_iload_n C dX4_melt_83 2 rfl ?_
  refine g_aload_n (some v1) C dX4_melt_84 1 rfl ?_
  obtain ⟨q1, hb⟩ := hb
  refine g_getIx (zFi σ 193 v1) C fl_RX4_127 dX4_melt_85 q1 rfl rfl rfl ?_
  refine g_icmp_ge (tgt := 183) C dX4_melt_88 (by decide) (fun c => ?_) (fun c => ?_)
  ·
    replace hb := hb.1 (c)
    refine g_iconst (v := 1) C dX4_melt_183 (by decide) ?_
    exact g_zreturn C (by decide) hΓ (Nat.zero_le _) (Nat.zero_le _) dX4_melt_184 ⟨_, rfl, hb⟩
  ·
    replace hb := hb.2 (c)
    refine g_aload_n (some v0) C dX4_melt_91 0 rfl ?_
    obtain ⟨q2, hb⟩ := hb
    obtain ⟨a3, q4, hb⟩ := hb
    refine g_getR (some a3) C fl_RX4_20 dX4_melt_92 q2 rfl rfl q4 ?_
    obtain ⟨q5, hb⟩ := hb
    refine g_invV (ci := 7) [] [] zy_X7_clear wd_635 wd_636 wd_637 ⟨_, _, rfl⟩ (by decide) C dX4_melt_95 (by first | exact Nat.le_of_ble_eq_true rfl | simp [cat_rf]) (by first | exact Nat.le_of_ble_eq_true rfl | simp [cat_rf]) (by first | exact Nat.le_of_ble_eq_true rfl | simp [cat_rf]) (Nat.zero_le _) (Nat.zero_le _) rfl rfl q5 (okX7_clear hb) ?_
    rintro o σ6 ⟨rfl, hb⟩
    refine ⟨_, rfl, ?_⟩
    refine g_iconst (v := 0) C dX4_melt_98 (by decide) ?_
    refine g_istore_n (i := 3) (lv' := [(3, .int 0), (0, .ref v0), (1, .ref v1), (2, .int v2)]) C dX4_melt_99 rfl (hnl_of hΓ (by decide)) (by first | rfl | simp [cat_rf]) ?_
    refine g_sub (lv' := [(0, .ref v0), (1, .ref v1), (2, .int v2), (3, .int 0)]) [1, 2, 3, 0] rfl ?_
    obtain ⟨f7, hb⟩ := hb
    exact klX4_melt_100 C hΓ h83 f7 _ _ _ _ _ hb
theorem klX4_melt_83 {Γ : hCT} (C : hC Γ RX4 cX4_melt ((Option.some FieldType.boolean)) "melt" 3 105) {Q : Int32 → St → Prop} (hΓ : Γ.2.2.2.2.2.2.2.2.2.2.2 = (4, 0, 0, oI Q)) (f : Nat) (v0 : Nat) (v1 : Nat) (v2 : Int32) (σ : St) (hb : lX4_melt_83 Q f v0 v1 v2 σ) : hW Γ 0 0 83 [(0, .ref v0), (1, .ref v1), (2, .int v2)] [] σ := by
  induction f generalizing v0 v1 v2 σ with
  | zero => exact hb.elim
  | succ f ih => exact kwX4_melt_83 C hΓ  (fun v0 v1 v2 σ h => ih v0 v1 v2 σ h) _ _ _ _ hb
set_option maxRecDepth 20000 in
theorem kwX4_melt_42 {Γ : hCT} (C : hC Γ RX4 cX4_melt ((Option.some FieldType.boolean)) "melt" 3 105) {Q : Int32 → St → Prop} (hΓ : Γ.2.2.2.2.2.2.2.2.2.2.2 = (4, 0, 0, oI Q)) {r42 : Nat → Nat → Int32 → St → Prop} (h42 : ∀ (v0 : Nat) (v1 : Nat) (v2 : Int32) (σ : St), r42 v0 v1 v2 σ → hW Γ 0 0 42 [(0, .ref v0), (1, .ref v1), (2, .int v2)] [] σ) (v0 : Nat) (v1 : Nat) (v2 : Int32) (σ : St) (hb : wX4_melt_42 Q r42 v0 v1 v2 σ) : hW Γ 0 0 42 [(0, .ref v0), (1, .ref v1), (2, .int v2)] [] σ := by
  unfold wX4_melt_42 at hb
  refine g_iload_n C dX4_melt_42 2 rfl ?_
  refine g_aload_n (some v0) C dX4_melt_43 0 rfl ?_
  obtain ⟨q1, hb⟩ := hb
  obtain ⟨a2, q3, hb⟩ := hb
  refine g_getR (some a2) C fl_RX4_27 dX4_melt_44 q1 rfl rfl q3 ?_
  obtain ⟨q4, hb⟩ := hb
  refine g_getIx (zFi σ 193 a2) C fl_RX4_127 dX4_melt_47 q4 rfl rfl rfl ?_
  refine g_icmp_ge (tgt := 81) C dX4_melt_50 (by decide) (fun c => ?_) (fun c => ?_)
  ·
    replace hb := hb.1 (c)
    refine g_iconst (v := 0) C dX4_melt_81 (by decide) ?_
    refine g_istore_n (i := 2) (lv' := [(2, .int 0), (0, .ref v0), (1, .ref v1)]) C dX4_melt_82 rfl (hnl_of hΓ (by decide)) (by first | rfl | simp [cat_rf]) ?_
    refine g_sub (lv' := [(0, .ref v0), (1, .ref v1), (2, .int 0)]) [1, 2, 0] rfl ?_
    obtain ⟨f5, hb⟩ := hb
    exact klX4_melt_83 C hΓ  f5 _ _ _ _ hb
  ·
    replace hb := hb.2 (c)
    refine g_aload_n (some v0) C dX4_melt_53 0 rfl ?_
    obtain ⟨a6, q7, hb⟩ := hb
    refine g_getR (some a6) C fl_RX4_34 dX4_melt_54 q1 rfl rfl q7 ?_
    refine g_iload_n C dX4_melt_57 2 rfl ?_
    refine g_aload_n (some v1) C dX4_melt_58 1 rfl ?_
    refine g_aload_n (some v0) C dX4_melt_59 0 rfl ?_
    refine g_getR (some a2) C fl_RX4_27 dX4_melt_60 q1 rfl rfl q3 ?_
    obtain ⟨a8, q9, hb⟩ := hb
    refine g_getR (some a8) C fl_RX4_130 dX4_melt_63 q4 rfl rfl q9 ?_
    refine g_iload_n C dX4_melt_66 2 rfl ?_
    obtain ⟨q10, hb⟩ := hb
    obtain ⟨q11, hb⟩ := hb
    obtain ⟨a12, q13, hb⟩ := hb
    refine g_aald (some a12) el_25 C dX4_melt_67 q10 q11 q13 ?_
    obtain ⟨q14, hb⟩ := hb
    obtain ⟨a15, q16, hb⟩ := hb
    refine g_getR (some a15) C fl_RX4_134 dX4_melt_68 q14 rfl rfl q16 ?_
    obtain ⟨q17, hb⟩ := hb
    refine g_invV (ci := 3) [.ref a15] [.int v2, .ref a6] zy_X3_spot wd_631 wd_632 wd_633 ⟨_, _, rfl⟩ (by decide) C dX4_melt_71 (by first | exact Nat.le_of_ble_eq_true rfl | simp [cat_rf]) (by first | exact Nat.le_of_ble_eq_true rfl | simp [cat_rf]) (by first | exact Nat.le_of_ble_eq_true rfl | simp [cat_rf]) (Nat.zero_le _) (Nat.zero_le _) rfl rfl q17 (okX3_spot hb) ?_
    rintro o σ18 ⟨y19, rfl, hb⟩
    refine ⟨_, rfl, ?_⟩
    obtain ⟨q20, hb⟩ := hb
    obtain ⟨q21, hb⟩ := hb
    refine g_iast C dX4_melt_74 q20 q21 ?_
    refine g_iinc (v := v2 + 1) (lv' := [(2, .int (v2 + 1)), (0, .ref v0), (1, .ref v1)]) C dX4_melt_75 2 rfl rfl (hnl_of hΓ (by decide)) (by first | rfl | simp [cat_rf]) ?_
    refine g_goto (tgt := 42) C dX4_melt_78 (by decide) ?_
    refine g_sub (lv' := [(0, .ref v0), (1, .ref v1), (2, .int (v2 + 1))]) [1, 2, 0] rfl ?_
    exact h42 _ _ _ _ hb
theorem klX4_melt_42 {Γ : hCT} (C : hC Γ RX4 cX4_melt ((Option.some FieldType.boolean)) "melt" 3 105) {Q : Int32 → St → Prop} (hΓ : Γ.2.2.2.2.2.2.2.2.2.2.2 = (4, 0, 0, oI Q)) (f : Nat) (v0 : Nat) (v1 : Nat) (v2 : Int32) (σ : St) (hb : lX4_melt_42 Q f v0 v1 v2 σ) : hW Γ 0 0 42 [(0, .ref v0), (1, .ref v1), (2, .int v2)] [] σ := by
  induction f generalizing v0 v1 v2 σ with
  | zero => exact hb.elim
  | succ f ih => exact kwX4_melt_42 C hΓ  (fun v0 v1 v2 σ h => ih v0 v1 v2 σ h) _ _ _ _ hb
set_option maxRecDepth 20000 in
theorem kwX4_melt_2 {Γ : hCT} (C : hC Γ RX4 cX4_melt ((Option.some FieldType.boolean)) "melt" 3 105) {Q : Int32 → St → Prop} (hΓ : Γ.2.2.2.2.2.2.2.2.2.2.2 = (4, 0, 0, oI Q)) {r2 : Nat → Nat → Int32 → St → Prop} (h2 : ∀ (v0 : Nat) (v1 : Nat) (v2 : Int32) (σ : St), r2 v0 v1 v2 σ → hW Γ 0 0 2 [(0, .ref v0), (1, .ref v1), (2, .int v2)] [] σ) (v0 : Nat) (v1 : Nat) (v2 : Int32) (σ : St) (hb : wX4_melt_2 Q r2 v0 v1 v2 σ) : hW Γ 0 0 2 [(0, .ref v0), (1, .ref v1), (2, .int v2)] [] σ := by
  unfold wX4_melt_2 at hb
  refine g_iload_n C dX4_melt_2 2 rfl ?_
  refine g_aload_n (some v0) C dX4_melt_3 0 rfl ?_
  obtain ⟨q1, hb⟩ := hb
  obtain ⟨a2, q3, hb⟩ := hb
  refine g_getR (some a2) C fl_RX4_27 dX4_melt_4 q1 rfl rfl q3 ?_
  obtain ⟨q4, hb⟩ := hb
  refine g_getIx (zFi σ 193 a2) C fl_RX4_127 dX4_melt_7 q4 rfl rfl rfl ?_
  refine g_icmp_ge (tgt := 40) C dX4_melt_10 (by decide) (fun c => ?_) (fun c => ?_)
  ·
    replace hb := hb.1 (c)
    refine g_iconst (v := 0) C dX4_melt_40 (by decide) ?_
    refine g_istore_n (i := 2) (lv' := [(2, .int 0), (0, .ref v0), (1, .ref v1)]) C dX4_melt_41 rfl (hnl_of hΓ (by decide)) (by first | rfl | simp [cat_rf]) ?_
    refine g_sub (lv' := [(0, .ref v0), (1, .ref v1), (2, .int 0)]) [1, 2, 0] rfl ?_
    obtain ⟨f5, hb⟩ := hb
    exact klX4_melt_42 C hΓ  f5 _ _ _ _ hb
  ·
    replace hb := hb.2 (c)
    refine g_aload_n (some v1) C dX4_melt_13 1 rfl ?_
    refine g_aload_n (some v0) C dX4_melt_14 0 rfl ?_
    refine g_getR (some a2) C fl_RX4_27 dX4_melt_15 q1 rfl rfl q3 ?_
    obtain ⟨a6, q7, hb⟩ := hb
    refine g_getR (some a6) C fl_RX4_130 dX4_melt_18 q4 rfl rfl q7 ?_
    refine g_iload_n C dX4_melt_21 2 rfl ?_
    obtain ⟨q8, hb⟩ := hb
    obtain ⟨q9, hb⟩ := hb
    obtain ⟨a10, q11, hb⟩ := hb
    refine g_aald (some a10) el_25 C dX4_melt_22 q8 q9 q11 ?_
    obtain ⟨q12, hb⟩ := hb
    obtain ⟨a13, q14, hb⟩ := hb
    refine g_getR (some a13) C fl_RX4_134 dX4_melt_23 q12 rfl rfl q14 ?_
    obtain ⟨q15, hb⟩ := hb
    refine g_invV (ci := 3) [.ref a13] [] zy_X3_insert wd_613 wd_614 wd_615 ⟨_, _, rfl⟩ (by decide) C dX4_melt_26 (by first | exact Nat.le_of_ble_eq_true rfl | simp [cat_rf]) (by first | exact Nat.le_of_ble_eq_true rfl | simp [cat_rf]) (by first | exact Nat.le_of_ble_eq_true rfl | simp [cat_rf]) (Nat.zero_le _) (Nat.zero_le _) rfl rfl q15 (okX3_insert hb) ?_
    rintro o σ16 ⟨y17, rfl, hb⟩
    refine ⟨_, rfl, ?_⟩
    refine g_if_ne (tgt := 34) C dX4_melt_29 (by decide) (fun c => ?_) (fun c => ?_)
    ·
      replace hb := hb.1 (c)
      refine g_iinc (v := v2 + 1) (lv' := [(2, .int (v2 + 1)), (0, .ref v0), (1, .ref v1)]) C dX4_melt_34 2 rfl rfl (hnl_of hΓ (by decide)) (by first | rfl | simp [cat_rf]) ?_
      refine g_goto (tgt := 2) C dX4_melt_37 (by decide) ?_
      refine g_sub (lv' := [(0, .ref v0), (1, .ref v1), (2, .int (v2 + 1))]) [1, 2, 0] rfl ?_
      exact h2 _ _ _ _ hb
    ·
      replace hb := hb.2 (c)
      refine g_iconst (v := 0) C dX4_melt_32 (by decide) ?_
      exact g_zreturn C (by decide) hΓ (Nat.zero_le _) (Nat.zero_le _) dX4_melt_33 ⟨_, rfl, hb⟩
theorem klX4_melt_2 {Γ : hCT} (C : hC Γ RX4 cX4_melt ((Option.some FieldType.boolean)) "melt" 3 105) {Q : Int32 → St → Prop} (hΓ : Γ.2.2.2.2.2.2.2.2.2.2.2 = (4, 0, 0, oI Q)) (f : Nat) (v0 : Nat) (v1 : Nat) (v2 : Int32) (σ : St) (hb : lX4_melt_2 Q f v0 v1 v2 σ) : hW Γ 0 0 2 [(0, .ref v0), (1, .ref v1), (2, .int v2)] [] σ := by
  induction f generalizing v0 v1 v2 σ with
  | zero => exact hb.elim
  | succ f ih => exact kwX4_melt_2 C hΓ  (fun v0 v1 v2 σ h => ih v0 v1 v2 σ h) _ _ _ _ hb
set_option maxRecDepth 20000 in
theorem kwX4_melt_0 {Γ : hCT} (C : hC Γ RX4 cX4_melt ((Option.some FieldType.boolean)) "melt" 3 105) {Q : Int32 → St → Prop} (hΓ : Γ.2.2.2.2.2.2.2.2.2.2.2 = (4, 0, 0, oI Q)) (v0 : Nat) (v1 : Nat) (σ : St) (hb : wX4_melt_0 Q v0 v1 σ) : hW Γ 0 0 0 [(0, .ref v0), (1, .ref v1)] [] σ := by
  unfold wX4_melt_0 at hb
  refine g_iconst (v := 0) C dX4_melt_0 (by decide) ?_
  refine g_istore_n (i := 2) (lv' := [(2, .int 0), (0, .ref v0), (1, .ref v1)]) C dX4_melt_1 rfl (hnl_of hΓ (by decide)) (by first | rfl | simp [cat_rf]) ?_
  refine g_sub (lv' := [(0, .ref v0), (1, .ref v1), (2, .int 0)]) [1, 2, 0] rfl ?_
  obtain ⟨f1, hb⟩ := hb
  exact klX4_melt_2 C hΓ  f1 _ _ _ _ hb
theorem okX4_melt {v0 : Nat} {v1 : Nat} {σ : St} {Q : Int32 → St → Prop} (hb : wX4_melt v0 v1 σ Q) : hM yX4_melt cX4_melt 4 ((Option.some FieldType.boolean)) 3 105 0 0 [.ref v0, .ref v1] σ (oI Q) :=
  hM_of (by decide) (Nat.le_of_ble_eq_true rfl) (fun Γ hΓ C => kwX4_melt_0 C hΓ _ _ _ hb)
def wX4_workBase_2 (Q : Int32 → St → Prop) (r2 : Nat → Int32 → Nat → Int32 → St → Prop) (v0 : Nat) (v1 : Int32) (v2 : Nat) (v3 : Int32) (σ : St) : Prop :=
  zK σ v0 = 5 ∧ ∃ a2 : Nat, zFr σ 256 v0 = some a2 ∧ zK σ a2 = 7 ∧ (((zFi σ 390 a2) ≤ v3 → wX4_melt v0 v2 σ (fun y6 σ5 => (y6 = 0 ∨ y6 = 1) ∧ Q y6 σ5)) ∧ (¬ (zFi σ 390 a2) ≤ v3 → ∃ a8 : Nat, zFr σ 386 a2 = some a8 ∧ zK σ a8 = 20 ∧ vp_in v3 (zL σ a8) ∧ (((zAi σ a8 (ix v3)) = v1 → ∃ a12 : Nat, zFr σ 260 v0 = some a12 ∧ zK σ a12 = 4 ∧ wX3_grow a12 σ (fun y16 σ15 => ((y16 = none → Q 0 σ15) ∧ (∀ a17 : Nat, y16 = some a17 → zK σ15 v0 = 5 ∧ ∃ a19 : Nat, zFr σ15 256 v0 = some a19 ∧ zK σ15 a17 = 3 ∧ wX2_takeFact a17 a19 v3 σ15 (fun σ22 => r2 v0 v1 v2 (v3 + 1) σ22))))) ∧ (¬ (zAi σ a8 (ix v3)) = v1 → r2 v0 v1 v2 (v3 + 1) σ))))
def lX4_workBase_2 (Q : Int32 → St → Prop) : Nat → Nat → Int32 → Nat → Int32 → St → Prop
  | 0, _, _, _, _, _ => False
  | f + 1, v0, v1, v2, v3, σ => wX4_workBase_2 Q (lX4_workBase_2 Q f) v0 v1 v2 v3 σ
def wX4_workBase_0 (Q : Int32 → St → Prop) (v0 : Nat) (v1 : Int32) (v2 : Nat) (σ : St) : Prop :=
  ∃ f, lX4_workBase_2 Q f v0 v1 v2 0 σ
def wX4_workBase (v0 : Nat) (v1 : Int32) (v2 : Nat) (σ : St) (Q : Int32 → St → Prop) : Prop := wX4_workBase_0 Q v0 v1 v2 σ
set_option maxRecDepth 20000 in
theorem kwX4_workBase_2 {Γ : hCT} (C : hC Γ RX4 cX4_workBase ((Option.some FieldType.boolean)) "workBase" 4 128) {Q : Int32 → St → Prop} (hΓ : Γ.2.2.2.2.2.2.2.2.2.2.2 = (5, 0, 0, oI Q)) {r2 : Nat → Int32 → Nat → Int32 → St → Prop} (h2 : ∀ (v0 : Nat) (v1 : Int32) (v2 : Nat) (v3 : Int32) (σ : St), r2 v0 v1 v2 v3 σ → hW Γ 0 0 2 [(0, .ref v0), (1, .int v1), (2, .ref v2), (3, .int v3)] [] σ) (v0 : Nat) (v1 : Int32) (v2 : Nat) (v3 : Int32) (σ : St) (hb : wX4_workBase_2 Q r2 v0 v1 v2 v3 σ) : hW Γ 0 0 2 [(0, .ref v0), (1, .int v1), (2, .ref v2), (3, .int v3)] [] σ := by
  unfold wX4_workBase_2 at hb
  refine g_iload_n C dX4_workBase_2 3 rfl ?_
  refine g_aload_n (some v0) C dX4_workBase_3 0 rfl ?_
  obtain ⟨q1, hb⟩ := hb
  obtain ⟨a2, q3, hb⟩ := hb
  refine g_getR (some a2) C fl_RX4_41 dX4_workBase_4 q1 rfl rfl q3 ?_
  obtain ⟨q4, hb⟩ := hb
  refine g_getIx (zFi σ 390 a2) C fl_RX4_105 dX4_workBase_7 q4 rfl rfl rfl ?_
  refine g_icmp_ge (tgt := 61) C dX4_workBase_10 (by decide) (fun c => ?_) (fun c => ?_)
  ·
    replace hb := hb.1 (c)
    refine g_aload_n (some v0) C dX4_workBase_61 0 rfl ?_
    refine g_aload_n (some v2) C dX4_workBase_62 2 rfl ?_
    refine g_invV (ci := 4) [.ref v2] [] zy_X4_melt wd_609 wd_611 wd_11 ⟨_, _, rfl⟩ (by decide) C dX4_workBase_63 (by first | exact Nat.le_of_ble_eq_true rfl | simp [cat_rf]) (by first | exact Nat.le_of_ble_eq_true rfl | simp [cat_rf]) (by first | exact Nat.le_of_ble_eq_true rfl | simp [cat_rf]) (Nat.zero_le _) (Nat.zero_le _) rfl rfl q1 (okX4_melt hb) ?_
    rintro o σ5 ⟨y6, rfl, hb⟩
    refine ⟨_, rfl, ?_⟩
    obtain ⟨q7, hb⟩ := hb
    exact g_zreturn C (nz_n q7) hΓ (Nat.zero_le _) (Nat.zero_le _) dX4_workBase_66 ⟨_, rfl, hb⟩
  ·
    replace hb := hb.2 (c)
    refine g_aload_n (some v0) C dX4_workBase_13 0 rfl ?_
    refine g_getR (some a2) C fl_RX4_41 dX4_workBase_14 q1 rfl rfl q3 ?_
    obtain ⟨a8, q9, hb⟩ := hb
    refine g_getR (some a8) C fl_RX4_110 dX4_workBase_17 q4 rfl rfl q9 ?_
    refine g_iload_n C dX4_workBase_20 3 rfl ?_
    obtain ⟨q10, hb⟩ := hb
    obtain ⟨q11, hb⟩ := hb
    refine g_ialdx (zAi σ a8 (ix v3)) C dX4_workBase_21 q10 q11 rfl ?_
    refine g_iload_n C dX4_workBase_22 1 rfl ?_
    refine g_icmp_eq (tgt := 29) C dX4_workBase_23 (by decide) (fun c => ?_) (fun c => ?_)
    ·
      replace hb := hb.1 (c)
      refine g_aload_n (some v0) C dX4_workBase_29 0 rfl ?_
      obtain ⟨a12, q13, hb⟩ := hb
      refine g_getR (some a12) C fl_RX4_27 dX4_workBase_30 q1 rfl rfl q13 ?_
      obtain ⟨q14, hb⟩ := hb
      refine g_invV (ci := 3) [] [] zy_X3_grow wd_599 wd_600 wd_601 ⟨_, _, rfl⟩ (by decide) C dX4_workBase_33 (by first | exact Nat.le_of_ble_eq_true rfl | simp [cat_rf]) (by first | exact Nat.le_of_ble_eq_true rfl | simp [cat_rf]) (by first | exact Nat.le_of_ble_eq_true rfl | simp [cat_rf]) (Nat.zero_le _) (Nat.zero_le _) rfl rfl q14 (okX3_grow hb) ?_
      rintro o σ15 ⟨y16, rfl, hb⟩
      refine ⟨_, rfl, ?_⟩
      refine g_astore (lv' := [(4, va_rf y16), (0, .ref v0), (1, .int v1), (2, .ref v2), (3, .int v3)]) y16 C dX4_workBase_36 (hnl_of hΓ (by decide)) (by first | rfl | simp [cat_rf]) ?_
      refine g_aload y16 C dX4_workBase_38 0 rfl ?_
      refine g_ifnonnull (tgt := 45) y16 C dX4_workBase_40 (by decide) (fun c => ?_) (fun c => ?_)
      ·
        obtain ⟨a17, rfl⟩ := rf_some c
        replace hb := hb.2 a17 rfl
        refine g_aload (some a17) C dX4_workBase_45 0 rfl ?_
        refine g_aload_n (some v0) C dX4_workBase_47 1 rfl ?_
        obtain ⟨q18, hb⟩ := hb
        obtain ⟨a19, q20, hb⟩ := hb
        refine g_getR (some a19) C fl_RX4_41 dX4_workBase_48 q18 rfl rfl q20 ?_
        refine g_iload_n C dX4_workBase_51 4 rfl ?_
        obtain ⟨q21, hb⟩ := hb
        refine g_invV (ci := 2) [.ref a19, .int v3] [] zy_X2_takeFact wd_603 wd_604 wd_605 ⟨_, _, rfl⟩ (by decide) C dX4_workBase_52 (by first | exact Nat.le_of_ble_eq_true rfl | simp [cat_rf]) (by first | exact Nat.le_of_ble_eq_true rfl | simp [cat_rf]) (by first | exact Nat.le_of_ble_eq_true rfl | simp [cat_rf]) (Nat.zero_le _) (Nat.zero_le _) rfl rfl q21 (okX2_takeFact hb) ?_
        rintro o σ22 ⟨rfl, hb⟩
        refine ⟨_, rfl, ?_⟩
        refine g_iinc (v := v3 + 1) (lv' := [(3, .int (v3 + 1)), (4, .ref a17), (0, .ref v0), (1, .int v1), (2, .ref v2)]) C dX4_workBase_55 4 rfl rfl (hnl_of hΓ (by decide)) (by first | rfl | simp [cat_rf]) ?_
        refine g_goto (tgt := 2) C dX4_workBase_58 (by decide) ?_
        refine g_sub (lv' := [(0, .ref v0), (1, .int v1), (2, .ref v2), (3, .int (v3 + 1))]) [2, 3, 4, 0] rfl ?_
        exact h2 _ _ _ _ _ hb
      ·
        replace hb := hb.1 c
        refine g_iconst (v := 0) C dX4_workBase_43 (by decide) ?_
        exact g_zreturn C (by decide) hΓ (Nat.zero_le _) (Nat.zero_le _) dX4_workBase_44 ⟨_, rfl, hb⟩
    ·
      replace hb := hb.2 (c)
      refine g_goto (tgt := 55) C dX4_workBase_26 (by decide) ?_
      refine g_iinc (v := v3 + 1) (lv' := [(3, .int (v3 + 1)), (0, .ref v0), (1, .int v1), (2, .ref v2)]) C dX4_workBase_55 3 rfl rfl (hnl_of hΓ (by decide)) (by first | rfl | simp [cat_rf]) ?_
      refine g_goto (tgt := 2) C dX4_workBase_58 (by decide) ?_
      refine g_sub (lv' := [(0, .ref v0), (1, .int v1), (2, .ref v2), (3, .int (v3 + 1))]) [1, 2, 3, 0] rfl ?_
      exact h2 _ _ _ _ _ hb
theorem klX4_workBase_2 {Γ : hCT} (C : hC Γ RX4 cX4_workBase ((Option.some FieldType.boolean)) "workBase" 4 128) {Q : Int32 → St → Prop} (hΓ : Γ.2.2.2.2.2.2.2.2.2.2.2 = (5, 0, 0, oI Q)) (f : Nat) (v0 : Nat) (v1 : Int32) (v2 : Nat) (v3 : Int32) (σ : St) (hb : lX4_workBase_2 Q f v0 v1 v2 v3 σ) : hW Γ 0 0 2 [(0, .ref v0), (1, .int v1), (2, .ref v2), (3, .int v3)] [] σ := by
  induction f generalizing v0 v1 v2 v3 σ with
  | zero => exact hb.elim
  | succ f ih => exact kwX4_workBase_2 C hΓ  (fun v0 v1 v2 v3 σ h => ih v0 v1 v2 v3 σ h) _ _ _ _ _ hb
set_option maxRecDepth 20000 in
theorem kwX4_workBase_0 {Γ : hCT} (C : hC Γ RX4 cX4_workBase ((Option.some FieldType.boolean)) "workBase" 4 128) {Q : Int32 → St → Prop} (hΓ : Γ.2.2.2.2.2.2.2.2.2.2.2 = (5, 0, 0, oI Q)) (v0 : Nat) (v1 : Int32) (v2 : Nat) (σ : St) (hb : wX4_workBase_0 Q v0 v1 v2 σ) : hW Γ 0 0 0 [(0, .ref v0), (1, .int v1), (2, .ref v2)] [] σ := by
  unfold wX4_workBase_0 at hb
  refine g_iconst (v := 0) C dX4_workBase_0 (by decide) ?_
  refine g_istore_n (i := 3) (lv' := [(3, .int 0), (0, .ref v0), (1, .int v1), (2, .ref v2)]) C dX4_workBase_1 rfl (hnl_of hΓ (by decide)) (by first | rfl | simp [cat_rf]) ?_
  refine g_sub (lv' := [(0, .ref v0), (1, .int v1), (2, .ref v2), (3, .int 0)]) [1, 2, 3, 0] rfl ?_
  obtain ⟨f1, hb⟩ := hb
  exact klX4_workBase_2 C hΓ  f1 _ _ _ _ _ hb
theorem okX4_workBase {v0 : Nat} {v1 : Int32} {v2 : Nat} {σ : St} {Q : Int32 → St → Prop} (hb : wX4_workBase v0 v1 v2 σ Q) : hM yX4_workBase cX4_workBase 5 ((Option.some FieldType.boolean)) 4 128 0 0 [.ref v0, .int v1, .ref v2] σ (oI Q) :=
  hM_of (by decide) (Nat.le_of_ble_eq_true rfl) (fun Γ hΓ C => kwX4_workBase_0 C hΓ _ _ _ _ hb)
def wX2_takeRest_0 (Q : St → Prop) (v0 : Nat) (v1 : Nat) (σ : St) : Prop :=
  zK σ v1 = 3 ∧ ∃ a2 : Nat, zFr σ 129 v1 = some a2 ∧ zK σ v0 = 3 ∧ ∃ a5 : Nat, zFr σ 129 v0 = some a5 ∧ zK σ a2 = 21 ∧ zK σ a5 = 21 ∧ ¬ (0 : Int32) < 0 ∧ ¬ (0 : Int32) < 0 ∧ ¬ (zFi σ 130 v1) < 0 ∧ ix 0 + ix (zFi σ 130 v1) ≤ zL σ a2 ∧ ix 0 + ix (zFi σ 130 v1) ≤ zL σ a5 ∧ Q (uFj (uFi (uFj (uFi (uCj σ a2 (ix 0) a5 (ix 0) (ix (zFi σ 130 v1))) 130 v0 (zFi σ 130 v1)) 131 v0 (zFj σ 131 v1)) 132 v0 (zFi (uFi (uCj σ a2 (ix 0) a5 (ix 0) (ix (zFi σ 130 v1))) 130 v0 (zFi σ 130 v1)) 132 v1)) 133 v0 (zFj (uFj (uFi (uCj σ a2 (ix 0) a5 (ix 0) (ix (zFi σ 130 v1))) 130 v0 (zFi σ 130 v1)) 131 v0 (zFj σ 131 v1)) 133 v1))
def wX2_takeRest (v0 : Nat) (v1 : Nat) (σ : St) (Q : St → Prop) : Prop := wX2_takeRest_0 Q v0 v1 σ
set_option maxRecDepth 20000 in
theorem kwX2_takeRest_0 {Γ : hCT} (C : hC Γ RX2 cX2_takeRest ((Option.none : Option Jvm.ClassFile.FieldType)) "takeRest" 1 60) {Q : St → Prop} (hΓ : Γ.2.2.2.2.2.2.2.2.2.2.2 = (2, 0, 0, oV Q)) (v0 : Nat) (v1 : Nat) (σ : St) (hb : wX2_takeRest_0 Q v0 v1 σ) : hW Γ 0 0 0 [(0, .ref v0), (1, .ref v1)] [] σ := by
  unfold wX2_takeRest_0 at hb
  refine g_aload_n (some v1) C dX2_takeRest_0 1 rfl ?_
  obtain ⟨q1, hb⟩ := hb
  obtain ⟨a2, q3, hb⟩ := hb
  refine g_getR (some a2) C fl_RX2_15 dX2_takeRest_1 q1 rfl rfl q3 ?_
  refine g_iconst (v := 0) C dX2_takeRest_4 (by decide) ?_
  refine g_aload_n (some v0) C dX2_takeRest_5 0 rfl ?_
  obtain ⟨q4, hb⟩ := hb
  obtain ⟨a5, q6, hb⟩ := hb
  refine g_getR (some a5) C fl_RX2_15 dX2_takeRest_6 q4 rfl rfl q6 ?_
  refine g_iconst (v := 0) C dX2_takeRest_9 (by decide) ?_
  refine g_aload_n (some v1) C dX2_takeRest_10 1 rfl ?_
  refine g_getIx (zFi σ 130 v1) C fl_RX2_25 dX2_takeRest_11 q1 rfl rfl rfl ?_
  obtain ⟨q7, hb⟩ := hb
  obtain ⟨q8, hb⟩ := hb
  obtain ⟨q9, hb⟩ := hb
  obtain ⟨q10, hb⟩ := hb
  obtain ⟨q11, hb⟩ := hb
  obtain ⟨q12, hb⟩ := hb
  obtain ⟨q13, hb⟩ := hb
  refine g_copyJ wd_630 wd_423 wd_422 wd_88 C (by first | exact Nat.le_of_ble_eq_true rfl | simp [cat_rf]) (by first | exact Nat.le_of_ble_eq_true rfl | simp [cat_rf]) dX2_takeRest_14 q7 q8 q9 q10 q11 q12 q13 ?_
  refine g_aload_n (some v0) C dX2_takeRest_17 0 rfl ?_
  refine g_aload_n (some v1) C dX2_takeRest_18 1 rfl ?_
  refine g_getIx (zFi σ 130 v1) C fl_RX2_25 dX2_takeRest_19 (by rw [zK_uCj]; exact q1) rfl rfl (by rw [zFi_uCj]) ?_
  refine g_putI C fl_RX2_25 dX2_takeRest_22 (by rw [zK_uCj]; exact q4) rfl rfl rfl rfl ?_
  refine g_aload_n (some v0) C dX2_takeRest_25 0 rfl ?_
  refine g_aload_n (some v1) C dX2_takeRest_26 1 rfl ?_
  refine g_getJx (zFj σ 131 v1) C fl_RX2_29 dX2_takeRest_27 (by rw [zK_uFi, zK_uCj]; exact q1) rfl rfl (by rw [zFj_uFi, zFj_uCj]) ?_
  refine g_putJ C fl_RX2_29 dX2_takeRest_30 (by rw [zK_uFi, zK_uCj]; exact q4) rfl rfl rfl rfl ?_
  refine g_aload_n (some v0) C dX2_takeRest_33 0 rfl ?_
  refine g_aload_n (some v1) C dX2_takeRest_34 1 rfl ?_
  refine g_getIx (zFi (uFi (uCj σ a2 (ix 0) a5 (ix 0) (ix (zFi σ 130 v1))) 130 v0 (zFi σ 130 v1)) 132 v1) C fl_RX2_33 dX2_takeRest_35 (by rw [zK_uFj, zK_uFi, zK_uCj]; exact q1) rfl rfl (by rw [zFi_uFj]) ?_
  refine g_putI C fl_RX2_33 dX2_takeRest_38 (by rw [zK_uFj, zK_uFi, zK_uCj]; exact q4) rfl rfl rfl rfl ?_
  refine g_aload_n (some v0) C dX2_takeRest_41 0 rfl ?_
  refine g_aload_n (some v1) C dX2_takeRest_42 1 rfl ?_
  refine g_getJx (zFj (uFj (uFi (uCj σ a2 (ix 0) a5 (ix 0) (ix (zFi σ 130 v1))) 130 v0 (zFi σ 130 v1)) 131 v0 (zFj σ 131 v1)) 133 v1) C fl_RX2_36 dX2_takeRest_43 (by rw [zK_uFi, zK_uFj, zK_uFi, zK_uCj]; exact q1) rfl rfl (by rw [zFj_uFi]) ?_
  refine g_putJ C fl_RX2_36 dX2_takeRest_46 (by rw [zK_uFi, zK_uFj, zK_uFi, zK_uCj]; exact q4) rfl rfl rfl rfl ?_
  exact g_vreturn C hΓ (Nat.zero_le _) (Nat.zero_le _) dX2_takeRest_49 ⟨rfl, hb⟩
theorem okX2_takeRest {v0 : Nat} {v1 : Nat} {σ : St} {Q : St → Prop} (hb : wX2_takeRest v0 v1 σ Q) : hM yX2_takeRest cX2_takeRest 2 ((Option.none : Option Jvm.ClassFile.FieldType)) 1 60 0 0 [.ref v0, .ref v1] σ (oV Q) :=
  hM_of (by decide) (Nat.le_of_ble_eq_true rfl) (fun Γ hΓ C => kwX2_takeRest_0 C hΓ _ _ _ hb)
def wX4_workCut_31 (Q : Int32 → St → Prop) (r3 : Nat → Nat → Nat → Nat → Int32 → St → Prop) (r31 : Nat → Nat → Nat → Nat → Int32 → Nat → Int32 → St → Prop) (v0 : Nat) (v1 : Nat) (v2 : Nat) (v3 : Nat) (v4 : Int32) (v5 : Nat) (v6 : Int32) (σ : St) : Prop :=
  zK σ v1 = 10 ∧ (((zFi σ 577 v1) ≤ v6 → zK σ v2 = 4 ∧ ∃ a3 : Nat, zFr σ 192 v2 = some a3 ∧ zK σ a3 = 25 ∧ vp_in v4 (zL σ a3) ∧ ∃ a7 : Nat, zAr σ a3 (ix v4) = some a7 ∧ zK σ v5 = 3 ∧ wX2_takeRest v5 a7 σ (fun σ10 => r3 v0 v1 v2 v3 (v4 + 1) σ10)) ∧ (¬ (zFi σ 577 v1) ≤ v6 → zK σ v5 = 3 ∧ ∃ a12 : Nat, zFr σ 128 v5 = some a12 ∧ zK σ v2 = 4 ∧ ∃ a15 : Nat, zFr σ 192 v2 = some a15 ∧ zK σ a15 = 25 ∧ vp_in v4 (zL σ a15) ∧ ∃ a19 : Nat, zAr σ a15 (ix v4) = some a19 ∧ zK σ a19 = 3 ∧ ∃ a22 : Nat, zFr σ 128 a19 = some a22 ∧ ∃ a24 : Nat, zFr σ 581 v1 = some a24 ∧ zK σ a24 = 20 ∧ vp_in v6 (zL σ a24) ∧ zK σ a22 = 20 ∧ vp_in (zAi σ a24 (ix v6)) (zL σ a22) ∧ zK σ a12 = 20 ∧ vp_in v6 (zL σ a12) ∧ r31 v0 v1 v2 v3 v4 v5 (v6 + 1) (uAi σ a12 (ix v6) (zAi σ a22 (ix (zAi σ a24 (ix v6)))))))
def lX4_workCut_31 (Q : Int32 → St → Prop) (r3 : Nat → Nat → Nat → Nat → Int32 → St → Prop) : Nat → Nat → Nat → Nat → Nat → Int32 → Nat → Int32 → St → Prop
  | 0, _, _, _, _, _, _, _, _ => False
  | f + 1, v0, v1, v2, v3, v4, v5, v6, σ => wX4_workCut_31 Q r3 (lX4_workCut_31 Q r3 f) v0 v1 v2 v3 v4 v5 v6 σ
def wX4_workCut_3 (Q : Int32 → St → Prop) (r3 : Nat → Nat → Nat → Nat → Int32 → St → Prop) (v0 : Nat) (v1 : Nat) (v2 : Nat) (v3 : Nat) (v4 : Int32) (σ : St) : Prop :=
  zK σ v2 = 4 ∧ (((zFi σ 193 v2) ≤ v4 → zK σ v0 = 5 ∧ wX4_melt v0 v3 σ (fun y4 σ3 => (y4 = 0 ∨ y4 = 1) ∧ Q y4 σ3)) ∧ (¬ (zFi σ 193 v2) ≤ v4 → zK σ v0 = 5 ∧ ∃ a7 : Nat, zFr σ 260 v0 = some a7 ∧ zK σ a7 = 4 ∧ wX3_grow a7 σ (fun y11 σ10 => ((y11 = none → Q 0 σ10) ∧ (∀ a12 : Nat, y11 = some a12 → ∃ f, lX4_workCut_31 Q r3 f v0 v1 v2 v3 v4 a12 0 σ10)))))
def lX4_workCut_3 (Q : Int32 → St → Prop) : Nat → Nat → Nat → Nat → Nat → Int32 → St → Prop
  | 0, _, _, _, _, _, _ => False
  | f + 1, v0, v1, v2, v3, v4, σ => wX4_workCut_3 Q (lX4_workCut_3 Q f) v0 v1 v2 v3 v4 σ
def wX4_workCut_0 (Q : Int32 → St → Prop) (v0 : Nat) (v1 : Nat) (v2 : Nat) (v3 : Nat) (σ : St) : Prop :=
  ∃ f, lX4_workCut_3 Q f v0 v1 v2 v3 0 σ
def wX4_workCut (v0 : Nat) (v1 : Nat) (v2 : Nat) (v3 : Nat) (σ : St) (Q : Int32 → St → Prop) : Prop := wX4_workCut_0 Q v0 v1 v2 v3 σ
set_option maxRecDepth 20000 in
theorem kwX4_workCut_31 {Γ : hCT} (C : hC Γ RX4 cX4_workCut ((Option.some FieldType.boolean)) "workCut" 4 128) {Q : Int32 → St → Prop} (hΓ : Γ.2.2.2.2.2.2.2.2.2.2.2 = (7, 0, 0, oI Q)) {r3 : Nat → Nat → Nat → Nat → Int32 → St → Prop} (h3 : ∀ (v0 : Nat) (v1 : Nat) (v2 : Nat) (v3 : Nat) (v4 : Int32) (σ : St), r3 v0 v1 v2 v3 v4 σ → hW Γ 0 0 3 [(0, .ref v0), (1, .ref v1), (2, .ref v2), (3, .ref v3), (4, .int v4)] [] σ) {r31 : Nat → Nat → Nat → Nat → Int32 → Nat → Int32 → St → Prop} (h31 : ∀ (v0 : Nat) (v1 : Nat) (v2 : Nat) (v3 : Nat) (v4 : Int32) (v5 : Nat) (v6 : Int32) (σ : St), r31 v0 v1 v2 v3 v4 v5 v6 σ → hW Γ 0 0 31 [(0, .ref v0), (1, .ref v1), (2, .ref v2), (3, .ref v3), (4, .int v4), (5, .ref v5), (6, .int v6)] [] σ) (v0 : Nat) (v1 : Nat) (v2 : Nat) (v3 : Nat) (v4 : Int32) (v5 : Nat) (v6 : Int32) (σ : St) (hb : wX4_workCut_31 Q r3 r31 v0 v1 v2 v3 v4 v5 v6 σ) : hW Γ 0 0 31 [(0, .ref v0), (1, .ref v1), (2, .ref v2), (3, .ref v3), (4, .int v4), (5, .ref v5), (6, .int v6)] [] σ := by
  unfold wX4_workCut_31 at hb
  refine g_iload C dX4_workCut_31 6 rfl ?_
  refine g_aload_n (some v1) C dX4_workCut_33 1 rfl ?_
  obtain ⟨q1, hb⟩ := hb
  refine g_getIx (zFi σ 577 v1) C fl_RX4_73 dX4_workCut_34 q1 rfl rfl rfl ?_
  refine g_icmp_ge (tgt := 72) C dX4_workCut_37 (by decide) (fun c => ?_) (fun c => ?_)
  ·
    replace hb := hb.1 (c)
    refine g_aload (some v5) C dX4_workCut_72 5 rfl ?_
    refine g_aload_n (some v2) C dX4_workCut_74 2 rfl ?_
    obtain ⟨q2, hb⟩ := hb
    obtain ⟨a3, q4, hb⟩ := hb
    refine g_getR (some a3) C fl_RX4_130 dX4_workCut_75 q2 rfl rfl q4 ?_
    refine g_iload C dX4_workCut_78 4 rfl ?_
    obtain ⟨q5, hb⟩ := hb
    obtain ⟨q6, hb⟩ := hb
    obtain ⟨a7, q8, hb⟩ := hb
    refine g_aald (some a7) el_25 C dX4_workCut_80 q5 q6 q8 ?_
    obtain ⟨q9, hb⟩ := hb
    refine g_invV (ci := 2) [.ref a7] [] zy_X2_takeRest wd_669 wd_670 wd_671 ⟨_, _, rfl⟩ (by decide) C dX4_workCut_81 (by first | exact Nat.le_of_ble_eq_true rfl | simp [cat_rf]) (by first | exact Nat.le_of_ble_eq_true rfl | simp [cat_rf]) (by first | exact Nat.le_of_ble_eq_true rfl | simp [cat_rf]) (Nat.zero_le _) (Nat.zero_le _) rfl rfl q9 (okX2_takeRest hb) ?_
    rintro o σ10 ⟨rfl, hb⟩
    refine ⟨_, rfl, ?_⟩
    refine g_iinc (v := v4 + 1) (lv' := [(4, .int (v4 + 1)), (0, .ref v0), (1, .ref v1), (2, .ref v2), (3, .ref v3), (5, .ref v5), (6, .int v6)]) C dX4_workCut_84 4 rfl rfl (hnl_of hΓ (by decide)) (by first | rfl | simp [cat_rf]) ?_
    refine g_goto (tgt := 3) C dX4_workCut_87 (by decide) ?_
    refine g_sub (lv' := [(0, .ref v0), (1, .ref v1), (2, .ref v2), (3, .ref v3), (4, .int (v4 + 1))]) [1, 2, 3, 4, 0] rfl ?_
    exact h3 _ _ _ _ _ _ hb
  ·
    replace hb := hb.2 (c)
    refine g_aload (some v5) C dX4_workCut_40 5 rfl ?_
    obtain ⟨q11, hb⟩ := hb
    obtain ⟨a12, q13, hb⟩ := hb
    refine g_getR (some a12) C fl_RX4_134 dX4_workCut_42 q11 rfl rfl q13 ?_
    refine g_iload C dX4_workCut_45 6 rfl ?_
    refine g_aload_n (some v2) C dX4_workCut_47 2 rfl ?_
    obtain ⟨q14, hb⟩ := hb
    obtain ⟨a15, q16, hb⟩ := hb
    refine g_getR (some a15) C fl_RX4_130 dX4_workCut_48 q14 rfl rfl q16 ?_
    refine g_iload C dX4_workCut_51 4 rfl ?_
    obtain ⟨q17, hb⟩ := hb
    obtain ⟨q18, hb⟩ := hb
    obtain ⟨a19, q20, hb⟩ := hb
    refine g_aald (some a19) el_25 C dX4_workCut_53 q17 q18 q20 ?_
    obtain ⟨q21, hb⟩ := hb
    obtain ⟨a22, q23, hb⟩ := hb
    refine g_getR (some a22) C fl_RX4_134 dX4_workCut_54 q21 rfl rfl q23 ?_
    refine g_aload_n (some v1) C dX4_workCut_57 1 rfl ?_
    obtain ⟨a24, q25, hb⟩ := hb
    refine g_getR (some a24) C fl_RX4_135 dX4_workCut_58 q1 rfl rfl q25 ?_
    refine g_iload C dX4_workCut_61 6 rfl ?_
    obtain ⟨q26, hb⟩ := hb
    obtain ⟨q27, hb⟩ := hb
    refine g_ialdx (zAi σ a24 (ix v6)) C dX4_workCut_63 q26 q27 rfl ?_
    obtain ⟨q28, hb⟩ := hb
    obtain ⟨q29, hb⟩ := hb
    refine g_ialdx (zAi σ a22 (ix (zAi σ a24 (ix v6)))) C dX4_workCut_64 q28 q29 rfl ?_
    obtain ⟨q30, hb⟩ := hb
    obtain ⟨q31, hb⟩ := hb
    refine g_iast C dX4_workCut_65 q30 q31 ?_
    refine g_iinc (v := v6 + 1) (lv' := [(6, .int (v6 + 1)), (0, .ref v0), (1, .ref v1), (2, .ref v2), (3, .ref v3), (4, .int v4), (5, .ref v5)]) C dX4_workCut_66 6 rfl rfl (hnl_of hΓ (by decide)) (by first | rfl | simp [cat_rf]) ?_
    refine g_goto (tgt := 31) C dX4_workCut_69 (by decide) ?_
    refine g_sub (lv' := [(0, .ref v0), (1, .ref v1), (2, .ref v2), (3, .ref v3), (4, .int v4), (5, .ref v5), (6, .int (v6 + 1))]) [1, 2, 3, 4, 5, 6, 0] rfl ?_
    exact h31 _ _ _ _ _ _ _ _ hb
theorem klX4_workCut_31 {Γ : hCT} (C : hC Γ RX4 cX4_workCut ((Option.some FieldType.boolean)) "workCut" 4 128) {Q : Int32 → St → Prop} (hΓ : Γ.2.2.2.2.2.2.2.2.2.2.2 = (7, 0, 0, oI Q)) {r3 : Nat → Nat → Nat → Nat → Int32 → St → Prop} (h3 : ∀ (v0 : Nat) (v1 : Nat) (v2 : Nat) (v3 : Nat) (v4 : Int32) (σ : St), r3 v0 v1 v2 v3 v4 σ → hW Γ 0 0 3 [(0, .ref v0), (1, .ref v1), (2, .ref v2), (3, .ref v3), (4, .int v4)] [] σ) (f : Nat) (v0 : Nat) (v1 : Nat) (v2 : Nat) (v3 : Nat) (v4 : Int32) (v5 : Nat) (v6 : Int32) (σ : St) (hb : lX4_workCut_31 Q r3 f v0 v1 v2 v3 v4 v5 v6 σ) : hW Γ 0 0 31 [(0, .ref v0), (1, .ref v1), (2, .ref v2), (3, .ref v3), (4, .int v4), (5, .ref v5), (6, .int v6)] [] σ := by
  induction f generalizing v0 v1 v2 v3 v4 v5 v6 σ with
  | zero => exact hb.elim
  | succ f ih => exact kwX4_workCut_31 C hΓ h3 (fun v0 v1 v2 v3 v4 v5 v6 σ h => ih v0 v1 v2 v3 v4 v5 v6 σ h) _ _ _ _ _ _ _ _ hb
set_option maxRecDepth 20000 in
theorem kwX4_workCut_3 {Γ : hCT} (C : hC Γ RX4 cX4_workCut ((Option.some FieldType.boolean)) "workCut" 4 128) {Q : Int32 → St → Prop} (hΓ : Γ.2.2.2.2.2.2.2.2.2.2.2 = (7, 0, 0, oI Q)) {r3 : Nat → Nat → Nat → Nat → Int32 → St → Prop} (h3 : ∀ (v0 : Nat) (v1 : Nat) (v2 : Nat) (v3 : Nat) (v4 : Int32) (σ : St), r3 v0 v1 v2 v3 v4 σ → hW Γ 0 0 3 [(0, .ref v0), (1, .ref v1), (2, .ref v2), (3, .ref v3), (4, .int v4)] [] σ) (v0 : Nat) (v1 : Nat) (v2 : Nat) (v3 : Nat) (v4 : Int32) (σ : St) (hb : wX4_workCut_3 Q r3 v0 v1 v2 v3 v4 σ) : hW Γ 0 0 3 [(0, .ref v0), (1, .ref v1), (2, .ref v2), (3, .ref v3), (4, .int v4)] [] σ := by
  unfold wX4_workCut_3 at hb
  refine g_iload C dX4_workCut_3 4 rfl ?_
  refine g_aload_n (some v2) C dX4_workCut_5 2 rfl ?_
  obtain ⟨q1, hb⟩ := hb
  refine g_getIx (zFi σ 193 v2) C fl_RX4_127 dX4_workCut_6 q1 rfl rfl rfl ?_
  refine g_icmp_ge (tgt := 90) C dX4_workCut_9 (by decide) (fun c => ?_) (fun c => ?_)
  ·
    replace hb := hb.1 (c)
    refine g_aload_n (some v0) C dX4_workCut_90 0 rfl ?_
    refine g_aload_n (some v3) C dX4_workCut_91 3 rfl ?_
    obtain ⟨q2, hb⟩ := hb
    refine g_invV (ci := 4) [.ref v3] [] zy_X4_melt wd_609 wd_611 wd_11 ⟨_, _, rfl⟩ (by decide) C dX4_workCut_92 (by first | exact Nat.le_of_ble_eq_true rfl | simp [cat_rf]) (by first | exact Nat.le_of_ble_eq_true rfl | simp [cat_rf]) (by first | exact Nat.le_of_ble_eq_true rfl | simp [cat_rf]) (Nat.zero_le _) (Nat.zero_le _) rfl rfl q2 (okX4_melt hb) ?_
    rintro o σ3 ⟨y4, rfl, hb⟩
    refine ⟨_, rfl, ?_⟩
    obtain ⟨q5, hb⟩ := hb
    exact g_zreturn C (nz_n q5) hΓ (Nat.zero_le _) (Nat.zero_le _) dX4_workCut_95 ⟨_, rfl, hb⟩
  ·
    replace hb := hb.2 (c)
    refine g_aload_n (some v0) C dX4_workCut_12 0 rfl ?_
    obtain ⟨q6, hb⟩ := hb
    obtain ⟨a7, q8, hb⟩ := hb
    refine g_getR (some a7) C fl_RX4_27 dX4_workCut_13 q6 rfl rfl q8 ?_
    obtain ⟨q9, hb⟩ := hb
    refine g_invV (ci := 3) [] [] zy_X3_grow wd_599 wd_600 wd_601 ⟨_, _, rfl⟩ (by decide) C dX4_workCut_16 (by first | exact Nat.le_of_ble_eq_true rfl | simp [cat_rf]) (by first | exact Nat.le_of_ble_eq_true rfl | simp [cat_rf]) (by first | exact Nat.le_of_ble_eq_true rfl | simp [cat_rf]) (Nat.zero_le _) (Nat.zero_le _) rfl rfl q9 (okX3_grow hb) ?_
    rintro o σ10 ⟨y11, rfl, hb⟩
    refine ⟨_, rfl, ?_⟩
    refine g_astore (lv' := [(5, va_rf y11), (0, .ref v0), (1, .ref v1), (2, .ref v2), (3, .ref v3), (4, .int v4)]) y11 C dX4_workCut_19 (hnl_of hΓ (by decide)) (by first | rfl | simp [cat_rf]) ?_
    refine g_aload y11 C dX4_workCut_21 0 rfl ?_
    refine g_ifnonnull (tgt := 28) y11 C dX4_workCut_23 (by decide) (fun c => ?_) (fun c => ?_)
    ·
      obtain ⟨a12, rfl⟩ := rf_some c
      replace hb := hb.2 a12 rfl
      refine g_iconst (v := 0) C dX4_workCut_28 (by decide) ?_
      refine g_istore (lv' := [(6, .int 0), (5, .ref a12), (0, .ref v0), (1, .ref v1), (2, .ref v2), (3, .ref v3), (4, .int v4)]) C dX4_workCut_29 (hnl_of hΓ (by decide)) (by first | rfl | simp [cat_rf]) ?_
      refine g_sub (lv' := [(0, .ref v0), (1, .ref v1), (2, .ref v2), (3, .ref v3), (4, .int v4), (5, .ref a12), (6, .int 0)]) [2, 3, 4, 5, 6, 1, 0] rfl ?_
      obtain ⟨f13, hb⟩ := hb
      exact klX4_workCut_31 C hΓ h3 f13 _ _ _ _ _ _ _ _ hb
    ·
      replace hb := hb.1 c
      refine g_iconst (v := 0) C dX4_workCut_26 (by decide) ?_
      exact g_zreturn C (by decide) hΓ (Nat.zero_le _) (Nat.zero_le _) dX4_workCut_27 ⟨_, rfl, hb⟩
theorem klX4_workCut_3 {Γ : hCT} (C : hC Γ RX4 cX4_workCut ((Option.some FieldType.boolean)) "workCut" 4 128) {Q : Int32 → St → Prop} (hΓ : Γ.2.2.2.2.2.2.2.2.2.2.2 = (7, 0, 0, oI Q)) (f : Nat) (v0 : Nat) (v1 : Nat) (v2 : Nat) (v3 : Nat) (v4 : Int32) (σ : St) (hb : lX4_workCut_3 Q f v0 v1 v2 v3 v4 σ) : hW Γ 0 0 3 [(0, .ref v0), (1, .ref v1), (2, .ref v2), (3, .ref v3), (4, .int v4)] [] σ := by
  induction f generalizing v0 v1 v2 v3 v4 σ with
  | zero => exact hb.elim
  | succ f ih => exact kwX4_workCut_3 C hΓ  (fun v0 v1 v2 v3 v4 σ h => ih v0 v1 v2 v3 v4 σ h) _ _ _ _ _ _ hb
set_option maxRecDepth 20000 in
theorem kwX4_workCut_0 {Γ : hCT} (C : hC Γ RX4 cX4_workCut ((Option.some FieldType.boolean)) "workCut" 4 128) {Q : Int32 → St → Prop} (hΓ : Γ.2.2.2.2.2.2.2.2.2.2.2 = (7, 0, 0, oI Q)) (v0 : Nat) (v1 : Nat) (v2 : Nat) (v3 : Nat) (σ : St) (hb : wX4_workCut_0 Q v0 v1 v2 v3 σ) : hW Γ 0 0 0 [(0, .ref v0), (1, .ref v1), (2, .ref v2), (3, .ref v3)] [] σ := by
  unfold wX4_workCut_0 at hb
  refine g_iconst (v := 0) C dX4_workCut_0 (by decide) ?_
  refine g_istore (lv' := [(4, .int 0), (0, .ref v0), (1, .ref v1), (2, .ref v2), (3, .ref v3)]) C dX4_workCut_1 (hnl_of hΓ (by decide)) (by first | rfl | simp [cat_rf]) ?_
  refine g_sub (lv' := [(0, .ref v0), (1, .ref v1), (2, .ref v2), (3, .ref v3), (4, .int 0)]) [1, 2, 3, 4, 0] rfl ?_
  obtain ⟨f1, hb⟩ := hb
  exact klX4_workCut_3 C hΓ  f1 _ _ _ _ _ _ hb
theorem okX4_workCut {v0 : Nat} {v1 : Nat} {v2 : Nat} {v3 : Nat} {σ : St} {Q : Int32 → St → Prop} (hb : wX4_workCut v0 v1 v2 v3 σ Q) : hM yX4_workCut cX4_workCut 7 ((Option.some FieldType.boolean)) 4 128 0 0 [.ref v0, .ref v1, .ref v2, .ref v3] σ (oI Q) :=
  hM_of (by decide) (Nat.le_of_ble_eq_true rfl) (fun Γ hΓ C => kwX4_workCut_0 C hΓ _ _ _ _ _ hb)
def wX4_costOfBoth_0 (Q : Int32 → St → Prop) (v0 : Int32) (v1 : Int32) (σ : St) : Prop :=
  Q (if 1000000000 < (v0 + v1) then 1000000000 else (v0 + v1)) σ
def wX4_costOfBoth (v0 : Int32) (v1 : Int32) (σ : St) (Q : Int32 → St → Prop) : Prop := wX4_costOfBoth_0 Q v0 v1 σ
set_option maxRecDepth 20000 in
theorem kwX4_costOfBoth_0 {Γ : hCT} (C : hC Γ RX4 cX4_costOfBoth ((Option.some FieldType.int)) "costOfBoth" 1 40) {Q : Int32 → St → Prop} (hΓ : Γ.2.2.2.2.2.2.2.2.2.2.2 = (2, 0, 0, oI Q)) (v0 : Int32) (v1 : Int32) (σ : St) (hb : wX4_costOfBoth_0 Q v0 v1 σ) : hW Γ 0 0 0 [(0, .int v0), (1, .int v1)] [] σ := by
  unfold wX4_costOfBoth_0 at hb
  refine g_iload_n C dX4_costOfBoth_0 0 rfl ?_
  refine g_iload_n C dX4_costOfBoth_1 1 rfl ?_
  refine g_iadd C dX4_costOfBoth_2 ?_
  refine g_ldc C wd_685 dX4_costOfBoth_3 ?_
  refine g_mmin wd_686 wd_401 wd_87 wd_402 C (by first | exact Nat.le_of_ble_eq_true rfl | simp [cat_rf]) (by first | exact Nat.le_of_ble_eq_true rfl | simp [cat_rf]) (Nat.zero_le _) (Nat.zero_le _) dX4_costOfBoth_5 ?_
  exact g_ireturn C hΓ (Nat.zero_le _) (Nat.zero_le _) dX4_costOfBoth_8 ⟨_, rfl, hb⟩
theorem okX4_costOfBoth {v0 : Int32} {v1 : Int32} {σ : St} {Q : Int32 → St → Prop} (hb : wX4_costOfBoth v0 v1 σ Q) : hM yX4_costOfBoth cX4_costOfBoth 2 ((Option.some FieldType.int)) 1 40 0 0 [.int v0, .int v1] σ (oI Q) :=
  hM_of (by decide) (Nat.le_of_ble_eq_true rfl) (fun Γ hΓ C => kwX4_costOfBoth_0 C hΓ _ _ _ hb)
def wX7_addUnions_13 (Q : St → Prop) (r2 : Nat → Nat → Nat → Int32 → St → Prop) (r13 : Nat → Nat → Nat → Int32 → Int32 → St → Prop) (v0 : Nat) (v1 : Nat) (v2 : Nat) (v3 : Int32) (v4 : Int32) (σ : St) : Prop :=
  zK σ v2 = 3 ∧ (((zFi σ 130 v2) ≤ v4 → r2 v0 v1 v2 (v3 + 1) σ) ∧ (¬ (zFi σ 130 v2) ≤ v4 → zK σ v1 = 3 ∧ ∃ a3 : Nat, zFr σ 129 v1 = some a3 ∧ zK σ a3 = 21 ∧ vp_in v3 (zL σ a3) ∧ ∃ a7 : Nat, zFr σ 129 v2 = some a7 ∧ zK σ a7 = 21 ∧ vp_in v4 (zL σ a7) ∧ zK σ v0 = 8 ∧ wX7_addWay v0 ((zAj σ a3 (ix v3)) ||| (zAj σ a7 (ix v4))) σ (fun σ12 => r13 v0 v1 v2 v3 (v4 + 1) σ12)))
def lX7_addUnions_13 (Q : St → Prop) (r2 : Nat → Nat → Nat → Int32 → St → Prop) : Nat → Nat → Nat → Nat → Int32 → Int32 → St → Prop
  | 0, _, _, _, _, _, _ => False
  | f + 1, v0, v1, v2, v3, v4, σ => wX7_addUnions_13 Q r2 (lX7_addUnions_13 Q r2 f) v0 v1 v2 v3 v4 σ
def wX7_addUnions_2 (Q : St → Prop) (r2 : Nat → Nat → Nat → Int32 → St → Prop) (v0 : Nat) (v1 : Nat) (v2 : Nat) (v3 : Int32) (σ : St) : Prop :=
  zK σ v1 = 3 ∧ (((zFi σ 130 v1) ≤ v3 → Q σ) ∧ (¬ (zFi σ 130 v1) ≤ v3 → ∃ f, lX7_addUnions_13 Q r2 f v0 v1 v2 v3 0 σ))
def lX7_addUnions_2 (Q : St → Prop) : Nat → Nat → Nat → Nat → Int32 → St → Prop
  | 0, _, _, _, _, _ => False
  | f + 1, v0, v1, v2, v3, σ => wX7_addUnions_2 Q (lX7_addUnions_2 Q f) v0 v1 v2 v3 σ
def wX7_addUnions_0 (Q : St → Prop) (v0 : Nat) (v1 : Nat) (v2 : Nat) (σ : St) : Prop :=
  ∃ f, lX7_addUnions_2 Q f v0 v1 v2 0 σ
def wX7_addUnions (v0 : Nat) (v1 : Nat) (v2 : Nat) (σ : St) (Q : St → Prop) : Prop := wX7_addUnions_0 Q v0 v1 v2 σ
set_option maxRecDepth 20000 in
theorem kwX7_addUnions_13 {Γ : hCT} (C : hC Γ RX7 cX7_addUnions ((Option.none : Option Jvm.ClassFile.FieldType)) "addUnions" 1 24) {Q : St → Prop} (hΓ : Γ.2.2.2.2.2.2.2.2.2.2.2 = (5, 0, 0, oV Q)) {r2 : Nat → Nat → Nat → Int32 → St → Prop} (h2 : ∀ (v0 : Nat) (v1 : Nat) (v2 : Nat) (v3 : Int32) (σ : St), r2 v0 v1 v2 v3 σ → hW Γ 0 0 2 [(0, .ref v0), (1, .ref v1), (2, .ref v2), (3, .int v3)] [] σ) {r13 : Nat → Nat → Nat → Int32 → Int32 → St → Prop} (h13 : ∀ (v0 : Nat) (v1 : Nat) (v2 : Nat) (v3 : Int32) (v4 : Int32) (σ : St), r13 v0 v1 v2 v3 v4 σ → hW Γ 0 0 13 [(0, .ref v0), (1, .ref v1), (2, .ref v2), (3, .int v3), (4, .int v4)] [] σ) (v0 : Nat) (v1 : Nat) (v2 : Nat) (v3 : Int32) (v4 : Int32) (σ : St) (hb : wX7_addUnions_13 Q r2 r13 v0 v1 v2 v3 v4 σ) : hW Γ 0 0 13 [(0, .ref v0), (1, .ref v1), (2, .ref v2), (3, .int v3), (4, .int v4)] [] σ := by
  unfold wX7_addUnions_13 at hb
  refine g_iload C dX7_addUnions_13 4 rfl ?_
  refine g_aload_n (some v2) C dX7_addUnions_15 2 rfl ?_
  obtain ⟨q1, hb⟩ := hb
  refine g_getIx (zFi σ 130 v2) C fl_RX7_32 dX7_addUnions_16 q1 rfl rfl rfl ?_
  refine g_icmp_ge (tgt := 46) C dX7_addUnions_19 (by decide) (fun c => ?_) (fun c => ?_)
  ·
    replace hb := hb.1 (c)
    refine g_iinc (v := v3 + 1) (lv' := [(3, .int (v3 + 1)), (0, .ref v0), (1, .ref v1), (2, .ref v2), (4, .int v4)]) C dX7_addUnions_46 3 rfl rfl (hnl_of hΓ (by decide)) (by first | rfl | simp [cat_rf]) ?_
    refine g_goto (tgt := 2) C dX7_addUnions_49 (by decide) ?_
    refine g_sub (lv' := [(0, .ref v0), (1, .ref v1), (2, .ref v2), (3, .int (v3 + 1))]) [1, 2, 3, 0] rfl ?_
    exact h2 _ _ _ _ _ hb
  ·
    replace hb := hb.2 (c)
    refine g_aload_n (some v0) C dX7_addUnions_22 0 rfl ?_
    refine g_aload_n (some v1) C dX7_addUnions_23 1 rfl ?_
    obtain ⟨q2, hb⟩ := hb
    obtain ⟨a3, q4, hb⟩ := hb
    refine g_getR (some a3) C fl_RX7_37 dX7_addUnions_24 q2 rfl rfl q4 ?_
    refine g_iload_n C dX7_addUnions_27 3 rfl ?_
    obtain ⟨q5, hb⟩ := hb
    obtain ⟨q6, hb⟩ := hb
    refine g_laldx (zAj σ a3 (ix v3)) C dX7_addUnions_28 q5 q6 rfl ?_
    refine g_aload_n (some v2) C dX7_addUnions_29 2 rfl ?_
    obtain ⟨a7, q8, hb⟩ := hb
    refine g_getR (some a7) C fl_RX7_37 dX7_addUnions_30 q1 rfl rfl q8 ?_
    refine g_iload C dX7_addUnions_33 4 rfl ?_
    obtain ⟨q9, hb⟩ := hb
    obtain ⟨q10, hb⟩ := hb
    refine g_laldx (zAj σ a7 (ix v4)) C dX7_addUnions_35 q9 q10 rfl ?_
    refine g_lor C dX7_addUnions_36 ?_
    obtain ⟨q11, hb⟩ := hb
    refine g_invV (ci := 7) [.long ((zAj σ a3 (ix v3)) ||| (zAj σ a7 (ix v4)))] [] zy_X7_addWay wd_644 wd_645 wd_646 ⟨_, _, rfl⟩ (by decide) C dX7_addUnions_37 (by first | exact Nat.le_of_ble_eq_true rfl | simp [cat_rf]) (by first | exact Nat.le_of_ble_eq_true rfl | simp [cat_rf]) (by first | exact Nat.le_of_ble_eq_true rfl | simp [cat_rf]) (Nat.zero_le _) (Nat.zero_le _) rfl rfl q11 (okX7_addWay hb) ?_
    rintro o σ12 ⟨rfl, hb⟩
    refine ⟨_, rfl, ?_⟩
    refine g_iinc (v := v4 + 1) (lv' := [(4, .int (v4 + 1)), (0, .ref v0), (1, .ref v1), (2, .ref v2), (3, .int v3)]) C dX7_addUnions_40 4 rfl rfl (hnl_of hΓ (by decide)) (by first | rfl | simp [cat_rf]) ?_
    refine g_goto (tgt := 13) C dX7_addUnions_43 (by decide) ?_
    refine g_sub (lv' := [(0, .ref v0), (1, .ref v1), (2, .ref v2), (3, .int v3), (4, .int (v4 + 1))]) [1, 2, 3, 4, 0] rfl ?_
    exact h13 _ _ _ _ _ _ hb
theorem klX7_addUnions_13 {Γ : hCT} (C : hC Γ RX7 cX7_addUnions ((Option.none : Option Jvm.ClassFile.FieldType)) "addUnions" 1 24) {Q : St → Prop} (hΓ : Γ.2.2.2.2.2.2.2.2.2.2.2 = (5, 0, 0, oV Q)) {r2 : Nat → Nat → Nat → Int32 → St → Prop} (h2 : ∀ (v0 : Nat) (v1 : Nat) (v2 : Nat) (v3 : Int32) (σ : St), r2 v0 v1 v2 v3 σ → hW Γ 0 0 2 [(0, .ref v0), (1, .ref v1), (2, .ref v2), (3, .int v3)] [] σ) (f : Nat) (v0 : Nat) (v1 : Nat) (v2 : Nat) (v3 : Int32) (v4 : Int32) (σ : St) (hb : lX7_addUnions_13 Q r2 f v0 v1 v2 v3 v4 σ) : hW Γ 0 0 13 [(0, .ref v0), (1, .ref v1), (2, .ref v2), (3, .int v3), (4, .int v4)] [] σ := by
  induction f generalizing v0 v1 v2 v3 v4 σ with
  | zero => exact hb.elim
  | succ f ih => exact kwX7_addUnions_13 C hΓ h2 (fun v0 v1 v2 v3 v4 σ h => ih v0 v1 v2 v3 v4 σ h) _ _ _ _ _ _ hb
set_option maxRecDepth 20000 in
theorem kwX7_addUnions_2 {Γ : hCT} (C : hC Γ RX7 cX7_addUnions ((Option.none : Option Jvm.ClassFile.FieldType)) "addUnions" 1 24) {Q : St → Prop} (hΓ : Γ.2.2.2.2.2.2.2.2.2.2.2 = (5, 0, 0, oV Q)) {r2 : Nat → Nat → Nat → Int32 → St → Prop} (h2 : ∀ (v0 : Nat) (v1 : Nat) (v2 : Nat) (v3 : Int32) (σ : St), r2 v0 v1 v2 v3 σ → hW Γ 0 0 2 [(0, .ref v0), (1, .ref v1), (2, .ref v2), (3, .int v3)] [] σ) (v0 : Nat) (v1 : Nat) (v2 : Nat) (v3 : Int32) (σ : St) (hb : wX7_addUnions_2 Q r2 v0 v1 v2 v3 σ) : hW Γ 0 0 2 [(0, .ref v0), (1, .ref v1), (2, .ref v2), (3, .int v3)] [] σ := by
  unfold wX7_addUnions_2 at hb
  refine g_iload_n C dX7_addUnions_2 3 rfl ?_
  refine g_aload_n (some v1) C dX7_addUnions_3 1 rfl ?_
  obtain ⟨q1, hb⟩ := hb
  refine g_getIx (zFi σ 130 v1) C fl_RX7_32 dX7_addUnions_4 q1 rfl rfl rfl ?_
  refine g_icmp_ge (tgt := 52) C dX7_addUnions_7 (by decide) (fun c => ?_) (fun c => ?_)
  ·
    replace hb := hb.1 (c)
    exact g_vreturn C hΓ (Nat.zero_le _) (Nat.zero_le _) dX7_addUnions_52 ⟨rfl, hb⟩
  ·
    replace hb := hb.2 (c)
    refine g_iconst (v := 0) C dX7_addUnions_10 (by decide) ?_
    refine g_istore (lv' := [(4, .int 0), (0, .ref v0), (1, .ref v1), (2, .ref v2), (3, .int v3)]) C dX7_addUnions_11 (hnl_of hΓ (by decide)) (by first | rfl | simp [cat_rf]) ?_
    refine g_sub (lv' := [(0, .ref v0), (1, .ref v1), (2, .ref v2), (3, .int v3), (4, .int 0)]) [1, 2, 3, 4, 0] rfl ?_
    obtain ⟨f2, hb⟩ := hb
    exact klX7_addUnions_13 C hΓ h2 f2 _ _ _ _ _ _ hb
theorem klX7_addUnions_2 {Γ : hCT} (C : hC Γ RX7 cX7_addUnions ((Option.none : Option Jvm.ClassFile.FieldType)) "addUnions" 1 24) {Q : St → Prop} (hΓ : Γ.2.2.2.2.2.2.2.2.2.2.2 = (5, 0, 0, oV Q)) (f : Nat) (v0 : Nat) (v1 : Nat) (v2 : Nat) (v3 : Int32) (σ : St) (hb : lX7_addUnions_2 Q f v0 v1 v2 v3 σ) : hW Γ 0 0 2 [(0, .ref v0), (1, .ref v1), (2, .ref v2), (3, .int v3)] [] σ := by
  induction f generalizing v0 v1 v2 v3 σ with
  | zero => exact hb.elim
  | succ f ih => exact kwX7_addUnions_2 C hΓ  (fun v0 v1 v2 v3 σ h => ih v0 v1 v2 v3 σ h) _ _ _ _ _ hb
set_option maxRecDepth 20000 in
theorem kwX7_addUnions_0 {Γ : hCT} (C : hC Γ RX7 cX7_addUnions ((Option.none : Option Jvm.ClassFile.FieldType)) "addUnions" 1 24) {Q : St → Prop} (hΓ : Γ.2.2.2.2.2.2.2.2.2.2.2 = (5, 0, 0, oV Q)) (v0 : Nat) (v1 : Nat) (v2 : Nat) (σ : St) (hb : wX7_addUnions_0 Q v0 v1 v2 σ) : hW Γ 0 0 0 [(0, .ref v0), (1, .ref v1), (2, .ref v2)] [] σ := by
  unfold wX7_addUnions_0 at hb
  refine g_iconst (v := 0) C dX7_addUnions_0 (by decide) ?_
  refine g_istore_n (i := 3) (lv' := [(3, .int 0), (0, .ref v0), (1, .ref v1), (2, .ref v2)]) C dX7_addUnions_1 rfl (hnl_of hΓ (by decide)) (by first | rfl | simp [cat_rf]) ?_
  refine g_sub (lv' := [(0, .ref v0), (1, .ref v1), (2, .ref v2), (3, .int 0)]) [1, 2, 3, 0] rfl ?_
  obtain ⟨f1, hb⟩ := hb
  exact klX7_addUnions_2 C hΓ  f1 _ _ _ _ _ hb
theorem okX7_addUnions {v0 : Nat} {v1 : Nat} {v2 : Nat} {σ : St} {Q : St → Prop} (hb : wX7_addUnions v0 v1 v2 σ Q) : hM yX7_addUnions cX7_addUnions 5 ((Option.none : Option Jvm.ClassFile.FieldType)) 1 24 0 0 [.ref v0, .ref v1, .ref v2] σ (oV Q) :=
  hM_of (by decide) (Nat.le_of_ble_eq_true rfl) (fun Γ hΓ C => kwX7_addUnions_0 C hΓ _ _ _ _ hb)
def wX4_join_0 (Q : Int32 → St → Prop) (v0 : Nat) (v1 : Nat) (v2 : Int32) (v3 : Nat) (v4 : Int32) (v5 : Nat) (σ : St) : Prop :=
  zK σ v1 = 3 ∧ ∃ a2 : Nat, zFr σ 128 v1 = some a2 ∧ zK σ v5 = 3 ∧ ∃ a5 : Nat, zFr σ 128 v5 = some a5 ∧ zK σ a2 = 20 ∧ zK σ a5 = 20 ∧ ¬ (0 : Int32) < 0 ∧ ¬ (0 : Int32) < 0 ∧ ¬ v2 < 0 ∧ ix 0 + ix v2 ≤ zL σ a2 ∧ ix 0 + ix v2 ≤ zL σ a5 ∧ zK σ v3 = 3 ∧ ∃ a15 : Nat, zFr σ 128 v3 = some a15 ∧ zK σ a15 = 20 ∧ ¬ (0 : Int32) < 0 ∧ ¬ v2 < 0 ∧ ¬ v4 < 0 ∧ ix 0 + ix v4 ≤ zL σ a15 ∧ ix v2 + ix v4 ≤ zL σ a5 ∧ wX4_costOfBoth (zFi σ 132 v1) (zFi σ 132 v3) (uFj (uCi (uCi σ a2 (ix 0) a5 (ix 0) (ix v2)) a15 (ix 0) a5 (ix v2) (ix v4)) 131 v5 ((zFj σ 131 v1) * (zFj σ 131 v3))) (fun y24 σ23 => zK σ23 v5 = 3 ∧ zK σ23 v1 = 3 ∧ zK σ23 v3 = 3 ∧ zK σ23 v0 = 5 ∧ ∃ a29 : Nat, zFr σ23 259 v0 = some a29 ∧ zK σ23 a29 = 8 ∧ wX7_clear a29 (uFj (uFi σ23 132 v5 y24) 133 v5 (if (zFj σ23 133 v3) < (zFj σ23 133 v1) then (zFj σ23 133 v3) else (zFj σ23 133 v1))) (fun σ32 => zK σ32 v0 = 5 ∧ ∃ a34 : Nat, zFr σ32 259 v0 = some a34 ∧ zK σ32 a34 = 8 ∧ wX7_addUnions a34 v1 v3 σ32 (fun σ37 => zK σ37 v0 = 5 ∧ ∃ a39 : Nat, zFr σ37 259 v0 = some a39 ∧ zK σ37 a39 = 8 ∧ wX7_giveWays a39 v5 σ37 (fun y43 σ42 => (y43 = 0 ∨ y43 = 1) ∧ Q y43 σ42))))
def wX4_join (v0 : Nat) (v1 : Nat) (v2 : Int32) (v3 : Nat) (v4 : Int32) (v5 : Nat) (σ : St) (Q : Int32 → St → Prop) : Prop := wX4_join_0 Q v0 v1 v2 v3 v4 v5 σ
set_option maxRecDepth 20000 in
theorem kwX4_join_0 {Γ : hCT} (C : hC Γ RX4 cX4_join ((Option.some FieldType.boolean)) "join" 2 61) {Q : Int32 → St → Prop} (hΓ : Γ.2.2.2.2.2.2.2.2.2.2.2 = (6, 0, 0, oI Q)) (v0 : Nat) (v1 : Nat) (v2 : Int32) (v3 : Nat) (v4 : Int32) (v5 : Nat) (σ : St) (hb : wX4_join_0 Q v0 v1 v2 v3 v4 v5 σ) : hW Γ 0 0 0 [(0, .ref v0), (1, .ref v1), (2, .int v2), (3, .ref v3), (4, .int v4), (5, .ref v5)] [] σ := by
  unfold wX4_join_0 at hb
  refine g_aload_n (some v1) C dX4_join_0 1 rfl ?_
  obtain ⟨q1, hb⟩ := hb
  obtain ⟨a2, q3, hb⟩ := hb
  refine g_getR (some a2) C fl_RX4_134 dX4_join_1 q1 rfl rfl q3 ?_
  refine g_iconst (v := 0) C dX4_join_4 (by decide) ?_
  refine g_aload (some v5) C dX4_join_5 5 rfl ?_
  obtain ⟨q4, hb⟩ := hb
  obtain ⟨a5, q6, hb⟩ := hb
  refine g_getR (some a5) C fl_RX4_134 dX4_join_7 q4 rfl rfl q6 ?_
  refine g_iconst (v := 0) C dX4_join_10 (by decide) ?_
  refine g_iload_n C dX4_join_11 2 rfl ?_
  obtain ⟨q7, hb⟩ := hb
  obtain ⟨q8, hb⟩ := hb
  obtain ⟨q9, hb⟩ := hb
  obtain ⟨q10, hb⟩ := hb
  obtain ⟨q11, hb⟩ := hb
  obtain ⟨q12, hb⟩ := hb
  obtain ⟨q13, hb⟩ := hb
  refine g_copyI wd_681 wd_423 wd_422 wd_88 C (by first | exact Nat.le_of_ble_eq_true rfl | simp [cat_rf]) (by first | exact Nat.le_of_ble_eq_true rfl | simp [cat_rf]) dX4_join_12 q7 q8 q9 q10 q11 q12 q13 ?_
  refine g_aload_n (some v3) C dX4_join_15 3 rfl ?_
  obtain ⟨q14, hb⟩ := hb
  obtain ⟨a15, q16, hb⟩ := hb
  refine g_getR (some a15) C fl_RX4_134 dX4_join_16 (by rw [zK_uCi]; exact q14) rfl rfl (by rw [zFr_uCi]; exact q16) ?_
  refine g_iconst (v := 0) C dX4_join_19 (by decide) ?_
  refine g_aload (some v5) C dX4_join_20 5 rfl ?_
  refine g_getR (some a5) C fl_RX4_134 dX4_join_22 (by rw [zK_uCi]; exact q4) rfl rfl (by rw [zFr_uCi]; exact q6) ?_
  refine g_iload_n C dX4_join_25 2 rfl ?_
  refine g_iload C dX4_join_26 4 rfl ?_
  obtain ⟨q17, hb⟩ := hb
  obtain ⟨q18, hb⟩ := hb
  obtain ⟨q19, hb⟩ := hb
  obtain ⟨q20, hb⟩ := hb
  obtain ⟨q21, hb⟩ := hb
  obtain ⟨q22, hb⟩ := hb
  refine g_copyI wd_681 wd_423 wd_422 wd_88 C (by first | exact Nat.le_of_ble_eq_true rfl | simp [cat_rf]) (by first | exact Nat.le_of_ble_eq_true rfl | simp [cat_rf]) dX4_join_28 (by rw [zK_uCi]; exact q17) (by rw [zK_uCi]; exact q8) q18 q19 q20 (by rw [zL_uCi]; exact q21) (by rw [zL_uCi]; exact q22) ?_
  refine g_aload (some v5) C dX4_join_31 5 rfl ?_
  refine g_aload_n (some v1) C dX4_join_33 1 rfl ?_
  refine g_getJx (zFj σ 131 v1) C fl_RX4_176 dX4_join_34 (by rw [zK_uCi, zK_uCi]; exact q1) rfl rfl (by rw [zFj_uCi, zFj_uCi]) ?_
  refine g_aload_n (some v3) C dX4_join_37 3 rfl ?_
  refine g_getJx (zFj σ 131 v3) C fl_RX4_176 dX4_join_38 (by rw [zK_uCi, zK_uCi]; exact q14) rfl rfl (by rw [zFj_uCi, zFj_uCi]) ?_
  refine g_lmul C dX4_join_41 ?_
  refine g_putJ C fl_RX4_176 dX4_join_42 (by rw [zK_uCi, zK_uCi]; exact q4) rfl rfl rfl rfl ?_
  refine g_aload (some v5) C dX4_join_45 5 rfl ?_
  refine g_aload_n (some v1) C dX4_join_47 1 rfl ?_
  refine g_getIx (zFi σ 132 v1) C fl_RX4_180 dX4_join_48 (by rw [zK_uFj, zK_uCi, zK_uCi]; exact q1) rfl rfl (by rw [zFi_uFj, zFi_uCi, zFi_uCi]) ?_
  refine g_aload_n (some v3) C dX4_join_51 3 rfl ?_
  refine g_getIx (zFi σ 132 v3) C fl_RX4_180 dX4_join_52 (by rw [zK_uFj, zK_uCi, zK_uCi]; exact q14) rfl rfl (by rw [zFi_uFj, zFi_uCi, zFi_uCi]) ?_
  refine g_invS [.int (zFi σ 132 v1), .int (zFi σ 132 v3)] [.ref v5] zy_X4_costOfBoth wd_682 wd_683 C dX4_join_55 (by first | exact Nat.le_of_ble_eq_true rfl | simp [cat_rf]) (by first | exact Nat.le_of_ble_eq_true rfl | simp [cat_rf]) (by first | exact Nat.le_of_ble_eq_true rfl | simp [cat_rf]) (Nat.zero_le _) (Nat.zero_le _) rfl rfl  (okX4_costOfBoth hb) ?_
  rintro o σ23 ⟨y24, rfl, hb⟩
  refine ⟨_, rfl, ?_⟩
  obtain ⟨q25, hb⟩ := hb
  refine g_putI C fl_RX4_180 dX4_join_58 q25 rfl rfl rfl rfl ?_
  refine g_aload (some v5) C dX4_join_61 5 rfl ?_
  refine g_aload_n (some v1) C dX4_join_63 1 rfl ?_
  obtain ⟨q26, hb⟩ := hb
  refine g_getJx (zFj σ23 133 v1) C fl_RX4_187 dX4_join_64 (by rw [zK_uFi]; exact q26) rfl rfl (by rw [zFj_uFi]) ?_
  refine g_aload_n (some v3) C dX4_join_67 3 rfl ?_
  obtain ⟨q27, hb⟩ := hb
  refine g_getJx (zFj σ23 133 v3) C fl_RX4_187 dX4_join_68 (by rw [zK_uFi]; exact q27) rfl rfl (by rw [zFj_uFi]) ?_
  refine g_mminL wd_687 wd_688 wd_87 wd_689 C (by first | exact Nat.le_of_ble_eq_true rfl | simp [cat_rf]) (by first | exact Nat.le_of_ble_eq_true rfl | simp [cat_rf]) (Nat.zero_le _) (Nat.zero_le _) dX4_join_71 ?_
  refine g_putJ C fl_RX4_187 dX4_join_74 (by rw [zK_uFi]; exact q25) rfl rfl rfl rfl ?_
  refine g_aload_n (some v0) C dX4_join_77 0 rfl ?_
  obtain ⟨q28, hb⟩ := hb
  obtain ⟨a29, q30, hb⟩ := hb
  refine g_getR (some a29) C fl_RX4_20 dX4_join_78 (by rw [zK_uFj, zK_uFi]; exact q28) rfl rfl (by rw [zFr_uFj, zFr_uFi]; exact q30) ?_
  obtain ⟨q31, hb⟩ := hb
  refine g_invV (ci := 7) [] [] zy_X7_clear wd_635 wd_636 wd_637 ⟨_, _, rfl⟩ (by decide) C dX4_join_81 (by first | exact Nat.le_of_ble_eq_true rfl | simp [cat_rf]) (by first | exact Nat.le_of_ble_eq_true rfl | simp [cat_rf]) (by first | exact Nat.le_of_ble_eq_true rfl | simp [cat_rf]) (Nat.zero_le _) (Nat.zero_le _) rfl rfl (by rw [zK_uFj, zK_uFi]; exact q31) (okX7_clear hb) ?_
  rintro o σ32 ⟨rfl, hb⟩
  refine ⟨_, rfl, ?_⟩
  refine g_aload_n (some v0) C dX4_join_84 0 rfl ?_
  obtain ⟨q33, hb⟩ := hb
  obtain ⟨a34, q35, hb⟩ := hb
  refine g_getR (some a34) C fl_RX4_20 dX4_join_85 q33 rfl rfl q35 ?_
  refine g_aload_n (some v1) C dX4_join_88 1 rfl ?_
  refine g_aload_n (some v3) C dX4_join_89 3 rfl ?_
  obtain ⟨q36, hb⟩ := hb
  refine g_invV (ci := 7) [.ref v1, .ref v3] [] zy_X7_addUnions wd_690 wd_691 wd_692 ⟨_, _, rfl⟩ (by decide) C dX4_join_90 (by first | exact Nat.le_of_ble_eq_true rfl | simp [cat_rf]) (by first | exact Nat.le_of_ble_eq_true rfl | simp [cat_rf]) (by first | exact Nat.le_of_ble_eq_true rfl | simp [cat_rf]) (Nat.zero_le _) (Nat.zero_le _) rfl rfl q36 (okX7_addUnions hb) ?_
  rintro o σ37 ⟨rfl, hb⟩
  refine ⟨_, rfl, ?_⟩
  refine g_aload_n (some v0) C dX4_join_93 0 rfl ?_
  obtain ⟨q38, hb⟩ := hb
  obtain ⟨a39, q40, hb⟩ := hb
  refine g_getR (some a39) C fl_RX4_20 dX4_join_94 q38 rfl rfl q40 ?_
  refine g_aload (some v5) C dX4_join_97 5 rfl ?_
  obtain ⟨q41, hb⟩ := hb
  refine g_invV (ci := 7) [.ref v5] [] zy_X7_giveWays wd_694 wd_662 wd_663 ⟨_, _, rfl⟩ (by decide) C dX4_join_99 (by first | exact Nat.le_of_ble_eq_true rfl | simp [cat_rf]) (by first | exact Nat.le_of_ble_eq_true rfl | simp [cat_rf]) (by first | exact Nat.le_of_ble_eq_true rfl | simp [cat_rf]) (Nat.zero_le _) (Nat.zero_le _) rfl rfl q41 (okX7_giveWays hb) ?_
  rintro o σ42 ⟨y43, rfl, hb⟩
  refine ⟨_, rfl, ?_⟩
  obtain ⟨q44, hb⟩ := hb
  exact g_zreturn C (nz_n q44) hΓ (Nat.zero_le _) (Nat.zero_le _) dX4_join_102 ⟨_, rfl, hb⟩
theorem okX4_join {v0 : Nat} {v1 : Nat} {v2 : Int32} {v3 : Nat} {v4 : Int32} {v5 : Nat} {σ : St} {Q : Int32 → St → Prop} (hb : wX4_join v0 v1 v2 v3 v4 v5 σ Q) : hM yX4_join cX4_join 6 ((Option.some FieldType.boolean)) 2 61 0 0 [.ref v0, .ref v1, .int v2, .ref v3, .int v4, .ref v5] σ (oI Q) :=
  hM_of (by decide) (Nat.le_of_ble_eq_true rfl) (fun Γ hΓ C => kwX4_join_0 C hΓ _ _ _ _ _ _ _ hb)
def wX4_workPair_15 (Q : Int32 → St → Prop) (r3 : Nat → Nat → Nat → Nat → Nat → Int32 → St → Prop) (r15 : Nat → Nat → Nat → Nat → Nat → Int32 → Int32 → St → Prop) (v0 : Nat) (v1 : Nat) (v2 : Nat) (v3 : Nat) (v4 : Nat) (v5 : Int32) (v6 : Int32) (σ : St) : Prop :=
  zK σ v3 = 4 ∧ (((zFi σ 193 v3) ≤ v6 → r3 v0 v1 v2 v3 v4 (v5 + 1) σ) ∧ (¬ (zFi σ 193 v3) ≤ v6 → zK σ v2 = 4 ∧ ∃ a3 : Nat, zFr σ 192 v2 = some a3 ∧ zK σ a3 = 25 ∧ vp_in v5 (zL σ a3) ∧ ∃ a7 : Nat, zAr σ a3 (ix v5) = some a7 ∧ zK σ a7 = 3 ∧ ∃ a10 : Nat, zFr σ 128 a7 = some a10 ∧ zK σ v1 = 10 ∧ ∃ a13 : Nat, zFr σ 581 v1 = some a13 ∧ zK σ a13 = 20 ∧ vp_in 0 (zL σ a13) ∧ zK σ a10 = 20 ∧ vp_in (zAi σ a13 (ix 0)) (zL σ a10) ∧ ∃ a19 : Nat, zFr σ 192 v3 = some a19 ∧ zK σ a19 = 25 ∧ vp_in v6 (zL σ a19) ∧ ∃ a23 : Nat, zAr σ a19 (ix v6) = some a23 ∧ zK σ a23 = 3 ∧ ∃ a26 : Nat, zFr σ 128 a23 = some a26 ∧ vp_in 1 (zL σ a13) ∧ zK σ a26 = 20 ∧ vp_in (zAi σ a13 (ix 1)) (zL σ a26) ∧ (((zAi σ a10 (ix (zAi σ a13 (ix 0)))) = (zAi σ a26 (ix (zAi σ a13 (ix 1)))) → zK σ v4 = 4 ∧ wX3_grow v4 σ (fun y33 σ32 => ((y33 = none → Q 0 σ32) ∧ (∀ a34 : Nat, y33 = some a34 → zK σ32 v2 = 4 ∧ ∃ a36 : Nat, zFr σ32 192 v2 = some a36 ∧ zK σ32 a36 = 25 ∧ vp_in v5 (zL σ32 a36) ∧ ∃ a40 : Nat, zAr σ32 a36 (ix v5) = some a40 ∧ zK σ32 v3 = 4 ∧ ∃ a43 : Nat, zFr σ32 192 v3 = some a43 ∧ zK σ32 a43 = 25 ∧ vp_in v6 (zL σ32 a43) ∧ ∃ a47 : Nat, zAr σ32 a43 (ix v6) = some a47 ∧ zK σ32 v0 = 5 ∧ wX4_join v0 a40 (zFi σ32 194 v2) a47 (zFi σ32 194 v3) a34 σ32 (fun y51 σ50 => ((¬ y51 = 0 → r15 v0 v1 v2 v3 v4 v5 (v6 + 1) σ50) ∧ (y51 = 0 → Q 0 σ50))))))) ∧ (¬ (zAi σ a10 (ix (zAi σ a13 (ix 0)))) = (zAi σ a26 (ix (zAi σ a13 (ix 1)))) → r15 v0 v1 v2 v3 v4 v5 (v6 + 1) σ))))
def lX4_workPair_15 (Q : Int32 → St → Prop) (r3 : Nat → Nat → Nat → Nat → Nat → Int32 → St → Prop) : Nat → Nat → Nat → Nat → Nat → Nat → Int32 → Int32 → St → Prop
  | 0, _, _, _, _, _, _, _, _ => False
  | f + 1, v0, v1, v2, v3, v4, v5, v6, σ => wX4_workPair_15 Q r3 (lX4_workPair_15 Q r3 f) v0 v1 v2 v3 v4 v5 v6 σ
def wX4_workPair_3 (Q : Int32 → St → Prop) (r3 : Nat → Nat → Nat → Nat → Nat → Int32 → St → Prop) (v0 : Nat) (v1 : Nat) (v2 : Nat) (v3 : Nat) (v4 : Nat) (v5 : Int32) (σ : St) : Prop :=
  zK σ v2 = 4 ∧ (((zFi σ 193 v2) ≤ v5 → Q 1 σ) ∧ (¬ (zFi σ 193 v2) ≤ v5 → ∃ f, lX4_workPair_15 Q r3 f v0 v1 v2 v3 v4 v5 0 σ))
def lX4_workPair_3 (Q : Int32 → St → Prop) : Nat → Nat → Nat → Nat → Nat → Nat → Int32 → St → Prop
  | 0, _, _, _, _, _, _, _ => False
  | f + 1, v0, v1, v2, v3, v4, v5, σ => wX4_workPair_3 Q (lX4_workPair_3 Q f) v0 v1 v2 v3 v4 v5 σ
def wX4_workPair_0 (Q : Int32 → St → Prop) (v0 : Nat) (v1 : Nat) (v2 : Nat) (v3 : Nat) (v4 : Nat) (σ : St) : Prop :=
  ∃ f, lX4_workPair_3 Q f v0 v1 v2 v3 v4 0 σ
def wX4_workPair (v0 : Nat) (v1 : Nat) (v2 : Nat) (v3 : Nat) (v4 : Nat) (σ : St) (Q : Int32 → St → Prop) : Prop := wX4_workPair_0 Q v0 v1 v2 v3 v4 σ
set_option maxRecDepth 20000 in
theorem kwX4_workPair_15 {Γ : hCT} (C : hC Γ RX4 cX4_workPair ((Option.some FieldType.boolean)) "workPair" 3 86) {Q : Int32 → St → Prop} (hΓ : Γ.2.2.2.2.2.2.2.2.2.2.2 = (8, 0, 0, oI Q)) {r3 : Nat → Nat → Nat → Nat → Nat → Int32 → St → Prop} (h3 : ∀ (v0 : Nat) (v1 : Nat) (v2 : Nat) (v3 : Nat) (v4 : Nat) (v5 : Int32) (σ : St), r3 v0 v1 v2 v3 v4 v5 σ → hW Γ 0 0 3 [(0, .ref v0), (1, .ref v1), (2, .ref v2), (3, .ref v3), (4, .ref v4), (5, .int v5)] [] σ) {r15 : Nat → Nat → Nat → Nat → Nat → Int32 → Int32 → St → Prop} (h15 : ∀ (v0 : Nat) (v1 : Nat) (v2 : Nat) (v3 : Nat) (v4 : Nat) (v5 : Int32) (v6 : Int32) (σ : St), r15 v0 v1 v2 v3 v4 v5 v6 σ → hW Γ 0 0 15 [(0, .ref v0), (1, .ref v1), (2, .ref v2), (3, .ref v3), (4, .ref v4), (5, .int v5), (6, .int v6)] [] σ) (v0 : Nat) (v1 : Nat) (v2 : Nat) (v3 : Nat) (v4 : Nat) (v5 : Int32) (v6 : Int32) (σ : St) (hb : wX4_workPair_15 Q r3 r15 v0 v1 v2 v3 v4 v5 v6 σ) : hW Γ 0 0 15 [(0, .ref v0), (1, .ref v1), (2, .ref v2), (3, .ref v3), (4, .ref v4), (5, .int v5), (6, .int v6)] [] σ := by
  unfold wX4_workPair_15 at hb
  refine g_iload C dX4_workPair_15 6 rfl ?_
  refine g_aload_n (some v3) C dX4_workPair_17 3 rfl ?_
  obtain ⟨q1, hb⟩ := hb
  refine g_getIx (zFi σ 193 v3) C fl_RX4_127 dX4_workPair_18 q1 rfl rfl rfl ?_
  refine g_icmp_ge (tgt := 115) C dX4_workPair_21 (by decide) (fun c => ?_) (fun c => ?_)
  ·
    replace hb := hb.1 (c)
    refine g_iinc (v := v5 + 1) (lv' := [(5, .int (v5 + 1)), (0, .ref v0), (1, .ref v1), (2, .ref v2), (3, .ref v3), (4, .ref v4), (6, .int v6)]) C dX4_workPair_115 5 rfl rfl (hnl_of hΓ (by decide)) (by first | rfl | simp [cat_rf]) ?_
    refine g_goto (tgt := 3) C dX4_workPair_118 (by decide) ?_
    refine g_sub (lv' := [(0, .ref v0), (1, .ref v1), (2, .ref v2), (3, .ref v3), (4, .ref v4), (5, .int (v5 + 1))]) [1, 2, 3, 4, 5, 0] rfl ?_
    exact h3 _ _ _ _ _ _ _ hb
  ·
    replace hb := hb.2 (c)
    refine g_aload_n (some v2) C dX4_workPair_24 2 rfl ?_
    obtain ⟨q2, hb⟩ := hb
    obtain ⟨a3, q4, hb⟩ := hb
    refine g_getR (some a3) C fl_RX4_130 dX4_workPair_25 q2 rfl rfl q4 ?_
    refine g_iload C dX4_workPair_28 5 rfl ?_
    obtain ⟨q5, hb⟩ := hb
    obtain ⟨q6, hb⟩ := hb
    obtain ⟨a7, q8, hb⟩ := hb
    refine g_aald (some a7) el_25 C dX4_workPair_30 q5 q6 q8 ?_
    obtain ⟨q9, hb⟩ := hb
    obtain ⟨a10, q11, hb⟩ := hb
    refine g_getR (some a10) C fl_RX4_134 dX4_workPair_31 q9 rfl rfl q11 ?_
    refine g_aload_n (some v1) C dX4_workPair_34 1 rfl ?_
    obtain ⟨q12, hb⟩ := hb
    obtain ⟨a13, q14, hb⟩ := hb
    refine g_getR (some a13) C fl_RX4_135 dX4_workPair_35 q12 rfl rfl q14 ?_
    refine g_iconst (v := 0) C dX4_workPair_38 (by decide) ?_
    obtain ⟨q15, hb⟩ := hb
    obtain ⟨q16, hb⟩ := hb
    refine g_ialdx (zAi σ a13 (ix 0)) C dX4_workPair_39 q15 q16 rfl ?_
    obtain ⟨q17, hb⟩ := hb
    obtain ⟨q18, hb⟩ := hb
    refine g_ialdx (zAi σ a10 (ix (zAi σ a13 (ix 0)))) C dX4_workPair_40 q17 q18 rfl ?_
    refine g_aload_n (some v3) C dX4_workPair_41 3 rfl ?_
    obtain ⟨a19, q20, hb⟩ := hb
    refine g_getR (some a19) C fl_RX4_130 dX4_workPair_42 q1 rfl rfl q20 ?_
    refine g_iload C dX4_workPair_45 6 rfl ?_
    obtain ⟨q21, hb⟩ := hb
    obtain ⟨q22, hb⟩ := hb
    obtain ⟨a23, q24, hb⟩ := hb
    refine g_aald (some a23) el_25 C dX4_workPair_47 q21 q22 q24 ?_
    obtain ⟨q25, hb⟩ := hb
    obtain ⟨a26, q27, hb⟩ := hb
    refine g_getR (some a26) C fl_RX4_134 dX4_workPair_48 q25 rfl rfl q27 ?_
    refine g_aload_n (some v1) C dX4_workPair_51 1 rfl ?_
    refine g_getR (some a13) C fl_RX4_135 dX4_workPair_52 q12 rfl rfl q14 ?_
    refine g_iconst (v := 1) C dX4_workPair_55 (by decide) ?_
    obtain ⟨q28, hb⟩ := hb
    refine g_ialdx (zAi σ a13 (ix 1)) C dX4_workPair_56 q15 q28 rfl ?_
    obtain ⟨q29, hb⟩ := hb
    obtain ⟨q30, hb⟩ := hb
    refine g_ialdx (zAi σ a26 (ix (zAi σ a13 (ix 1)))) C dX4_workPair_57 q29 q30 rfl ?_
    refine g_icmp_eq (tgt := 64) C dX4_workPair_58 (by decide) (fun c => ?_) (fun c => ?_)
    ·
      replace hb := hb.1 (c)
      refine g_aload (some v4) C dX4_workPair_64 4 rfl ?_
      obtain ⟨q31, hb⟩ := hb
      refine g_invV (ci := 3) [] [] zy_X3_grow wd_599 wd_600 wd_601 ⟨_, _, rfl⟩ (by decide) C dX4_workPair_66 (by first | exact Nat.le_of_ble_eq_true rfl | simp [cat_rf]) (by first | exact Nat.le_of_ble_eq_true rfl | simp [cat_rf]) (by first | exact Nat.le_of_ble_eq_true rfl | simp [cat_rf]) (Nat.zero_le _) (Nat.zero_le _) rfl rfl q31 (okX3_grow hb) ?_
      rintro o σ32 ⟨y33, rfl, hb⟩
      refine ⟨_, rfl, ?_⟩
      refine g_astore (lv' := [(7, va_rf y33), (0, .ref v0), (1, .ref v1), (2, .ref v2), (3, .ref v3), (4, .ref v4), (5, .int v5), (6, .int v6)]) y33 C dX4_workPair_69 (hnl_of hΓ (by decide)) (by first | rfl | simp [cat_rf]) ?_
      refine g_aload y33 C dX4_workPair_71 0 rfl ?_
      refine g_ifnull (tgt := 107) y33 C dX4_workPair_73 (by decide) (fun c => ?_) (fun c => ?_)
      ·
        replace hb := hb.1 c
        refine g_iconst (v := 0) C dX4_workPair_107 (by decide) ?_
        exact g_zreturn C (by decide) hΓ (Nat.zero_le _) (Nat.zero_le _) dX4_workPair_108 ⟨_, rfl, hb⟩
      ·
        obtain ⟨a34, rfl⟩ := rf_some c
        replace hb := hb.2 a34 rfl
        refine g_aload_n (some v0) C dX4_workPair_76 1 rfl ?_
        refine g_aload_n (some v2) C dX4_workPair_77 3 rfl ?_
        obtain ⟨q35, hb⟩ := hb
        obtain ⟨a36, q37, hb⟩ := hb
        refine g_getR (some a36) C fl_RX4_130 dX4_workPair_78 q35 rfl rfl q37 ?_
        refine g_iload C dX4_workPair_81 6 rfl ?_
        obtain ⟨q38, hb⟩ := hb
        obtain ⟨q39, hb⟩ := hb
        obtain ⟨a40, q41, hb⟩ := hb
        refine g_aald (some a40) el_25 C dX4_workPair_83 q38 q39 q41 ?_
        refine g_aload_n (some v2) C dX4_workPair_84 3 rfl ?_
        refine g_getIx (zFi σ32 194 v2) C fl_RX4_165 dX4_workPair_85 q35 rfl rfl rfl ?_
        refine g_aload_n (some v3) C dX4_workPair_88 4 rfl ?_
        obtain ⟨q42, hb⟩ := hb
        obtain ⟨a43, q44, hb⟩ := hb
        refine g_getR (some a43) C fl_RX4_130 dX4_workPair_89 q42 rfl rfl q44 ?_
        refine g_iload C dX4_workPair_92 7 rfl ?_
        obtain ⟨q45, hb⟩ := hb
        obtain ⟨q46, hb⟩ := hb
        obtain ⟨a47, q48, hb⟩ := hb
        refine g_aald (some a47) el_25 C dX4_workPair_94 q45 q46 q48 ?_
        refine g_aload_n (some v3) C dX4_workPair_95 4 rfl ?_
        refine g_getIx (zFi σ32 194 v3) C fl_RX4_165 dX4_workPair_96 q42 rfl rfl rfl ?_
        refine g_aload (some a34) C dX4_workPair_99 0 rfl ?_
        obtain ⟨q49, hb⟩ := hb
        refine g_invV (ci := 4) [.ref a40, .int (zFi σ32 194 v2), .ref a47, .int (zFi σ32 194 v3), .ref a34] [] zy_X4_join wd_677 wd_679 wd_15 ⟨_, _, rfl⟩ (by decide) C dX4_workPair_101 (by first | exact Nat.le_of_ble_eq_true rfl | simp [cat_rf]) (by first | exact Nat.le_of_ble_eq_true rfl | simp [cat_rf]) (by first | exact Nat.le_of_ble_eq_true rfl | simp [cat_rf]) (Nat.zero_le _) (Nat.zero_le _) rfl rfl q49 (okX4_join hb) ?_
        rintro o σ50 ⟨y51, rfl, hb⟩
        refine ⟨_, rfl, ?_⟩
        refine g_if_ne (tgt := 109) C dX4_workPair_104 (by decide) (fun c => ?_) (fun c => ?_)
        ·
          replace hb := hb.1 (c)
          refine g_iinc (v := v6 + 1) (lv' := [(6, .int (v6 + 1)), (7, .ref a34), (0, .ref v0), (1, .ref v1), (2, .ref v2), (3, .ref v3), (4, .ref v4), (5, .int v5)]) C dX4_workPair_109 7 rfl rfl (hnl_of hΓ (by decide)) (by first | rfl | simp [cat_rf]) ?_
          refine g_goto (tgt := 15) C dX4_workPair_112 (by decide) ?_
          refine g_sub (lv' := [(0, .ref v0), (1, .ref v1), (2, .ref v2), (3, .ref v3), (4, .ref v4), (5, .int v5), (6, .int (v6 + 1))]) [2, 3, 4, 5, 6, 7, 0] rfl ?_
          exact h15 _ _ _ _ _ _ _ _ hb
        ·
          replace hb := hb.2 (c)
          refine g_iconst (v := 0) C dX4_workPair_107 (by decide) ?_
          exact g_zreturn C (by decide) hΓ (Nat.zero_le _) (Nat.zero_le _) dX4_workPair_108 ⟨_, rfl, hb⟩
    ·
      replace hb := hb.2 (c)
      refine g_goto (tgt := 109) C dX4_workPair_61 (by decide) ?_
      refine g_iinc (v := v6 + 1) (lv' := [(6, .int (v6 + 1)), (0, .ref v0), (1, .ref v1), (2, .ref v2), (3, .ref v3), (4, .ref v4), (5, .int v5)]) C dX4_workPair_109 6 rfl rfl (hnl_of hΓ (by decide)) (by first | rfl | simp [cat_rf]) ?_
      refine g_goto (tgt := 15) C dX4_workPair_112 (by decide) ?_
      refine g_sub (lv' := [(0, .ref v0), (1, .ref v1), (2, .ref v2), (3, .ref v3), (4, .ref v4), (5, .int v5), (6, .int (v6 + 1))]) [1, 2, 3, 4, 5, 6, 0] rfl ?_
      exact h15 _ _ _ _ _ _ _ _ hb
theorem klX4_workPair_15 {Γ : hCT} (C : hC Γ RX4 cX4_workPair ((Option.some FieldType.boolean)) "workPair" 3 86) {Q : Int32 → St → Prop} (hΓ : Γ.2.2.2.2.2.2.2.2.2.2.2 = (8, 0, 0, oI Q)) {r3 : Nat → Nat → Nat → Nat → Nat → Int32 → St → Prop} (h3 : ∀ (v0 : Nat) (v1 : Nat) (v2 : Nat) (v3 : Nat) (v4 : Nat) (v5 : Int32) (σ : St), r3 v0 v1 v2 v3 v4 v5 σ → hW Γ 0 0 3 [(0, .ref v0), (1, .ref v1), (2, .ref v2), (3, .ref v3), (4, .ref v4), (5, .int v5)] [] σ) (f : Nat) (v0 : Nat) (v1 : Nat) (v2 : Nat) (v3 : Nat) (v4 : Nat) (v5 : Int32) (v6 : Int32) (σ : St) (hb : lX4_workPair_15 Q r3 f v0 v1 v2 v3 v4 v5 v6 σ) : hW Γ 0 0 15 [(0, .ref v0), (1, .ref v1), (2, .ref v2), (3, .ref v3), (4, .ref v4), (5, .int v5), (6, .int v6)] [] σ := by
  induction f generalizing v0 v1 v2 v3 v4 v5 v6 σ with
  | zero => exact hb.elim
  | succ f ih => exact kwX4_workPair_15 C hΓ h3 (fun v0 v1 v2 v3 v4 v5 v6 σ h => ih v0 v1 v2 v3 v4 v5 v6 σ h) _ _ _ _ _ _ _ _ hb
set_option maxRecDepth 20000 in
theorem kwX4_workPair_3 {Γ : hCT} (C : hC Γ RX4 cX4_workPair ((Option.some FieldType.boolean)) "workPair" 3 86) {Q : Int32 → St → Prop} (hΓ : Γ.2.2.2.2.2.2.2.2.2.2.2 = (8, 0, 0, oI Q)) {r3 : Nat → Nat → Nat → Nat → Nat → Int32 → St → Prop} (h3 : ∀ (v0 : Nat) (v1 : Nat) (v2 : Nat) (v3 : Nat) (v4 : Nat) (v5 : Int32) (σ : St), r3 v0 v1 v2 v3 v4 v5 σ → hW Γ 0 0 3 [(0, .ref v0), (1, .ref v1), (2, .ref v2), (3, .ref v3), (4, .ref v4), (5, .int v5)] [] σ) (v0 : Nat) (v1 : Nat) (v2 : Nat) (v3 : Nat) (v4 : Nat) (v5 : Int32) (σ : St) (hb : wX4_workPair_3 Q r3 v0 v1 v2 v3 v4 v5 σ) : hW Γ 0 0 3 [(0, .ref v0), (1, .ref v1), (2, .ref v2), (3, .ref v3), (4, .ref v4), (5, .int v5)] [] σ := by
  unfold wX4_workPair_3 at hb
  refine g_iload C dX4_workPair_3 5 rfl ?_
  refine g_aload_n (some v2) C dX4_workPair_5 2 rfl ?_
  obtain ⟨q1, hb⟩ := hb
  refine g_getIx (zFi σ 193 v2) C fl_RX4_127 dX4_workPair_6 q1 rfl rfl rfl ?_
  refine g_icmp_ge (tgt := 121) C dX4_workPair_9 (by decide) (fun c => ?_) (fun c => ?_)
  ·
    replace hb := hb.1 (c)
    refine g_iconst (v := 1) C dX4_workPair_121 (by decide) ?_
    exact g_zreturn C (by decide) hΓ (Nat.zero_le _) (Nat.zero_le _) dX4_workPair_122 ⟨_, rfl, hb⟩
  ·
    replace hb := hb.2 (c)
    refine g_iconst (v := 0) C dX4_workPair_12 (by decide) ?_
    refine g_istore (lv' := [(6, .int 0), (0, .ref v0), (1, .ref v1), (2, .ref v2), (3, .ref v3), (4, .ref v4), (5, .int v5)]) C dX4_workPair_13 (hnl_of hΓ (by decide)) (by first | rfl | simp [cat_rf]) ?_
    refine g_sub (lv' := [(0, .ref v0), (1, .ref v1), (2, .ref v2), (3, .ref v3), (4, .ref v4), (5, .int v5), (6, .int 0)]) [1, 2, 3, 4, 5, 6, 0] rfl ?_
    obtain ⟨f2, hb⟩ := hb
    exact klX4_workPair_15 C hΓ h3 f2 _ _ _ _ _ _ _ _ hb
theorem klX4_workPair_3 {Γ : hCT} (C : hC Γ RX4 cX4_workPair ((Option.some FieldType.boolean)) "workPair" 3 86) {Q : Int32 → St → Prop} (hΓ : Γ.2.2.2.2.2.2.2.2.2.2.2 = (8, 0, 0, oI Q)) (f : Nat) (v0 : Nat) (v1 : Nat) (v2 : Nat) (v3 : Nat) (v4 : Nat) (v5 : Int32) (σ : St) (hb : lX4_workPair_3 Q f v0 v1 v2 v3 v4 v5 σ) : hW Γ 0 0 3 [(0, .ref v0), (1, .ref v1), (2, .ref v2), (3, .ref v3), (4, .ref v4), (5, .int v5)] [] σ := by
  induction f generalizing v0 v1 v2 v3 v4 v5 σ with
  | zero => exact hb.elim
  | succ f ih => exact kwX4_workPair_3 C hΓ  (fun v0 v1 v2 v3 v4 v5 σ h => ih v0 v1 v2 v3 v4 v5 σ h) _ _ _ _ _ _ _ hb
set_option maxRecDepth 20000 in
theorem kwX4_workPair_0 {Γ : hCT} (C : hC Γ RX4 cX4_workPair ((Option.some FieldType.boolean)) "workPair" 3 86) {Q : Int32 → St → Prop} (hΓ : Γ.2.2.2.2.2.2.2.2.2.2.2 = (8, 0, 0, oI Q)) (v0 : Nat) (v1 : Nat) (v2 : Nat) (v3 : Nat) (v4 : Nat) (σ : St) (hb : wX4_workPair_0 Q v0 v1 v2 v3 v4 σ) : hW Γ 0 0 0 [(0, .ref v0), (1, .ref v1), (2, .ref v2), (3, .ref v3), (4, .ref v4)] [] σ := by
  unfold wX4_workPair_0 at hb
  refine g_iconst (v := 0) C dX4_workPair_0 (by decide) ?_
  refine g_istore (lv' := [(5, .int 0), (0, .ref v0), (1, .ref v1), (2, .ref v2), (3, .ref v3), (4, .ref v4)]) C dX4_workPair_1 (hnl_of hΓ (by decide)) (by first | rfl | simp [cat_rf]) ?_
  refine g_sub (lv' := [(0, .ref v0), (1, .ref v1), (2, .ref v2), (3, .ref v3), (4, .ref v4), (5, .int 0)]) [1, 2, 3, 4, 5, 0] rfl ?_
  obtain ⟨f1, hb⟩ := hb
  exact klX4_workPair_3 C hΓ  f1 _ _ _ _ _ _ _ hb
theorem okX4_workPair {v0 : Nat} {v1 : Nat} {v2 : Nat} {v3 : Nat} {v4 : Nat} {σ : St} {Q : Int32 → St → Prop} (hb : wX4_workPair v0 v1 v2 v3 v4 σ Q) : hM yX4_workPair cX4_workPair 8 ((Option.some FieldType.boolean)) 3 86 0 0 [.ref v0, .ref v1, .ref v2, .ref v3, .ref v4] σ (oI Q) :=
  hM_of (by decide) (Nat.le_of_ble_eq_true rfl) (fun Γ hΓ C => kwX4_workPair_0 C hΓ _ _ _ _ _ _ hb)
def wX3_add_0 (Q : Int32 → St → Prop) (v0 : Nat) (v1 : Nat) (σ : St) : Prop :=
  zK σ v0 = 4 ∧ wX3_grow v0 σ (fun y3 σ2 => ((y3 = none → Q 0 σ2) ∧ (∀ a4 : Nat, y3 = some a4 → zK σ2 v1 = 3 ∧ ∃ a6 : Nat, zFr σ2 128 v1 = some a6 ∧ zK σ2 a4 = 3 ∧ wX2_takeRow a4 a6 σ2 (fun σ9 => zK σ9 a4 = 3 ∧ wX2_takeRest a4 v1 σ9 (fun σ11 => Q 1 σ11)))))
def wX3_add (v0 : Nat) (v1 : Nat) (σ : St) (Q : Int32 → St → Prop) : Prop := wX3_add_0 Q v0 v1 σ
set_option maxRecDepth 20000 in
theorem kwX3_add_0 {Γ : hCT} (C : hC Γ RX3 cX3_add ((Option.some FieldType.boolean)) "add" 2 81) {Q : Int32 → St → Prop} (hΓ : Γ.2.2.2.2.2.2.2.2.2.2.2 = (3, 0, 0, oI Q)) (v0 : Nat) (v1 : Nat) (σ : St) (hb : wX3_add_0 Q v0 v1 σ) : hW Γ 0 0 0 [(0, .ref v0), (1, .ref v1)] [] σ := by
  unfold wX3_add_0 at hb
  refine g_aload_n (some v0) C dX3_add_0 0 rfl ?_
  obtain ⟨q1, hb⟩ := hb
  refine g_invV (ci := 3) [] [] zy_X3_grow wd_625 wd_600 wd_601 ⟨_, _, rfl⟩ (by decide) C dX3_add_1 (by first | exact Nat.le_of_ble_eq_true rfl | simp [cat_rf]) (by first | exact Nat.le_of_ble_eq_true rfl | simp [cat_rf]) (by first | exact Nat.le_of_ble_eq_true rfl | simp [cat_rf]) (Nat.zero_le _) (Nat.zero_le _) rfl rfl q1 (okX3_grow hb) ?_
  rintro o σ2 ⟨y3, rfl, hb⟩
  refine ⟨_, rfl, ?_⟩
  refine g_astore_n (i := 2) (lv' := [(2, va_rf y3), (0, .ref v0), (1, .ref v1)]) y3 C dX3_add_4 rfl (hnl_of hΓ (by decide)) (by first | rfl | simp [cat_rf]) ?_
  refine g_aload_n y3 C dX3_add_5 0 rfl ?_
  refine g_ifnonnull (tgt := 11) y3 C dX3_add_6 (by decide) (fun c => ?_) (fun c => ?_)
  ·
    obtain ⟨a4, rfl⟩ := rf_some c
    replace hb := hb.2 a4 rfl
    refine g_aload_n (some a4) C dX3_add_11 0 rfl ?_
    refine g_aload_n (some v1) C dX3_add_12 2 rfl ?_
    obtain ⟨q5, hb⟩ := hb
    obtain ⟨a6, q7, hb⟩ := hb
    refine g_getR (some a6) C fl_RX3_29 dX3_add_13 q5 rfl rfl q7 ?_
    obtain ⟨q8, hb⟩ := hb
    refine g_invV (ci := 2) [.ref a6] [] zy_X2_takeRow wd_626 wd_627 wd_628 ⟨_, _, rfl⟩ (by decide) C dX3_add_16 (by first | exact Nat.le_of_ble_eq_true rfl | simp [cat_rf]) (by first | exact Nat.le_of_ble_eq_true rfl | simp [cat_rf]) (by first | exact Nat.le_of_ble_eq_true rfl | simp [cat_rf]) (Nat.zero_le _) (Nat.zero_le _) rfl rfl q8 (okX2_takeRow hb) ?_
    rintro o σ9 ⟨rfl, hb⟩
    refine ⟨_, rfl, ?_⟩
    refine g_aload_n (some a4) C dX3_add_19 0 rfl ?_
    refine g_aload_n (some v1) C dX3_add_20 2 rfl ?_
    obtain ⟨q10, hb⟩ := hb
    refine g_invV (ci := 2) [.ref v1] [] zy_X2_takeRest wd_703 wd_670 wd_671 ⟨_, _, rfl⟩ (by decide) C dX3_add_21 (by first | exact Nat.le_of_ble_eq_true rfl | simp [cat_rf]) (by first | exact Nat.le_of_ble_eq_true rfl | simp [cat_rf]) (by first | exact Nat.le_of_ble_eq_true rfl | simp [cat_rf]) (Nat.zero_le _) (Nat.zero_le _) rfl rfl q10 (okX2_takeRest hb) ?_
    rintro o σ11 ⟨rfl, hb⟩
    refine ⟨_, rfl, ?_⟩
    refine g_iconst (v := 1) C dX3_add_24 (by decide) ?_
    exact g_zreturn C (by decide) hΓ (Nat.zero_le _) (Nat.zero_le _) dX3_add_25 ⟨_, rfl, hb⟩
  ·
    replace hb := hb.1 c
    refine g_iconst (v := 0) C dX3_add_9 (by decide) ?_
    exact g_zreturn C (by decide) hΓ (Nat.zero_le _) (Nat.zero_le _) dX3_add_10 ⟨_, rfl, hb⟩
theorem okX3_add {v0 : Nat} {v1 : Nat} {σ : St} {Q : Int32 → St → Prop} (hb : wX3_add v0 v1 σ Q) : hM yX3_add cX3_add 3 ((Option.some FieldType.boolean)) 2 81 0 0 [.ref v0, .ref v1] σ (oI Q) :=
  hM_of (by decide) (Nat.le_of_ble_eq_true rfl) (fun Γ hΓ C => kwX3_add_0 C hΓ _ _ _ hb)
def wX4_workEither_36 (Q : Int32 → St → Prop) (r36 : Nat → Nat → Nat → Int32 → St → Prop) (v0 : Nat) (v2 : Nat) (v3 : Nat) (v4 : Int32) (σ : St) : Prop :=
  zK σ v2 = 4 ∧ (((zFi σ 193 v2) ≤ v4 → zK σ v0 = 5 ∧ wX4_melt v0 v3 σ (fun y4 σ3 => (y4 = 0 ∨ y4 = 1) ∧ Q y4 σ3)) ∧ (¬ (zFi σ 193 v2) ≤ v4 → zK σ v0 = 5 ∧ ∃ a7 : Nat, zFr σ 260 v0 = some a7 ∧ ∃ a9 : Nat, zFr σ 192 v2 = some a9 ∧ zK σ a9 = 25 ∧ vp_in v4 (zL σ a9) ∧ ∃ a13 : Nat, zAr σ a9 (ix v4) = some a13 ∧ zK σ a7 = 4 ∧ wX3_add a7 a13 σ (fun y17 σ16 => r36 v0 v2 v3 (v4 + 1) σ16)))
def lX4_workEither_36 (Q : Int32 → St → Prop) : Nat → Nat → Nat → Nat → Int32 → St → Prop
  | 0, _, _, _, _, _ => False
  | f + 1, v0, v2, v3, v4, σ => wX4_workEither_36 Q (lX4_workEither_36 Q f) v0 v2 v3 v4 σ
def wX4_workEither_3 (Q : Int32 → St → Prop) (r3 : Nat → Nat → Nat → Nat → Int32 → St → Prop) (v0 : Nat) (v1 : Nat) (v2 : Nat) (v3 : Nat) (v4 : Int32) (σ : St) : Prop :=
  zK σ v1 = 4 ∧ (((zFi σ 193 v1) ≤ v4 → ∃ f, lX4_workEither_36 Q f v0 v2 v3 0 σ) ∧ (¬ (zFi σ 193 v1) ≤ v4 → zK σ v0 = 5 ∧ ∃ a4 : Nat, zFr σ 260 v0 = some a4 ∧ ∃ a6 : Nat, zFr σ 192 v1 = some a6 ∧ zK σ a6 = 25 ∧ vp_in v4 (zL σ a6) ∧ ∃ a10 : Nat, zAr σ a6 (ix v4) = some a10 ∧ zK σ a4 = 4 ∧ wX3_add a4 a10 σ (fun y14 σ13 => r3 v0 v1 v2 v3 (v4 + 1) σ13)))
def lX4_workEither_3 (Q : Int32 → St → Prop) : Nat → Nat → Nat → Nat → Nat → Int32 → St → Prop
  | 0, _, _, _, _, _, _ => False
  | f + 1, v0, v1, v2, v3, v4, σ => wX4_workEither_3 Q (lX4_workEither_3 Q f) v0 v1 v2 v3 v4 σ
def wX4_workEither_0 (Q : Int32 → St → Prop) (v0 : Nat) (v1 : Nat) (v2 : Nat) (v3 : Nat) (σ : St) : Prop :=
  ∃ f, lX4_workEither_3 Q f v0 v1 v2 v3 0 σ
def wX4_workEither (v0 : Nat) (v1 : Nat) (v2 : Nat) (v3 : Nat) (σ : St) (Q : Int32 → St → Prop) : Prop := wX4_workEither_0 Q v0 v1 v2 v3 σ
set_option maxRecDepth 20000 in
theorem kwX4_workEither_36 {Γ : hCT} (C : hC Γ RX4 cX4_workEither ((Option.some FieldType.boolean)) "workEither" 4 128) {Q : Int32 → St → Prop} (hΓ : Γ.2.2.2.2.2.2.2.2.2.2.2 = (5, 0, 0, oI Q)) {r36 : Nat → Nat → Nat → Int32 → St → Prop} (h36 : ∀ (v0 : Nat) (v2 : Nat) (v3 : Nat) (v4 : Int32) (σ : St), r36 v0 v2 v3 v4 σ → hW Γ 0 0 36 [(0, .ref v0), (2, .ref v2), (3, .ref v3), (4, .int v4)] [] σ) (v0 : Nat) (v2 : Nat) (v3 : Nat) (v4 : Int32) (σ : St) (hb : wX4_workEither_36 Q r36 v0 v2 v3 v4 σ) : hW Γ 0 0 36 [(0, .ref v0), (2, .ref v2), (3, .ref v3), (4, .int v4)] [] σ := by
  unfold wX4_workEither_36 at hb
  refine g_iload C dX4_workEither_36 3 rfl ?_
  refine g_aload_n (some v2) C dX4_workEither_38 1 rfl ?_
  obtain ⟨q1, hb⟩ := hb
  refine g_getIx (zFi σ 193 v2) C fl_RX4_127 dX4_workEither_39 q1 rfl rfl rfl ?_
  refine g_icmp_ge (tgt := 66) C dX4_workEither_42 (by decide) (fun c => ?_) (fun c => ?_)
  ·
    replace hb := hb.1 (c)
    refine g_aload_n (some v0) C dX4_workEither_66 0 rfl ?_
    refine g_aload_n (some v3) C dX4_workEither_67 2 rfl ?_
    obtain ⟨q2, hb⟩ := hb
    refine g_invV (ci := 4) [.ref v3] [] zy_X4_melt wd_609 wd_611 wd_11 ⟨_, _, rfl⟩ (by decide) C dX4_workEither_68 (by first | exact Nat.le_of_ble_eq_true rfl | simp [cat_rf]) (by first | exact Nat.le_of_ble_eq_true rfl | simp [cat_rf]) (by first | exact Nat.le_of_ble_eq_true rfl | simp [cat_rf]) (Nat.zero_le _) (Nat.zero_le _) rfl rfl q2 (okX4_melt hb) ?_
    rintro o σ3 ⟨y4, rfl, hb⟩
    refine ⟨_, rfl, ?_⟩
    obtain ⟨q5, hb⟩ := hb
    exact g_zreturn C (nz_n q5) hΓ (Nat.zero_le _) (Nat.zero_le _) dX4_workEither_71 ⟨_, rfl, hb⟩
  ·
    replace hb := hb.2 (c)
    refine g_aload_n (some v0) C dX4_workEither_45 0 rfl ?_
    obtain ⟨q6, hb⟩ := hb
    obtain ⟨a7, q8, hb⟩ := hb
    refine g_getR (some a7) C fl_RX4_27 dX4_workEither_46 q6 rfl rfl q8 ?_
    refine g_aload_n (some v2) C dX4_workEither_49 1 rfl ?_
    obtain ⟨a9, q10, hb⟩ := hb
    refine g_getR (some a9) C fl_RX4_130 dX4_workEither_50 q1 rfl rfl q10 ?_
    refine g_iload C dX4_workEither_53 3 rfl ?_
    obtain ⟨q11, hb⟩ := hb
    obtain ⟨q12, hb⟩ := hb
    obtain ⟨a13, q14, hb⟩ := hb
    refine g_aald (some a13) el_25 C dX4_workEither_55 q11 q12 q14 ?_
    obtain ⟨q15, hb⟩ := hb
    refine g_invV (ci := 3) [.ref a13] [] zy_X3_add wd_699 wd_700 wd_701 ⟨_, _, rfl⟩ (by decide) C dX4_workEither_56 (by first | exact Nat.le_of_ble_eq_true rfl | simp [cat_rf]) (by first | exact Nat.le_of_ble_eq_true rfl | simp [cat_rf]) (by first | exact Nat.le_of_ble_eq_true rfl | simp [cat_rf]) (Nat.zero_le _) (Nat.zero_le _) rfl rfl q15 (okX3_add hb) ?_
    rintro o σ16 ⟨y17, rfl, hb⟩
    refine ⟨_, rfl, ?_⟩
    refine g_pop C dX4_workEither_59 rfl ?_
    refine g_iinc (v := v4 + 1) (lv' := [(4, .int (v4 + 1)), (0, .ref v0), (2, .ref v2), (3, .ref v3)]) C dX4_workEither_60 3 rfl rfl (hnl_of hΓ (by decide)) (by first | rfl | simp [cat_rf]) ?_
    refine g_goto (tgt := 36) C dX4_workEither_63 (by decide) ?_
    refine g_sub (lv' := [(0, .ref v0), (2, .ref v2), (3, .ref v3), (4, .int (v4 + 1))]) [1, 2, 3, 0] rfl ?_
    exact h36 _ _ _ _ _ hb
theorem klX4_workEither_36 {Γ : hCT} (C : hC Γ RX4 cX4_workEither ((Option.some FieldType.boolean)) "workEither" 4 128) {Q : Int32 → St → Prop} (hΓ : Γ.2.2.2.2.2.2.2.2.2.2.2 = (5, 0, 0, oI Q)) (f : Nat) (v0 : Nat) (v2 : Nat) (v3 : Nat) (v4 : Int32) (σ : St) (hb : lX4_workEither_36 Q f v0 v2 v3 v4 σ) : hW Γ 0 0 36 [(0, .ref v0), (2, .ref v2), (3, .ref v3), (4, .int v4)] [] σ := by
  induction f generalizing v0 v2 v3 v4 σ with
  | zero => exact hb.elim
  | succ f ih => exact kwX4_workEither_36 C hΓ  (fun v0 v2 v3 v4 σ h => ih v0 v2 v3 v4 σ h) _ _ _ _ _ hb
set_option maxRecDepth 20000 in
theorem kwX4_workEither_3 {Γ : hCT} (C : hC Γ RX4 cX4_workEither ((Option.some FieldType.boolean)) "workEither" 4 128) {Q : Int32 → St → Prop} (hΓ : Γ.2.2.2.2.2.2.2.2.2.2.2 = (5, 0, 0, oI Q)) {r3 : Nat → Nat → Nat → Nat → Int32 → St → Prop} (h3 : ∀ (v0 : Nat) (v1 : Nat) (v2 : Nat) (v3 : Nat) (v4 : Int32) (σ : St), r3 v0 v1 v2 v3 v4 σ → hW Γ 0 0 3 [(0, .ref v0), (1, .ref v1), (2, .ref v2), (3, .ref v3), (4, .int v4)] [] σ) (v0 : Nat) (v1 : Nat) (v2 : Nat) (v3 : Nat) (v4 : Int32) (σ : St) (hb : wX4_workEither_3 Q r3 v0 v1 v2 v3 v4 σ) : hW Γ 0 0 3 [(0, .ref v0), (1, .ref v1), (2, .ref v2), (3, .ref v3), (4, .int v4)] [] σ := by
  unfold wX4_workEither_3 at hb
  refine g_iload C dX4_workEither_3 4 rfl ?_
  refine g_aload_n (some v1) C dX4_workEither_5 1 rfl ?_
  obtain ⟨q1, hb⟩ := hb
  refine g_getIx (zFi σ 193 v1) C fl_RX4_127 dX4_workEither_6 q1 rfl rfl rfl ?_
  refine g_icmp_ge (tgt := 33) C dX4_workEither_9 (by decide) (fun c => ?_) (fun c => ?_)
  ·
    replace hb := hb.1 (c)
    refine g_iconst (v := 0) C dX4_workEither_33 (by decide) ?_
    refine g_istore (lv' := [(4, .int 0), (0, .ref v0), (1, .ref v1), (2, .ref v2), (3, .ref v3)]) C dX4_workEither_34 (hnl_of hΓ (by decide)) (by first | rfl | simp [cat_rf]) ?_
    refine g_sub (lv' := [(0, .ref v0), (2, .ref v2), (3, .ref v3), (4, .int 0)]) [1, 3, 4, 0] rfl ?_
    obtain ⟨f2, hb⟩ := hb
    exact klX4_workEither_36 C hΓ  f2 _ _ _ _ _ hb
  ·
    replace hb := hb.2 (c)
    refine g_aload_n (some v0) C dX4_workEither_12 0 rfl ?_
    obtain ⟨q3, hb⟩ := hb
    obtain ⟨a4, q5, hb⟩ := hb
    refine g_getR (some a4) C fl_RX4_27 dX4_workEither_13 q3 rfl rfl q5 ?_
    refine g_aload_n (some v1) C dX4_workEither_16 1 rfl ?_
    obtain ⟨a6, q7, hb⟩ := hb
    refine g_getR (some a6) C fl_RX4_130 dX4_workEither_17 q1 rfl rfl q7 ?_
    refine g_iload C dX4_workEither_20 4 rfl ?_
    obtain ⟨q8, hb⟩ := hb
    obtain ⟨q9, hb⟩ := hb
    obtain ⟨a10, q11, hb⟩ := hb
    refine g_aald (some a10) el_25 C dX4_workEither_22 q8 q9 q11 ?_
    obtain ⟨q12, hb⟩ := hb
    refine g_invV (ci := 3) [.ref a10] [] zy_X3_add wd_699 wd_700 wd_701 ⟨_, _, rfl⟩ (by decide) C dX4_workEither_23 (by first | exact Nat.le_of_ble_eq_true rfl | simp [cat_rf]) (by first | exact Nat.le_of_ble_eq_true rfl | simp [cat_rf]) (by first | exact Nat.le_of_ble_eq_true rfl | simp [cat_rf]) (Nat.zero_le _) (Nat.zero_le _) rfl rfl q12 (okX3_add hb) ?_
    rintro o σ13 ⟨y14, rfl, hb⟩
    refine ⟨_, rfl, ?_⟩
    refine g_pop C dX4_workEither_26 rfl ?_
    refine g_iinc (v := v4 + 1) (lv' := [(4, .int (v4 + 1)), (0, .ref v0), (1, .ref v1), (2, .ref v2), (3, .ref v3)]) C dX4_workEither_27 4 rfl rfl (hnl_of hΓ (by decide)) (by first | rfl | simp [cat_rf]) ?_
    refine g_goto (tgt := 3) C dX4_workEither_30 (by decide) ?_
    refine g_sub (lv' := [(0, .ref v0), (1, .ref v1), (2, .ref v2), (3, .ref v3), (4, .int (v4 + 1))]) [1, 2, 3, 4, 0] rfl ?_
    exact h3 _ _ _ _ _ _ hb
theorem klX4_workEither_3 {Γ : hCT} (C : hC Γ RX4 cX4_workEither ((Option.some FieldType.boolean)) "workEither" 4 128) {Q : Int32 → St → Prop} (hΓ : Γ.2.2.2.2.2.2.2.2.2.2.2 = (5, 0, 0, oI Q)) (f : Nat) (v0 : Nat) (v1 : Nat) (v2 : Nat) (v3 : Nat) (v4 : Int32) (σ : St) (hb : lX4_workEither_3 Q f v0 v1 v2 v3 v4 σ) : hW Γ 0 0 3 [(0, .ref v0), (1, .ref v1), (2, .ref v2), (3, .ref v3), (4, .int v4)] [] σ := by
  induction f generalizing v0 v1 v2 v3 v4 σ with
  | zero => exact hb.elim
  | succ f ih => exact kwX4_workEither_3 C hΓ  (fun v0 v1 v2 v3 v4 σ h => ih v0 v1 v2 v3 v4 σ h) _ _ _ _ _ _ hb
set_option maxRecDepth 20000 in
theorem kwX4_workEither_0 {Γ : hCT} (C : hC Γ RX4 cX4_workEither ((Option.some FieldType.boolean)) "workEither" 4 128) {Q : Int32 → St → Prop} (hΓ : Γ.2.2.2.2.2.2.2.2.2.2.2 = (5, 0, 0, oI Q)) (v0 : Nat) (v1 : Nat) (v2 : Nat) (v3 : Nat) (σ : St) (hb : wX4_workEither_0 Q v0 v1 v2 v3 σ) : hW Γ 0 0 0 [(0, .ref v0), (1, .ref v1), (2, .ref v2), (3, .ref v3)] [] σ := by
  unfold wX4_workEither_0 at hb
  refine g_iconst (v := 0) C dX4_workEither_0 (by decide) ?_
  refine g_istore (lv' := [(4, .int 0), (0, .ref v0), (1, .ref v1), (2, .ref v2), (3, .ref v3)]) C dX4_workEither_1 (hnl_of hΓ (by decide)) (by first | rfl | simp [cat_rf]) ?_
  refine g_sub (lv' := [(0, .ref v0), (1, .ref v1), (2, .ref v2), (3, .ref v3), (4, .int 0)]) [1, 2, 3, 4, 0] rfl ?_
  obtain ⟨f1, hb⟩ := hb
  exact klX4_workEither_3 C hΓ  f1 _ _ _ _ _ _ hb
theorem okX4_workEither {v0 : Nat} {v1 : Nat} {v2 : Nat} {v3 : Nat} {σ : St} {Q : Int32 → St → Prop} (hb : wX4_workEither v0 v1 v2 v3 σ Q) : hM yX4_workEither cX4_workEither 5 ((Option.some FieldType.boolean)) 4 128 0 0 [.ref v0, .ref v1, .ref v2, .ref v3] σ (oI Q) :=
  hM_of (by decide) (Nat.le_of_ble_eq_true rfl) (fun Γ hΓ C => kwX4_workEither_0 C hΓ _ _ _ _ _ hb)
def wX3_takeAll_10 (Q : St → Prop) (r10 : Nat → Nat → Int32 → St → Prop) (v0 : Nat) (v1 : Nat) (v2 : Int32) (σ : St) : Prop :=
  zK σ v1 = 4 ∧ (((zFi σ 193 v1) ≤ v2 → Q σ) ∧ (¬ (zFi σ 193 v1) ≤ v2 → ∃ a2 : Nat, zFr σ 192 v1 = some a2 ∧ zK σ a2 = 25 ∧ vp_in v2 (zL σ a2) ∧ ∃ a6 : Nat, zAr σ a2 (ix v2) = some a6 ∧ zK σ v0 = 4 ∧ wX3_add v0 a6 σ (fun y10 σ9 => r10 v0 v1 (v2 + 1) σ9)))
def lX3_takeAll_10 (Q : St → Prop) : Nat → Nat → Nat → Int32 → St → Prop
  | 0, _, _, _, _ => False
  | f + 1, v0, v1, v2, σ => wX3_takeAll_10 Q (lX3_takeAll_10 Q f) v0 v1 v2 σ
def wX3_takeAll_0 (Q : St → Prop) (v0 : Nat) (v1 : Nat) (σ : St) : Prop :=
  zK σ v1 = 4 ∧ zK σ v0 = 4 ∧ wX3_clear v0 (zFi σ 194 v1) σ (fun σ3 => ∃ f, lX3_takeAll_10 Q f v0 v1 0 σ3)
def wX3_takeAll (v0 : Nat) (v1 : Nat) (σ : St) (Q : St → Prop) : Prop := wX3_takeAll_0 Q v0 v1 σ
set_option maxRecDepth 20000 in
theorem kwX3_takeAll_10 {Γ : hCT} (C : hC Γ RX3 cX3_takeAll ((Option.none : Option Jvm.ClassFile.FieldType)) "takeAll" 3 103) {Q : St → Prop} (hΓ : Γ.2.2.2.2.2.2.2.2.2.2.2 = (3, 0, 0, oV Q)) {r10 : Nat → Nat → Int32 → St → Prop} (h10 : ∀ (v0 : Nat) (v1 : Nat) (v2 : Int32) (σ : St), r10 v0 v1 v2 σ → hW Γ 0 0 10 [(0, .ref v0), (1, .ref v1), (2, .int v2)] [] σ) (v0 : Nat) (v1 : Nat) (v2 : Int32) (σ : St) (hb : wX3_takeAll_10 Q r10 v0 v1 v2 σ) : hW Γ 0 0 10 [(0, .ref v0), (1, .ref v1), (2, .int v2)] [] σ := by
  unfold wX3_takeAll_10 at hb
  refine g_iload_n C dX3_takeAll_10 2 rfl ?_
  refine g_aload_n (some v1) C dX3_takeAll_11 1 rfl ?_
  obtain ⟨q1, hb⟩ := hb
  refine g_getIx (zFi σ 193 v1) C fl_RX3_18 dX3_takeAll_12 q1 rfl rfl rfl ?_
  refine g_icmp_ge (tgt := 35) C dX3_takeAll_15 (by decide) (fun c => ?_) (fun c => ?_)
  ·
    replace hb := hb.1 (c)
    exact g_vreturn C hΓ (Nat.zero_le _) (Nat.zero_le _) dX3_takeAll_35 ⟨rfl, hb⟩
  ·
    replace hb := hb.2 (c)
    refine g_aload_n (some v0) C dX3_takeAll_18 0 rfl ?_
    refine g_aload_n (some v1) C dX3_takeAll_19 1 rfl ?_
    obtain ⟨a2, q3, hb⟩ := hb
    refine g_getR (some a2) C fl_RX3_11 dX3_takeAll_20 q1 rfl rfl q3 ?_
    refine g_iload_n C dX3_takeAll_23 2 rfl ?_
    obtain ⟨q4, hb⟩ := hb
    obtain ⟨q5, hb⟩ := hb
    obtain ⟨a6, q7, hb⟩ := hb
    refine g_aald (some a6) el_25 C dX3_takeAll_24 q4 q5 q7 ?_
    obtain ⟨q8, hb⟩ := hb
    refine g_invV (ci := 3) [.ref a6] [] zy_X3_add wd_713 wd_700 wd_701 ⟨_, _, rfl⟩ (by decide) C dX3_takeAll_25 (by first | exact Nat.le_of_ble_eq_true rfl | simp [cat_rf]) (by first | exact Nat.le_of_ble_eq_true rfl | simp [cat_rf]) (by first | exact Nat.le_of_ble_eq_true rfl | simp [cat_rf]) (Nat.zero_le _) (Nat.zero_le _) rfl rfl q8 (okX3_add hb) ?_
    rintro o σ9 ⟨y10, rfl, hb⟩
    refine ⟨_, rfl, ?_⟩
    refine g_pop C dX3_takeAll_28 rfl ?_
    refine g_iinc (v := v2 + 1) (lv' := [(2, .int (v2 + 1)), (0, .ref v0), (1, .ref v1)]) C dX3_takeAll_29 2 rfl rfl (hnl_of hΓ (by decide)) (by first | rfl | simp [cat_rf]) ?_
    refine g_goto (tgt := 10) C dX3_takeAll_32 (by decide) ?_
    refine g_sub (lv' := [(0, .ref v0), (1, .ref v1), (2, .int (v2 + 1))]) [1, 2, 0] rfl ?_
    exact h10 _ _ _ _ hb
theorem klX3_takeAll_10 {Γ : hCT} (C : hC Γ RX3 cX3_takeAll ((Option.none : Option Jvm.ClassFile.FieldType)) "takeAll" 3 103) {Q : St → Prop} (hΓ : Γ.2.2.2.2.2.2.2.2.2.2.2 = (3, 0, 0, oV Q)) (f : Nat) (v0 : Nat) (v1 : Nat) (v2 : Int32) (σ : St) (hb : lX3_takeAll_10 Q f v0 v1 v2 σ) : hW Γ 0 0 10 [(0, .ref v0), (1, .ref v1), (2, .int v2)] [] σ := by
  induction f generalizing v0 v1 v2 σ with
  | zero => exact hb.elim
  | succ f ih => exact kwX3_takeAll_10 C hΓ  (fun v0 v1 v2 σ h => ih v0 v1 v2 σ h) _ _ _ _ hb
set_option maxRecDepth 20000 in
theorem kwX3_takeAll_0 {Γ : hCT} (C : hC Γ RX3 cX3_takeAll ((Option.none : Option Jvm.ClassFile.FieldType)) "takeAll" 3 103) {Q : St → Prop} (hΓ : Γ.2.2.2.2.2.2.2.2.2.2.2 = (3, 0, 0, oV Q)) (v0 : Nat) (v1 : Nat) (σ : St) (hb : wX3_takeAll_0 Q v0 v1 σ) : hW Γ 0 0 0 [(0, .ref v0), (1, .ref v1)] [] σ := by
  unfold wX3_takeAll_0 at hb
  refine g_aload_n (some v0) C dX3_takeAll_0 0 rfl ?_
  refine g_aload_n (some v1) C dX3_takeAll_1 1 rfl ?_
  obtain ⟨q1, hb⟩ := hb
  refine g_getIx (zFi σ 194 v1) C fl_RX3_22 dX3_takeAll_2 q1 rfl rfl rfl ?_
  obtain ⟨q2, hb⟩ := hb
  refine g_invV (ci := 3) [.int (zFi σ 194 v1)] [] zy_X3_clear wd_712 wd_592 wd_593 ⟨_, _, rfl⟩ (by decide) C dX3_takeAll_5 (by first | exact Nat.le_of_ble_eq_true rfl | simp [cat_rf]) (by first | exact Nat.le_of_ble_eq_true rfl | simp [cat_rf]) (by first | exact Nat.le_of_ble_eq_true rfl | simp [cat_rf]) (Nat.zero_le _) (Nat.zero_le _) rfl rfl q2 (okX3_clear hb) ?_
  rintro o σ3 ⟨rfl, hb⟩
  refine ⟨_, rfl, ?_⟩
  refine g_iconst (v := 0) C dX3_takeAll_8 (by decide) ?_
  refine g_istore_n (i := 2) (lv' := [(2, .int 0), (0, .ref v0), (1, .ref v1)]) C dX3_takeAll_9 rfl (hnl_of hΓ (by decide)) (by first | rfl | simp [cat_rf]) ?_
  refine g_sub (lv' := [(0, .ref v0), (1, .ref v1), (2, .int 0)]) [1, 2, 0] rfl ?_
  obtain ⟨f4, hb⟩ := hb
  exact klX3_takeAll_10 C hΓ  f4 _ _ _ _ hb
theorem okX3_takeAll {v0 : Nat} {v1 : Nat} {σ : St} {Q : St → Prop} (hb : wX3_takeAll v0 v1 σ Q) : hM yX3_takeAll cX3_takeAll 3 ((Option.none : Option Jvm.ClassFile.FieldType)) 3 103 0 0 [.ref v0, .ref v1] σ (oV Q) :=
  hM_of (by decide) (Nat.le_of_ble_eq_true rfl) (fun Γ hΓ C => kwX3_takeAll_0 C hΓ _ _ _ hb)
def wX4_reach_46 (Q : Int32 → St → Prop) (r10 : Nat → Nat → Nat → Int32 → St → Prop) (r46 : Nat → Nat → Nat → Int32 → Nat → Int32 → St → Prop) (v0 : Nat) (v1 : Nat) (v2 : Nat) (v3 : Int32) (v4 : Nat) (v5 : Int32) (σ : St) : Prop :=
  zK σ v1 = 4 ∧ (((zFi σ 193 v1) ≤ v5 → r10 v0 v1 v2 (v3 + 1) σ) ∧ (¬ (zFi σ 193 v1) ≤ v5 → ∃ a2 : Nat, zFr σ 192 v1 = some a2 ∧ zK σ a2 = 25 ∧ vp_in v5 (zL σ a2) ∧ ∃ a6 : Nat, zAr σ a2 (ix v5) = some a6 ∧ zK σ a6 = 3 ∧ ∃ a9 : Nat, zFr σ 128 a6 = some a9 ∧ zK σ v0 = 5 ∧ ∃ a12 : Nat, zFr σ 263 v0 = some a12 ∧ zK σ v4 = 20 ∧ vp_in 0 (zL σ v4) ∧ zK σ a12 = 20 ∧ vp_in 0 (zL σ a12) ∧ zK σ a9 = 20 ∧ vp_in 1 (zL σ a9) ∧ vp_in 1 (zL σ a12) ∧ vp_in 0 (zL σ a9) ∧ vp_in 1 (zL σ v4) ∧ ((¬ (zAi (uAi (uAi σ a12 (ix 0) (zAi σ v4 (ix 0))) a12 (ix 1) (zAi (uAi σ a12 (ix 0) (zAi σ v4 (ix 0))) a9 (ix 1))) a9 (ix 0)) = (zAi (uAi (uAi σ a12 (ix 0) (zAi σ v4 (ix 0))) a12 (ix 1) (zAi (uAi σ a12 (ix 0) (zAi σ v4 (ix 0))) a9 (ix 1))) v4 (ix 1)) → r46 v0 v1 v2 v3 v4 (v5 + 1) (uAi (uAi σ a12 (ix 0) (zAi σ v4 (ix 0))) a12 (ix 1) (zAi (uAi σ a12 (ix 0) (zAi σ v4 (ix 0))) a9 (ix 1)))) ∧ ((zAi (uAi (uAi σ a12 (ix 0) (zAi σ v4 (ix 0))) a12 (ix 1) (zAi (uAi σ a12 (ix 0) (zAi σ v4 (ix 0))) a9 (ix 1))) a9 (ix 0)) = (zAi (uAi (uAi σ a12 (ix 0) (zAi σ v4 (ix 0))) a12 (ix 1) (zAi (uAi σ a12 (ix 0) (zAi σ v4 (ix 0))) a9 (ix 1))) v4 (ix 1)) → ∃ a23 : Nat, zFr σ 261 v0 = some a23 ∧ zK σ a23 = 4 ∧ wX3_insert a23 a12 (uAi (uAi σ a12 (ix 0) (zAi σ v4 (ix 0))) a12 (ix 1) (zAi (uAi σ a12 (ix 0) (zAi σ v4 (ix 0))) a9 (ix 1))) (fun y27 σ26 => ((¬ y27 = 0 → r46 v0 v1 v2 v3 v4 (v5 + 1) σ26) ∧ (y27 = 0 → Q 0 σ26)))))))
def lX4_reach_46 (Q : Int32 → St → Prop) (r10 : Nat → Nat → Nat → Int32 → St → Prop) : Nat → Nat → Nat → Nat → Int32 → Nat → Int32 → St → Prop
  | 0, _, _, _, _, _, _, _ => False
  | f + 1, v0, v1, v2, v3, v4, v5, σ => wX4_reach_46 Q r10 (lX4_reach_46 Q r10 f) v0 v1 v2 v3 v4 v5 σ
def wX4_reach_10 (Q : Int32 → St → Prop) (r10 : Nat → Nat → Nat → Int32 → St → Prop) (v0 : Nat) (v1 : Nat) (v2 : Nat) (v3 : Int32) (σ : St) : Prop :=
  zK σ v2 = 4 ∧ (((zFi σ 193 v2) ≤ v3 → Q 1 σ) ∧ (¬ (zFi σ 193 v2) ≤ v3 → ∃ a2 : Nat, zFr σ 192 v2 = some a2 ∧ zK σ a2 = 25 ∧ vp_in v3 (zL σ a2) ∧ ∃ a6 : Nat, zAr σ a2 (ix v3) = some a6 ∧ zK σ a6 = 3 ∧ ∃ a9 : Nat, zFr σ 128 a6 = some a9 ∧ zK σ v0 = 5 ∧ ∃ a12 : Nat, zFr σ 261 v0 = some a12 ∧ zK σ a12 = 4 ∧ wX3_insert a12 a9 σ (fun y16 σ15 => ((¬ y16 = 0 → ∃ f, lX4_reach_46 Q r10 f v0 v1 v2 v3 a9 0 σ15) ∧ (y16 = 0 → Q 0 σ15)))))
def lX4_reach_10 (Q : Int32 → St → Prop) : Nat → Nat → Nat → Nat → Int32 → St → Prop
  | 0, _, _, _, _, _ => False
  | f + 1, v0, v1, v2, v3, σ => wX4_reach_10 Q (lX4_reach_10 Q f) v0 v1 v2 v3 σ
def wX4_reach_0 (Q : Int32 → St → Prop) (v0 : Nat) (v1 : Nat) (v2 : Nat) (σ : St) : Prop :=
  zK σ v0 = 5 ∧ ∃ a2 : Nat, zFr σ 261 v0 = some a2 ∧ zK σ a2 = 4 ∧ wX3_clear a2 2 σ (fun σ5 => ∃ f, lX4_reach_10 Q f v0 v1 v2 0 σ5)
def wX4_reach (v0 : Nat) (v1 : Nat) (v2 : Nat) (σ : St) (Q : Int32 → St → Prop) : Prop := wX4_reach_0 Q v0 v1 v2 σ
set_option maxRecDepth 20000 in
theorem kwX4_reach_46 {Γ : hCT} (C : hC Γ RX4 cX4_reach ((Option.some FieldType.boolean)) "reach" 3 105) {Q : Int32 → St → Prop} (hΓ : Γ.2.2.2.2.2.2.2.2.2.2.2 = (7, 0, 0, oI Q)) {r10 : Nat → Nat → Nat → Int32 → St → Prop} (h10 : ∀ (v0 : Nat) (v1 : Nat) (v2 : Nat) (v3 : Int32) (σ : St), r10 v0 v1 v2 v3 σ → hW Γ 0 0 10 [(0, .ref v0), (1, .ref v1), (2, .ref v2), (3, .int v3)] [] σ) {r46 : Nat → Nat → Nat → Int32 → Nat → Int32 → St → Prop} (h46 : ∀ (v0 : Nat) (v1 : Nat) (v2 : Nat) (v3 : Int32) (v4 : Nat) (v5 : Int32) (σ : St), r46 v0 v1 v2 v3 v4 v5 σ → hW Γ 0 0 46 [(0, .ref v0), (1, .ref v1), (2, .ref v2), (3, .int v3), (4, .ref v4), (5, .int v5)] [] σ) (v0 : Nat) (v1 : Nat) (v2 : Nat) (v3 : Int32) (v4 : Nat) (v5 : Int32) (σ : St) (hb : wX4_reach_46 Q r10 r46 v0 v1 v2 v3 v4 v5 σ) : hW Γ 0 0 46 [(0, .ref v0), (1, .ref v1), (2, .ref v2), (3, .int v3), (4, .ref v4), (5, .int v5)] [] σ := by
  unfold wX4_reach_46 at hb
  refine g_iload C dX4_reach_46 5 rfl ?_
  refine g_aload_n (some v1) C dX4_reach_48 1 rfl ?_
  obtain ⟨q1, hb⟩ := hb
  refine g_getIx (zFi σ 193 v1) C fl_RX4_127 dX4_reach_49 q1 rfl rfl rfl ?_
  refine g_icmp_ge (tgt := 120) C dX4_reach_52 (by decide) (fun c => ?_) (fun c => ?_)
  ·
    replace hb := hb.1 (c)
    refine g_iinc (v := v3 + 1) (lv' := [(3, .int (v3 + 1)), (0, .ref v0), (1, .ref v1), (2, .ref v2), (4, .ref v4), (5, .int v5)]) C dX4_reach_120 3 rfl rfl (hnl_of hΓ (by decide)) (by first | rfl | simp [cat_rf]) ?_
    refine g_goto (tgt := 10) C dX4_reach_123 (by decide) ?_
    refine g_sub (lv' := [(0, .ref v0), (1, .ref v1), (2, .ref v2), (3, .int (v3 + 1))]) [1, 2, 3, 0] rfl ?_
    exact h10 _ _ _ _ _ hb
  ·
    replace hb := hb.2 (c)
    refine g_aload_n (some v1) C dX4_reach_55 1 rfl ?_
    obtain ⟨a2, q3, hb⟩ := hb
    refine g_getR (some a2) C fl_RX4_130 dX4_reach_56 q1 rfl rfl q3 ?_
    refine g_iload C dX4_reach_59 5 rfl ?_
    obtain ⟨q4, hb⟩ := hb
    obtain ⟨q5, hb⟩ := hb
    obtain ⟨a6, q7, hb⟩ := hb
    refine g_aald (some a6) el_25 C dX4_reach_61 q4 q5 q7 ?_
    obtain ⟨q8, hb⟩ := hb
    obtain ⟨a9, q10, hb⟩ := hb
    refine g_getR (some a9) C fl_RX4_134 dX4_reach_62 q8 rfl rfl q10 ?_
    refine g_astore (lv' := [(6, .ref a9), (0, .ref v0), (1, .ref v1), (2, .ref v2), (3, .int v3), (4, .ref v4), (5, .int v5)]) (some a9) C dX4_reach_65 (hnl_of hΓ (by decide)) (by first | rfl | simp [cat_rf]) ?_
    refine g_aload_n (some v0) C dX4_reach_67 1 rfl ?_
    obtain ⟨q11, hb⟩ := hb
    obtain ⟨a12, q13, hb⟩ := hb
    refine g_getR (some a12) C fl_RX4_38 dX4_reach_68 q11 rfl rfl q13 ?_
    refine g_iconst (v := 0) C dX4_reach_71 (by decide) ?_
    refine g_aload (some v4) C dX4_reach_72 5 rfl ?_
    refine g_iconst (v := 0) C dX4_reach_74 (by decide) ?_
    obtain ⟨q14, hb⟩ := hb
    obtain ⟨q15, hb⟩ := hb
    refine g_ialdx (zAi σ v4 (ix 0)) C dX4_reach_75 q14 q15 rfl ?_
    obtain ⟨q16, hb⟩ := hb
    obtain ⟨q17, hb⟩ := hb
    refine g_iast C dX4_reach_76 q16 q17 ?_
    refine g_aload_n (some v0) C dX4_reach_77 1 rfl ?_
    refine g_getR (some a12) C fl_RX4_38 dX4_reach_78 (by rw [zK_uAi]; exact q11) rfl rfl (by rw [zFr_uAi]; exact q13) ?_
    refine g_iconst (v := 1) C dX4_reach_81 (by decide) ?_
    refine g_aload (some a9) C dX4_reach_82 0 rfl ?_
    refine g_iconst (v := 1) C dX4_reach_84 (by decide) ?_
    obtain ⟨q18, hb⟩ := hb
    obtain ⟨q19, hb⟩ := hb
    refine g_ialdx (zAi (uAi σ a12 (ix 0) (zAi σ v4 (ix 0))) a9 (ix 1)) C dX4_reach_85 (by rw [zK_uAi]; exact q18) (by rw [zL_uAi]; exact q19) rfl ?_
    obtain ⟨q20, hb⟩ := hb
    refine g_iast C dX4_reach_86 (by rw [zK_uAi]; exact q16) (by rw [zL_uAi]; exact q20) ?_
    refine g_aload (some a9) C dX4_reach_87 0 rfl ?_
    refine g_iconst (v := 0) C dX4_reach_89 (by decide) ?_
    obtain ⟨q21, hb⟩ := hb
    refine g_ialdx (zAi (uAi (uAi σ a12 (ix 0) (zAi σ v4 (ix 0))) a12 (ix 1) (zAi (uAi σ a12 (ix 0) (zAi σ v4 (ix 0))) a9 (ix 1))) a9 (ix 0)) C dX4_reach_90 (by rw [zK_uAi, zK_uAi]; exact q18) (by rw [zL_uAi, zL_uAi]; exact q21) rfl ?_
    refine g_aload (some v4) C dX4_reach_91 5 rfl ?_
    refine g_iconst (v := 1) C dX4_reach_93 (by decide) ?_
    obtain ⟨q22, hb⟩ := hb
    refine g_ialdx (zAi (uAi (uAi σ a12 (ix 0) (zAi σ v4 (ix 0))) a12 (ix 1) (zAi (uAi σ a12 (ix 0) (zAi σ v4 (ix 0))) a9 (ix 1))) v4 (ix 1)) C dX4_reach_94 (by rw [zK_uAi, zK_uAi]; exact q14) (by rw [zL_uAi, zL_uAi]; exact q22) rfl ?_
    refine g_icmp_ne (tgt := 114) C dX4_reach_95 (by decide) (fun c => ?_) (fun c => ?_)
    ·
      replace hb := hb.1 (c)
      refine g_iinc (v := v5 + 1) (lv' := [(5, .int (v5 + 1)), (6, .ref a9), (0, .ref v0), (1, .ref v1), (2, .ref v2), (3, .int v3), (4, .ref v4)]) C dX4_reach_114 6 rfl rfl (hnl_of hΓ (by decide)) (by first | rfl | simp [cat_rf]) ?_
      refine g_goto (tgt := 46) C dX4_reach_117 (by decide) ?_
      refine g_sub (lv' := [(0, .ref v0), (1, .ref v1), (2, .ref v2), (3, .int v3), (4, .ref v4), (5, .int (v5 + 1))]) [2, 3, 4, 5, 6, 0] rfl ?_
      exact h46 _ _ _ _ _ _ _ hb
    ·
      replace hb := hb.2 (c)
      refine g_aload_n (some v0) C dX4_reach_98 1 rfl ?_
      obtain ⟨a23, q24, hb⟩ := hb
      refine g_getR (some a23) C fl_RX4_31 dX4_reach_99 (by rw [zK_uAi, zK_uAi]; exact q11) rfl rfl (by rw [zFr_uAi, zFr_uAi]; exact q24) ?_
      refine g_aload_n (some v0) C dX4_reach_102 1 rfl ?_
      refine g_getR (some a12) C fl_RX4_38 dX4_reach_103 (by rw [zK_uAi, zK_uAi]; exact q11) rfl rfl (by rw [zFr_uAi, zFr_uAi]; exact q13) ?_
      obtain ⟨q25, hb⟩ := hb
      refine g_invV (ci := 3) [.ref a12] [] zy_X3_insert wd_613 wd_614 wd_615 ⟨_, _, rfl⟩ (by decide) C dX4_reach_106 (by first | exact Nat.le_of_ble_eq_true rfl | simp [cat_rf]) (by first | exact Nat.le_of_ble_eq_true rfl | simp [cat_rf]) (by first | exact Nat.le_of_ble_eq_true rfl | simp [cat_rf]) (Nat.zero_le _) (Nat.zero_le _) rfl rfl (by rw [zK_uAi, zK_uAi]; exact q25) (okX3_insert hb) ?_
      rintro o σ26 ⟨y27, rfl, hb⟩
      refine ⟨_, rfl, ?_⟩
      refine g_if_ne (tgt := 114) C dX4_reach_109 (by decide) (fun c => ?_) (fun c => ?_)
      ·
        replace hb := hb.1 (c)
        refine g_iinc (v := v5 + 1) (lv' := [(5, .int (v5 + 1)), (6, .ref a9), (0, .ref v0), (1, .ref v1), (2, .ref v2), (3, .int v3), (4, .ref v4)]) C dX4_reach_114 6 rfl rfl (hnl_of hΓ (by decide)) (by first | rfl | simp [cat_rf]) ?_
        refine g_goto (tgt := 46) C dX4_reach_117 (by decide) ?_
        refine g_sub (lv' := [(0, .ref v0), (1, .ref v1), (2, .ref v2), (3, .int v3), (4, .ref v4), (5, .int (v5 + 1))]) [2, 3, 4, 5, 6, 0] rfl ?_
        exact h46 _ _ _ _ _ _ _ hb
      ·
        replace hb := hb.2 (c)
        refine g_iconst (v := 0) C dX4_reach_112 (by decide) ?_
        exact g_zreturn C (by decide) hΓ (Nat.zero_le _) (Nat.zero_le _) dX4_reach_113 ⟨_, rfl, hb⟩
theorem klX4_reach_46 {Γ : hCT} (C : hC Γ RX4 cX4_reach ((Option.some FieldType.boolean)) "reach" 3 105) {Q : Int32 → St → Prop} (hΓ : Γ.2.2.2.2.2.2.2.2.2.2.2 = (7, 0, 0, oI Q)) {r10 : Nat → Nat → Nat → Int32 → St → Prop} (h10 : ∀ (v0 : Nat) (v1 : Nat) (v2 : Nat) (v3 : Int32) (σ : St), r10 v0 v1 v2 v3 σ → hW Γ 0 0 10 [(0, .ref v0), (1, .ref v1), (2, .ref v2), (3, .int v3)] [] σ) (f : Nat) (v0 : Nat) (v1 : Nat) (v2 : Nat) (v3 : Int32) (v4 : Nat) (v5 : Int32) (σ : St) (hb : lX4_reach_46 Q r10 f v0 v1 v2 v3 v4 v5 σ) : hW Γ 0 0 46 [(0, .ref v0), (1, .ref v1), (2, .ref v2), (3, .int v3), (4, .ref v4), (5, .int v5)] [] σ := by
  induction f generalizing v0 v1 v2 v3 v4 v5 σ with
  | zero => exact hb.elim
  | succ f ih => exact kwX4_reach_46 C hΓ h10 (fun v0 v1 v2 v3 v4 v5 σ h => ih v0 v1 v2 v3 v4 v5 σ h) _ _ _ _ _ _ _ hb
set_option maxRecDepth 20000 in
theorem kwX4_reach_10 {Γ : hCT} (C : hC Γ RX4 cX4_reach ((Option.some FieldType.boolean)) "reach" 3 105) {Q : Int32 → St → Prop} (hΓ : Γ.2.2.2.2.2.2.2.2.2.2.2 = (7, 0, 0, oI Q)) {r10 : Nat → Nat → Nat → Int32 → St → Prop} (h10 : ∀ (v0 : Nat) (v1 : Nat) (v2 : Nat) (v3 : Int32) (σ : St), r10 v0 v1 v2 v3 σ → hW Γ 0 0 10 [(0, .ref v0), (1, .ref v1), (2, .ref v2), (3, .int v3)] [] σ) (v0 : Nat) (v1 : Nat) (v2 : Nat) (v3 : Int32) (σ : St) (hb : wX4_reach_10 Q r10 v0 v1 v2 v3 σ) : hW Γ 0 0 10 [(0, .ref v0), (1, .ref v1), (2, .ref v2), (3, .int v3)] [] σ := by
  unfold wX4_reach_10 at hb
  refine g_iload_n C dX4_reach_10 3 rfl ?_
  refine g_aload_n (some v2) C dX4_reach_11 2 rfl ?_
  obtain ⟨q1, hb⟩ := hb
  refine g_getIx (zFi σ 193 v2) C fl_RX4_127 dX4_reach_12 q1 rfl rfl rfl ?_
  refine g_icmp_ge (tgt := 126) C dX4_reach_15 (by decide) (fun c => ?_) (fun c => ?_)
  ·
    replace hb := hb.1 (c)
    refine g_iconst (v := 1) C dX4_reach_126 (by decide) ?_
    exact g_zreturn C (by decide) hΓ (Nat.zero_le _) (Nat.zero_le _) dX4_reach_127 ⟨_, rfl, hb⟩
  ·
    replace hb := hb.2 (c)
    refine g_aload_n (some v2) C dX4_reach_18 2 rfl ?_
    obtain ⟨a2, q3, hb⟩ := hb
    refine g_getR (some a2) C fl_RX4_130 dX4_reach_19 q1 rfl rfl q3 ?_
    refine g_iload_n C dX4_reach_22 3 rfl ?_
    obtain ⟨q4, hb⟩ := hb
    obtain ⟨q5, hb⟩ := hb
    obtain ⟨a6, q7, hb⟩ := hb
    refine g_aald (some a6) el_25 C dX4_reach_23 q4 q5 q7 ?_
    obtain ⟨q8, hb⟩ := hb
    obtain ⟨a9, q10, hb⟩ := hb
    refine g_getR (some a9) C fl_RX4_134 dX4_reach_24 q8 rfl rfl q10 ?_
    refine g_astore (lv' := [(4, .ref a9), (0, .ref v0), (1, .ref v1), (2, .ref v2), (3, .int v3)]) (some a9) C dX4_reach_27 (hnl_of hΓ (by decide)) (by first | rfl | simp [cat_rf]) ?_
    refine g_aload_n (some v0) C dX4_reach_29 1 rfl ?_
    obtain ⟨q11, hb⟩ := hb
    obtain ⟨a12, q13, hb⟩ := hb
    refine g_getR (some a12) C fl_RX4_31 dX4_reach_30 q11 rfl rfl q13 ?_
    refine g_aload (some a9) C dX4_reach_33 0 rfl ?_
    obtain ⟨q14, hb⟩ := hb
    refine g_invV (ci := 3) [.ref a9] [] zy_X3_insert wd_613 wd_614 wd_615 ⟨_, _, rfl⟩ (by decide) C dX4_reach_35 (by first | exact Nat.le_of_ble_eq_true rfl | simp [cat_rf]) (by first | exact Nat.le_of_ble_eq_true rfl | simp [cat_rf]) (by first | exact Nat.le_of_ble_eq_true rfl | simp [cat_rf]) (Nat.zero_le _) (Nat.zero_le _) rfl rfl q14 (okX3_insert hb) ?_
    rintro o σ15 ⟨y16, rfl, hb⟩
    refine ⟨_, rfl, ?_⟩
    refine g_if_ne (tgt := 43) C dX4_reach_38 (by decide) (fun c => ?_) (fun c => ?_)
    ·
      replace hb := hb.1 (c)
      refine g_iconst (v := 0) C dX4_reach_43 (by decide) ?_
      refine g_istore (lv' := [(5, .int 0), (4, .ref a9), (0, .ref v0), (1, .ref v1), (2, .ref v2), (3, .int v3)]) C dX4_reach_44 (hnl_of hΓ (by decide)) (by first | rfl | simp [cat_rf]) ?_
      refine g_sub (lv' := [(0, .ref v0), (1, .ref v1), (2, .ref v2), (3, .int v3), (4, .ref a9), (5, .int 0)]) [2, 3, 4, 5, 1, 0] rfl ?_
      obtain ⟨f17, hb⟩ := hb
      exact klX4_reach_46 C hΓ h10 f17 _ _ _ _ _ _ _ hb
    ·
      replace hb := hb.2 (c)
      refine g_iconst (v := 0) C dX4_reach_41 (by decide) ?_
      exact g_zreturn C (by decide) hΓ (Nat.zero_le _) (Nat.zero_le _) dX4_reach_42 ⟨_, rfl, hb⟩
theorem klX4_reach_10 {Γ : hCT} (C : hC Γ RX4 cX4_reach ((Option.some FieldType.boolean)) "reach" 3 105) {Q : Int32 → St → Prop} (hΓ : Γ.2.2.2.2.2.2.2.2.2.2.2 = (7, 0, 0, oI Q)) (f : Nat) (v0 : Nat) (v1 : Nat) (v2 : Nat) (v3 : Int32) (σ : St) (hb : lX4_reach_10 Q f v0 v1 v2 v3 σ) : hW Γ 0 0 10 [(0, .ref v0), (1, .ref v1), (2, .ref v2), (3, .int v3)] [] σ := by
  induction f generalizing v0 v1 v2 v3 σ with
  | zero => exact hb.elim
  | succ f ih => exact kwX4_reach_10 C hΓ  (fun v0 v1 v2 v3 σ h => ih v0 v1 v2 v3 σ h) _ _ _ _ _ hb
set_option maxRecDepth 20000 in
theorem kwX4_reach_0 {Γ : hCT} (C : hC Γ RX4 cX4_reach ((Option.some FieldType.boolean)) "reach" 3 105) {Q : Int32 → St → Prop} (hΓ : Γ.2.2.2.2.2.2.2.2.2.2.2 = (7, 0, 0, oI Q)) (v0 : Nat) (v1 : Nat) (v2 : Nat) (σ : St) (hb : wX4_reach_0 Q v0 v1 v2 σ) : hW Γ 0 0 0 [(0, .ref v0), (1, .ref v1), (2, .ref v2)] [] σ := by
  unfold wX4_reach_0 at hb
  refine g_aload_n (some v0) C dX4_reach_0 0 rfl ?_
  obtain ⟨q1, hb⟩ := hb
  obtain ⟨a2, q3, hb⟩ := hb
  refine g_getR (some a2) C fl_RX4_31 dX4_reach_1 q1 rfl rfl q3 ?_
  refine g_iconst (v := 2) C dX4_reach_4 (by decide) ?_
  obtain ⟨q4, hb⟩ := hb
  refine g_invV (ci := 3) [.int 2] [] zy_X3_clear wd_591 wd_592 wd_593 ⟨_, _, rfl⟩ (by decide) C dX4_reach_5 (by first | exact Nat.le_of_ble_eq_true rfl | simp [cat_rf]) (by first | exact Nat.le_of_ble_eq_true rfl | simp [cat_rf]) (by first | exact Nat.le_of_ble_eq_true rfl | simp [cat_rf]) (Nat.zero_le _) (Nat.zero_le _) rfl rfl q4 (okX3_clear hb) ?_
  rintro o σ5 ⟨rfl, hb⟩
  refine ⟨_, rfl, ?_⟩
  refine g_iconst (v := 0) C dX4_reach_8 (by decide) ?_
  refine g_istore_n (i := 3) (lv' := [(3, .int 0), (0, .ref v0), (1, .ref v1), (2, .ref v2)]) C dX4_reach_9 rfl (hnl_of hΓ (by decide)) (by first | rfl | simp [cat_rf]) ?_
  refine g_sub (lv' := [(0, .ref v0), (1, .ref v1), (2, .ref v2), (3, .int 0)]) [1, 2, 3, 0] rfl ?_
  obtain ⟨f6, hb⟩ := hb
  exact klX4_reach_10 C hΓ  f6 _ _ _ _ _ hb
theorem okX4_reach {v0 : Nat} {v1 : Nat} {v2 : Nat} {σ : St} {Q : Int32 → St → Prop} (hb : wX4_reach v0 v1 v2 σ Q) : hM yX4_reach cX4_reach 7 ((Option.some FieldType.boolean)) 3 105 0 0 [.ref v0, .ref v1, .ref v2] σ (oI Q) :=
  hM_of (by decide) (Nat.le_of_ble_eq_true rfl) (fun Γ hΓ C => kwX4_reach_0 C hΓ _ _ _ _ hb)
def wX4_stepOf_2 (Q : Option Nat → St → Prop) (r2 : Nat → Int32 → Int32 → Int32 → St → Prop) (v0 : Nat) (v1 : Int32) (v2 : Int32) (v3 : Int32) (σ : St) : Prop :=
  zK σ v0 = 4 ∧ (((zFi σ 193 v0) ≤ v3 → Q none σ) ∧ (¬ (zFi σ 193 v0) ≤ v3 → ∃ a2 : Nat, zFr σ 192 v0 = some a2 ∧ zK σ a2 = 25 ∧ vp_in v3 (zL σ a2) ∧ ∃ a6 : Nat, zAr σ a2 (ix v3) = some a6 ∧ zK σ a6 = 3 ∧ ∃ a9 : Nat, zFr σ 128 a6 = some a9 ∧ zK σ a9 = 20 ∧ vp_in 0 (zL σ a9) ∧ ((¬ (zAi σ a9 (ix 0)) = v1 → r2 v0 v1 v2 (v3 + 1) σ) ∧ ((zAi σ a9 (ix 0)) = v1 → vp_in 1 (zL σ a9) ∧ ((¬ (zAi σ a9 (ix 1)) = v2 → r2 v0 v1 v2 (v3 + 1) σ) ∧ ((zAi σ a9 (ix 1)) = v2 → Q (some a6) σ))))))
def lX4_stepOf_2 (Q : Option Nat → St → Prop) : Nat → Nat → Int32 → Int32 → Int32 → St → Prop
  | 0, _, _, _, _, _ => False
  | f + 1, v0, v1, v2, v3, σ => wX4_stepOf_2 Q (lX4_stepOf_2 Q f) v0 v1 v2 v3 σ
def wX4_stepOf_0 (Q : Option Nat → St → Prop) (v0 : Nat) (v1 : Int32) (v2 : Int32) (σ : St) : Prop :=
  ∃ f, lX4_stepOf_2 Q f v0 v1 v2 0 σ
def wX4_stepOf (v0 : Nat) (v1 : Int32) (v2 : Int32) (σ : St) (Q : Option Nat → St → Prop) : Prop := wX4_stepOf_0 Q v0 v1 v2 σ
set_option maxRecDepth 20000 in
theorem kwX4_stepOf_2 {Γ : hCT} (C : hC Γ RX4 cX4_stepOf ((Option.some (FieldType.object RX2))) "stepOf" 0 0) {Q : Option Nat → St → Prop} (hΓ : Γ.2.2.2.2.2.2.2.2.2.2.2 = (5, 0, 0, oO Q)) {r2 : Nat → Int32 → Int32 → Int32 → St → Prop} (h2 : ∀ (v0 : Nat) (v1 : Int32) (v2 : Int32) (v3 : Int32) (σ : St), r2 v0 v1 v2 v3 σ → hW Γ 0 0 2 [(0, .ref v0), (1, .int v1), (2, .int v2), (3, .int v3)] [] σ) (v0 : Nat) (v1 : Int32) (v2 : Int32) (v3 : Int32) (σ : St) (hb : wX4_stepOf_2 Q r2 v0 v1 v2 v3 σ) : hW Γ 0 0 2 [(0, .ref v0), (1, .int v1), (2, .int v2), (3, .int v3)] [] σ := by
  unfold wX4_stepOf_2 at hb
  refine g_iload_n C dX4_stepOf_2 3 rfl ?_
  refine g_aload_n (some v0) C dX4_stepOf_3 0 rfl ?_
  obtain ⟨q1, hb⟩ := hb
  refine g_getIx (zFi σ 193 v0) C fl_RX4_127 dX4_stepOf_4 q1 rfl rfl rfl ?_
  refine g_icmp_ge (tgt := 50) C dX4_stepOf_7 (by decide) (fun c => ?_) (fun c => ?_)
  ·
    replace hb := hb.1 (c)
    refine g_null C dX4_stepOf_50 ?_
    exact g_areturn none (Or.inl ⟨_, rfl⟩) C hΓ (Nat.zero_le _) (Nat.zero_le _) dX4_stepOf_51 ⟨_, rfl, hb⟩
  ·
    replace hb := hb.2 (c)
    refine g_aload_n (some v0) C dX4_stepOf_10 0 rfl ?_
    obtain ⟨a2, q3, hb⟩ := hb
    refine g_getR (some a2) C fl_RX4_130 dX4_stepOf_11 q1 rfl rfl q3 ?_
    refine g_iload_n C dX4_stepOf_14 3 rfl ?_
    obtain ⟨q4, hb⟩ := hb
    obtain ⟨q5, hb⟩ := hb
    obtain ⟨a6, q7, hb⟩ := hb
    refine g_aald (some a6) el_25 C dX4_stepOf_15 q4 q5 q7 ?_
    obtain ⟨q8, hb⟩ := hb
    obtain ⟨a9, q10, hb⟩ := hb
    refine g_getR (some a9) C fl_RX4_134 dX4_stepOf_16 q8 rfl rfl q10 ?_
    refine g_astore (lv' := [(4, .ref a9), (0, .ref v0), (1, .int v1), (2, .int v2), (3, .int v3)]) (some a9) C dX4_stepOf_19 (hnl_of hΓ (by decide)) (by first | rfl | simp [cat_rf]) ?_
    refine g_aload (some a9) C dX4_stepOf_21 0 rfl ?_
    refine g_iconst (v := 0) C dX4_stepOf_23 (by decide) ?_
    obtain ⟨q11, hb⟩ := hb
    obtain ⟨q12, hb⟩ := hb
    refine g_ialdx (zAi σ a9 (ix 0)) C dX4_stepOf_24 q11 q12 rfl ?_
    refine g_iload_n C dX4_stepOf_25 2 rfl ?_
    refine g_icmp_ne (tgt := 44) C dX4_stepOf_26 (by decide) (fun c => ?_) (fun c => ?_)
    ·
      replace hb := hb.1 (c)
      refine g_iinc (v := v3 + 1) (lv' := [(3, .int (v3 + 1)), (4, .ref a9), (0, .ref v0), (1, .int v1), (2, .int v2)]) C dX4_stepOf_44 4 rfl rfl (hnl_of hΓ (by decide)) (by first | rfl | simp [cat_rf]) ?_
      refine g_goto (tgt := 2) C dX4_stepOf_47 (by decide) ?_
      refine g_sub (lv' := [(0, .ref v0), (1, .int v1), (2, .int v2), (3, .int (v3 + 1))]) [2, 3, 4, 0] rfl ?_
      exact h2 _ _ _ _ _ hb
    ·
      replace hb := hb.2 (c)
      refine g_aload (some a9) C dX4_stepOf_29 0 rfl ?_
      refine g_iconst (v := 1) C dX4_stepOf_31 (by decide) ?_
      obtain ⟨q13, hb⟩ := hb
      refine g_ialdx (zAi σ a9 (ix 1)) C dX4_stepOf_32 q11 q13 rfl ?_
      refine g_iload_n C dX4_stepOf_33 3 rfl ?_
      refine g_icmp_ne (tgt := 44) C dX4_stepOf_34 (by decide) (fun c => ?_) (fun c => ?_)
      ·
        replace hb := hb.1 (c)
        refine g_iinc (v := v3 + 1) (lv' := [(3, .int (v3 + 1)), (4, .ref a9), (0, .ref v0), (1, .int v1), (2, .int v2)]) C dX4_stepOf_44 4 rfl rfl (hnl_of hΓ (by decide)) (by first | rfl | simp [cat_rf]) ?_
        refine g_goto (tgt := 2) C dX4_stepOf_47 (by decide) ?_
        refine g_sub (lv' := [(0, .ref v0), (1, .int v1), (2, .int v2), (3, .int (v3 + 1))]) [2, 3, 4, 0] rfl ?_
        exact h2 _ _ _ _ _ hb
      ·
        replace hb := hb.2 (c)
        refine g_aload_n (some v0) C dX4_stepOf_37 1 rfl ?_
        refine g_getR (some a2) C fl_RX4_130 dX4_stepOf_38 q1 rfl rfl q3 ?_
        refine g_iload_n C dX4_stepOf_41 4 rfl ?_
        refine g_aald (some a6) el_25 C dX4_stepOf_42 q4 q5 q7 ?_
        exact g_areturn (some a6) (Or.inl ⟨_, rfl⟩) C hΓ (Nat.zero_le _) (Nat.zero_le _) dX4_stepOf_43 ⟨_, rfl, hb⟩
theorem klX4_stepOf_2 {Γ : hCT} (C : hC Γ RX4 cX4_stepOf ((Option.some (FieldType.object RX2))) "stepOf" 0 0) {Q : Option Nat → St → Prop} (hΓ : Γ.2.2.2.2.2.2.2.2.2.2.2 = (5, 0, 0, oO Q)) (f : Nat) (v0 : Nat) (v1 : Int32) (v2 : Int32) (v3 : Int32) (σ : St) (hb : lX4_stepOf_2 Q f v0 v1 v2 v3 σ) : hW Γ 0 0 2 [(0, .ref v0), (1, .int v1), (2, .int v2), (3, .int v3)] [] σ := by
  induction f generalizing v0 v1 v2 v3 σ with
  | zero => exact hb.elim
  | succ f ih => exact kwX4_stepOf_2 C hΓ  (fun v0 v1 v2 v3 σ h => ih v0 v1 v2 v3 σ h) _ _ _ _ _ hb
set_option maxRecDepth 20000 in
theorem kwX4_stepOf_0 {Γ : hCT} (C : hC Γ RX4 cX4_stepOf ((Option.some (FieldType.object RX2))) "stepOf" 0 0) {Q : Option Nat → St → Prop} (hΓ : Γ.2.2.2.2.2.2.2.2.2.2.2 = (5, 0, 0, oO Q)) (v0 : Nat) (v1 : Int32) (v2 : Int32) (σ : St) (hb : wX4_stepOf_0 Q v0 v1 v2 σ) : hW Γ 0 0 0 [(0, .ref v0), (1, .int v1), (2, .int v2)] [] σ := by
  unfold wX4_stepOf_0 at hb
  refine g_iconst (v := 0) C dX4_stepOf_0 (by decide) ?_
  refine g_istore_n (i := 3) (lv' := [(3, .int 0), (0, .ref v0), (1, .int v1), (2, .int v2)]) C dX4_stepOf_1 rfl (hnl_of hΓ (by decide)) (by first | rfl | simp [cat_rf]) ?_
  refine g_sub (lv' := [(0, .ref v0), (1, .int v1), (2, .int v2), (3, .int 0)]) [1, 2, 3, 0] rfl ?_
  obtain ⟨f1, hb⟩ := hb
  exact klX4_stepOf_2 C hΓ  f1 _ _ _ _ _ hb
theorem okX4_stepOf {v0 : Nat} {v1 : Int32} {v2 : Int32} {σ : St} {Q : Option Nat → St → Prop} (hb : wX4_stepOf v0 v1 v2 σ Q) : hM yX4_stepOf cX4_stepOf 5 ((Option.some (FieldType.object RX2))) 0 0 0 0 [.ref v0, .int v1, .int v2] σ (oO Q) :=
  hM_of (by decide) (Nat.le_of_ble_eq_true rfl) (fun Γ hΓ C => kwX4_stepOf_0 C hΓ _ _ _ _ hb)
def wX4_gatherChains_66 (Q : St → Prop) (r10 : Nat → Nat → Nat → Nat → Int32 → St → Prop) (v0 : Nat) (v1 : Nat) (v2 : Nat) (v3 : Nat) (v4 : Int32) (v5 : Nat) (σ : St) : Prop :=
  zK σ v5 = 3 ∧ ∃ a2 : Nat, zFr σ 128 v5 = some a2 ∧ zK σ a2 = 20 ∧ vp_in 1 (zL σ a2) ∧ zK σ v3 = 20 ∧ vp_in 1 (zL σ v3) ∧ wX4_stepOf v1 (zAi σ a2 (ix 1)) (zAi σ v3 (ix 1)) σ (fun y9 σ8 => ((y9 = none → r10 v0 v1 v2 v3 (v4 + 1) σ8) ∧ (∀ a10 : Nat, y9 = some a10 → zK σ8 v0 = 5 ∧ ∃ a12 : Nat, zFr σ8 259 v0 = some a12 ∧ zK σ8 a12 = 8 ∧ wX7_addUnions a12 v5 a10 σ8 (fun σ15 => r10 v0 v1 v2 v3 (v4 + 1) σ15))))
def wX4_gatherChains_10 (Q : St → Prop) (r10 : Nat → Nat → Nat → Nat → Int32 → St → Prop) (v0 : Nat) (v1 : Nat) (v2 : Nat) (v3 : Nat) (v4 : Int32) (σ : St) : Prop :=
  zK σ v2 = 4 ∧ (((zFi σ 193 v2) ≤ v4 → Q σ) ∧ (¬ (zFi σ 193 v2) ≤ v4 → ∃ a2 : Nat, zFr σ 192 v2 = some a2 ∧ zK σ a2 = 25 ∧ vp_in v4 (zL σ a2) ∧ ∃ a6 : Nat, zAr σ a2 (ix v4) = some a6 ∧ zK σ a6 = 3 ∧ ∃ a9 : Nat, zFr σ 128 a6 = some a9 ∧ zK σ a9 = 20 ∧ vp_in 0 (zL σ a9) ∧ zK σ v3 = 20 ∧ vp_in 0 (zL σ v3) ∧ (((zAi σ a9 (ix 0)) = (zAi σ v3 (ix 0)) → vp_in 1 (zL σ a9) ∧ vp_in 1 (zL σ v3) ∧ ((¬ (zAi σ a9 (ix 1)) = (zAi σ v3 (ix 1)) → wX4_gatherChains_66 Q r10 v0 v1 v2 v3 v4 a6 σ) ∧ ((zAi σ a9 (ix 1)) = (zAi σ v3 (ix 1)) → zK σ v0 = 5 ∧ ∃ a18 : Nat, zFr σ 259 v0 = some a18 ∧ zK σ a18 = 8 ∧ wX7_addWays a18 a6 σ (fun σ21 => wX4_gatherChains_66 Q r10 v0 v1 v2 v3 v4 a6 σ21)))) ∧ (¬ (zAi σ a9 (ix 0)) = (zAi σ v3 (ix 0)) → r10 v0 v1 v2 v3 (v4 + 1) σ))))
def lX4_gatherChains_10 (Q : St → Prop) : Nat → Nat → Nat → Nat → Nat → Int32 → St → Prop
  | 0, _, _, _, _, _, _ => False
  | f + 1, v0, v1, v2, v3, v4, σ => wX4_gatherChains_10 Q (lX4_gatherChains_10 Q f) v0 v1 v2 v3 v4 σ
def wX4_gatherChains_0 (Q : St → Prop) (v0 : Nat) (v1 : Nat) (v2 : Nat) (v3 : Nat) (σ : St) : Prop :=
  zK σ v0 = 5 ∧ ∃ a2 : Nat, zFr σ 259 v0 = some a2 ∧ zK σ a2 = 8 ∧ wX7_clear a2 σ (fun σ5 => ∃ f, lX4_gatherChains_10 Q f v0 v1 v2 v3 0 σ5)
def wX4_gatherChains (v0 : Nat) (v1 : Nat) (v2 : Nat) (v3 : Nat) (σ : St) (Q : St → Prop) : Prop := wX4_gatherChains_0 Q v0 v1 v2 v3 σ
set_option maxRecDepth 20000 in
theorem kwX4_gatherChains_66 {Γ : hCT} (C : hC Γ RX4 cX4_gatherChains ((Option.none : Option Jvm.ClassFile.FieldType)) "gatherChains" 2 48) {Q : St → Prop} (hΓ : Γ.2.2.2.2.2.2.2.2.2.2.2 = (7, 0, 0, oV Q)) {r10 : Nat → Nat → Nat → Nat → Int32 → St → Prop} (h10 : ∀ (v0 : Nat) (v1 : Nat) (v2 : Nat) (v3 : Nat) (v4 : Int32) (σ : St), r10 v0 v1 v2 v3 v4 σ → hW Γ 0 0 10 [(0, .ref v0), (1, .ref v1), (2, .ref v2), (3, .ref v3), (4, .int v4)] [] σ) (v0 : Nat) (v1 : Nat) (v2 : Nat) (v3 : Nat) (v4 : Int32) (v5 : Nat) (σ : St) (hb : wX4_gatherChains_66 Q r10 v0 v1 v2 v3 v4 v5 σ) : hW Γ 0 0 66 [(0, .ref v0), (1, .ref v1), (2, .ref v2), (3, .ref v3), (4, .int v4), (5, .ref v5)] [] σ := by
  unfold wX4_gatherChains_66 at hb
  refine g_aload_n (some v1) C dX4_gatherChains_66 1 rfl ?_
  refine g_aload (some v5) C dX4_gatherChains_67 5 rfl ?_
  obtain ⟨q1, hb⟩ := hb
  obtain ⟨a2, q3, hb⟩ := hb
  refine g_getR (some a2) C fl_RX4_134 dX4_gatherChains_69 q1 rfl rfl q3 ?_
  refine g_iconst (v := 1) C dX4_gatherChains_72 (by decide) ?_
  obtain ⟨q4, hb⟩ := hb
  obtain ⟨q5, hb⟩ := hb
  refine g_ialdx (zAi σ a2 (ix 1)) C dX4_gatherChains_73 q4 q5 rfl ?_
  refine g_aload_n (some v3) C dX4_gatherChains_74 3 rfl ?_
  refine g_iconst (v := 1) C dX4_gatherChains_75 (by decide) ?_
  obtain ⟨q6, hb⟩ := hb
  obtain ⟨q7, hb⟩ := hb
  refine g_ialdx (zAi σ v3 (ix 1)) C dX4_gatherChains_76 q6 q7 rfl ?_
  refine g_invS [.ref v1, .int (zAi σ a2 (ix 1)), .int (zAi σ v3 (ix 1))] [] zy_X4_stepOf wd_726 wd_727 C dX4_gatherChains_77 (by first | exact Nat.le_of_ble_eq_true rfl | simp [cat_rf]) (by first | exact Nat.le_of_ble_eq_true rfl | simp [cat_rf]) (by first | exact Nat.le_of_ble_eq_true rfl | simp [cat_rf]) (Nat.zero_le _) (Nat.zero_le _) rfl rfl  (okX4_stepOf hb) ?_
  rintro o σ8 ⟨y9, rfl, hb⟩
  refine ⟨_, rfl, ?_⟩
  refine g_astore (lv' := [(6, va_rf y9), (0, .ref v0), (1, .ref v1), (2, .ref v2), (3, .ref v3), (4, .int v4), (5, .ref v5)]) y9 C dX4_gatherChains_80 (hnl_of hΓ (by decide)) (by first | rfl | simp [cat_rf]) ?_
  refine g_aload y9 C dX4_gatherChains_82 0 rfl ?_
  refine g_ifnull (tgt := 98) y9 C dX4_gatherChains_84 (by decide) (fun c => ?_) (fun c => ?_)
  ·
    replace hb := hb.1 c
    refine g_iinc (v := v4 + 1) (lv' := [(4, .int (v4 + 1)), (6, va_rf y9), (0, .ref v0), (1, .ref v1), (2, .ref v2), (3, .ref v3), (5, .ref v5)]) C dX4_gatherChains_98 5 rfl rfl (hnl_of hΓ (by decide)) (by first | rfl | simp [cat_rf]) ?_
    refine g_goto (tgt := 10) C dX4_gatherChains_101 (by decide) ?_
    refine g_sub (lv' := [(0, .ref v0), (1, .ref v1), (2, .ref v2), (3, .ref v3), (4, .int (v4 + 1))]) [2, 3, 4, 5, 0] rfl ?_
    exact h10 _ _ _ _ _ _ hb
  ·
    obtain ⟨a10, rfl⟩ := rf_some c
    replace hb := hb.2 a10 rfl
    refine g_aload_n (some v0) C dX4_gatherChains_87 1 rfl ?_
    obtain ⟨q11, hb⟩ := hb
    obtain ⟨a12, q13, hb⟩ := hb
    refine g_getR (some a12) C fl_RX4_20 dX4_gatherChains_88 q11 rfl rfl q13 ?_
    refine g_aload (some v5) C dX4_gatherChains_91 6 rfl ?_
    refine g_aload (some a10) C dX4_gatherChains_93 0 rfl ?_
    obtain ⟨q14, hb⟩ := hb
    refine g_invV (ci := 7) [.ref v5, .ref a10] [] zy_X7_addUnions wd_690 wd_691 wd_692 ⟨_, _, rfl⟩ (by decide) C dX4_gatherChains_95 (by first | exact Nat.le_of_ble_eq_true rfl | simp [cat_rf]) (by first | exact Nat.le_of_ble_eq_true rfl | simp [cat_rf]) (by first | exact Nat.le_of_ble_eq_true rfl | simp [cat_rf]) (Nat.zero_le _) (Nat.zero_le _) rfl rfl q14 (okX7_addUnions hb) ?_
    rintro o σ15 ⟨rfl, hb⟩
    refine ⟨_, rfl, ?_⟩
    refine g_iinc (v := v4 + 1) (lv' := [(4, .int (v4 + 1)), (6, .ref a10), (0, .ref v0), (1, .ref v1), (2, .ref v2), (3, .ref v3), (5, .ref v5)]) C dX4_gatherChains_98 5 rfl rfl (hnl_of hΓ (by decide)) (by first | rfl | simp [cat_rf]) ?_
    refine g_goto (tgt := 10) C dX4_gatherChains_101 (by decide) ?_
    refine g_sub (lv' := [(0, .ref v0), (1, .ref v1), (2, .ref v2), (3, .ref v3), (4, .int (v4 + 1))]) [2, 3, 4, 5, 0] rfl ?_
    exact h10 _ _ _ _ _ _ hb
set_option maxRecDepth 20000 in
theorem kwX4_gatherChains_10 {Γ : hCT} (C : hC Γ RX4 cX4_gatherChains ((Option.none : Option Jvm.ClassFile.FieldType)) "gatherChains" 2 48) {Q : St → Prop} (hΓ : Γ.2.2.2.2.2.2.2.2.2.2.2 = (7, 0, 0, oV Q)) {r10 : Nat → Nat → Nat → Nat → Int32 → St → Prop} (h10 : ∀ (v0 : Nat) (v1 : Nat) (v2 : Nat) (v3 : Nat) (v4 : Int32) (σ : St), r10 v0 v1 v2 v3 v4 σ → hW Γ 0 0 10 [(0, .ref v0), (1, .ref v1), (2, .ref v2), (3, .ref v3), (4, .int v4)] [] σ) (v0 : Nat) (v1 : Nat) (v2 : Nat) (v3 : Nat) (v4 : Int32) (σ : St) (hb : wX4_gatherChains_10 Q r10 v0 v1 v2 v3 v4 σ) : hW Γ 0 0 10 [(0, .ref v0), (1, .ref v1), (2, .ref v2), (3, .ref v3), (4, .int v4)] [] σ := by
  unfold wX4_gatherChains_10 at hb
  refine g_iload C dX4_gatherChains_10 4 rfl ?_
  refine g_aload_n (some v2) C dX4_gatherChains_12 2 rfl ?_
  obtain ⟨q1, hb⟩ := hb
  refine g_getIx (zFi σ 193 v2) C fl_RX4_127 dX4_gatherChains_13 q1 rfl rfl rfl ?_
  refine g_icmp_ge (tgt := 104) C dX4_gatherChains_16 (by decide) (fun c => ?_) (fun c => ?_)
  ·
    replace hb := hb.1 (c)
    exact g_vreturn C hΓ (Nat.zero_le _) (Nat.zero_le _) dX4_gatherChains_104 ⟨rfl, hb⟩
  ·
    replace hb := hb.2 (c)
    refine g_aload_n (some v2) C dX4_gatherChains_19 2 rfl ?_
    obtain ⟨a2, q3, hb⟩ := hb
    refine g_getR (some a2) C fl_RX4_130 dX4_gatherChains_20 q1 rfl rfl q3 ?_
    refine g_iload C dX4_gatherChains_23 4 rfl ?_
    obtain ⟨q4, hb⟩ := hb
    obtain ⟨q5, hb⟩ := hb
    obtain ⟨a6, q7, hb⟩ := hb
    refine g_aald (some a6) el_25 C dX4_gatherChains_25 q4 q5 q7 ?_
    refine g_astore (lv' := [(5, .ref a6), (0, .ref v0), (1, .ref v1), (2, .ref v2), (3, .ref v3), (4, .int v4)]) (some a6) C dX4_gatherChains_26 (hnl_of hΓ (by decide)) (by first | rfl | simp [cat_rf]) ?_
    refine g_aload (some a6) C dX4_gatherChains_28 0 rfl ?_
    obtain ⟨q8, hb⟩ := hb
    obtain ⟨a9, q10, hb⟩ := hb
    refine g_getR (some a9) C fl_RX4_134 dX4_gatherChains_30 q8 rfl rfl q10 ?_
    refine g_iconst (v := 0) C dX4_gatherChains_33 (by decide) ?_
    obtain ⟨q11, hb⟩ := hb
    obtain ⟨q12, hb⟩ := hb
    refine g_ialdx (zAi σ a9 (ix 0)) C dX4_gatherChains_34 q11 q12 rfl ?_
    refine g_aload_n (some v3) C dX4_gatherChains_35 4 rfl ?_
    refine g_iconst (v := 0) C dX4_gatherChains_36 (by decide) ?_
    obtain ⟨q13, hb⟩ := hb
    obtain ⟨q14, hb⟩ := hb
    refine g_ialdx (zAi σ v3 (ix 0)) C dX4_gatherChains_37 q13 q14 rfl ?_
    refine g_icmp_eq (tgt := 44) C dX4_gatherChains_38 (by decide) (fun c => ?_) (fun c => ?_)
    ·
      replace hb := hb.1 (c)
      refine g_aload (some a6) C dX4_gatherChains_44 0 rfl ?_
      refine g_getR (some a9) C fl_RX4_134 dX4_gatherChains_46 q8 rfl rfl q10 ?_
      refine g_iconst (v := 1) C dX4_gatherChains_49 (by decide) ?_
      obtain ⟨q15, hb⟩ := hb
      refine g_ialdx (zAi σ a9 (ix 1)) C dX4_gatherChains_50 q11 q15 rfl ?_
      refine g_aload_n (some v3) C dX4_gatherChains_51 4 rfl ?_
      refine g_iconst (v := 1) C dX4_gatherChains_52 (by decide) ?_
      obtain ⟨q16, hb⟩ := hb
      refine g_ialdx (zAi σ v3 (ix 1)) C dX4_gatherChains_53 q13 q16 rfl ?_
      refine g_icmp_ne (tgt := 66) C dX4_gatherChains_54 (by decide) (fun c => ?_) (fun c => ?_)
      ·
        replace hb := hb.1 (c)
        refine g_sub (lv' := [(0, .ref v0), (1, .ref v1), (2, .ref v2), (3, .ref v3), (4, .int v4), (5, .ref a6)]) [1, 2, 3, 4, 5, 0] rfl ?_
        exact kwX4_gatherChains_66 C hΓ h10 _ _ _ _ _ _ _ hb
      ·
        replace hb := hb.2 (c)
        refine g_aload_n (some v0) C dX4_gatherChains_57 1 rfl ?_
        obtain ⟨q17, hb⟩ := hb
        obtain ⟨a18, q19, hb⟩ := hb
        refine g_getR (some a18) C fl_RX4_20 dX4_gatherChains_58 q17 rfl rfl q19 ?_
        refine g_aload (some a6) C dX4_gatherChains_61 0 rfl ?_
        obtain ⟨q20, hb⟩ := hb
        refine g_invV (ci := 7) [.ref a6] [] zy_X7_addWays wd_640 wd_641 wd_642 ⟨_, _, rfl⟩ (by decide) C dX4_gatherChains_63 (by first | exact Nat.le_of_ble_eq_true rfl | simp [cat_rf]) (by first | exact Nat.le_of_ble_eq_true rfl | simp [cat_rf]) (by first | exact Nat.le_of_ble_eq_true rfl | simp [cat_rf]) (Nat.zero_le _) (Nat.zero_le _) rfl rfl q20 (okX7_addWays hb) ?_
        rintro o σ21 ⟨rfl, hb⟩
        refine ⟨_, rfl, ?_⟩
        refine g_sub (lv' := [(0, .ref v0), (1, .ref v1), (2, .ref v2), (3, .ref v3), (4, .int v4), (5, .ref a6)]) [1, 2, 3, 4, 5, 0] rfl ?_
        exact kwX4_gatherChains_66 C hΓ h10 _ _ _ _ _ _ _ hb
    ·
      replace hb := hb.2 (c)
      refine g_goto (tgt := 98) C dX4_gatherChains_41 (by decide) ?_
      refine g_iinc (v := v4 + 1) (lv' := [(4, .int (v4 + 1)), (5, .ref a6), (0, .ref v0), (1, .ref v1), (2, .ref v2), (3, .ref v3)]) C dX4_gatherChains_98 5 rfl rfl (hnl_of hΓ (by decide)) (by first | rfl | simp [cat_rf]) ?_
      refine g_goto (tgt := 10) C dX4_gatherChains_101 (by decide) ?_
      refine g_sub (lv' := [(0, .ref v0), (1, .ref v1), (2, .ref v2), (3, .ref v3), (4, .int (v4 + 1))]) [2, 3, 4, 5, 0] rfl ?_
      exact h10 _ _ _ _ _ _ hb
theorem klX4_gatherChains_10 {Γ : hCT} (C : hC Γ RX4 cX4_gatherChains ((Option.none : Option Jvm.ClassFile.FieldType)) "gatherChains" 2 48) {Q : St → Prop} (hΓ : Γ.2.2.2.2.2.2.2.2.2.2.2 = (7, 0, 0, oV Q)) (f : Nat) (v0 : Nat) (v1 : Nat) (v2 : Nat) (v3 : Nat) (v4 : Int32) (σ : St) (hb : lX4_gatherChains_10 Q f v0 v1 v2 v3 v4 σ) : hW Γ 0 0 10 [(0, .ref v0), (1, .ref v1), (2, .ref v2), (3, .ref v3), (4, .int v4)] [] σ := by
  induction f generalizing v0 v1 v2 v3 v4 σ with
  | zero => exact hb.elim
  | succ f ih => exact kwX4_gatherChains_10 C hΓ  (fun v0 v1 v2 v3 v4 σ h => ih v0 v1 v2 v3 v4 σ h) _ _ _ _ _ _ hb
set_option maxRecDepth 20000 in
theorem kwX4_gatherChains_0 {Γ : hCT} (C : hC Γ RX4 cX4_gatherChains ((Option.none : Option Jvm.ClassFile.FieldType)) "gatherChains" 2 48) {Q : St → Prop} (hΓ : Γ.2.2.2.2.2.2.2.2.2.2.2 = (7, 0, 0, oV Q)) (v0 : Nat) (v1 : Nat) (v2 : Nat) (v3 : Nat) (σ : St) (hb : wX4_gatherChains_0 Q v0 v1 v2 v3 σ) : hW Γ 0 0 0 [(0, .ref v0), (1, .ref v1), (2, .ref v2), (3, .ref v3)] [] σ := by
  unfold wX4_gatherChains_0 at hb
  refine g_aload_n (some v0) C dX4_gatherChains_0 0 rfl ?_
  obtain ⟨q1, hb⟩ := hb
  obtain ⟨a2, q3, hb⟩ := hb
  refine g_getR (some a2) C fl_RX4_20 dX4_gatherChains_1 q1 rfl rfl q3 ?_
  obtain ⟨q4, hb⟩ := hb
  refine g_invV (ci := 7) [] [] zy_X7_clear wd_635 wd_636 wd_637 ⟨_, _, rfl⟩ (by decide) C dX4_gatherChains_4 (by first | exact Nat.le_of_ble_eq_true rfl | simp [cat_rf]) (by first | exact Nat.le_of_ble_eq_true rfl | simp [cat_rf]) (by first | exact Nat.le_of_ble_eq_true rfl | simp [cat_rf]) (Nat.zero_le _) (Nat.zero_le _) rfl rfl q4 (okX7_clear hb) ?_
  rintro o σ5 ⟨rfl, hb⟩
  refine ⟨_, rfl, ?_⟩
  refine g_iconst (v := 0) C dX4_gatherChains_7 (by decide) ?_
  refine g_istore (lv' := [(4, .int 0), (0, .ref v0), (1, .ref v1), (2, .ref v2), (3, .ref v3)]) C dX4_gatherChains_8 (hnl_of hΓ (by decide)) (by first | rfl | simp [cat_rf]) ?_
  refine g_sub (lv' := [(0, .ref v0), (1, .ref v1), (2, .ref v2), (3, .ref v3), (4, .int 0)]) [1, 2, 3, 4, 0] rfl ?_
  obtain ⟨f6, hb⟩ := hb
  exact klX4_gatherChains_10 C hΓ  f6 _ _ _ _ _ _ hb
theorem okX4_gatherChains {v0 : Nat} {v1 : Nat} {v2 : Nat} {v3 : Nat} {σ : St} {Q : St → Prop} (hb : wX4_gatherChains v0 v1 v2 v3 σ Q) : hM yX4_gatherChains cX4_gatherChains 7 ((Option.none : Option Jvm.ClassFile.FieldType)) 2 48 0 0 [.ref v0, .ref v1, .ref v2, .ref v3] σ (oV Q) :=
  hM_of (by decide) (Nat.le_of_ble_eq_true rfl) (fun Γ hΓ C => kwX4_gatherChains_0 C hΓ _ _ _ _ _ hb)
def wX4_gatherRound_2 (Q : Int32 → St → Prop) (r2 : Nat → Nat → Nat → Int32 → St → Prop) (v0 : Nat) (v1 : Nat) (v2 : Nat) (v3 : Int32) (σ : St) : Prop :=
  zK σ v0 = 5 ∧ ∃ a2 : Nat, zFr σ 261 v0 = some a2 ∧ zK σ a2 = 4 ∧ (((zFi σ 193 a2) ≤ v3 → Q 1 σ) ∧ (¬ (zFi σ 193 a2) ≤ v3 → ∃ a5 : Nat, zFr σ 192 a2 = some a5 ∧ zK σ a5 = 25 ∧ vp_in v3 (zL σ a5) ∧ ∃ a9 : Nat, zAr σ a5 (ix v3) = some a9 ∧ zK σ a9 = 3 ∧ ∃ a12 : Nat, zFr σ 128 a9 = some a12 ∧ wX4_gatherChains v0 v1 v2 a12 σ (fun σ14 => zK σ14 v0 = 5 ∧ ∃ a16 : Nat, zFr σ14 259 v0 = some a16 ∧ ∃ a18 : Nat, zFr σ14 261 v0 = some a18 ∧ zK σ14 a18 = 4 ∧ ∃ a21 : Nat, zFr σ14 192 a18 = some a21 ∧ zK σ14 a21 = 25 ∧ vp_in v3 (zL σ14 a21) ∧ ∃ a25 : Nat, zAr σ14 a21 (ix v3) = some a25 ∧ zK σ14 a16 = 8 ∧ wX7_giveWays a16 a25 σ14 (fun y29 σ28 => ((¬ y29 = 0 → r2 v0 v1 v2 (v3 + 1) σ28) ∧ (y29 = 0 → Q 0 σ28))))))
def lX4_gatherRound_2 (Q : Int32 → St → Prop) : Nat → Nat → Nat → Nat → Int32 → St → Prop
  | 0, _, _, _, _, _ => False
  | f + 1, v0, v1, v2, v3, σ => wX4_gatherRound_2 Q (lX4_gatherRound_2 Q f) v0 v1 v2 v3 σ
def wX4_gatherRound_0 (Q : Int32 → St → Prop) (v0 : Nat) (v1 : Nat) (v2 : Nat) (σ : St) : Prop :=
  ∃ f, lX4_gatherRound_2 Q f v0 v1 v2 0 σ
def wX4_gatherRound (v0 : Nat) (v1 : Nat) (v2 : Nat) (σ : St) (Q : Int32 → St → Prop) : Prop := wX4_gatherRound_0 Q v0 v1 v2 σ
set_option maxRecDepth 20000 in
theorem kwX4_gatherRound_2 {Γ : hCT} (C : hC Γ RX4 cX4_gatherRound ((Option.some FieldType.boolean)) "gatherRound" 3 74) {Q : Int32 → St → Prop} (hΓ : Γ.2.2.2.2.2.2.2.2.2.2.2 = (4, 0, 0, oI Q)) {r2 : Nat → Nat → Nat → Int32 → St → Prop} (h2 : ∀ (v0 : Nat) (v1 : Nat) (v2 : Nat) (v3 : Int32) (σ : St), r2 v0 v1 v2 v3 σ → hW Γ 0 0 2 [(0, .ref v0), (1, .ref v1), (2, .ref v2), (3, .int v3)] [] σ) (v0 : Nat) (v1 : Nat) (v2 : Nat) (v3 : Int32) (σ : St) (hb : wX4_gatherRound_2 Q r2 v0 v1 v2 v3 σ) : hW Γ 0 0 2 [(0, .ref v0), (1, .ref v1), (2, .ref v2), (3, .int v3)] [] σ := by
  unfold wX4_gatherRound_2 at hb
  refine g_iload_n C dX4_gatherRound_2 3 rfl ?_
  refine g_aload_n (some v0) C dX4_gatherRound_3 0 rfl ?_
  obtain ⟨q1, hb⟩ := hb
  obtain ⟨a2, q3, hb⟩ := hb
  refine g_getR (some a2) C fl_RX4_31 dX4_gatherRound_4 q1 rfl rfl q3 ?_
  obtain ⟨q4, hb⟩ := hb
  refine g_getIx (zFi σ 193 a2) C fl_RX4_127 dX4_gatherRound_7 q4 rfl rfl rfl ?_
  refine g_icmp_ge (tgt := 58) C dX4_gatherRound_10 (by decide) (fun c => ?_) (fun c => ?_)
  ·
    replace hb := hb.1 (c)
    refine g_iconst (v := 1) C dX4_gatherRound_58 (by decide) ?_
    exact g_zreturn C (by decide) hΓ (Nat.zero_le _) (Nat.zero_le _) dX4_gatherRound_59 ⟨_, rfl, hb⟩
  ·
    replace hb := hb.2 (c)
    refine g_aload_n (some v0) C dX4_gatherRound_13 0 rfl ?_
    refine g_aload_n (some v1) C dX4_gatherRound_14 1 rfl ?_
    refine g_aload_n (some v2) C dX4_gatherRound_15 2 rfl ?_
    refine g_aload_n (some v0) C dX4_gatherRound_16 0 rfl ?_
    refine g_getR (some a2) C fl_RX4_31 dX4_gatherRound_17 q1 rfl rfl q3 ?_
    obtain ⟨a5, q6, hb⟩ := hb
    refine g_getR (some a5) C fl_RX4_130 dX4_gatherRound_20 q4 rfl rfl q6 ?_
    refine g_iload_n C dX4_gatherRound_23 3 rfl ?_
    obtain ⟨q7, hb⟩ := hb
    obtain ⟨q8, hb⟩ := hb
    obtain ⟨a9, q10, hb⟩ := hb
    refine g_aald (some a9) el_25 C dX4_gatherRound_24 q7 q8 q10 ?_
    obtain ⟨q11, hb⟩ := hb
    obtain ⟨a12, q13, hb⟩ := hb
    refine g_getR (some a12) C fl_RX4_134 dX4_gatherRound_25 q11 rfl rfl q13 ?_
    refine g_invV (ci := 4) [.ref v1, .ref v2, .ref a12] [] zy_X4_gatherChains wd_722 wd_724 wd_20 ⟨_, _, rfl⟩ (by decide) C dX4_gatherRound_28 (by first | exact Nat.le_of_ble_eq_true rfl | simp [cat_rf]) (by first | exact Nat.le_of_ble_eq_true rfl | simp [cat_rf]) (by first | exact Nat.le_of_ble_eq_true rfl | simp [cat_rf]) (Nat.zero_le _) (Nat.zero_le _) rfl rfl q1 (okX4_gatherChains hb) ?_
    rintro o σ14 ⟨rfl, hb⟩
    refine ⟨_, rfl, ?_⟩
    refine g_aload_n (some v0) C dX4_gatherRound_31 0 rfl ?_
    obtain ⟨q15, hb⟩ := hb
    obtain ⟨a16, q17, hb⟩ := hb
    refine g_getR (some a16) C fl_RX4_20 dX4_gatherRound_32 q15 rfl rfl q17 ?_
    refine g_aload_n (some v0) C dX4_gatherRound_35 0 rfl ?_
    obtain ⟨a18, q19, hb⟩ := hb
    refine g_getR (some a18) C fl_RX4_31 dX4_gatherRound_36 q15 rfl rfl q19 ?_
    obtain ⟨q20, hb⟩ := hb
    obtain ⟨a21, q22, hb⟩ := hb
    refine g_getR (some a21) C fl_RX4_130 dX4_gatherRound_39 q20 rfl rfl q22 ?_
    refine g_iload_n C dX4_gatherRound_42 3 rfl ?_
    obtain ⟨q23, hb⟩ := hb
    obtain ⟨q24, hb⟩ := hb
    obtain ⟨a25, q26, hb⟩ := hb
    refine g_aald (some a25) el_25 C dX4_gatherRound_43 q23 q24 q26 ?_
    obtain ⟨q27, hb⟩ := hb
    refine g_invV (ci := 7) [.ref a25] [] zy_X7_giveWays wd_694 wd_662 wd_663 ⟨_, _, rfl⟩ (by decide) C dX4_gatherRound_44 (by first | exact Nat.le_of_ble_eq_true rfl | simp [cat_rf]) (by first | exact Nat.le_of_ble_eq_true rfl | simp [cat_rf]) (by first | exact Nat.le_of_ble_eq_true rfl | simp [cat_rf]) (Nat.zero_le _) (Nat.zero_le _) rfl rfl q27 (okX7_giveWays hb) ?_
    rintro o σ28 ⟨y29, rfl, hb⟩
    refine ⟨_, rfl, ?_⟩
    refine g_if_ne (tgt := 52) C dX4_gatherRound_47 (by decide) (fun c => ?_) (fun c => ?_)
    ·
      replace hb := hb.1 (c)
      refine g_iinc (v := v3 + 1) (lv' := [(3, .int (v3 + 1)), (0, .ref v0), (1, .ref v1), (2, .ref v2)]) C dX4_gatherRound_52 3 rfl rfl (hnl_of hΓ (by decide)) (by first | rfl | simp [cat_rf]) ?_
      refine g_goto (tgt := 2) C dX4_gatherRound_55 (by decide) ?_
      refine g_sub (lv' := [(0, .ref v0), (1, .ref v1), (2, .ref v2), (3, .int (v3 + 1))]) [1, 2, 3, 0] rfl ?_
      exact h2 _ _ _ _ _ hb
    ·
      replace hb := hb.2 (c)
      refine g_iconst (v := 0) C dX4_gatherRound_50 (by decide) ?_
      exact g_zreturn C (by decide) hΓ (Nat.zero_le _) (Nat.zero_le _) dX4_gatherRound_51 ⟨_, rfl, hb⟩
theorem klX4_gatherRound_2 {Γ : hCT} (C : hC Γ RX4 cX4_gatherRound ((Option.some FieldType.boolean)) "gatherRound" 3 74) {Q : Int32 → St → Prop} (hΓ : Γ.2.2.2.2.2.2.2.2.2.2.2 = (4, 0, 0, oI Q)) (f : Nat) (v0 : Nat) (v1 : Nat) (v2 : Nat) (v3 : Int32) (σ : St) (hb : lX4_gatherRound_2 Q f v0 v1 v2 v3 σ) : hW Γ 0 0 2 [(0, .ref v0), (1, .ref v1), (2, .ref v2), (3, .int v3)] [] σ := by
  induction f generalizing v0 v1 v2 v3 σ with
  | zero => exact hb.elim
  | succ f ih => exact kwX4_gatherRound_2 C hΓ  (fun v0 v1 v2 v3 σ h => ih v0 v1 v2 v3 σ h) _ _ _ _ _ hb
set_option maxRecDepth 20000 in
theorem kwX4_gatherRound_0 {Γ : hCT} (C : hC Γ RX4 cX4_gatherRound ((Option.some FieldType.boolean)) "gatherRound" 3 74) {Q : Int32 → St → Prop} (hΓ : Γ.2.2.2.2.2.2.2.2.2.2.2 = (4, 0, 0, oI Q)) (v0 : Nat) (v1 : Nat) (v2 : Nat) (σ : St) (hb : wX4_gatherRound_0 Q v0 v1 v2 σ) : hW Γ 0 0 0 [(0, .ref v0), (1, .ref v1), (2, .ref v2)] [] σ := by
  unfold wX4_gatherRound_0 at hb
  refine g_iconst (v := 0) C dX4_gatherRound_0 (by decide) ?_
  refine g_istore_n (i := 3) (lv' := [(3, .int 0), (0, .ref v0), (1, .ref v1), (2, .ref v2)]) C dX4_gatherRound_1 rfl (hnl_of hΓ (by decide)) (by first | rfl | simp [cat_rf]) ?_
  refine g_sub (lv' := [(0, .ref v0), (1, .ref v1), (2, .ref v2), (3, .int 0)]) [1, 2, 3, 0] rfl ?_
  obtain ⟨f1, hb⟩ := hb
  exact klX4_gatherRound_2 C hΓ  f1 _ _ _ _ _ hb
theorem okX4_gatherRound {v0 : Nat} {v1 : Nat} {v2 : Nat} {σ : St} {Q : Int32 → St → Prop} (hb : wX4_gatherRound v0 v1 v2 σ Q) : hM yX4_gatherRound cX4_gatherRound 4 ((Option.some FieldType.boolean)) 3 74 0 0 [.ref v0, .ref v1, .ref v2] σ (oI Q) :=
  hM_of (by decide) (Nat.le_of_ble_eq_true rfl) (fun Γ hΓ C => kwX4_gatherRound_0 C hΓ _ _ _ _ hb)
def wX2_hasWaysOf_15 (Q : Int32 → St → Prop) (r15 : Nat → Nat → Int32 → St → Prop) (v0 : Nat) (v1 : Nat) (v2 : Int32) (σ : St) : Prop :=
  zK σ v0 = 3 ∧ (((zFi σ 130 v0) ≤ v2 → Q 1 σ) ∧ (¬ (zFi σ 130 v0) ≤ v2 → ∃ a2 : Nat, zFr σ 129 v0 = some a2 ∧ zK σ a2 = 21 ∧ vp_in v2 (zL σ a2) ∧ zK σ v1 = 3 ∧ ∃ a7 : Nat, zFr σ 129 v1 = some a7 ∧ zK σ a7 = 21 ∧ vp_in v2 (zL σ a7) ∧ (((zAj σ a2 (ix v2)) = (zAj σ a7 (ix v2)) → r15 v0 v1 (v2 + 1) σ) ∧ (¬ (zAj σ a2 (ix v2)) = (zAj σ a7 (ix v2)) → Q 0 σ))))
def lX2_hasWaysOf_15 (Q : Int32 → St → Prop) : Nat → Nat → Nat → Int32 → St → Prop
  | 0, _, _, _, _ => False
  | f + 1, v0, v1, v2, σ => wX2_hasWaysOf_15 Q (lX2_hasWaysOf_15 Q f) v0 v1 v2 σ
def wX2_hasWaysOf_0 (Q : Int32 → St → Prop) (v0 : Nat) (v1 : Nat) (σ : St) : Prop :=
  zK σ v0 = 3 ∧ zK σ v1 = 3 ∧ (((zFi σ 130 v0) = (zFi σ 130 v1) → ∃ f, lX2_hasWaysOf_15 Q f v0 v1 0 σ) ∧ (¬ (zFi σ 130 v0) = (zFi σ 130 v1) → Q 0 σ))
def wX2_hasWaysOf (v0 : Nat) (v1 : Nat) (σ : St) (Q : Int32 → St → Prop) : Prop := wX2_hasWaysOf_0 Q v0 v1 σ
set_option maxRecDepth 20000 in
theorem kwX2_hasWaysOf_15 {Γ : hCT} (C : hC Γ RX2 cX2_hasWaysOf ((Option.some FieldType.boolean)) "hasWaysOf" 0 0) {Q : Int32 → St → Prop} (hΓ : Γ.2.2.2.2.2.2.2.2.2.2.2 = (3, 0, 0, oI Q)) {r15 : Nat → Nat → Int32 → St → Prop} (h15 : ∀ (v0 : Nat) (v1 : Nat) (v2 : Int32) (σ : St), r15 v0 v1 v2 σ → hW Γ 0 0 15 [(0, .ref v0), (1, .ref v1), (2, .int v2)] [] σ) (v0 : Nat) (v1 : Nat) (v2 : Int32) (σ : St) (hb : wX2_hasWaysOf_15 Q r15 v0 v1 v2 σ) : hW Γ 0 0 15 [(0, .ref v0), (1, .ref v1), (2, .int v2)] [] σ := by
  unfold wX2_hasWaysOf_15 at hb
  refine g_iload_n C dX2_hasWaysOf_15 2 rfl ?_
  refine g_aload_n (some v0) C dX2_hasWaysOf_16 0 rfl ?_
  obtain ⟨q1, hb⟩ := hb
  refine g_getIx (zFi σ 130 v0) C fl_RX2_25 dX2_hasWaysOf_17 q1 rfl rfl rfl ?_
  refine g_icmp_ge (tgt := 47) C dX2_hasWaysOf_20 (by decide) (fun c => ?_) (fun c => ?_)
  ·
    replace hb := hb.1 (c)
    refine g_iconst (v := 1) C dX2_hasWaysOf_47 (by decide) ?_
    exact g_zreturn C (by decide) hΓ (Nat.zero_le _) (Nat.zero_le _) dX2_hasWaysOf_48 ⟨_, rfl, hb⟩
  ·
    replace hb := hb.2 (c)
    refine g_aload_n (some v0) C dX2_hasWaysOf_23 0 rfl ?_
    obtain ⟨a2, q3, hb⟩ := hb
    refine g_getR (some a2) C fl_RX2_15 dX2_hasWaysOf_24 q1 rfl rfl q3 ?_
    refine g_iload_n C dX2_hasWaysOf_27 2 rfl ?_
    obtain ⟨q4, hb⟩ := hb
    obtain ⟨q5, hb⟩ := hb
    refine g_laldx (zAj σ a2 (ix v2)) C dX2_hasWaysOf_28 q4 q5 rfl ?_
    refine g_aload_n (some v1) C dX2_hasWaysOf_29 1 rfl ?_
    obtain ⟨q6, hb⟩ := hb
    obtain ⟨a7, q8, hb⟩ := hb
    refine g_getR (some a7) C fl_RX2_15 dX2_hasWaysOf_30 q6 rfl rfl q8 ?_
    refine g_iload_n C dX2_hasWaysOf_33 2 rfl ?_
    obtain ⟨q9, hb⟩ := hb
    obtain ⟨q10, hb⟩ := hb
    refine g_laldx (zAj σ a7 (ix v2)) C dX2_hasWaysOf_34 q9 q10 rfl ?_
    refine g_lcmp C dX2_hasWaysOf_35 ?_
    refine g_if_eq (tgt := 41) C dX2_hasWaysOf_36 (by decide) (fun c => ?_) (fun c => ?_)
    ·
      replace hb := hb.1 (lc_eq.mp c)
      refine g_iinc (v := v2 + 1) (lv' := [(2, .int (v2 + 1)), (0, .ref v0), (1, .ref v1)]) C dX2_hasWaysOf_41 2 rfl rfl (hnl_of hΓ (by decide)) (by first | rfl | simp [cat_rf]) ?_
      refine g_goto (tgt := 15) C dX2_hasWaysOf_44 (by decide) ?_
      refine g_sub (lv' := [(0, .ref v0), (1, .ref v1), (2, .int (v2 + 1))]) [1, 2, 0] rfl ?_
      exact h15 _ _ _ _ hb
    ·
      replace hb := hb.2 (lcn_eq.mp c)
      refine g_iconst (v := 0) C dX2_hasWaysOf_39 (by decide) ?_
      exact g_zreturn C (by decide) hΓ (Nat.zero_le _) (Nat.zero_le _) dX2_hasWaysOf_40 ⟨_, rfl, hb⟩
theorem klX2_hasWaysOf_15 {Γ : hCT} (C : hC Γ RX2 cX2_hasWaysOf ((Option.some FieldType.boolean)) "hasWaysOf" 0 0) {Q : Int32 → St → Prop} (hΓ : Γ.2.2.2.2.2.2.2.2.2.2.2 = (3, 0, 0, oI Q)) (f : Nat) (v0 : Nat) (v1 : Nat) (v2 : Int32) (σ : St) (hb : lX2_hasWaysOf_15 Q f v0 v1 v2 σ) : hW Γ 0 0 15 [(0, .ref v0), (1, .ref v1), (2, .int v2)] [] σ := by
  induction f generalizing v0 v1 v2 σ with
  | zero => exact hb.elim
  | succ f ih => exact kwX2_hasWaysOf_15 C hΓ  (fun v0 v1 v2 σ h => ih v0 v1 v2 σ h) _ _ _ _ hb
set_option maxRecDepth 20000 in
theorem kwX2_hasWaysOf_0 {Γ : hCT} (C : hC Γ RX2 cX2_hasWaysOf ((Option.some FieldType.boolean)) "hasWaysOf" 0 0) {Q : Int32 → St → Prop} (hΓ : Γ.2.2.2.2.2.2.2.2.2.2.2 = (3, 0, 0, oI Q)) (v0 : Nat) (v1 : Nat) (σ : St) (hb : wX2_hasWaysOf_0 Q v0 v1 σ) : hW Γ 0 0 0 [(0, .ref v0), (1, .ref v1)] [] σ := by
  unfold wX2_hasWaysOf_0 at hb
  refine g_aload_n (some v0) C dX2_hasWaysOf_0 0 rfl ?_
  obtain ⟨q1, hb⟩ := hb
  refine g_getIx (zFi σ 130 v0) C fl_RX2_25 dX2_hasWaysOf_1 q1 rfl rfl rfl ?_
  refine g_aload_n (some v1) C dX2_hasWaysOf_4 1 rfl ?_
  obtain ⟨q2, hb⟩ := hb
  refine g_getIx (zFi σ 130 v1) C fl_RX2_25 dX2_hasWaysOf_5 q2 rfl rfl rfl ?_
  refine g_icmp_eq (tgt := 13) C dX2_hasWaysOf_8 (by decide) (fun c => ?_) (fun c => ?_)
  ·
    replace hb := hb.1 (c)
    refine g_iconst (v := 0) C dX2_hasWaysOf_13 (by decide) ?_
    refine g_istore_n (i := 2) (lv' := [(2, .int 0), (0, .ref v0), (1, .ref v1)]) C dX2_hasWaysOf_14 rfl (hnl_of hΓ (by decide)) (by first | rfl | simp [cat_rf]) ?_
    refine g_sub (lv' := [(0, .ref v0), (1, .ref v1), (2, .int 0)]) [1, 2, 0] rfl ?_
    obtain ⟨f3, hb⟩ := hb
    exact klX2_hasWaysOf_15 C hΓ  f3 _ _ _ _ hb
  ·
    replace hb := hb.2 (c)
    refine g_iconst (v := 0) C dX2_hasWaysOf_11 (by decide) ?_
    exact g_zreturn C (by decide) hΓ (Nat.zero_le _) (Nat.zero_le _) dX2_hasWaysOf_12 ⟨_, rfl, hb⟩
theorem okX2_hasWaysOf {v0 : Nat} {v1 : Nat} {σ : St} {Q : Int32 → St → Prop} (hb : wX2_hasWaysOf v0 v1 σ Q) : hM yX2_hasWaysOf cX2_hasWaysOf 3 ((Option.some FieldType.boolean)) 0 0 0 0 [.ref v0, .ref v1] σ (oI Q) :=
  hM_of (by decide) (Nat.le_of_ble_eq_true rfl) (fun Γ hΓ C => kwX2_hasWaysOf_0 C hΓ _ _ _ hb)
def wX3_sameWays_15 (Q : Int32 → St → Prop) (r15 : Nat → Nat → Int32 → St → Prop) (v0 : Nat) (v1 : Nat) (v2 : Int32) (σ : St) : Prop :=
  zK σ v0 = 4 ∧ (((zFi σ 193 v0) ≤ v2 → Q 1 σ) ∧ (¬ (zFi σ 193 v0) ≤ v2 → ∃ a2 : Nat, zFr σ 192 v0 = some a2 ∧ zK σ a2 = 25 ∧ vp_in v2 (zL σ a2) ∧ ∃ a6 : Nat, zAr σ a2 (ix v2) = some a6 ∧ zK σ v1 = 4 ∧ ∃ a9 : Nat, zFr σ 192 v1 = some a9 ∧ zK σ a9 = 25 ∧ vp_in v2 (zL σ a9) ∧ ∃ a13 : Nat, zAr σ a9 (ix v2) = some a13 ∧ zK σ a6 = 3 ∧ wX2_hasWaysOf a6 a13 σ (fun y17 σ16 => ((¬ y17 = 0 → r15 v0 v1 (v2 + 1) σ16) ∧ (y17 = 0 → Q 0 σ16)))))
def lX3_sameWays_15 (Q : Int32 → St → Prop) : Nat → Nat → Nat → Int32 → St → Prop
  | 0, _, _, _, _ => False
  | f + 1, v0, v1, v2, σ => wX3_sameWays_15 Q (lX3_sameWays_15 Q f) v0 v1 v2 σ
def wX3_sameWays_0 (Q : Int32 → St → Prop) (v0 : Nat) (v1 : Nat) (σ : St) : Prop :=
  zK σ v0 = 4 ∧ zK σ v1 = 4 ∧ (((zFi σ 193 v0) = (zFi σ 193 v1) → ∃ f, lX3_sameWays_15 Q f v0 v1 0 σ) ∧ (¬ (zFi σ 193 v0) = (zFi σ 193 v1) → Q 0 σ))
def wX3_sameWays (v0 : Nat) (v1 : Nat) (σ : St) (Q : Int32 → St → Prop) : Prop := wX3_sameWays_0 Q v0 v1 σ
set_option maxRecDepth 20000 in
theorem kwX3_sameWays_15 {Γ : hCT} (C : hC Γ RX3 cX3_sameWays ((Option.some FieldType.boolean)) "sameWays" 1 22) {Q : Int32 → St → Prop} (hΓ : Γ.2.2.2.2.2.2.2.2.2.2.2 = (3, 0, 0, oI Q)) {r15 : Nat → Nat → Int32 → St → Prop} (h15 : ∀ (v0 : Nat) (v1 : Nat) (v2 : Int32) (σ : St), r15 v0 v1 v2 σ → hW Γ 0 0 15 [(0, .ref v0), (1, .ref v1), (2, .int v2)] [] σ) (v0 : Nat) (v1 : Nat) (v2 : Int32) (σ : St) (hb : wX3_sameWays_15 Q r15 v0 v1 v2 σ) : hW Γ 0 0 15 [(0, .ref v0), (1, .ref v1), (2, .int v2)] [] σ := by
  unfold wX3_sameWays_15 at hb
  refine g_iload_n C dX3_sameWays_15 2 rfl ?_
  refine g_aload_n (some v0) C dX3_sameWays_16 0 rfl ?_
  obtain ⟨q1, hb⟩ := hb
  refine g_getIx (zFi σ 193 v0) C fl_RX3_18 dX3_sameWays_17 q1 rfl rfl rfl ?_
  refine g_icmp_ge (tgt := 49) C dX3_sameWays_20 (by decide) (fun c => ?_) (fun c => ?_)
  ·
    replace hb := hb.1 (c)
    refine g_iconst (v := 1) C dX3_sameWays_49 (by decide) ?_
    exact g_zreturn C (by decide) hΓ (Nat.zero_le _) (Nat.zero_le _) dX3_sameWays_50 ⟨_, rfl, hb⟩
  ·
    replace hb := hb.2 (c)
    refine g_aload_n (some v0) C dX3_sameWays_23 0 rfl ?_
    obtain ⟨a2, q3, hb⟩ := hb
    refine g_getR (some a2) C fl_RX3_11 dX3_sameWays_24 q1 rfl rfl q3 ?_
    refine g_iload_n C dX3_sameWays_27 2 rfl ?_
    obtain ⟨q4, hb⟩ := hb
    obtain ⟨q5, hb⟩ := hb
    obtain ⟨a6, q7, hb⟩ := hb
    refine g_aald (some a6) el_25 C dX3_sameWays_28 q4 q5 q7 ?_
    refine g_aload_n (some v1) C dX3_sameWays_29 1 rfl ?_
    obtain ⟨q8, hb⟩ := hb
    obtain ⟨a9, q10, hb⟩ := hb
    refine g_getR (some a9) C fl_RX3_11 dX3_sameWays_30 q8 rfl rfl q10 ?_
    refine g_iload_n C dX3_sameWays_33 2 rfl ?_
    obtain ⟨q11, hb⟩ := hb
    obtain ⟨q12, hb⟩ := hb
    obtain ⟨a13, q14, hb⟩ := hb
    refine g_aald (some a13) el_25 C dX3_sameWays_34 q11 q12 q14 ?_
    obtain ⟨q15, hb⟩ := hb
    refine g_invV (ci := 2) [.ref a13] [] zy_X2_hasWaysOf wd_733 wd_734 wd_735 ⟨_, _, rfl⟩ (by decide) C dX3_sameWays_35 (by first | exact Nat.le_of_ble_eq_true rfl | simp [cat_rf]) (by first | exact Nat.le_of_ble_eq_true rfl | simp [cat_rf]) (by first | exact Nat.le_of_ble_eq_true rfl | simp [cat_rf]) (Nat.zero_le _) (Nat.zero_le _) rfl rfl q15 (okX2_hasWaysOf hb) ?_
    rintro o σ16 ⟨y17, rfl, hb⟩
    refine ⟨_, rfl, ?_⟩
    refine g_if_ne (tgt := 43) C dX3_sameWays_38 (by decide) (fun c => ?_) (fun c => ?_)
    ·
      replace hb := hb.1 (c)
      refine g_iinc (v := v2 + 1) (lv' := [(2, .int (v2 + 1)), (0, .ref v0), (1, .ref v1)]) C dX3_sameWays_43 2 rfl rfl (hnl_of hΓ (by decide)) (by first | rfl | simp [cat_rf]) ?_
      refine g_goto (tgt := 15) C dX3_sameWays_46 (by decide) ?_
      refine g_sub (lv' := [(0, .ref v0), (1, .ref v1), (2, .int (v2 + 1))]) [1, 2, 0] rfl ?_
      exact h15 _ _ _ _ hb
    ·
      replace hb := hb.2 (c)
      refine g_iconst (v := 0) C dX3_sameWays_41 (by decide) ?_
      exact g_zreturn C (by decide) hΓ (Nat.zero_le _) (Nat.zero_le _) dX3_sameWays_42 ⟨_, rfl, hb⟩
theorem klX3_sameWays_15 {Γ : hCT} (C : hC Γ RX3 cX3_sameWays ((Option.some FieldType.boolean)) "sameWays" 1 22) {Q : Int32 → St → Prop} (hΓ : Γ.2.2.2.2.2.2.2.2.2.2.2 = (3, 0, 0, oI Q)) (f : Nat) (v0 : Nat) (v1 : Nat) (v2 : Int32) (σ : St) (hb : lX3_sameWays_15 Q f v0 v1 v2 σ) : hW Γ 0 0 15 [(0, .ref v0), (1, .ref v1), (2, .int v2)] [] σ := by
  induction f generalizing v0 v1 v2 σ with
  | zero => exact hb.elim
  | succ f ih => exact kwX3_sameWays_15 C hΓ  (fun v0 v1 v2 σ h => ih v0 v1 v2 σ h) _ _ _ _ hb
set_option maxRecDepth 20000 in
theorem kwX3_sameWays_0 {Γ : hCT} (C : hC Γ RX3 cX3_sameWays ((Option.some FieldType.boolean)) "sameWays" 1 22) {Q : Int32 → St → Prop} (hΓ : Γ.2.2.2.2.2.2.2.2.2.2.2 = (3, 0, 0, oI Q)) (v0 : Nat) (v1 : Nat) (σ : St) (hb : wX3_sameWays_0 Q v0 v1 σ) : hW Γ 0 0 0 [(0, .ref v0), (1, .ref v1)] [] σ := by
  unfold wX3_sameWays_0 at hb
  refine g_aload_n (some v0) C dX3_sameWays_0 0 rfl ?_
  obtain ⟨q1, hb⟩ := hb
  refine g_getIx (zFi σ 193 v0) C fl_RX3_18 dX3_sameWays_1 q1 rfl rfl rfl ?_
  refine g_aload_n (some v1) C dX3_sameWays_4 1 rfl ?_
  obtain ⟨q2, hb⟩ := hb
  refine g_getIx (zFi σ 193 v1) C fl_RX3_18 dX3_sameWays_5 q2 rfl rfl rfl ?_
  refine g_icmp_eq (tgt := 13) C dX3_sameWays_8 (by decide) (fun c => ?_) (fun c => ?_)
  ·
    replace hb := hb.1 (c)
    refine g_iconst (v := 0) C dX3_sameWays_13 (by decide) ?_
    refine g_istore_n (i := 2) (lv' := [(2, .int 0), (0, .ref v0), (1, .ref v1)]) C dX3_sameWays_14 rfl (hnl_of hΓ (by decide)) (by first | rfl | simp [cat_rf]) ?_
    refine g_sub (lv' := [(0, .ref v0), (1, .ref v1), (2, .int 0)]) [1, 2, 0] rfl ?_
    obtain ⟨f3, hb⟩ := hb
    exact klX3_sameWays_15 C hΓ  f3 _ _ _ _ hb
  ·
    replace hb := hb.2 (c)
    refine g_iconst (v := 0) C dX3_sameWays_11 (by decide) ?_
    exact g_zreturn C (by decide) hΓ (Nat.zero_le _) (Nat.zero_le _) dX3_sameWays_12 ⟨_, rfl, hb⟩
theorem okX3_sameWays {v0 : Nat} {v1 : Nat} {σ : St} {Q : Int32 → St → Prop} (hb : wX3_sameWays v0 v1 σ Q) : hM yX3_sameWays cX3_sameWays 3 ((Option.some FieldType.boolean)) 1 22 0 0 [.ref v0, .ref v1] σ (oI Q) :=
  hM_of (by decide) (Nat.le_of_ble_eq_true rfl) (fun Γ hΓ C => kwX3_sameWays_0 C hΓ _ _ _ hb)
def wX4_betterChain_147 (Q : Int32 → St → Prop) (v3 : Nat) (v4 : Int32) (v5 : Int64) (s0 : Int32) (σ : St) : Prop :=
  zK σ v3 = 3 ∧ (s0 = 0 ∨ s0 = 1) ∧ Q s0 (uFj (uFi σ 132 v3 v4) 133 v3 v5)
def wX4_betterChain_142 (Q : Int32 → St → Prop) (v3 : Nat) (v4 : Int32) (v5 : Int64) (σ : St) : Prop :=
  wX4_betterChain_147 Q v3 v4 v5 1 σ
def wX4_betterChain_70 (Q : Int32 → St → Prop) (r15 : Nat → Nat → Nat → Int32 → Int64 → Int32 → St → Prop) (v1 : Nat) (v2 : Nat) (v3 : Nat) (v4 : Int32) (v5 : Int64) (v7 : Int32) (v8 : Nat) (s0 : Option Nat) (σ : St) : Prop :=
  ((s0 = none → r15 v1 v2 v3 v4 v5 (v7 + 1) σ) ∧ (∀ a1 : Nat, s0 = some a1 → zK σ v8 = 3 ∧ zK σ a1 = 3 ∧ wX4_costOfBoth (zFi σ 132 v8) (zFi σ 132 a1) σ (fun y5 σ4 => zK σ4 v8 = 3 ∧ zK σ4 a1 = 3 ∧ r15 v1 v2 v3 (if y5 < v4 then y5 else v4) (if (if (zFj σ4 133 a1) < (zFj σ4 133 v8) then (zFj σ4 133 a1) else (zFj σ4 133 v8)) < v5 then v5 else (if (zFj σ4 133 a1) < (zFj σ4 133 v8) then (zFj σ4 133 a1) else (zFj σ4 133 v8))) (v7 + 1) σ4)))
def wX4_betterChain_15 (Q : Int32 → St → Prop) (r15 : Nat → Nat → Nat → Int32 → Int64 → Int32 → St → Prop) (v1 : Nat) (v2 : Nat) (v3 : Nat) (v4 : Int32) (v5 : Int64) (v7 : Int32) (σ : St) : Prop :=
  zK σ v2 = 4 ∧ (((zFi σ 193 v2) ≤ v7 → zK σ v3 = 3 ∧ ((¬ v4 = (zFi σ 132 v3) → wX4_betterChain_142 Q v3 v4 v5 σ) ∧ (v4 = (zFi σ 132 v3) → ((v5 = (zFj σ 133 v3) → wX4_betterChain_147 Q v3 v4 v5 0 σ) ∧ (¬ v5 = (zFj σ 133 v3) → wX4_betterChain_142 Q v3 v4 v5 σ))))) ∧ (¬ (zFi σ 193 v2) ≤ v7 → ∃ a3 : Nat, zFr σ 192 v2 = some a3 ∧ zK σ a3 = 25 ∧ vp_in v7 (zL σ a3) ∧ ∃ a7 : Nat, zAr σ a3 (ix v7) = some a7 ∧ zK σ a7 = 3 ∧ ∃ a10 : Nat, zFr σ 128 a7 = some a10 ∧ zK σ a10 = 20 ∧ vp_in 0 (zL σ a10) ∧ zK σ v3 = 3 ∧ ∃ a15 : Nat, zFr σ 128 v3 = some a15 ∧ zK σ a15 = 20 ∧ vp_in 0 (zL σ a15) ∧ ((¬ (zAi σ a10 (ix 0)) = (zAi σ a15 (ix 0)) → wX4_betterChain_70 Q r15 v1 v2 v3 v4 v5 v7 a7 none σ) ∧ ((zAi σ a10 (ix 0)) = (zAi σ a15 (ix 0)) → vp_in 1 (zL σ a10) ∧ vp_in 1 (zL σ a15) ∧ wX4_stepOf v1 (zAi σ a10 (ix 1)) (zAi σ a15 (ix 1)) σ (fun y22 σ21 => wX4_betterChain_70 Q r15 v1 v2 v3 v4 v5 v7 a7 y22 σ21)))))
def lX4_betterChain_15 (Q : Int32 → St → Prop) : Nat → Nat → Nat → Nat → Int32 → Int64 → Int32 → St → Prop
  | 0, _, _, _, _, _, _, _ => False
  | f + 1, v1, v2, v3, v4, v5, v7, σ => wX4_betterChain_15 Q (lX4_betterChain_15 Q f) v1 v2 v3 v4 v5 v7 σ
def wX4_betterChain_0 (Q : Int32 → St → Prop) (v0 : Nat) (v1 : Nat) (v2 : Nat) (v3 : Nat) (σ : St) : Prop :=
  zK σ v3 = 3 ∧ ∃ f, lX4_betterChain_15 Q f v1 v2 v3 (zFi σ 132 v3) (zFj σ 133 v3) 0 σ
def wX4_betterChain (v0 : Nat) (v1 : Nat) (v2 : Nat) (v3 : Nat) (σ : St) (Q : Int32 → St → Prop) : Prop := wX4_betterChain_0 Q v0 v1 v2 v3 σ
set_option maxRecDepth 20000 in
theorem kwX4_betterChain_147 {Γ : hCT} (C : hC Γ RX4 cX4_betterChain ((Option.some FieldType.boolean)) "betterChain" 2 61) {Q : Int32 → St → Prop} (hΓ : Γ.2.2.2.2.2.2.2.2.2.2.2 = (10, 0, 0, oI Q)) (v3 : Nat) (v4 : Int32) (v5 : Int64) (s0 : Int32) (σ : St) (hb : wX4_betterChain_147 Q v3 v4 v5 s0 σ) : hW Γ 0 0 147 [(3, .ref v3), (4, .int v4), (5, .long v5)] [.int s0] σ := by
  unfold wX4_betterChain_147 at hb
  refine g_istore (lv' := [(7, .int s0), (3, .ref v3), (4, .int v4), (5, .long v5)]) C dX4_betterChain_147 (hnl_of hΓ (by decide)) (by first | rfl | simp [cat_rf]) ?_
  refine g_aload_n (some v3) C dX4_betterChain_149 1 rfl ?_
  refine g_iload C dX4_betterChain_150 2 rfl ?_
  obtain ⟨q1, hb⟩ := hb
  refine g_putI C fl_RX4_180 dX4_betterChain_152 q1 rfl rfl rfl rfl ?_
  refine g_aload_n (some v3) C dX4_betterChain_155 1 rfl ?_
  refine g_lload C dX4_betterChain_156 3 rfl ?_
  refine g_putJ C fl_RX4_187 dX4_betterChain_158 (by rw [zK_uFi]; exact q1) rfl rfl rfl rfl ?_
  refine g_iload C dX4_betterChain_161 0 rfl ?_
  obtain ⟨q2, hb⟩ := hb
  exact g_zreturn C (nz_n q2) hΓ (Nat.zero_le _) (Nat.zero_le _) dX4_betterChain_163 ⟨_, rfl, hb⟩
set_option maxRecDepth 20000 in
theorem kwX4_betterChain_142 {Γ : hCT} (C : hC Γ RX4 cX4_betterChain ((Option.some FieldType.boolean)) "betterChain" 2 61) {Q : Int32 → St → Prop} (hΓ : Γ.2.2.2.2.2.2.2.2.2.2.2 = (10, 0, 0, oI Q)) (v3 : Nat) (v4 : Int32) (v5 : Int64) (σ : St) (hb : wX4_betterChain_142 Q v3 v4 v5 σ) : hW Γ 0 0 142 [(3, .ref v3), (4, .int v4), (5, .long v5)] [] σ := by
  unfold wX4_betterChain_142 at hb
  refine g_iconst (v := 1) C dX4_betterChain_142 (by decide) ?_
  refine g_goto (tgt := 147) C dX4_betterChain_143 (by decide) ?_
  refine g_sub (lv' := [(3, .ref v3), (4, .int v4), (5, .long v5)]) [0, 1, 2] rfl ?_
  exact kwX4_betterChain_147 C hΓ  _ _ _ _ _ hb
set_option maxRecDepth 20000 in
theorem kwX4_betterChain_70 {Γ : hCT} (C : hC Γ RX4 cX4_betterChain ((Option.some FieldType.boolean)) "betterChain" 2 61) {Q : Int32 → St → Prop} (hΓ : Γ.2.2.2.2.2.2.2.2.2.2.2 = (10, 0, 0, oI Q)) {r15 : Nat → Nat → Nat → Int32 → Int64 → Int32 → St → Prop} (h15 : ∀ (v1 : Nat) (v2 : Nat) (v3 : Nat) (v4 : Int32) (v5 : Int64) (v7 : Int32) (σ : St), r15 v1 v2 v3 v4 v5 v7 σ → hW Γ 0 0 15 [(1, .ref v1), (2, .ref v2), (3, .ref v3), (4, .int v4), (5, .long v5), (7, .int v7)] [] σ) (v1 : Nat) (v2 : Nat) (v3 : Nat) (v4 : Int32) (v5 : Int64) (v7 : Int32) (v8 : Nat) (s0 : Option Nat) (σ : St) (hb : wX4_betterChain_70 Q r15 v1 v2 v3 v4 v5 v7 v8 s0 σ) : hW Γ 0 0 70 [(1, .ref v1), (2, .ref v2), (3, .ref v3), (4, .int v4), (5, .long v5), (7, .int v7), (8, .ref v8)] [va_rf s0] σ := by
  unfold wX4_betterChain_70 at hb
  refine g_astore (lv' := [(9, va_rf s0), (1, .ref v1), (2, .ref v2), (3, .ref v3), (4, .int v4), (5, .long v5), (7, .int v7), (8, .ref v8)]) s0 C dX4_betterChain_70 (hnl_of hΓ (by decide)) (by first | rfl | simp [cat_rf]) ?_
  refine g_aload s0 C dX4_betterChain_72 0 rfl ?_
  refine g_ifnull (tgt := 117) s0 C dX4_betterChain_74 (by decide) (fun c => ?_) (fun c => ?_)
  ·
    replace hb := hb.1 c
    refine g_iinc (v := v7 + 1) (lv' := [(7, .int (v7 + 1)), (9, va_rf s0), (1, .ref v1), (2, .ref v2), (3, .ref v3), (4, .int v4), (5, .long v5), (8, .ref v8)]) C dX4_betterChain_117 6 rfl rfl (hnl_of hΓ (by decide)) (by first | rfl | simp [cat_rf]) ?_
    refine g_goto (tgt := 15) C dX4_betterChain_120 (by decide) ?_
    refine g_sub (lv' := [(1, .ref v1), (2, .ref v2), (3, .ref v3), (4, .int v4), (5, .long v5), (7, .int (v7 + 1))]) [2, 3, 4, 5, 6, 0] rfl ?_
    exact h15 _ _ _ _ _ _ _ hb
  ·
    obtain ⟨a1, rfl⟩ := rf_some c
    replace hb := hb.2 a1 rfl
    refine g_iload C dX4_betterChain_77 4 rfl ?_
    refine g_aload (some v8) C dX4_betterChain_79 7 rfl ?_
    obtain ⟨q2, hb⟩ := hb
    refine g_getIx (zFi σ 132 v8) C fl_RX4_180 dX4_betterChain_81 q2 rfl rfl rfl ?_
    refine g_aload (some a1) C dX4_betterChain_84 0 rfl ?_
    obtain ⟨q3, hb⟩ := hb
    refine g_getIx (zFi σ 132 a1) C fl_RX4_180 dX4_betterChain_86 q3 rfl rfl rfl ?_
    refine g_invS [.int (zFi σ 132 v8), .int (zFi σ 132 a1)] [.int v4] zy_X4_costOfBoth wd_682 wd_683 C dX4_betterChain_89 (by first | exact Nat.le_of_ble_eq_true rfl | simp [cat_rf]) (by first | exact Nat.le_of_ble_eq_true rfl | simp [cat_rf]) (by first | exact Nat.le_of_ble_eq_true rfl | simp [cat_rf]) (Nat.zero_le _) (Nat.zero_le _) rfl rfl  (okX4_costOfBoth hb) ?_
    rintro o σ4 ⟨y5, rfl, hb⟩
    refine ⟨_, rfl, ?_⟩
    refine g_mmin wd_686 wd_401 wd_87 wd_402 C (by first | exact Nat.le_of_ble_eq_true rfl | simp [cat_rf]) (by first | exact Nat.le_of_ble_eq_true rfl | simp [cat_rf]) (Nat.zero_le _) (Nat.zero_le _) dX4_betterChain_92 ?_
    refine g_istore (lv' := [(4, .int (if y5 < v4 then y5 else v4)), (9, .ref a1), (1, .ref v1), (2, .ref v2), (3, .ref v3), (5, .long v5), (7, .int v7), (8, .ref v8)]) C dX4_betterChain_95 (hnl_of hΓ (by decide)) (by first | rfl | simp [cat_rf]) ?_
    refine g_lload C dX4_betterChain_97 5 rfl ?_
    refine g_aload (some v8) C dX4_betterChain_99 7 rfl ?_
    obtain ⟨q6, hb⟩ := hb
    refine g_getJx (zFj σ4 133 v8) C fl_RX4_187 dX4_betterChain_101 q6 rfl rfl rfl ?_
    refine g_aload (some a1) C dX4_betterChain_104 1 rfl ?_
    obtain ⟨q7, hb⟩ := hb
    refine g_getJx (zFj σ4 133 a1) C fl_RX4_187 dX4_betterChain_106 q7 rfl rfl rfl ?_
    refine g_mminL wd_687 wd_688 wd_87 wd_689 C (by first | exact Nat.le_of_ble_eq_true rfl | simp [cat_rf]) (by first | exact Nat.le_of_ble_eq_true rfl | simp [cat_rf]) (Nat.zero_le _) (Nat.zero_le _) dX4_betterChain_109 ?_
    refine g_mmaxL wd_745 wd_655 wd_87 wd_656 C (by first | exact Nat.le_of_ble_eq_true rfl | simp [cat_rf]) (by first | exact Nat.le_of_ble_eq_true rfl | simp [cat_rf]) (Nat.zero_le _) (Nat.zero_le _) dX4_betterChain_112 ?_
    refine g_lstore (lv' := [(5, .long (if (if (zFj σ4 133 a1) < (zFj σ4 133 v8) then (zFj σ4 133 a1) else (zFj σ4 133 v8)) < v5 then v5 else (if (zFj σ4 133 a1) < (zFj σ4 133 v8) then (zFj σ4 133 a1) else (zFj σ4 133 v8)))), (4, .int (if y5 < v4 then y5 else v4)), (9, .ref a1), (1, .ref v1), (2, .ref v2), (3, .ref v3), (7, .int v7), (8, .ref v8)]) C dX4_betterChain_115 (hnl_of hΓ (by decide)) (by first | rfl | simp [cat_rf]) ?_
    refine g_iinc (v := v7 + 1) (lv' := [(7, .int (v7 + 1)), (5, .long (if (if (zFj σ4 133 a1) < (zFj σ4 133 v8) then (zFj σ4 133 a1) else (zFj σ4 133 v8)) < v5 then v5 else (if (zFj σ4 133 a1) < (zFj σ4 133 v8) then (zFj σ4 133 a1) else (zFj σ4 133 v8)))), (4, .int (if y5 < v4 then y5 else v4)), (9, .ref a1), (1, .ref v1), (2, .ref v2), (3, .ref v3), (8, .ref v8)]) C dX4_betterChain_117 6 rfl rfl (hnl_of hΓ (by decide)) (by first | rfl | simp [cat_rf]) ?_
    refine g_goto (tgt := 15) C dX4_betterChain_120 (by decide) ?_
    refine g_sub (lv' := [(1, .ref v1), (2, .ref v2), (3, .ref v3), (4, .int (if y5 < v4 then y5 else v4)), (5, .long (if (if (zFj σ4 133 a1) < (zFj σ4 133 v8) then (zFj σ4 133 a1) else (zFj σ4 133 v8)) < v5 then v5 else (if (zFj σ4 133 a1) < (zFj σ4 133 v8) then (zFj σ4 133 a1) else (zFj σ4 133 v8)))), (7, .int (v7 + 1))]) [4, 5, 6, 2, 1, 0] rfl ?_
    exact h15 _ _ _ _ _ _ _ hb
set_option maxRecDepth 20000 in
theorem kwX4_betterChain_15 {Γ : hCT} (C : hC Γ RX4 cX4_betterChain ((Option.some FieldType.boolean)) "betterChain" 2 61) {Q : Int32 → St → Prop} (hΓ : Γ.2.2.2.2.2.2.2.2.2.2.2 = (10, 0, 0, oI Q)) {r15 : Nat → Nat → Nat → Int32 → Int64 → Int32 → St → Prop} (h15 : ∀ (v1 : Nat) (v2 : Nat) (v3 : Nat) (v4 : Int32) (v5 : Int64) (v7 : Int32) (σ : St), r15 v1 v2 v3 v4 v5 v7 σ → hW Γ 0 0 15 [(1, .ref v1), (2, .ref v2), (3, .ref v3), (4, .int v4), (5, .long v5), (7, .int v7)] [] σ) (v1 : Nat) (v2 : Nat) (v3 : Nat) (v4 : Int32) (v5 : Int64) (v7 : Int32) (σ : St) (hb : wX4_betterChain_15 Q r15 v1 v2 v3 v4 v5 v7 σ) : hW Γ 0 0 15 [(1, .ref v1), (2, .ref v2), (3, .ref v3), (4, .int v4), (5, .long v5), (7, .int v7)] [] σ := by
  unfold wX4_betterChain_15 at hb
  refine g_iload C dX4_betterChain_15 5 rfl ?_
  refine g_aload_n (some v2) C dX4_betterChain_17 1 rfl ?_
  obtain ⟨q1, hb⟩ := hb
  refine g_getIx (zFi σ 193 v2) C fl_RX4_127 dX4_betterChain_18 q1 rfl rfl rfl ?_
  refine g_icmp_ge (tgt := 123) C dX4_betterChain_21 (by decide) (fun c => ?_) (fun c => ?_)
  ·
    replace hb := hb.1 (c)
    refine g_iload C dX4_betterChain_123 3 rfl ?_
    refine g_aload_n (some v3) C dX4_betterChain_125 2 rfl ?_
    obtain ⟨q2, hb⟩ := hb
    refine g_getIx (zFi σ 132 v3) C fl_RX4_180 dX4_betterChain_126 q2 rfl rfl rfl ?_
    refine g_icmp_ne (tgt := 142) C dX4_betterChain_129 (by decide) (fun c => ?_) (fun c => ?_)
    ·
      replace hb := hb.1 (c)
      refine g_sub (lv' := [(3, .ref v3), (4, .int v4), (5, .long v5)]) [2, 3, 4] rfl ?_
      exact kwX4_betterChain_142 C hΓ  _ _ _ _ hb
    ·
      replace hb := hb.2 (c)
      refine g_lload C dX4_betterChain_132 4 rfl ?_
      refine g_aload_n (some v3) C dX4_betterChain_134 2 rfl ?_
      refine g_getJx (zFj σ 133 v3) C fl_RX4_187 dX4_betterChain_135 q2 rfl rfl rfl ?_
      refine g_lcmp C dX4_betterChain_138 ?_
      refine g_if_eq (tgt := 146) C dX4_betterChain_139 (by decide) (fun c => ?_) (fun c => ?_)
      ·
        replace hb := hb.1 (lc_eq.mp c)
        refine g_iconst (v := 0) C dX4_betterChain_146 (by decide) ?_
        refine g_sub (lv' := [(3, .ref v3), (4, .int v4), (5, .long v5)]) [2, 3, 4] rfl ?_
        exact kwX4_betterChain_147 C hΓ  _ _ _ _ _ hb
      ·
        replace hb := hb.2 (lcn_eq.mp c)
        refine g_sub (lv' := [(3, .ref v3), (4, .int v4), (5, .long v5)]) [2, 3, 4] rfl ?_
        exact kwX4_betterChain_142 C hΓ  _ _ _ _ hb
  ·
    replace hb := hb.2 (c)
    refine g_aload_n (some v2) C dX4_betterChain_24 1 rfl ?_
    obtain ⟨a3, q4, hb⟩ := hb
    refine g_getR (some a3) C fl_RX4_130 dX4_betterChain_25 q1 rfl rfl q4 ?_
    refine g_iload C dX4_betterChain_28 5 rfl ?_
    obtain ⟨q5, hb⟩ := hb
    obtain ⟨q6, hb⟩ := hb
    obtain ⟨a7, q8, hb⟩ := hb
    refine g_aald (some a7) el_25 C dX4_betterChain_30 q5 q6 q8 ?_
    refine g_astore (lv' := [(8, .ref a7), (1, .ref v1), (2, .ref v2), (3, .ref v3), (4, .int v4), (5, .long v5), (7, .int v7)]) (some a7) C dX4_betterChain_31 (hnl_of hΓ (by decide)) (by first | rfl | simp [cat_rf]) ?_
    refine g_aload (some a7) C dX4_betterChain_33 0 rfl ?_
    obtain ⟨q9, hb⟩ := hb
    obtain ⟨a10, q11, hb⟩ := hb
    refine g_getR (some a10) C fl_RX4_134 dX4_betterChain_35 q9 rfl rfl q11 ?_
    refine g_iconst (v := 0) C dX4_betterChain_38 (by decide) ?_
    obtain ⟨q12, hb⟩ := hb
    obtain ⟨q13, hb⟩ := hb
    refine g_ialdx (zAi σ a10 (ix 0)) C dX4_betterChain_39 q12 q13 rfl ?_
    refine g_aload_n (some v3) C dX4_betterChain_40 3 rfl ?_
    obtain ⟨q14, hb⟩ := hb
    obtain ⟨a15, q16, hb⟩ := hb
    refine g_getR (some a15) C fl_RX4_134 dX4_betterChain_41 q14 rfl rfl q16 ?_
    refine g_iconst (v := 0) C dX4_betterChain_44 (by decide) ?_
    obtain ⟨q17, hb⟩ := hb
    obtain ⟨q18, hb⟩ := hb
    refine g_ialdx (zAi σ a15 (ix 0)) C dX4_betterChain_45 q17 q18 rfl ?_
    refine g_icmp_ne (tgt := 69) C dX4_betterChain_46 (by decide) (fun c => ?_) (fun c => ?_)
    ·
      replace hb := hb.1 (c)
      refine g_null C dX4_betterChain_69 ?_
      refine g_sub (lv' := [(1, .ref v1), (2, .ref v2), (3, .ref v3), (4, .int v4), (5, .long v5), (7, .int v7), (8, .ref a7)]) [1, 2, 3, 4, 5, 6, 0] rfl ?_
      exact kwX4_betterChain_70 C hΓ h15 _ _ _ _ _ _ _ _ _ hb
    ·
      replace hb := hb.2 (c)
      refine g_aload_n (some v1) C dX4_betterChain_49 1 rfl ?_
      refine g_aload (some a7) C dX4_betterChain_50 0 rfl ?_
      refine g_getR (some a10) C fl_RX4_134 dX4_betterChain_52 q9 rfl rfl q11 ?_
      refine g_iconst (v := 1) C dX4_betterChain_55 (by decide) ?_
      obtain ⟨q19, hb⟩ := hb
      refine g_ialdx (zAi σ a10 (ix 1)) C dX4_betterChain_56 q12 q19 rfl ?_
      refine g_aload_n (some v3) C dX4_betterChain_57 3 rfl ?_
      refine g_getR (some a15) C fl_RX4_134 dX4_betterChain_58 q14 rfl rfl q16 ?_
      refine g_iconst (v := 1) C dX4_betterChain_61 (by decide) ?_
      obtain ⟨q20, hb⟩ := hb
      refine g_ialdx (zAi σ a15 (ix 1)) C dX4_betterChain_62 q17 q20 rfl ?_
      refine g_invS [.ref v1, .int (zAi σ a10 (ix 1)), .int (zAi σ a15 (ix 1))] [] zy_X4_stepOf wd_726 wd_727 C dX4_betterChain_63 (by first | exact Nat.le_of_ble_eq_true rfl | simp [cat_rf]) (by first | exact Nat.le_of_ble_eq_true rfl | simp [cat_rf]) (by first | exact Nat.le_of_ble_eq_true rfl | simp [cat_rf]) (Nat.zero_le _) (Nat.zero_le _) rfl rfl  (okX4_stepOf hb) ?_
      rintro o σ21 ⟨y22, rfl, hb⟩
      refine ⟨_, rfl, ?_⟩
      refine g_goto (tgt := 70) C dX4_betterChain_66 (by decide) ?_
      refine g_sub (lv' := [(1, .ref v1), (2, .ref v2), (3, .ref v3), (4, .int v4), (5, .long v5), (7, .int v7), (8, .ref a7)]) [1, 2, 3, 4, 5, 6, 0] rfl ?_
      exact kwX4_betterChain_70 C hΓ h15 _ _ _ _ _ _ _ _ _ hb
theorem klX4_betterChain_15 {Γ : hCT} (C : hC Γ RX4 cX4_betterChain ((Option.some FieldType.boolean)) "betterChain" 2 61) {Q : Int32 → St → Prop} (hΓ : Γ.2.2.2.2.2.2.2.2.2.2.2 = (10, 0, 0, oI Q)) (f : Nat) (v1 : Nat) (v2 : Nat) (v3 : Nat) (v4 : Int32) (v5 : Int64) (v7 : Int32) (σ : St) (hb : lX4_betterChain_15 Q f v1 v2 v3 v4 v5 v7 σ) : hW Γ 0 0 15 [(1, .ref v1), (2, .ref v2), (3, .ref v3), (4, .int v4), (5, .long v5), (7, .int v7)] [] σ := by
  induction f generalizing v1 v2 v3 v4 v5 v7 σ with
  | zero => exact hb.elim
  | succ f ih => exact kwX4_betterChain_15 C hΓ  (fun v1 v2 v3 v4 v5 v7 σ h => ih v1 v2 v3 v4 v5 v7 σ h) _ _ _ _ _ _ _ hb
set_option maxRecDepth 20000 in
theorem kwX4_betterChain_0 {Γ : hCT} (C : hC Γ RX4 cX4_betterChain ((Option.some FieldType.boolean)) "betterChain" 2 61) {Q : Int32 → St → Prop} (hΓ : Γ.2.2.2.2.2.2.2.2.2.2.2 = (10, 0, 0, oI Q)) (v0 : Nat) (v1 : Nat) (v2 : Nat) (v3 : Nat) (σ : St) (hb : wX4_betterChain_0 Q v0 v1 v2 v3 σ) : hW Γ 0 0 0 [(0, .ref v0), (1, .ref v1), (2, .ref v2), (3, .ref v3)] [] σ := by
  unfold wX4_betterChain_0 at hb
  refine g_aload_n (some v3) C dX4_betterChain_0 3 rfl ?_
  obtain ⟨q1, hb⟩ := hb
  refine g_getIx (zFi σ 132 v3) C fl_RX4_180 dX4_betterChain_1 q1 rfl rfl rfl ?_
  refine g_istore (lv' := [(4, .int (zFi σ 132 v3)), (0, .ref v0), (1, .ref v1), (2, .ref v2), (3, .ref v3)]) C dX4_betterChain_4 (hnl_of hΓ (by decide)) (by first | rfl | simp [cat_rf]) ?_
  refine g_aload_n (some v3) C dX4_betterChain_6 4 rfl ?_
  refine g_getJx (zFj σ 133 v3) C fl_RX4_187 dX4_betterChain_7 q1 rfl rfl rfl ?_
  refine g_lstore (lv' := [(5, .long (zFj σ 133 v3)), (4, .int (zFi σ 132 v3)), (0, .ref v0), (1, .ref v1), (2, .ref v2), (3, .ref v3)]) C dX4_betterChain_10 (hnl_of hΓ (by decide)) (by first | rfl | simp [cat_rf]) ?_
  refine g_iconst (v := 0) C dX4_betterChain_12 (by decide) ?_
  refine g_istore (lv' := [(7, .int 0), (5, .long (zFj σ 133 v3)), (4, .int (zFi σ 132 v3)), (0, .ref v0), (1, .ref v1), (2, .ref v2), (3, .ref v3)]) C dX4_betterChain_13 (hnl_of hΓ (by decide)) (by first | rfl | simp [cat_rf]) ?_
  refine g_sub (lv' := [(1, .ref v1), (2, .ref v2), (3, .ref v3), (4, .int (zFi σ 132 v3)), (5, .long (zFj σ 133 v3)), (7, .int 0)]) [4, 5, 6, 2, 1, 0] rfl ?_
  obtain ⟨f2, hb⟩ := hb
  exact klX4_betterChain_15 C hΓ  f2 _ _ _ _ _ _ _ hb
theorem okX4_betterChain {v0 : Nat} {v1 : Nat} {v2 : Nat} {v3 : Nat} {σ : St} {Q : Int32 → St → Prop} (hb : wX4_betterChain v0 v1 v2 v3 σ Q) : hM yX4_betterChain cX4_betterChain 10 ((Option.some FieldType.boolean)) 2 61 0 0 [.ref v0, .ref v1, .ref v2, .ref v3] σ (oI Q) :=
  hM_of (by decide) (Nat.le_of_ble_eq_true rfl) (fun Γ hΓ C => kwX4_betterChain_0 C hΓ _ _ _ _ _ hb)
def wX4_weighChains_111 (Q : St → Prop) (r94 : Nat → Nat → Nat → Int32 → Int32 → St → Prop) (r111 : Nat → Nat → Nat → Int32 → Int32 → Int32 → St → Prop) (v0 : Nat) (v1 : Nat) (v2 : Nat) (v3 : Int32) (v4 : Int32) (v5 : Int32) (σ : St) : Prop :=
  zK σ v2 = 4 ∧ (((zFi σ 193 v2) ≤ v5 → r94 v0 v1 v2 v3 (v4 + 1) σ) ∧ (¬ (zFi σ 193 v2) ≤ v5 → ∃ a2 : Nat, zFr σ 192 v2 = some a2 ∧ zK σ a2 = 25 ∧ vp_in v5 (zL σ a2) ∧ ∃ a6 : Nat, zAr σ a2 (ix v5) = some a6 ∧ zK σ v0 = 5 ∧ wX4_betterChain v0 v1 v2 a6 σ (fun y10 σ9 => r111 v0 v1 v2 (v3 ||| y10) v4 (v5 + 1) σ9)))
def lX4_weighChains_111 (Q : St → Prop) (r94 : Nat → Nat → Nat → Int32 → Int32 → St → Prop) : Nat → Nat → Nat → Nat → Int32 → Int32 → Int32 → St → Prop
  | 0, _, _, _, _, _, _, _ => False
  | f + 1, v0, v1, v2, v3, v4, v5, σ => wX4_weighChains_111 Q r94 (lX4_weighChains_111 Q r94 f) v0 v1 v2 v3 v4 v5 σ
def wX4_weighChains_94 (Q : St → Prop) (r94 : Nat → Nat → Nat → Int32 → Int32 → St → Prop) (v0 : Nat) (v1 : Nat) (v2 : Nat) (v3 : Int32) (v4 : Int32) (σ : St) : Prop :=
  (((1000 : Int32) ≤ v4 → Q σ) ∧ (¬ (1000 : Int32) ≤ v4 → ((v3 = 0 → Q σ) ∧ (¬ v3 = 0 → ∃ f, lX4_weighChains_111 Q r94 f v0 v1 v2 0 v4 0 σ))))
def lX4_weighChains_94 (Q : St → Prop) : Nat → Nat → Nat → Nat → Int32 → Int32 → St → Prop
  | 0, _, _, _, _, _, _ => False
  | f + 1, v0, v1, v2, v3, v4, σ => wX4_weighChains_94 Q (lX4_weighChains_94 Q f) v0 v1 v2 v3 v4 σ
def wX4_weighChains_80 (Q : St → Prop) (r2 : Nat → Nat → Nat → Int32 → St → Prop) (v0 : Nat) (v1 : Nat) (v2 : Nat) (v3 : Int32) (s1 : Int64) (s0 : Nat) (σ : St) : Prop :=
  zK σ s0 = 3 ∧ r2 v0 v1 v2 (v3 + 1) (uFj σ 133 s0 s1)
def wX4_weighChains_61 (Q : St → Prop) (r2 : Nat → Nat → Nat → Int32 → St → Prop) (v0 : Nat) (v1 : Nat) (v2 : Nat) (v3 : Int32) (v4 : Nat) (v5 : Option Nat) (s1 : Int32) (s0 : Nat) (σ : St) : Prop :=
  zK σ s0 = 3 ∧ ((v5 = none → wX4_weighChains_80 Q r2 v0 v1 v2 v3 0 v4 (uFi σ 132 s0 s1)) ∧ (∀ a2 : Nat, v5 = some a2 → zK σ a2 = 3 ∧ wX4_weighChains_80 Q r2 v0 v1 v2 v3 (zFj σ 133 a2) v4 (uFi σ 132 s0 s1)))
def wX4_weighChains_2 (Q : St → Prop) (r2 : Nat → Nat → Nat → Int32 → St → Prop) (v0 : Nat) (v1 : Nat) (v2 : Nat) (v3 : Int32) (σ : St) : Prop :=
  zK σ v2 = 4 ∧ (((zFi σ 193 v2) ≤ v3 → ∃ f, lX4_weighChains_94 Q f v0 v1 v2 1 0 σ) ∧ (¬ (zFi σ 193 v2) ≤ v3 → ∃ a3 : Nat, zFr σ 192 v2 = some a3 ∧ zK σ a3 = 25 ∧ vp_in v3 (zL σ a3) ∧ ∃ a7 : Nat, zAr σ a3 (ix v3) = some a7 ∧ zK σ a7 = 3 ∧ ∃ a10 : Nat, zFr σ 128 a7 = some a10 ∧ zK σ a10 = 20 ∧ vp_in 0 (zL σ a10) ∧ vp_in 1 (zL σ a10) ∧ wX4_stepOf v1 (zAi σ a10 (ix 0)) (zAi σ a10 (ix 1)) σ (fun y16 σ15 => zK σ15 a7 = 3 ∧ ((y16 = none → wX4_weighChains_61 Q r2 v0 v1 v2 v3 a7 y16 1000000000 a7 (uFj σ15 131 a7 0)) ∧ (∀ a18 : Nat, y16 = some a18 → zK σ15 a18 = 3 ∧ wX4_weighChains_61 Q r2 v0 v1 v2 v3 a7 (some a18) (zFi σ15 132 a18) a7 (uFj σ15 131 a7 0))))))
def lX4_weighChains_2 (Q : St → Prop) : Nat → Nat → Nat → Nat → Int32 → St → Prop
  | 0, _, _, _, _, _ => False
  | f + 1, v0, v1, v2, v3, σ => wX4_weighChains_2 Q (lX4_weighChains_2 Q f) v0 v1 v2 v3 σ
def wX4_weighChains_0 (Q : St → Prop) (v0 : Nat) (v1 : Nat) (v2 : Nat) (σ : St) : Prop :=
  ∃ f, lX4_weighChains_2 Q f v0 v1 v2 0 σ
def wX4_weighChains (v0 : Nat) (v1 : Nat) (v2 : Nat) (σ : St) (Q : St → Prop) : Prop := wX4_weighChains_0 Q v0 v1 v2 σ
set_option maxRecDepth 20000 in
theorem kwX4_weighChains_111 {Γ : hCT} (C : hC Γ RX4 cX4_weighChains ((Option.none : Option Jvm.ClassFile.FieldType)) "weighChains" 3 90) {Q : St → Prop} (hΓ : Γ.2.2.2.2.2.2.2.2.2.2.2 = (6, 0, 0, oV Q)) {r94 : Nat → Nat → Nat → Int32 → Int32 → St → Prop} (h94 : ∀ (v0 : Nat) (v1 : Nat) (v2 : Nat) (v3 : Int32) (v4 : Int32) (σ : St), r94 v0 v1 v2 v3 v4 σ → hW Γ 0 0 94 [(0, .ref v0), (1, .ref v1), (2, .ref v2), (3, .int v3), (4, .int v4)] [] σ) {r111 : Nat → Nat → Nat → Int32 → Int32 → Int32 → St → Prop} (h111 : ∀ (v0 : Nat) (v1 : Nat) (v2 : Nat) (v3 : Int32) (v4 : Int32) (v5 : Int32) (σ : St), r111 v0 v1 v2 v3 v4 v5 σ → hW Γ 0 0 111 [(0, .ref v0), (1, .ref v1), (2, .ref v2), (3, .int v3), (4, .int v4), (5, .int v5)] [] σ) (v0 : Nat) (v1 : Nat) (v2 : Nat) (v3 : Int32) (v4 : Int32) (v5 : Int32) (σ : St) (hb : wX4_weighChains_111 Q r94 r111 v0 v1 v2 v3 v4 v5 σ) : hW Γ 0 0 111 [(0, .ref v0), (1, .ref v1), (2, .ref v2), (3, .int v3), (4, .int v4), (5, .int v5)] [] σ := by
  unfold wX4_weighChains_111 at hb
  refine g_iload C dX4_weighChains_111 5 rfl ?_
  refine g_aload_n (some v2) C dX4_weighChains_113 2 rfl ?_
  obtain ⟨q1, hb⟩ := hb
  refine g_getIx (zFi σ 193 v2) C fl_RX4_127 dX4_weighChains_114 q1 rfl rfl rfl ?_
  refine g_icmp_ge (tgt := 142) C dX4_weighChains_117 (by decide) (fun c => ?_) (fun c => ?_)
  ·
    replace hb := hb.1 (c)
    refine g_iinc (v := v4 + 1) (lv' := [(4, .int (v4 + 1)), (0, .ref v0), (1, .ref v1), (2, .ref v2), (3, .int v3), (5, .int v5)]) C dX4_weighChains_142 4 rfl rfl (hnl_of hΓ (by decide)) (by first | rfl | simp [cat_rf]) ?_
    refine g_goto (tgt := 94) C dX4_weighChains_145 (by decide) ?_
    refine g_sub (lv' := [(0, .ref v0), (1, .ref v1), (2, .ref v2), (3, .int v3), (4, .int (v4 + 1))]) [1, 2, 3, 4, 0] rfl ?_
    exact h94 _ _ _ _ _ _ hb
  ·
    replace hb := hb.2 (c)
    refine g_iload_n C dX4_weighChains_120 3 rfl ?_
    refine g_aload_n (some v0) C dX4_weighChains_121 0 rfl ?_
    refine g_aload_n (some v1) C dX4_weighChains_122 1 rfl ?_
    refine g_aload_n (some v2) C dX4_weighChains_123 2 rfl ?_
    refine g_aload_n (some v2) C dX4_weighChains_124 2 rfl ?_
    obtain ⟨a2, q3, hb⟩ := hb
    refine g_getR (some a2) C fl_RX4_130 dX4_weighChains_125 q1 rfl rfl q3 ?_
    refine g_iload C dX4_weighChains_128 5 rfl ?_
    obtain ⟨q4, hb⟩ := hb
    obtain ⟨q5, hb⟩ := hb
    obtain ⟨a6, q7, hb⟩ := hb
    refine g_aald (some a6) el_25 C dX4_weighChains_130 q4 q5 q7 ?_
    obtain ⟨q8, hb⟩ := hb
    refine g_invV (ci := 4) [.ref v1, .ref v2, .ref a6] [.int v3] zy_X4_betterChain wd_741 wd_743 wd_22 ⟨_, _, rfl⟩ (by decide) C dX4_weighChains_131 (by first | exact Nat.le_of_ble_eq_true rfl | simp [cat_rf]) (by first | exact Nat.le_of_ble_eq_true rfl | simp [cat_rf]) (by first | exact Nat.le_of_ble_eq_true rfl | simp [cat_rf]) (Nat.zero_le _) (Nat.zero_le _) rfl rfl q8 (okX4_betterChain hb) ?_
    rintro o σ9 ⟨y10, rfl, hb⟩
    refine ⟨_, rfl, ?_⟩
    refine g_ior C dX4_weighChains_134 ?_
    refine g_istore_n (i := 3) (lv' := [(3, .int (v3 ||| y10)), (0, .ref v0), (1, .ref v1), (2, .ref v2), (4, .int v4), (5, .int v5)]) C dX4_weighChains_135 rfl (hnl_of hΓ (by decide)) (by first | rfl | simp [cat_rf]) ?_
    refine g_iinc (v := v5 + 1) (lv' := [(5, .int (v5 + 1)), (3, .int (v3 ||| y10)), (0, .ref v0), (1, .ref v1), (2, .ref v2), (4, .int v4)]) C dX4_weighChains_136 5 rfl rfl (hnl_of hΓ (by decide)) (by first | rfl | simp [cat_rf]) ?_
    refine g_goto (tgt := 111) C dX4_weighChains_139 (by decide) ?_
    refine g_sub (lv' := [(0, .ref v0), (1, .ref v1), (2, .ref v2), (3, .int (v3 ||| y10)), (4, .int v4), (5, .int (v5 + 1))]) [2, 3, 4, 1, 5, 0] rfl ?_
    exact h111 _ _ _ _ _ _ _ hb
theorem klX4_weighChains_111 {Γ : hCT} (C : hC Γ RX4 cX4_weighChains ((Option.none : Option Jvm.ClassFile.FieldType)) "weighChains" 3 90) {Q : St → Prop} (hΓ : Γ.2.2.2.2.2.2.2.2.2.2.2 = (6, 0, 0, oV Q)) {r94 : Nat → Nat → Nat → Int32 → Int32 → St → Prop} (h94 : ∀ (v0 : Nat) (v1 : Nat) (v2 : Nat) (v3 : Int32) (v4 : Int32) (σ : St), r94 v0 v1 v2 v3 v4 σ → hW Γ 0 0 94 [(0, .ref v0), (1, .ref v1), (2, .ref v2), (3, .int v3), (4, .int v4)] [] σ) (f : Nat) (v0 : Nat) (v1 : Nat) (v2 : Nat) (v3 : Int32) (v4 : Int32) (v5 : Int32) (σ : St) (hb : lX4_weighChains_111 Q r94 f v0 v1 v2 v3 v4 v5 σ) : hW Γ 0 0 111 [(0, .ref v0), (1, .ref v1), (2, .ref v2), (3, .int v3), (4, .int v4), (5, .int v5)] [] σ := by
  induction f generalizing v0 v1 v2 v3 v4 v5 σ with
  | zero => exact hb.elim
  | succ f ih => exact kwX4_weighChains_111 C hΓ h94 (fun v0 v1 v2 v3 v4 v5 σ h => ih v0 v1 v2 v3 v4 v5 σ h) _ _ _ _ _ _ _ hb
set_option maxRecDepth 20000 in
theorem kwX4_weighChains_94 {Γ : hCT} (C : hC Γ RX4 cX4_weighChains ((Option.none : Option Jvm.ClassFile.FieldType)) "weighChains" 3 90) {Q : St → Prop} (hΓ : Γ.2.2.2.2.2.2.2.2.2.2.2 = (6, 0, 0, oV Q)) {r94 : Nat → Nat → Nat → Int32 → Int32 → St → Prop} (h94 : ∀ (v0 : Nat) (v1 : Nat) (v2 : Nat) (v3 : Int32) (v4 : Int32) (σ : St), r94 v0 v1 v2 v3 v4 σ → hW Γ 0 0 94 [(0, .ref v0), (1, .ref v1), (2, .ref v2), (3, .int v3), (4, .int v4)] [] σ) (v0 : Nat) (v1 : Nat) (v2 : Nat) (v3 : Int32) (v4 : Int32) (σ : St) (hb : wX4_weighChains_94 Q r94 v0 v1 v2 v3 v4 σ) : hW Γ 0 0 94 [(0, .ref v0), (1, .ref v1), (2, .ref v2), (3, .int v3), (4, .int v4)] [] σ := by
  unfold wX4_weighChains_94 at hb
  refine g_iload C dX4_weighChains_94 4 rfl ?_
  refine g_sipush (v := 1000) C dX4_weighChains_96 (by decide) ?_
  refine g_icmp_ge (tgt := 148) C dX4_weighChains_99 (by decide) (fun c => ?_) (fun c => ?_)
  ·
    replace hb := hb.1 (c)
    exact g_vreturn C hΓ (Nat.zero_le _) (Nat.zero_le _) dX4_weighChains_148 ⟨rfl, hb⟩
  ·
    replace hb := hb.2 (c)
    refine g_iload_n C dX4_weighChains_102 3 rfl ?_
    refine g_if_eq (tgt := 148) C dX4_weighChains_103 (by decide) (fun c => ?_) (fun c => ?_)
    ·
      replace hb := hb.1 (c)
      exact g_vreturn C hΓ (Nat.zero_le _) (Nat.zero_le _) dX4_weighChains_148 ⟨rfl, hb⟩
    ·
      replace hb := hb.2 (c)
      refine g_iconst (v := 0) C dX4_weighChains_106 (by decide) ?_
      refine g_istore_n (i := 3) (lv' := [(3, .int 0), (0, .ref v0), (1, .ref v1), (2, .ref v2), (4, .int v4)]) C dX4_weighChains_107 rfl (hnl_of hΓ (by decide)) (by first | rfl | simp [cat_rf]) ?_
      refine g_iconst (v := 0) C dX4_weighChains_108 (by decide) ?_
      refine g_istore (lv' := [(5, .int 0), (3, .int 0), (0, .ref v0), (1, .ref v1), (2, .ref v2), (4, .int v4)]) C dX4_weighChains_109 (hnl_of hΓ (by decide)) (by first | rfl | simp [cat_rf]) ?_
      refine g_sub (lv' := [(0, .ref v0), (1, .ref v1), (2, .ref v2), (3, .int 0), (4, .int v4), (5, .int 0)]) [2, 3, 4, 1, 5, 0] rfl ?_
      obtain ⟨f1, hb⟩ := hb
      exact klX4_weighChains_111 C hΓ h94 f1 _ _ _ _ _ _ _ hb
theorem klX4_weighChains_94 {Γ : hCT} (C : hC Γ RX4 cX4_weighChains ((Option.none : Option Jvm.ClassFile.FieldType)) "weighChains" 3 90) {Q : St → Prop} (hΓ : Γ.2.2.2.2.2.2.2.2.2.2.2 = (6, 0, 0, oV Q)) (f : Nat) (v0 : Nat) (v1 : Nat) (v2 : Nat) (v3 : Int32) (v4 : Int32) (σ : St) (hb : lX4_weighChains_94 Q f v0 v1 v2 v3 v4 σ) : hW Γ 0 0 94 [(0, .ref v0), (1, .ref v1), (2, .ref v2), (3, .int v3), (4, .int v4)] [] σ := by
  induction f generalizing v0 v1 v2 v3 v4 σ with
  | zero => exact hb.elim
  | succ f ih => exact kwX4_weighChains_94 C hΓ  (fun v0 v1 v2 v3 v4 σ h => ih v0 v1 v2 v3 v4 σ h) _ _ _ _ _ _ hb
set_option maxRecDepth 20000 in
theorem kwX4_weighChains_80 {Γ : hCT} (C : hC Γ RX4 cX4_weighChains ((Option.none : Option Jvm.ClassFile.FieldType)) "weighChains" 3 90) {Q : St → Prop} (hΓ : Γ.2.2.2.2.2.2.2.2.2.2.2 = (6, 0, 0, oV Q)) {r2 : Nat → Nat → Nat → Int32 → St → Prop} (h2 : ∀ (v0 : Nat) (v1 : Nat) (v2 : Nat) (v3 : Int32) (σ : St), r2 v0 v1 v2 v3 σ → hW Γ 0 0 2 [(0, .ref v0), (1, .ref v1), (2, .ref v2), (3, .int v3)] [] σ) (v0 : Nat) (v1 : Nat) (v2 : Nat) (v3 : Int32) (s1 : Int64) (s0 : Nat) (σ : St) (hb : wX4_weighChains_80 Q r2 v0 v1 v2 v3 s1 s0 σ) : hW Γ 0 0 80 [(0, .ref v0), (1, .ref v1), (2, .ref v2), (3, .int v3)] [.long s1, .ref s0] σ := by
  unfold wX4_weighChains_80 at hb
  obtain ⟨q1, hb⟩ := hb
  refine g_putJ C fl_RX4_187 dX4_weighChains_80 q1 rfl rfl rfl rfl ?_
  refine g_iinc (v := v3 + 1) (lv' := [(3, .int (v3 + 1)), (0, .ref v0), (1, .ref v1), (2, .ref v2)]) C dX4_weighChains_83 3 rfl rfl (hnl_of hΓ (by decide)) (by first | rfl | simp [cat_rf]) ?_
  refine g_goto (tgt := 2) C dX4_weighChains_86 (by decide) ?_
  refine g_sub (lv' := [(0, .ref v0), (1, .ref v1), (2, .ref v2), (3, .int (v3 + 1))]) [1, 2, 3, 0] rfl ?_
  exact h2 _ _ _ _ _ hb
set_option maxRecDepth 20000 in
theorem kwX4_weighChains_61 {Γ : hCT} (C : hC Γ RX4 cX4_weighChains ((Option.none : Option Jvm.ClassFile.FieldType)) "weighChains" 3 90) {Q : St → Prop} (hΓ : Γ.2.2.2.2.2.2.2.2.2.2.2 = (6, 0, 0, oV Q)) {r2 : Nat → Nat → Nat → Int32 → St → Prop} (h2 : ∀ (v0 : Nat) (v1 : Nat) (v2 : Nat) (v3 : Int32) (σ : St), r2 v0 v1 v2 v3 σ → hW Γ 0 0 2 [(0, .ref v0), (1, .ref v1), (2, .ref v2), (3, .int v3)] [] σ) (v0 : Nat) (v1 : Nat) (v2 : Nat) (v3 : Int32) (v4 : Nat) (v5 : Option Nat) (s1 : Int32) (s0 : Nat) (σ : St) (hb : wX4_weighChains_61 Q r2 v0 v1 v2 v3 v4 v5 s1 s0 σ) : hW Γ 0 0 61 [(0, .ref v0), (1, .ref v1), (2, .ref v2), (3, .int v3), (4, .ref v4), (5, va_rf v5)] [.int s1, .ref s0] σ := by
  unfold wX4_weighChains_61 at hb
  obtain ⟨q1, hb⟩ := hb
  refine g_putI C fl_RX4_180 dX4_weighChains_61 q1 rfl rfl rfl rfl ?_
  refine g_aload (some v4) C dX4_weighChains_64 4 rfl ?_
  refine g_aload v5 C dX4_weighChains_66 5 rfl ?_
  refine g_ifnonnull (tgt := 75) v5 C dX4_weighChains_68 (by decide) (fun c => ?_) (fun c => ?_)
  ·
    obtain ⟨a2, rfl⟩ := rf_some c
    replace hb := hb.2 a2 rfl
    refine g_aload (some a2) C dX4_weighChains_75 5 rfl ?_
    obtain ⟨q3, hb⟩ := hb
    refine g_getJx (zFj σ 133 a2) C fl_RX4_187 dX4_weighChains_77 (by rw [zK_uFi]; exact q3) rfl rfl (by rw [zFj_uFi]) ?_
    refine g_sub (lv' := [(0, .ref v0), (1, .ref v1), (2, .ref v2), (3, .int v3)]) [0, 1, 2, 3] rfl ?_
    exact kwX4_weighChains_80 C hΓ h2 _ _ _ _ _ _ _ hb
  ·
    replace hb := hb.1 c
    refine g_lconst (v := 0) C dX4_weighChains_71 (by decide) ?_
    refine g_goto (tgt := 80) C dX4_weighChains_72 (by decide) ?_
    refine g_sub (lv' := [(0, .ref v0), (1, .ref v1), (2, .ref v2), (3, .int v3)]) [0, 1, 2, 3] rfl ?_
    exact kwX4_weighChains_80 C hΓ h2 _ _ _ _ _ _ _ hb
set_option maxRecDepth 20000 in
theorem kwX4_weighChains_2 {Γ : hCT} (C : hC Γ RX4 cX4_weighChains ((Option.none : Option Jvm.ClassFile.FieldType)) "weighChains" 3 90) {Q : St → Prop} (hΓ : Γ.2.2.2.2.2.2.2.2.2.2.2 = (6, 0, 0, oV Q)) {r2 : Nat → Nat → Nat → Int32 → St → Prop} (h2 : ∀ (v0 : Nat) (v1 : Nat) (v2 : Nat) (v3 : Int32) (σ : St), r2 v0 v1 v2 v3 σ → hW Γ 0 0 2 [(0, .ref v0), (1, .ref v1), (2, .ref v2), (3, .int v3)] [] σ) (v0 : Nat) (v1 : Nat) (v2 : Nat) (v3 : Int32) (σ : St) (hb : wX4_weighChains_2 Q r2 v0 v1 v2 v3 σ) : hW Γ 0 0 2 [(0, .ref v0), (1, .ref v1), (2, .ref v2), (3, .int v3)] [] σ := by
  unfold wX4_weighChains_2 at hb
  refine g_iload_n C dX4_weighChains_2 3 rfl ?_
  refine g_aload_n (some v2) C dX4_weighChains_3 2 rfl ?_
  obtain ⟨q1, hb⟩ := hb
  refine g_getIx (zFi σ 193 v2) C fl_RX4_127 dX4_weighChains_4 q1 rfl rfl rfl ?_
  refine g_icmp_ge (tgt := 89) C dX4_weighChains_7 (by decide) (fun c => ?_) (fun c => ?_)
  ·
    replace hb := hb.1 (c)
    refine g_iconst (v := 1) C dX4_weighChains_89 (by decide) ?_
    refine g_istore_n (i := 3) (lv' := [(3, .int 1), (0, .ref v0), (1, .ref v1), (2, .ref v2)]) C dX4_weighChains_90 rfl (hnl_of hΓ (by decide)) (by first | rfl | simp [cat_rf]) ?_
    refine g_iconst (v := 0) C dX4_weighChains_91 (by decide) ?_
    refine g_istore (lv' := [(4, .int 0), (3, .int 1), (0, .ref v0), (1, .ref v1), (2, .ref v2)]) C dX4_weighChains_92 (hnl_of hΓ (by decide)) (by first | rfl | simp [cat_rf]) ?_
    refine g_sub (lv' := [(0, .ref v0), (1, .ref v1), (2, .ref v2), (3, .int 1), (4, .int 0)]) [2, 3, 4, 1, 0] rfl ?_
    obtain ⟨f2, hb⟩ := hb
    exact klX4_weighChains_94 C hΓ  f2 _ _ _ _ _ _ hb
  ·
    replace hb := hb.2 (c)
    refine g_aload_n (some v2) C dX4_weighChains_10 2 rfl ?_
    obtain ⟨a3, q4, hb⟩ := hb
    refine g_getR (some a3) C fl_RX4_130 dX4_weighChains_11 q1 rfl rfl q4 ?_
    refine g_iload_n C dX4_weighChains_14 3 rfl ?_
    obtain ⟨q5, hb⟩ := hb
    obtain ⟨q6, hb⟩ := hb
    obtain ⟨a7, q8, hb⟩ := hb
    refine g_aald (some a7) el_25 C dX4_weighChains_15 q5 q6 q8 ?_
    refine g_astore (lv' := [(4, .ref a7), (0, .ref v0), (1, .ref v1), (2, .ref v2), (3, .int v3)]) (some a7) C dX4_weighChains_16 (hnl_of hΓ (by decide)) (by first | rfl | simp [cat_rf]) ?_
    refine g_aload_n (some v1) C dX4_weighChains_18 2 rfl ?_
    refine g_aload (some a7) C dX4_weighChains_19 0 rfl ?_
    obtain ⟨q9, hb⟩ := hb
    obtain ⟨a10, q11, hb⟩ := hb
    refine g_getR (some a10) C fl_RX4_134 dX4_weighChains_21 q9 rfl rfl q11 ?_
    refine g_iconst (v := 0) C dX4_weighChains_24 (by decide) ?_
    obtain ⟨q12, hb⟩ := hb
    obtain ⟨q13, hb⟩ := hb
    refine g_ialdx (zAi σ a10 (ix 0)) C dX4_weighChains_25 q12 q13 rfl ?_
    refine g_aload (some a7) C dX4_weighChains_26 0 rfl ?_
    refine g_getR (some a10) C fl_RX4_134 dX4_weighChains_28 q9 rfl rfl q11 ?_
    refine g_iconst (v := 1) C dX4_weighChains_31 (by decide) ?_
    obtain ⟨q14, hb⟩ := hb
    refine g_ialdx (zAi σ a10 (ix 1)) C dX4_weighChains_32 q12 q14 rfl ?_
    refine g_invS [.ref v1, .int (zAi σ a10 (ix 0)), .int (zAi σ a10 (ix 1))] [] zy_X4_stepOf wd_726 wd_727 C dX4_weighChains_33 (by first | exact Nat.le_of_ble_eq_true rfl | simp [cat_rf]) (by first | exact Nat.le_of_ble_eq_true rfl | simp [cat_rf]) (by first | exact Nat.le_of_ble_eq_true rfl | simp [cat_rf]) (Nat.zero_le _) (Nat.zero_le _) rfl rfl  (okX4_stepOf hb) ?_
    rintro o σ15 ⟨y16, rfl, hb⟩
    refine ⟨_, rfl, ?_⟩
    refine g_astore (lv' := [(5, va_rf y16), (4, .ref a7), (0, .ref v0), (1, .ref v1), (2, .ref v2), (3, .int v3)]) y16 C dX4_weighChains_36 (hnl_of hΓ (by decide)) (by first | rfl | simp [cat_rf]) ?_
    refine g_aload (some a7) C dX4_weighChains_38 1 rfl ?_
    refine g_lconst (v := 0) C dX4_weighChains_40 (by decide) ?_
    obtain ⟨q17, hb⟩ := hb
    refine g_putJ C fl_RX4_176 dX4_weighChains_41 q17 rfl rfl rfl rfl ?_
    refine g_aload (some a7) C dX4_weighChains_44 1 rfl ?_
    refine g_aload y16 C dX4_weighChains_46 0 rfl ?_
    refine g_ifnonnull (tgt := 56) y16 C dX4_weighChains_48 (by decide) (fun c => ?_) (fun c => ?_)
    ·
      obtain ⟨a18, rfl⟩ := rf_some c
      replace hb := hb.2 a18 rfl
      refine g_aload (some a18) C dX4_weighChains_56 0 rfl ?_
      obtain ⟨q19, hb⟩ := hb
      refine g_getIx (zFi σ15 132 a18) C fl_RX4_180 dX4_weighChains_58 (by rw [zK_uFj]; exact q19) rfl rfl (by rw [zFi_uFj]) ?_
      refine g_sub (lv' := [(0, .ref v0), (1, .ref v1), (2, .ref v2), (3, .int v3), (4, .ref a7), (5, va_rf (some a18))]) [2, 3, 4, 5, 1, 0] rfl ?_
      exact kwX4_weighChains_61 C hΓ h2 _ _ _ _ _ _ _ _ _ hb
    ·
      replace hb := hb.1 c
      refine g_ldc C wd_685 dX4_weighChains_51 ?_
      refine g_goto (tgt := 61) C dX4_weighChains_53 (by decide) ?_
      refine g_sub (lv' := [(0, .ref v0), (1, .ref v1), (2, .ref v2), (3, .int v3), (4, .ref a7), (5, va_rf y16)]) [2, 3, 4, 5, 1, 0] rfl ?_
      exact kwX4_weighChains_61 C hΓ h2 _ _ _ _ _ _ _ _ _ hb
theorem klX4_weighChains_2 {Γ : hCT} (C : hC Γ RX4 cX4_weighChains ((Option.none : Option Jvm.ClassFile.FieldType)) "weighChains" 3 90) {Q : St → Prop} (hΓ : Γ.2.2.2.2.2.2.2.2.2.2.2 = (6, 0, 0, oV Q)) (f : Nat) (v0 : Nat) (v1 : Nat) (v2 : Nat) (v3 : Int32) (σ : St) (hb : lX4_weighChains_2 Q f v0 v1 v2 v3 σ) : hW Γ 0 0 2 [(0, .ref v0), (1, .ref v1), (2, .ref v2), (3, .int v3)] [] σ := by
  induction f generalizing v0 v1 v2 v3 σ with
  | zero => exact hb.elim
  | succ f ih => exact kwX4_weighChains_2 C hΓ  (fun v0 v1 v2 v3 σ h => ih v0 v1 v2 v3 σ h) _ _ _ _ _ hb
set_option maxRecDepth 20000 in
theorem kwX4_weighChains_0 {Γ : hCT} (C : hC Γ RX4 cX4_weighChains ((Option.none : Option Jvm.ClassFile.FieldType)) "weighChains" 3 90) {Q : St → Prop} (hΓ : Γ.2.2.2.2.2.2.2.2.2.2.2 = (6, 0, 0, oV Q)) (v0 : Nat) (v1 : Nat) (v2 : Nat) (σ : St) (hb : wX4_weighChains_0 Q v0 v1 v2 σ) : hW Γ 0 0 0 [(0, .ref v0), (1, .ref v1), (2, .ref v2)] [] σ := by
  unfold wX4_weighChains_0 at hb
  refine g_iconst (v := 0) C dX4_weighChains_0 (by decide) ?_
  refine g_istore_n (i := 3) (lv' := [(3, .int 0), (0, .ref v0), (1, .ref v1), (2, .ref v2)]) C dX4_weighChains_1 rfl (hnl_of hΓ (by decide)) (by first | rfl | simp [cat_rf]) ?_
  refine g_sub (lv' := [(0, .ref v0), (1, .ref v1), (2, .ref v2), (3, .int 0)]) [1, 2, 3, 0] rfl ?_
  obtain ⟨f1, hb⟩ := hb
  exact klX4_weighChains_2 C hΓ  f1 _ _ _ _ _ hb
theorem okX4_weighChains {v0 : Nat} {v1 : Nat} {v2 : Nat} {σ : St} {Q : St → Prop} (hb : wX4_weighChains v0 v1 v2 σ Q) : hM yX4_weighChains cX4_weighChains 6 ((Option.none : Option Jvm.ClassFile.FieldType)) 3 90 0 0 [.ref v0, .ref v1, .ref v2] σ (oV Q) :=
  hM_of (by decide) (Nat.le_of_ble_eq_true rfl) (fun Γ hΓ C => kwX4_weighChains_0 C hΓ _ _ _ _ hb)
def wX4_workClose_62 (Q : Int32 → St → Prop) (v0 : Nat) (v1 : Nat) (v2 : Nat) (σ : St) : Prop :=
  zK σ v0 = 5 ∧ wX4_weighChains v0 v1 v2 σ (fun σ2 => Q 1 σ2)
def wX4_workClose_7 (Q : Int32 → St → Prop) (r7 : Nat → Nat → Nat → Int32 → St → Prop) (v0 : Nat) (v1 : Nat) (v2 : Nat) (v3 : Int32) (σ : St) : Prop :=
  (((1000 : Int32) ≤ v3 → wX4_workClose_62 Q v0 v1 v2 σ) ∧ (¬ (1000 : Int32) ≤ v3 → zK σ v0 = 5 ∧ wX4_reach v0 v1 v2 σ (fun y3 σ2 => ((y3 = 0 → Q 0 σ2) ∧ (¬ y3 = 0 → zK σ2 v0 = 5 ∧ wX4_gatherRound v0 v1 v2 σ2 (fun y6 σ5 => ((¬ y6 = 0 → zK σ5 v0 = 5 ∧ ∃ a8 : Nat, zFr σ5 261 v0 = some a8 ∧ zK σ5 a8 = 4 ∧ wX3_sameWays a8 v2 σ5 (fun y12 σ11 => ((y12 = 0 → zK σ11 v0 = 5 ∧ ∃ a14 : Nat, zFr σ11 261 v0 = some a14 ∧ zK σ11 v2 = 4 ∧ wX3_takeAll v2 a14 σ11 (fun σ17 => r7 v0 v1 v2 (v3 + 1) σ17)) ∧ (¬ y12 = 0 → wX4_workClose_62 Q v0 v1 v2 σ11)))) ∧ (y6 = 0 → Q 0 σ5))))))))
def lX4_workClose_7 (Q : Int32 → St → Prop) : Nat → Nat → Nat → Nat → Int32 → St → Prop
  | 0, _, _, _, _, _ => False
  | f + 1, v0, v1, v2, v3, σ => wX4_workClose_7 Q (lX4_workClose_7 Q f) v0 v1 v2 v3 σ
def wX4_workClose_0 (Q : Int32 → St → Prop) (v0 : Nat) (v1 : Nat) (v2 : Nat) (σ : St) : Prop :=
  zK σ v2 = 4 ∧ wX3_takeAll v2 v1 σ (fun σ2 => ∃ f, lX4_workClose_7 Q f v0 v1 v2 0 σ2)
def wX4_workClose (v0 : Nat) (v1 : Nat) (v2 : Nat) (σ : St) (Q : Int32 → St → Prop) : Prop := wX4_workClose_0 Q v0 v1 v2 σ
set_option maxRecDepth 20000 in
theorem kwX4_workClose_62 {Γ : hCT} (C : hC Γ RX4 cX4_workClose ((Option.some FieldType.boolean)) "workClose" 4 131) {Q : Int32 → St → Prop} (hΓ : Γ.2.2.2.2.2.2.2.2.2.2.2 = (4, 0, 0, oI Q)) (v0 : Nat) (v1 : Nat) (v2 : Nat) (σ : St) (hb : wX4_workClose_62 Q v0 v1 v2 σ) : hW Γ 0 0 62 [(0, .ref v0), (1, .ref v1), (2, .ref v2)] [] σ := by
  unfold wX4_workClose_62 at hb
  refine g_aload_n (some v0) C dX4_workClose_62 0 rfl ?_
  refine g_aload_n (some v1) C dX4_workClose_63 1 rfl ?_
  refine g_aload_n (some v2) C dX4_workClose_64 2 rfl ?_
  obtain ⟨q1, hb⟩ := hb
  refine g_invV (ci := 4) [.ref v1, .ref v2] [] zy_X4_weighChains wd_737 wd_739 wd_21 ⟨_, _, rfl⟩ (by decide) C dX4_workClose_65 (by first | exact Nat.le_of_ble_eq_true rfl | simp [cat_rf]) (by first | exact Nat.le_of_ble_eq_true rfl | simp [cat_rf]) (by first | exact Nat.le_of_ble_eq_true rfl | simp [cat_rf]) (Nat.zero_le _) (Nat.zero_le _) rfl rfl q1 (okX4_weighChains hb) ?_
  rintro o σ2 ⟨rfl, hb⟩
  refine ⟨_, rfl, ?_⟩
  refine g_iconst (v := 1) C dX4_workClose_68 (by decide) ?_
  exact g_zreturn C (by decide) hΓ (Nat.zero_le _) (Nat.zero_le _) dX4_workClose_69 ⟨_, rfl, hb⟩
set_option maxRecDepth 20000 in
theorem kwX4_workClose_7 {Γ : hCT} (C : hC Γ RX4 cX4_workClose ((Option.some FieldType.boolean)) "workClose" 4 131) {Q : Int32 → St → Prop} (hΓ : Γ.2.2.2.2.2.2.2.2.2.2.2 = (4, 0, 0, oI Q)) {r7 : Nat → Nat → Nat → Int32 → St → Prop} (h7 : ∀ (v0 : Nat) (v1 : Nat) (v2 : Nat) (v3 : Int32) (σ : St), r7 v0 v1 v2 v3 σ → hW Γ 0 0 7 [(0, .ref v0), (1, .ref v1), (2, .ref v2), (3, .int v3)] [] σ) (v0 : Nat) (v1 : Nat) (v2 : Nat) (v3 : Int32) (σ : St) (hb : wX4_workClose_7 Q r7 v0 v1 v2 v3 σ) : hW Γ 0 0 7 [(0, .ref v0), (1, .ref v1), (2, .ref v2), (3, .int v3)] [] σ := by
  unfold wX4_workClose_7 at hb
  refine g_iload_n C dX4_workClose_7 3 rfl ?_
  refine g_sipush (v := 1000) C dX4_workClose_8 (by decide) ?_
  refine g_icmp_ge (tgt := 62) C dX4_workClose_11 (by decide) (fun c => ?_) (fun c => ?_)
  ·
    replace hb := hb.1 (c)
    refine g_sub (lv' := [(0, .ref v0), (1, .ref v1), (2, .ref v2)]) [0, 1, 2] rfl ?_
    exact kwX4_workClose_62 C hΓ  _ _ _ _ hb
  ·
    replace hb := hb.2 (c)
    refine g_aload_n (some v0) C dX4_workClose_14 0 rfl ?_
    refine g_aload_n (some v1) C dX4_workClose_15 1 rfl ?_
    refine g_aload_n (some v2) C dX4_workClose_16 2 rfl ?_
    obtain ⟨q1, hb⟩ := hb
    refine g_invV (ci := 4) [.ref v1, .ref v2] [] zy_X4_reach wd_714 wd_716 wd_18 ⟨_, _, rfl⟩ (by decide) C dX4_workClose_17 (by first | exact Nat.le_of_ble_eq_true rfl | simp [cat_rf]) (by first | exact Nat.le_of_ble_eq_true rfl | simp [cat_rf]) (by first | exact Nat.le_of_ble_eq_true rfl | simp [cat_rf]) (Nat.zero_le _) (Nat.zero_le _) rfl rfl q1 (okX4_reach hb) ?_
    rintro o σ2 ⟨y3, rfl, hb⟩
    refine ⟨_, rfl, ?_⟩
    refine g_if_eq (tgt := 32) C dX4_workClose_20 (by decide) (fun c => ?_) (fun c => ?_)
    ·
      replace hb := hb.1 (c)
      refine g_iconst (v := 0) C dX4_workClose_32 (by decide) ?_
      exact g_zreturn C (by decide) hΓ (Nat.zero_le _) (Nat.zero_le _) dX4_workClose_33 ⟨_, rfl, hb⟩
    ·
      replace hb := hb.2 (c)
      refine g_aload_n (some v0) C dX4_workClose_23 0 rfl ?_
      refine g_aload_n (some v1) C dX4_workClose_24 1 rfl ?_
      refine g_aload_n (some v2) C dX4_workClose_25 2 rfl ?_
      obtain ⟨q4, hb⟩ := hb
      refine g_invV (ci := 4) [.ref v1, .ref v2] [] zy_X4_gatherRound wd_718 wd_720 wd_19 ⟨_, _, rfl⟩ (by decide) C dX4_workClose_26 (by first | exact Nat.le_of_ble_eq_true rfl | simp [cat_rf]) (by first | exact Nat.le_of_ble_eq_true rfl | simp [cat_rf]) (by first | exact Nat.le_of_ble_eq_true rfl | simp [cat_rf]) (Nat.zero_le _) (Nat.zero_le _) rfl rfl q4 (okX4_gatherRound hb) ?_
      rintro o σ5 ⟨y6, rfl, hb⟩
      refine ⟨_, rfl, ?_⟩
      refine g_if_ne (tgt := 34) C dX4_workClose_29 (by decide) (fun c => ?_) (fun c => ?_)
      ·
        replace hb := hb.1 (c)
        refine g_aload_n (some v0) C dX4_workClose_34 0 rfl ?_
        obtain ⟨q7, hb⟩ := hb
        obtain ⟨a8, q9, hb⟩ := hb
        refine g_getR (some a8) C fl_RX4_31 dX4_workClose_35 q7 rfl rfl q9 ?_
        refine g_aload_n (some v2) C dX4_workClose_38 2 rfl ?_
        obtain ⟨q10, hb⟩ := hb
        refine g_invV (ci := 3) [.ref v2] [] zy_X3_sameWays wd_729 wd_730 wd_731 ⟨_, _, rfl⟩ (by decide) C dX4_workClose_39 (by first | exact Nat.le_of_ble_eq_true rfl | simp [cat_rf]) (by first | exact Nat.le_of_ble_eq_true rfl | simp [cat_rf]) (by first | exact Nat.le_of_ble_eq_true rfl | simp [cat_rf]) (Nat.zero_le _) (Nat.zero_le _) rfl rfl q10 (okX3_sameWays hb) ?_
        rintro o σ11 ⟨y12, rfl, hb⟩
        refine ⟨_, rfl, ?_⟩
        refine g_if_eq (tgt := 48) C dX4_workClose_42 (by decide) (fun c => ?_) (fun c => ?_)
        ·
          replace hb := hb.1 (c)
          refine g_aload_n (some v2) C dX4_workClose_48 2 rfl ?_
          refine g_aload_n (some v0) C dX4_workClose_49 0 rfl ?_
          obtain ⟨q13, hb⟩ := hb
          obtain ⟨a14, q15, hb⟩ := hb
          refine g_getR (some a14) C fl_RX4_31 dX4_workClose_50 q13 rfl rfl q15 ?_
          obtain ⟨q16, hb⟩ := hb
          refine g_invV (ci := 3) [.ref a14] [] zy_X3_takeAll wd_708 wd_709 wd_710 ⟨_, _, rfl⟩ (by decide) C dX4_workClose_53 (by first | exact Nat.le_of_ble_eq_true rfl | simp [cat_rf]) (by first | exact Nat.le_of_ble_eq_true rfl | simp [cat_rf]) (by first | exact Nat.le_of_ble_eq_true rfl | simp [cat_rf]) (Nat.zero_le _) (Nat.zero_le _) rfl rfl q16 (okX3_takeAll hb) ?_
          rintro o σ17 ⟨rfl, hb⟩
          refine ⟨_, rfl, ?_⟩
          refine g_iinc (v := v3 + 1) (lv' := [(3, .int (v3 + 1)), (0, .ref v0), (1, .ref v1), (2, .ref v2)]) C dX4_workClose_56 3 rfl rfl (hnl_of hΓ (by decide)) (by first | rfl | simp [cat_rf]) ?_
          refine g_goto (tgt := 7) C dX4_workClose_59 (by decide) ?_
          refine g_sub (lv' := [(0, .ref v0), (1, .ref v1), (2, .ref v2), (3, .int (v3 + 1))]) [1, 2, 3, 0] rfl ?_
          exact h7 _ _ _ _ _ hb
        ·
          replace hb := hb.2 (c)
          refine g_goto (tgt := 62) C dX4_workClose_45 (by decide) ?_
          refine g_sub (lv' := [(0, .ref v0), (1, .ref v1), (2, .ref v2)]) [0, 1, 2] rfl ?_
          exact kwX4_workClose_62 C hΓ  _ _ _ _ hb
      ·
        replace hb := hb.2 (c)
        refine g_iconst (v := 0) C dX4_workClose_32 (by decide) ?_
        exact g_zreturn C (by decide) hΓ (Nat.zero_le _) (Nat.zero_le _) dX4_workClose_33 ⟨_, rfl, hb⟩
theorem klX4_workClose_7 {Γ : hCT} (C : hC Γ RX4 cX4_workClose ((Option.some FieldType.boolean)) "workClose" 4 131) {Q : Int32 → St → Prop} (hΓ : Γ.2.2.2.2.2.2.2.2.2.2.2 = (4, 0, 0, oI Q)) (f : Nat) (v0 : Nat) (v1 : Nat) (v2 : Nat) (v3 : Int32) (σ : St) (hb : lX4_workClose_7 Q f v0 v1 v2 v3 σ) : hW Γ 0 0 7 [(0, .ref v0), (1, .ref v1), (2, .ref v2), (3, .int v3)] [] σ := by
  induction f generalizing v0 v1 v2 v3 σ with
  | zero => exact hb.elim
  | succ f ih => exact kwX4_workClose_7 C hΓ  (fun v0 v1 v2 v3 σ h => ih v0 v1 v2 v3 σ h) _ _ _ _ _ hb
set_option maxRecDepth 20000 in
theorem kwX4_workClose_0 {Γ : hCT} (C : hC Γ RX4 cX4_workClose ((Option.some FieldType.boolean)) "workClose" 4 131) {Q : Int32 → St → Prop} (hΓ : Γ.2.2.2.2.2.2.2.2.2.2.2 = (4, 0, 0, oI Q)) (v0 : Nat) (v1 : Nat) (v2 : Nat) (σ : St) (hb : wX4_workClose_0 Q v0 v1 v2 σ) : hW Γ 0 0 0 [(0, .ref v0), (1, .ref v1), (2, .ref v2)] [] σ := by
  unfold wX4_workClose_0 at hb
  refine g_aload_n (some v2) C dX4_workClose_0 2 rfl ?_
  refine g_aload_n (some v1) C dX4_workClose_1 1 rfl ?_
  obtain ⟨q1, hb⟩ := hb
  refine g_invV (ci := 3) [.ref v1] [] zy_X3_takeAll wd_708 wd_709 wd_710 ⟨_, _, rfl⟩ (by decide) C dX4_workClose_2 (by first | exact Nat.le_of_ble_eq_true rfl | simp [cat_rf]) (by first | exact Nat.le_of_ble_eq_true rfl | simp [cat_rf]) (by first | exact Nat.le_of_ble_eq_true rfl | simp [cat_rf]) (Nat.zero_le _) (Nat.zero_le _) rfl rfl q1 (okX3_takeAll hb) ?_
  rintro o σ2 ⟨rfl, hb⟩
  refine ⟨_, rfl, ?_⟩
  refine g_iconst (v := 0) C dX4_workClose_5 (by decide) ?_
  refine g_istore_n (i := 3) (lv' := [(3, .int 0), (0, .ref v0), (1, .ref v1), (2, .ref v2)]) C dX4_workClose_6 rfl (hnl_of hΓ (by decide)) (by first | rfl | simp [cat_rf]) ?_
  refine g_sub (lv' := [(0, .ref v0), (1, .ref v1), (2, .ref v2), (3, .int 0)]) [1, 2, 3, 0] rfl ?_
  obtain ⟨f3, hb⟩ := hb
  exact klX4_workClose_7 C hΓ  f3 _ _ _ _ _ hb
theorem okX4_workClose {v0 : Nat} {v1 : Nat} {v2 : Nat} {σ : St} {Q : Int32 → St → Prop} (hb : wX4_workClose v0 v1 v2 σ Q) : hM yX4_workClose cX4_workClose 4 ((Option.some FieldType.boolean)) 4 131 0 0 [.ref v0, .ref v1, .ref v2] σ (oI Q) :=
  hM_of (by decide) (Nat.le_of_ble_eq_true rfl) (fun Γ hΓ C => kwX4_workClose_0 C hΓ _ _ _ _ hb)
def wX3_at_0 (Q : Option Nat → St → Prop) (v0 : Nat) (v1 : Int32) (σ : St) : Prop :=
  ((v1 < 0 → Q none σ) ∧ (¬ v1 < 0 → zK σ v0 = 4 ∧ (((zFi σ 193 v0) ≤ v1 → Q none σ) ∧ (¬ (zFi σ 193 v0) ≤ v1 → ∃ a2 : Nat, zFr σ 192 v0 = some a2 ∧ zK σ a2 = 25 ∧ vp_in v1 (zL σ a2) ∧ ∃ a6 : Nat, zAr σ a2 (ix v1) = some a6 ∧ Q (some a6) σ))))
def wX3_at (v0 : Nat) (v1 : Int32) (σ : St) (Q : Option Nat → St → Prop) : Prop := wX3_at_0 Q v0 v1 σ
set_option maxRecDepth 20000 in
theorem kwX3_at_0 {Γ : hCT} (C : hC Γ RX3 cX3_at ((Option.some (FieldType.object RX2))) "at" 0 0) {Q : Option Nat → St → Prop} (hΓ : Γ.2.2.2.2.2.2.2.2.2.2.2 = (2, 0, 0, oO Q)) (v0 : Nat) (v1 : Int32) (σ : St) (hb : wX3_at_0 Q v0 v1 σ) : hW Γ 0 0 0 [(0, .ref v0), (1, .int v1)] [] σ := by
  unfold wX3_at_0 at hb
  refine g_iload_n C dX3_at_0 1 rfl ?_
  refine g_if_lt (tgt := 21) C dX3_at_1 (by decide) (fun c => ?_) (fun c => ?_)
  ·
    replace hb := hb.1 (c)
    refine g_null C dX3_at_21 ?_
    exact g_areturn none (Or.inl ⟨_, rfl⟩) C hΓ (Nat.zero_le _) (Nat.zero_le _) dX3_at_22 ⟨_, rfl, hb⟩
  ·
    replace hb := hb.2 (c)
    refine g_iload_n C dX3_at_4 1 rfl ?_
    refine g_aload_n (some v0) C dX3_at_5 0 rfl ?_
    obtain ⟨q1, hb⟩ := hb
    refine g_getIx (zFi σ 193 v0) C fl_RX3_18 dX3_at_6 q1 rfl rfl rfl ?_
    refine g_icmp_ge (tgt := 21) C dX3_at_9 (by decide) (fun c => ?_) (fun c => ?_)
    ·
      replace hb := hb.1 (c)
      refine g_null C dX3_at_21 ?_
      exact g_areturn none (Or.inl ⟨_, rfl⟩) C hΓ (Nat.zero_le _) (Nat.zero_le _) dX3_at_22 ⟨_, rfl, hb⟩
    ·
      replace hb := hb.2 (c)
      refine g_aload_n (some v0) C dX3_at_12 0 rfl ?_
      obtain ⟨a2, q3, hb⟩ := hb
      refine g_getR (some a2) C fl_RX3_11 dX3_at_13 q1 rfl rfl q3 ?_
      refine g_iload_n C dX3_at_16 1 rfl ?_
      obtain ⟨q4, hb⟩ := hb
      obtain ⟨q5, hb⟩ := hb
      obtain ⟨a6, q7, hb⟩ := hb
      refine g_aald (some a6) el_25 C dX3_at_17 q4 q5 q7 ?_
      refine g_goto (tgt := 22) C dX3_at_18 (by decide) ?_
      exact g_areturn (some a6) (Or.inl ⟨_, rfl⟩) C hΓ (Nat.zero_le _) (Nat.zero_le _) dX3_at_22 ⟨_, rfl, hb⟩
theorem okX3_at {v0 : Nat} {v1 : Int32} {σ : St} {Q : Option Nat → St → Prop} (hb : wX3_at v0 v1 σ Q) : hM yX3_at cX3_at 2 ((Option.some (FieldType.object RX2))) 0 0 0 0 [.ref v0, .int v1] σ (oO Q) :=
  hM_of (by decide) (Nat.le_of_ble_eq_true rfl) (fun Γ hΓ C => kwX3_at_0 C hΓ _ _ _ hb)
def wX2_stands_2 (Q : Int32 → St → Prop) (r2 : Nat → Int64 → Int32 → St → Prop) (v0 : Nat) (v1 : Int64) (v3 : Int32) (σ : St) : Prop :=
  zK σ v0 = 3 ∧ (((zFi σ 130 v0) ≤ v3 → Q 0 σ) ∧ (¬ (zFi σ 130 v0) ≤ v3 → ∃ a2 : Nat, zFr σ 129 v0 = some a2 ∧ zK σ a2 = 21 ∧ vp_in v3 (zL σ a2) ∧ ((¬ ((zAj σ a2 (ix v3)) &&& (v1 ^^^ (-1))) = 0 → r2 v0 v1 (v3 + 1) σ) ∧ (((zAj σ a2 (ix v3)) &&& (v1 ^^^ (-1))) = 0 → Q 1 σ))))
def lX2_stands_2 (Q : Int32 → St → Prop) : Nat → Nat → Int64 → Int32 → St → Prop
  | 0, _, _, _, _ => False
  | f + 1, v0, v1, v3, σ => wX2_stands_2 Q (lX2_stands_2 Q f) v0 v1 v3 σ
def wX2_stands_0 (Q : Int32 → St → Prop) (v0 : Nat) (v1 : Int64) (σ : St) : Prop :=
  ∃ f, lX2_stands_2 Q f v0 v1 0 σ
def wX2_stands (v0 : Nat) (v1 : Int64) (σ : St) (Q : Int32 → St → Prop) : Prop := wX2_stands_0 Q v0 v1 σ
set_option maxRecDepth 20000 in
theorem kwX2_stands_2 {Γ : hCT} (C : hC Γ RX2 cX2_stands ((Option.some FieldType.boolean)) "stands" 0 0) {Q : Int32 → St → Prop} (hΓ : Γ.2.2.2.2.2.2.2.2.2.2.2 = (4, 0, 0, oI Q)) {r2 : Nat → Int64 → Int32 → St → Prop} (h2 : ∀ (v0 : Nat) (v1 : Int64) (v3 : Int32) (σ : St), r2 v0 v1 v3 σ → hW Γ 0 0 2 [(0, .ref v0), (1, .long v1), (3, .int v3)] [] σ) (v0 : Nat) (v1 : Int64) (v3 : Int32) (σ : St) (hb : wX2_stands_2 Q r2 v0 v1 v3 σ) : hW Γ 0 0 2 [(0, .ref v0), (1, .long v1), (3, .int v3)] [] σ := by
  unfold wX2_stands_2 at hb
  refine g_iload_n C dX2_stands_2 2 rfl ?_
  refine g_aload_n (some v0) C dX2_stands_3 0 rfl ?_
  obtain ⟨q1, hb⟩ := hb
  refine g_getIx (zFi σ 130 v0) C fl_RX2_25 dX2_stands_4 q1 rfl rfl rfl ?_
  refine g_icmp_ge (tgt := 35) C dX2_stands_7 (by decide) (fun c => ?_) (fun c => ?_)
  ·
    replace hb := hb.1 (c)
    refine g_iconst (v := 0) C dX2_stands_35 (by decide) ?_
    exact g_zreturn C (by decide) hΓ (Nat.zero_le _) (Nat.zero_le _) dX2_stands_36 ⟨_, rfl, hb⟩
  ·
    replace hb := hb.2 (c)
    refine g_aload_n (some v0) C dX2_stands_10 0 rfl ?_
    obtain ⟨a2, q3, hb⟩ := hb
    refine g_getR (some a2) C fl_RX2_15 dX2_stands_11 q1 rfl rfl q3 ?_
    refine g_iload_n C dX2_stands_14 2 rfl ?_
    obtain ⟨q4, hb⟩ := hb
    obtain ⟨q5, hb⟩ := hb
    refine g_laldx (zAj σ a2 (ix v3)) C dX2_stands_15 q4 q5 rfl ?_
    refine g_lload_n C dX2_stands_16 1 rfl ?_
    refine g_ldc2 C wd_759 dX2_stands_17 ?_
    refine g_lxor C dX2_stands_20 ?_
    refine g_land C dX2_stands_21 ?_
    refine g_lconst (v := 0) C dX2_stands_22 (by decide) ?_
    refine g_lcmp C dX2_stands_23 ?_
    refine g_if_ne (tgt := 29) C dX2_stands_24 (by decide) (fun c => ?_) (fun c => ?_)
    ·
      replace hb := hb.1 (lc_ne.mp c)
      refine g_iinc (v := v3 + 1) (lv' := [(3, .int (v3 + 1)), (0, .ref v0), (1, .long v1)]) C dX2_stands_29 2 rfl rfl (hnl_of hΓ (by decide)) (by first | rfl | simp [cat_rf]) ?_
      refine g_goto (tgt := 2) C dX2_stands_32 (by decide) ?_
      refine g_sub (lv' := [(0, .ref v0), (1, .long v1), (3, .int (v3 + 1))]) [1, 2, 0] rfl ?_
      exact h2 _ _ _ _ hb
    ·
      replace hb := hb.2 (lcn_ne.mp c)
      refine g_iconst (v := 1) C dX2_stands_27 (by decide) ?_
      exact g_zreturn C (by decide) hΓ (Nat.zero_le _) (Nat.zero_le _) dX2_stands_28 ⟨_, rfl, hb⟩
theorem klX2_stands_2 {Γ : hCT} (C : hC Γ RX2 cX2_stands ((Option.some FieldType.boolean)) "stands" 0 0) {Q : Int32 → St → Prop} (hΓ : Γ.2.2.2.2.2.2.2.2.2.2.2 = (4, 0, 0, oI Q)) (f : Nat) (v0 : Nat) (v1 : Int64) (v3 : Int32) (σ : St) (hb : lX2_stands_2 Q f v0 v1 v3 σ) : hW Γ 0 0 2 [(0, .ref v0), (1, .long v1), (3, .int v3)] [] σ := by
  induction f generalizing v0 v1 v3 σ with
  | zero => exact hb.elim
  | succ f ih => exact kwX2_stands_2 C hΓ  (fun v0 v1 v3 σ h => ih v0 v1 v3 σ h) _ _ _ _ hb
set_option maxRecDepth 20000 in
theorem kwX2_stands_0 {Γ : hCT} (C : hC Γ RX2 cX2_stands ((Option.some FieldType.boolean)) "stands" 0 0) {Q : Int32 → St → Prop} (hΓ : Γ.2.2.2.2.2.2.2.2.2.2.2 = (4, 0, 0, oI Q)) (v0 : Nat) (v1 : Int64) (σ : St) (hb : wX2_stands_0 Q v0 v1 σ) : hW Γ 0 0 0 [(0, .ref v0), (1, .long v1)] [] σ := by
  unfold wX2_stands_0 at hb
  refine g_iconst (v := 0) C dX2_stands_0 (by decide) ?_
  refine g_istore_n (i := 3) (lv' := [(3, .int 0), (0, .ref v0), (1, .long v1)]) C dX2_stands_1 rfl (hnl_of hΓ (by decide)) (by first | rfl | simp [cat_rf]) ?_
  refine g_sub (lv' := [(0, .ref v0), (1, .long v1), (3, .int 0)]) [1, 2, 0] rfl ?_
  obtain ⟨f1, hb⟩ := hb
  exact klX2_stands_2 C hΓ  f1 _ _ _ _ hb
theorem okX2_stands {v0 : Nat} {v1 : Int64} {σ : St} {Q : Int32 → St → Prop} (hb : wX2_stands v0 v1 σ Q) : hM yX2_stands cX2_stands 4 ((Option.some FieldType.boolean)) 0 0 0 0 [.ref v0, .long v1] σ (oI Q) :=
  hM_of (by decide) (Nat.le_of_ble_eq_true rfl) (fun Γ hΓ C => kwX2_stands_0 C hΓ _ _ _ hb)
def wX4_workMost_61 (Q : Int32 → St → Prop) (r3 : Nat → Nat → Nat → Nat → Int32 → St → Prop) (v0 : Nat) (v1 : Nat) (v2 : Nat) (v3 : Nat) (v4 : Int32) (s0 : Int32) (σ : St) : Prop :=
  ((¬ s0 = 0 → r3 v0 v1 v2 v3 (v4 + 1) σ) ∧ (s0 = 0 → zK σ v1 = 4 ∧ ∃ a2 : Nat, zFr σ 192 v1 = some a2 ∧ zK σ a2 = 25 ∧ vp_in v4 (zL σ a2) ∧ ∃ a6 : Nat, zAr σ a2 (ix v4) = some a6 ∧ zK σ v3 = 4 ∧ wX3_add v3 a6 σ (fun y10 σ9 => ((¬ y10 = 0 → r3 v0 v1 v2 v3 (v4 + 1) σ9) ∧ (y10 = 0 → Q 0 σ9)))))
def wX4_workMost_60 (Q : Int32 → St → Prop) (r3 : Nat → Nat → Nat → Nat → Int32 → St → Prop) (v0 : Nat) (v1 : Nat) (v2 : Nat) (v3 : Nat) (v4 : Int32) (σ : St) : Prop :=
  wX4_workMost_61 Q r3 v0 v1 v2 v3 v4 0 σ
def wX4_workMost_3 (Q : Int32 → St → Prop) (r3 : Nat → Nat → Nat → Nat → Int32 → St → Prop) (v0 : Nat) (v1 : Nat) (v2 : Nat) (v3 : Nat) (v4 : Int32) (σ : St) : Prop :=
  zK σ v1 = 4 ∧ (((zFi σ 193 v1) ≤ v4 → Q 1 σ) ∧ (¬ (zFi σ 193 v1) ≤ v4 → ∃ a2 : Nat, zFr σ 192 v1 = some a2 ∧ zK σ a2 = 25 ∧ vp_in v4 (zL σ a2) ∧ ∃ a6 : Nat, zAr σ a2 (ix v4) = some a6 ∧ zK σ a6 = 3 ∧ ∃ a9 : Nat, zFr σ 128 a6 = some a9 ∧ zK σ v2 = 4 ∧ wX3_spot v2 a9 σ (fun y13 σ12 => zK σ12 v2 = 4 ∧ wX3_at v2 y13 σ12 (fun y16 σ15 => ((y16 = none → wX4_workMost_60 Q r3 v0 v1 v2 v3 v4 σ15) ∧ (∀ a17 : Nat, y16 = some a17 → zK σ15 v0 = 5 ∧ ∃ a19 : Nat, zFr σ15 256 v0 = some a19 ∧ zK σ15 a19 = 7 ∧ zK σ15 a17 = 3 ∧ wX2_stands a17 ((zFj σ15 389 a19) ^^^ (-1)) σ15 (fun y24 σ23 => ((y24 = 0 → wX4_workMost_60 Q r3 v0 v1 v2 v3 v4 σ23) ∧ (¬ y24 = 0 → wX4_workMost_61 Q r3 v0 v1 v2 v3 v4 1 σ23)))))))))
def lX4_workMost_3 (Q : Int32 → St → Prop) : Nat → Nat → Nat → Nat → Nat → Int32 → St → Prop
  | 0, _, _, _, _, _, _ => False
  | f + 1, v0, v1, v2, v3, v4, σ => wX4_workMost_3 Q (lX4_workMost_3 Q f) v0 v1 v2 v3 v4 σ
def wX4_workMost_0 (Q : Int32 → St → Prop) (v0 : Nat) (v1 : Nat) (v2 : Nat) (v3 : Nat) (σ : St) : Prop :=
  ∃ f, lX4_workMost_3 Q f v0 v1 v2 v3 0 σ
def wX4_workMost (v0 : Nat) (v1 : Nat) (v2 : Nat) (v3 : Nat) (σ : St) (Q : Int32 → St → Prop) : Prop := wX4_workMost_0 Q v0 v1 v2 v3 σ
set_option maxRecDepth 20000 in
theorem kwX4_workMost_61 {Γ : hCT} (C : hC Γ RX4 cX4_workMost ((Option.some FieldType.boolean)) "workMost" 3 103) {Q : Int32 → St → Prop} (hΓ : Γ.2.2.2.2.2.2.2.2.2.2.2 = (7, 0, 0, oI Q)) {r3 : Nat → Nat → Nat → Nat → Int32 → St → Prop} (h3 : ∀ (v0 : Nat) (v1 : Nat) (v2 : Nat) (v3 : Nat) (v4 : Int32) (σ : St), r3 v0 v1 v2 v3 v4 σ → hW Γ 0 0 3 [(0, .ref v0), (1, .ref v1), (2, .ref v2), (3, .ref v3), (4, .int v4)] [] σ) (v0 : Nat) (v1 : Nat) (v2 : Nat) (v3 : Nat) (v4 : Int32) (s0 : Int32) (σ : St) (hb : wX4_workMost_61 Q r3 v0 v1 v2 v3 v4 s0 σ) : hW Γ 0 0 61 [(0, .ref v0), (1, .ref v1), (2, .ref v2), (3, .ref v3), (4, .int v4)] [.int s0] σ := by
  unfold wX4_workMost_61 at hb
  refine g_istore (lv' := [(6, .int s0), (0, .ref v0), (1, .ref v1), (2, .ref v2), (3, .ref v3), (4, .int v4)]) C dX4_workMost_61 (hnl_of hΓ (by decide)) (by first | rfl | simp [cat_rf]) ?_
  refine g_iload C dX4_workMost_63 0 rfl ?_
  refine g_if_ne (tgt := 84) C dX4_workMost_65 (by decide) (fun c => ?_) (fun c => ?_)
  ·
    replace hb := hb.1 (c)
    refine g_iinc (v := v4 + 1) (lv' := [(4, .int (v4 + 1)), (6, .int s0), (0, .ref v0), (1, .ref v1), (2, .ref v2), (3, .ref v3)]) C dX4_workMost_84 5 rfl rfl (hnl_of hΓ (by decide)) (by first | rfl | simp [cat_rf]) ?_
    refine g_goto (tgt := 3) C dX4_workMost_87 (by decide) ?_
    refine g_sub (lv' := [(0, .ref v0), (1, .ref v1), (2, .ref v2), (3, .ref v3), (4, .int (v4 + 1))]) [2, 3, 4, 5, 0] rfl ?_
    exact h3 _ _ _ _ _ _ hb
  ·
    replace hb := hb.2 (c)
    refine g_aload_n (some v3) C dX4_workMost_68 4 rfl ?_
    refine g_aload_n (some v1) C dX4_workMost_69 2 rfl ?_
    obtain ⟨q1, hb⟩ := hb
    obtain ⟨a2, q3, hb⟩ := hb
    refine g_getR (some a2) C fl_RX4_130 dX4_workMost_70 q1 rfl rfl q3 ?_
    refine g_iload C dX4_workMost_73 5 rfl ?_
    obtain ⟨q4, hb⟩ := hb
    obtain ⟨q5, hb⟩ := hb
    obtain ⟨a6, q7, hb⟩ := hb
    refine g_aald (some a6) el_25 C dX4_workMost_75 q4 q5 q7 ?_
    obtain ⟨q8, hb⟩ := hb
    refine g_invV (ci := 3) [.ref a6] [] zy_X3_add wd_699 wd_700 wd_701 ⟨_, _, rfl⟩ (by decide) C dX4_workMost_76 (by first | exact Nat.le_of_ble_eq_true rfl | simp [cat_rf]) (by first | exact Nat.le_of_ble_eq_true rfl | simp [cat_rf]) (by first | exact Nat.le_of_ble_eq_true rfl | simp [cat_rf]) (Nat.zero_le _) (Nat.zero_le _) rfl rfl q8 (okX3_add hb) ?_
    rintro o σ9 ⟨y10, rfl, hb⟩
    refine ⟨_, rfl, ?_⟩
    refine g_if_ne (tgt := 84) C dX4_workMost_79 (by decide) (fun c => ?_) (fun c => ?_)
    ·
      replace hb := hb.1 (c)
      refine g_iinc (v := v4 + 1) (lv' := [(4, .int (v4 + 1)), (6, .int s0), (0, .ref v0), (1, .ref v1), (2, .ref v2), (3, .ref v3)]) C dX4_workMost_84 5 rfl rfl (hnl_of hΓ (by decide)) (by first | rfl | simp [cat_rf]) ?_
      refine g_goto (tgt := 3) C dX4_workMost_87 (by decide) ?_
      refine g_sub (lv' := [(0, .ref v0), (1, .ref v1), (2, .ref v2), (3, .ref v3), (4, .int (v4 + 1))]) [2, 3, 4, 5, 0] rfl ?_
      exact h3 _ _ _ _ _ _ hb
    ·
      replace hb := hb.2 (c)
      refine g_iconst (v := 0) C dX4_workMost_82 (by decide) ?_
      exact g_zreturn C (by decide) hΓ (Nat.zero_le _) (Nat.zero_le _) dX4_workMost_83 ⟨_, rfl, hb⟩
set_option maxRecDepth 20000 in
theorem kwX4_workMost_60 {Γ : hCT} (C : hC Γ RX4 cX4_workMost ((Option.some FieldType.boolean)) "workMost" 3 103) {Q : Int32 → St → Prop} (hΓ : Γ.2.2.2.2.2.2.2.2.2.2.2 = (7, 0, 0, oI Q)) {r3 : Nat → Nat → Nat → Nat → Int32 → St → Prop} (h3 : ∀ (v0 : Nat) (v1 : Nat) (v2 : Nat) (v3 : Nat) (v4 : Int32) (σ : St), r3 v0 v1 v2 v3 v4 σ → hW Γ 0 0 3 [(0, .ref v0), (1, .ref v1), (2, .ref v2), (3, .ref v3), (4, .int v4)] [] σ) (v0 : Nat) (v1 : Nat) (v2 : Nat) (v3 : Nat) (v4 : Int32) (σ : St) (hb : wX4_workMost_60 Q r3 v0 v1 v2 v3 v4 σ) : hW Γ 0 0 60 [(0, .ref v0), (1, .ref v1), (2, .ref v2), (3, .ref v3), (4, .int v4)] [] σ := by
  unfold wX4_workMost_60 at hb
  refine g_iconst (v := 0) C dX4_workMost_60 (by decide) ?_
  refine g_sub (lv' := [(0, .ref v0), (1, .ref v1), (2, .ref v2), (3, .ref v3), (4, .int v4)]) [0, 1, 2, 3, 4] rfl ?_
  exact kwX4_workMost_61 C hΓ h3 _ _ _ _ _ _ _ hb
set_option maxRecDepth 20000 in
theorem kwX4_workMost_3 {Γ : hCT} (C : hC Γ RX4 cX4_workMost ((Option.some FieldType.boolean)) "workMost" 3 103) {Q : Int32 → St → Prop} (hΓ : Γ.2.2.2.2.2.2.2.2.2.2.2 = (7, 0, 0, oI Q)) {r3 : Nat → Nat → Nat → Nat → Int32 → St → Prop} (h3 : ∀ (v0 : Nat) (v1 : Nat) (v2 : Nat) (v3 : Nat) (v4 : Int32) (σ : St), r3 v0 v1 v2 v3 v4 σ → hW Γ 0 0 3 [(0, .ref v0), (1, .ref v1), (2, .ref v2), (3, .ref v3), (4, .int v4)] [] σ) (v0 : Nat) (v1 : Nat) (v2 : Nat) (v3 : Nat) (v4 : Int32) (σ : St) (hb : wX4_workMost_3 Q r3 v0 v1 v2 v3 v4 σ) : hW Γ 0 0 3 [(0, .ref v0), (1, .ref v1), (2, .ref v2), (3, .ref v3), (4, .int v4)] [] σ := by
  unfold wX4_workMost_3 at hb
  refine g_iload C dX4_workMost_3 4 rfl ?_
  refine g_aload_n (some v1) C dX4_workMost_5 1 rfl ?_
  obtain ⟨q1, hb⟩ := hb
  refine g_getIx (zFi σ 193 v1) C fl_RX4_127 dX4_workMost_6 q1 rfl rfl rfl ?_
  refine g_icmp_ge (tgt := 90) C dX4_workMost_9 (by decide) (fun c => ?_) (fun c => ?_)
  ·
    replace hb := hb.1 (c)
    refine g_iconst (v := 1) C dX4_workMost_90 (by decide) ?_
    exact g_zreturn C (by decide) hΓ (Nat.zero_le _) (Nat.zero_le _) dX4_workMost_91 ⟨_, rfl, hb⟩
  ·
    replace hb := hb.2 (c)
    refine g_aload_n (some v2) C dX4_workMost_12 2 rfl ?_
    refine g_aload_n (some v2) C dX4_workMost_13 2 rfl ?_
    refine g_aload_n (some v1) C dX4_workMost_14 1 rfl ?_
    obtain ⟨a2, q3, hb⟩ := hb
    refine g_getR (some a2) C fl_RX4_130 dX4_workMost_15 q1 rfl rfl q3 ?_
    refine g_iload C dX4_workMost_18 4 rfl ?_
    obtain ⟨q4, hb⟩ := hb
    obtain ⟨q5, hb⟩ := hb
    obtain ⟨a6, q7, hb⟩ := hb
    refine g_aald (some a6) el_25 C dX4_workMost_20 q4 q5 q7 ?_
    obtain ⟨q8, hb⟩ := hb
    obtain ⟨a9, q10, hb⟩ := hb
    refine g_getR (some a9) C fl_RX4_134 dX4_workMost_21 q8 rfl rfl q10 ?_
    obtain ⟨q11, hb⟩ := hb
    refine g_invV (ci := 3) [.ref a9] [.ref v2] zy_X3_spot wd_631 wd_632 wd_633 ⟨_, _, rfl⟩ (by decide) C dX4_workMost_24 (by first | exact Nat.le_of_ble_eq_true rfl | simp [cat_rf]) (by first | exact Nat.le_of_ble_eq_true rfl | simp [cat_rf]) (by first | exact Nat.le_of_ble_eq_true rfl | simp [cat_rf]) (Nat.zero_le _) (Nat.zero_le _) rfl rfl q11 (okX3_spot hb) ?_
    rintro o σ12 ⟨y13, rfl, hb⟩
    refine ⟨_, rfl, ?_⟩
    obtain ⟨q14, hb⟩ := hb
    refine g_invV (ci := 3) [.int y13] [] zy_X3_at wd_750 wd_751 wd_752 ⟨_, _, rfl⟩ (by decide) C dX4_workMost_27 (by first | exact Nat.le_of_ble_eq_true rfl | simp [cat_rf]) (by first | exact Nat.le_of_ble_eq_true rfl | simp [cat_rf]) (by first | exact Nat.le_of_ble_eq_true rfl | simp [cat_rf]) (Nat.zero_le _) (Nat.zero_le _) rfl rfl q14 (okX3_at hb) ?_
    rintro o σ15 ⟨y16, rfl, hb⟩
    refine ⟨_, rfl, ?_⟩
    refine g_astore (lv' := [(5, va_rf y16), (0, .ref v0), (1, .ref v1), (2, .ref v2), (3, .ref v3), (4, .int v4)]) y16 C dX4_workMost_30 (hnl_of hΓ (by decide)) (by first | rfl | simp [cat_rf]) ?_
    refine g_aload y16 C dX4_workMost_32 0 rfl ?_
    refine g_ifnull (tgt := 60) y16 C dX4_workMost_34 (by decide) (fun c => ?_) (fun c => ?_)
    ·
      replace hb := hb.1 c
      refine g_sub (lv' := [(0, .ref v0), (1, .ref v1), (2, .ref v2), (3, .ref v3), (4, .int v4)]) [1, 2, 3, 4, 5] rfl ?_
      exact kwX4_workMost_60 C hΓ h3 _ _ _ _ _ _ hb
    ·
      obtain ⟨a17, rfl⟩ := rf_some c
      replace hb := hb.2 a17 rfl
      refine g_aload (some a17) C dX4_workMost_37 0 rfl ?_
      refine g_aload_n (some v0) C dX4_workMost_39 1 rfl ?_
      obtain ⟨q18, hb⟩ := hb
      obtain ⟨a19, q20, hb⟩ := hb
      refine g_getR (some a19) C fl_RX4_41 dX4_workMost_40 q18 rfl rfl q20 ?_
      obtain ⟨q21, hb⟩ := hb
      refine g_getJx (zFj σ15 389 a19) C fl_RX4_210 dX4_workMost_43 q21 rfl rfl rfl ?_
      refine g_ldc2 C wd_754 dX4_workMost_46 ?_
      refine g_lxor C dX4_workMost_49 ?_
      obtain ⟨q22, hb⟩ := hb
      refine g_invV (ci := 2) [.long ((zFj σ15 389 a19) ^^^ (-1))] [] zy_X2_stands wd_755 wd_756 wd_757 ⟨_, _, rfl⟩ (by decide) C dX4_workMost_50 (by first | exact Nat.le_of_ble_eq_true rfl | simp [cat_rf]) (by first | exact Nat.le_of_ble_eq_true rfl | simp [cat_rf]) (by first | exact Nat.le_of_ble_eq_true rfl | simp [cat_rf]) (Nat.zero_le _) (Nat.zero_le _) rfl rfl q22 (okX2_stands hb) ?_
      rintro o σ23 ⟨y24, rfl, hb⟩
      refine ⟨_, rfl, ?_⟩
      refine g_if_eq (tgt := 60) C dX4_workMost_53 (by decide) (fun c => ?_) (fun c => ?_)
      ·
        replace hb := hb.1 (c)
        refine g_sub (lv' := [(0, .ref v0), (1, .ref v1), (2, .ref v2), (3, .ref v3), (4, .int v4)]) [1, 2, 3, 4, 5] rfl ?_
        exact kwX4_workMost_60 C hΓ h3 _ _ _ _ _ _ hb
      ·
        replace hb := hb.2 (c)
        refine g_iconst (v := 1) C dX4_workMost_56 (by decide) ?_
        refine g_goto (tgt := 61) C dX4_workMost_57 (by decide) ?_
        refine g_sub (lv' := [(0, .ref v0), (1, .ref v1), (2, .ref v2), (3, .ref v3), (4, .int v4)]) [1, 2, 3, 4, 5] rfl ?_
        exact kwX4_workMost_61 C hΓ h3 _ _ _ _ _ _ _ hb
theorem klX4_workMost_3 {Γ : hCT} (C : hC Γ RX4 cX4_workMost ((Option.some FieldType.boolean)) "workMost" 3 103) {Q : Int32 → St → Prop} (hΓ : Γ.2.2.2.2.2.2.2.2.2.2.2 = (7, 0, 0, oI Q)) (f : Nat) (v0 : Nat) (v1 : Nat) (v2 : Nat) (v3 : Nat) (v4 : Int32) (σ : St) (hb : lX4_workMost_3 Q f v0 v1 v2 v3 v4 σ) : hW Γ 0 0 3 [(0, .ref v0), (1, .ref v1), (2, .ref v2), (3, .ref v3), (4, .int v4)] [] σ := by
  induction f generalizing v0 v1 v2 v3 v4 σ with
  | zero => exact hb.elim
  | succ f ih => exact kwX4_workMost_3 C hΓ  (fun v0 v1 v2 v3 v4 σ h => ih v0 v1 v2 v3 v4 σ h) _ _ _ _ _ _ hb
set_option maxRecDepth 20000 in
theorem kwX4_workMost_0 {Γ : hCT} (C : hC Γ RX4 cX4_workMost ((Option.some FieldType.boolean)) "workMost" 3 103) {Q : Int32 → St → Prop} (hΓ : Γ.2.2.2.2.2.2.2.2.2.2.2 = (7, 0, 0, oI Q)) (v0 : Nat) (v1 : Nat) (v2 : Nat) (v3 : Nat) (σ : St) (hb : wX4_workMost_0 Q v0 v1 v2 v3 σ) : hW Γ 0 0 0 [(0, .ref v0), (1, .ref v1), (2, .ref v2), (3, .ref v3)] [] σ := by
  unfold wX4_workMost_0 at hb
  refine g_iconst (v := 0) C dX4_workMost_0 (by decide) ?_
  refine g_istore (lv' := [(4, .int 0), (0, .ref v0), (1, .ref v1), (2, .ref v2), (3, .ref v3)]) C dX4_workMost_1 (hnl_of hΓ (by decide)) (by first | rfl | simp [cat_rf]) ?_
  refine g_sub (lv' := [(0, .ref v0), (1, .ref v1), (2, .ref v2), (3, .ref v3), (4, .int 0)]) [1, 2, 3, 4, 0] rfl ?_
  obtain ⟨f1, hb⟩ := hb
  exact klX4_workMost_3 C hΓ  f1 _ _ _ _ _ _ hb
theorem okX4_workMost {v0 : Nat} {v1 : Nat} {v2 : Nat} {v3 : Nat} {σ : St} {Q : Int32 → St → Prop} (hb : wX4_workMost v0 v1 v2 v3 σ Q) : hM yX4_workMost cX4_workMost 7 ((Option.some FieldType.boolean)) 3 103 0 0 [.ref v0, .ref v1, .ref v2, .ref v3] σ (oI Q) :=
  hM_of (by decide) (Nat.le_of_ble_eq_true rfl) (fun Γ hΓ C => kwX4_workMost_0 C hΓ _ _ _ _ _ hb)
def wX4_workFilter_50 (Q : Int32 → St → Prop) (r3 : Nat → Nat → Nat → Int32 → St → Prop) (v1 : Nat) (v2 : Nat) (v3 : Nat) (v4 : Int32) (v5 : Nat) (s0 : Int32) (σ : St) : Prop :=
  zK σ v1 = 10 ∧ ∃ a2 : Nat, zFr σ 581 v1 = some a2 ∧ zK σ a2 = 20 ∧ vp_in 0 (zL σ a2) ∧ zK σ v5 = 20 ∧ vp_in (zAi σ a2 (ix 0)) (zL σ v5) ∧ ((¬ (zAi σ v5 (ix (zAi σ a2 (ix 0)))) = s0 → r3 v1 v2 v3 (v4 + 1) σ) ∧ ((zAi σ v5 (ix (zAi σ a2 (ix 0)))) = s0 → zK σ v2 = 4 ∧ ∃ a9 : Nat, zFr σ 192 v2 = some a9 ∧ zK σ a9 = 25 ∧ vp_in v4 (zL σ a9) ∧ ∃ a13 : Nat, zAr σ a9 (ix v4) = some a13 ∧ zK σ v3 = 4 ∧ wX3_add v3 a13 σ (fun y17 σ16 => ((¬ y17 = 0 → r3 v1 v2 v3 (v4 + 1) σ16) ∧ (y17 = 0 → Q 0 σ16)))))
def wX4_workFilter_3 (Q : Int32 → St → Prop) (r3 : Nat → Nat → Nat → Int32 → St → Prop) (v1 : Nat) (v2 : Nat) (v3 : Nat) (v4 : Int32) (σ : St) : Prop :=
  zK σ v2 = 4 ∧ (((zFi σ 193 v2) ≤ v4 → Q 1 σ) ∧ (¬ (zFi σ 193 v2) ≤ v4 → ∃ a2 : Nat, zFr σ 192 v2 = some a2 ∧ zK σ a2 = 25 ∧ vp_in v4 (zL σ a2) ∧ ∃ a6 : Nat, zAr σ a2 (ix v4) = some a6 ∧ zK σ a6 = 3 ∧ ∃ a9 : Nat, zFr σ 128 a6 = some a9 ∧ zK σ v1 = 10 ∧ ((¬ (zFi σ 576 v1) = (1 : Int32) → ∃ a12 : Nat, zFr σ 581 v1 = some a12 ∧ zK σ a12 = 20 ∧ vp_in 1 (zL σ a12) ∧ zK σ a9 = 20 ∧ vp_in (zAi σ a12 (ix 1)) (zL σ a9) ∧ wX4_workFilter_50 Q r3 v1 v2 v3 v4 a9 (zAi σ a9 (ix (zAi σ a12 (ix 1)))) σ) ∧ ((zFi σ 576 v1) = (1 : Int32) → ∃ a18 : Nat, zFr σ 581 v1 = some a18 ∧ zK σ a18 = 20 ∧ vp_in 1 (zL σ a18) ∧ wX4_workFilter_50 Q r3 v1 v2 v3 v4 a9 (zAi σ a18 (ix 1)) σ))))
def lX4_workFilter_3 (Q : Int32 → St → Prop) : Nat → Nat → Nat → Nat → Int32 → St → Prop
  | 0, _, _, _, _, _ => False
  | f + 1, v1, v2, v3, v4, σ => wX4_workFilter_3 Q (lX4_workFilter_3 Q f) v1 v2 v3 v4 σ
def wX4_workFilter_0 (Q : Int32 → St → Prop) (v0 : Nat) (v1 : Nat) (v2 : Nat) (v3 : Nat) (σ : St) : Prop :=
  ∃ f, lX4_workFilter_3 Q f v1 v2 v3 0 σ
def wX4_workFilter (v0 : Nat) (v1 : Nat) (v2 : Nat) (v3 : Nat) (σ : St) (Q : Int32 → St → Prop) : Prop := wX4_workFilter_0 Q v0 v1 v2 v3 σ
set_option maxRecDepth 20000 in
theorem kwX4_workFilter_50 {Γ : hCT} (C : hC Γ RX4 cX4_workFilter ((Option.some FieldType.boolean)) "workFilter" 3 103) {Q : Int32 → St → Prop} (hΓ : Γ.2.2.2.2.2.2.2.2.2.2.2 = (7, 0, 0, oI Q)) {r3 : Nat → Nat → Nat → Int32 → St → Prop} (h3 : ∀ (v1 : Nat) (v2 : Nat) (v3 : Nat) (v4 : Int32) (σ : St), r3 v1 v2 v3 v4 σ → hW Γ 0 0 3 [(1, .ref v1), (2, .ref v2), (3, .ref v3), (4, .int v4)] [] σ) (v1 : Nat) (v2 : Nat) (v3 : Nat) (v4 : Int32) (v5 : Nat) (s0 : Int32) (σ : St) (hb : wX4_workFilter_50 Q r3 v1 v2 v3 v4 v5 s0 σ) : hW Γ 0 0 50 [(1, .ref v1), (2, .ref v2), (3, .ref v3), (4, .int v4), (5, .ref v5)] [.int s0] σ := by
  unfold wX4_workFilter_50 at hb
  refine g_istore (lv' := [(6, .int s0), (1, .ref v1), (2, .ref v2), (3, .ref v3), (4, .int v4), (5, .ref v5)]) C dX4_workFilter_50 (hnl_of hΓ (by decide)) (by first | rfl | simp [cat_rf]) ?_
  refine g_aload (some v5) C dX4_workFilter_52 5 rfl ?_
  refine g_aload_n (some v1) C dX4_workFilter_54 1 rfl ?_
  obtain ⟨q1, hb⟩ := hb
  obtain ⟨a2, q3, hb⟩ := hb
  refine g_getR (some a2) C fl_RX4_135 dX4_workFilter_55 q1 rfl rfl q3 ?_
  refine g_iconst (v := 0) C dX4_workFilter_58 (by decide) ?_
  obtain ⟨q4, hb⟩ := hb
  obtain ⟨q5, hb⟩ := hb
  refine g_ialdx (zAi σ a2 (ix 0)) C dX4_workFilter_59 q4 q5 rfl ?_
  obtain ⟨q6, hb⟩ := hb
  obtain ⟨q7, hb⟩ := hb
  refine g_ialdx (zAi σ v5 (ix (zAi σ a2 (ix 0)))) C dX4_workFilter_60 q6 q7 rfl ?_
  refine g_iload C dX4_workFilter_61 0 rfl ?_
  refine g_icmp_ne (tgt := 82) C dX4_workFilter_63 (by decide) (fun c => ?_) (fun c => ?_)
  ·
    replace hb := hb.1 (c)
    refine g_iinc (v := v4 + 1) (lv' := [(4, .int (v4 + 1)), (6, .int s0), (1, .ref v1), (2, .ref v2), (3, .ref v3), (5, .ref v5)]) C dX4_workFilter_82 4 rfl rfl (hnl_of hΓ (by decide)) (by first | rfl | simp [cat_rf]) ?_
    refine g_goto (tgt := 3) C dX4_workFilter_85 (by decide) ?_
    refine g_sub (lv' := [(1, .ref v1), (2, .ref v2), (3, .ref v3), (4, .int (v4 + 1))]) [2, 3, 4, 0] rfl ?_
    exact h3 _ _ _ _ _ hb
  ·
    replace hb := hb.2 (c)
    refine g_aload_n (some v3) C dX4_workFilter_66 3 rfl ?_
    refine g_aload_n (some v2) C dX4_workFilter_67 2 rfl ?_
    obtain ⟨q8, hb⟩ := hb
    obtain ⟨a9, q10, hb⟩ := hb
    refine g_getR (some a9) C fl_RX4_130 dX4_workFilter_68 q8 rfl rfl q10 ?_
    refine g_iload C dX4_workFilter_71 4 rfl ?_
    obtain ⟨q11, hb⟩ := hb
    obtain ⟨q12, hb⟩ := hb
    obtain ⟨a13, q14, hb⟩ := hb
    refine g_aald (some a13) el_25 C dX4_workFilter_73 q11 q12 q14 ?_
    obtain ⟨q15, hb⟩ := hb
    refine g_invV (ci := 3) [.ref a13] [] zy_X3_add wd_699 wd_700 wd_701 ⟨_, _, rfl⟩ (by decide) C dX4_workFilter_74 (by first | exact Nat.le_of_ble_eq_true rfl | simp [cat_rf]) (by first | exact Nat.le_of_ble_eq_true rfl | simp [cat_rf]) (by first | exact Nat.le_of_ble_eq_true rfl | simp [cat_rf]) (Nat.zero_le _) (Nat.zero_le _) rfl rfl q15 (okX3_add hb) ?_
    rintro o σ16 ⟨y17, rfl, hb⟩
    refine ⟨_, rfl, ?_⟩
    refine g_if_ne (tgt := 82) C dX4_workFilter_77 (by decide) (fun c => ?_) (fun c => ?_)
    ·
      replace hb := hb.1 (c)
      refine g_iinc (v := v4 + 1) (lv' := [(4, .int (v4 + 1)), (6, .int s0), (1, .ref v1), (2, .ref v2), (3, .ref v3), (5, .ref v5)]) C dX4_workFilter_82 4 rfl rfl (hnl_of hΓ (by decide)) (by first | rfl | simp [cat_rf]) ?_
      refine g_goto (tgt := 3) C dX4_workFilter_85 (by decide) ?_
      refine g_sub (lv' := [(1, .ref v1), (2, .ref v2), (3, .ref v3), (4, .int (v4 + 1))]) [2, 3, 4, 0] rfl ?_
      exact h3 _ _ _ _ _ hb
    ·
      replace hb := hb.2 (c)
      refine g_iconst (v := 0) C dX4_workFilter_80 (by decide) ?_
      exact g_zreturn C (by decide) hΓ (Nat.zero_le _) (Nat.zero_le _) dX4_workFilter_81 ⟨_, rfl, hb⟩
set_option maxRecDepth 20000 in
theorem kwX4_workFilter_3 {Γ : hCT} (C : hC Γ RX4 cX4_workFilter ((Option.some FieldType.boolean)) "workFilter" 3 103) {Q : Int32 → St → Prop} (hΓ : Γ.2.2.2.2.2.2.2.2.2.2.2 = (7, 0, 0, oI Q)) {r3 : Nat → Nat → Nat → Int32 → St → Prop} (h3 : ∀ (v1 : Nat) (v2 : Nat) (v3 : Nat) (v4 : Int32) (σ : St), r3 v1 v2 v3 v4 σ → hW Γ 0 0 3 [(1, .ref v1), (2, .ref v2), (3, .ref v3), (4, .int v4)] [] σ) (v1 : Nat) (v2 : Nat) (v3 : Nat) (v4 : Int32) (σ : St) (hb : wX4_workFilter_3 Q r3 v1 v2 v3 v4 σ) : hW Γ 0 0 3 [(1, .ref v1), (2, .ref v2), (3, .ref v3), (4, .int v4)] [] σ := by
  unfold wX4_workFilter_3 at hb
  refine g_iload C dX4_workFilter_3 3 rfl ?_
  refine g_aload_n (some v2) C dX4_workFilter_5 1 rfl ?_
  obtain ⟨q1, hb⟩ := hb
  refine g_getIx (zFi σ 193 v2) C fl_RX4_127 dX4_workFilter_6 q1 rfl rfl rfl ?_
  refine g_icmp_ge (tgt := 88) C dX4_workFilter_9 (by decide) (fun c => ?_) (fun c => ?_)
  ·
    replace hb := hb.1 (c)
    refine g_iconst (v := 1) C dX4_workFilter_88 (by decide) ?_
    exact g_zreturn C (by decide) hΓ (Nat.zero_le _) (Nat.zero_le _) dX4_workFilter_89 ⟨_, rfl, hb⟩
  ·
    replace hb := hb.2 (c)
    refine g_aload_n (some v2) C dX4_workFilter_12 1 rfl ?_
    obtain ⟨a2, q3, hb⟩ := hb
    refine g_getR (some a2) C fl_RX4_130 dX4_workFilter_13 q1 rfl rfl q3 ?_
    refine g_iload C dX4_workFilter_16 3 rfl ?_
    obtain ⟨q4, hb⟩ := hb
    obtain ⟨q5, hb⟩ := hb
    obtain ⟨a6, q7, hb⟩ := hb
    refine g_aald (some a6) el_25 C dX4_workFilter_18 q4 q5 q7 ?_
    obtain ⟨q8, hb⟩ := hb
    obtain ⟨a9, q10, hb⟩ := hb
    refine g_getR (some a9) C fl_RX4_134 dX4_workFilter_19 q8 rfl rfl q10 ?_
    refine g_astore (lv' := [(5, .ref a9), (1, .ref v1), (2, .ref v2), (3, .ref v3), (4, .int v4)]) (some a9) C dX4_workFilter_22 (hnl_of hΓ (by decide)) (by first | rfl | simp [cat_rf]) ?_
    refine g_aload_n (some v1) C dX4_workFilter_24 1 rfl ?_
    obtain ⟨q11, hb⟩ := hb
    refine g_getIx (zFi σ 576 v1) C fl_RX4_61 dX4_workFilter_25 q11 rfl rfl rfl ?_
    refine g_iconst (v := 1) C dX4_workFilter_28 (by decide) ?_
    refine g_icmp_ne (tgt := 41) C dX4_workFilter_29 (by decide) (fun c => ?_) (fun c => ?_)
    ·
      replace hb := hb.1 (c)
      refine g_aload (some a9) C dX4_workFilter_41 0 rfl ?_
      refine g_aload_n (some v1) C dX4_workFilter_43 1 rfl ?_
      obtain ⟨a12, q13, hb⟩ := hb
      refine g_getR (some a12) C fl_RX4_135 dX4_workFilter_44 q11 rfl rfl q13 ?_
      refine g_iconst (v := 1) C dX4_workFilter_47 (by decide) ?_
      obtain ⟨q14, hb⟩ := hb
      obtain ⟨q15, hb⟩ := hb
      refine g_ialdx (zAi σ a12 (ix 1)) C dX4_workFilter_48 q14 q15 rfl ?_
      obtain ⟨q16, hb⟩ := hb
      obtain ⟨q17, hb⟩ := hb
      refine g_ialdx (zAi σ a9 (ix (zAi σ a12 (ix 1)))) C dX4_workFilter_49 q16 q17 rfl ?_
      refine g_sub (lv' := [(1, .ref v1), (2, .ref v2), (3, .ref v3), (4, .int v4), (5, .ref a9)]) [1, 2, 3, 4, 0] rfl ?_
      exact kwX4_workFilter_50 C hΓ h3 _ _ _ _ _ _ _ hb
    ·
      replace hb := hb.2 (c)
      refine g_aload_n (some v1) C dX4_workFilter_32 1 rfl ?_
      obtain ⟨a18, q19, hb⟩ := hb
      refine g_getR (some a18) C fl_RX4_135 dX4_workFilter_33 q11 rfl rfl q19 ?_
      refine g_iconst (v := 1) C dX4_workFilter_36 (by decide) ?_
      obtain ⟨q20, hb⟩ := hb
      obtain ⟨q21, hb⟩ := hb
      refine g_ialdx (zAi σ a18 (ix 1)) C dX4_workFilter_37 q20 q21 rfl ?_
      refine g_goto (tgt := 50) C dX4_workFilter_38 (by decide) ?_
      refine g_sub (lv' := [(1, .ref v1), (2, .ref v2), (3, .ref v3), (4, .int v4), (5, .ref a9)]) [1, 2, 3, 4, 0] rfl ?_
      exact kwX4_workFilter_50 C hΓ h3 _ _ _ _ _ _ _ hb
theorem klX4_workFilter_3 {Γ : hCT} (C : hC Γ RX4 cX4_workFilter ((Option.some FieldType.boolean)) "workFilter" 3 103) {Q : Int32 → St → Prop} (hΓ : Γ.2.2.2.2.2.2.2.2.2.2.2 = (7, 0, 0, oI Q)) (f : Nat) (v1 : Nat) (v2 : Nat) (v3 : Nat) (v4 : Int32) (σ : St) (hb : lX4_workFilter_3 Q f v1 v2 v3 v4 σ) : hW Γ 0 0 3 [(1, .ref v1), (2, .ref v2), (3, .ref v3), (4, .int v4)] [] σ := by
  induction f generalizing v1 v2 v3 v4 σ with
  | zero => exact hb.elim
  | succ f ih => exact kwX4_workFilter_3 C hΓ  (fun v1 v2 v3 v4 σ h => ih v1 v2 v3 v4 σ h) _ _ _ _ _ hb
set_option maxRecDepth 20000 in
theorem kwX4_workFilter_0 {Γ : hCT} (C : hC Γ RX4 cX4_workFilter ((Option.some FieldType.boolean)) "workFilter" 3 103) {Q : Int32 → St → Prop} (hΓ : Γ.2.2.2.2.2.2.2.2.2.2.2 = (7, 0, 0, oI Q)) (v0 : Nat) (v1 : Nat) (v2 : Nat) (v3 : Nat) (σ : St) (hb : wX4_workFilter_0 Q v0 v1 v2 v3 σ) : hW Γ 0 0 0 [(0, .ref v0), (1, .ref v1), (2, .ref v2), (3, .ref v3)] [] σ := by
  unfold wX4_workFilter_0 at hb
  refine g_iconst (v := 0) C dX4_workFilter_0 (by decide) ?_
  refine g_istore (lv' := [(4, .int 0), (0, .ref v0), (1, .ref v1), (2, .ref v2), (3, .ref v3)]) C dX4_workFilter_1 (hnl_of hΓ (by decide)) (by first | rfl | simp [cat_rf]) ?_
  refine g_sub (lv' := [(1, .ref v1), (2, .ref v2), (3, .ref v3), (4, .int 0)]) [2, 3, 4, 0] rfl ?_
  obtain ⟨f1, hb⟩ := hb
  exact klX4_workFilter_3 C hΓ  f1 _ _ _ _ _ hb
theorem okX4_workFilter {v0 : Nat} {v1 : Nat} {v2 : Nat} {v3 : Nat} {σ : St} {Q : Int32 → St → Prop} (hb : wX4_workFilter v0 v1 v2 v3 σ Q) : hM yX4_workFilter cX4_workFilter 7 ((Option.some FieldType.boolean)) 3 103 0 0 [.ref v0, .ref v1, .ref v2, .ref v3] σ (oI Q) :=
  hM_of (by decide) (Nat.le_of_ble_eq_true rfl) (fun Γ hΓ C => kwX4_workFilter_0 C hΓ _ _ _ _ _ hb)
def wX4_workOut_83 (Q : Int32 → St → Prop) (v0 : Nat) (v2 : Nat) (v3 : Nat) (v4 : Nat) (s0 : Nat) (σ : St) : Prop :=
  zK σ v2 = 10 ∧ (((zFi σ 576 v2) = 3 → zK σ v0 = 5 ∧ wX4_workCut v0 v2 v4 v3 σ (fun y4 σ3 => (y4 = 0 ∨ y4 = 1) ∧ Q y4 σ3)) ∧ ((zFi σ 576 v2) = 4 → zK σ v0 = 5 ∧ wX4_workPair v0 v2 v4 s0 v3 σ (fun y9 σ8 => (y9 = 0 ∨ y9 = 1) ∧ Q y9 σ8)) ∧ ((zFi σ 576 v2) = 5 → zK σ v0 = 5 ∧ wX4_workEither v0 v4 s0 v3 σ (fun y14 σ13 => (y14 = 0 ∨ y14 = 1) ∧ Q y14 σ13)) ∧ ((zFi σ 576 v2) = 6 → zK σ v0 = 5 ∧ wX4_workClose v0 v4 v3 σ (fun y19 σ18 => (y19 = 0 ∨ y19 = 1) ∧ Q y19 σ18)) ∧ ((zFi σ 576 v2) = 7 → zK σ v0 = 5 ∧ wX4_workMost v0 v4 s0 v3 σ (fun y24 σ23 => (y24 = 0 ∨ y24 = 1) ∧ Q y24 σ23)) ∧ (¬ (zFi σ 576 v2) = 3 → ¬ (zFi σ 576 v2) = 4 → ¬ (zFi σ 576 v2) = 5 → ¬ (zFi σ 576 v2) = 6 → ¬ (zFi σ 576 v2) = 7 → zK σ v0 = 5 ∧ wX4_workFilter v0 v2 v4 v3 σ (fun y29 σ28 => (y29 = 0 ∨ y29 = 1) ∧ Q y29 σ28)))
def wX4_workOut_0 (Q : Int32 → St → Prop) (v0 : Nat) (v1 : Int32) (σ : St) : Prop :=
  zK σ v0 = 5 ∧ ∃ a2 : Nat, zFr σ 257 v0 = some a2 ∧ zK σ a2 = 27 ∧ vp_in v1 (zL σ a2) ∧ ∃ a6 : Nat, zAr σ a2 (ix v1) = some a6 ∧ ∃ a8 : Nat, zFr σ 258 v0 = some a8 ∧ zK σ a8 = 26 ∧ vp_in v1 (zL σ a8) ∧ ∃ a12 : Nat, zAr σ a8 (ix v1) = some a12 ∧ zK σ a6 = 10 ∧ zK σ a12 = 4 ∧ wX3_clear a12 (zFi σ 577 a6) σ (fun σ16 => zK σ16 v0 = 5 ∧ ∃ a18 : Nat, zFr σ16 260 v0 = some a18 ∧ zK σ16 a6 = 10 ∧ zK σ16 a18 = 4 ∧ wX3_clear a18 (zFi σ16 577 a6) σ16 (fun σ22 => zK σ22 a6 = 10 ∧ ((¬ (zFi σ22 576 a6) = 0 → zK σ22 v0 = 5 ∧ ∃ a25 : Nat, zFr σ22 258 v0 = some a25 ∧ zK σ22 a25 = 26 ∧ vp_in (zFi σ22 578 a6) (zL σ22 a25) ∧ ∃ a29 : Nat, zAr σ22 a25 (ix (zFi σ22 578 a6)) = some a29 ∧ ((¬ (zFi σ22 579 a6) = ((-1) : Int32) → vp_in (zFi σ22 579 a6) (zL σ22 a25) ∧ ∃ a32 : Nat, zAr σ22 a25 (ix (zFi σ22 579 a6)) = some a32 ∧ wX4_workOut_83 Q v0 a6 a12 a29 a32 σ22) ∧ ((zFi σ22 579 a6) = ((-1) : Int32) → wX4_workOut_83 Q v0 a6 a12 a29 a29 σ22))) ∧ ((zFi σ22 576 a6) = 0 → zK σ22 v0 = 5 ∧ wX4_workBase v0 (zFi σ22 578 a6) a12 σ22 (fun y36 σ35 => (y36 = 0 ∨ y36 = 1) ∧ Q y36 σ35)))))
def wX4_workOut (v0 : Nat) (v1 : Int32) (σ : St) (Q : Int32 → St → Prop) : Prop := wX4_workOut_0 Q v0 v1 σ
set_option maxRecDepth 20000 in
theorem kwX4_workOut_83 {Γ : hCT} (C : hC Γ RX4 cX4_workOut ((Option.some FieldType.boolean)) "workOut" 5 154) {Q : Int32 → St → Prop} (hΓ : Γ.2.2.2.2.2.2.2.2.2.2.2 = (6, 0, 0, oI Q)) (v0 : Nat) (v2 : Nat) (v3 : Nat) (v4 : Nat) (s0 : Nat) (σ : St) (hb : wX4_workOut_83 Q v0 v2 v3 v4 s0 σ) : hW Γ 0 0 83 [(0, .ref v0), (2, .ref v2), (3, .ref v3), (4, .ref v4)] [.ref s0] σ := by
  unfold wX4_workOut_83 at hb
  refine g_astore (lv' := [(5, .ref s0), (0, .ref v0), (2, .ref v2), (3, .ref v3), (4, .ref v4)]) (some s0) C dX4_workOut_83 (hnl_of hΓ (by decide)) (by first | rfl | simp [cat_rf]) ?_
  refine g_aload_n (some v2) C dX4_workOut_85 2 rfl ?_
  obtain ⟨q1, hb⟩ := hb
  refine g_getIx (zFi σ 576 v2) C fl_RX4_61 dX4_workOut_86 q1 rfl rfl rfl ?_
  by_cases c6 : (zFi σ 576 v2) = 3
  ·
    replace hb := hb.1 c6
    refine g_tabIn (tgt := 124) (off := 35) C dX4_workOut_89 (by rw [c6]; decide) (by rw [c6]; decide) (by rw [c6]; rfl) (by decide) ?_
    refine g_aload_n (some v0) C dX4_workOut_124 1 rfl ?_
    refine g_aload_n (some v2) C dX4_workOut_125 2 rfl ?_
    refine g_aload (some v4) C dX4_workOut_126 4 rfl ?_
    refine g_aload_n (some v3) C dX4_workOut_128 3 rfl ?_
    obtain ⟨q2, hb⟩ := hb
    refine g_invV (ci := 4) [.ref v2, .ref v4, .ref v3] [] zy_X4_workCut wd_665 wd_667 wd_13 ⟨_, _, rfl⟩ (by decide) C dX4_workOut_129 (by first | exact Nat.le_of_ble_eq_true rfl | simp [cat_rf]) (by first | exact Nat.le_of_ble_eq_true rfl | simp [cat_rf]) (by first | exact Nat.le_of_ble_eq_true rfl | simp [cat_rf]) (Nat.zero_le _) (Nat.zero_le _) rfl rfl q2 (okX4_workCut hb) ?_
    rintro o σ3 ⟨y4, rfl, hb⟩
    refine ⟨_, rfl, ?_⟩
    obtain ⟨q5, hb⟩ := hb
    exact g_zreturn C (nz_n q5) hΓ (Nat.zero_le _) (Nat.zero_le _) dX4_workOut_132 ⟨_, rfl, hb⟩
  ·
    by_cases c11 : (zFi σ 576 v2) = 4
    ·
      replace hb := hb.2.1 c11
      refine g_tabIn (tgt := 133) (off := 44) C dX4_workOut_89 (by rw [c11]; decide) (by rw [c11]; decide) (by rw [c11]; rfl) (by decide) ?_
      refine g_aload_n (some v0) C dX4_workOut_133 1 rfl ?_
      refine g_aload_n (some v2) C dX4_workOut_134 2 rfl ?_
      refine g_aload (some v4) C dX4_workOut_135 4 rfl ?_
      refine g_aload (some s0) C dX4_workOut_137 0 rfl ?_
      refine g_aload_n (some v3) C dX4_workOut_139 3 rfl ?_
      obtain ⟨q7, hb⟩ := hb
      refine g_invV (ci := 4) [.ref v2, .ref v4, .ref s0, .ref v3] [] zy_X4_workPair wd_673 wd_675 wd_14 ⟨_, _, rfl⟩ (by decide) C dX4_workOut_140 (by first | exact Nat.le_of_ble_eq_true rfl | simp [cat_rf]) (by first | exact Nat.le_of_ble_eq_true rfl | simp [cat_rf]) (by first | exact Nat.le_of_ble_eq_true rfl | simp [cat_rf]) (Nat.zero_le _) (Nat.zero_le _) rfl rfl q7 (okX4_workPair hb) ?_
      rintro o σ8 ⟨y9, rfl, hb⟩
      refine ⟨_, rfl, ?_⟩
      obtain ⟨q10, hb⟩ := hb
      exact g_zreturn C (nz_n q10) hΓ (Nat.zero_le _) (Nat.zero_le _) dX4_workOut_143 ⟨_, rfl, hb⟩
    ·
      by_cases c16 : (zFi σ 576 v2) = 5
      ·
        replace hb := hb.2.2.1 c16
        refine g_tabIn (tgt := 144) (off := 55) C dX4_workOut_89 (by rw [c16]; decide) (by rw [c16]; decide) (by rw [c16]; rfl) (by decide) ?_
        refine g_aload_n (some v0) C dX4_workOut_144 1 rfl ?_
        refine g_aload (some v4) C dX4_workOut_145 4 rfl ?_
        refine g_aload (some s0) C dX4_workOut_147 0 rfl ?_
        refine g_aload_n (some v3) C dX4_workOut_149 3 rfl ?_
        obtain ⟨q12, hb⟩ := hb
        refine g_invV (ci := 4) [.ref v4, .ref s0, .ref v3] [] zy_X4_workEither wd_695 wd_697 wd_16 ⟨_, _, rfl⟩ (by decide) C dX4_workOut_150 (by first | exact Nat.le_of_ble_eq_true rfl | simp [cat_rf]) (by first | exact Nat.le_of_ble_eq_true rfl | simp [cat_rf]) (by first | exact Nat.le_of_ble_eq_true rfl | simp [cat_rf]) (Nat.zero_le _) (Nat.zero_le _) rfl rfl q12 (okX4_workEither hb) ?_
        rintro o σ13 ⟨y14, rfl, hb⟩
        refine ⟨_, rfl, ?_⟩
        obtain ⟨q15, hb⟩ := hb
        exact g_zreturn C (nz_n q15) hΓ (Nat.zero_le _) (Nat.zero_le _) dX4_workOut_153 ⟨_, rfl, hb⟩
      ·
        by_cases c21 : (zFi σ 576 v2) = 6
        ·
          replace hb := hb.2.2.2.1 c21
          refine g_tabIn (tgt := 154) (off := 65) C dX4_workOut_89 (by rw [c21]; decide) (by rw [c21]; decide) (by rw [c21]; rfl) (by decide) ?_
          refine g_aload_n (some v0) C dX4_workOut_154 1 rfl ?_
          refine g_aload (some v4) C dX4_workOut_155 4 rfl ?_
          refine g_aload_n (some v3) C dX4_workOut_157 3 rfl ?_
          obtain ⟨q17, hb⟩ := hb
          refine g_invV (ci := 4) [.ref v4, .ref v3] [] zy_X4_workClose wd_704 wd_706 wd_17 ⟨_, _, rfl⟩ (by decide) C dX4_workOut_158 (by first | exact Nat.le_of_ble_eq_true rfl | simp [cat_rf]) (by first | exact Nat.le_of_ble_eq_true rfl | simp [cat_rf]) (by first | exact Nat.le_of_ble_eq_true rfl | simp [cat_rf]) (Nat.zero_le _) (Nat.zero_le _) rfl rfl q17 (okX4_workClose hb) ?_
          rintro o σ18 ⟨y19, rfl, hb⟩
          refine ⟨_, rfl, ?_⟩
          obtain ⟨q20, hb⟩ := hb
          exact g_zreturn C (nz_n q20) hΓ (Nat.zero_le _) (Nat.zero_le _) dX4_workOut_161 ⟨_, rfl, hb⟩
        ·
          by_cases c26 : (zFi σ 576 v2) = 7
          ·
            replace hb := hb.2.2.2.2.1 c26
            refine g_tabIn (tgt := 162) (off := 73) C dX4_workOut_89 (by rw [c26]; decide) (by rw [c26]; decide) (by rw [c26]; rfl) (by decide) ?_
            refine g_aload_n (some v0) C dX4_workOut_162 1 rfl ?_
            refine g_aload (some v4) C dX4_workOut_163 4 rfl ?_
            refine g_aload (some s0) C dX4_workOut_165 0 rfl ?_
            refine g_aload_n (some v3) C dX4_workOut_167 3 rfl ?_
            obtain ⟨q22, hb⟩ := hb
            refine g_invV (ci := 4) [.ref v4, .ref s0, .ref v3] [] zy_X4_workMost wd_746 wd_748 wd_23 ⟨_, _, rfl⟩ (by decide) C dX4_workOut_168 (by first | exact Nat.le_of_ble_eq_true rfl | simp [cat_rf]) (by first | exact Nat.le_of_ble_eq_true rfl | simp [cat_rf]) (by first | exact Nat.le_of_ble_eq_true rfl | simp [cat_rf]) (Nat.zero_le _) (Nat.zero_le _) rfl rfl q22 (okX4_workMost hb) ?_
            rintro o σ23 ⟨y24, rfl, hb⟩
            refine ⟨_, rfl, ?_⟩
            obtain ⟨q25, hb⟩ := hb
            exact g_zreturn C (nz_n q25) hΓ (Nat.zero_le _) (Nat.zero_le _) dX4_workOut_171 ⟨_, rfl, hb⟩
          ·
            replace hb := hb.2.2.2.2.2 c6 c11 c16 c21 c26
            have hz : Int32.toInt (zFi σ 576 v2) < 3 ∨ 7 < Int32.toInt (zFi σ 576 v2) := by
              have h_c6 := i32_ne c6
              have h_c11 := i32_ne c11
              have h_c16 := i32_ne c16
              have h_c21 := i32_ne c21
              have h_c26 := i32_ne c26
              rw [show Int32.toInt 3 = 3 from rfl] at h_c6; rw [show Int32.toInt 4 = 4 from rfl] at h_c11; rw [show Int32.toInt 5 = 5 from rfl] at h_c16; rw [show Int32.toInt 6 = 6 from rfl] at h_c21; rw [show Int32.toInt 7 = 7 from rfl] at h_c26
              omega
            refine g_tabOut (tgt := 172) C dX4_workOut_89 hz (by decide) ?_
            refine g_aload_n (some v0) C dX4_workOut_172 1 rfl ?_
            refine g_aload_n (some v2) C dX4_workOut_173 2 rfl ?_
            refine g_aload (some v4) C dX4_workOut_174 4 rfl ?_
            refine g_aload_n (some v3) C dX4_workOut_176 3 rfl ?_
            obtain ⟨q27, hb⟩ := hb
            refine g_invV (ci := 4) [.ref v2, .ref v4, .ref v3] [] zy_X4_workFilter wd_760 wd_762 wd_24 ⟨_, _, rfl⟩ (by decide) C dX4_workOut_177 (by first | exact Nat.le_of_ble_eq_true rfl | simp [cat_rf]) (by first | exact Nat.le_of_ble_eq_true rfl | simp [cat_rf]) (by first | exact Nat.le_of_ble_eq_true rfl | simp [cat_rf]) (Nat.zero_le _) (Nat.zero_le _) rfl rfl q27 (okX4_workFilter hb) ?_
            rintro o σ28 ⟨y29, rfl, hb⟩
            refine ⟨_, rfl, ?_⟩
            obtain ⟨q30, hb⟩ := hb
            exact g_zreturn C (nz_n q30) hΓ (Nat.zero_le _) (Nat.zero_le _) dX4_workOut_180 ⟨_, rfl, hb⟩
set_option maxRecDepth 20000 in
theorem kwX4_workOut_0 {Γ : hCT} (C : hC Γ RX4 cX4_workOut ((Option.some FieldType.boolean)) "workOut" 5 154) {Q : Int32 → St → Prop} (hΓ : Γ.2.2.2.2.2.2.2.2.2.2.2 = (6, 0, 0, oI Q)) (v0 : Nat) (v1 : Int32) (σ : St) (hb : wX4_workOut_0 Q v0 v1 σ) : hW Γ 0 0 0 [(0, .ref v0), (1, .int v1)] [] σ := by
  unfold wX4_workOut_0 at hb
  refine g_aload_n (some v0) C dX4_workOut_0 0 rfl ?_
  obtain ⟨q1, hb⟩ := hb
  obtain ⟨a2, q3, hb⟩ := hb
  refine g_getR (some a2) C fl_RX4_45 dX4_workOut_1 q1 rfl rfl q3 ?_
  refine g_iload_n C dX4_workOut_4 1 rfl ?_
  obtain ⟨q4, hb⟩ := hb
  obtain ⟨q5, hb⟩ := hb
  obtain ⟨a6, q7, hb⟩ := hb
  refine g_aald (some a6) el_27 C dX4_workOut_5 q4 q5 q7 ?_
  refine g_astore_n (i := 2) (lv' := [(2, .ref a6), (0, .ref v0), (1, .int v1)]) (some a6) C dX4_workOut_6 rfl (hnl_of hΓ (by decide)) (by first | rfl | simp [cat_rf]) ?_
  refine g_aload_n (some v0) C dX4_workOut_7 1 rfl ?_
  obtain ⟨a8, q9, hb⟩ := hb
  refine g_getR (some a8) C fl_RX4_11 dX4_workOut_8 q1 rfl rfl q9 ?_
  refine g_iload_n C dX4_workOut_11 2 rfl ?_
  obtain ⟨q10, hb⟩ := hb
  obtain ⟨q11, hb⟩ := hb
  obtain ⟨a12, q13, hb⟩ := hb
  refine g_aald (some a12) el_26 C dX4_workOut_12 q10 q11 q13 ?_
  refine g_astore_n (i := 3) (lv' := [(3, .ref a12), (2, .ref a6), (0, .ref v0), (1, .int v1)]) (some a12) C dX4_workOut_13 rfl (hnl_of hΓ (by decide)) (by first | rfl | simp [cat_rf]) ?_
  refine g_aload_n (some a12) C dX4_workOut_14 0 rfl ?_
  refine g_aload_n (some a6) C dX4_workOut_15 1 rfl ?_
  obtain ⟨q14, hb⟩ := hb
  refine g_getIx (zFi σ 577 a6) C fl_RX4_73 dX4_workOut_16 q14 rfl rfl rfl ?_
  obtain ⟨q15, hb⟩ := hb
  refine g_invV (ci := 3) [.int (zFi σ 577 a6)] [] zy_X3_clear wd_591 wd_592 wd_593 ⟨_, _, rfl⟩ (by decide) C dX4_workOut_19 (by first | exact Nat.le_of_ble_eq_true rfl | simp [cat_rf]) (by first | exact Nat.le_of_ble_eq_true rfl | simp [cat_rf]) (by first | exact Nat.le_of_ble_eq_true rfl | simp [cat_rf]) (Nat.zero_le _) (Nat.zero_le _) rfl rfl q15 (okX3_clear hb) ?_
  rintro o σ16 ⟨rfl, hb⟩
  refine ⟨_, rfl, ?_⟩
  refine g_aload_n (some v0) C dX4_workOut_22 2 rfl ?_
  obtain ⟨q17, hb⟩ := hb
  obtain ⟨a18, q19, hb⟩ := hb
  refine g_getR (some a18) C fl_RX4_27 dX4_workOut_23 q17 rfl rfl q19 ?_
  refine g_aload_n (some a6) C dX4_workOut_26 1 rfl ?_
  obtain ⟨q20, hb⟩ := hb
  refine g_getIx (zFi σ16 577 a6) C fl_RX4_73 dX4_workOut_27 q20 rfl rfl rfl ?_
  obtain ⟨q21, hb⟩ := hb
  refine g_invV (ci := 3) [.int (zFi σ16 577 a6)] [] zy_X3_clear wd_591 wd_592 wd_593 ⟨_, _, rfl⟩ (by decide) C dX4_workOut_30 (by first | exact Nat.le_of_ble_eq_true rfl | simp [cat_rf]) (by first | exact Nat.le_of_ble_eq_true rfl | simp [cat_rf]) (by first | exact Nat.le_of_ble_eq_true rfl | simp [cat_rf]) (Nat.zero_le _) (Nat.zero_le _) rfl rfl q21 (okX3_clear hb) ?_
  rintro o σ22 ⟨rfl, hb⟩
  refine ⟨_, rfl, ?_⟩
  refine g_aload_n (some a6) C dX4_workOut_33 1 rfl ?_
  obtain ⟨q23, hb⟩ := hb
  refine g_getIx (zFi σ22 576 a6) C fl_RX4_61 dX4_workOut_34 q23 rfl rfl rfl ?_
  refine g_if_ne (tgt := 50) C dX4_workOut_37 (by decide) (fun c => ?_) (fun c => ?_)
  ·
    replace hb := hb.1 (c)
    refine g_aload_n (some v0) C dX4_workOut_50 2 rfl ?_
    obtain ⟨q24, hb⟩ := hb
    obtain ⟨a25, q26, hb⟩ := hb
    refine g_getR (some a25) C fl_RX4_11 dX4_workOut_51 q24 rfl rfl q26 ?_
    refine g_aload_n (some a6) C dX4_workOut_54 1 rfl ?_
    refine g_getIx (zFi σ22 578 a6) C fl_RX4_67 dX4_workOut_55 q23 rfl rfl rfl ?_
    obtain ⟨q27, hb⟩ := hb
    obtain ⟨q28, hb⟩ := hb
    obtain ⟨a29, q30, hb⟩ := hb
    refine g_aald (some a29) el_26 C dX4_workOut_58 q27 q28 q30 ?_
    refine g_astore (lv' := [(4, .ref a29), (3, .ref a12), (2, .ref a6), (0, .ref v0), (1, .int v1)]) (some a29) C dX4_workOut_59 (hnl_of hΓ (by decide)) (by first | rfl | simp [cat_rf]) ?_
    refine g_aload_n (some a6) C dX4_workOut_61 2 rfl ?_
    refine g_getIx (zFi σ22 579 a6) C fl_RX4_70 dX4_workOut_62 q23 rfl rfl rfl ?_
    refine g_iconst (v := (-1)) C dX4_workOut_65 (by decide) ?_
    refine g_icmp_ne (tgt := 74) C dX4_workOut_66 (by decide) (fun c => ?_) (fun c => ?_)
    ·
      replace hb := hb.1 (c)
      refine g_aload_n (some v0) C dX4_workOut_74 3 rfl ?_
      refine g_getR (some a25) C fl_RX4_11 dX4_workOut_75 q24 rfl rfl q26 ?_
      refine g_aload_n (some a6) C dX4_workOut_78 2 rfl ?_
      refine g_getIx (zFi σ22 579 a6) C fl_RX4_70 dX4_workOut_79 q23 rfl rfl rfl ?_
      obtain ⟨q31, hb⟩ := hb
      obtain ⟨a32, q33, hb⟩ := hb
      refine g_aald (some a32) el_26 C dX4_workOut_82 q27 q31 q33 ?_
      refine g_sub (lv' := [(0, .ref v0), (2, .ref a6), (3, .ref a12), (4, .ref a29)]) [3, 2, 1, 0] rfl ?_
      exact kwX4_workOut_83 C hΓ  _ _ _ _ _ _ hb
    ·
      replace hb := hb.2 (c)
      refine g_aload (some a29) C dX4_workOut_69 0 rfl ?_
      refine g_goto (tgt := 83) C dX4_workOut_71 (by decide) ?_
      refine g_sub (lv' := [(0, .ref v0), (2, .ref a6), (3, .ref a12), (4, .ref a29)]) [3, 2, 1, 0] rfl ?_
      exact kwX4_workOut_83 C hΓ  _ _ _ _ _ _ hb
  ·
    replace hb := hb.2 (c)
    refine g_aload_n (some v0) C dX4_workOut_40 2 rfl ?_
    refine g_aload_n (some a6) C dX4_workOut_41 1 rfl ?_
    refine g_getIx (zFi σ22 578 a6) C fl_RX4_67 dX4_workOut_42 q23 rfl rfl rfl ?_
    refine g_aload_n (some a12) C dX4_workOut_45 0 rfl ?_
    obtain ⟨q34, hb⟩ := hb
    refine g_invV (ci := 4) [.int (zFi σ22 578 a6), .ref a12] [] zy_X4_workBase wd_595 wd_597 wd_10 ⟨_, _, rfl⟩ (by decide) C dX4_workOut_46 (by first | exact Nat.le_of_ble_eq_true rfl | simp [cat_rf]) (by first | exact Nat.le_of_ble_eq_true rfl | simp [cat_rf]) (by first | exact Nat.le_of_ble_eq_true rfl | simp [cat_rf]) (Nat.zero_le _) (Nat.zero_le _) rfl rfl q34 (okX4_workBase hb) ?_
    rintro o σ35 ⟨y36, rfl, hb⟩
    refine ⟨_, rfl, ?_⟩
    obtain ⟨q37, hb⟩ := hb
    exact g_zreturn C (nz_n q37) hΓ (Nat.zero_le _) (Nat.zero_le _) dX4_workOut_49 ⟨_, rfl, hb⟩
theorem okX4_workOut {v0 : Nat} {v1 : Int32} {σ : St} {Q : Int32 → St → Prop} (hb : wX4_workOut v0 v1 σ Q) : hM yX4_workOut cX4_workOut 6 ((Option.some FieldType.boolean)) 5 154 0 0 [.ref v0, .int v1] σ (oI Q) :=
  hM_of (by decide) (Nat.le_of_ble_eq_true rfl) (fun Γ hΓ C => kwX4_workOut_0 C hΓ _ _ _ hb)
def wX4_answersTo_9 (Q : Option Nat → St → Prop) (r9 : Nat → Int32 → Int64 → Int32 → St → Prop) (v0 : Nat) (v1 : Int32) (v2 : Int64) (v4 : Int32) (σ : St) : Prop :=
  ((v1 < v4 → zK σ v0 = 5 ∧ ∃ a2 : Nat, zFr σ 258 v0 = some a2 ∧ zK σ a2 = 26 ∧ vp_in v1 (zL σ a2) ∧ ∃ a6 : Nat, zAr σ a2 (ix v1) = some a6 ∧ Q (some a6) σ) ∧ (¬ v1 < v4 → wX11_has v2 v4 σ (fun y9 σ8 => ((y9 = 0 → r9 v0 v1 v2 (v4 + 1) σ8) ∧ (¬ y9 = 0 → zK σ8 v0 = 5 ∧ wX4_workOut v0 v4 σ8 (fun y12 σ11 => ((¬ y12 = 0 → r9 v0 v1 v2 (v4 + 1) σ11) ∧ (y12 = 0 → Q none σ11))))))))
def lX4_answersTo_9 (Q : Option Nat → St → Prop) : Nat → Nat → Int32 → Int64 → Int32 → St → Prop
  | 0, _, _, _, _, _ => False
  | f + 1, v0, v1, v2, v4, σ => wX4_answersTo_9 Q (lX4_answersTo_9 Q f) v0 v1 v2 v4 σ
def wX4_answersTo_0 (Q : Option Nat → St → Prop) (v0 : Nat) (v1 : Int32) (σ : St) : Prop :=
  zK σ v0 = 5 ∧ wX4_allWithin v0 v1 σ (fun y3 σ2 => ∃ f, lX4_answersTo_9 Q f v0 v1 y3 0 σ2)
def wX4_answersTo (v0 : Nat) (v1 : Int32) (σ : St) (Q : Option Nat → St → Prop) : Prop := wX4_answersTo_0 Q v0 v1 σ
set_option maxRecDepth 20000 in
theorem kwX4_answersTo_9 {Γ : hCT} (C : hC Γ RX4 cX4_answersTo ((Option.some (FieldType.object RX3))) "answersTo" 6 179) {Q : Option Nat → St → Prop} (hΓ : Γ.2.2.2.2.2.2.2.2.2.2.2 = (5, 0, 0, oO Q)) {r9 : Nat → Int32 → Int64 → Int32 → St → Prop} (h9 : ∀ (v0 : Nat) (v1 : Int32) (v2 : Int64) (v4 : Int32) (σ : St), r9 v0 v1 v2 v4 σ → hW Γ 0 0 9 [(0, .ref v0), (1, .int v1), (2, .long v2), (4, .int v4)] [] σ) (v0 : Nat) (v1 : Int32) (v2 : Int64) (v4 : Int32) (σ : St) (hb : wX4_answersTo_9 Q r9 v0 v1 v2 v4 σ) : hW Γ 0 0 9 [(0, .ref v0), (1, .int v1), (2, .long v2), (4, .int v4)] [] σ := by
  unfold wX4_answersTo_9 at hb
  refine g_iload C dX4_answersTo_9 3 rfl ?_
  refine g_iload_n C dX4_answersTo_11 1 rfl ?_
  refine g_icmp_gt (tgt := 41) C dX4_answersTo_12 (by decide) (fun c => ?_) (fun c => ?_)
  ·
    replace hb := hb.1 (c)
    refine g_aload_n (some v0) C dX4_answersTo_41 0 rfl ?_
    obtain ⟨q1, hb⟩ := hb
    obtain ⟨a2, q3, hb⟩ := hb
    refine g_getR (some a2) C fl_RX4_11 dX4_answersTo_42 q1 rfl rfl q3 ?_
    refine g_iload_n C dX4_answersTo_45 1 rfl ?_
    obtain ⟨q4, hb⟩ := hb
    obtain ⟨q5, hb⟩ := hb
    obtain ⟨a6, q7, hb⟩ := hb
    refine g_aald (some a6) el_26 C dX4_answersTo_46 q4 q5 q7 ?_
    exact g_areturn (some a6) (Or.inl ⟨_, rfl⟩) C hΓ (Nat.zero_le _) (Nat.zero_le _) dX4_answersTo_47 ⟨_, rfl, hb⟩
  ·
    replace hb := hb.2 (c)
    refine g_lload_n C dX4_answersTo_15 2 rfl ?_
    refine g_iload C dX4_answersTo_16 3 rfl ?_
    refine g_invSN [.long v2, .int v4] [] zy_X11_has wn_586 wd_442 C dX4_answersTo_18 (by first | exact Nat.le_of_ble_eq_true rfl | simp [cat_rf]) (by first | exact Nat.le_of_ble_eq_true rfl | simp [cat_rf]) (by first | exact Nat.le_of_ble_eq_true rfl | simp [cat_rf]) (Nat.zero_le _) (Nat.zero_le _) rfl rfl  (okX11_has hb) ?_
    rintro o σ8 ⟨y9, rfl, hb⟩
    refine ⟨_, rfl, ?_⟩
    refine g_if_eq (tgt := 35) C dX4_answersTo_21 (by decide) (fun c => ?_) (fun c => ?_)
    ·
      replace hb := hb.1 (c)
      refine g_iinc (v := v4 + 1) (lv' := [(4, .int (v4 + 1)), (0, .ref v0), (1, .int v1), (2, .long v2)]) C dX4_answersTo_35 3 rfl rfl (hnl_of hΓ (by decide)) (by first | rfl | simp [cat_rf]) ?_
      refine g_goto (tgt := 9) C dX4_answersTo_38 (by decide) ?_
      refine g_sub (lv' := [(0, .ref v0), (1, .int v1), (2, .long v2), (4, .int (v4 + 1))]) [1, 2, 3, 0] rfl ?_
      exact h9 _ _ _ _ _ hb
    ·
      replace hb := hb.2 (c)
      refine g_aload_n (some v0) C dX4_answersTo_24 0 rfl ?_
      refine g_iload C dX4_answersTo_25 3 rfl ?_
      obtain ⟨q10, hb⟩ := hb
      refine g_invV (ci := 4) [.int v4] [] zy_X4_workOut wd_587 wd_589 wd_9 ⟨_, _, rfl⟩ (by decide) C dX4_answersTo_27 (by first | exact Nat.le_of_ble_eq_true rfl | simp [cat_rf]) (by first | exact Nat.le_of_ble_eq_true rfl | simp [cat_rf]) (by first | exact Nat.le_of_ble_eq_true rfl | simp [cat_rf]) (Nat.zero_le _) (Nat.zero_le _) rfl rfl q10 (okX4_workOut hb) ?_
      rintro o σ11 ⟨y12, rfl, hb⟩
      refine ⟨_, rfl, ?_⟩
      refine g_if_ne (tgt := 35) C dX4_answersTo_30 (by decide) (fun c => ?_) (fun c => ?_)
      ·
        replace hb := hb.1 (c)
        refine g_iinc (v := v4 + 1) (lv' := [(4, .int (v4 + 1)), (0, .ref v0), (1, .int v1), (2, .long v2)]) C dX4_answersTo_35 3 rfl rfl (hnl_of hΓ (by decide)) (by first | rfl | simp [cat_rf]) ?_
        refine g_goto (tgt := 9) C dX4_answersTo_38 (by decide) ?_
        refine g_sub (lv' := [(0, .ref v0), (1, .int v1), (2, .long v2), (4, .int (v4 + 1))]) [1, 2, 3, 0] rfl ?_
        exact h9 _ _ _ _ _ hb
      ·
        replace hb := hb.2 (c)
        refine g_null C dX4_answersTo_33 ?_
        exact g_areturn none (Or.inl ⟨_, rfl⟩) C hΓ (Nat.zero_le _) (Nat.zero_le _) dX4_answersTo_34 ⟨_, rfl, hb⟩
theorem klX4_answersTo_9 {Γ : hCT} (C : hC Γ RX4 cX4_answersTo ((Option.some (FieldType.object RX3))) "answersTo" 6 179) {Q : Option Nat → St → Prop} (hΓ : Γ.2.2.2.2.2.2.2.2.2.2.2 = (5, 0, 0, oO Q)) (f : Nat) (v0 : Nat) (v1 : Int32) (v2 : Int64) (v4 : Int32) (σ : St) (hb : lX4_answersTo_9 Q f v0 v1 v2 v4 σ) : hW Γ 0 0 9 [(0, .ref v0), (1, .int v1), (2, .long v2), (4, .int v4)] [] σ := by
  induction f generalizing v0 v1 v2 v4 σ with
  | zero => exact hb.elim
  | succ f ih => exact kwX4_answersTo_9 C hΓ  (fun v0 v1 v2 v4 σ h => ih v0 v1 v2 v4 σ h) _ _ _ _ _ hb
set_option maxRecDepth 20000 in
theorem kwX4_answersTo_0 {Γ : hCT} (C : hC Γ RX4 cX4_answersTo ((Option.some (FieldType.object RX3))) "answersTo" 6 179) {Q : Option Nat → St → Prop} (hΓ : Γ.2.2.2.2.2.2.2.2.2.2.2 = (5, 0, 0, oO Q)) (v0 : Nat) (v1 : Int32) (σ : St) (hb : wX4_answersTo_0 Q v0 v1 σ) : hW Γ 0 0 0 [(0, .ref v0), (1, .int v1)] [] σ := by
  unfold wX4_answersTo_0 at hb
  refine g_aload_n (some v0) C dX4_answersTo_0 0 rfl ?_
  refine g_iload_n C dX4_answersTo_1 1 rfl ?_
  obtain ⟨q1, hb⟩ := hb
  refine g_invV (ci := 4) [.int v1] [] zy_X4_allWithin wd_582 wd_584 wd_8 ⟨_, _, rfl⟩ (by decide) C dX4_answersTo_2 (by first | exact Nat.le_of_ble_eq_true rfl | simp [cat_rf]) (by first | exact Nat.le_of_ble_eq_true rfl | simp [cat_rf]) (by first | exact Nat.le_of_ble_eq_true rfl | simp [cat_rf]) (Nat.zero_le _) (Nat.zero_le _) rfl rfl q1 (okX4_allWithin hb) ?_
  rintro o σ2 ⟨y3, rfl, hb⟩
  refine ⟨_, rfl, ?_⟩
  refine g_lstore_n (i := 2) (lv' := [(2, .long y3), (0, .ref v0), (1, .int v1)]) C dX4_answersTo_5 rfl (hnl_of hΓ (by decide)) (by first | rfl | simp [cat_rf]) ?_
  refine g_iconst (v := 0) C dX4_answersTo_6 (by decide) ?_
  refine g_istore (lv' := [(4, .int 0), (2, .long y3), (0, .ref v0), (1, .int v1)]) C dX4_answersTo_7 (hnl_of hΓ (by decide)) (by first | rfl | simp [cat_rf]) ?_
  refine g_sub (lv' := [(0, .ref v0), (1, .int v1), (2, .long y3), (4, .int 0)]) [2, 3, 1, 0] rfl ?_
  obtain ⟨f4, hb⟩ := hb
  exact klX4_answersTo_9 C hΓ  f4 _ _ _ _ _ hb
theorem okX4_answersTo {v0 : Nat} {v1 : Int32} {σ : St} {Q : Option Nat → St → Prop} (hb : wX4_answersTo v0 v1 σ Q) : hM yX4_answersTo cX4_answersTo 5 ((Option.some (FieldType.object RX3))) 6 179 0 0 [.ref v0, .int v1] σ (oO Q) :=
  hM_of (by decide) (Nat.le_of_ble_eq_true rfl) (fun Γ hΓ C => kwX4_answersTo_0 C hΓ _ _ _ hb)
def wX11_ask_0 (Q : Int32 → St → Prop) (v0 : Nat) (v1 : Int32) (σ : St) : Prop :=
  zK σ v0 = 12 ∧ wX11_isQuestion v0 v1 σ (fun y3 σ2 => ((¬ y3 = 0 → zK σ2 v0 = 12 ∧ ∃ a5 : Nat, zFr σ2 707 v0 = some a5 ∧ zK σ2 a5 = 5 ∧ wX4_answersTo a5 v1 σ2 (fun y9 σ8 => ((y9 = none → zK σ8 v0 = 12 ∧ wX11_refused v0 5 σ8 (fun y13 σ12 => Q y13 σ12)) ∧ (∀ a10 : Nat, y9 = some a10 → zK σ8 v0 = 12 ∧ ∃ a15 : Nat, zFr σ8 708 v0 = some a15 ∧ zK σ8 a15 = 4 ∧ wX3_takeAll a15 a10 σ8 (fun σ18 => zK σ18 v0 = 12 ∧ ∃ a20 : Nat, zFr σ18 705 v0 = some a20 ∧ zK σ18 a20 = 27 ∧ vp_in v1 (zL σ18 a20) ∧ ∃ a24 : Nat, zAr σ18 a20 (ix v1) = some a24 ∧ zK σ18 a24 = 10 ∧ (zFi σ18 580 a24 = 0 ∨ zFi σ18 580 a24 = 1) ∧ ∃ a28 : Nat, zFr σ18 708 v0 = some a28 ∧ zK σ18 a28 = 4 ∧ Q (zFi (uFi (uFi σ18 709 v0 (zFi σ18 580 a24)) 714 v0 0) 193 a28) (uFi (uFi σ18 709 v0 (zFi σ18 580 a24)) 714 v0 0)))))) ∧ (y3 = 0 → zK σ2 v0 = 12 ∧ wX11_refused v0 1 σ2 (fun y33 σ32 => Q y33 σ32))))
def wX11_ask (v0 : Nat) (v1 : Int32) (σ : St) (Q : Int32 → St → Prop) : Prop := wX11_ask_0 Q v0 v1 σ
set_option maxRecDepth 20000 in
theorem kwX11_ask_0 {Γ : hCT} (C : hC Γ RX11 cX11_ask ((Option.some FieldType.int)) "ask" 7 203) {Q : Int32 → St → Prop} (hΓ : Γ.2.2.2.2.2.2.2.2.2.2.2 = (3, 0, 0, oI Q)) (v0 : Nat) (v1 : Int32) (σ : St) (hb : wX11_ask_0 Q v0 v1 σ) : hW Γ 0 0 0 [(0, .ref v0), (1, .int v1)] [] σ := by
  unfold wX11_ask_0 at hb
  refine g_aload_n (some v0) C dX11_ask_0 0 rfl ?_
  refine g_iload_n C dX11_ask_1 1 rfl ?_
  obtain ⟨q1, hb⟩ := hb
  refine g_invV (ci := 11) [.int v1] [] zy_X11_isQuestion wd_518 wd_520 wd_3 ⟨_, _, rfl⟩ (by decide) C dX11_ask_2 (by first | exact Nat.le_of_ble_eq_true rfl | simp [cat_rf]) (by first | exact Nat.le_of_ble_eq_true rfl | simp [cat_rf]) (by first | exact Nat.le_of_ble_eq_true rfl | simp [cat_rf]) (Nat.zero_le _) (Nat.zero_le _) rfl rfl q1 (okX11_isQuestion hb) ?_
  rintro o σ2 ⟨y3, rfl, hb⟩
  refine ⟨_, rfl, ?_⟩
  refine g_if_ne (tgt := 14) C dX11_ask_5 (by decide) (fun c => ?_) (fun c => ?_)
  ·
    replace hb := hb.1 (c)
    refine g_aload_n (some v0) C dX11_ask_14 0 rfl ?_
    obtain ⟨q4, hb⟩ := hb
    obtain ⟨a5, q6, hb⟩ := hb
    refine g_getR (some a5) C fl_RX11_27 dX11_ask_15 q4 rfl rfl q6 ?_
    refine g_iload_n C dX11_ask_18 1 rfl ?_
    obtain ⟨q7, hb⟩ := hb
    refine g_invV (ci := 4) [.int v1] [] zy_X4_answersTo wd_578 wd_579 wd_580 ⟨_, _, rfl⟩ (by decide) C dX11_ask_19 (by first | exact Nat.le_of_ble_eq_true rfl | simp [cat_rf]) (by first | exact Nat.le_of_ble_eq_true rfl | simp [cat_rf]) (by first | exact Nat.le_of_ble_eq_true rfl | simp [cat_rf]) (Nat.zero_le _) (Nat.zero_le _) rfl rfl q7 (okX4_answersTo hb) ?_
    rintro o σ8 ⟨y9, rfl, hb⟩
    refine ⟨_, rfl, ?_⟩
    refine g_astore_n (i := 2) (lv' := [(2, va_rf y9), (0, .ref v0), (1, .int v1)]) y9 C dX11_ask_22 rfl (hnl_of hΓ (by decide)) (by first | rfl | simp [cat_rf]) ?_
    refine g_aload_n y9 C dX11_ask_23 0 rfl ?_
    refine g_ifnonnull (tgt := 33) y9 C dX11_ask_24 (by decide) (fun c => ?_) (fun c => ?_)
    ·
      obtain ⟨a10, rfl⟩ := rf_some c
      replace hb := hb.2 a10 rfl
      refine g_aload_n (some v0) C dX11_ask_33 1 rfl ?_
      obtain ⟨q14, hb⟩ := hb
      obtain ⟨a15, q16, hb⟩ := hb
      refine g_getR (some a15) C fl_RX11_36 dX11_ask_34 q14 rfl rfl q16 ?_
      refine g_aload_n (some a10) C dX11_ask_37 0 rfl ?_
      obtain ⟨q17, hb⟩ := hb
      refine g_invV (ci := 3) [.ref a10] [] zy_X3_takeAll wd_764 wd_709 wd_710 ⟨_, _, rfl⟩ (by decide) C dX11_ask_38 (by first | exact Nat.le_of_ble_eq_true rfl | simp [cat_rf]) (by first | exact Nat.le_of_ble_eq_true rfl | simp [cat_rf]) (by first | exact Nat.le_of_ble_eq_true rfl | simp [cat_rf]) (Nat.zero_le _) (Nat.zero_le _) rfl rfl q17 (okX3_takeAll hb) ?_
      rintro o σ18 ⟨rfl, hb⟩
      refine ⟨_, rfl, ?_⟩
      refine g_aload_n (some v0) C dX11_ask_41 1 rfl ?_
      refine g_aload_n (some v0) C dX11_ask_42 1 rfl ?_
      obtain ⟨q19, hb⟩ := hb
      obtain ⟨a20, q21, hb⟩ := hb
      refine g_getR (some a20) C fl_RX11_18 dX11_ask_43 q19 rfl rfl q21 ?_
      refine g_iload_n C dX11_ask_46 2 rfl ?_
      obtain ⟨q22, hb⟩ := hb
      obtain ⟨q23, hb⟩ := hb
      obtain ⟨a24, q25, hb⟩ := hb
      refine g_aald (some a24) el_27 C dX11_ask_47 q22 q23 q25 ?_
      obtain ⟨q26, hb⟩ := hb
      refine g_getIx (zFi σ18 580 a24) C fl_RX11_183 dX11_ask_48 q26 rfl rfl rfl ?_
      obtain ⟨q27, hb⟩ := hb
      refine g_putI C fl_RX11_195 dX11_ask_51 q19 rfl rfl (nz_n q27) (nz_f q27) ?_
      refine g_aload_n (some v0) C dX11_ask_54 1 rfl ?_
      refine g_iconst (v := 0) C dX11_ask_55 (by decide) ?_
      refine g_putI C fl_RX11_101 dX11_ask_56 (by rw [zK_uFi]; exact q19) rfl rfl rfl rfl ?_
      refine g_aload_n (some v0) C dX11_ask_59 1 rfl ?_
      obtain ⟨a28, q29, hb⟩ := hb
      refine g_getR (some a28) C fl_RX11_36 dX11_ask_60 (by rw [zK_uFi, zK_uFi]; exact q19) rfl rfl (by rw [zFr_uFi, zFr_uFi]; exact q29) ?_
      obtain ⟨q30, hb⟩ := hb
      refine g_getIx (zFi (uFi (uFi σ18 709 v0 (zFi σ18 580 a24)) 714 v0 0) 193 a28) C fl_RX11_198 dX11_ask_63 (by rw [zK_uFi, zK_uFi]; exact q30) rfl rfl rfl ?_
      exact g_ireturn C hΓ (Nat.zero_le _) (Nat.zero_le _) dX11_ask_66 ⟨_, rfl, hb⟩
    ·
      replace hb := hb.1 c
      refine g_aload_n (some v0) C dX11_ask_27 1 rfl ?_
      refine g_iconst (v := 5) C dX11_ask_28 (by decide) ?_
      obtain ⟨q11, hb⟩ := hb
      refine g_invV (ci := 11) [.int 5] [] zy_X11_refused wd_361 wd_363 wd_0 ⟨_, _, rfl⟩ (by decide) C dX11_ask_29 (by first | exact Nat.le_of_ble_eq_true rfl | simp [cat_rf]) (by first | exact Nat.le_of_ble_eq_true rfl | simp [cat_rf]) (by first | exact Nat.le_of_ble_eq_true rfl | simp [cat_rf]) (Nat.zero_le _) (Nat.zero_le _) rfl rfl q11 (okX11_refused hb) ?_
      rintro o σ12 ⟨y13, rfl, hb⟩
      refine ⟨_, rfl, ?_⟩
      exact g_ireturn C hΓ (Nat.zero_le _) (Nat.zero_le _) dX11_ask_32 ⟨_, rfl, hb⟩
  ·
    replace hb := hb.2 (c)
    refine g_aload_n (some v0) C dX11_ask_8 0 rfl ?_
    refine g_iconst (v := 1) C dX11_ask_9 (by decide) ?_
    obtain ⟨q31, hb⟩ := hb
    refine g_invV (ci := 11) [.int 1] [] zy_X11_refused wd_361 wd_363 wd_0 ⟨_, _, rfl⟩ (by decide) C dX11_ask_10 (by first | exact Nat.le_of_ble_eq_true rfl | simp [cat_rf]) (by first | exact Nat.le_of_ble_eq_true rfl | simp [cat_rf]) (by first | exact Nat.le_of_ble_eq_true rfl | simp [cat_rf]) (Nat.zero_le _) (Nat.zero_le _) rfl rfl q31 (okX11_refused hb) ?_
    rintro o σ32 ⟨y33, rfl, hb⟩
    refine ⟨_, rfl, ?_⟩
    exact g_ireturn C hΓ (Nat.zero_le _) (Nat.zero_le _) dX11_ask_13 ⟨_, rfl, hb⟩
theorem okX11_ask {v0 : Nat} {v1 : Int32} {σ : St} {Q : Int32 → St → Prop} (hb : wX11_ask v0 v1 σ Q) : hM yX11_ask cX11_ask 3 ((Option.some FieldType.int)) 7 203 0 0 [.ref v0, .int v1] σ (oI Q) :=
  hM_of (by decide) (Nat.le_of_ble_eq_true rfl) (fun Γ hΓ C => kwX11_ask_0 C hΓ _ _ _ hb)
def wX11_value_0 (Q : Int32 → St → Prop) (v0 : Nat) (v1 : Int32) (v2 : Int32) (σ : St) : Prop :=
  zK σ v0 = 12 ∧ ∃ a2 : Nat, zFr σ 708 v0 = some a2 ∧ zK σ a2 = 4 ∧ wX3_at a2 v1 σ (fun y6 σ5 => ((y6 = none → Q 0 σ5) ∧ (∀ a7 : Nat, y6 = some a7 → ((v2 < 0 → Q 0 σ5) ∧ (¬ v2 < 0 → zK σ5 v0 = 12 ∧ ∃ a9 : Nat, zFr σ5 708 v0 = some a9 ∧ zK σ5 a9 = 4 ∧ ((v2 < (zFi σ5 194 a9) → zK σ5 a7 = 3 ∧ ∃ a13 : Nat, zFr σ5 128 a7 = some a13 ∧ zK σ5 a13 = 20 ∧ vp_in v2 (zL σ5 a13) ∧ Q (zAi σ5 a13 (ix v2)) σ5) ∧ (¬ v2 < (zFi σ5 194 a9) → Q 0 σ5)))))))
def wX11_value (v0 : Nat) (v1 : Int32) (v2 : Int32) (σ : St) (Q : Int32 → St → Prop) : Prop := wX11_value_0 Q v0 v1 v2 σ
set_option maxRecDepth 20000 in
theorem kwX11_value_0 {Γ : hCT} (C : hC Γ RX11 cX11_value ((Option.some FieldType.int)) "value" 1 21) {Q : Int32 → St → Prop} (hΓ : Γ.2.2.2.2.2.2.2.2.2.2.2 = (4, 0, 0, oI Q)) (v0 : Nat) (v1 : Int32) (v2 : Int32) (σ : St) (hb : wX11_value_0 Q v0 v1 v2 σ) : hW Γ 0 0 0 [(0, .ref v0), (1, .int v1), (2, .int v2)] [] σ := by
  unfold wX11_value_0 at hb
  refine g_aload_n (some v0) C dX11_value_0 0 rfl ?_
  obtain ⟨q1, hb⟩ := hb
  obtain ⟨a2, q3, hb⟩ := hb
  refine g_getR (some a2) C fl_RX11_36 dX11_value_1 q1 rfl rfl q3 ?_
  refine g_iload_n C dX11_value_4 1 rfl ?_
  obtain ⟨q4, hb⟩ := hb
  refine g_invV (ci := 3) [.int v1] [] zy_X3_at wd_769 wd_751 wd_752 ⟨_, _, rfl⟩ (by decide) C dX11_value_5 (by first | exact Nat.le_of_ble_eq_true rfl | simp [cat_rf]) (by first | exact Nat.le_of_ble_eq_true rfl | simp [cat_rf]) (by first | exact Nat.le_of_ble_eq_true rfl | simp [cat_rf]) (Nat.zero_le _) (Nat.zero_le _) rfl rfl q4 (okX3_at hb) ?_
  rintro o σ5 ⟨y6, rfl, hb⟩
  refine ⟨_, rfl, ?_⟩
  refine g_astore_n (i := 3) (lv' := [(3, va_rf y6), (0, .ref v0), (1, .int v1), (2, .int v2)]) y6 C dX11_value_8 rfl (hnl_of hΓ (by decide)) (by first | rfl | simp [cat_rf]) ?_
  refine g_aload_n y6 C dX11_value_9 0 rfl ?_
  refine g_ifnull (tgt := 28) y6 C dX11_value_10 (by decide) (fun c => ?_) (fun c => ?_)
  ·
    replace hb := hb.1 c
    refine g_iconst (v := 0) C dX11_value_28 (by decide) ?_
    exact g_ireturn C hΓ (Nat.zero_le _) (Nat.zero_le _) dX11_value_29 ⟨_, rfl, hb⟩
  ·
    obtain ⟨a7, rfl⟩ := rf_some c
    replace hb := hb.2 a7 rfl
    refine g_iload_n C dX11_value_13 3 rfl ?_
    refine g_if_lt (tgt := 28) C dX11_value_14 (by decide) (fun c => ?_) (fun c => ?_)
    ·
      replace hb := hb.1 (c)
      refine g_iconst (v := 0) C dX11_value_28 (by decide) ?_
      exact g_ireturn C hΓ (Nat.zero_le _) (Nat.zero_le _) dX11_value_29 ⟨_, rfl, hb⟩
    ·
      replace hb := hb.2 (c)
      refine g_iload_n C dX11_value_17 3 rfl ?_
      refine g_aload_n (some v0) C dX11_value_18 1 rfl ?_
      obtain ⟨q8, hb⟩ := hb
      obtain ⟨a9, q10, hb⟩ := hb
      refine g_getR (some a9) C fl_RX11_36 dX11_value_19 q8 rfl rfl q10 ?_
      obtain ⟨q11, hb⟩ := hb
      refine g_getIx (zFi σ5 194 a9) C fl_RX11_205 dX11_value_22 q11 rfl rfl rfl ?_
      refine g_icmp_lt (tgt := 30) C dX11_value_25 (by decide) (fun c => ?_) (fun c => ?_)
      ·
        replace hb := hb.1 (c)
        refine g_aload_n (some a7) C dX11_value_30 0 rfl ?_
        obtain ⟨q12, hb⟩ := hb
        obtain ⟨a13, q14, hb⟩ := hb
        refine g_getR (some a13) C fl_RX11_206 dX11_value_31 q12 rfl rfl q14 ?_
        refine g_iload_n C dX11_value_34 3 rfl ?_
        obtain ⟨q15, hb⟩ := hb
        obtain ⟨q16, hb⟩ := hb
        refine g_ialdx (zAi σ5 a13 (ix v2)) C dX11_value_35 q15 q16 rfl ?_
        exact g_ireturn C hΓ (Nat.zero_le _) (Nat.zero_le _) dX11_value_36 ⟨_, rfl, hb⟩
      ·
        replace hb := hb.2 (c)
        refine g_iconst (v := 0) C dX11_value_28 (by decide) ?_
        exact g_ireturn C hΓ (Nat.zero_le _) (Nat.zero_le _) dX11_value_29 ⟨_, rfl, hb⟩
theorem okX11_value {v0 : Nat} {v1 : Int32} {v2 : Int32} {σ : St} {Q : Int32 → St → Prop} (hb : wX11_value v0 v1 v2 σ Q) : hM yX11_value cX11_value 4 ((Option.some FieldType.int)) 1 21 0 0 [.ref v0, .int v1, .int v2] σ (oI Q) :=
  hM_of (by decide) (Nat.le_of_ble_eq_true rfl) (fun Γ hΓ C => kwX11_value_0 C hΓ _ _ _ _ hb)
def wX11_find_0 (mc ms : Nat) (Q : Int32 → St → Prop) (k n : Nat) (v0 : Nat) (v1 : Int32) (v2 : Int32) (v3 : Int32) (v4 : Int32) (v5 : Int32) (v6 : Int32) (σ : St) : Prop :=
  k + 1 ≤ mc ∧ n + 6 ≤ ms ∧ ∀ b3 : Nat, zK σ b3 = 0 → vp_in 0 (zL (nA σ b3 20 6) b3) ∧ vp_in 1 (zL (nA σ b3 20 6) b3) ∧ vp_in 2 (zL (nA σ b3 20 6) b3) ∧ vp_in 3 (zL (nA σ b3 20 6) b3) ∧ vp_in 4 (zL (nA σ b3 20 6) b3) ∧ vp_in 5 (zL (nA σ b3 20 6) b3) ∧ zK (nA σ b3 20 6) v0 = 12 ∧ ∃ a12 : Nat, zFr (nA σ b3 20 6) 708 v0 = some a12 ∧ k + 1 ≤ mc ∧ n + 6 ≤ ms ∧ zK (nA σ b3 20 6) a12 = 4 ∧ wX3_spot a12 b3 (uAi (uAi (uAi (uAi (uAi (uAi (nA σ b3 20 6) b3 (ix 0) v1) b3 (ix 1) v2) b3 (ix 2) v3) b3 (ix 3) v4) b3 (ix 4) v5) b3 (ix 5) v6) (fun y18 σ17 => k + 1 ≤ mc ∧ n + 6 ≤ ms ∧ Q y18 σ17)
def wX11_find (mc ms : Nat) (v0 : Nat) (v1 : Int32) (v2 : Int32) (v3 : Int32) (v4 : Int32) (v5 : Int32) (v6 : Int32) (σ : St) (Q : Int32 → St → Prop) : Prop := wX11_find_0 mc ms Q 0 0 v0 v1 v2 v3 v4 v5 v6 σ
set_option maxRecDepth 20000 in
theorem kwX11_find_0 {Γ : hCT} {mc ms : Nat} (C : hC Γ RX11 cX11_find ((Option.some FieldType.int)) "find" 3 69) {Q : Int32 → St → Prop} (hΓ : Γ.2.2.2.2.2.2.2.2.2.2.2 = (8, mc, ms, oI Q)) (k n : Nat) (v0 : Nat) (v1 : Int32) (v2 : Int32) (v3 : Int32) (v4 : Int32) (v5 : Int32) (v6 : Int32) (σ : St) (hb : wX11_find_0 mc ms Q k n v0 v1 v2 v3 v4 v5 v6 σ) : hW Γ k n 0 [(0, .ref v0), (1, .int v1), (2, .int v2), (3, .int v3), (4, .int v4), (5, .int v5), (6, .int v6)] [] σ := by
  unfold wX11_find_0 at hb
  refine g_bipush (v := 6) C dX11_find_0 (by decide) ?_
  obtain ⟨q1, q2, hb⟩ := hb
  refine g_newa (N := 6) at_int C dX11_find_2 (by decide) (by decide) (by decide) (by rw [hmc_of hΓ]; exact q1) (by rw [hms_of hΓ]; exact q2) (fun b3 q4 => ?_)
  replace hb := hb b3 q4
  refine g_dup C dX11_find_4 rfl ?_
  refine g_iconst (v := 0) C dX11_find_5 (by decide) ?_
  refine g_iload_n C dX11_find_6 1 rfl ?_
  obtain ⟨q5, hb⟩ := hb
  refine g_iast C dX11_find_7 (nA_K (σ := σ) (κ := 20) (N := 6)) q5 ?_
  refine g_dup C dX11_find_8 rfl ?_
  refine g_iconst (v := 1) C dX11_find_9 (by decide) ?_
  refine g_iload_n C dX11_find_10 2 rfl ?_
  obtain ⟨q6, hb⟩ := hb
  refine g_iast C dX11_find_11 (by rw [zK_uAi]; exact (nA_K (σ := σ) (κ := 20) (N := 6))) (by rw [zL_uAi]; exact q6) ?_
  refine g_dup C dX11_find_12 rfl ?_
  refine g_iconst (v := 2) C dX11_find_13 (by decide) ?_
  refine g_iload_n C dX11_find_14 3 rfl ?_
  obtain ⟨q7, hb⟩ := hb
  refine g_iast C dX11_find_15 (by rw [zK_uAi, zK_uAi]; exact (nA_K (σ := σ) (κ := 20) (N := 6))) (by rw [zL_uAi, zL_uAi]; exact q7) ?_
  refine g_dup C dX11_find_16 rfl ?_
  refine g_iconst (v := 3) C dX11_find_17 (by decide) ?_
  refine g_iload C dX11_find_18 4 rfl ?_
  obtain ⟨q8, hb⟩ := hb
  refine g_iast C dX11_find_20 (by rw [zK_uAi, zK_uAi, zK_uAi]; exact (nA_K (σ := σ) (κ := 20) (N := 6))) (by rw [zL_uAi, zL_uAi, zL_uAi]; exact q8) ?_
  refine g_dup C dX11_find_21 rfl ?_
  refine g_iconst (v := 4) C dX11_find_22 (by decide) ?_
  refine g_iload C dX11_find_23 5 rfl ?_
  obtain ⟨q9, hb⟩ := hb
  refine g_iast C dX11_find_25 (by rw [zK_uAi, zK_uAi, zK_uAi, zK_uAi]; exact (nA_K (σ := σ) (κ := 20) (N := 6))) (by rw [zL_uAi, zL_uAi, zL_uAi, zL_uAi]; exact q9) ?_
  refine g_dup C dX11_find_26 rfl ?_
  refine g_iconst (v := 5) C dX11_find_27 (by decide) ?_
  refine g_iload C dX11_find_28 6 rfl ?_
  obtain ⟨q10, hb⟩ := hb
  refine g_iast C dX11_find_30 (by rw [zK_uAi, zK_uAi, zK_uAi, zK_uAi, zK_uAi]; exact (nA_K (σ := σ) (κ := 20) (N := 6))) (by rw [zL_uAi, zL_uAi, zL_uAi, zL_uAi, zL_uAi]; exact q10) ?_
  refine g_astore (lv' := [(7, .ref b3), (0, .ref v0), (1, .int v1), (2, .int v2), (3, .int v3), (4, .int v4), (5, .int v5), (6, .int v6)]) (some b3) C dX11_find_31 (hnl_of hΓ (by decide)) (by first | rfl | simp [cat_rf]) ?_
  refine g_aload_n (some v0) C dX11_find_33 1 rfl ?_
  obtain ⟨q11, hb⟩ := hb
  obtain ⟨a12, q13, hb⟩ := hb
  refine g_getR (some a12) C fl_RX11_36 dX11_find_34 (by rw [zK_uAi, zK_uAi, zK_uAi, zK_uAi, zK_uAi, zK_uAi]; exact q11) rfl rfl (by rw [zFr_uAi, zFr_uAi, zFr_uAi, zFr_uAi, zFr_uAi, zFr_uAi]; exact q13) ?_
  refine g_aload (some b3) C dX11_find_37 0 rfl ?_
  obtain ⟨q14, q15, hb⟩ := hb
  obtain ⟨q16, hb⟩ := hb
  refine g_invV (ci := 3) [.ref b3] [] zy_X3_spot wd_774 wd_632 wd_633 ⟨_, _, rfl⟩ (by decide) C dX11_find_39 (by first | exact Nat.le_of_ble_eq_true rfl | simp [cat_rf]) (by first | exact Nat.le_of_ble_eq_true rfl | simp [cat_rf]) (by first | exact Nat.le_of_ble_eq_true rfl | simp [cat_rf]) (by rw [hmc_of hΓ]; exact q14) (by rw [hms_of hΓ]; exact q15) rfl rfl (by rw [zK_uAi, zK_uAi, zK_uAi, zK_uAi, zK_uAi, zK_uAi]; exact q16) (okX3_spot hb) ?_
  rintro o σ17 ⟨y18, rfl, hb⟩
  refine ⟨_, rfl, ?_⟩
  obtain ⟨q19, q20, hb⟩ := hb
  exact g_ireturn C hΓ q19 q20 dX11_find_42 ⟨_, rfl, hb⟩
theorem okX11_find {mc ms : Nat} {v0 : Nat} {v1 : Int32} {v2 : Int32} {v3 : Int32} {v4 : Int32} {v5 : Int32} {v6 : Int32} {σ : St} {Q : Int32 → St → Prop} (hb : wX11_find mc ms v0 v1 v2 v3 v4 v5 v6 σ Q) : hM yX11_find cX11_find 8 ((Option.some FieldType.int)) 3 69 mc ms [.ref v0, .int v1, .int v2, .int v3, .int v4, .int v5, .int v6] σ (oI Q) :=
  hM_of (by decide) (Nat.le_of_ble_eq_true rfl) (fun Γ hΓ C => kwX11_find_0 (mc := mc) (ms := ms) C hΓ 0 0 _ _ _ _ _ _ _ _ hb)
def wX11_ways_0 (Q : Int32 → St → Prop) (v0 : Nat) (v1 : Int32) (σ : St) : Prop :=
  zK σ v0 = 12 ∧ ∃ a2 : Nat, zFr σ 708 v0 = some a2 ∧ zK σ a2 = 4 ∧ wX3_at a2 v1 σ (fun y6 σ5 => ((y6 = none → Q (-1) σ5) ∧ (∀ a7 : Nat, y6 = some a7 → zK σ5 a7 = 3 ∧ Q (zFi σ5 130 a7) σ5)))
def wX11_ways (v0 : Nat) (v1 : Int32) (σ : St) (Q : Int32 → St → Prop) : Prop := wX11_ways_0 Q v0 v1 σ
set_option maxRecDepth 20000 in
theorem kwX11_ways_0 {Γ : hCT} (C : hC Γ RX11 cX11_ways ((Option.some FieldType.int)) "ways" 1 21) {Q : Int32 → St → Prop} (hΓ : Γ.2.2.2.2.2.2.2.2.2.2.2 = (3, 0, 0, oI Q)) (v0 : Nat) (v1 : Int32) (σ : St) (hb : wX11_ways_0 Q v0 v1 σ) : hW Γ 0 0 0 [(0, .ref v0), (1, .int v1)] [] σ := by
  unfold wX11_ways_0 at hb
  refine g_aload_n (some v0) C dX11_ways_0 0 rfl ?_
  obtain ⟨q1, hb⟩ := hb
  obtain ⟨a2, q3, hb⟩ := hb
  refine g_getR (some a2) C fl_RX11_36 dX11_ways_1 q1 rfl rfl q3 ?_
  refine g_iload_n C dX11_ways_4 1 rfl ?_
  obtain ⟨q4, hb⟩ := hb
  refine g_invV (ci := 3) [.int v1] [] zy_X3_at wd_769 wd_751 wd_752 ⟨_, _, rfl⟩ (by decide) C dX11_ways_5 (by first | exact Nat.le_of_ble_eq_true rfl | simp [cat_rf]) (by first | exact Nat.le_of_ble_eq_true rfl | simp [cat_rf]) (by first | exact Nat.le_of_ble_eq_true rfl | simp [cat_rf]) (Nat.zero_le _) (Nat.zero_le _) rfl rfl q4 (okX3_at hb) ?_
  rintro o σ5 ⟨y6, rfl, hb⟩
  refine ⟨_, rfl, ?_⟩
  refine g_astore_n (i := 2) (lv' := [(2, va_rf y6), (0, .ref v0), (1, .int v1)]) y6 C dX11_ways_8 rfl (hnl_of hΓ (by decide)) (by first | rfl | simp [cat_rf]) ?_
  refine g_aload_n y6 C dX11_ways_9 0 rfl ?_
  refine g_ifnonnull (tgt := 17) y6 C dX11_ways_10 (by decide) (fun c => ?_) (fun c => ?_)
  ·
    obtain ⟨a7, rfl⟩ := rf_some c
    replace hb := hb.2 a7 rfl
    refine g_aload_n (some a7) C dX11_ways_17 0 rfl ?_
    obtain ⟨q8, hb⟩ := hb
    refine g_getIx (zFi σ5 130 a7) C fl_RX11_215 dX11_ways_18 q8 rfl rfl rfl ?_
    exact g_ireturn C hΓ (Nat.zero_le _) (Nat.zero_le _) dX11_ways_21 ⟨_, rfl, hb⟩
  ·
    replace hb := hb.1 c
    refine g_iconst (v := (-1)) C dX11_ways_13 (by decide) ?_
    refine g_goto (tgt := 21) C dX11_ways_14 (by decide) ?_
    exact g_ireturn C hΓ (Nat.zero_le _) (Nat.zero_le _) dX11_ways_21 ⟨_, rfl, hb⟩
theorem okX11_ways {v0 : Nat} {v1 : Int32} {σ : St} {Q : Int32 → St → Prop} (hb : wX11_ways v0 v1 σ Q) : hM yX11_ways cX11_ways 3 ((Option.some FieldType.int)) 1 21 0 0 [.ref v0, .int v1] σ (oI Q) :=
  hM_of (by decide) (Nat.le_of_ble_eq_true rfl) (fun Γ hΓ C => kwX11_ways_0 C hΓ _ _ _ hb)
def wX11_way_0 (Q : Int64 → St → Prop) (v0 : Nat) (v1 : Int32) (v2 : Int32) (σ : St) : Prop :=
  zK σ v0 = 12 ∧ ∃ a2 : Nat, zFr σ 708 v0 = some a2 ∧ zK σ a2 = 4 ∧ wX3_at a2 v1 σ (fun y6 σ5 => ((y6 = none → Q 0 σ5) ∧ (∀ a7 : Nat, y6 = some a7 → ((v2 < 0 → Q 0 σ5) ∧ (¬ v2 < 0 → zK σ5 a7 = 3 ∧ ((v2 < (zFi σ5 130 a7) → ∃ a9 : Nat, zFr σ5 129 a7 = some a9 ∧ zK σ5 a9 = 21 ∧ vp_in v2 (zL σ5 a9) ∧ Q (zAj σ5 a9 (ix v2)) σ5) ∧ (¬ v2 < (zFi σ5 130 a7) → Q 0 σ5)))))))
def wX11_way (v0 : Nat) (v1 : Int32) (v2 : Int32) (σ : St) (Q : Int64 → St → Prop) : Prop := wX11_way_0 Q v0 v1 v2 σ
set_option maxRecDepth 20000 in
theorem kwX11_way_0 {Γ : hCT} (C : hC Γ RX11 cX11_way ((Option.some FieldType.long)) "way" 1 21) {Q : Int64 → St → Prop} (hΓ : Γ.2.2.2.2.2.2.2.2.2.2.2 = (4, 0, 0, oJ Q)) (v0 : Nat) (v1 : Int32) (v2 : Int32) (σ : St) (hb : wX11_way_0 Q v0 v1 v2 σ) : hW Γ 0 0 0 [(0, .ref v0), (1, .int v1), (2, .int v2)] [] σ := by
  unfold wX11_way_0 at hb
  refine g_aload_n (some v0) C dX11_way_0 0 rfl ?_
  obtain ⟨q1, hb⟩ := hb
  obtain ⟨a2, q3, hb⟩ := hb
  refine g_getR (some a2) C fl_RX11_36 dX11_way_1 q1 rfl rfl q3 ?_
  refine g_iload_n C dX11_way_4 1 rfl ?_
  obtain ⟨q4, hb⟩ := hb
  refine g_invV (ci := 3) [.int v1] [] zy_X3_at wd_769 wd_751 wd_752 ⟨_, _, rfl⟩ (by decide) C dX11_way_5 (by first | exact Nat.le_of_ble_eq_true rfl | simp [cat_rf]) (by first | exact Nat.le_of_ble_eq_true rfl | simp [cat_rf]) (by first | exact Nat.le_of_ble_eq_true rfl | simp [cat_rf]) (Nat.zero_le _) (Nat.zero_le _) rfl rfl q4 (okX3_at hb) ?_
  rintro o σ5 ⟨y6, rfl, hb⟩
  refine ⟨_, rfl, ?_⟩
  refine g_astore_n (i := 3) (lv' := [(3, va_rf y6), (0, .ref v0), (1, .int v1), (2, .int v2)]) y6 C dX11_way_8 rfl (hnl_of hΓ (by decide)) (by first | rfl | simp [cat_rf]) ?_
  refine g_aload_n y6 C dX11_way_9 0 rfl ?_
  refine g_ifnull (tgt := 25) y6 C dX11_way_10 (by decide) (fun c => ?_) (fun c => ?_)
  ·
    replace hb := hb.1 c
    refine g_lconst (v := 0) C dX11_way_25 (by decide) ?_
    exact g_lreturn C hΓ (Nat.zero_le _) (Nat.zero_le _) dX11_way_26 ⟨_, rfl, hb⟩
  ·
    obtain ⟨a7, rfl⟩ := rf_some c
    replace hb := hb.2 a7 rfl
    refine g_iload_n C dX11_way_13 3 rfl ?_
    refine g_if_lt (tgt := 25) C dX11_way_14 (by decide) (fun c => ?_) (fun c => ?_)
    ·
      replace hb := hb.1 (c)
      refine g_lconst (v := 0) C dX11_way_25 (by decide) ?_
      exact g_lreturn C hΓ (Nat.zero_le _) (Nat.zero_le _) dX11_way_26 ⟨_, rfl, hb⟩
    ·
      replace hb := hb.2 (c)
      refine g_iload_n C dX11_way_17 3 rfl ?_
      refine g_aload_n (some a7) C dX11_way_18 0 rfl ?_
      obtain ⟨q8, hb⟩ := hb
      refine g_getIx (zFi σ5 130 a7) C fl_RX11_215 dX11_way_19 q8 rfl rfl rfl ?_
      refine g_icmp_lt (tgt := 27) C dX11_way_22 (by decide) (fun c => ?_) (fun c => ?_)
      ·
        replace hb := hb.1 (c)
        refine g_aload_n (some a7) C dX11_way_27 0 rfl ?_
        obtain ⟨a9, q10, hb⟩ := hb
        refine g_getR (some a9) C fl_RX11_218 dX11_way_28 q8 rfl rfl q10 ?_
        refine g_iload_n C dX11_way_31 3 rfl ?_
        obtain ⟨q11, hb⟩ := hb
        obtain ⟨q12, hb⟩ := hb
        refine g_laldx (zAj σ5 a9 (ix v2)) C dX11_way_32 q11 q12 rfl ?_
        exact g_lreturn C hΓ (Nat.zero_le _) (Nat.zero_le _) dX11_way_33 ⟨_, rfl, hb⟩
      ·
        replace hb := hb.2 (c)
        refine g_lconst (v := 0) C dX11_way_25 (by decide) ?_
        exact g_lreturn C hΓ (Nat.zero_le _) (Nat.zero_le _) dX11_way_26 ⟨_, rfl, hb⟩
theorem okX11_way {v0 : Nat} {v1 : Int32} {v2 : Int32} {σ : St} {Q : Int64 → St → Prop} (hb : wX11_way v0 v1 v2 σ Q) : hM yX11_way cX11_way 4 ((Option.some FieldType.long)) 1 21 0 0 [.ref v0, .int v1, .int v2] σ (oJ Q) :=
  hM_of (by decide) (Nat.le_of_ble_eq_true rfl) (fun Γ hΓ C => kwX11_way_0 C hΓ _ _ _ _ hb)
def wX2_inEveryWay_6 (Q : Int64 → St → Prop) (r6 : Nat → Int64 → Int32 → St → Prop) (v0 : Nat) (v1 : Int64) (v3 : Int32) (σ : St) : Prop :=
  zK σ v0 = 3 ∧ (((zFi σ 130 v0) ≤ v3 → Q v1 σ) ∧ (¬ (zFi σ 130 v0) ≤ v3 → ∃ a2 : Nat, zFr σ 129 v0 = some a2 ∧ zK σ a2 = 21 ∧ vp_in v3 (zL σ a2) ∧ r6 v0 (v1 &&& (zAj σ a2 (ix v3))) (v3 + 1) σ))
def lX2_inEveryWay_6 (Q : Int64 → St → Prop) : Nat → Nat → Int64 → Int32 → St → Prop
  | 0, _, _, _, _ => False
  | f + 1, v0, v1, v3, σ => wX2_inEveryWay_6 Q (lX2_inEveryWay_6 Q f) v0 v1 v3 σ
def wX2_inEveryWay_0 (Q : Int64 → St → Prop) (v0 : Nat) (σ : St) : Prop :=
  ∃ f, lX2_inEveryWay_6 Q f v0 (-1) 0 σ
def wX2_inEveryWay (v0 : Nat) (σ : St) (Q : Int64 → St → Prop) : Prop := wX2_inEveryWay_0 Q v0 σ
set_option maxRecDepth 20000 in
theorem kwX2_inEveryWay_6 {Γ : hCT} (C : hC Γ RX2 cX2_inEveryWay ((Option.some FieldType.long)) "inEveryWay" 0 0) {Q : Int64 → St → Prop} (hΓ : Γ.2.2.2.2.2.2.2.2.2.2.2 = (4, 0, 0, oJ Q)) {r6 : Nat → Int64 → Int32 → St → Prop} (h6 : ∀ (v0 : Nat) (v1 : Int64) (v3 : Int32) (σ : St), r6 v0 v1 v3 σ → hW Γ 0 0 6 [(0, .ref v0), (1, .long v1), (3, .int v3)] [] σ) (v0 : Nat) (v1 : Int64) (v3 : Int32) (σ : St) (hb : wX2_inEveryWay_6 Q r6 v0 v1 v3 σ) : hW Γ 0 0 6 [(0, .ref v0), (1, .long v1), (3, .int v3)] [] σ := by
  unfold wX2_inEveryWay_6 at hb
  refine g_iload_n C dX2_inEveryWay_6 2 rfl ?_
  refine g_aload_n (some v0) C dX2_inEveryWay_7 0 rfl ?_
  obtain ⟨q1, hb⟩ := hb
  refine g_getIx (zFi σ 130 v0) C fl_RX2_25 dX2_inEveryWay_8 q1 rfl rfl rfl ?_
  refine g_icmp_ge (tgt := 29) C dX2_inEveryWay_11 (by decide) (fun c => ?_) (fun c => ?_)
  ·
    replace hb := hb.1 (c)
    refine g_lload_n C dX2_inEveryWay_29 1 rfl ?_
    exact g_lreturn C hΓ (Nat.zero_le _) (Nat.zero_le _) dX2_inEveryWay_30 ⟨_, rfl, hb⟩
  ·
    replace hb := hb.2 (c)
    refine g_lload_n C dX2_inEveryWay_14 1 rfl ?_
    refine g_aload_n (some v0) C dX2_inEveryWay_15 0 rfl ?_
    obtain ⟨a2, q3, hb⟩ := hb
    refine g_getR (some a2) C fl_RX2_15 dX2_inEveryWay_16 q1 rfl rfl q3 ?_
    refine g_iload_n C dX2_inEveryWay_19 2 rfl ?_
    obtain ⟨q4, hb⟩ := hb
    obtain ⟨q5, hb⟩ := hb
    refine g_laldx (zAj σ a2 (ix v3)) C dX2_inEveryWay_20 q4 q5 rfl ?_
    refine g_land C dX2_inEveryWay_21 ?_
    refine g_lstore_n (i := 1) (lv' := [(1, .long (v1 &&& (zAj σ a2 (ix v3)))), (0, .ref v0), (3, .int v3)]) C dX2_inEveryWay_22 rfl (hnl_of hΓ (by decide)) (by first | rfl | simp [cat_rf]) ?_
    refine g_iinc (v := v3 + 1) (lv' := [(3, .int (v3 + 1)), (1, .long (v1 &&& (zAj σ a2 (ix v3)))), (0, .ref v0)]) C dX2_inEveryWay_23 2 rfl rfl (hnl_of hΓ (by decide)) (by first | rfl | simp [cat_rf]) ?_
    refine g_goto (tgt := 6) C dX2_inEveryWay_26 (by decide) ?_
    refine g_sub (lv' := [(0, .ref v0), (1, .long (v1 &&& (zAj σ a2 (ix v3)))), (3, .int (v3 + 1))]) [2, 1, 0] rfl ?_
    exact h6 _ _ _ _ hb
theorem klX2_inEveryWay_6 {Γ : hCT} (C : hC Γ RX2 cX2_inEveryWay ((Option.some FieldType.long)) "inEveryWay" 0 0) {Q : Int64 → St → Prop} (hΓ : Γ.2.2.2.2.2.2.2.2.2.2.2 = (4, 0, 0, oJ Q)) (f : Nat) (v0 : Nat) (v1 : Int64) (v3 : Int32) (σ : St) (hb : lX2_inEveryWay_6 Q f v0 v1 v3 σ) : hW Γ 0 0 6 [(0, .ref v0), (1, .long v1), (3, .int v3)] [] σ := by
  induction f generalizing v0 v1 v3 σ with
  | zero => exact hb.elim
  | succ f ih => exact kwX2_inEveryWay_6 C hΓ  (fun v0 v1 v3 σ h => ih v0 v1 v3 σ h) _ _ _ _ hb
set_option maxRecDepth 20000 in
theorem kwX2_inEveryWay_0 {Γ : hCT} (C : hC Γ RX2 cX2_inEveryWay ((Option.some FieldType.long)) "inEveryWay" 0 0) {Q : Int64 → St → Prop} (hΓ : Γ.2.2.2.2.2.2.2.2.2.2.2 = (4, 0, 0, oJ Q)) (v0 : Nat) (σ : St) (hb : wX2_inEveryWay_0 Q v0 σ) : hW Γ 0 0 0 [(0, .ref v0)] [] σ := by
  unfold wX2_inEveryWay_0 at hb
  refine g_ldc2 C wd_759 dX2_inEveryWay_0 ?_
  refine g_lstore_n (i := 1) (lv' := [(1, .long (-1)), (0, .ref v0)]) C dX2_inEveryWay_3 rfl (hnl_of hΓ (by decide)) (by first | rfl | simp [cat_rf]) ?_
  refine g_iconst (v := 0) C dX2_inEveryWay_4 (by decide) ?_
  refine g_istore_n (i := 3) (lv' := [(3, .int 0), (1, .long (-1)), (0, .ref v0)]) C dX2_inEveryWay_5 rfl (hnl_of hΓ (by decide)) (by first | rfl | simp [cat_rf]) ?_
  refine g_sub (lv' := [(0, .ref v0), (1, .long (-1)), (3, .int 0)]) [2, 1, 0] rfl ?_
  obtain ⟨f1, hb⟩ := hb
  exact klX2_inEveryWay_6 C hΓ  f1 _ _ _ _ hb
theorem okX2_inEveryWay {v0 : Nat} {σ : St} {Q : Int64 → St → Prop} (hb : wX2_inEveryWay v0 σ Q) : hM yX2_inEveryWay cX2_inEveryWay 4 ((Option.some FieldType.long)) 0 0 0 0 [.ref v0] σ (oJ Q) :=
  hM_of (by decide) (Nat.le_of_ble_eq_true rfl) (fun Γ hΓ C => kwX2_inEveryWay_0 C hΓ _ _ hb)
def wX11_need_0 (Q : Int64 → St → Prop) (v0 : Nat) (v1 : Int32) (σ : St) : Prop :=
  zK σ v0 = 12 ∧ ∃ a2 : Nat, zFr σ 708 v0 = some a2 ∧ zK σ a2 = 4 ∧ wX3_at a2 v1 σ (fun y6 σ5 => ((y6 = none → Q 0 σ5) ∧ (∀ a7 : Nat, y6 = some a7 → zK σ5 a7 = 3 ∧ wX2_inEveryWay a7 σ5 (fun y10 σ9 => Q y10 σ9))))
def wX11_need (v0 : Nat) (v1 : Int32) (σ : St) (Q : Int64 → St → Prop) : Prop := wX11_need_0 Q v0 v1 σ
set_option maxRecDepth 20000 in
theorem kwX11_need_0 {Γ : hCT} (C : hC Γ RX11 cX11_need ((Option.some FieldType.long)) "need" 1 23) {Q : Int64 → St → Prop} (hΓ : Γ.2.2.2.2.2.2.2.2.2.2.2 = (3, 0, 0, oJ Q)) (v0 : Nat) (v1 : Int32) (σ : St) (hb : wX11_need_0 Q v0 v1 σ) : hW Γ 0 0 0 [(0, .ref v0), (1, .int v1)] [] σ := by
  unfold wX11_need_0 at hb
  refine g_aload_n (some v0) C dX11_need_0 0 rfl ?_
  obtain ⟨q1, hb⟩ := hb
  obtain ⟨a2, q3, hb⟩ := hb
  refine g_getR (some a2) C fl_RX11_36 dX11_need_1 q1 rfl rfl q3 ?_
  refine g_iload_n C dX11_need_4 1 rfl ?_
  obtain ⟨q4, hb⟩ := hb
  refine g_invV (ci := 3) [.int v1] [] zy_X3_at wd_769 wd_751 wd_752 ⟨_, _, rfl⟩ (by decide) C dX11_need_5 (by first | exact Nat.le_of_ble_eq_true rfl | simp [cat_rf]) (by first | exact Nat.le_of_ble_eq_true rfl | simp [cat_rf]) (by first | exact Nat.le_of_ble_eq_true rfl | simp [cat_rf]) (Nat.zero_le _) (Nat.zero_le _) rfl rfl q4 (okX3_at hb) ?_
  rintro o σ5 ⟨y6, rfl, hb⟩
  refine ⟨_, rfl, ?_⟩
  refine g_astore_n (i := 2) (lv' := [(2, va_rf y6), (0, .ref v0), (1, .int v1)]) y6 C dX11_need_8 rfl (hnl_of hΓ (by decide)) (by first | rfl | simp [cat_rf]) ?_
  refine g_aload_n y6 C dX11_need_9 0 rfl ?_
  refine g_ifnonnull (tgt := 17) y6 C dX11_need_10 (by decide) (fun c => ?_) (fun c => ?_)
  ·
    obtain ⟨a7, rfl⟩ := rf_some c
    replace hb := hb.2 a7 rfl
    refine g_aload_n (some a7) C dX11_need_17 0 rfl ?_
    obtain ⟨q8, hb⟩ := hb
    refine g_invV (ci := 2) [] [] zy_X2_inEveryWay wd_787 wd_788 wd_789 ⟨_, _, rfl⟩ (by decide) C dX11_need_18 (by first | exact Nat.le_of_ble_eq_true rfl | simp [cat_rf]) (by first | exact Nat.le_of_ble_eq_true rfl | simp [cat_rf]) (by first | exact Nat.le_of_ble_eq_true rfl | simp [cat_rf]) (Nat.zero_le _) (Nat.zero_le _) rfl rfl q8 (okX2_inEveryWay hb) ?_
    rintro o σ9 ⟨y10, rfl, hb⟩
    refine ⟨_, rfl, ?_⟩
    exact g_lreturn C hΓ (Nat.zero_le _) (Nat.zero_le _) dX11_need_21 ⟨_, rfl, hb⟩
  ·
    replace hb := hb.1 c
    refine g_lconst (v := 0) C dX11_need_13 (by decide) ?_
    refine g_goto (tgt := 21) C dX11_need_14 (by decide) ?_
    exact g_lreturn C hΓ (Nat.zero_le _) (Nat.zero_le _) dX11_need_21 ⟨_, rfl, hb⟩
theorem okX11_need {v0 : Nat} {v1 : Int32} {σ : St} {Q : Int64 → St → Prop} (hb : wX11_need v0 v1 σ Q) : hM yX11_need cX11_need 3 ((Option.some FieldType.long)) 1 23 0 0 [.ref v0, .int v1] σ (oJ Q) :=
  hM_of (by decide) (Nat.le_of_ble_eq_true rfl) (fun Γ hΓ C => kwX11_need_0 C hΓ _ _ _ hb)
def wX11_count_31 (Q : Int64 → St → Prop) (s1 : Int32) (s0 : Nat) (σ : St) : Prop :=
  zK σ s0 = 12 ∧ Q 0 (uFi σ 714 s0 s1)
def wX11_count_20 (Q : Int64 → St → Prop) (v0 : Nat) (v2 : Option Nat) (σ : St) : Prop :=
  ((v2 = none → wX11_count_31 Q 1 v0 σ) ∧ (∀ a1 : Nat, v2 = some a1 → wX11_count_31 Q 6 v0 σ))
def wX11_count_0 (Q : Int64 → St → Prop) (v0 : Nat) (v1 : Int32) (σ : St) : Prop :=
  zK σ v0 = 12 ∧ ∃ a2 : Nat, zFr σ 708 v0 = some a2 ∧ zK σ a2 = 4 ∧ wX3_at a2 v1 σ (fun y6 σ5 => ((y6 = none → wX11_count_20 Q v0 y6 σ5) ∧ (∀ a7 : Nat, y6 = some a7 → zK σ5 v0 = 12 ∧ (((zFi σ5 709 v0) = 0 → zK σ5 a7 = 3 ∧ Q (zFj σ5 131 a7) (uFi σ5 714 v0 0)) ∧ (¬ (zFi σ5 709 v0) = 0 → wX11_count_20 Q v0 (some a7) σ5)))))
def wX11_count (v0 : Nat) (v1 : Int32) (σ : St) (Q : Int64 → St → Prop) : Prop := wX11_count_0 Q v0 v1 σ
set_option maxRecDepth 20000 in
theorem kwX11_count_31 {Γ : hCT} (C : hC Γ RX11 cX11_count ((Option.some FieldType.long)) "count" 1 21) {Q : Int64 → St → Prop} (hΓ : Γ.2.2.2.2.2.2.2.2.2.2.2 = (3, 0, 0, oJ Q)) (s1 : Int32) (s0 : Nat) (σ : St) (hb : wX11_count_31 Q s1 s0 σ) : hW Γ 0 0 31 [] [.int s1, .ref s0] σ := by
  unfold wX11_count_31 at hb
  obtain ⟨q1, hb⟩ := hb
  refine g_putI C fl_RX11_101 dX11_count_31 q1 rfl rfl rfl rfl ?_
  refine g_lconst (v := 0) C dX11_count_34 (by decide) ?_
  exact g_lreturn C hΓ (Nat.zero_le _) (Nat.zero_le _) dX11_count_35 ⟨_, rfl, hb⟩
set_option maxRecDepth 20000 in
theorem kwX11_count_20 {Γ : hCT} (C : hC Γ RX11 cX11_count ((Option.some FieldType.long)) "count" 1 21) {Q : Int64 → St → Prop} (hΓ : Γ.2.2.2.2.2.2.2.2.2.2.2 = (3, 0, 0, oJ Q)) (v0 : Nat) (v2 : Option Nat) (σ : St) (hb : wX11_count_20 Q v0 v2 σ) : hW Γ 0 0 20 [(0, .ref v0), (2, va_rf v2)] [] σ := by
  unfold wX11_count_20 at hb
  refine g_aload_n (some v0) C dX11_count_20 0 rfl ?_
  refine g_aload_n v2 C dX11_count_21 1 rfl ?_
  refine g_ifnonnull (tgt := 29) v2 C dX11_count_22 (by decide) (fun c => ?_) (fun c => ?_)
  ·
    obtain ⟨a1, rfl⟩ := rf_some c
    replace hb := hb.2 a1 rfl
    refine g_bipush (v := 6) C dX11_count_29 (by decide) ?_
    refine g_sub (lv' := []) [] rfl ?_
    exact kwX11_count_31 C hΓ  _ _ _ hb
  ·
    replace hb := hb.1 c
    refine g_iconst (v := 1) C dX11_count_25 (by decide) ?_
    refine g_goto (tgt := 31) C dX11_count_26 (by decide) ?_
    refine g_sub (lv' := []) [] rfl ?_
    exact kwX11_count_31 C hΓ  _ _ _ hb
set_option maxRecDepth 20000 in
theorem kwX11_count_0 {Γ : hCT} (C : hC Γ RX11 cX11_count ((Option.some FieldType.long)) "count" 1 21) {Q : Int64 → St → Prop} (hΓ : Γ.2.2.2.2.2.2.2.2.2.2.2 = (3, 0, 0, oJ Q)) (v0 : Nat) (v1 : Int32) (σ : St) (hb : wX11_count_0 Q v0 v1 σ) : hW Γ 0 0 0 [(0, .ref v0), (1, .int v1)] [] σ := by
  unfold wX11_count_0 at hb
  refine g_aload_n (some v0) C dX11_count_0 0 rfl ?_
  obtain ⟨q1, hb⟩ := hb
  obtain ⟨a2, q3, hb⟩ := hb
  refine g_getR (some a2) C fl_RX11_36 dX11_count_1 q1 rfl rfl q3 ?_
  refine g_iload_n C dX11_count_4 1 rfl ?_
  obtain ⟨q4, hb⟩ := hb
  refine g_invV (ci := 3) [.int v1] [] zy_X3_at wd_769 wd_751 wd_752 ⟨_, _, rfl⟩ (by decide) C dX11_count_5 (by first | exact Nat.le_of_ble_eq_true rfl | simp [cat_rf]) (by first | exact Nat.le_of_ble_eq_true rfl | simp [cat_rf]) (by first | exact Nat.le_of_ble_eq_true rfl | simp [cat_rf]) (Nat.zero_le _) (Nat.zero_le _) rfl rfl q4 (okX3_at hb) ?_
  rintro o σ5 ⟨y6, rfl, hb⟩
  refine ⟨_, rfl, ?_⟩
  refine g_astore_n (i := 2) (lv' := [(2, va_rf y6), (0, .ref v0), (1, .int v1)]) y6 C dX11_count_8 rfl (hnl_of hΓ (by decide)) (by first | rfl | simp [cat_rf]) ?_
  refine g_aload_n y6 C dX11_count_9 0 rfl ?_
  refine g_ifnull (tgt := 20) y6 C dX11_count_10 (by decide) (fun c => ?_) (fun c => ?_)
  ·
    replace hb := hb.1 c
    refine g_sub (lv' := [(0, .ref v0), (2, va_rf y6)]) [1, 0] rfl ?_
    exact kwX11_count_20 C hΓ  _ _ _ hb
  ·
    obtain ⟨a7, rfl⟩ := rf_some c
    replace hb := hb.2 a7 rfl
    refine g_aload_n (some v0) C dX11_count_13 1 rfl ?_
    obtain ⟨q8, hb⟩ := hb
    refine g_getIx (zFi σ5 709 v0) C fl_RX11_195 dX11_count_14 q8 rfl rfl rfl ?_
    refine g_if_eq (tgt := 36) C dX11_count_17 (by decide) (fun c => ?_) (fun c => ?_)
    ·
      replace hb := hb.1 (c)
      refine g_aload_n (some v0) C dX11_count_36 1 rfl ?_
      refine g_iconst (v := 0) C dX11_count_37 (by decide) ?_
      refine g_putI C fl_RX11_101 dX11_count_38 q8 rfl rfl rfl rfl ?_
      refine g_aload_n (some a7) C dX11_count_41 0 rfl ?_
      obtain ⟨q9, hb⟩ := hb
      refine g_getJx (zFj σ5 131 a7) C fl_RX11_225 dX11_count_42 (by rw [zK_uFi]; exact q9) rfl rfl (by rw [zFj_uFi]) ?_
      exact g_lreturn C hΓ (Nat.zero_le _) (Nat.zero_le _) dX11_count_45 ⟨_, rfl, hb⟩
    ·
      replace hb := hb.2 (c)
      refine g_sub (lv' := [(0, .ref v0), (2, va_rf (some a7))]) [1, 0] rfl ?_
      exact kwX11_count_20 C hΓ  _ _ _ hb
theorem okX11_count {v0 : Nat} {v1 : Int32} {σ : St} {Q : Int64 → St → Prop} (hb : wX11_count v0 v1 σ Q) : hM yX11_count cX11_count 3 ((Option.some FieldType.long)) 1 21 0 0 [.ref v0, .int v1] σ (oJ Q) :=
  hM_of (by decide) (Nat.le_of_ble_eq_true rfl) (fun Γ hΓ C => kwX11_count_0 C hΓ _ _ _ hb)
def wX11_cost_0 (Q : Int32 → St → Prop) (v0 : Nat) (v1 : Int32) (σ : St) : Prop :=
  zK σ v0 = 12 ∧ ∃ a2 : Nat, zFr σ 708 v0 = some a2 ∧ zK σ a2 = 4 ∧ wX3_at a2 v1 σ (fun y6 σ5 => ((y6 = none → zK σ5 v0 = 12 ∧ wX11_refused v0 1 σ5 (fun y10 σ9 => Q y10 σ9)) ∧ (∀ a7 : Nat, y6 = some a7 → zK σ5 v0 = 12 ∧ zK σ5 a7 = 3 ∧ Q (zFi (uFi σ5 714 v0 0) 132 a7) (uFi σ5 714 v0 0))))
def wX11_cost (v0 : Nat) (v1 : Int32) (σ : St) (Q : Int32 → St → Prop) : Prop := wX11_cost_0 Q v0 v1 σ
set_option maxRecDepth 20000 in
theorem kwX11_cost_0 {Γ : hCT} (C : hC Γ RX11 cX11_cost ((Option.some FieldType.int)) "cost" 1 21) {Q : Int32 → St → Prop} (hΓ : Γ.2.2.2.2.2.2.2.2.2.2.2 = (3, 0, 0, oI Q)) (v0 : Nat) (v1 : Int32) (σ : St) (hb : wX11_cost_0 Q v0 v1 σ) : hW Γ 0 0 0 [(0, .ref v0), (1, .int v1)] [] σ := by
  unfold wX11_cost_0 at hb
  refine g_aload_n (some v0) C dX11_cost_0 0 rfl ?_
  obtain ⟨q1, hb⟩ := hb
  obtain ⟨a2, q3, hb⟩ := hb
  refine g_getR (some a2) C fl_RX11_36 dX11_cost_1 q1 rfl rfl q3 ?_
  refine g_iload_n C dX11_cost_4 1 rfl ?_
  obtain ⟨q4, hb⟩ := hb
  refine g_invV (ci := 3) [.int v1] [] zy_X3_at wd_769 wd_751 wd_752 ⟨_, _, rfl⟩ (by decide) C dX11_cost_5 (by first | exact Nat.le_of_ble_eq_true rfl | simp [cat_rf]) (by first | exact Nat.le_of_ble_eq_true rfl | simp [cat_rf]) (by first | exact Nat.le_of_ble_eq_true rfl | simp [cat_rf]) (Nat.zero_le _) (Nat.zero_le _) rfl rfl q4 (okX3_at hb) ?_
  rintro o σ5 ⟨y6, rfl, hb⟩
  refine ⟨_, rfl, ?_⟩
  refine g_astore_n (i := 2) (lv' := [(2, va_rf y6), (0, .ref v0), (1, .int v1)]) y6 C dX11_cost_8 rfl (hnl_of hΓ (by decide)) (by first | rfl | simp [cat_rf]) ?_
  refine g_aload_n y6 C dX11_cost_9 0 rfl ?_
  refine g_ifnonnull (tgt := 19) y6 C dX11_cost_10 (by decide) (fun c => ?_) (fun c => ?_)
  ·
    obtain ⟨a7, rfl⟩ := rf_some c
    replace hb := hb.2 a7 rfl
    refine g_aload_n (some v0) C dX11_cost_19 1 rfl ?_
    refine g_iconst (v := 0) C dX11_cost_20 (by decide) ?_
    obtain ⟨q11, hb⟩ := hb
    refine g_putI C fl_RX11_101 dX11_cost_21 q11 rfl rfl rfl rfl ?_
    refine g_aload_n (some a7) C dX11_cost_24 0 rfl ?_
    obtain ⟨q12, hb⟩ := hb
    refine g_getIx (zFi (uFi σ5 714 v0 0) 132 a7) C fl_RX11_229 dX11_cost_25 (by rw [zK_uFi]; exact q12) rfl rfl rfl ?_
    exact g_ireturn C hΓ (Nat.zero_le _) (Nat.zero_le _) dX11_cost_28 ⟨_, rfl, hb⟩
  ·
    replace hb := hb.1 c
    refine g_aload_n (some v0) C dX11_cost_13 1 rfl ?_
    refine g_iconst (v := 1) C dX11_cost_14 (by decide) ?_
    obtain ⟨q8, hb⟩ := hb
    refine g_invV (ci := 11) [.int 1] [] zy_X11_refused wd_361 wd_363 wd_0 ⟨_, _, rfl⟩ (by decide) C dX11_cost_15 (by first | exact Nat.le_of_ble_eq_true rfl | simp [cat_rf]) (by first | exact Nat.le_of_ble_eq_true rfl | simp [cat_rf]) (by first | exact Nat.le_of_ble_eq_true rfl | simp [cat_rf]) (Nat.zero_le _) (Nat.zero_le _) rfl rfl q8 (okX11_refused hb) ?_
    rintro o σ9 ⟨y10, rfl, hb⟩
    refine ⟨_, rfl, ?_⟩
    exact g_ireturn C hΓ (Nat.zero_le _) (Nat.zero_le _) dX11_cost_18 ⟨_, rfl, hb⟩
theorem okX11_cost {v0 : Nat} {v1 : Int32} {σ : St} {Q : Int32 → St → Prop} (hb : wX11_cost v0 v1 σ Q) : hM yX11_cost cX11_cost 3 ((Option.some FieldType.int)) 1 21 0 0 [.ref v0, .int v1] σ (oI Q) :=
  hM_of (by decide) (Nat.le_of_ble_eq_true rfl) (fun Γ hΓ C => kwX11_cost_0 C hΓ _ _ _ hb)
def wX11_trust_0 (Q : Int64 → St → Prop) (v0 : Nat) (v1 : Int32) (σ : St) : Prop :=
  zK σ v0 = 12 ∧ ∃ a2 : Nat, zFr σ 708 v0 = some a2 ∧ zK σ a2 = 4 ∧ wX3_at a2 v1 σ (fun y6 σ5 => ((y6 = none → zK σ5 v0 = 12 ∧ wX11_refused v0 1 σ5 (fun y10 σ9 => Q (Int32.toInt64 y10) σ9)) ∧ (∀ a7 : Nat, y6 = some a7 → zK σ5 v0 = 12 ∧ zK σ5 a7 = 3 ∧ Q (zFj σ5 133 a7) (uFi σ5 714 v0 0))))
def wX11_trust (v0 : Nat) (v1 : Int32) (σ : St) (Q : Int64 → St → Prop) : Prop := wX11_trust_0 Q v0 v1 σ
set_option maxRecDepth 20000 in
theorem kwX11_trust_0 {Γ : hCT} (C : hC Γ RX11 cX11_trust ((Option.some FieldType.long)) "trust" 1 21) {Q : Int64 → St → Prop} (hΓ : Γ.2.2.2.2.2.2.2.2.2.2.2 = (3, 0, 0, oJ Q)) (v0 : Nat) (v1 : Int32) (σ : St) (hb : wX11_trust_0 Q v0 v1 σ) : hW Γ 0 0 0 [(0, .ref v0), (1, .int v1)] [] σ := by
  unfold wX11_trust_0 at hb
  refine g_aload_n (some v0) C dX11_trust_0 0 rfl ?_
  obtain ⟨q1, hb⟩ := hb
  obtain ⟨a2, q3, hb⟩ := hb
  refine g_getR (some a2) C fl_RX11_36 dX11_trust_1 q1 rfl rfl q3 ?_
  refine g_iload_n C dX11_trust_4 1 rfl ?_
  obtain ⟨q4, hb⟩ := hb
  refine g_invV (ci := 3) [.int v1] [] zy_X3_at wd_769 wd_751 wd_752 ⟨_, _, rfl⟩ (by decide) C dX11_trust_5 (by first | exact Nat.le_of_ble_eq_true rfl | simp [cat_rf]) (by first | exact Nat.le_of_ble_eq_true rfl | simp [cat_rf]) (by first | exact Nat.le_of_ble_eq_true rfl | simp [cat_rf]) (Nat.zero_le _) (Nat.zero_le _) rfl rfl q4 (okX3_at hb) ?_
  rintro o σ5 ⟨y6, rfl, hb⟩
  refine ⟨_, rfl, ?_⟩
  refine g_astore_n (i := 2) (lv' := [(2, va_rf y6), (0, .ref v0), (1, .int v1)]) y6 C dX11_trust_8 rfl (hnl_of hΓ (by decide)) (by first | rfl | simp [cat_rf]) ?_
  refine g_aload_n y6 C dX11_trust_9 0 rfl ?_
  refine g_ifnonnull (tgt := 20) y6 C dX11_trust_10 (by decide) (fun c => ?_) (fun c => ?_)
  ·
    obtain ⟨a7, rfl⟩ := rf_some c
    replace hb := hb.2 a7 rfl
    refine g_aload_n (some v0) C dX11_trust_20 1 rfl ?_
    refine g_iconst (v := 0) C dX11_trust_21 (by decide) ?_
    obtain ⟨q11, hb⟩ := hb
    refine g_putI C fl_RX11_101 dX11_trust_22 q11 rfl rfl rfl rfl ?_
    refine g_aload_n (some a7) C dX11_trust_25 0 rfl ?_
    obtain ⟨q12, hb⟩ := hb
    refine g_getJx (zFj σ5 133 a7) C fl_RX11_232 dX11_trust_26 (by rw [zK_uFi]; exact q12) rfl rfl (by rw [zFj_uFi]) ?_
    exact g_lreturn C hΓ (Nat.zero_le _) (Nat.zero_le _) dX11_trust_29 ⟨_, rfl, hb⟩
  ·
    replace hb := hb.1 c
    refine g_aload_n (some v0) C dX11_trust_13 1 rfl ?_
    refine g_iconst (v := 1) C dX11_trust_14 (by decide) ?_
    obtain ⟨q8, hb⟩ := hb
    refine g_invV (ci := 11) [.int 1] [] zy_X11_refused wd_361 wd_363 wd_0 ⟨_, _, rfl⟩ (by decide) C dX11_trust_15 (by first | exact Nat.le_of_ble_eq_true rfl | simp [cat_rf]) (by first | exact Nat.le_of_ble_eq_true rfl | simp [cat_rf]) (by first | exact Nat.le_of_ble_eq_true rfl | simp [cat_rf]) (Nat.zero_le _) (Nat.zero_le _) rfl rfl q8 (okX11_refused hb) ?_
    rintro o σ9 ⟨y10, rfl, hb⟩
    refine ⟨_, rfl, ?_⟩
    refine g_i2l C dX11_trust_18 ?_
    exact g_lreturn C hΓ (Nat.zero_le _) (Nat.zero_le _) dX11_trust_19 ⟨_, rfl, hb⟩
theorem okX11_trust {v0 : Nat} {v1 : Int32} {σ : St} {Q : Int64 → St → Prop} (hb : wX11_trust v0 v1 σ Q) : hM yX11_trust cX11_trust 3 ((Option.some FieldType.long)) 1 21 0 0 [.ref v0, .int v1] σ (oJ Q) :=
  hM_of (by decide) (Nat.le_of_ble_eq_true rfl) (fun Γ hΓ C => kwX11_trust_0 C hΓ _ _ _ hb)
def wX11_standsWith_0 (Q : Int32 → St → Prop) (v0 : Nat) (v1 : Int32) (v2 : Int64) (σ : St) : Prop :=
  zK σ v0 = 12 ∧ ∃ a2 : Nat, zFr σ 708 v0 = some a2 ∧ zK σ a2 = 4 ∧ wX3_at a2 v1 σ (fun y6 σ5 => ((y6 = none → zK σ5 v0 = 12 ∧ wX11_refused v0 1 σ5 (fun y10 σ9 => Q y10 σ9)) ∧ (∀ a7 : Nat, y6 = some a7 → zK σ5 v0 = 12 ∧ zK σ5 a7 = 3 ∧ wX2_stands a7 v2 (uFi σ5 714 v0 0) (fun y14 σ13 => ((y14 = 0 → Q 0 σ13) ∧ (¬ y14 = 0 → Q 1 σ13))))))
def wX11_standsWith (v0 : Nat) (v1 : Int32) (v2 : Int64) (σ : St) (Q : Int32 → St → Prop) : Prop := wX11_standsWith_0 Q v0 v1 v2 σ
set_option maxRecDepth 20000 in
theorem kwX11_standsWith_0 {Γ : hCT} (C : hC Γ RX11 cX11_standsWith ((Option.some FieldType.int)) "standsWith" 1 23) {Q : Int32 → St → Prop} (hΓ : Γ.2.2.2.2.2.2.2.2.2.2.2 = (5, 0, 0, oI Q)) (v0 : Nat) (v1 : Int32) (v2 : Int64) (σ : St) (hb : wX11_standsWith_0 Q v0 v1 v2 σ) : hW Γ 0 0 0 [(0, .ref v0), (1, .int v1), (2, .long v2)] [] σ := by
  unfold wX11_standsWith_0 at hb
  refine g_aload_n (some v0) C dX11_standsWith_0 0 rfl ?_
  obtain ⟨q1, hb⟩ := hb
  obtain ⟨a2, q3, hb⟩ := hb
  refine g_getR (some a2) C fl_RX11_36 dX11_standsWith_1 q1 rfl rfl q3 ?_
  refine g_iload_n C dX11_standsWith_4 1 rfl ?_
  obtain ⟨q4, hb⟩ := hb
  refine g_invV (ci := 3) [.int v1] [] zy_X3_at wd_769 wd_751 wd_752 ⟨_, _, rfl⟩ (by decide) C dX11_standsWith_5 (by first | exact Nat.le_of_ble_eq_true rfl | simp [cat_rf]) (by first | exact Nat.le_of_ble_eq_true rfl | simp [cat_rf]) (by first | exact Nat.le_of_ble_eq_true rfl | simp [cat_rf]) (Nat.zero_le _) (Nat.zero_le _) rfl rfl q4 (okX3_at hb) ?_
  rintro o σ5 ⟨y6, rfl, hb⟩
  refine ⟨_, rfl, ?_⟩
  refine g_astore (lv' := [(4, va_rf y6), (0, .ref v0), (1, .int v1), (2, .long v2)]) y6 C dX11_standsWith_8 (hnl_of hΓ (by decide)) (by first | rfl | simp [cat_rf]) ?_
  refine g_aload y6 C dX11_standsWith_10 0 rfl ?_
  refine g_ifnonnull (tgt := 21) y6 C dX11_standsWith_12 (by decide) (fun c => ?_) (fun c => ?_)
  ·
    obtain ⟨a7, rfl⟩ := rf_some c
    replace hb := hb.2 a7 rfl
    refine g_aload_n (some v0) C dX11_standsWith_21 1 rfl ?_
    refine g_iconst (v := 0) C dX11_standsWith_22 (by decide) ?_
    obtain ⟨q11, hb⟩ := hb
    refine g_putI C fl_RX11_101 dX11_standsWith_23 q11 rfl rfl rfl rfl ?_
    refine g_aload (some a7) C dX11_standsWith_26 0 rfl ?_
    refine g_lload_n C dX11_standsWith_28 3 rfl ?_
    obtain ⟨q12, hb⟩ := hb
    refine g_invV (ci := 2) [.long v2] [] zy_X2_stands wd_811 wd_756 wd_757 ⟨_, _, rfl⟩ (by decide) C dX11_standsWith_29 (by first | exact Nat.le_of_ble_eq_true rfl | simp [cat_rf]) (by first | exact Nat.le_of_ble_eq_true rfl | simp [cat_rf]) (by first | exact Nat.le_of_ble_eq_true rfl | simp [cat_rf]) (Nat.zero_le _) (Nat.zero_le _) rfl rfl (by rw [zK_uFi]; exact q12) (okX2_stands hb) ?_
    rintro o σ13 ⟨y14, rfl, hb⟩
    refine ⟨_, rfl, ?_⟩
    refine g_if_eq (tgt := 39) C dX11_standsWith_32 (by decide) (fun c => ?_) (fun c => ?_)
    ·
      replace hb := hb.1 (c)
      refine g_iconst (v := 0) C dX11_standsWith_39 (by decide) ?_
      exact g_ireturn C hΓ (Nat.zero_le _) (Nat.zero_le _) dX11_standsWith_40 ⟨_, rfl, hb⟩
    ·
      replace hb := hb.2 (c)
      refine g_iconst (v := 1) C dX11_standsWith_35 (by decide) ?_
      refine g_goto (tgt := 40) C dX11_standsWith_36 (by decide) ?_
      exact g_ireturn C hΓ (Nat.zero_le _) (Nat.zero_le _) dX11_standsWith_40 ⟨_, rfl, hb⟩
  ·
    replace hb := hb.1 c
    refine g_aload_n (some v0) C dX11_standsWith_15 1 rfl ?_
    refine g_iconst (v := 1) C dX11_standsWith_16 (by decide) ?_
    obtain ⟨q8, hb⟩ := hb
    refine g_invV (ci := 11) [.int 1] [] zy_X11_refused wd_361 wd_363 wd_0 ⟨_, _, rfl⟩ (by decide) C dX11_standsWith_17 (by first | exact Nat.le_of_ble_eq_true rfl | simp [cat_rf]) (by first | exact Nat.le_of_ble_eq_true rfl | simp [cat_rf]) (by first | exact Nat.le_of_ble_eq_true rfl | simp [cat_rf]) (Nat.zero_le _) (Nat.zero_le _) rfl rfl q8 (okX11_refused hb) ?_
    rintro o σ9 ⟨y10, rfl, hb⟩
    refine ⟨_, rfl, ?_⟩
    exact g_ireturn C hΓ (Nat.zero_le _) (Nat.zero_le _) dX11_standsWith_20 ⟨_, rfl, hb⟩
theorem okX11_standsWith {v0 : Nat} {v1 : Int32} {v2 : Int64} {σ : St} {Q : Int32 → St → Prop} (hb : wX11_standsWith v0 v1 v2 σ Q) : hM yX11_standsWith cX11_standsWith 5 ((Option.some FieldType.int)) 1 23 0 0 [.ref v0, .int v1, .long v2] σ (oI Q) :=
  hM_of (by decide) (Nat.le_of_ble_eq_true rfl) (fun Γ hΓ C => kwX11_standsWith_0 C hΓ _ _ _ _ hb)
def wX11_stays_0 (Q : Int32 → St → Prop) (v0 : Nat) (v1 : Int32) (σ : St) : Prop :=
  zK σ v0 = 12 ∧ ∃ a2 : Nat, zFr σ 704 v0 = some a2 ∧ zK σ a2 = 7 ∧ wX11_standsWith v0 v1 ((zFj σ 389 a2) ^^^ (-1)) σ (fun y6 σ5 => Q y6 σ5)
def wX11_stays (v0 : Nat) (v1 : Int32) (σ : St) (Q : Int32 → St → Prop) : Prop := wX11_stays_0 Q v0 v1 σ
set_option maxRecDepth 20000 in
theorem kwX11_stays_0 {Γ : hCT} (C : hC Γ RX11 cX11_stays ((Option.some FieldType.int)) "stays" 2 47) {Q : Int32 → St → Prop} (hΓ : Γ.2.2.2.2.2.2.2.2.2.2.2 = (2, 0, 0, oI Q)) (v0 : Nat) (v1 : Int32) (σ : St) (hb : wX11_stays_0 Q v0 v1 σ) : hW Γ 0 0 0 [(0, .ref v0), (1, .int v1)] [] σ := by
  unfold wX11_stays_0 at hb
  refine g_aload_n (some v0) C dX11_stays_0 0 rfl ?_
  refine g_iload_n C dX11_stays_1 1 rfl ?_
  refine g_aload_n (some v0) C dX11_stays_2 0 rfl ?_
  obtain ⟨q1, hb⟩ := hb
  obtain ⟨a2, q3, hb⟩ := hb
  refine g_getR (some a2) C fl_RX11_12 dX11_stays_3 q1 rfl rfl q3 ?_
  obtain ⟨q4, hb⟩ := hb
  refine g_getJx (zFj σ 389 a2) C fl_RX11_235 dX11_stays_6 q4 rfl rfl rfl ?_
  refine g_ldc2 C wd_463 dX11_stays_9 ?_
  refine g_lxor C dX11_stays_12 ?_
  refine g_invV (ci := 11) [.int v1, .long ((zFj σ 389 a2) ^^^ (-1))] [] zy_X11_standsWith wd_807 wd_809 wd_25 ⟨_, _, rfl⟩ (by decide) C dX11_stays_13 (by first | exact Nat.le_of_ble_eq_true rfl | simp [cat_rf]) (by first | exact Nat.le_of_ble_eq_true rfl | simp [cat_rf]) (by first | exact Nat.le_of_ble_eq_true rfl | simp [cat_rf]) (Nat.zero_le _) (Nat.zero_le _) rfl rfl q1 (okX11_standsWith hb) ?_
  rintro o σ5 ⟨y6, rfl, hb⟩
  refine ⟨_, rfl, ?_⟩
  exact g_ireturn C hΓ (Nat.zero_le _) (Nat.zero_le _) dX11_stays_16 ⟨_, rfl, hb⟩
theorem okX11_stays {v0 : Nat} {v1 : Int32} {σ : St} {Q : Int32 → St → Prop} (hb : wX11_stays v0 v1 σ Q) : hM yX11_stays cX11_stays 2 ((Option.some FieldType.int)) 2 47 0 0 [.ref v0, .int v1] σ (oI Q) :=
  hM_of (by decide) (Nat.le_of_ble_eq_true rfl) (fun Γ hΓ C => kwX11_stays_0 C hΓ _ _ _ hb)
def wX11_without_5 (Q : Int32 → St → Prop) (r5 : Nat → Int64 → Int32 → Int32 → St → Prop) (v0 : Nat) (v1 : Int64) (v3 : Int32) (v4 : Int32) (σ : St) : Prop :=
  zK σ v0 = 12 ∧ ∃ a2 : Nat, zFr σ 708 v0 = some a2 ∧ zK σ a2 = 4 ∧ (((zFi σ 193 a2) ≤ v4 → Q v3 σ) ∧ (¬ (zFi σ 193 a2) ≤ v4 → ∃ a5 : Nat, zFr σ 192 a2 = some a5 ∧ zK σ a5 = 25 ∧ vp_in v4 (zL σ a5) ∧ ∃ a9 : Nat, zAr σ a5 (ix v4) = some a9 ∧ zK σ a9 = 3 ∧ wX2_stands a9 v1 σ (fun y13 σ12 => ((¬ y13 = 0 → r5 v0 v1 v3 (v4 + 1) σ12) ∧ (y13 = 0 → r5 v0 v1 (v3 + 1) (v4 + 1) σ12)))))
def lX11_without_5 (Q : Int32 → St → Prop) : Nat → Nat → Int64 → Int32 → Int32 → St → Prop
  | 0, _, _, _, _, _ => False
  | f + 1, v0, v1, v3, v4, σ => wX11_without_5 Q (lX11_without_5 Q f) v0 v1 v3 v4 σ
def wX11_without_0 (Q : Int32 → St → Prop) (v0 : Nat) (v1 : Int64) (σ : St) : Prop :=
  ∃ f, lX11_without_5 Q f v0 v1 0 0 σ
def wX11_without (v0 : Nat) (v1 : Int64) (σ : St) (Q : Int32 → St → Prop) : Prop := wX11_without_0 Q v0 v1 σ
set_option maxRecDepth 20000 in
theorem kwX11_without_5 {Γ : hCT} (C : hC Γ RX11 cX11_without ((Option.some FieldType.int)) "without" 1 23) {Q : Int32 → St → Prop} (hΓ : Γ.2.2.2.2.2.2.2.2.2.2.2 = (5, 0, 0, oI Q)) {r5 : Nat → Int64 → Int32 → Int32 → St → Prop} (h5 : ∀ (v0 : Nat) (v1 : Int64) (v3 : Int32) (v4 : Int32) (σ : St), r5 v0 v1 v3 v4 σ → hW Γ 0 0 5 [(0, .ref v0), (1, .long v1), (3, .int v3), (4, .int v4)] [] σ) (v0 : Nat) (v1 : Int64) (v3 : Int32) (v4 : Int32) (σ : St) (hb : wX11_without_5 Q r5 v0 v1 v3 v4 σ) : hW Γ 0 0 5 [(0, .ref v0), (1, .long v1), (3, .int v3), (4, .int v4)] [] σ := by
  unfold wX11_without_5 at hb
  refine g_iload C dX11_without_5 3 rfl ?_
  refine g_aload_n (some v0) C dX11_without_7 0 rfl ?_
  obtain ⟨q1, hb⟩ := hb
  obtain ⟨a2, q3, hb⟩ := hb
  refine g_getR (some a2) C fl_RX11_36 dX11_without_8 q1 rfl rfl q3 ?_
  obtain ⟨q4, hb⟩ := hb
  refine g_getIx (zFi σ 193 a2) C fl_RX11_198 dX11_without_11 q4 rfl rfl rfl ?_
  refine g_icmp_ge (tgt := 43) C dX11_without_14 (by decide) (fun c => ?_) (fun c => ?_)
  ·
    replace hb := hb.1 (c)
    refine g_iload_n C dX11_without_43 2 rfl ?_
    exact g_ireturn C hΓ (Nat.zero_le _) (Nat.zero_le _) dX11_without_44 ⟨_, rfl, hb⟩
  ·
    replace hb := hb.2 (c)
    refine g_aload_n (some v0) C dX11_without_17 0 rfl ?_
    refine g_getR (some a2) C fl_RX11_36 dX11_without_18 q1 rfl rfl q3 ?_
    obtain ⟨a5, q6, hb⟩ := hb
    refine g_getR (some a5) C fl_RX11_242 dX11_without_21 q4 rfl rfl q6 ?_
    refine g_iload C dX11_without_24 3 rfl ?_
    obtain ⟨q7, hb⟩ := hb
    obtain ⟨q8, hb⟩ := hb
    obtain ⟨a9, q10, hb⟩ := hb
    refine g_aald (some a9) el_25 C dX11_without_26 q7 q8 q10 ?_
    refine g_lload_n C dX11_without_27 1 rfl ?_
    obtain ⟨q11, hb⟩ := hb
    refine g_invV (ci := 2) [.long v1] [] zy_X2_stands wd_811 wd_756 wd_757 ⟨_, _, rfl⟩ (by decide) C dX11_without_28 (by first | exact Nat.le_of_ble_eq_true rfl | simp [cat_rf]) (by first | exact Nat.le_of_ble_eq_true rfl | simp [cat_rf]) (by first | exact Nat.le_of_ble_eq_true rfl | simp [cat_rf]) (Nat.zero_le _) (Nat.zero_le _) rfl rfl q11 (okX2_stands hb) ?_
    rintro o σ12 ⟨y13, rfl, hb⟩
    refine ⟨_, rfl, ?_⟩
    refine g_if_ne (tgt := 37) C dX11_without_31 (by decide) (fun c => ?_) (fun c => ?_)
    ·
      replace hb := hb.1 (c)
      refine g_iinc (v := v4 + 1) (lv' := [(4, .int (v4 + 1)), (0, .ref v0), (1, .long v1), (3, .int v3)]) C dX11_without_37 3 rfl rfl (hnl_of hΓ (by decide)) (by first | rfl | simp [cat_rf]) ?_
      refine g_goto (tgt := 5) C dX11_without_40 (by decide) ?_
      refine g_sub (lv' := [(0, .ref v0), (1, .long v1), (3, .int v3), (4, .int (v4 + 1))]) [1, 2, 3, 0] rfl ?_
      exact h5 _ _ _ _ _ hb
    ·
      replace hb := hb.2 (c)
      refine g_iinc (v := v3 + 1) (lv' := [(3, .int (v3 + 1)), (0, .ref v0), (1, .long v1), (4, .int v4)]) C dX11_without_34 2 rfl rfl (hnl_of hΓ (by decide)) (by first | rfl | simp [cat_rf]) ?_
      refine g_iinc (v := v4 + 1) (lv' := [(4, .int (v4 + 1)), (3, .int (v3 + 1)), (0, .ref v0), (1, .long v1)]) C dX11_without_37 3 rfl rfl (hnl_of hΓ (by decide)) (by first | rfl | simp [cat_rf]) ?_
      refine g_goto (tgt := 5) C dX11_without_40 (by decide) ?_
      refine g_sub (lv' := [(0, .ref v0), (1, .long v1), (3, .int (v3 + 1)), (4, .int (v4 + 1))]) [2, 3, 1, 0] rfl ?_
      exact h5 _ _ _ _ _ hb
theorem klX11_without_5 {Γ : hCT} (C : hC Γ RX11 cX11_without ((Option.some FieldType.int)) "without" 1 23) {Q : Int32 → St → Prop} (hΓ : Γ.2.2.2.2.2.2.2.2.2.2.2 = (5, 0, 0, oI Q)) (f : Nat) (v0 : Nat) (v1 : Int64) (v3 : Int32) (v4 : Int32) (σ : St) (hb : lX11_without_5 Q f v0 v1 v3 v4 σ) : hW Γ 0 0 5 [(0, .ref v0), (1, .long v1), (3, .int v3), (4, .int v4)] [] σ := by
  induction f generalizing v0 v1 v3 v4 σ with
  | zero => exact hb.elim
  | succ f ih => exact kwX11_without_5 C hΓ  (fun v0 v1 v3 v4 σ h => ih v0 v1 v3 v4 σ h) _ _ _ _ _ hb
set_option maxRecDepth 20000 in
theorem kwX11_without_0 {Γ : hCT} (C : hC Γ RX11 cX11_without ((Option.some FieldType.int)) "without" 1 23) {Q : Int32 → St → Prop} (hΓ : Γ.2.2.2.2.2.2.2.2.2.2.2 = (5, 0, 0, oI Q)) (v0 : Nat) (v1 : Int64) (σ : St) (hb : wX11_without_0 Q v0 v1 σ) : hW Γ 0 0 0 [(0, .ref v0), (1, .long v1)] [] σ := by
  unfold wX11_without_0 at hb
  refine g_iconst (v := 0) C dX11_without_0 (by decide) ?_
  refine g_istore_n (i := 3) (lv' := [(3, .int 0), (0, .ref v0), (1, .long v1)]) C dX11_without_1 rfl (hnl_of hΓ (by decide)) (by first | rfl | simp [cat_rf]) ?_
  refine g_iconst (v := 0) C dX11_without_2 (by decide) ?_
  refine g_istore (lv' := [(4, .int 0), (3, .int 0), (0, .ref v0), (1, .long v1)]) C dX11_without_3 (hnl_of hΓ (by decide)) (by first | rfl | simp [cat_rf]) ?_
  refine g_sub (lv' := [(0, .ref v0), (1, .long v1), (3, .int 0), (4, .int 0)]) [2, 3, 1, 0] rfl ?_
  obtain ⟨f1, hb⟩ := hb
  exact klX11_without_5 C hΓ  f1 _ _ _ _ _ hb
theorem okX11_without {v0 : Nat} {v1 : Int64} {σ : St} {Q : Int32 → St → Prop} (hb : wX11_without v0 v1 σ Q) : hM yX11_without cX11_without 5 ((Option.some FieldType.int)) 1 23 0 0 [.ref v0, .long v1] σ (oI Q) :=
  hM_of (by decide) (Nat.le_of_ble_eq_true rfl) (fun Γ hΓ C => kwX11_without_0 C hΓ _ _ _ hb)
def wX11_with_0 (Q : Int32 → St → Prop) (v0 : Nat) (v1 : Int32) (v2 : Int64) (σ : St) : Prop :=
  zK σ v0 = 12 ∧ wX11_standsWith v0 v1 v2 σ (fun y3 σ2 => Q y3 σ2)
def wX11_with (v0 : Nat) (v1 : Int32) (v2 : Int64) (σ : St) (Q : Int32 → St → Prop) : Prop := wX11_with_0 Q v0 v1 v2 σ
set_option maxRecDepth 20000 in
theorem kwX11_with_0 {Γ : hCT} (C : hC Γ RX11 cX11_with ((Option.some FieldType.int)) "with" 2 47) {Q : Int32 → St → Prop} (hΓ : Γ.2.2.2.2.2.2.2.2.2.2.2 = (4, 0, 0, oI Q)) (v0 : Nat) (v1 : Int32) (v2 : Int64) (σ : St) (hb : wX11_with_0 Q v0 v1 v2 σ) : hW Γ 0 0 0 [(0, .ref v0), (1, .int v1), (2, .long v2)] [] σ := by
  unfold wX11_with_0 at hb
  refine g_aload_n (some v0) C dX11_with_0 0 rfl ?_
  refine g_iload_n C dX11_with_1 1 rfl ?_
  refine g_lload_n C dX11_with_2 2 rfl ?_
  obtain ⟨q1, hb⟩ := hb
  refine g_invV (ci := 11) [.int v1, .long v2] [] zy_X11_standsWith wd_807 wd_809 wd_25 ⟨_, _, rfl⟩ (by decide) C dX11_with_3 (by first | exact Nat.le_of_ble_eq_true rfl | simp [cat_rf]) (by first | exact Nat.le_of_ble_eq_true rfl | simp [cat_rf]) (by first | exact Nat.le_of_ble_eq_true rfl | simp [cat_rf]) (Nat.zero_le _) (Nat.zero_le _) rfl rfl q1 (okX11_standsWith hb) ?_
  rintro o σ2 ⟨y3, rfl, hb⟩
  refine ⟨_, rfl, ?_⟩
  exact g_ireturn C hΓ (Nat.zero_le _) (Nat.zero_le _) dX11_with_6 ⟨_, rfl, hb⟩
theorem okX11_with {v0 : Nat} {v1 : Int32} {v2 : Int64} {σ : St} {Q : Int32 → St → Prop} (hb : wX11_with v0 v1 v2 σ Q) : hM yX11_with cX11_with 4 ((Option.some FieldType.int)) 2 47 0 0 [.ref v0, .int v1, .long v2] σ (oI Q) :=
  hM_of (by decide) (Nat.le_of_ble_eq_true rfl) (fun Γ hΓ C => kwX11_with_0 C hΓ _ _ _ _ hb)
def wX2_inAnyWay_4 (Q : Int64 → St → Prop) (r4 : Nat → Int64 → Int32 → St → Prop) (v0 : Nat) (v1 : Int64) (v3 : Int32) (σ : St) : Prop :=
  zK σ v0 = 3 ∧ (((zFi σ 130 v0) ≤ v3 → Q v1 σ) ∧ (¬ (zFi σ 130 v0) ≤ v3 → ∃ a2 : Nat, zFr σ 129 v0 = some a2 ∧ zK σ a2 = 21 ∧ vp_in v3 (zL σ a2) ∧ r4 v0 (v1 ||| (zAj σ a2 (ix v3))) (v3 + 1) σ))
def lX2_inAnyWay_4 (Q : Int64 → St → Prop) : Nat → Nat → Int64 → Int32 → St → Prop
  | 0, _, _, _, _ => False
  | f + 1, v0, v1, v3, σ => wX2_inAnyWay_4 Q (lX2_inAnyWay_4 Q f) v0 v1 v3 σ
def wX2_inAnyWay_0 (Q : Int64 → St → Prop) (v0 : Nat) (σ : St) : Prop :=
  ∃ f, lX2_inAnyWay_4 Q f v0 0 0 σ
def wX2_inAnyWay (v0 : Nat) (σ : St) (Q : Int64 → St → Prop) : Prop := wX2_inAnyWay_0 Q v0 σ
set_option maxRecDepth 20000 in
theorem kwX2_inAnyWay_4 {Γ : hCT} (C : hC Γ RX2 cX2_inAnyWay ((Option.some FieldType.long)) "inAnyWay" 0 0) {Q : Int64 → St → Prop} (hΓ : Γ.2.2.2.2.2.2.2.2.2.2.2 = (4, 0, 0, oJ Q)) {r4 : Nat → Int64 → Int32 → St → Prop} (h4 : ∀ (v0 : Nat) (v1 : Int64) (v3 : Int32) (σ : St), r4 v0 v1 v3 σ → hW Γ 0 0 4 [(0, .ref v0), (1, .long v1), (3, .int v3)] [] σ) (v0 : Nat) (v1 : Int64) (v3 : Int32) (σ : St) (hb : wX2_inAnyWay_4 Q r4 v0 v1 v3 σ) : hW Γ 0 0 4 [(0, .ref v0), (1, .long v1), (3, .int v3)] [] σ := by
  unfold wX2_inAnyWay_4 at hb
  refine g_iload_n C dX2_inAnyWay_4 2 rfl ?_
  refine g_aload_n (some v0) C dX2_inAnyWay_5 0 rfl ?_
  obtain ⟨q1, hb⟩ := hb
  refine g_getIx (zFi σ 130 v0) C fl_RX2_25 dX2_inAnyWay_6 q1 rfl rfl rfl ?_
  refine g_icmp_ge (tgt := 27) C dX2_inAnyWay_9 (by decide) (fun c => ?_) (fun c => ?_)
  ·
    replace hb := hb.1 (c)
    refine g_lload_n C dX2_inAnyWay_27 1 rfl ?_
    exact g_lreturn C hΓ (Nat.zero_le _) (Nat.zero_le _) dX2_inAnyWay_28 ⟨_, rfl, hb⟩
  ·
    replace hb := hb.2 (c)
    refine g_lload_n C dX2_inAnyWay_12 1 rfl ?_
    refine g_aload_n (some v0) C dX2_inAnyWay_13 0 rfl ?_
    obtain ⟨a2, q3, hb⟩ := hb
    refine g_getR (some a2) C fl_RX2_15 dX2_inAnyWay_14 q1 rfl rfl q3 ?_
    refine g_iload_n C dX2_inAnyWay_17 2 rfl ?_
    obtain ⟨q4, hb⟩ := hb
    obtain ⟨q5, hb⟩ := hb
    refine g_laldx (zAj σ a2 (ix v3)) C dX2_inAnyWay_18 q4 q5 rfl ?_
    refine g_lor C dX2_inAnyWay_19 ?_
    refine g_lstore_n (i := 1) (lv' := [(1, .long (v1 ||| (zAj σ a2 (ix v3)))), (0, .ref v0), (3, .int v3)]) C dX2_inAnyWay_20 rfl (hnl_of hΓ (by decide)) (by first | rfl | simp [cat_rf]) ?_
    refine g_iinc (v := v3 + 1) (lv' := [(3, .int (v3 + 1)), (1, .long (v1 ||| (zAj σ a2 (ix v3)))), (0, .ref v0)]) C dX2_inAnyWay_21 2 rfl rfl (hnl_of hΓ (by decide)) (by first | rfl | simp [cat_rf]) ?_
    refine g_goto (tgt := 4) C dX2_inAnyWay_24 (by decide) ?_
    refine g_sub (lv' := [(0, .ref v0), (1, .long (v1 ||| (zAj σ a2 (ix v3)))), (3, .int (v3 + 1))]) [2, 1, 0] rfl ?_
    exact h4 _ _ _ _ hb
theorem klX2_inAnyWay_4 {Γ : hCT} (C : hC Γ RX2 cX2_inAnyWay ((Option.some FieldType.long)) "inAnyWay" 0 0) {Q : Int64 → St → Prop} (hΓ : Γ.2.2.2.2.2.2.2.2.2.2.2 = (4, 0, 0, oJ Q)) (f : Nat) (v0 : Nat) (v1 : Int64) (v3 : Int32) (σ : St) (hb : lX2_inAnyWay_4 Q f v0 v1 v3 σ) : hW Γ 0 0 4 [(0, .ref v0), (1, .long v1), (3, .int v3)] [] σ := by
  induction f generalizing v0 v1 v3 σ with
  | zero => exact hb.elim
  | succ f ih => exact kwX2_inAnyWay_4 C hΓ  (fun v0 v1 v3 σ h => ih v0 v1 v3 σ h) _ _ _ _ hb
set_option maxRecDepth 20000 in
theorem kwX2_inAnyWay_0 {Γ : hCT} (C : hC Γ RX2 cX2_inAnyWay ((Option.some FieldType.long)) "inAnyWay" 0 0) {Q : Int64 → St → Prop} (hΓ : Γ.2.2.2.2.2.2.2.2.2.2.2 = (4, 0, 0, oJ Q)) (v0 : Nat) (σ : St) (hb : wX2_inAnyWay_0 Q v0 σ) : hW Γ 0 0 0 [(0, .ref v0)] [] σ := by
  unfold wX2_inAnyWay_0 at hb
  refine g_lconst (v := 0) C dX2_inAnyWay_0 (by decide) ?_
  refine g_lstore_n (i := 1) (lv' := [(1, .long 0), (0, .ref v0)]) C dX2_inAnyWay_1 rfl (hnl_of hΓ (by decide)) (by first | rfl | simp [cat_rf]) ?_
  refine g_iconst (v := 0) C dX2_inAnyWay_2 (by decide) ?_
  refine g_istore_n (i := 3) (lv' := [(3, .int 0), (1, .long 0), (0, .ref v0)]) C dX2_inAnyWay_3 rfl (hnl_of hΓ (by decide)) (by first | rfl | simp [cat_rf]) ?_
  refine g_sub (lv' := [(0, .ref v0), (1, .long 0), (3, .int 0)]) [2, 1, 0] rfl ?_
  obtain ⟨f1, hb⟩ := hb
  exact klX2_inAnyWay_4 C hΓ  f1 _ _ _ _ hb
theorem okX2_inAnyWay {v0 : Nat} {σ : St} {Q : Int64 → St → Prop} (hb : wX2_inAnyWay v0 σ Q) : hM yX2_inAnyWay cX2_inAnyWay 4 ((Option.some FieldType.long)) 0 0 0 0 [.ref v0] σ (oJ Q) :=
  hM_of (by decide) (Nat.le_of_ble_eq_true rfl) (fun Γ hΓ C => kwX2_inAnyWay_0 C hΓ _ _ hb)
