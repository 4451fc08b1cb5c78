def wX16_weight_0 (Q : St → Prop) (v0 : Nat) (v1 : Int32) (v2 : Int32) (v3 : Int64) (σ : St) : Prop :=
  ((¬ v2 = 0 → ((¬ v2 = (1 : Int32) → ((¬ v2 = (2 : Int32) → zK σ v0 = 17 ∧ ∃ a2 : Nat, zFr σ 1036 v0 = some a2 ∧ zK σ a2 = 20 ∧ vp_in v1 (zL σ a2) ∧ Q (uAi σ a2 (ix v1) (Int64.toInt32 v3))) ∧ (v2 = (2 : Int32) → zK σ v0 = 17 ∧ ∃ a7 : Nat, zFr σ 1037 v0 = some a7 ∧ vn_snl2d v3 = false ∧ zK σ a7 = 22 ∧ vp_in v1 (zL σ a7) ∧ Q (uAd σ a7 (ix v1) (Int64.toUInt64 v3))))) ∧ (v2 = (1 : Int32) → zK σ v0 = 17 ∧ ∃ a13 : Nat, zFr σ 1035 v0 = some a13 ∧ zK σ a13 = 20 ∧ vp_in v1 (zL σ a13) ∧ Q (uAi σ a13 (ix v1) (Int64.toInt32 v3))))) ∧ (v2 = 0 → zK σ v0 = 17 ∧ ∃ a18 : Nat, zFr σ 1034 v0 = some a18 ∧ zK σ a18 = 20 ∧ vp_in v1 (zL σ a18) ∧ Q (uAi σ a18 (ix v1) (Int64.toInt32 v3))))
def wX16_weight (v0 : Nat) (v1 : Int32) (v2 : Int32) (v3 : Int64) (σ : St) (Q : St → Prop) : Prop := wX16_weight_0 Q v0 v1 v2 v3 σ
set_option maxRecDepth 20000 in
theorem kwX16_weight_0 {Γ : hCT} (C : hC Γ RX16 cX16_weight ((Option.none : Option Jvm.ClassFile.FieldType)) "weight" 1 40) {Q : St → Prop} (hΓ : Γ.2.2.2.2.2.2.2.2.2.2.2 = (5, 0, 0, oV Q)) (v0 : Nat) (v1 : Int32) (v2 : Int32) (v3 : Int64) (σ : St) (hb : wX16_weight_0 Q v0 v1 v2 v3 σ) : hW Γ 0 0 0 [(0, .ref v0), (1, .int v1), (2, .int v2), (3, .long v3)] [] σ := by
  unfold wX16_weight_0 at hb
  refine g_iload_n C dX16_weight_0 2 rfl ?_
  refine g_if_ne (tgt := 15) C dX16_weight_1 (by decide) (fun c => ?_) (fun c => ?_)
  ·
    replace hb := hb.1 (c)
    refine g_iload_n C dX16_weight_15 2 rfl ?_
    refine g_iconst (v := 1) C dX16_weight_16 (by decide) ?_
    refine g_icmp_ne (tgt := 31) C dX16_weight_17 (by decide) (fun c => ?_) (fun c => ?_)
    ·
      replace hb := hb.1 (c)
      refine g_iload_n C dX16_weight_31 2 rfl ?_
      refine g_iconst (v := 2) C dX16_weight_32 (by decide) ?_
      refine g_icmp_ne (tgt := 49) C dX16_weight_33 (by decide) (fun c => ?_) (fun c => ?_)
      ·
        replace hb := hb.1 (c)
        refine g_aload_n (some v0) C dX16_weight_49 0 rfl ?_
        obtain ⟨q1, hb⟩ := hb
        obtain ⟨a2, q3, hb⟩ := hb
        refine g_getR (some a2) C fl_RX16_107 dX16_weight_50 q1 rfl rfl q3 ?_
        refine g_iload_n C dX16_weight_53 1 rfl ?_
        refine g_lload_n C dX16_weight_54 3 rfl ?_
        refine g_l2i C dX16_weight_55 ?_
        obtain ⟨q4, hb⟩ := hb
        obtain ⟨q5, hb⟩ := hb
        refine g_iast C dX16_weight_56 q4 q5 ?_
        exact g_vreturn C hΓ (Nat.zero_le _) (Nat.zero_le _) dX16_weight_57 ⟨rfl, hb⟩
      ·
        replace hb := hb.2 (c)
        refine g_aload_n (some v0) C dX16_weight_36 0 rfl ?_
        obtain ⟨q6, hb⟩ := hb
        obtain ⟨a7, q8, hb⟩ := hb
        refine g_getR (some a7) C fl_RX16_103 dX16_weight_37 q6 rfl rfl q8 ?_
        refine g_iload_n C dX16_weight_40 1 rfl ?_
        refine g_lload_n C dX16_weight_41 3 rfl ?_
        obtain ⟨q9, hb⟩ := hb
        refine g_l2d wd_994 wd_996 wd_995 wd_90 C q9 (by first | exact Nat.le_of_ble_eq_true rfl | simp [cat_rf]) (by first | exact Nat.le_of_ble_eq_true rfl | simp [cat_rf]) dX16_weight_42 ?_
        obtain ⟨q10, hb⟩ := hb
        obtain ⟨q11, hb⟩ := hb
        refine g_dast C dX16_weight_45 q10 q11 ?_
        refine g_goto (tgt := 57) C dX16_weight_46 (by decide) ?_
        exact g_vreturn C hΓ (Nat.zero_le _) (Nat.zero_le _) dX16_weight_57 ⟨rfl, hb⟩
    ·
      replace hb := hb.2 (c)
      refine g_aload_n (some v0) C dX16_weight_20 0 rfl ?_
      obtain ⟨q12, hb⟩ := hb
      obtain ⟨a13, q14, hb⟩ := hb
      refine g_getR (some a13) C fl_RX16_100 dX16_weight_21 q12 rfl rfl q14 ?_
      refine g_iload_n C dX16_weight_24 1 rfl ?_
      refine g_lload_n C dX16_weight_25 3 rfl ?_
      refine g_l2i C dX16_weight_26 ?_
      obtain ⟨q15, hb⟩ := hb
      obtain ⟨q16, hb⟩ := hb
      refine g_iast C dX16_weight_27 q15 q16 ?_
      refine g_goto (tgt := 57) C dX16_weight_28 (by decide) ?_
      exact g_vreturn C hΓ (Nat.zero_le _) (Nat.zero_le _) dX16_weight_57 ⟨rfl, hb⟩
  ·
    replace hb := hb.2 (c)
    refine g_aload_n (some v0) C dX16_weight_4 0 rfl ?_
    obtain ⟨q17, hb⟩ := hb
    obtain ⟨a18, q19, hb⟩ := hb
    refine g_getR (some a18) C fl_RX16_97 dX16_weight_5 q17 rfl rfl q19 ?_
    refine g_iload_n C dX16_weight_8 1 rfl ?_
    refine g_lload_n C dX16_weight_9 3 rfl ?_
    refine g_l2i C dX16_weight_10 ?_
    obtain ⟨q20, hb⟩ := hb
    obtain ⟨q21, hb⟩ := hb
    refine g_iast C dX16_weight_11 q20 q21 ?_
    refine g_goto (tgt := 57) C dX16_weight_12 (by decide) ?_
    exact g_vreturn C hΓ (Nat.zero_le _) (Nat.zero_le _) dX16_weight_57 ⟨rfl, hb⟩
theorem okX16_weight {v0 : Nat} {v1 : Int32} {v2 : Int32} {v3 : Int64} {σ : St} {Q : St → Prop} (hb : wX16_weight v0 v1 v2 v3 σ Q) : hM yX16_weight cX16_weight 5 ((Option.none : Option Jvm.ClassFile.FieldType)) 1 40 0 0 [.ref v0, .int v1, .int v2, .long v3] σ (oV Q) :=
  hM_of (by decide) (Nat.le_of_ble_eq_true rfl) (fun Γ hΓ C => kwX16_weight_0 C hΓ _ _ _ _ _ hb)
def wX15_become_52 (Q : St → Prop) (r52 : Nat → Nat → Int32 → St → Prop) (v0 : Nat) (v1 : Nat) (v2 : Int32) (σ : St) : Prop :=
  (((16 : Int32) ≤ v2 → Q σ) ∧ (¬ (16 : Int32) ≤ v2 → zK σ v0 = 16 ∧ ∃ a2 : Nat, zFr σ 964 v0 = some a2 ∧ zK σ v1 = 16 ∧ ∃ a5 : Nat, zFr σ 964 v1 = some a5 ∧ zK σ a5 = 21 ∧ vp_in v2 (zL σ a5) ∧ zK σ a2 = 21 ∧ vp_in v2 (zL σ a2) ∧ r52 v0 v1 (v2 + 1) (uAj σ a2 (ix v2) (zAj σ a5 (ix v2)))))
def lX15_become_52 (Q : St → Prop) : Nat → Nat → Nat → Int32 → St → Prop
  | 0, _, _, _, _ => False
  | f + 1, v0, v1, v2, σ => wX15_become_52 Q (lX15_become_52 Q f) v0 v1 v2 σ
def wX15_become_26 (Q : St → Prop) (r26 : Nat → Nat → Int32 → St → Prop) (v0 : Nat) (v1 : Nat) (v2 : Int32) (σ : St) : Prop :=
  (((6 : Int32) ≤ v2 → ∃ f, lX15_become_52 Q f v0 v1 0 σ) ∧ (¬ (6 : Int32) ≤ v2 → zK σ v0 = 16 ∧ ∃ a3 : Nat, zFr σ 963 v0 = some a3 ∧ zK σ v1 = 16 ∧ ∃ a6 : Nat, zFr σ 963 v1 = some a6 ∧ zK σ a6 = 20 ∧ vp_in v2 (zL σ a6) ∧ zK σ a3 = 20 ∧ vp_in v2 (zL σ a3) ∧ r26 v0 v1 (v2 + 1) (uAi σ a3 (ix v2) (zAi σ a6 (ix v2)))))
def lX15_become_26 (Q : St → Prop) : Nat → Nat → Nat → Int32 → St → Prop
  | 0, _, _, _, _ => False
  | f + 1, v0, v1, v2, σ => wX15_become_26 Q (lX15_become_26 Q f) v0 v1 v2 σ
def wX15_become_0 (Q : St → Prop) (v0 : Nat) (v1 : Nat) (σ : St) : Prop :=
  zK σ v1 = 16 ∧ zK σ v0 = 16 ∧ ∃ f, lX15_become_26 Q f v0 v1 0 (uFi (uFi (uFi σ 960 v0 (zFi σ 960 v1)) 961 v0 (zFi (uFi σ 960 v0 (zFi σ 960 v1)) 961 v1)) 962 v0 (zFi (uFi (uFi σ 960 v0 (zFi σ 960 v1)) 961 v0 (zFi (uFi σ 960 v0 (zFi σ 960 v1)) 961 v1)) 962 v1))
def wX15_become (v0 : Nat) (v1 : Nat) (σ : St) (Q : St → Prop) : Prop := wX15_become_0 Q v0 v1 σ
set_option maxRecDepth 20000 in
theorem kwX15_become_52 {Γ : hCT} (C : hC Γ RX15 cX15_become ((Option.none : Option Jvm.ClassFile.FieldType)) "become" 0 0) {Q : St → Prop} (hΓ : Γ.2.2.2.2.2.2.2.2.2.2.2 = (3, 0, 0, oV Q)) {r52 : Nat → Nat → Int32 → St → Prop} (h52 : ∀ (v0 : Nat) (v1 : Nat) (v2 : Int32) (σ : St), r52 v0 v1 v2 σ → hW Γ 0 0 52 [(0, .ref v0), (1, .ref v1), (2, .int v2)] [] σ) (v0 : Nat) (v1 : Nat) (v2 : Int32) (σ : St) (hb : wX15_become_52 Q r52 v0 v1 v2 σ) : hW Γ 0 0 52 [(0, .ref v0), (1, .ref v1), (2, .int v2)] [] σ := by
  unfold wX15_become_52 at hb
  refine g_iload_n C dX15_become_52 2 rfl ?_
  refine g_bipush (v := 16) C dX15_become_53 (by decide) ?_
  refine g_icmp_ge (tgt := 76) C dX15_become_55 (by decide) (fun c => ?_) (fun c => ?_)
  ·
    replace hb := hb.1 (c)
    exact g_vreturn C hΓ (Nat.zero_le _) (Nat.zero_le _) dX15_become_76 ⟨rfl, hb⟩
  ·
    replace hb := hb.2 (c)
    refine g_aload_n (some v0) C dX15_become_58 0 rfl ?_
    obtain ⟨q1, hb⟩ := hb
    obtain ⟨a2, q3, hb⟩ := hb
    refine g_getR (some a2) C fl_RX15_15 dX15_become_59 q1 rfl rfl q3 ?_
    refine g_iload_n C dX15_become_62 2 rfl ?_
    refine g_aload_n (some v1) C dX15_become_63 1 rfl ?_
    obtain ⟨q4, hb⟩ := hb
    obtain ⟨a5, q6, hb⟩ := hb
    refine g_getR (some a5) C fl_RX15_15 dX15_become_64 q4 rfl rfl q6 ?_
    refine g_iload_n C dX15_become_67 2 rfl ?_
    obtain ⟨q7, hb⟩ := hb
    obtain ⟨q8, hb⟩ := hb
    refine g_laldx (zAj σ a5 (ix v2)) C dX15_become_68 q7 q8 rfl ?_
    obtain ⟨q9, hb⟩ := hb
    obtain ⟨q10, hb⟩ := hb
    refine g_last C dX15_become_69 q9 q10 ?_
    refine g_iinc (v := v2 + 1) (lv' := [(2, .int (v2 + 1)), (0, .ref v0), (1, .ref v1)]) C dX15_become_70 2 rfl rfl (hnl_of hΓ (by decide)) (by first | rfl | simp [cat_rf]) ?_
    refine g_goto (tgt := 52) C dX15_become_73 (by decide) ?_
    refine g_sub (lv' := [(0, .ref v0), (1, .ref v1), (2, .int (v2 + 1))]) [1, 2, 0] rfl ?_
    exact h52 _ _ _ _ hb
theorem klX15_become_52 {Γ : hCT} (C : hC Γ RX15 cX15_become ((Option.none : Option Jvm.ClassFile.FieldType)) "become" 0 0) {Q : St → Prop} (hΓ : Γ.2.2.2.2.2.2.2.2.2.2.2 = (3, 0, 0, oV Q)) (f : Nat) (v0 : Nat) (v1 : Nat) (v2 : Int32) (σ : St) (hb : lX15_become_52 Q f v0 v1 v2 σ) : hW Γ 0 0 52 [(0, .ref v0), (1, .ref v1), (2, .int v2)] [] σ := by
  induction f generalizing v0 v1 v2 σ with
  | zero => exact hb.elim
  | succ f ih => exact kwX15_become_52 C hΓ  (fun v0 v1 v2 σ h => ih v0 v1 v2 σ h) _ _ _ _ hb
set_option maxRecDepth 20000 in
theorem kwX15_become_26 {Γ : hCT} (C : hC Γ RX15 cX15_become ((Option.none : Option Jvm.ClassFile.FieldType)) "become" 0 0) {Q : St → Prop} (hΓ : Γ.2.2.2.2.2.2.2.2.2.2.2 = (3, 0, 0, oV Q)) {r26 : Nat → Nat → Int32 → St → Prop} (h26 : ∀ (v0 : Nat) (v1 : Nat) (v2 : Int32) (σ : St), r26 v0 v1 v2 σ → hW Γ 0 0 26 [(0, .ref v0), (1, .ref v1), (2, .int v2)] [] σ) (v0 : Nat) (v1 : Nat) (v2 : Int32) (σ : St) (hb : wX15_become_26 Q r26 v0 v1 v2 σ) : hW Γ 0 0 26 [(0, .ref v0), (1, .ref v1), (2, .int v2)] [] σ := by
  unfold wX15_become_26 at hb
  refine g_iload_n C dX15_become_26 2 rfl ?_
  refine g_bipush (v := 6) C dX15_become_27 (by decide) ?_
  refine g_icmp_ge (tgt := 50) C dX15_become_29 (by decide) (fun c => ?_) (fun c => ?_)
  ·
    replace hb := hb.1 (c)
    refine g_iconst (v := 0) C dX15_become_50 (by decide) ?_
    refine g_istore_n (i := 2) (lv' := [(2, .int 0), (0, .ref v0), (1, .ref v1)]) C dX15_become_51 rfl (hnl_of hΓ (by decide)) (by first | rfl | simp [cat_rf]) ?_
    refine g_sub (lv' := [(0, .ref v0), (1, .ref v1), (2, .int 0)]) [1, 2, 0] rfl ?_
    obtain ⟨f1, hb⟩ := hb
    exact klX15_become_52 C hΓ  f1 _ _ _ _ hb
  ·
    replace hb := hb.2 (c)
    refine g_aload_n (some v0) C dX15_become_32 0 rfl ?_
    obtain ⟨q2, hb⟩ := hb
    obtain ⟨a3, q4, hb⟩ := hb
    refine g_getR (some a3) C fl_RX15_9 dX15_become_33 q2 rfl rfl q4 ?_
    refine g_iload_n C dX15_become_36 2 rfl ?_
    refine g_aload_n (some v1) C dX15_become_37 1 rfl ?_
    obtain ⟨q5, hb⟩ := hb
    obtain ⟨a6, q7, hb⟩ := hb
    refine g_getR (some a6) C fl_RX15_9 dX15_become_38 q5 rfl rfl q7 ?_
    refine g_iload_n C dX15_become_41 2 rfl ?_
    obtain ⟨q8, hb⟩ := hb
    obtain ⟨q9, hb⟩ := hb
    refine g_ialdx (zAi σ a6 (ix v2)) C dX15_become_42 q8 q9 rfl ?_
    obtain ⟨q10, hb⟩ := hb
    obtain ⟨q11, hb⟩ := hb
    refine g_iast C dX15_become_43 q10 q11 ?_
    refine g_iinc (v := v2 + 1) (lv' := [(2, .int (v2 + 1)), (0, .ref v0), (1, .ref v1)]) C dX15_become_44 2 rfl rfl (hnl_of hΓ (by decide)) (by first | rfl | simp [cat_rf]) ?_
    refine g_goto (tgt := 26) C dX15_become_47 (by decide) ?_
    refine g_sub (lv' := [(0, .ref v0), (1, .ref v1), (2, .int (v2 + 1))]) [1, 2, 0] rfl ?_
    exact h26 _ _ _ _ hb
theorem klX15_become_26 {Γ : hCT} (C : hC Γ RX15 cX15_become ((Option.none : Option Jvm.ClassFile.FieldType)) "become" 0 0) {Q : St → Prop} (hΓ : Γ.2.2.2.2.2.2.2.2.2.2.2 = (3, 0, 0, oV Q)) (f : Nat) (v0 : Nat) (v1 : Nat) (v2 : Int32) (σ : St) (hb : lX15_become_26 Q f v0 v1 v2 σ) : hW Γ 0 0 26 [(0, .ref v0), (1, .ref v1), (2, .int v2)] [] σ := by
  induction f generalizing v0 v1 v2 σ with
  | zero => exact hb.elim
  | succ f ih => exact kwX15_become_26 C hΓ  (fun v0 v1 v2 σ h => ih v0 v1 v2 σ h) _ _ _ _ hb
set_option maxRecDepth 20000 in
theorem kwX15_become_0 {Γ : hCT} (C : hC Γ RX15 cX15_become ((Option.none : Option Jvm.ClassFile.FieldType)) "become" 0 0) {Q : St → Prop} (hΓ : Γ.2.2.2.2.2.2.2.2.2.2.2 = (3, 0, 0, oV Q)) (v0 : Nat) (v1 : Nat) (σ : St) (hb : wX15_become_0 Q v0 v1 σ) : hW Γ 0 0 0 [(0, .ref v0), (1, .ref v1)] [] σ := by
  unfold wX15_become_0 at hb
  refine g_aload_n (some v0) C dX15_become_0 0 rfl ?_
  refine g_aload_n (some v1) C dX15_become_1 1 rfl ?_
  obtain ⟨q1, hb⟩ := hb
  refine g_getIx (zFi σ 960 v1) C fl_RX15_19 dX15_become_2 q1 rfl rfl rfl ?_
  obtain ⟨q2, hb⟩ := hb
  refine g_putI C fl_RX15_19 dX15_become_5 q2 rfl rfl rfl rfl ?_
  refine g_aload_n (some v0) C dX15_become_8 0 rfl ?_
  refine g_aload_n (some v1) C dX15_become_9 1 rfl ?_
  refine g_getIx (zFi (uFi σ 960 v0 (zFi σ 960 v1)) 961 v1) C fl_RX15_23 dX15_become_10 (by rw [zK_uFi]; exact q1) rfl rfl rfl ?_
  refine g_putI C fl_RX15_23 dX15_become_13 (by rw [zK_uFi]; exact q2) rfl rfl rfl rfl ?_
  refine g_aload_n (some v0) C dX15_become_16 0 rfl ?_
  refine g_aload_n (some v1) C dX15_become_17 1 rfl ?_
  refine g_getIx (zFi (uFi (uFi σ 960 v0 (zFi σ 960 v1)) 961 v0 (zFi (uFi σ 960 v0 (zFi σ 960 v1)) 961 v1)) 962 v1) C fl_RX15_26 dX15_become_18 (by rw [zK_uFi, zK_uFi]; exact q1) rfl rfl rfl ?_
  refine g_putI C fl_RX15_26 dX15_become_21 (by rw [zK_uFi, zK_uFi]; exact q2) rfl rfl rfl rfl ?_
  refine g_iconst (v := 0) C dX15_become_24 (by decide) ?_
  refine g_istore_n (i := 2) (lv' := [(2, .int 0), (0, .ref v0), (1, .ref v1)]) C dX15_become_25 rfl (hnl_of hΓ (by decide)) (by first | rfl | simp [cat_rf]) ?_
  refine g_sub (lv' := [(0, .ref v0), (1, .ref v1), (2, .int 0)]) [1, 2, 0] rfl ?_
  obtain ⟨f3, hb⟩ := hb
  exact klX15_become_26 C hΓ  f3 _ _ _ _ hb
theorem okX15_become {v0 : Nat} {v1 : Nat} {σ : St} {Q : St → Prop} (hb : wX15_become v0 v1 σ Q) : hM yX15_become cX15_become 3 ((Option.none : Option Jvm.ClassFile.FieldType)) 0 0 0 0 [.ref v0, .ref v1] σ (oV Q) :=
  hM_of (by decide) (Nat.le_of_ble_eq_true rfl) (fun Γ hΓ C => kwX15_become_0 C hΓ _ _ _ hb)
def wX16_undo_135 (Q : Int32 → St → Prop) (s2 : Int32) (s1 : Int32) (s0 : Nat) (σ : St) : Prop :=
  zK σ s0 = 23 ∧ vp_in s1 (zL σ s0) ∧ Q 1 (uAi σ s0 (ix s1) (vp_nar .boolean s2))
def wX16_undo_0 (Q : Int32 → St → Prop) (v0 : Nat) (σ : St) : Prop :=
  zK σ v0 = 17 ∧ ((¬ (zFi (uFi σ 1024 v0 0) 1027 v0) = 0 → ∃ a2 : Nat, zFr σ 1026 v0 = some a2 ∧ zK σ a2 = 29 ∧ vp_in (zFi (uFi (uFi σ 1024 v0 0) 1027 v0 ((zFi (uFi σ 1024 v0 0) 1027 v0) - 1)) 1027 v0) (zL σ a2) ∧ ∃ a6 : Nat, zAr σ a2 (ix (zFi (uFi (uFi σ 1024 v0 0) 1027 v0 ((zFi (uFi σ 1024 v0 0) 1027 v0) - 1)) 1027 v0)) = some a6 ∧ zK σ a6 = 13 ∧ (((zFi (uFi (uFi σ 1024 v0 0) 1027 v0 ((zFi (uFi σ 1024 v0 0) 1027 v0) - 1)) 768 a6) = 0 → ∃ a9 : Nat, zFr σ 1050 v0 = some a9 ∧ zK σ a9 = 15 ∧ Q 1 (uFi (uFi (uFi (uFi σ 1024 v0 0) 1027 v0 ((zFi (uFi σ 1024 v0 0) 1027 v0) - 1)) 1028 v0 ((zFi (uFi (uFi σ 1024 v0 0) 1027 v0 ((zFi (uFi σ 1024 v0 0) 1027 v0) - 1)) 1028 v0) - 1)) 896 a9 0)) ∧ ((zFi (uFi (uFi σ 1024 v0 0) 1027 v0 ((zFi (uFi σ 1024 v0 0) 1027 v0) - 1)) 768 a6) = 1 → ∃ a13 : Nat, zFr σ 1050 v0 = some a13 ∧ zK σ a13 = 15 ∧ Q 1 (uFi (uFi (uFi (uFi σ 1024 v0 0) 1027 v0 ((zFi (uFi σ 1024 v0 0) 1027 v0) - 1)) 1029 v0 ((zFi (uFi (uFi σ 1024 v0 0) 1027 v0 ((zFi (uFi σ 1024 v0 0) 1027 v0) - 1)) 1029 v0) - 1)) 896 a13 0)) ∧ ((zFi (uFi (uFi σ 1024 v0 0) 1027 v0 ((zFi (uFi σ 1024 v0 0) 1027 v0) - 1)) 768 a6) = 2 → ∃ a17 : Nat, zFr σ 1038 v0 = some a17 ∧ ((¬ (zFi (uFi (uFi σ 1024 v0 0) 1027 v0 ((zFi (uFi σ 1024 v0 0) 1027 v0) - 1)) 770 a6) = (1 : Int32) → wX16_undo_135 Q 0 (zFi (uFi (uFi σ 1024 v0 0) 1027 v0 ((zFi (uFi σ 1024 v0 0) 1027 v0) - 1)) 769 a6) a17 (uFi (uFi σ 1024 v0 0) 1027 v0 ((zFi (uFi σ 1024 v0 0) 1027 v0) - 1))) ∧ ((zFi (uFi (uFi σ 1024 v0 0) 1027 v0 ((zFi (uFi σ 1024 v0 0) 1027 v0) - 1)) 770 a6) = (1 : Int32) → wX16_undo_135 Q 1 (zFi (uFi (uFi σ 1024 v0 0) 1027 v0 ((zFi (uFi σ 1024 v0 0) 1027 v0) - 1)) 769 a6) a17 (uFi (uFi σ 1024 v0 0) 1027 v0 ((zFi (uFi σ 1024 v0 0) 1027 v0) - 1))))) ∧ ((zFi (uFi (uFi σ 1024 v0 0) 1027 v0 ((zFi (uFi σ 1024 v0 0) 1027 v0) - 1)) 768 a6) = 3 → wX16_weight v0 (zFi (uFi (uFi σ 1024 v0 0) 1027 v0 ((zFi (uFi σ 1024 v0 0) 1027 v0) - 1)) 769 a6) (zFi (uFi (uFi σ 1024 v0 0) 1027 v0 ((zFi (uFi σ 1024 v0 0) 1027 v0) - 1)) 770 a6) (zFj σ 771 a6) (uFi (uFi σ 1024 v0 0) 1027 v0 ((zFi (uFi σ 1024 v0 0) 1027 v0) - 1)) (fun σ20 => Q 1 σ20)) ∧ ((zFi (uFi (uFi σ 1024 v0 0) 1027 v0 ((zFi (uFi σ 1024 v0 0) 1027 v0) - 1)) 768 a6) = 4 → Q 1 (uFi (uFi (uFi σ 1024 v0 0) 1027 v0 ((zFi (uFi σ 1024 v0 0) 1027 v0) - 1)) 1030 v0 ((zFi (uFi (uFi σ 1024 v0 0) 1027 v0 ((zFi (uFi σ 1024 v0 0) 1027 v0) - 1)) 1030 v0) - 1))) ∧ (¬ (zFi (uFi (uFi σ 1024 v0 0) 1027 v0 ((zFi (uFi σ 1024 v0 0) 1027 v0) - 1)) 768 a6) = 0 → ¬ (zFi (uFi (uFi σ 1024 v0 0) 1027 v0 ((zFi (uFi σ 1024 v0 0) 1027 v0) - 1)) 768 a6) = 1 → ¬ (zFi (uFi (uFi σ 1024 v0 0) 1027 v0 ((zFi (uFi σ 1024 v0 0) 1027 v0) - 1)) 768 a6) = 2 → ¬ (zFi (uFi (uFi σ 1024 v0 0) 1027 v0 ((zFi (uFi σ 1024 v0 0) 1027 v0) - 1)) 768 a6) = 3 → ¬ (zFi (uFi (uFi σ 1024 v0 0) 1027 v0 ((zFi (uFi σ 1024 v0 0) 1027 v0) - 1)) 768 a6) = 4 → ∃ a23 : Nat, zFr σ 1052 v0 = some a23 ∧ zK σ a23 = 31 ∧ vp_in (zFi (uFi (uFi σ 1024 v0 0) 1027 v0 ((zFi (uFi σ 1024 v0 0) 1027 v0) - 1)) 769 a6) (zL σ a23) ∧ ∃ a27 : Nat, zAr σ a23 (ix (zFi (uFi (uFi σ 1024 v0 0) 1027 v0 ((zFi (uFi σ 1024 v0 0) 1027 v0) - 1)) 769 a6)) = some a27 ∧ ∃ a29 : Nat, zFr σ 772 a6 = some a29 ∧ zK σ a27 = 16 ∧ wX15_become a27 a29 (uFi (uFi σ 1024 v0 0) 1027 v0 ((zFi (uFi σ 1024 v0 0) 1027 v0) - 1)) (fun σ32 => Q 1 σ32)))) ∧ ((zFi (uFi σ 1024 v0 0) 1027 v0) = 0 → Q 0 (uFi σ 1024 v0 0)))
def wX16_undo (v0 : Nat) (σ : St) (Q : Int32 → St → Prop) : Prop := wX16_undo_0 Q v0 σ
set_option maxRecDepth 20000 in
theorem kwX16_undo_135 {Γ : hCT} (C : hC Γ RX16 cX16_undo ((Option.some FieldType.int)) "undo" 2 64) {Q : Int32 → St → Prop} (hΓ : Γ.2.2.2.2.2.2.2.2.2.2.2 = (2, 0, 0, oI Q)) (s2 : Int32) (s1 : Int32) (s0 : Nat) (σ : St) (hb : wX16_undo_135 Q s2 s1 s0 σ) : hW Γ 0 0 135 [] [.int s2, .int s1, .ref s0] σ := by
  unfold wX16_undo_135 at hb
  obtain ⟨q1, hb⟩ := hb
  obtain ⟨q2, hb⟩ := hb
  refine g_zast C dX16_undo_135 q1 q2 ?_
  refine g_goto (tgt := 187) C dX16_undo_136 (by decide) ?_
  refine g_iconst (v := 1) C dX16_undo_187 (by decide) ?_
  exact g_ireturn C hΓ (Nat.zero_le _) (Nat.zero_le _) dX16_undo_188 ⟨_, rfl, hb⟩
set_option maxRecDepth 20000 in
theorem kwX16_undo_0 {Γ : hCT} (C : hC Γ RX16 cX16_undo ((Option.some FieldType.int)) "undo" 2 64) {Q : Int32 → St → Prop} (hΓ : Γ.2.2.2.2.2.2.2.2.2.2.2 = (2, 0, 0, oI Q)) (v0 : Nat) (σ : St) (hb : wX16_undo_0 Q v0 σ) : hW Γ 0 0 0 [(0, .ref v0)] [] σ := by
  unfold wX16_undo_0 at hb
  refine g_aload_n (some v0) C dX16_undo_0 0 rfl ?_
  refine g_iconst (v := 0) C dX16_undo_1 (by decide) ?_
  obtain ⟨q1, hb⟩ := hb
  refine g_putI C fl_RX16_1 dX16_undo_2 q1 rfl rfl rfl rfl ?_
  refine g_aload_n (some v0) C dX16_undo_5 0 rfl ?_
  refine g_getIx (zFi (uFi σ 1024 v0 0) 1027 v0) C fl_RX16_10 dX16_undo_6 (by rw [zK_uFi]; exact q1) rfl rfl rfl ?_
  refine g_if_ne (tgt := 14) C dX16_undo_9 (by decide) (fun c => ?_) (fun c => ?_)
  ·
    replace hb := hb.1 (c)
    refine g_aload_n (some v0) C dX16_undo_14 0 rfl ?_
    refine g_dup C dX16_undo_15 rfl ?_
    refine g_getIx (zFi (uFi σ 1024 v0 0) 1027 v0) C fl_RX16_10 dX16_undo_16 (by rw [zK_uFi]; exact q1) rfl rfl rfl ?_
    refine g_iconst (v := 1) C dX16_undo_19 (by decide) ?_
    refine g_isub C dX16_undo_20 ?_
    refine g_putI C fl_RX16_10 dX16_undo_21 (by rw [zK_uFi]; exact q1) rfl rfl rfl rfl ?_
    refine g_aload_n (some v0) C dX16_undo_24 0 rfl ?_
    obtain ⟨a2, q3, hb⟩ := hb
    refine g_getR (some a2) C fl_RX16_13 dX16_undo_25 (by rw [zK_uFi, zK_uFi]; exact q1) rfl rfl (by rw [zFr_uFi, zFr_uFi]; exact q3) ?_
    refine g_aload_n (some v0) C dX16_undo_28 0 rfl ?_
    refine g_getIx (zFi (uFi (uFi σ 1024 v0 0) 1027 v0 ((zFi (uFi σ 1024 v0 0) 1027 v0) - 1)) 1027 v0) C fl_RX16_10 dX16_undo_29 (by rw [zK_uFi, zK_uFi]; exact q1) rfl rfl rfl ?_
    obtain ⟨q4, hb⟩ := hb
    obtain ⟨q5, hb⟩ := hb
    obtain ⟨a6, q7, hb⟩ := hb
    refine g_aald (some a6) el_29 C dX16_undo_32 (by rw [zK_uFi, zK_uFi]; exact q4) (by rw [zL_uFi, zL_uFi]; exact q5) (by rw [zAr_uFi, zAr_uFi]; exact q7) ?_
    refine g_astore_n (i := 1) (lv' := [(1, .ref a6), (0, .ref v0)]) (some a6) C dX16_undo_33 rfl (hnl_of hΓ (by decide)) (by first | rfl | simp [cat_rf]) ?_
    refine g_aload_n (some a6) C dX16_undo_34 0 rfl ?_
    obtain ⟨q8, hb⟩ := hb
    refine g_getIx (zFi (uFi (uFi σ 1024 v0 0) 1027 v0 ((zFi (uFi σ 1024 v0 0) 1027 v0) - 1)) 768 a6) C fl_RX16_17 dX16_undo_35 (by rw [zK_uFi, zK_uFi]; exact q8) rfl rfl rfl ?_
    by_cases c12 : (zFi (uFi (uFi σ 1024 v0 0) 1027 v0 ((zFi (uFi σ 1024 v0 0) 1027 v0) - 1)) 768 a6) = 0
    ·
      replace hb := hb.1 c12
      refine g_tabIn (tgt := 72) (off := 34) C dX16_undo_38 (by rw [c12]; decide) (by rw [c12]; decide) (by rw [c12]; rfl) (by decide) ?_
      refine g_aload_n (some v0) C dX16_undo_72 1 rfl ?_
      refine g_dup C dX16_undo_73 rfl ?_
      refine g_getIx (zFi (uFi (uFi σ 1024 v0 0) 1027 v0 ((zFi (uFi σ 1024 v0 0) 1027 v0) - 1)) 1028 v0) C fl_RX16_28 dX16_undo_74 (by rw [zK_uFi, zK_uFi]; exact q1) rfl rfl rfl ?_
      refine g_iconst (v := 1) C dX16_undo_77 (by decide) ?_
      refine g_isub C dX16_undo_78 ?_
      refine g_putI C fl_RX16_28 dX16_undo_79 (by rw [zK_uFi, zK_uFi]; exact q1) rfl rfl rfl rfl ?_
      refine g_aload_n (some v0) C dX16_undo_82 1 rfl ?_
      obtain ⟨a9, q10, hb⟩ := hb
      refine g_getR (some a9) C fl_RX16_31 dX16_undo_83 (by rw [zK_uFi, zK_uFi, zK_uFi]; exact q1) rfl rfl (by rw [zFr_uFi, zFr_uFi, zFr_uFi]; exact q10) ?_
      refine g_iconst (v := 0) C dX16_undo_86 (by decide) ?_
      obtain ⟨q11, hb⟩ := hb
      refine g_putI C fl_RX16_35 dX16_undo_87 (by rw [zK_uFi, zK_uFi, zK_uFi]; exact q11) rfl rfl rfl rfl ?_
      refine g_goto (tgt := 187) C dX16_undo_90 (by decide) ?_
      refine g_iconst (v := 1) C dX16_undo_187 (by decide) ?_
      exact g_ireturn C hΓ (Nat.zero_le _) (Nat.zero_le _) dX16_undo_188 ⟨_, rfl, hb⟩
    ·
      by_cases c16 : (zFi (uFi (uFi σ 1024 v0 0) 1027 v0 ((zFi (uFi σ 1024 v0 0) 1027 v0) - 1)) 768 a6) = 1
      ·
        replace hb := hb.2.1 c16
        refine g_tabIn (tgt := 93) (off := 55) C dX16_undo_38 (by rw [c16]; decide) (by rw [c16]; decide) (by rw [c16]; rfl) (by decide) ?_
        refine g_aload_n (some v0) C dX16_undo_93 1 rfl ?_
        refine g_dup C dX16_undo_94 rfl ?_
        refine g_getIx (zFi (uFi (uFi σ 1024 v0 0) 1027 v0 ((zFi (uFi σ 1024 v0 0) 1027 v0) - 1)) 1029 v0) C fl_RX16_40 dX16_undo_95 (by rw [zK_uFi, zK_uFi]; exact q1) rfl rfl rfl ?_
        refine g_iconst (v := 1) C dX16_undo_98 (by decide) ?_
        refine g_isub C dX16_undo_99 ?_
        refine g_putI C fl_RX16_40 dX16_undo_100 (by rw [zK_uFi, zK_uFi]; exact q1) rfl rfl rfl rfl ?_
        refine g_aload_n (some v0) C dX16_undo_103 1 rfl ?_
        obtain ⟨a13, q14, hb⟩ := hb
        refine g_getR (some a13) C fl_RX16_31 dX16_undo_104 (by rw [zK_uFi, zK_uFi, zK_uFi]; exact q1) rfl rfl (by rw [zFr_uFi, zFr_uFi, zFr_uFi]; exact q14) ?_
        refine g_iconst (v := 0) C dX16_undo_107 (by decide) ?_
        obtain ⟨q15, hb⟩ := hb
        refine g_putI C fl_RX16_35 dX16_undo_108 (by rw [zK_uFi, zK_uFi, zK_uFi]; exact q15) rfl rfl rfl rfl ?_
        refine g_goto (tgt := 187) C dX16_undo_111 (by decide) ?_
        refine g_iconst (v := 1) C dX16_undo_187 (by decide) ?_
        exact g_ireturn C hΓ (Nat.zero_le _) (Nat.zero_le _) dX16_undo_188 ⟨_, rfl, hb⟩
      ·
        by_cases c19 : (zFi (uFi (uFi σ 1024 v0 0) 1027 v0 ((zFi (uFi σ 1024 v0 0) 1027 v0) - 1)) 768 a6) = 2
        ·
          replace hb := hb.2.2.1 c19
          refine g_tabIn (tgt := 114) (off := 76) C dX16_undo_38 (by rw [c19]; decide) (by rw [c19]; decide) (by rw [c19]; rfl) (by decide) ?_
          refine g_aload_n (some v0) C dX16_undo_114 1 rfl ?_
          obtain ⟨a17, q18, hb⟩ := hb
          refine g_getR (some a17) C fl_RX16_43 dX16_undo_115 (by rw [zK_uFi, zK_uFi]; exact q1) rfl rfl (by rw [zFr_uFi, zFr_uFi]; exact q18) ?_
          refine g_aload_n (some a6) C dX16_undo_118 0 rfl ?_
          refine g_getIx (zFi (uFi (uFi σ 1024 v0 0) 1027 v0 ((zFi (uFi σ 1024 v0 0) 1027 v0) - 1)) 769 a6) C fl_RX16_22 dX16_undo_119 (by rw [zK_uFi, zK_uFi]; exact q8) rfl rfl rfl ?_
          refine g_aload_n (some a6) C dX16_undo_122 0 rfl ?_
          refine g_getIx (zFi (uFi (uFi σ 1024 v0 0) 1027 v0 ((zFi (uFi σ 1024 v0 0) 1027 v0) - 1)) 770 a6) C fl_RX16_25 dX16_undo_123 (by rw [zK_uFi, zK_uFi]; exact q8) rfl rfl rfl ?_
          refine g_iconst (v := 1) C dX16_undo_126 (by decide) ?_
          refine g_icmp_ne (tgt := 134) C dX16_undo_127 (by decide) (fun c => ?_) (fun c => ?_)
          ·
            replace hb := hb.1 (c)
            refine g_iconst (v := 0) C dX16_undo_134 (by decide) ?_
            refine g_sub (lv' := []) [] rfl ?_
            exact kwX16_undo_135 C hΓ  _ _ _ _ hb
          ·
            replace hb := hb.2 (c)
            refine g_iconst (v := 1) C dX16_undo_130 (by decide) ?_
            refine g_goto (tgt := 135) C dX16_undo_131 (by decide) ?_
            refine g_sub (lv' := []) [] rfl ?_
            exact kwX16_undo_135 C hΓ  _ _ _ _ hb
        ·
          by_cases c21 : (zFi (uFi (uFi σ 1024 v0 0) 1027 v0 ((zFi (uFi σ 1024 v0 0) 1027 v0) - 1)) 768 a6) = 3
          ·
            replace hb := hb.2.2.2.1 c21
            refine g_tabIn (tgt := 139) (off := 101) C dX16_undo_38 (by rw [c21]; decide) (by rw [c21]; decide) (by rw [c21]; rfl) (by decide) ?_
            refine g_aload_n (some v0) C dX16_undo_139 1 rfl ?_
            refine g_aload_n (some a6) C dX16_undo_140 0 rfl ?_
            refine g_getIx (zFi (uFi (uFi σ 1024 v0 0) 1027 v0 ((zFi (uFi σ 1024 v0 0) 1027 v0) - 1)) 769 a6) C fl_RX16_22 dX16_undo_141 (by rw [zK_uFi, zK_uFi]; exact q8) rfl rfl rfl ?_
            refine g_aload_n (some a6) C dX16_undo_144 0 rfl ?_
            refine g_getIx (zFi (uFi (uFi σ 1024 v0 0) 1027 v0 ((zFi (uFi σ 1024 v0 0) 1027 v0) - 1)) 770 a6) C fl_RX16_25 dX16_undo_145 (by rw [zK_uFi, zK_uFi]; exact q8) rfl rfl rfl ?_
            refine g_aload_n (some a6) C dX16_undo_148 0 rfl ?_
            refine g_getJx (zFj σ 771 a6) C fl_RX16_47 dX16_undo_149 (by rw [zK_uFi, zK_uFi]; exact q8) rfl rfl (by rw [zFj_uFi, zFj_uFi]) ?_
            refine g_invV (ci := 16) [.int (zFi (uFi (uFi σ 1024 v0 0) 1027 v0 ((zFi (uFi σ 1024 v0 0) 1027 v0) - 1)) 769 a6), .int (zFi (uFi (uFi σ 1024 v0 0) 1027 v0 ((zFi (uFi σ 1024 v0 0) 1027 v0) - 1)) 770 a6), .long (zFj σ 771 a6)] [] zy_X16_weight wd_989 wd_991 wd_37 ⟨_, _, rfl⟩ (by decide) C dX16_undo_152 (by first | exact Nat.le_of_ble_eq_true rfl | simp [cat_rf]) (by first | exact Nat.le_of_ble_eq_true rfl | simp [cat_rf]) (by first | exact Nat.le_of_ble_eq_true rfl | simp [cat_rf]) (Nat.zero_le _) (Nat.zero_le _) rfl rfl (by rw [zK_uFi, zK_uFi]; exact q1) (okX16_weight hb) ?_
            rintro o σ20 ⟨rfl, hb⟩
            refine ⟨_, rfl, ?_⟩
            refine g_goto (tgt := 187) C dX16_undo_155 (by decide) ?_
            refine g_iconst (v := 1) C dX16_undo_187 (by decide) ?_
            exact g_ireturn C hΓ (Nat.zero_le _) (Nat.zero_le _) dX16_undo_188 ⟨_, rfl, hb⟩
          ·
            by_cases c22 : (zFi (uFi (uFi σ 1024 v0 0) 1027 v0 ((zFi (uFi σ 1024 v0 0) 1027 v0) - 1)) 768 a6) = 4
            ·
              replace hb := hb.2.2.2.2.1 c22
              refine g_tabIn (tgt := 158) (off := 120) C dX16_undo_38 (by rw [c22]; decide) (by rw [c22]; decide) (by rw [c22]; rfl) (by decide) ?_
              refine g_aload_n (some v0) C dX16_undo_158 1 rfl ?_
              refine g_dup C dX16_undo_159 rfl ?_
              refine g_getIx (zFi (uFi (uFi σ 1024 v0 0) 1027 v0 ((zFi (uFi σ 1024 v0 0) 1027 v0) - 1)) 1030 v0) C fl_RX16_55 dX16_undo_160 (by rw [zK_uFi, zK_uFi]; exact q1) rfl rfl rfl ?_
              refine g_iconst (v := 1) C dX16_undo_163 (by decide) ?_
              refine g_isub C dX16_undo_164 ?_
              refine g_putI C fl_RX16_55 dX16_undo_165 (by rw [zK_uFi, zK_uFi]; exact q1) rfl rfl rfl rfl ?_
              refine g_goto (tgt := 187) C dX16_undo_168 (by decide) ?_
              refine g_iconst (v := 1) C dX16_undo_187 (by decide) ?_
              exact g_ireturn C hΓ (Nat.zero_le _) (Nat.zero_le _) dX16_undo_188 ⟨_, rfl, hb⟩
            ·
              replace hb := hb.2.2.2.2.2 c12 c16 c19 c21 c22
              have hz : Int32.toInt (zFi (uFi (uFi σ 1024 v0 0) 1027 v0 ((zFi (uFi σ 1024 v0 0) 1027 v0) - 1)) 768 a6) < 0 ∨ 4 < Int32.toInt (zFi (uFi (uFi σ 1024 v0 0) 1027 v0 ((zFi (uFi σ 1024 v0 0) 1027 v0) - 1)) 768 a6) := by
                have h_c12 := i32_ne c12
                have h_c16 := i32_ne c16
                have h_c19 := i32_ne c19
                have h_c21 := i32_ne c21
                have h_c22 := i32_ne c22
                rw [show Int32.toInt 0 = 0 from rfl] at h_c12; rw [show Int32.toInt 1 = 1 from rfl] at h_c16; rw [show Int32.toInt 2 = 2 from rfl] at h_c19; rw [show Int32.toInt 3 = 3 from rfl] at h_c21; rw [show Int32.toInt 4 = 4 from rfl] at h_c22
                omega
              refine g_tabOut (tgt := 171) C dX16_undo_38 hz (by decide) ?_
              refine g_aload_n (some v0) C dX16_undo_171 1 rfl ?_
              obtain ⟨a23, q24, hb⟩ := hb
              refine g_getR (some a23) C fl_RX16_58 dX16_undo_172 (by rw [zK_uFi, zK_uFi]; exact q1) rfl rfl (by rw [zFr_uFi, zFr_uFi]; exact q24) ?_
              refine g_aload_n (some a6) C dX16_undo_175 0 rfl ?_
              refine g_getIx (zFi (uFi (uFi σ 1024 v0 0) 1027 v0 ((zFi (uFi σ 1024 v0 0) 1027 v0) - 1)) 769 a6) C fl_RX16_22 dX16_undo_176 (by rw [zK_uFi, zK_uFi]; exact q8) rfl rfl rfl ?_
              obtain ⟨q25, hb⟩ := hb
              obtain ⟨q26, hb⟩ := hb
              obtain ⟨a27, q28, hb⟩ := hb
              refine g_aald (some a27) el_31 C dX16_undo_179 (by rw [zK_uFi, zK_uFi]; exact q25) (by rw [zL_uFi, zL_uFi]; exact q26) (by rw [zAr_uFi, zAr_uFi]; exact q28) ?_
              refine g_aload_n (some a6) C dX16_undo_180 0 rfl ?_
              obtain ⟨a29, q30, hb⟩ := hb
              refine g_getR (some a29) C fl_RX16_62 dX16_undo_181 (by rw [zK_uFi, zK_uFi]; exact q8) rfl rfl (by rw [zFr_uFi, zFr_uFi]; exact q30) ?_
              obtain ⟨q31, hb⟩ := hb
              refine g_invV (ci := 15) [.ref a29] [] zy_X15_become wd_997 wd_998 wd_999 ⟨_, _, rfl⟩ (by decide) C dX16_undo_184 (by first | exact Nat.le_of_ble_eq_true rfl | simp [cat_rf]) (by first | exact Nat.le_of_ble_eq_true rfl | simp [cat_rf]) (by first | exact Nat.le_of_ble_eq_true rfl | simp [cat_rf]) (Nat.zero_le _) (Nat.zero_le _) rfl rfl (by rw [zK_uFi, zK_uFi]; exact q31) (okX15_become hb) ?_
              rintro o σ32 ⟨rfl, hb⟩
              refine ⟨_, rfl, ?_⟩
              refine g_iconst (v := 1) C dX16_undo_187 (by decide) ?_
              exact g_ireturn C hΓ (Nat.zero_le _) (Nat.zero_le _) dX16_undo_188 ⟨_, rfl, hb⟩
  ·
    replace hb := hb.2 (c)
    refine g_iconst (v := 0) C dX16_undo_12 (by decide) ?_
    exact g_ireturn C hΓ (Nat.zero_le _) (Nat.zero_le _) dX16_undo_13 ⟨_, rfl, hb⟩
theorem okX16_undo {v0 : Nat} {σ : St} {Q : Int32 → St → Prop} (hb : wX16_undo v0 σ Q) : hM yX16_undo cX16_undo 2 ((Option.some FieldType.int)) 2 64 0 0 [.ref v0] σ (oI Q) :=
  hM_of (by decide) (Nat.le_of_ble_eq_true rfl) (fun Γ hΓ C => kwX16_undo_0 C hΓ _ _ hb)
def wX16_refused_0 (Q : Int32 → St → Prop) (v0 : Nat) (v1 : Int32) (σ : St) : Prop :=
  zK σ v0 = 17 ∧ Q (-1) (uFi σ 1025 v0 v1)
def wX16_refused (v0 : Nat) (v1 : Int32) (σ : St) (Q : Int32 → St → Prop) : Prop := wX16_refused_0 Q v0 v1 σ
set_option maxRecDepth 20000 in
theorem kwX16_refused_0 {Γ : hCT} (C : hC Γ RX16 cX16_refused ((Option.some FieldType.int)) "refused" 0 0) {Q : Int32 → St → Prop} (hΓ : Γ.2.2.2.2.2.2.2.2.2.2.2 = (2, 0, 0, oI Q)) (v0 : Nat) (v1 : Int32) (σ : St) (hb : wX16_refused_0 Q v0 v1 σ) : hW Γ 0 0 0 [(0, .ref v0), (1, .int v1)] [] σ := by
  unfold wX16_refused_0 at hb
  refine g_aload_n (some v0) C dX16_refused_0 0 rfl ?_
  refine g_iload_n C dX16_refused_1 1 rfl ?_
  obtain ⟨q1, hb⟩ := hb
  refine g_putI C fl_RX16_7 dX16_refused_2 q1 rfl rfl rfl rfl ?_
  refine g_iconst (v := (-1)) C dX16_refused_5 (by decide) ?_
  exact g_ireturn C hΓ (Nat.zero_le _) (Nat.zero_le _) dX16_refused_6 ⟨_, rfl, hb⟩
theorem okX16_refused {v0 : Nat} {v1 : Int32} {σ : St} {Q : Int32 → St → Prop} (hb : wX16_refused v0 v1 σ Q) : hM yX16_refused cX16_refused 2 ((Option.some FieldType.int)) 0 0 0 0 [.ref v0, .int v1] σ (oI Q) :=
  hM_of (by decide) (Nat.le_of_ble_eq_true rfl) (fun Γ hΓ C => kwX16_refused_0 C hΓ _ _ _ hb)
def wX16_act_68 (Q : Nat → St → Prop) (v0 : Nat) (v1 : Int32) (v2 : Int32) (v3 : Int32) (σ : St) : Prop :=
  zK σ v0 = 17 ∧ ∃ a2 : Nat, zFr σ 1026 v0 = some a2 ∧ zK σ a2 = 29 ∧ vp_in (zFi σ 1027 v0) (zL σ a2) ∧ ∃ a6 : Nat, zAr σ a2 (ix (zFi σ 1027 v0)) = some a6 ∧ zK σ a6 = 13 ∧ Q a6 (uFi (uFi (uFi (uFi σ 1027 v0 ((zFi σ 1027 v0) + 1)) 768 a6 v1) 769 a6 v2) 770 a6 v3)
def wX16_act_20 (Q : Nat → St → Prop) (r20 : Nat → Int32 → Int32 → Int32 → Nat → Int32 → St → Prop) (v0 : Nat) (v1 : Int32) (v2 : Int32) (v3 : Int32) (v4 : Nat) (v5 : Int32) (σ : St) : Prop :=
  (((100 : Int32) ≤ v5 → zK σ v0 = 17 ∧ ∃ a2 : Nat, zFr σ 1026 v0 = some a2 ∧ zK σ a2 = 29 ∧ vp_in 99 (zL σ a2) ∧ zK σ v4 = 13 ∧ wX16_act_68 Q v0 v1 v2 v3 (uFi (uAr σ a2 (ix 99) (some v4)) 1027 v0 ((zFi σ 1027 v0) - 1))) ∧ (¬ (100 : Int32) ≤ v5 → zK σ v0 = 17 ∧ ∃ a8 : Nat, zFr σ 1026 v0 = some a8 ∧ zK σ a8 = 29 ∧ vp_in v5 (zL σ a8) ∧ ∃ a12 : Nat, zAr σ a8 (ix v5) = some a12 ∧ vp_in (v5 - 1) (zL σ a8) ∧ zK σ a12 = 13 ∧ r20 v0 v1 v2 v3 v4 (v5 + 1) (uAr σ a8 (ix (v5 - 1)) (some a12))))
def lX16_act_20 (Q : Nat → St → Prop) : Nat → Nat → Int32 → Int32 → Int32 → Nat → Int32 → St → Prop
  | 0, _, _, _, _, _, _, _ => False
  | f + 1, v0, v1, v2, v3, v4, v5, σ => wX16_act_20 Q (lX16_act_20 Q f) v0 v1 v2 v3 v4 v5 σ
def wX16_act_0 (Q : Nat → St → Prop) (v0 : Nat) (v1 : Int32) (v2 : Int32) (v3 : Int32) (σ : St) : Prop :=
  zK σ v0 = 17 ∧ ((¬ (zFi σ 1027 v0) = (100 : Int32) → wX16_act_68 Q v0 v1 v2 v3 σ) ∧ ((zFi σ 1027 v0) = (100 : Int32) → ∃ a2 : Nat, zFr σ 1026 v0 = some a2 ∧ zK σ a2 = 29 ∧ vp_in 0 (zL σ a2) ∧ ∃ a6 : Nat, zAr σ a2 (ix 0) = some a6 ∧ ∃ f, lX16_act_20 Q f v0 v1 v2 v3 a6 1 σ))
def wX16_act (v0 : Nat) (v1 : Int32) (v2 : Int32) (v3 : Int32) (σ : St) (Q : Nat → St → Prop) : Prop := wX16_act_0 Q v0 v1 v2 v3 σ
set_option maxRecDepth 20000 in
theorem kwX16_act_68 {Γ : hCT} (C : hC Γ RX16 cX16_act ((Option.some (FieldType.object RX12))) "act" 0 0) {Q : Nat → St → Prop} (hΓ : Γ.2.2.2.2.2.2.2.2.2.2.2 = (6, 0, 0, oA Q)) (v0 : Nat) (v1 : Int32) (v2 : Int32) (v3 : Int32) (σ : St) (hb : wX16_act_68 Q v0 v1 v2 v3 σ) : hW Γ 0 0 68 [(0, .ref v0), (1, .int v1), (2, .int v2), (3, .int v3)] [] σ := by
  unfold wX16_act_68 at hb
  refine g_aload_n (some v0) C dX16_act_68 0 rfl ?_
  obtain ⟨q1, hb⟩ := hb
  obtain ⟨a2, q3, hb⟩ := hb
  refine g_getR (some a2) C fl_RX16_13 dX16_act_69 q1 rfl rfl q3 ?_
  refine g_aload_n (some v0) C dX16_act_72 0 rfl ?_
  refine g_getIx (zFi σ 1027 v0) C fl_RX16_10 dX16_act_73 q1 rfl rfl rfl ?_
  obtain ⟨q4, hb⟩ := hb
  obtain ⟨q5, hb⟩ := hb
  obtain ⟨a6, q7, hb⟩ := hb
  refine g_aald (some a6) el_29 C dX16_act_76 q4 q5 q7 ?_
  refine g_astore (lv' := [(4, .ref a6), (0, .ref v0), (1, .int v1), (2, .int v2), (3, .int v3)]) (some a6) C dX16_act_77 (hnl_of hΓ (by decide)) (by first | rfl | simp [cat_rf]) ?_
  refine g_aload_n (some v0) C dX16_act_79 1 rfl ?_
  refine g_dup C dX16_act_80 rfl ?_
  refine g_getIx (zFi σ 1027 v0) C fl_RX16_10 dX16_act_81 q1 rfl rfl rfl ?_
  refine g_iconst (v := 1) C dX16_act_84 (by decide) ?_
  refine g_iadd C dX16_act_85 ?_
  refine g_putI C fl_RX16_10 dX16_act_86 q1 rfl rfl rfl rfl ?_
  refine g_aload (some a6) C dX16_act_89 0 rfl ?_
  refine g_iload_n C dX16_act_91 2 rfl ?_
  obtain ⟨q8, hb⟩ := hb
  refine g_putI C fl_RX16_17 dX16_act_92 (by rw [zK_uFi]; exact q8) rfl rfl rfl rfl ?_
  refine g_aload (some a6) C dX16_act_95 0 rfl ?_
  refine g_iload_n C dX16_act_97 3 rfl ?_
  refine g_putI C fl_RX16_22 dX16_act_98 (by rw [zK_uFi, zK_uFi]; exact q8) rfl rfl rfl rfl ?_
  refine g_aload (some a6) C dX16_act_101 0 rfl ?_
  refine g_iload_n C dX16_act_103 4 rfl ?_
  refine g_putI C fl_RX16_25 dX16_act_104 (by rw [zK_uFi, zK_uFi, zK_uFi]; exact q8) rfl rfl rfl rfl ?_
  refine g_aload (some a6) C dX16_act_107 0 rfl ?_
  exact g_areturn (some a6) (Or.inl ⟨_, rfl⟩) C hΓ (Nat.zero_le _) (Nat.zero_le _) dX16_act_109 ⟨_, rfl, hb⟩
set_option maxRecDepth 20000 in
theorem kwX16_act_20 {Γ : hCT} (C : hC Γ RX16 cX16_act ((Option.some (FieldType.object RX12))) "act" 0 0) {Q : Nat → St → Prop} (hΓ : Γ.2.2.2.2.2.2.2.2.2.2.2 = (6, 0, 0, oA Q)) {r20 : Nat → Int32 → Int32 → Int32 → Nat → Int32 → St → Prop} (h20 : ∀ (v0 : Nat) (v1 : Int32) (v2 : Int32) (v3 : Int32) (v4 : Nat) (v5 : Int32) (σ : St), r20 v0 v1 v2 v3 v4 v5 σ → hW Γ 0 0 20 [(0, .ref v0), (1, .int v1), (2, .int v2), (3, .int v3), (4, .ref v4), (5, .int v5)] [] σ) (v0 : Nat) (v1 : Int32) (v2 : Int32) (v3 : Int32) (v4 : Nat) (v5 : Int32) (σ : St) (hb : wX16_act_20 Q r20 v0 v1 v2 v3 v4 v5 σ) : hW Γ 0 0 20 [(0, .ref v0), (1, .int v1), (2, .int v2), (3, .int v3), (4, .ref v4), (5, .int v5)] [] σ := by
  unfold wX16_act_20 at hb
  refine g_iload C dX16_act_20 5 rfl ?_
  refine g_bipush (v := 100) C dX16_act_22 (by decide) ?_
  refine g_icmp_ge (tgt := 49) C dX16_act_24 (by decide) (fun c => ?_) (fun c => ?_)
  ·
    replace hb := hb.1 (c)
    refine g_aload_n (some v0) C dX16_act_49 0 rfl ?_
    obtain ⟨q1, hb⟩ := hb
    obtain ⟨a2, q3, hb⟩ := hb
    refine g_getR (some a2) C fl_RX16_13 dX16_act_50 q1 rfl rfl q3 ?_
    refine g_bipush (v := 99) C dX16_act_53 (by decide) ?_
    refine g_aload (some v4) C dX16_act_55 4 rfl ?_
    obtain ⟨q4, hb⟩ := hb
    obtain ⟨q5, hb⟩ := hb
    obtain ⟨q6, hb⟩ := hb
    refine g_aast (some v4) el_29 C dX16_act_57 q4 q5 (fun _ hv => by cases hv; exact q6) ?_
    refine g_aload_n (some v0) C dX16_act_58 0 rfl ?_
    refine g_dup C dX16_act_59 rfl ?_
    refine g_getIx (zFi σ 1027 v0) C fl_RX16_10 dX16_act_60 (by rw [zK_uAr]; exact q1) rfl rfl (by rw [zFi_uAr]) ?_
    refine g_iconst (v := 1) C dX16_act_63 (by decide) ?_
    refine g_isub C dX16_act_64 ?_
    refine g_putI C fl_RX16_10 dX16_act_65 (by rw [zK_uAr]; exact q1) rfl rfl rfl rfl ?_
    refine g_sub (lv' := [(0, .ref v0), (1, .int v1), (2, .int v2), (3, .int v3)]) [0, 1, 2, 3] rfl ?_
    exact kwX16_act_68 C hΓ  _ _ _ _ _ hb
  ·
    replace hb := hb.2 (c)
    refine g_aload_n (some v0) C dX16_act_27 0 rfl ?_
    obtain ⟨q7, hb⟩ := hb
    obtain ⟨a8, q9, hb⟩ := hb
    refine g_getR (some a8) C fl_RX16_13 dX16_act_28 q7 rfl rfl q9 ?_
    refine g_iload C dX16_act_31 5 rfl ?_
    refine g_iconst (v := 1) C dX16_act_33 (by decide) ?_
    refine g_isub C dX16_act_34 ?_
    refine g_aload_n (some v0) C dX16_act_35 0 rfl ?_
    refine g_getR (some a8) C fl_RX16_13 dX16_act_36 q7 rfl rfl q9 ?_
    refine g_iload C dX16_act_39 5 rfl ?_
    obtain ⟨q10, hb⟩ := hb
    obtain ⟨q11, hb⟩ := hb
    obtain ⟨a12, q13, hb⟩ := hb
    refine g_aald (some a12) el_29 C dX16_act_41 q10 q11 q13 ?_
    obtain ⟨q14, hb⟩ := hb
    obtain ⟨q15, hb⟩ := hb
    refine g_aast (some a12) el_29 C dX16_act_42 q10 q14 (fun _ hv => by cases hv; exact q15) ?_
    refine g_iinc (v := v5 + 1) (lv' := [(5, .int (v5 + 1)), (0, .ref v0), (1, .int v1), (2, .int v2), (3, .int v3), (4, .ref v4)]) C dX16_act_43 5 rfl rfl (hnl_of hΓ (by decide)) (by first | rfl | simp [cat_rf]) ?_
    refine g_goto (tgt := 20) C dX16_act_46 (by decide) ?_
    refine g_sub (lv' := [(0, .ref v0), (1, .int v1), (2, .int v2), (3, .int v3), (4, .ref v4), (5, .int (v5 + 1))]) [1, 2, 3, 4, 5, 0] rfl ?_
    exact h20 _ _ _ _ _ _ _ hb
theorem klX16_act_20 {Γ : hCT} (C : hC Γ RX16 cX16_act ((Option.some (FieldType.object RX12))) "act" 0 0) {Q : Nat → St → Prop} (hΓ : Γ.2.2.2.2.2.2.2.2.2.2.2 = (6, 0, 0, oA Q)) (f : Nat) (v0 : Nat) (v1 : Int32) (v2 : Int32) (v3 : Int32) (v4 : Nat) (v5 : Int32) (σ : St) (hb : lX16_act_20 Q f v0 v1 v2 v3 v4 v5 σ) : hW Γ 0 0 20 [(0, .ref v0), (1, .int v1), (2, .int v2), (3, .int v3), (4, .ref v4), (5, .int v5)] [] σ := by
  induction f generalizing v0 v1 v2 v3 v4 v5 σ with
  | zero => exact hb.elim
  | succ f ih => exact kwX16_act_20 C hΓ  (fun v0 v1 v2 v3 v4 v5 σ h => ih v0 v1 v2 v3 v4 v5 σ h) _ _ _ _ _ _ _ hb
set_option maxRecDepth 20000 in
theorem kwX16_act_0 {Γ : hCT} (C : hC Γ RX16 cX16_act ((Option.some (FieldType.object RX12))) "act" 0 0) {Q : Nat → St → Prop} (hΓ : Γ.2.2.2.2.2.2.2.2.2.2.2 = (6, 0, 0, oA Q)) (v0 : Nat) (v1 : Int32) (v2 : Int32) (v3 : Int32) (σ : St) (hb : wX16_act_0 Q v0 v1 v2 v3 σ) : hW Γ 0 0 0 [(0, .ref v0), (1, .int v1), (2, .int v2), (3, .int v3)] [] σ := by
  unfold wX16_act_0 at hb
  refine g_aload_n (some v0) C dX16_act_0 0 rfl ?_
  obtain ⟨q1, hb⟩ := hb
  refine g_getIx (zFi σ 1027 v0) C fl_RX16_10 dX16_act_1 q1 rfl rfl rfl ?_
  refine g_bipush (v := 100) C dX16_act_4 (by decide) ?_
  refine g_icmp_ne (tgt := 68) C dX16_act_6 (by decide) (fun c => ?_) (fun c => ?_)
  ·
    replace hb := hb.1 (c)
    refine g_sub (lv' := [(0, .ref v0), (1, .int v1), (2, .int v2), (3, .int v3)]) [0, 1, 2, 3] rfl ?_
    exact kwX16_act_68 C hΓ  _ _ _ _ _ hb
  ·
    replace hb := hb.2 (c)
    refine g_aload_n (some v0) C dX16_act_9 0 rfl ?_
    obtain ⟨a2, q3, hb⟩ := hb
    refine g_getR (some a2) C fl_RX16_13 dX16_act_10 q1 rfl rfl q3 ?_
    refine g_iconst (v := 0) C dX16_act_13 (by decide) ?_
    obtain ⟨q4, hb⟩ := hb
    obtain ⟨q5, hb⟩ := hb
    obtain ⟨a6, q7, hb⟩ := hb
    refine g_aald (some a6) el_29 C dX16_act_14 q4 q5 q7 ?_
    refine g_astore (lv' := [(4, .ref a6), (0, .ref v0), (1, .int v1), (2, .int v2), (3, .int v3)]) (some a6) C dX16_act_15 (hnl_of hΓ (by decide)) (by first | rfl | simp [cat_rf]) ?_
    refine g_iconst (v := 1) C dX16_act_17 (by decide) ?_
    refine g_istore (lv' := [(5, .int 1), (4, .ref a6), (0, .ref v0), (1, .int v1), (2, .int v2), (3, .int v3)]) C dX16_act_18 (hnl_of hΓ (by decide)) (by first | rfl | simp [cat_rf]) ?_
    refine g_sub (lv' := [(0, .ref v0), (1, .int v1), (2, .int v2), (3, .int v3), (4, .ref a6), (5, .int 1)]) [2, 3, 4, 5, 1, 0] rfl ?_
    obtain ⟨f8, hb⟩ := hb
    exact klX16_act_20 C hΓ  f8 _ _ _ _ _ _ _ hb
theorem okX16_act {v0 : Nat} {v1 : Int32} {v2 : Int32} {v3 : Int32} {σ : St} {Q : Nat → St → Prop} (hb : wX16_act v0 v1 v2 v3 σ Q) : hM yX16_act cX16_act 6 ((Option.some (FieldType.object RX12))) 0 0 0 0 [.ref v0, .int v1, .int v2, .int v3] σ (oA Q) :=
  hM_of (by decide) (Nat.le_of_ble_eq_true rfl) (fun Γ hΓ C => kwX16_act_0 C hΓ _ _ _ _ _ hb)
def wX16_done_0 (Q : Int32 → St → Prop) (v0 : Nat) (v1 : Int32) (σ : St) : Prop :=
  zK σ v0 = 17 ∧ Q v1 (uFi σ 1025 v0 0)
def wX16_done (v0 : Nat) (v1 : Int32) (σ : St) (Q : Int32 → St → Prop) : Prop := wX16_done_0 Q v0 v1 σ
set_option maxRecDepth 20000 in
theorem kwX16_done_0 {Γ : hCT} (C : hC Γ RX16 cX16_done ((Option.some FieldType.int)) "done" 0 0) {Q : Int32 → St → Prop} (hΓ : Γ.2.2.2.2.2.2.2.2.2.2.2 = (2, 0, 0, oI Q)) (v0 : Nat) (v1 : Int32) (σ : St) (hb : wX16_done_0 Q v0 v1 σ) : hW Γ 0 0 0 [(0, .ref v0), (1, .int v1)] [] σ := by
  unfold wX16_done_0 at hb
  refine g_aload_n (some v0) C dX16_done_0 0 rfl ?_
  refine g_iconst (v := 0) C dX16_done_1 (by decide) ?_
  obtain ⟨q1, hb⟩ := hb
  refine g_putI C fl_RX16_7 dX16_done_2 q1 rfl rfl rfl rfl ?_
  refine g_iload_n C dX16_done_5 1 rfl ?_
  exact g_ireturn C hΓ (Nat.zero_le _) (Nat.zero_le _) dX16_done_6 ⟨_, rfl, hb⟩
theorem okX16_done {v0 : Nat} {v1 : Int32} {σ : St} {Q : Int32 → St → Prop} (hb : wX16_done v0 v1 σ Q) : hM yX16_done cX16_done 2 ((Option.some FieldType.int)) 0 0 0 0 [.ref v0, .int v1] σ (oI Q) :=
  hM_of (by decide) (Nat.le_of_ble_eq_true rfl) (fun Γ hΓ C => kwX16_done_0 C hΓ _ _ _ hb)
def wX16_table_15 (Q : Int32 → St → Prop) (v0 : Nat) (σ : St) : Prop :=
  zK σ v0 = 17 ∧ wX16_refused v0 2 σ (fun y3 σ2 => Q y3 σ2)
def wX16_table_0 (Q : Int32 → St → Prop) (v0 : Nat) (v1 : Int32) (σ : St) : Prop :=
  zK σ v0 = 17 ∧ ((v1 < (1 : Int32) → wX16_table_15 Q v0 (uFi σ 1024 v0 0)) ∧ (¬ v1 < (1 : Int32) → ((v1 ≤ (4 : Int32) → ((¬ (zFi (uFi σ 1024 v0 0) 1028 v0) = (10 : Int32) → ∃ a2 : Nat, zFr σ 1031 v0 = some a2 ∧ zK σ a2 = 20 ∧ vp_in (zFi (uFi σ 1024 v0 0) 1028 v0) (zL σ a2) ∧ wX16_act v0 0 (zFi (uFi σ 1024 v0 0) 1028 v0) 0 (uAi (uFi σ 1024 v0 0) a2 (ix (zFi (uFi σ 1024 v0 0) 1028 v0)) v1) (fun y7 σ6 => zK σ6 v0 = 17 ∧ wX16_done v0 ((zFi (uFi σ6 1028 v0 ((zFi σ6 1028 v0) + 1)) 1028 v0) - 1) (uFi σ6 1028 v0 ((zFi σ6 1028 v0) + 1)) (fun y10 σ9 => Q y10 σ9))) ∧ ((zFi (uFi σ 1024 v0 0) 1028 v0) = (10 : Int32) → wX16_refused v0 4 (uFi σ 1024 v0 0) (fun y12 σ11 => Q y12 σ11)))) ∧ (¬ v1 ≤ (4 : Int32) → wX16_table_15 Q v0 (uFi σ 1024 v0 0)))))
def wX16_table (v0 : Nat) (v1 : Int32) (σ : St) (Q : Int32 → St → Prop) : Prop := wX16_table_0 Q v0 v1 σ
set_option maxRecDepth 20000 in
theorem kwX16_table_15 {Γ : hCT} (C : hC Γ RX16 cX16_table ((Option.some FieldType.int)) "table" 1 25) {Q : Int32 → St → Prop} (hΓ : Γ.2.2.2.2.2.2.2.2.2.2.2 = (2, 0, 0, oI Q)) (v0 : Nat) (σ : St) (hb : wX16_table_15 Q v0 σ) : hW Γ 0 0 15 [(0, .ref v0)] [] σ := by
  unfold wX16_table_15 at hb
  refine g_aload_n (some v0) C dX16_table_15 0 rfl ?_
  refine g_iconst (v := 2) C dX16_table_16 (by decide) ?_
  obtain ⟨q1, hb⟩ := hb
  refine g_invV (ci := 16) [.int 2] [] zy_X16_refused wd_1005 wd_1007 wd_38 ⟨_, _, rfl⟩ (by decide) C dX16_table_17 (by first | exact Nat.le_of_ble_eq_true rfl | simp [cat_rf]) (by first | exact Nat.le_of_ble_eq_true rfl | simp [cat_rf]) (by first | exact Nat.le_of_ble_eq_true rfl | simp [cat_rf]) (Nat.zero_le _) (Nat.zero_le _) rfl rfl q1 (okX16_refused hb) ?_
  rintro o σ2 ⟨y3, rfl, hb⟩
  refine ⟨_, rfl, ?_⟩
  exact g_ireturn C hΓ (Nat.zero_le _) (Nat.zero_le _) dX16_table_20 ⟨_, rfl, hb⟩
set_option maxRecDepth 20000 in
theorem kwX16_table_0 {Γ : hCT} (C : hC Γ RX16 cX16_table ((Option.some FieldType.int)) "table" 1 25) {Q : Int32 → St → Prop} (hΓ : Γ.2.2.2.2.2.2.2.2.2.2.2 = (2, 0, 0, oI Q)) (v0 : Nat) (v1 : Int32) (σ : St) (hb : wX16_table_0 Q v0 v1 σ) : hW Γ 0 0 0 [(0, .ref v0), (1, .int v1)] [] σ := by
  unfold wX16_table_0 at hb
  refine g_aload_n (some v0) C dX16_table_0 0 rfl ?_
  refine g_iconst (v := 0) C dX16_table_1 (by decide) ?_
  obtain ⟨q1, hb⟩ := hb
  refine g_putI C fl_RX16_1 dX16_table_2 q1 rfl rfl rfl rfl ?_
  refine g_iload_n C dX16_table_5 1 rfl ?_
  refine g_iconst (v := 1) C dX16_table_6 (by decide) ?_
  refine g_icmp_lt (tgt := 15) C dX16_table_7 (by decide) (fun c => ?_) (fun c => ?_)
  ·
    replace hb := hb.1 (c)
    refine g_sub (lv' := [(0, .ref v0)]) [0] rfl ?_
    exact kwX16_table_15 C hΓ  _ _ hb
  ·
    replace hb := hb.2 (c)
    refine g_iload_n C dX16_table_10 1 rfl ?_
    refine g_iconst (v := 4) C dX16_table_11 (by decide) ?_
    refine g_icmp_le (tgt := 21) C dX16_table_12 (by decide) (fun c => ?_) (fun c => ?_)
    ·
      replace hb := hb.1 (c)
      refine g_aload_n (some v0) C dX16_table_21 0 rfl ?_
      refine g_getIx (zFi (uFi σ 1024 v0 0) 1028 v0) C fl_RX16_28 dX16_table_22 (by rw [zK_uFi]; exact q1) rfl rfl rfl ?_
      refine g_bipush (v := 10) C dX16_table_25 (by decide) ?_
      refine g_icmp_ne (tgt := 36) C dX16_table_27 (by decide) (fun c => ?_) (fun c => ?_)
      ·
        replace hb := hb.1 (c)
        refine g_aload_n (some v0) C dX16_table_36 0 rfl ?_
        obtain ⟨a2, q3, hb⟩ := hb
        refine g_getR (some a2) C fl_RX16_76 dX16_table_37 (by rw [zK_uFi]; exact q1) rfl rfl (by rw [zFr_uFi]; exact q3) ?_
        refine g_aload_n (some v0) C dX16_table_40 0 rfl ?_
        refine g_getIx (zFi (uFi σ 1024 v0 0) 1028 v0) C fl_RX16_28 dX16_table_41 (by rw [zK_uFi]; exact q1) rfl rfl rfl ?_
        refine g_iload_n C dX16_table_44 1 rfl ?_
        obtain ⟨q4, hb⟩ := hb
        obtain ⟨q5, hb⟩ := hb
        refine g_iast C dX16_table_45 (by rw [zK_uFi]; exact q4) (by rw [zL_uFi]; exact q5) ?_
        refine g_aload_n (some v0) C dX16_table_46 0 rfl ?_
        refine g_iconst (v := 0) C dX16_table_47 (by decide) ?_
        refine g_aload_n (some v0) C dX16_table_48 0 rfl ?_
        refine g_getIx (zFi (uFi σ 1024 v0 0) 1028 v0) C fl_RX16_28 dX16_table_49 (by rw [zK_uAi, zK_uFi]; exact q1) rfl rfl (by rw [zFi_uAi]) ?_
        refine g_iconst (v := 0) C dX16_table_52 (by decide) ?_
        refine g_invV (ci := 16) [.int 0, .int (zFi (uFi σ 1024 v0 0) 1028 v0), .int 0] [] zy_X16_act wd_1009 wd_1011 wd_39 ⟨_, _, rfl⟩ (by decide) C dX16_table_53 (by first | exact Nat.le_of_ble_eq_true rfl | simp [cat_rf]) (by first | exact Nat.le_of_ble_eq_true rfl | simp [cat_rf]) (by first | exact Nat.le_of_ble_eq_true rfl | simp [cat_rf]) (Nat.zero_le _) (Nat.zero_le _) rfl rfl (by rw [zK_uAi, zK_uFi]; exact q1) (okX16_act hb) ?_
        rintro o σ6 ⟨y7, rfl, hb⟩
        refine ⟨_, rfl, ?_⟩
        refine g_pop C dX16_table_56 rfl ?_
        refine g_aload_n (some v0) C dX16_table_57 0 rfl ?_
        refine g_dup C dX16_table_58 rfl ?_
        obtain ⟨q8, hb⟩ := hb
        refine g_getIx (zFi σ6 1028 v0) C fl_RX16_28 dX16_table_59 q8 rfl rfl rfl ?_
        refine g_iconst (v := 1) C dX16_table_62 (by decide) ?_
        refine g_iadd C dX16_table_63 ?_
        refine g_putI C fl_RX16_28 dX16_table_64 q8 rfl rfl rfl rfl ?_
        refine g_aload_n (some v0) C dX16_table_67 0 rfl ?_
        refine g_aload_n (some v0) C dX16_table_68 0 rfl ?_
        refine g_getIx (zFi (uFi σ6 1028 v0 ((zFi σ6 1028 v0) + 1)) 1028 v0) C fl_RX16_28 dX16_table_69 (by rw [zK_uFi]; exact q8) rfl rfl rfl ?_
        refine g_iconst (v := 1) C dX16_table_72 (by decide) ?_
        refine g_isub C dX16_table_73 ?_
        refine g_invV (ci := 16) [.int ((zFi (uFi σ6 1028 v0 ((zFi σ6 1028 v0) + 1)) 1028 v0) - 1)] [] zy_X16_done wd_1013 wd_1015 wd_40 ⟨_, _, rfl⟩ (by decide) C dX16_table_74 (by first | exact Nat.le_of_ble_eq_true rfl | simp [cat_rf]) (by first | exact Nat.le_of_ble_eq_true rfl | simp [cat_rf]) (by first | exact Nat.le_of_ble_eq_true rfl | simp [cat_rf]) (Nat.zero_le _) (Nat.zero_le _) rfl rfl (by rw [zK_uFi]; exact q8) (okX16_done hb) ?_
        rintro o σ9 ⟨y10, rfl, hb⟩
        refine ⟨_, rfl, ?_⟩
        exact g_ireturn C hΓ (Nat.zero_le _) (Nat.zero_le _) dX16_table_77 ⟨_, rfl, hb⟩
      ·
        replace hb := hb.2 (c)
        refine g_aload_n (some v0) C dX16_table_30 0 rfl ?_
        refine g_iconst (v := 4) C dX16_table_31 (by decide) ?_
        refine g_invV (ci := 16) [.int 4] [] zy_X16_refused wd_1005 wd_1007 wd_38 ⟨_, _, rfl⟩ (by decide) C dX16_table_32 (by first | exact Nat.le_of_ble_eq_true rfl | simp [cat_rf]) (by first | exact Nat.le_of_ble_eq_true rfl | simp [cat_rf]) (by first | exact Nat.le_of_ble_eq_true rfl | simp [cat_rf]) (Nat.zero_le _) (Nat.zero_le _) rfl rfl (by rw [zK_uFi]; exact q1) (okX16_refused hb) ?_
        rintro o σ11 ⟨y12, rfl, hb⟩
        refine ⟨_, rfl, ?_⟩
        exact g_ireturn C hΓ (Nat.zero_le _) (Nat.zero_le _) dX16_table_35 ⟨_, rfl, hb⟩
    ·
      replace hb := hb.2 (c)
      refine g_sub (lv' := [(0, .ref v0)]) [0] rfl ?_
      exact kwX16_table_15 C hΓ  _ _ hb
theorem okX16_table {v0 : Nat} {v1 : Int32} {σ : St} {Q : Int32 → St → Prop} (hb : wX16_table v0 v1 σ Q) : hM yX16_table cX16_table 2 ((Option.some FieldType.int)) 1 25 0 0 [.ref v0, .int v1] σ (oI Q) :=
  hM_of (by decide) (Nat.le_of_ble_eq_true rfl) (fun Γ hΓ C => kwX16_table_0 C hΓ _ _ _ hb)
def wX16_isTable_0 (Q : Int32 → St → Prop) (v0 : Nat) (v1 : Int32) (σ : St) : Prop :=
  ((v1 < 0 → Q 0 σ) ∧ (¬ v1 < 0 → zK σ v0 = 17 ∧ (((zFi σ 1028 v0) ≤ v1 → Q 0 σ) ∧ (¬ (zFi σ 1028 v0) ≤ v1 → Q 1 σ))))
def wX16_isTable (v0 : Nat) (v1 : Int32) (σ : St) (Q : Int32 → St → Prop) : Prop := wX16_isTable_0 Q v0 v1 σ
set_option maxRecDepth 20000 in
theorem kwX16_isTable_0 {Γ : hCT} (C : hC Γ RX16 cX16_isTable ((Option.some FieldType.boolean)) "isTable" 0 0) {Q : Int32 → St → Prop} (hΓ : Γ.2.2.2.2.2.2.2.2.2.2.2 = (2, 0, 0, oI Q)) (v0 : Nat) (v1 : Int32) (σ : St) (hb : wX16_isTable_0 Q v0 v1 σ) : hW Γ 0 0 0 [(0, .ref v0), (1, .int v1)] [] σ := by
  unfold wX16_isTable_0 at hb
  refine g_iload_n C dX16_isTable_0 1 rfl ?_
  refine g_if_lt (tgt := 16) C dX16_isTable_1 (by decide) (fun c => ?_) (fun c => ?_)
  ·
    replace hb := hb.1 (c)
    refine g_iconst (v := 0) C dX16_isTable_16 (by decide) ?_
    exact g_zreturn C (by decide) hΓ (Nat.zero_le _) (Nat.zero_le _) dX16_isTable_17 ⟨_, rfl, hb⟩
  ·
    replace hb := hb.2 (c)
    refine g_iload_n C dX16_isTable_4 1 rfl ?_
    refine g_aload_n (some v0) C dX16_isTable_5 0 rfl ?_
    obtain ⟨q1, hb⟩ := hb
    refine g_getIx (zFi σ 1028 v0) C fl_RX16_28 dX16_isTable_6 q1 rfl rfl rfl ?_
    refine g_icmp_ge (tgt := 16) C dX16_isTable_9 (by decide) (fun c => ?_) (fun c => ?_)
    ·
      replace hb := hb.1 (c)
      refine g_iconst (v := 0) C dX16_isTable_16 (by decide) ?_
      exact g_zreturn C (by decide) hΓ (Nat.zero_le _) (Nat.zero_le _) dX16_isTable_17 ⟨_, rfl, hb⟩
    ·
      replace hb := hb.2 (c)
      refine g_iconst (v := 1) C dX16_isTable_12 (by decide) ?_
      refine g_goto (tgt := 17) C dX16_isTable_13 (by decide) ?_
      exact g_zreturn C (by decide) hΓ (Nat.zero_le _) (Nat.zero_le _) dX16_isTable_17 ⟨_, rfl, hb⟩
theorem okX16_isTable {v0 : Nat} {v1 : Int32} {σ : St} {Q : Int32 → St → Prop} (hb : wX16_isTable v0 v1 σ Q) : hM yX16_isTable cX16_isTable 2 ((Option.some FieldType.boolean)) 0 0 0 0 [.ref v0, .int v1] σ (oI Q) :=
  hM_of (by decide) (Nat.le_of_ble_eq_true rfl) (fun Γ hΓ C => kwX16_isTable_0 C hΓ _ _ _ hb)
def wX16_fact_0 (Q : Int32 → St → Prop) (v0 : Nat) (v1 : Int32) (v2 : Int32) (v3 : Int32) (v4 : Int32) (v5 : Int32) (σ : St) : Prop :=
  zK σ v0 = 17 ∧ wX16_isTable v0 v1 (uFi σ 1024 v0 0) (fun y3 σ2 => ((¬ y3 = 0 → zK σ2 v0 = 17 ∧ ((¬ (zFi σ2 1029 v0) = (60 : Int32) → ∃ a5 : Nat, zFr σ2 1032 v0 = some a5 ∧ zK σ2 a5 = 20 ∧ vp_in (zFi σ2 1029 v0) (zL σ2 a5) ∧ ∃ a9 : Nat, zFr σ2 1033 v0 = some a9 ∧ zK σ2 a9 = 20 ∧ vp_in (4 * (zFi σ2 1029 v0)) (zL σ2 a9) ∧ vp_in ((4 * (zFi σ2 1029 v0)) + 1) (zL σ2 a9) ∧ vp_in ((4 * (zFi σ2 1029 v0)) + 2) (zL σ2 a9) ∧ vp_in ((4 * (zFi σ2 1029 v0)) + 3) (zL σ2 a9) ∧ ∃ a16 : Nat, zFr σ2 1034 v0 = some a16 ∧ zK σ2 a16 = 20 ∧ vp_in (zFi σ2 1029 v0) (zL σ2 a16) ∧ ∃ a20 : Nat, zFr σ2 1035 v0 = some a20 ∧ zK σ2 a20 = 20 ∧ vp_in (zFi σ2 1029 v0) (zL σ2 a20) ∧ ∃ a24 : Nat, zFr σ2 1037 v0 = some a24 ∧ zK σ2 a24 = 22 ∧ vp_in (zFi σ2 1029 v0) (zL σ2 a24) ∧ ∃ a28 : Nat, zFr σ2 1036 v0 = some a28 ∧ zK σ2 a28 = 20 ∧ vp_in (zFi σ2 1029 v0) (zL σ2 a28) ∧ ∃ a32 : Nat, zFr σ2 1038 v0 = some a32 ∧ zK σ2 a32 = 23 ∧ vp_in (zFi σ2 1029 v0) (zL σ2 a32) ∧ wX16_act v0 1 (zFi σ2 1029 v0) 0 (uAi (uAi (uAd (uAi (uAi (uAi (uAi (uAi (uAi (uAi σ2 a5 (ix (zFi σ2 1029 v0)) v1) a9 (ix (4 * (zFi σ2 1029 v0))) v2) a9 (ix ((4 * (zFi σ2 1029 v0)) + 1)) v3) a9 (ix ((4 * (zFi σ2 1029 v0)) + 2)) v4) a9 (ix ((4 * (zFi σ2 1029 v0)) + 3)) v5) a16 (ix (zFi σ2 1029 v0)) 1) a20 (ix (zFi σ2 1029 v0)) 1) a24 (ix (zFi σ2 1029 v0)) FP.dconst1) a28 (ix (zFi σ2 1029 v0)) 4) a32 (ix (zFi σ2 1029 v0)) (vp_nar .boolean 0)) (fun y37 σ36 => zK σ36 v0 = 17 ∧ wX16_done v0 ((zFi (uFi σ36 1029 v0 ((zFi σ36 1029 v0) + 1)) 1029 v0) - 1) (uFi σ36 1029 v0 ((zFi σ36 1029 v0) + 1)) (fun y40 σ39 => Q y40 σ39))) ∧ ((zFi σ2 1029 v0) = (60 : Int32) → wX16_refused v0 4 σ2 (fun y42 σ41 => Q y42 σ41)))) ∧ (y3 = 0 → zK σ2 v0 = 17 ∧ wX16_refused v0 1 σ2 (fun y45 σ44 => Q y45 σ44))))
def wX16_fact (v0 : Nat) (v1 : Int32) (v2 : Int32) (v3 : Int32) (v4 : Int32) (v5 : Int32) (σ : St) (Q : Int32 → St → Prop) : Prop := wX16_fact_0 Q v0 v1 v2 v3 v4 v5 σ
set_option maxRecDepth 20000 in
theorem kwX16_fact_0 {Γ : hCT} (C : hC Γ RX16 cX16_fact ((Option.some FieldType.int)) "fact" 1 25) {Q : Int32 → St → Prop} (hΓ : Γ.2.2.2.2.2.2.2.2.2.2.2 = (6, 0, 0, oI Q)) (v0 : Nat) (v1 : Int32) (v2 : Int32) (v3 : Int32) (v4 : Int32) (v5 : Int32) (σ : St) (hb : wX16_fact_0 Q v0 v1 v2 v3 v4 v5 σ) : hW Γ 0 0 0 [(0, .ref v0), (1, .int v1), (2, .int v2), (3, .int v3), (4, .int v4), (5, .int v5)] [] σ := by
  unfold wX16_fact_0 at hb
  refine g_aload_n (some v0) C dX16_fact_0 0 rfl ?_
  refine g_iconst (v := 0) C dX16_fact_1 (by decide) ?_
  obtain ⟨q1, hb⟩ := hb
  refine g_putI C fl_RX16_1 dX16_fact_2 q1 rfl rfl rfl rfl ?_
  refine g_aload_n (some v0) C dX16_fact_5 0 rfl ?_
  refine g_iload_n C dX16_fact_6 1 rfl ?_
  refine g_invV (ci := 16) [.int v1] [] zy_X16_isTable wd_1021 wd_1023 wd_41 ⟨_, _, rfl⟩ (by decide) C dX16_fact_7 (by first | exact Nat.le_of_ble_eq_true rfl | simp [cat_rf]) (by first | exact Nat.le_of_ble_eq_true rfl | simp [cat_rf]) (by first | exact Nat.le_of_ble_eq_true rfl | simp [cat_rf]) (Nat.zero_le _) (Nat.zero_le _) rfl rfl (by rw [zK_uFi]; exact q1) (okX16_isTable hb) ?_
  rintro o σ2 ⟨y3, rfl, hb⟩
  refine ⟨_, rfl, ?_⟩
  refine g_if_ne (tgt := 19) C dX16_fact_10 (by decide) (fun c => ?_) (fun c => ?_)
  ·
    replace hb := hb.1 (c)
    refine g_aload_n (some v0) C dX16_fact_19 0 rfl ?_
    obtain ⟨q4, hb⟩ := hb
    refine g_getIx (zFi σ2 1029 v0) C fl_RX16_40 dX16_fact_20 q4 rfl rfl rfl ?_
    refine g_bipush (v := 60) C dX16_fact_23 (by decide) ?_
    refine g_icmp_ne (tgt := 34) C dX16_fact_25 (by decide) (fun c => ?_) (fun c => ?_)
    ·
      replace hb := hb.1 (c)
      refine g_aload_n (some v0) C dX16_fact_34 0 rfl ?_
      obtain ⟨a5, q6, hb⟩ := hb
      refine g_getR (some a5) C fl_RX16_91 dX16_fact_35 q4 rfl rfl q6 ?_
      refine g_aload_n (some v0) C dX16_fact_38 0 rfl ?_
      refine g_getIx (zFi σ2 1029 v0) C fl_RX16_40 dX16_fact_39 q4 rfl rfl rfl ?_
      refine g_iload_n C dX16_fact_42 1 rfl ?_
      obtain ⟨q7, hb⟩ := hb
      obtain ⟨q8, hb⟩ := hb
      refine g_iast C dX16_fact_43 q7 q8 ?_
      refine g_aload_n (some v0) C dX16_fact_44 0 rfl ?_
      obtain ⟨a9, q10, hb⟩ := hb
      refine g_getR (some a9) C fl_RX16_94 dX16_fact_45 (by rw [zK_uAi]; exact q4) rfl rfl (by rw [zFr_uAi]; exact q10) ?_
      refine g_iconst (v := 4) C dX16_fact_48 (by decide) ?_
      refine g_aload_n (some v0) C dX16_fact_49 0 rfl ?_
      refine g_getIx (zFi σ2 1029 v0) C fl_RX16_40 dX16_fact_50 (by rw [zK_uAi]; exact q4) rfl rfl (by rw [zFi_uAi]) ?_
      refine g_imul C dX16_fact_53 ?_
      refine g_iload_n C dX16_fact_54 2 rfl ?_
      obtain ⟨q11, hb⟩ := hb
      obtain ⟨q12, hb⟩ := hb
      refine g_iast C dX16_fact_55 (by rw [zK_uAi]; exact q11) (by rw [zL_uAi]; exact q12) ?_
      refine g_aload_n (some v0) C dX16_fact_56 0 rfl ?_
      refine g_getR (some a9) C fl_RX16_94 dX16_fact_57 (by rw [zK_uAi, zK_uAi]; exact q4) rfl rfl (by rw [zFr_uAi, zFr_uAi]; exact q10) ?_
      refine g_iconst (v := 4) C dX16_fact_60 (by decide) ?_
      refine g_aload_n (some v0) C dX16_fact_61 0 rfl ?_
      refine g_getIx (zFi σ2 1029 v0) C fl_RX16_40 dX16_fact_62 (by rw [zK_uAi, zK_uAi]; exact q4) rfl rfl (by rw [zFi_uAi, zFi_uAi]) ?_
      refine g_imul C dX16_fact_65 ?_
      refine g_iconst (v := 1) C dX16_fact_66 (by decide) ?_
      refine g_iadd C dX16_fact_67 ?_
      refine g_iload_n C dX16_fact_68 3 rfl ?_
      obtain ⟨q13, hb⟩ := hb
      refine g_iast C dX16_fact_69 (by rw [zK_uAi, zK_uAi]; exact q11) (by rw [zL_uAi, zL_uAi]; exact q13) ?_
      refine g_aload_n (some v0) C dX16_fact_70 0 rfl ?_
      refine g_getR (some a9) C fl_RX16_94 dX16_fact_71 (by rw [zK_uAi, zK_uAi, zK_uAi]; exact q4) rfl rfl (by rw [zFr_uAi, zFr_uAi, zFr_uAi]; exact q10) ?_
      refine g_iconst (v := 4) C dX16_fact_74 (by decide) ?_
      refine g_aload_n (some v0) C dX16_fact_75 0 rfl ?_
      refine g_getIx (zFi σ2 1029 v0) C fl_RX16_40 dX16_fact_76 (by rw [zK_uAi, zK_uAi, zK_uAi]; exact q4) rfl rfl (by rw [zFi_uAi, zFi_uAi, zFi_uAi]) ?_
      refine g_imul C dX16_fact_79 ?_
      refine g_iconst (v := 2) C dX16_fact_80 (by decide) ?_
      refine g_iadd C dX16_fact_81 ?_
      refine g_iload C dX16_fact_82 4 rfl ?_
      obtain ⟨q14, hb⟩ := hb
      refine g_iast C dX16_fact_84 (by rw [zK_uAi, zK_uAi, zK_uAi]; exact q11) (by rw [zL_uAi, zL_uAi, zL_uAi]; exact q14) ?_
      refine g_aload_n (some v0) C dX16_fact_85 0 rfl ?_
      refine g_getR (some a9) C fl_RX16_94 dX16_fact_86 (by rw [zK_uAi, zK_uAi, zK_uAi, zK_uAi]; exact q4) rfl rfl (by rw [zFr_uAi, zFr_uAi, zFr_uAi, zFr_uAi]; exact q10) ?_
      refine g_iconst (v := 4) C dX16_fact_89 (by decide) ?_
      refine g_aload_n (some v0) C dX16_fact_90 0 rfl ?_
      refine g_getIx (zFi σ2 1029 v0) C fl_RX16_40 dX16_fact_91 (by rw [zK_uAi, zK_uAi, zK_uAi, zK_uAi]; exact q4) rfl rfl (by rw [zFi_uAi, zFi_uAi, zFi_uAi, zFi_uAi]) ?_
      refine g_imul C dX16_fact_94 ?_
      refine g_iconst (v := 3) C dX16_fact_95 (by decide) ?_
      refine g_iadd C dX16_fact_96 ?_
      refine g_iload C dX16_fact_97 5 rfl ?_
      obtain ⟨q15, hb⟩ := hb
      refine g_iast C dX16_fact_99 (by rw [zK_uAi, zK_uAi, zK_uAi, zK_uAi]; exact q11) (by rw [zL_uAi, zL_uAi, zL_uAi, zL_uAi]; exact q15) ?_
      refine g_aload_n (some v0) C dX16_fact_100 0 rfl ?_
      obtain ⟨a16, q17, hb⟩ := hb
      refine g_getR (some a16) C fl_RX16_97 dX16_fact_101 (by rw [zK_uAi, zK_uAi, zK_uAi, zK_uAi, zK_uAi]; exact q4) rfl rfl (by rw [zFr_uAi, zFr_uAi, zFr_uAi, zFr_uAi, zFr_uAi]; exact q17) ?_
      refine g_aload_n (some v0) C dX16_fact_104 0 rfl ?_
      refine g_getIx (zFi σ2 1029 v0) C fl_RX16_40 dX16_fact_105 (by rw [zK_uAi, zK_uAi, zK_uAi, zK_uAi, zK_uAi]; exact q4) rfl rfl (by rw [zFi_uAi, zFi_uAi, zFi_uAi, zFi_uAi, zFi_uAi]) ?_
      refine g_iconst (v := 1) C dX16_fact_108 (by decide) ?_
      obtain ⟨q18, hb⟩ := hb
      obtain ⟨q19, hb⟩ := hb
      refine g_iast C dX16_fact_109 (by rw [zK_uAi, zK_uAi, zK_uAi, zK_uAi, zK_uAi]; exact q18) (by rw [zL_uAi, zL_uAi, zL_uAi, zL_uAi, zL_uAi]; exact q19) ?_
      refine g_aload_n (some v0) C dX16_fact_110 0 rfl ?_
      obtain ⟨a20, q21, hb⟩ := hb
      refine g_getR (some a20) C fl_RX16_100 dX16_fact_111 (by rw [zK_uAi, zK_uAi, zK_uAi, zK_uAi, zK_uAi, zK_uAi]; exact q4) rfl rfl (by rw [zFr_uAi, zFr_uAi, zFr_uAi, zFr_uAi, zFr_uAi, zFr_uAi]; exact q21) ?_
      refine g_aload_n (some v0) C dX16_fact_114 0 rfl ?_
      refine g_getIx (zFi σ2 1029 v0) C fl_RX16_40 dX16_fact_115 (by rw [zK_uAi, zK_uAi, zK_uAi, zK_uAi, zK_uAi, zK_uAi]; exact q4) rfl rfl (by rw [zFi_uAi, zFi_uAi, zFi_uAi, zFi_uAi, zFi_uAi, zFi_uAi]) ?_
      refine g_iconst (v := 1) C dX16_fact_118 (by decide) ?_
      obtain ⟨q22, hb⟩ := hb
      obtain ⟨q23, hb⟩ := hb
      refine g_iast C dX16_fact_119 (by rw [zK_uAi, zK_uAi, zK_uAi, zK_uAi, zK_uAi, zK_uAi]; exact q22) (by rw [zL_uAi, zL_uAi, zL_uAi, zL_uAi, zL_uAi, zL_uAi]; exact q23) ?_
      refine g_aload_n (some v0) C dX16_fact_120 0 rfl ?_
      obtain ⟨a24, q25, hb⟩ := hb
      refine g_getR (some a24) C fl_RX16_103 dX16_fact_121 (by rw [zK_uAi, zK_uAi, zK_uAi, zK_uAi, zK_uAi, zK_uAi, zK_uAi]; exact q4) rfl rfl (by rw [zFr_uAi, zFr_uAi, zFr_uAi, zFr_uAi, zFr_uAi, zFr_uAi, zFr_uAi]; exact q25) ?_
      refine g_aload_n (some v0) C dX16_fact_124 0 rfl ?_
      refine g_getIx (zFi σ2 1029 v0) C fl_RX16_40 dX16_fact_125 (by rw [zK_uAi, zK_uAi, zK_uAi, zK_uAi, zK_uAi, zK_uAi, zK_uAi]; exact q4) rfl rfl (by rw [zFi_uAi, zFi_uAi, zFi_uAi, zFi_uAi, zFi_uAi, zFi_uAi, zFi_uAi]) ?_
      refine g_dconst1 C dX16_fact_128 ?_
      obtain ⟨q26, hb⟩ := hb
      obtain ⟨q27, hb⟩ := hb
      refine g_dast C dX16_fact_129 (by rw [zK_uAi, zK_uAi, zK_uAi, zK_uAi, zK_uAi, zK_uAi, zK_uAi]; exact q26) (by rw [zL_uAi, zL_uAi, zL_uAi, zL_uAi, zL_uAi, zL_uAi, zL_uAi]; exact q27) ?_
      refine g_aload_n (some v0) C dX16_fact_130 0 rfl ?_
      obtain ⟨a28, q29, hb⟩ := hb
      refine g_getR (some a28) C fl_RX16_107 dX16_fact_131 (by rw [zK_uAd, zK_uAi, zK_uAi, zK_uAi, zK_uAi, zK_uAi, zK_uAi, zK_uAi]; exact q4) rfl rfl (by rw [zFr_uAd, zFr_uAi, zFr_uAi, zFr_uAi, zFr_uAi, zFr_uAi, zFr_uAi, zFr_uAi]; exact q29) ?_
      refine g_aload_n (some v0) C dX16_fact_134 0 rfl ?_
      refine g_getIx (zFi σ2 1029 v0) C fl_RX16_40 dX16_fact_135 (by rw [zK_uAd, zK_uAi, zK_uAi, zK_uAi, zK_uAi, zK_uAi, zK_uAi, zK_uAi]; exact q4) rfl rfl (by rw [zFi_uAd, zFi_uAi, zFi_uAi, zFi_uAi, zFi_uAi, zFi_uAi, zFi_uAi, zFi_uAi]) ?_
      refine g_iconst (v := 4) C dX16_fact_138 (by decide) ?_
      obtain ⟨q30, hb⟩ := hb
      obtain ⟨q31, hb⟩ := hb
      refine g_iast C dX16_fact_139 (by rw [zK_uAd, zK_uAi, zK_uAi, zK_uAi, zK_uAi, zK_uAi, zK_uAi, zK_uAi]; exact q30) (by rw [zL_uAd, zL_uAi, zL_uAi, zL_uAi, zL_uAi, zL_uAi, zL_uAi, zL_uAi]; exact q31) ?_
      refine g_aload_n (some v0) C dX16_fact_140 0 rfl ?_
      obtain ⟨a32, q33, hb⟩ := hb
      refine g_getR (some a32) C fl_RX16_43 dX16_fact_141 (by rw [zK_uAi, zK_uAd, zK_uAi, zK_uAi, zK_uAi, zK_uAi, zK_uAi, zK_uAi, zK_uAi]; exact q4) rfl rfl (by rw [zFr_uAi, zFr_uAd, zFr_uAi, zFr_uAi, zFr_uAi, zFr_uAi, zFr_uAi, zFr_uAi, zFr_uAi]; exact q33) ?_
      refine g_aload_n (some v0) C dX16_fact_144 0 rfl ?_
      refine g_getIx (zFi σ2 1029 v0) C fl_RX16_40 dX16_fact_145 (by rw [zK_uAi, zK_uAd, zK_uAi, zK_uAi, zK_uAi, zK_uAi, zK_uAi, zK_uAi, zK_uAi]; exact q4) rfl rfl (by rw [zFi_uAi, zFi_uAd, zFi_uAi, zFi_uAi, zFi_uAi, zFi_uAi, zFi_uAi, zFi_uAi, zFi_uAi]) ?_
      refine g_iconst (v := 0) C dX16_fact_148 (by decide) ?_
      obtain ⟨q34, hb⟩ := hb
      obtain ⟨q35, hb⟩ := hb
      refine g_zast C dX16_fact_149 (by rw [zK_uAi, zK_uAd, zK_uAi, zK_uAi, zK_uAi, zK_uAi, zK_uAi, zK_uAi, zK_uAi]; exact q34) (by rw [zL_uAi, zL_uAd, zL_uAi, zL_uAi, zL_uAi, zL_uAi, zL_uAi, zL_uAi, zL_uAi]; exact q35) ?_
      refine g_aload_n (some v0) C dX16_fact_150 0 rfl ?_
      refine g_iconst (v := 1) C dX16_fact_151 (by decide) ?_
      refine g_aload_n (some v0) C dX16_fact_152 0 rfl ?_
      refine g_getIx (zFi σ2 1029 v0) C fl_RX16_40 dX16_fact_153 (by rw [zK_uAi, zK_uAi, zK_uAd, zK_uAi, zK_uAi, zK_uAi, zK_uAi, zK_uAi, zK_uAi, zK_uAi]; exact q4) rfl rfl (by rw [zFi_uAi, zFi_uAi, zFi_uAd, zFi_uAi, zFi_uAi, zFi_uAi, zFi_uAi, zFi_uAi, zFi_uAi, zFi_uAi]) ?_
      refine g_iconst (v := 0) C dX16_fact_156 (by decide) ?_
      refine g_invV (ci := 16) [.int 1, .int (zFi σ2 1029 v0), .int 0] [] zy_X16_act wd_1009 wd_1011 wd_39 ⟨_, _, rfl⟩ (by decide) C dX16_fact_157 (by first | exact Nat.le_of_ble_eq_true rfl | simp [cat_rf]) (by first | exact Nat.le_of_ble_eq_true rfl | simp [cat_rf]) (by first | exact Nat.le_of_ble_eq_true rfl | simp [cat_rf]) (Nat.zero_le _) (Nat.zero_le _) rfl rfl (by rw [zK_uAi, zK_uAi, zK_uAd, zK_uAi, zK_uAi, zK_uAi, zK_uAi, zK_uAi, zK_uAi, zK_uAi]; exact q4) (okX16_act hb) ?_
      rintro o σ36 ⟨y37, rfl, hb⟩
      refine ⟨_, rfl, ?_⟩
      refine g_pop C dX16_fact_160 rfl ?_
      refine g_aload_n (some v0) C dX16_fact_161 0 rfl ?_
      refine g_dup C dX16_fact_162 rfl ?_
      obtain ⟨q38, hb⟩ := hb
      refine g_getIx (zFi σ36 1029 v0) C fl_RX16_40 dX16_fact_163 q38 rfl rfl rfl ?_
      refine g_iconst (v := 1) C dX16_fact_166 (by decide) ?_
      refine g_iadd C dX16_fact_167 ?_
      refine g_putI C fl_RX16_40 dX16_fact_168 q38 rfl rfl rfl rfl ?_
      refine g_aload_n (some v0) C dX16_fact_171 0 rfl ?_
      refine g_aload_n (some v0) C dX16_fact_172 0 rfl ?_
      refine g_getIx (zFi (uFi σ36 1029 v0 ((zFi σ36 1029 v0) + 1)) 1029 v0) C fl_RX16_40 dX16_fact_173 (by rw [zK_uFi]; exact q38) rfl rfl rfl ?_
      refine g_iconst (v := 1) C dX16_fact_176 (by decide) ?_
      refine g_isub C dX16_fact_177 ?_
      refine g_invV (ci := 16) [.int ((zFi (uFi σ36 1029 v0 ((zFi σ36 1029 v0) + 1)) 1029 v0) - 1)] [] zy_X16_done wd_1013 wd_1015 wd_40 ⟨_, _, rfl⟩ (by decide) C dX16_fact_178 (by first | exact Nat.le_of_ble_eq_true rfl | simp [cat_rf]) (by first | exact Nat.le_of_ble_eq_true rfl | simp [cat_rf]) (by first | exact Nat.le_of_ble_eq_true rfl | simp [cat_rf]) (Nat.zero_le _) (Nat.zero_le _) rfl rfl (by rw [zK_uFi]; exact q38) (okX16_done hb) ?_
      rintro o σ39 ⟨y40, rfl, hb⟩
      refine ⟨_, rfl, ?_⟩
      exact g_ireturn C hΓ (Nat.zero_le _) (Nat.zero_le _) dX16_fact_181 ⟨_, rfl, hb⟩
    ·
      replace hb := hb.2 (c)
      refine g_aload_n (some v0) C dX16_fact_28 0 rfl ?_
      refine g_iconst (v := 4) C dX16_fact_29 (by decide) ?_
      refine g_invV (ci := 16) [.int 4] [] zy_X16_refused wd_1005 wd_1007 wd_38 ⟨_, _, rfl⟩ (by decide) C dX16_fact_30 (by first | exact Nat.le_of_ble_eq_true rfl | simp [cat_rf]) (by first | exact Nat.le_of_ble_eq_true rfl | simp [cat_rf]) (by first | exact Nat.le_of_ble_eq_true rfl | simp [cat_rf]) (Nat.zero_le _) (Nat.zero_le _) rfl rfl q4 (okX16_refused hb) ?_
      rintro o σ41 ⟨y42, rfl, hb⟩
      refine ⟨_, rfl, ?_⟩
      exact g_ireturn C hΓ (Nat.zero_le _) (Nat.zero_le _) dX16_fact_33 ⟨_, rfl, hb⟩
  ·
    replace hb := hb.2 (c)
    refine g_aload_n (some v0) C dX16_fact_13 0 rfl ?_
    refine g_iconst (v := 1) C dX16_fact_14 (by decide) ?_
    obtain ⟨q43, hb⟩ := hb
    refine g_invV (ci := 16) [.int 1] [] zy_X16_refused wd_1005 wd_1007 wd_38 ⟨_, _, rfl⟩ (by decide) C dX16_fact_15 (by first | exact Nat.le_of_ble_eq_true rfl | simp [cat_rf]) (by first | exact Nat.le_of_ble_eq_true rfl | simp [cat_rf]) (by first | exact Nat.le_of_ble_eq_true rfl | simp [cat_rf]) (Nat.zero_le _) (Nat.zero_le _) rfl rfl q43 (okX16_refused hb) ?_
    rintro o σ44 ⟨y45, rfl, hb⟩
    refine ⟨_, rfl, ?_⟩
    exact g_ireturn C hΓ (Nat.zero_le _) (Nat.zero_le _) dX16_fact_18 ⟨_, rfl, hb⟩
theorem okX16_fact {v0 : Nat} {v1 : Int32} {v2 : Int32} {v3 : Int32} {v4 : Int32} {v5 : Int32} {σ : St} {Q : Int32 → St → Prop} (hb : wX16_fact v0 v1 v2 v3 v4 v5 σ Q) : hM yX16_fact cX16_fact 6 ((Option.some FieldType.int)) 1 25 0 0 [.ref v0, .int v1, .int v2, .int v3, .int v4, .int v5] σ (oI Q) :=
  hM_of (by decide) (Nat.le_of_ble_eq_true rfl) (fun Γ hΓ C => kwX16_fact_0 C hΓ _ _ _ _ _ _ _ hb)
def wX16_isFact_0 (Q : Int32 → St → Prop) (v0 : Nat) (v1 : Int32) (σ : St) : Prop :=
  ((v1 < 0 → Q 0 σ) ∧ (¬ v1 < 0 → zK σ v0 = 17 ∧ (((zFi σ 1029 v0) ≤ v1 → Q 0 σ) ∧ (¬ (zFi σ 1029 v0) ≤ v1 → Q 1 σ))))
def wX16_isFact (v0 : Nat) (v1 : Int32) (σ : St) (Q : Int32 → St → Prop) : Prop := wX16_isFact_0 Q v0 v1 σ
set_option maxRecDepth 20000 in
theorem kwX16_isFact_0 {Γ : hCT} (C : hC Γ RX16 cX16_isFact ((Option.some FieldType.boolean)) "isFact" 0 0) {Q : Int32 → St → Prop} (hΓ : Γ.2.2.2.2.2.2.2.2.2.2.2 = (2, 0, 0, oI Q)) (v0 : Nat) (v1 : Int32) (σ : St) (hb : wX16_isFact_0 Q v0 v1 σ) : hW Γ 0 0 0 [(0, .ref v0), (1, .int v1)] [] σ := by
  unfold wX16_isFact_0 at hb
  refine g_iload_n C dX16_isFact_0 1 rfl ?_
  refine g_if_lt (tgt := 16) C dX16_isFact_1 (by decide) (fun c => ?_) (fun c => ?_)
  ·
    replace hb := hb.1 (c)
    refine g_iconst (v := 0) C dX16_isFact_16 (by decide) ?_
    exact g_zreturn C (by decide) hΓ (Nat.zero_le _) (Nat.zero_le _) dX16_isFact_17 ⟨_, rfl, hb⟩
  ·
    replace hb := hb.2 (c)
    refine g_iload_n C dX16_isFact_4 1 rfl ?_
    refine g_aload_n (some v0) C dX16_isFact_5 0 rfl ?_
    obtain ⟨q1, hb⟩ := hb
    refine g_getIx (zFi σ 1029 v0) C fl_RX16_40 dX16_isFact_6 q1 rfl rfl rfl ?_
    refine g_icmp_ge (tgt := 16) C dX16_isFact_9 (by decide) (fun c => ?_) (fun c => ?_)
    ·
      replace hb := hb.1 (c)
      refine g_iconst (v := 0) C dX16_isFact_16 (by decide) ?_
      exact g_zreturn C (by decide) hΓ (Nat.zero_le _) (Nat.zero_le _) dX16_isFact_17 ⟨_, rfl, hb⟩
    ·
      replace hb := hb.2 (c)
      refine g_iconst (v := 1) C dX16_isFact_12 (by decide) ?_
      refine g_goto (tgt := 17) C dX16_isFact_13 (by decide) ?_
      exact g_zreturn C (by decide) hΓ (Nat.zero_le _) (Nat.zero_le _) dX16_isFact_17 ⟨_, rfl, hb⟩
theorem okX16_isFact {v0 : Nat} {v1 : Int32} {σ : St} {Q : Int32 → St → Prop} (hb : wX16_isFact v0 v1 σ Q) : hM yX16_isFact cX16_isFact 2 ((Option.some FieldType.boolean)) 0 0 0 0 [.ref v0, .int v1] σ (oI Q) :=
  hM_of (by decide) (Nat.le_of_ble_eq_true rfl) (fun Γ hΓ C => kwX16_isFact_0 C hΓ _ _ _ hb)
def wX16_drop_37 (Q : Int32 → St → Prop) (v0 : Nat) (v1 : Int32) (v2 : Int32) (s3 : Int32) (s2 : Int32) (s1 : Int32) (s0 : Nat) (σ : St) : Prop :=
  zK σ s0 = 17 ∧ wX16_act s0 s1 s2 s3 σ (fun y3 σ2 => zK σ2 v0 = 17 ∧ ∃ a5 : Nat, zFr σ2 1038 v0 = some a5 ∧ zK σ2 a5 = 23 ∧ vp_in v1 (zL σ2 a5) ∧ Q 1 (uFi (uAi σ2 a5 (ix v1) (vp_nar .boolean v2)) 1025 v0 0))
def wX16_drop_0 (Q : Int32 → St → Prop) (v0 : Nat) (v1 : Int32) (v2 : Int32) (σ : St) : Prop :=
  zK σ v0 = 17 ∧ wX16_isFact v0 v1 (uFi σ 1024 v0 0) (fun y3 σ2 => ((¬ y3 = 0 → zK σ2 v0 = 17 ∧ ∃ a5 : Nat, zFr σ2 1038 v0 = some a5 ∧ zK σ2 a5 = 23 ∧ vp_in v1 (zL σ2 a5) ∧ (((zAi σ2 a5 (ix v1)) = 0 → wX16_drop_37 Q v0 v1 v2 0 v1 2 v0 σ2) ∧ (¬ (zAi σ2 a5 (ix v1)) = 0 → wX16_drop_37 Q v0 v1 v2 1 v1 2 v0 σ2))) ∧ (y3 = 0 → zK σ2 v0 = 17 ∧ Q 0 (uFi σ2 1025 v0 1))))
def wX16_drop (v0 : Nat) (v1 : Int32) (v2 : Int32) (σ : St) (Q : Int32 → St → Prop) : Prop := wX16_drop_0 Q v0 v1 v2 σ
set_option maxRecDepth 20000 in
theorem kwX16_drop_37 {Γ : hCT} (C : hC Γ RX16 cX16_drop ((Option.some FieldType.boolean)) "drop" 1 25) {Q : Int32 → St → Prop} (hΓ : Γ.2.2.2.2.2.2.2.2.2.2.2 = (3, 0, 0, oI Q)) (v0 : Nat) (v1 : Int32) (v2 : Int32) (s3 : Int32) (s2 : Int32) (s1 : Int32) (s0 : Nat) (σ : St) (hb : wX16_drop_37 Q v0 v1 v2 s3 s2 s1 s0 σ) : hW Γ 0 0 37 [(0, .ref v0), (1, .int v1), (2, .int v2)] [.int s3, .int s2, .int s1, .ref s0] σ := by
  unfold wX16_drop_37 at hb
  obtain ⟨q1, hb⟩ := hb
  refine g_invV (ci := 16) [.int s1, .int s2, .int s3] [] zy_X16_act wd_1009 wd_1011 wd_39 ⟨_, _, rfl⟩ (by decide) C dX16_drop_37 (by first | exact Nat.le_of_ble_eq_true rfl | simp [cat_rf]) (by first | exact Nat.le_of_ble_eq_true rfl | simp [cat_rf]) (by first | exact Nat.le_of_ble_eq_true rfl | simp [cat_rf]) (Nat.zero_le _) (Nat.zero_le _) rfl rfl q1 (okX16_act hb) ?_
  rintro o σ2 ⟨y3, rfl, hb⟩
  refine ⟨_, rfl, ?_⟩
  refine g_pop C dX16_drop_40 rfl ?_
  refine g_aload_n (some v0) C dX16_drop_41 0 rfl ?_
  obtain ⟨q4, hb⟩ := hb
  obtain ⟨a5, q6, hb⟩ := hb
  refine g_getR (some a5) C fl_RX16_43 dX16_drop_42 q4 rfl rfl q6 ?_
  refine g_iload_n C dX16_drop_45 1 rfl ?_
  refine g_iload_n C dX16_drop_46 2 rfl ?_
  obtain ⟨q7, hb⟩ := hb
  obtain ⟨q8, hb⟩ := hb
  refine g_zast C dX16_drop_47 q7 q8 ?_
  refine g_aload_n (some v0) C dX16_drop_48 0 rfl ?_
  refine g_iconst (v := 0) C dX16_drop_49 (by decide) ?_
  refine g_putI C fl_RX16_7 dX16_drop_50 (by rw [zK_uAi]; exact q4) rfl rfl rfl rfl ?_
  refine g_iconst (v := 1) C dX16_drop_53 (by decide) ?_
  exact g_zreturn C (by decide) hΓ (Nat.zero_le _) (Nat.zero_le _) dX16_drop_54 ⟨_, rfl, hb⟩
set_option maxRecDepth 20000 in
theorem kwX16_drop_0 {Γ : hCT} (C : hC Γ RX16 cX16_drop ((Option.some FieldType.boolean)) "drop" 1 25) {Q : Int32 → St → Prop} (hΓ : Γ.2.2.2.2.2.2.2.2.2.2.2 = (3, 0, 0, oI Q)) (v0 : Nat) (v1 : Int32) (v2 : Int32) (σ : St) (hb : wX16_drop_0 Q v0 v1 v2 σ) : hW Γ 0 0 0 [(0, .ref v0), (1, .int v1), (2, .int v2)] [] σ := by
  unfold wX16_drop_0 at hb
  refine g_aload_n (some v0) C dX16_drop_0 0 rfl ?_
  refine g_iconst (v := 0) C dX16_drop_1 (by decide) ?_
  obtain ⟨q1, hb⟩ := hb
  refine g_putI C fl_RX16_1 dX16_drop_2 q1 rfl rfl rfl rfl ?_
  refine g_aload_n (some v0) C dX16_drop_5 0 rfl ?_
  refine g_iload_n C dX16_drop_6 1 rfl ?_
  refine g_invV (ci := 16) [.int v1] [] zy_X16_isFact wd_1029 wd_1031 wd_42 ⟨_, _, rfl⟩ (by decide) C dX16_drop_7 (by first | exact Nat.le_of_ble_eq_true rfl | simp [cat_rf]) (by first | exact Nat.le_of_ble_eq_true rfl | simp [cat_rf]) (by first | exact Nat.le_of_ble_eq_true rfl | simp [cat_rf]) (Nat.zero_le _) (Nat.zero_le _) rfl rfl (by rw [zK_uFi]; exact q1) (okX16_isFact hb) ?_
  rintro o σ2 ⟨y3, rfl, hb⟩
  refine ⟨_, rfl, ?_⟩
  refine g_if_ne (tgt := 20) C dX16_drop_10 (by decide) (fun c => ?_) (fun c => ?_)
  ·
    replace hb := hb.1 (c)
    refine g_aload_n (some v0) C dX16_drop_20 0 rfl ?_
    refine g_iconst (v := 2) C dX16_drop_21 (by decide) ?_
    refine g_iload_n C dX16_drop_22 1 rfl ?_
    refine g_aload_n (some v0) C dX16_drop_23 0 rfl ?_
    obtain ⟨q4, hb⟩ := hb
    obtain ⟨a5, q6, hb⟩ := hb
    refine g_getR (some a5) C fl_RX16_43 dX16_drop_24 q4 rfl rfl q6 ?_
    refine g_iload_n C dX16_drop_27 1 rfl ?_
    obtain ⟨q7, hb⟩ := hb
    obtain ⟨q8, hb⟩ := hb
    refine g_zaldx (zAi σ2 a5 (ix v1)) C dX16_drop_28 q7 q8 rfl ?_
    refine g_if_eq (tgt := 36) C dX16_drop_29 (by decide) (fun c => ?_) (fun c => ?_)
    ·
      replace hb := hb.1 (c)
      refine g_iconst (v := 0) C dX16_drop_36 (by decide) ?_
      refine g_sub (lv' := [(0, .ref v0), (1, .int v1), (2, .int v2)]) [0, 1, 2] rfl ?_
      exact kwX16_drop_37 C hΓ  _ _ _ _ _ _ _ _ hb
    ·
      replace hb := hb.2 (c)
      refine g_iconst (v := 1) C dX16_drop_32 (by decide) ?_
      refine g_goto (tgt := 37) C dX16_drop_33 (by decide) ?_
      refine g_sub (lv' := [(0, .ref v0), (1, .int v1), (2, .int v2)]) [0, 1, 2] rfl ?_
      exact kwX16_drop_37 C hΓ  _ _ _ _ _ _ _ _ hb
  ·
    replace hb := hb.2 (c)
    refine g_aload_n (some v0) C dX16_drop_13 0 rfl ?_
    refine g_iconst (v := 1) C dX16_drop_14 (by decide) ?_
    obtain ⟨q9, hb⟩ := hb
    refine g_putI C fl_RX16_7 dX16_drop_15 q9 rfl rfl rfl rfl ?_
    refine g_iconst (v := 0) C dX16_drop_18 (by decide) ?_
    exact g_zreturn C (by decide) hΓ (Nat.zero_le _) (Nat.zero_le _) dX16_drop_19 ⟨_, rfl, hb⟩
theorem okX16_drop {v0 : Nat} {v1 : Int32} {v2 : Int32} {σ : St} {Q : Int32 → St → Prop} (hb : wX16_drop v0 v1 v2 σ Q) : hM yX16_drop cX16_drop 3 ((Option.some FieldType.boolean)) 1 25 0 0 [.ref v0, .int v1, .int v2] σ (oI Q) :=
  hM_of (by decide) (Nat.le_of_ble_eq_true rfl) (fun Γ hΓ C => kwX16_drop_0 C hΓ _ _ _ _ hb)
def wX16_weighs_0 (Q : Int64 → St → Prop) (v0 : Nat) (v1 : Int32) (v2 : Int32) (σ : St) : Prop :=
  ((¬ v2 = 0 → ((¬ v2 = (1 : Int32) → ((¬ v2 = (2 : Int32) → zK σ v0 = 17 ∧ ∃ a2 : Nat, zFr σ 1036 v0 = some a2 ∧ zK σ a2 = 20 ∧ vp_in v1 (zL σ a2) ∧ Q (Int32.toInt64 (zAi σ a2 (ix v1))) σ) ∧ (v2 = (2 : Int32) → zK σ v0 = 17 ∧ ∃ a7 : Nat, zFr σ 1037 v0 = some a7 ∧ zK σ a7 = 22 ∧ vp_in v1 (zL σ a7) ∧ wJxe99ae_doubleToLongBits_ccdee (zAd σ a7 (ix v1)) σ (fun y12 σ11 => Q y12 σ11)))) ∧ (v2 = (1 : Int32) → zK σ v0 = 17 ∧ ∃ a14 : Nat, zFr σ 1035 v0 = some a14 ∧ zK σ a14 = 20 ∧ vp_in v1 (zL σ a14) ∧ Q (Int32.toInt64 (zAi σ a14 (ix v1))) σ))) ∧ (v2 = 0 → zK σ v0 = 17 ∧ ∃ a19 : Nat, zFr σ 1034 v0 = some a19 ∧ zK σ a19 = 20 ∧ vp_in v1 (zL σ a19) ∧ Q (Int32.toInt64 (zAi σ a19 (ix v1))) σ))
def wX16_weighs (v0 : Nat) (v1 : Int32) (v2 : Int32) (σ : St) (Q : Int64 → St → Prop) : Prop := wX16_weighs_0 Q v0 v1 v2 σ
set_option maxRecDepth 20000 in
theorem kwX16_weighs_0 {Γ : hCT} (C : hC Γ RX16 cX16_weighs ((Option.some FieldType.long)) "weighs" 2 61) {Q : Int64 → St → Prop} (hΓ : Γ.2.2.2.2.2.2.2.2.2.2.2 = (3, 0, 0, oJ Q)) (v0 : Nat) (v1 : Int32) (v2 : Int32) (σ : St) (hb : wX16_weighs_0 Q v0 v1 v2 σ) : hW Γ 0 0 0 [(0, .ref v0), (1, .int v1), (2, .int v2)] [] σ := by
  unfold wX16_weighs_0 at hb
  refine g_iload_n C dX16_weighs_0 2 rfl ?_
  refine g_if_ne (tgt := 14) C dX16_weighs_1 (by decide) (fun c => ?_) (fun c => ?_)
  ·
    replace hb := hb.1 (c)
    refine g_iload_n C dX16_weighs_14 2 rfl ?_
    refine g_iconst (v := 1) C dX16_weighs_15 (by decide) ?_
    refine g_icmp_ne (tgt := 29) C dX16_weighs_16 (by decide) (fun c => ?_) (fun c => ?_)
    ·
      replace hb := hb.1 (c)
      refine g_iload_n C dX16_weighs_29 2 rfl ?_
      refine g_iconst (v := 2) C dX16_weighs_30 (by decide) ?_
      refine g_icmp_ne (tgt := 46) C dX16_weighs_31 (by decide) (fun c => ?_) (fun c => ?_)
      ·
        replace hb := hb.1 (c)
        refine g_aload_n (some v0) C dX16_weighs_46 0 rfl ?_
        obtain ⟨q1, hb⟩ := hb
        obtain ⟨a2, q3, hb⟩ := hb
        refine g_getR (some a2) C fl_RX16_107 dX16_weighs_47 q1 rfl rfl q3 ?_
        refine g_iload_n C dX16_weighs_50 1 rfl ?_
        obtain ⟨q4, hb⟩ := hb
        obtain ⟨q5, hb⟩ := hb
        refine g_ialdx (zAi σ a2 (ix v1)) C dX16_weighs_51 q4 q5 rfl ?_
        refine g_i2l C dX16_weighs_52 ?_
        exact g_lreturn C hΓ (Nat.zero_le _) (Nat.zero_le _) dX16_weighs_53 ⟨_, rfl, hb⟩
      ·
        replace hb := hb.2 (c)
        refine g_aload_n (some v0) C dX16_weighs_34 0 rfl ?_
        obtain ⟨q6, hb⟩ := hb
        obtain ⟨a7, q8, hb⟩ := hb
        refine g_getR (some a7) C fl_RX16_103 dX16_weighs_35 q6 rfl rfl q8 ?_
        refine g_iload_n C dX16_weighs_38 1 rfl ?_
        obtain ⟨q9, hb⟩ := hb
        obtain ⟨q10, hb⟩ := hb
        refine g_daldx (zAd σ a7 (ix v1)) C dX16_weighs_39 q9 q10 rfl ?_
        refine g_invS [.double (zAd σ a7 (ix v1))] [] zy_Jxe99ae_doubleToLongBits_ccdee wd_1045 wd_1046 C dX16_weighs_40 (by first | exact Nat.le_of_ble_eq_true rfl | simp [cat_rf]) (by first | exact Nat.le_of_ble_eq_true rfl | simp [cat_rf]) (by first | exact Nat.le_of_ble_eq_true rfl | simp [cat_rf]) (Nat.zero_le _) (Nat.zero_le _) rfl rfl  (okJxe99ae_doubleToLongBits_ccdee hb) ?_
        rintro o σ11 ⟨y12, rfl, hb⟩
        refine ⟨_, rfl, ?_⟩
        refine g_goto (tgt := 53) C dX16_weighs_43 (by decide) ?_
        exact g_lreturn C hΓ (Nat.zero_le _) (Nat.zero_le _) dX16_weighs_53 ⟨_, rfl, hb⟩
    ·
      replace hb := hb.2 (c)
      refine g_aload_n (some v0) C dX16_weighs_19 0 rfl ?_
      obtain ⟨q13, hb⟩ := hb
      obtain ⟨a14, q15, hb⟩ := hb
      refine g_getR (some a14) C fl_RX16_100 dX16_weighs_20 q13 rfl rfl q15 ?_
      refine g_iload_n C dX16_weighs_23 1 rfl ?_
      obtain ⟨q16, hb⟩ := hb
      obtain ⟨q17, hb⟩ := hb
      refine g_ialdx (zAi σ a14 (ix v1)) C dX16_weighs_24 q16 q17 rfl ?_
      refine g_i2l C dX16_weighs_25 ?_
      refine g_goto (tgt := 53) C dX16_weighs_26 (by decide) ?_
      exact g_lreturn C hΓ (Nat.zero_le _) (Nat.zero_le _) dX16_weighs_53 ⟨_, rfl, hb⟩
  ·
    replace hb := hb.2 (c)
    refine g_aload_n (some v0) C dX16_weighs_4 0 rfl ?_
    obtain ⟨q18, hb⟩ := hb
    obtain ⟨a19, q20, hb⟩ := hb
    refine g_getR (some a19) C fl_RX16_97 dX16_weighs_5 q18 rfl rfl q20 ?_
    refine g_iload_n C dX16_weighs_8 1 rfl ?_
    obtain ⟨q21, hb⟩ := hb
    obtain ⟨q22, hb⟩ := hb
    refine g_ialdx (zAi σ a19 (ix v1)) C dX16_weighs_9 q21 q22 rfl ?_
    refine g_i2l C dX16_weighs_10 ?_
    refine g_goto (tgt := 53) C dX16_weighs_11 (by decide) ?_
    exact g_lreturn C hΓ (Nat.zero_le _) (Nat.zero_le _) dX16_weighs_53 ⟨_, rfl, hb⟩
theorem okX16_weighs {v0 : Nat} {v1 : Int32} {v2 : Int32} {σ : St} {Q : Int64 → St → Prop} (hb : wX16_weighs v0 v1 v2 σ Q) : hM yX16_weighs cX16_weighs 3 ((Option.some FieldType.long)) 2 61 0 0 [.ref v0, .int v1, .int v2] σ (oJ Q) :=
  hM_of (by decide) (Nat.le_of_ble_eq_true rfl) (fun Γ hΓ C => kwX16_weighs_0 C hΓ _ _ _ _ hb)
def wX16_put_79 (Q : Int32 → St → Prop) (v0 : Nat) (σ : St) : Prop :=
  zK σ v0 = 17 ∧ Q 0 (uFi σ 1025 v0 2)
def wX16_put_55 (Q : Int32 → St → Prop) (v0 : Nat) (v1 : Int32) (v2 : Int32) (v3 : Int64) (s0 : Int64) (σ : St) : Prop :=
  ((v2 < 0 → wX16_put_79 Q v0 σ) ∧ (¬ v2 < 0 → (((3 : Int32) < v2 → wX16_put_79 Q v0 σ) ∧ (¬ (3 : Int32) < v2 → ((v3 < 0 → wX16_put_79 Q v0 σ) ∧ (¬ v3 < 0 → ((v3 ≤ s0 → zK σ v0 = 17 ∧ wX16_act v0 3 v1 v2 σ (fun y3 σ2 => zK σ2 v0 = 17 ∧ wX16_weighs v0 v1 v2 σ2 (fun y6 σ5 => zK σ5 y3 = 13 ∧ zK σ5 v0 = 17 ∧ wX16_weight v0 v1 v2 v3 (uFj σ5 771 y3 y6) (fun σ9 => zK σ9 v0 = 17 ∧ Q 1 (uFi σ9 1025 v0 0))))) ∧ (¬ v3 ≤ s0 → wX16_put_79 Q v0 σ))))))))
def wX16_put_0 (Q : Int32 → St → Prop) (v0 : Nat) (v1 : Int32) (v2 : Int32) (v3 : Int64) (σ : St) : Prop :=
  zK σ v0 = 17 ∧ wX16_isFact v0 v1 (uFi σ 1024 v0 0) (fun y3 σ2 => ((¬ y3 = 0 → ((¬ v2 = 0 → ((¬ v2 = (1 : Int32) → ((¬ v2 = (2 : Int32) → wX16_put_55 Q v0 v1 v2 v3 8 σ2) ∧ (v2 = (2 : Int32) → wX16_put_55 Q v0 v1 v2 v3 4607182418800017408 σ2))) ∧ (v2 = (1 : Int32) → wX16_put_55 Q v0 v1 v2 v3 1000 σ2))) ∧ (v2 = 0 → wX16_put_55 Q v0 v1 v2 v3 9 σ2))) ∧ (y3 = 0 → zK σ2 v0 = 17 ∧ Q 0 (uFi σ2 1025 v0 1))))
def wX16_put (v0 : Nat) (v1 : Int32) (v2 : Int32) (v3 : Int64) (σ : St) (Q : Int32 → St → Prop) : Prop := wX16_put_0 Q v0 v1 v2 v3 σ
set_option maxRecDepth 20000 in
theorem kwX16_put_79 {Γ : hCT} (C : hC Γ RX16 cX16_put ((Option.some FieldType.boolean)) "put" 3 83) {Q : Int32 → St → Prop} (hΓ : Γ.2.2.2.2.2.2.2.2.2.2.2 = (7, 0, 0, oI Q)) (v0 : Nat) (σ : St) (hb : wX16_put_79 Q v0 σ) : hW Γ 0 0 79 [(0, .ref v0)] [] σ := by
  unfold wX16_put_79 at hb
  refine g_aload_n (some v0) C dX16_put_79 0 rfl ?_
  refine g_iconst (v := 2) C dX16_put_80 (by decide) ?_
  obtain ⟨q1, hb⟩ := hb
  refine g_putI C fl_RX16_7 dX16_put_81 q1 rfl rfl rfl rfl ?_
  refine g_iconst (v := 0) C dX16_put_84 (by decide) ?_
  exact g_zreturn C (by decide) hΓ (Nat.zero_le _) (Nat.zero_le _) dX16_put_85 ⟨_, rfl, hb⟩
set_option maxRecDepth 20000 in
theorem kwX16_put_55 {Γ : hCT} (C : hC Γ RX16 cX16_put ((Option.some FieldType.boolean)) "put" 3 83) {Q : Int32 → St → Prop} (hΓ : Γ.2.2.2.2.2.2.2.2.2.2.2 = (7, 0, 0, oI Q)) (v0 : Nat) (v1 : Int32) (v2 : Int32) (v3 : Int64) (s0 : Int64) (σ : St) (hb : wX16_put_55 Q v0 v1 v2 v3 s0 σ) : hW Γ 0 0 55 [(0, .ref v0), (1, .int v1), (2, .int v2), (3, .long v3)] [.long s0] σ := by
  unfold wX16_put_55 at hb
  refine g_lstore (lv' := [(5, .long s0), (0, .ref v0), (1, .int v1), (2, .int v2), (3, .long v3)]) C dX16_put_55 (hnl_of hΓ (by decide)) (by first | rfl | simp [cat_rf]) ?_
  refine g_iload_n C dX16_put_57 3 rfl ?_
  refine g_if_lt (tgt := 79) C dX16_put_58 (by decide) (fun c => ?_) (fun c => ?_)
  ·
    replace hb := hb.1 (c)
    refine g_sub (lv' := [(0, .ref v0)]) [1] rfl ?_
    exact kwX16_put_79 C hΓ  _ _ hb
  ·
    replace hb := hb.2 (c)
    refine g_iload_n C dX16_put_61 3 rfl ?_
    refine g_iconst (v := 3) C dX16_put_62 (by decide) ?_
    refine g_icmp_gt (tgt := 79) C dX16_put_63 (by decide) (fun c => ?_) (fun c => ?_)
    ·
      replace hb := hb.1 (c)
      refine g_sub (lv' := [(0, .ref v0)]) [1] rfl ?_
      exact kwX16_put_79 C hΓ  _ _ hb
    ·
      replace hb := hb.2 (c)
      refine g_lload_n C dX16_put_66 4 rfl ?_
      refine g_lconst (v := 0) C dX16_put_67 (by decide) ?_
      refine g_lcmp C dX16_put_68 ?_
      refine g_if_lt (tgt := 79) C dX16_put_69 (by decide) (fun c => ?_) (fun c => ?_)
      ·
        replace hb := hb.1 (lc_lt.mp c)
        refine g_sub (lv' := [(0, .ref v0)]) [1] rfl ?_
        exact kwX16_put_79 C hΓ  _ _ hb
      ·
        replace hb := hb.2 (lcn_lt.mp c)
        refine g_lload_n C dX16_put_72 4 rfl ?_
        refine g_lload C dX16_put_73 0 rfl ?_
        refine g_lcmp C dX16_put_75 ?_
        refine g_if_le (tgt := 86) C dX16_put_76 (by decide) (fun c => ?_) (fun c => ?_)
        ·
          replace hb := hb.1 (lc_le.mp c)
          refine g_aload_n (some v0) C dX16_put_86 1 rfl ?_
          refine g_iconst (v := 3) C dX16_put_87 (by decide) ?_
          refine g_iload_n C dX16_put_88 2 rfl ?_
          refine g_iload_n C dX16_put_89 3 rfl ?_
          obtain ⟨q1, hb⟩ := hb
          refine g_invV (ci := 16) [.int 3, .int v1, .int v2] [] zy_X16_act wd_1009 wd_1011 wd_39 ⟨_, _, rfl⟩ (by decide) C dX16_put_90 (by first | exact Nat.le_of_ble_eq_true rfl | simp [cat_rf]) (by first | exact Nat.le_of_ble_eq_true rfl | simp [cat_rf]) (by first | exact Nat.le_of_ble_eq_true rfl | simp [cat_rf]) (Nat.zero_le _) (Nat.zero_le _) rfl rfl q1 (okX16_act hb) ?_
          rintro o σ2 ⟨y3, rfl, hb⟩
          refine ⟨_, rfl, ?_⟩
          refine g_aload_n (some v0) C dX16_put_93 1 rfl ?_
          refine g_iload_n C dX16_put_94 2 rfl ?_
          refine g_iload_n C dX16_put_95 3 rfl ?_
          obtain ⟨q4, hb⟩ := hb
          refine g_invV (ci := 16) [.int v1, .int v2] [.ref y3] zy_X16_weighs wd_1041 wd_1043 wd_43 ⟨_, _, rfl⟩ (by decide) C dX16_put_96 (by first | exact Nat.le_of_ble_eq_true rfl | simp [cat_rf]) (by first | exact Nat.le_of_ble_eq_true rfl | simp [cat_rf]) (by first | exact Nat.le_of_ble_eq_true rfl | simp [cat_rf]) (Nat.zero_le _) (Nat.zero_le _) rfl rfl q4 (okX16_weighs hb) ?_
          rintro o σ5 ⟨y6, rfl, hb⟩
          refine ⟨_, rfl, ?_⟩
          obtain ⟨q7, hb⟩ := hb
          refine g_putJ C fl_RX16_47 dX16_put_99 q7 rfl rfl rfl rfl ?_
          refine g_aload_n (some v0) C dX16_put_102 1 rfl ?_
          refine g_iload_n C dX16_put_103 2 rfl ?_
          refine g_iload_n C dX16_put_104 3 rfl ?_
          refine g_lload_n C dX16_put_105 4 rfl ?_
          obtain ⟨q8, hb⟩ := hb
          refine g_invV (ci := 16) [.int v1, .int v2, .long v3] [] zy_X16_weight wd_989 wd_991 wd_37 ⟨_, _, rfl⟩ (by decide) C dX16_put_106 (by first | exact Nat.le_of_ble_eq_true rfl | simp [cat_rf]) (by first | exact Nat.le_of_ble_eq_true rfl | simp [cat_rf]) (by first | exact Nat.le_of_ble_eq_true rfl | simp [cat_rf]) (Nat.zero_le _) (Nat.zero_le _) rfl rfl (by rw [zK_uFj]; exact q8) (okX16_weight hb) ?_
          rintro o σ9 ⟨rfl, hb⟩
          refine ⟨_, rfl, ?_⟩
          refine g_aload_n (some v0) C dX16_put_109 1 rfl ?_
          refine g_iconst (v := 0) C dX16_put_110 (by decide) ?_
          obtain ⟨q10, hb⟩ := hb
          refine g_putI C fl_RX16_7 dX16_put_111 q10 rfl rfl rfl rfl ?_
          refine g_iconst (v := 1) C dX16_put_114 (by decide) ?_
          exact g_zreturn C (by decide) hΓ (Nat.zero_le _) (Nat.zero_le _) dX16_put_115 ⟨_, rfl, hb⟩
        ·
          replace hb := hb.2 (lcn_le.mp c)
          refine g_sub (lv' := [(0, .ref v0)]) [1] rfl ?_
          exact kwX16_put_79 C hΓ  _ _ hb
set_option maxRecDepth 20000 in
theorem kwX16_put_0 {Γ : hCT} (C : hC Γ RX16 cX16_put ((Option.some FieldType.boolean)) "put" 3 83) {Q : Int32 → St → Prop} (hΓ : Γ.2.2.2.2.2.2.2.2.2.2.2 = (7, 0, 0, oI Q)) (v0 : Nat) (v1 : Int32) (v2 : Int32) (v3 : Int64) (σ : St) (hb : wX16_put_0 Q v0 v1 v2 v3 σ) : hW Γ 0 0 0 [(0, .ref v0), (1, .int v1), (2, .int v2), (3, .long v3)] [] σ := by
  unfold wX16_put_0 at hb
  refine g_aload_n (some v0) C dX16_put_0 0 rfl ?_
  refine g_iconst (v := 0) C dX16_put_1 (by decide) ?_
  obtain ⟨q1, hb⟩ := hb
  refine g_putI C fl_RX16_1 dX16_put_2 q1 rfl rfl rfl rfl ?_
  refine g_aload_n (some v0) C dX16_put_5 0 rfl ?_
  refine g_iload_n C dX16_put_6 1 rfl ?_
  refine g_invV (ci := 16) [.int v1] [] zy_X16_isFact wd_1029 wd_1031 wd_42 ⟨_, _, rfl⟩ (by decide) C dX16_put_7 (by first | exact Nat.le_of_ble_eq_true rfl | simp [cat_rf]) (by first | exact Nat.le_of_ble_eq_true rfl | simp [cat_rf]) (by first | exact Nat.le_of_ble_eq_true rfl | simp [cat_rf]) (Nat.zero_le _) (Nat.zero_le _) rfl rfl (by rw [zK_uFi]; exact q1) (okX16_isFact hb) ?_
  rintro o σ2 ⟨y3, rfl, hb⟩
  refine ⟨_, rfl, ?_⟩
  refine g_if_ne (tgt := 20) C dX16_put_10 (by decide) (fun c => ?_) (fun c => ?_)
  ·
    replace hb := hb.1 (c)
    refine g_iload_n C dX16_put_20 2 rfl ?_
    refine g_if_ne (tgt := 30) C dX16_put_21 (by decide) (fun c => ?_) (fun c => ?_)
    ·
      replace hb := hb.1 (c)
      refine g_iload_n C dX16_put_30 2 rfl ?_
      refine g_iconst (v := 1) C dX16_put_31 (by decide) ?_
      refine g_icmp_ne (tgt := 41) C dX16_put_32 (by decide) (fun c => ?_) (fun c => ?_)
      ·
        replace hb := hb.1 (c)
        refine g_iload_n C dX16_put_41 2 rfl ?_
        refine g_iconst (v := 2) C dX16_put_42 (by decide) ?_
        refine g_icmp_ne (tgt := 52) C dX16_put_43 (by decide) (fun c => ?_) (fun c => ?_)
        ·
          replace hb := hb.1 (c)
          refine g_ldc2 C wd_1040 dX16_put_52 ?_
          refine g_sub (lv' := [(0, .ref v0), (1, .int v1), (2, .int v2), (3, .long v3)]) [0, 1, 2, 3] rfl ?_
          exact kwX16_put_55 C hΓ  _ _ _ _ _ _ hb
        ·
          replace hb := hb.2 (c)
          refine g_ldc2 C wd_1039 dX16_put_46 ?_
          refine g_goto (tgt := 55) C dX16_put_49 (by decide) ?_
          refine g_sub (lv' := [(0, .ref v0), (1, .int v1), (2, .int v2), (3, .long v3)]) [0, 1, 2, 3] rfl ?_
          exact kwX16_put_55 C hΓ  _ _ _ _ _ _ hb
      ·
        replace hb := hb.2 (c)
        refine g_ldc2 C wd_1038 dX16_put_35 ?_
        refine g_goto (tgt := 55) C dX16_put_38 (by decide) ?_
        refine g_sub (lv' := [(0, .ref v0), (1, .int v1), (2, .int v2), (3, .long v3)]) [0, 1, 2, 3] rfl ?_
        exact kwX16_put_55 C hΓ  _ _ _ _ _ _ hb
    ·
      replace hb := hb.2 (c)
      refine g_ldc2 C wd_1037 dX16_put_24 ?_
      refine g_goto (tgt := 55) C dX16_put_27 (by decide) ?_
      refine g_sub (lv' := [(0, .ref v0), (1, .int v1), (2, .int v2), (3, .long v3)]) [0, 1, 2, 3] rfl ?_
      exact kwX16_put_55 C hΓ  _ _ _ _ _ _ hb
  ·
    replace hb := hb.2 (c)
    refine g_aload_n (some v0) C dX16_put_13 0 rfl ?_
    refine g_iconst (v := 1) C dX16_put_14 (by decide) ?_
    obtain ⟨q4, hb⟩ := hb
    refine g_putI C fl_RX16_7 dX16_put_15 q4 rfl rfl rfl rfl ?_
    refine g_iconst (v := 0) C dX16_put_18 (by decide) ?_
    exact g_zreturn C (by decide) hΓ (Nat.zero_le _) (Nat.zero_le _) dX16_put_19 ⟨_, rfl, hb⟩
theorem okX16_put {v0 : Nat} {v1 : Int32} {v2 : Int32} {v3 : Int64} {σ : St} {Q : Int32 → St → Prop} (hb : wX16_put v0 v1 v2 v3 σ Q) : hM yX16_put cX16_put 7 ((Option.some FieldType.boolean)) 3 83 0 0 [.ref v0, .int v1, .int v2, .long v3] σ (oI Q) :=
  hM_of (by decide) (Nat.le_of_ble_eq_true rfl) (fun Γ hΓ C => kwX16_put_0 C hΓ _ _ _ _ _ hb)
def wX16_told_0 (Q : Int64 → St → Prop) (v0 : Nat) (v1 : Int32) (v2 : Int32) (σ : St) : Prop :=
  zK σ v0 = 17 ∧ wX16_isFact v0 v1 (uFi σ 1024 v0 0) (fun y3 σ2 => ((y3 = 0 → Q (-1) σ2) ∧ (¬ y3 = 0 → ((v2 < 0 → Q (-1) σ2) ∧ (¬ v2 < 0 → ((v2 ≤ (10 : Int32) → (((4 : Int32) ≤ v2 → zK σ2 v0 = 17 ∧ ∃ a5 : Nat, zFr σ2 1031 v0 = some a5 ∧ ∃ a7 : Nat, zFr σ2 1032 v0 = some a7 ∧ zK σ2 a7 = 20 ∧ vp_in v1 (zL σ2 a7) ∧ zK σ2 a5 = 20 ∧ vp_in (zAi σ2 a7 (ix v1)) (zL σ2 a5) ∧ ((v2 = 4 → ∃ a13 : Nat, zFr σ2 1038 v0 = some a13 ∧ zK σ2 a13 = 23 ∧ vp_in v1 (zL σ2 a13) ∧ (((zAi σ2 a13 (ix v1)) = 0 → Q 0 σ2) ∧ (¬ (zAi σ2 a13 (ix v1)) = 0 → Q 1 σ2))) ∧ (v2 = 5 → Q (Int32.toInt64 (zAi σ2 a7 (ix v1))) σ2) ∧ (v2 = 6 → Q (Int32.toInt64 (zAi σ2 a5 (ix (zAi σ2 a7 (ix v1))))) σ2) ∧ (¬ v2 = 4 → ¬ v2 = 5 → ¬ v2 = 6 → (((zAi σ2 a5 (ix (zAi σ2 a7 (ix v1)))) ≤ (v2 - 7) → Q (-1) σ2) ∧ (¬ (zAi σ2 a5 (ix (zAi σ2 a7 (ix v1)))) ≤ (v2 - 7) → ∃ a20 : Nat, zFr σ2 1033 v0 = some a20 ∧ zK σ2 a20 = 20 ∧ vp_in (((4 * v1) + v2) - 7) (zL σ2 a20) ∧ Q (Int32.toInt64 (zAi σ2 a20 (ix (((4 * v1) + v2) - 7)))) σ2))))) ∧ (¬ (4 : Int32) ≤ v2 → zK σ2 v0 = 17 ∧ wX16_weighs v0 v1 v2 σ2 (fun y26 σ25 => Q y26 σ25)))) ∧ (¬ v2 ≤ (10 : Int32) → Q (-1) σ2)))))))
def wX16_told (v0 : Nat) (v1 : Int32) (v2 : Int32) (σ : St) (Q : Int64 → St → Prop) : Prop := wX16_told_0 Q v0 v1 v2 σ
set_option maxRecDepth 20000 in
theorem kwX16_told_0 {Γ : hCT} (C : hC Γ RX16 cX16_told ((Option.some FieldType.long)) "told" 3 83) {Q : Int64 → St → Prop} (hΓ : Γ.2.2.2.2.2.2.2.2.2.2.2 = (4, 0, 0, oJ Q)) (v0 : Nat) (v1 : Int32) (v2 : Int32) (σ : St) (hb : wX16_told_0 Q v0 v1 v2 σ) : hW Γ 0 0 0 [(0, .ref v0), (1, .int v1), (2, .int v2)] [] σ := by
  unfold wX16_told_0 at hb
  refine g_aload_n (some v0) C dX16_told_0 0 rfl ?_
  refine g_iconst (v := 0) C dX16_told_1 (by decide) ?_
  obtain ⟨q1, hb⟩ := hb
  refine g_putI C fl_RX16_1 dX16_told_2 q1 rfl rfl rfl rfl ?_
  refine g_aload_n (some v0) C dX16_told_5 0 rfl ?_
  refine g_iload_n C dX16_told_6 1 rfl ?_
  refine g_invV (ci := 16) [.int v1] [] zy_X16_isFact wd_1029 wd_1031 wd_42 ⟨_, _, rfl⟩ (by decide) C dX16_told_7 (by first | exact Nat.le_of_ble_eq_true rfl | simp [cat_rf]) (by first | exact Nat.le_of_ble_eq_true rfl | simp [cat_rf]) (by first | exact Nat.le_of_ble_eq_true rfl | simp [cat_rf]) (Nat.zero_le _) (Nat.zero_le _) rfl rfl (by rw [zK_uFi]; exact q1) (okX16_isFact hb) ?_
  rintro o σ2 ⟨y3, rfl, hb⟩
  refine ⟨_, rfl, ?_⟩
  refine g_if_eq (tgt := 23) C dX16_told_10 (by decide) (fun c => ?_) (fun c => ?_)
  ·
    replace hb := hb.1 (c)
    refine g_ldc2 C wd_1059 dX16_told_23 ?_
    exact g_lreturn C hΓ (Nat.zero_le _) (Nat.zero_le _) dX16_told_26 ⟨_, rfl, hb⟩
  ·
    replace hb := hb.2 (c)
    refine g_iload_n C dX16_told_13 2 rfl ?_
    refine g_if_lt (tgt := 23) C dX16_told_14 (by decide) (fun c => ?_) (fun c => ?_)
    ·
      replace hb := hb.1 (c)
      refine g_ldc2 C wd_1059 dX16_told_23 ?_
      exact g_lreturn C hΓ (Nat.zero_le _) (Nat.zero_le _) dX16_told_26 ⟨_, rfl, hb⟩
    ·
      replace hb := hb.2 (c)
      refine g_iload_n C dX16_told_17 2 rfl ?_
      refine g_bipush (v := 10) C dX16_told_18 (by decide) ?_
      refine g_icmp_le (tgt := 27) C dX16_told_20 (by decide) (fun c => ?_) (fun c => ?_)
      ·
        replace hb := hb.1 (c)
        refine g_iload_n C dX16_told_27 2 rfl ?_
        refine g_iconst (v := 4) C dX16_told_28 (by decide) ?_
        refine g_icmp_ge (tgt := 39) C dX16_told_29 (by decide) (fun c => ?_) (fun c => ?_)
        ·
          replace hb := hb.1 (c)
          refine g_aload_n (some v0) C dX16_told_39 0 rfl ?_
          obtain ⟨q4, hb⟩ := hb
          obtain ⟨a5, q6, hb⟩ := hb
          refine g_getR (some a5) C fl_RX16_76 dX16_told_40 q4 rfl rfl q6 ?_
          refine g_aload_n (some v0) C dX16_told_43 0 rfl ?_
          obtain ⟨a7, q8, hb⟩ := hb
          refine g_getR (some a7) C fl_RX16_91 dX16_told_44 q4 rfl rfl q8 ?_
          refine g_iload_n C dX16_told_47 1 rfl ?_
          obtain ⟨q9, hb⟩ := hb
          obtain ⟨q10, hb⟩ := hb
          refine g_ialdx (zAi σ2 a7 (ix v1)) C dX16_told_48 q9 q10 rfl ?_
          obtain ⟨q11, hb⟩ := hb
          obtain ⟨q12, hb⟩ := hb
          refine g_ialdx (zAi σ2 a5 (ix (zAi σ2 a7 (ix v1)))) C dX16_told_49 q11 q12 rfl ?_
          refine g_istore_n (i := 3) (lv' := [(3, .int (zAi σ2 a5 (ix (zAi σ2 a7 (ix v1))))), (0, .ref v0), (1, .int v1), (2, .int v2)]) C dX16_told_50 rfl (hnl_of hΓ (by decide)) (by first | rfl | simp [cat_rf]) ?_
          refine g_iload_n C dX16_told_51 3 rfl ?_
          by_cases c17 : v2 = 4
          ·
            replace hb := hb.1 c17
            refine g_tabIn (tgt := 80) (off := 28) C dX16_told_52 (by rw [c17]; decide) (by rw [c17]; decide) (by rw [c17]; rfl) (by decide) ?_
            refine g_aload_n (some v0) C dX16_told_80 1 rfl ?_
            obtain ⟨a13, q14, hb⟩ := hb
            refine g_getR (some a13) C fl_RX16_43 dX16_told_81 q4 rfl rfl q14 ?_
            refine g_iload_n C dX16_told_84 2 rfl ?_
            obtain ⟨q15, hb⟩ := hb
            obtain ⟨q16, hb⟩ := hb
            refine g_zaldx (zAi σ2 a13 (ix v1)) C dX16_told_85 q15 q16 rfl ?_
            refine g_if_eq (tgt := 93) C dX16_told_86 (by decide) (fun c => ?_) (fun c => ?_)
            ·
              replace hb := hb.1 (c)
              refine g_lconst (v := 0) C dX16_told_93 (by decide) ?_
              exact g_lreturn C hΓ (Nat.zero_le _) (Nat.zero_le _) dX16_told_94 ⟨_, rfl, hb⟩
            ·
              replace hb := hb.2 (c)
              refine g_lconst (v := 1) C dX16_told_89 (by decide) ?_
              refine g_goto (tgt := 94) C dX16_told_90 (by decide) ?_
              exact g_lreturn C hΓ (Nat.zero_le _) (Nat.zero_le _) dX16_told_94 ⟨_, rfl, hb⟩
          ·
            by_cases c18 : v2 = 5
            ·
              replace hb := hb.2.1 c18
              refine g_tabIn (tgt := 95) (off := 43) C dX16_told_52 (by rw [c18]; decide) (by rw [c18]; decide) (by rw [c18]; rfl) (by decide) ?_
              refine g_aload_n (some v0) C dX16_told_95 1 rfl ?_
              refine g_getR (some a7) C fl_RX16_91 dX16_told_96 q4 rfl rfl q8 ?_
              refine g_iload_n C dX16_told_99 2 rfl ?_
              refine g_ialdx (zAi σ2 a7 (ix v1)) C dX16_told_100 q9 q10 rfl ?_
              refine g_i2l C dX16_told_101 ?_
              exact g_lreturn C hΓ (Nat.zero_le _) (Nat.zero_le _) dX16_told_102 ⟨_, rfl, hb⟩
            ·
              by_cases c19 : v2 = 6
              ·
                replace hb := hb.2.2.1 c19
                refine g_tabIn (tgt := 103) (off := 51) C dX16_told_52 (by rw [c19]; decide) (by rw [c19]; decide) (by rw [c19]; rfl) (by decide) ?_
                refine g_iload_n C dX16_told_103 0 rfl ?_
                refine g_i2l C dX16_told_104 ?_
                exact g_lreturn C hΓ (Nat.zero_le _) (Nat.zero_le _) dX16_told_105 ⟨_, rfl, hb⟩
              ·
                replace hb := hb.2.2.2 c17 c18 c19
                have hz : Int32.toInt v2 < 4 ∨ 6 < Int32.toInt v2 := by
                  have h_c17 := i32_ne c17
                  have h_c18 := i32_ne c18
                  have h_c19 := i32_ne c19
                  rw [show Int32.toInt 4 = 4 from rfl] at h_c17; rw [show Int32.toInt 5 = 5 from rfl] at h_c18; rw [show Int32.toInt 6 = 6 from rfl] at h_c19
                  omega
                refine g_tabOut (tgt := 106) C dX16_told_52 hz (by decide) ?_
                refine g_iload_n C dX16_told_106 3 rfl ?_
                refine g_bipush (v := 7) C dX16_told_107 (by decide) ?_
                refine g_isub C dX16_told_109 ?_
                refine g_iload_n C dX16_told_110 0 rfl ?_
                refine g_icmp_ge (tgt := 131) C dX16_told_111 (by decide) (fun c => ?_) (fun c => ?_)
                ·
                  replace hb := hb.1 (c)
                  refine g_ldc2 C wd_1059 dX16_told_131 ?_
                  exact g_lreturn C hΓ (Nat.zero_le _) (Nat.zero_le _) dX16_told_134 ⟨_, rfl, hb⟩
                ·
                  replace hb := hb.2 (c)
                  refine g_aload_n (some v0) C dX16_told_114 1 rfl ?_
                  obtain ⟨a20, q21, hb⟩ := hb
                  refine g_getR (some a20) C fl_RX16_94 dX16_told_115 q4 rfl rfl q21 ?_
                  refine g_iconst (v := 4) C dX16_told_118 (by decide) ?_
                  refine g_iload_n C dX16_told_119 2 rfl ?_
                  refine g_imul C dX16_told_120 ?_
                  refine g_iload_n C dX16_told_121 3 rfl ?_
                  refine g_iadd C dX16_told_122 ?_
                  refine g_bipush (v := 7) C dX16_told_123 (by decide) ?_
                  refine g_isub C dX16_told_125 ?_
                  obtain ⟨q22, hb⟩ := hb
                  obtain ⟨q23, hb⟩ := hb
                  refine g_ialdx (zAi σ2 a20 (ix (((4 * v1) + v2) - 7))) C dX16_told_126 q22 q23 rfl ?_
                  refine g_i2l C dX16_told_127 ?_
                  refine g_goto (tgt := 134) C dX16_told_128 (by decide) ?_
                  exact g_lreturn C hΓ (Nat.zero_le _) (Nat.zero_le _) dX16_told_134 ⟨_, rfl, hb⟩
        ·
          replace hb := hb.2 (c)
          refine g_aload_n (some v0) C dX16_told_32 0 rfl ?_
          refine g_iload_n C dX16_told_33 1 rfl ?_
          refine g_iload_n C dX16_told_34 2 rfl ?_
          obtain ⟨q24, hb⟩ := hb
          refine g_invV (ci := 16) [.int v1, .int v2] [] zy_X16_weighs wd_1041 wd_1043 wd_43 ⟨_, _, rfl⟩ (by decide) C dX16_told_35 (by first | exact Nat.le_of_ble_eq_true rfl | simp [cat_rf]) (by first | exact Nat.le_of_ble_eq_true rfl | simp [cat_rf]) (by first | exact Nat.le_of_ble_eq_true rfl | simp [cat_rf]) (Nat.zero_le _) (Nat.zero_le _) rfl rfl q24 (okX16_weighs hb) ?_
          rintro o σ25 ⟨y26, rfl, hb⟩
          refine ⟨_, rfl, ?_⟩
          exact g_lreturn C hΓ (Nat.zero_le _) (Nat.zero_le _) dX16_told_38 ⟨_, rfl, hb⟩
      ·
        replace hb := hb.2 (c)
        refine g_ldc2 C wd_1059 dX16_told_23 ?_
        exact g_lreturn C hΓ (Nat.zero_le _) (Nat.zero_le _) dX16_told_26 ⟨_, rfl, hb⟩
theorem okX16_told {v0 : Nat} {v1 : Int32} {v2 : Int32} {σ : St} {Q : Int64 → St → Prop} (hb : wX16_told v0 v1 v2 σ Q) : hM yX16_told cX16_told 4 ((Option.some FieldType.long)) 3 83 0 0 [.ref v0, .int v1, .int v2] σ (oJ Q) :=
  hM_of (by decide) (Nat.le_of_ble_eq_true rfl) (fun Γ hΓ C => kwX16_told_0 C hΓ _ _ _ _ hb)
def wX16_made_134 (Q : Int32 → St → Prop) (v0 : Nat) (v9 : Int32) (s2 : Int32) (s1 : Int32) (s0 : Nat) (σ : St) : Prop :=
  zK σ s0 = 23 ∧ vp_in s1 (zL σ s0) ∧ zK σ v0 = 17 ∧ wX16_act v0 4 v9 0 (uAi σ s0 (ix s1) (vp_nar .boolean s2)) (fun y5 σ4 => zK σ4 v0 = 17 ∧ wX16_done v0 v9 (uFi σ4 1030 v0 ((zFi σ4 1030 v0) + 1)) (fun y8 σ7 => Q y8 σ7))
def wX16_made_133 (Q : Int32 → St → Prop) (v0 : Nat) (v9 : Int32) (s1 : Int32) (s0 : Nat) (σ : St) : Prop :=
  wX16_made_134 Q v0 v9 0 s1 s0 σ
def wX16_made_129 (Q : Int32 → St → Prop) (v0 : Nat) (v9 : Int32) (s1 : Int32) (s0 : Nat) (σ : St) : Prop :=
  wX16_made_134 Q v0 v9 1 s1 s0 σ
def wX16_made_115 (Q : Int32 → St → Prop) (v0 : Nat) (v3 : Int32) (v9 : Int32) (s1 : Int32) (s0 : Nat) (σ : St) : Prop :=
  ((v3 = ((-1) : Int32) → wX16_made_133 Q v0 v9 s1 s0 σ) ∧ (¬ v3 = ((-1) : Int32) → zK σ v0 = 17 ∧ ∃ a2 : Nat, zFr σ 1047 v0 = some a2 ∧ zK σ a2 = 23 ∧ vp_in v3 (zL σ a2) ∧ (((zAi σ a2 (ix v3)) = 0 → wX16_made_133 Q v0 v9 s1 s0 σ) ∧ (¬ (zAi σ a2 (ix v3)) = 0 → wX16_made_129 Q v0 v9 s1 s0 σ))))
def wX16_made_0 (Q : Int32 → St → Prop) (v0 : Nat) (v1 : Int32) (v2 : Int32) (v3 : Int32) (v4 : Int32) (v5 : Int32) (v6 : Int32) (v7 : Int32) (v8 : Int32) (σ : St) : Prop :=
  zK σ v0 = 17 ∧ ((¬ (zFi σ 1030 v0) = (40 : Int32) → ∃ a2 : Nat, zFr σ 1039 v0 = some a2 ∧ zK σ a2 = 20 ∧ vp_in (zFi σ 1030 v0) (zL σ a2) ∧ ∃ a6 : Nat, zFr σ 1040 v0 = some a6 ∧ zK σ a6 = 20 ∧ vp_in (zFi σ 1030 v0) (zL σ a6) ∧ ∃ a10 : Nat, zFr σ 1041 v0 = some a10 ∧ zK σ a10 = 20 ∧ vp_in (zFi σ 1030 v0) (zL σ a10) ∧ ∃ a14 : Nat, zFr σ 1042 v0 = some a14 ∧ zK σ a14 = 20 ∧ vp_in (zFi σ 1030 v0) (zL σ a14) ∧ ∃ a18 : Nat, zFr σ 1043 v0 = some a18 ∧ zK σ a18 = 20 ∧ vp_in (zFi σ 1030 v0) (zL σ a18) ∧ ∃ a22 : Nat, zFr σ 1044 v0 = some a22 ∧ zK σ a22 = 20 ∧ vp_in (zFi σ 1030 v0) (zL σ a22) ∧ ∃ a26 : Nat, zFr σ 1045 v0 = some a26 ∧ zK σ a26 = 20 ∧ vp_in (zFi σ 1030 v0) (zL σ a26) ∧ ∃ a30 : Nat, zFr σ 1046 v0 = some a30 ∧ zK σ a30 = 20 ∧ vp_in (zFi σ 1030 v0) (zL σ a30) ∧ ∃ a34 : Nat, zFr σ 1047 v0 = some a34 ∧ ((v1 = (6 : Int32) → wX16_made_129 Q v0 (zFi σ 1030 v0) (zFi σ 1030 v0) a34 (uAi (uAi (uAi (uAi (uAi (uAi (uAi (uAi σ a2 (ix (zFi σ 1030 v0)) v1) a6 (ix (zFi σ 1030 v0)) v2) a10 (ix (zFi σ 1030 v0)) v3) a14 (ix (zFi σ 1030 v0)) v4) a18 (ix (zFi σ 1030 v0)) v5) a22 (ix (zFi σ 1030 v0)) v6) a26 (ix (zFi σ 1030 v0)) v7) a30 (ix (zFi σ 1030 v0)) v8)) ∧ (¬ v1 = (6 : Int32) → ((v1 = 0 → wX16_made_115 Q v0 v3 (zFi σ 1030 v0) (zFi σ 1030 v0) a34 (uAi (uAi (uAi (uAi (uAi (uAi (uAi (uAi σ a2 (ix (zFi σ 1030 v0)) v1) a6 (ix (zFi σ 1030 v0)) v2) a10 (ix (zFi σ 1030 v0)) v3) a14 (ix (zFi σ 1030 v0)) v4) a18 (ix (zFi σ 1030 v0)) v5) a22 (ix (zFi σ 1030 v0)) v6) a26 (ix (zFi σ 1030 v0)) v7) a30 (ix (zFi σ 1030 v0)) v8)) ∧ (¬ v1 = 0 → zK σ a34 = 23 ∧ vp_in v2 (zL σ a34) ∧ ((¬ (zAi (uAi (uAi (uAi (uAi (uAi (uAi (uAi (uAi σ a2 (ix (zFi σ 1030 v0)) v1) a6 (ix (zFi σ 1030 v0)) v2) a10 (ix (zFi σ 1030 v0)) v3) a14 (ix (zFi σ 1030 v0)) v4) a18 (ix (zFi σ 1030 v0)) v5) a22 (ix (zFi σ 1030 v0)) v6) a26 (ix (zFi σ 1030 v0)) v7) a30 (ix (zFi σ 1030 v0)) v8) a34 (ix v2)) = 0 → wX16_made_129 Q v0 (zFi σ 1030 v0) (zFi σ 1030 v0) a34 (uAi (uAi (uAi (uAi (uAi (uAi (uAi (uAi σ a2 (ix (zFi σ 1030 v0)) v1) a6 (ix (zFi σ 1030 v0)) v2) a10 (ix (zFi σ 1030 v0)) v3) a14 (ix (zFi σ 1030 v0)) v4) a18 (ix (zFi σ 1030 v0)) v5) a22 (ix (zFi σ 1030 v0)) v6) a26 (ix (zFi σ 1030 v0)) v7) a30 (ix (zFi σ 1030 v0)) v8)) ∧ ((zAi (uAi (uAi (uAi (uAi (uAi (uAi (uAi (uAi σ a2 (ix (zFi σ 1030 v0)) v1) a6 (ix (zFi σ 1030 v0)) v2) a10 (ix (zFi σ 1030 v0)) v3) a14 (ix (zFi σ 1030 v0)) v4) a18 (ix (zFi σ 1030 v0)) v5) a22 (ix (zFi σ 1030 v0)) v6) a26 (ix (zFi σ 1030 v0)) v7) a30 (ix (zFi σ 1030 v0)) v8) a34 (ix v2)) = 0 → wX16_made_115 Q v0 v3 (zFi σ 1030 v0) (zFi σ 1030 v0) a34 (uAi (uAi (uAi (uAi (uAi (uAi (uAi (uAi σ a2 (ix (zFi σ 1030 v0)) v1) a6 (ix (zFi σ 1030 v0)) v2) a10 (ix (zFi σ 1030 v0)) v3) a14 (ix (zFi σ 1030 v0)) v4) a18 (ix (zFi σ 1030 v0)) v5) a22 (ix (zFi σ 1030 v0)) v6) a26 (ix (zFi σ 1030 v0)) v7) a30 (ix (zFi σ 1030 v0)) v8)))))))) ∧ ((zFi σ 1030 v0) = (40 : Int32) → wX16_refused v0 4 σ (fun y39 σ38 => Q y39 σ38)))
def wX16_made (v0 : Nat) (v1 : Int32) (v2 : Int32) (v3 : Int32) (v4 : Int32) (v5 : Int32) (v6 : Int32) (v7 : Int32) (v8 : Int32) (σ : St) (Q : Int32 → St → Prop) : Prop := wX16_made_0 Q v0 v1 v2 v3 v4 v5 v6 v7 v8 σ
set_option maxRecDepth 20000 in
theorem kwX16_made_134 {Γ : hCT} (C : hC Γ RX16 cX16_made ((Option.some FieldType.int)) "made" 1 25) {Q : Int32 → St → Prop} (hΓ : Γ.2.2.2.2.2.2.2.2.2.2.2 = (10, 0, 0, oI Q)) (v0 : Nat) (v9 : Int32) (s2 : Int32) (s1 : Int32) (s0 : Nat) (σ : St) (hb : wX16_made_134 Q v0 v9 s2 s1 s0 σ) : hW Γ 0 0 134 [(0, .ref v0), (9, .int v9)] [.int s2, .int s1, .ref s0] σ := by
  unfold wX16_made_134 at hb
  obtain ⟨q1, hb⟩ := hb
  obtain ⟨q2, hb⟩ := hb
  refine g_zast C dX16_made_134 q1 q2 ?_
  refine g_aload_n (some v0) C dX16_made_135 0 rfl ?_
  refine g_iconst (v := 4) C dX16_made_136 (by decide) ?_
  refine g_iload C dX16_made_137 1 rfl ?_
  refine g_iconst (v := 0) C dX16_made_139 (by decide) ?_
  obtain ⟨q3, hb⟩ := hb
  refine g_invV (ci := 16) [.int 4, .int v9, .int 0] [] zy_X16_act wd_1009 wd_1011 wd_39 ⟨_, _, rfl⟩ (by decide) C dX16_made_140 (by first | exact Nat.le_of_ble_eq_true rfl | simp [cat_rf]) (by first | exact Nat.le_of_ble_eq_true rfl | simp [cat_rf]) (by first | exact Nat.le_of_ble_eq_true rfl | simp [cat_rf]) (Nat.zero_le _) (Nat.zero_le _) rfl rfl (by rw [zK_uAi]; exact q3) (okX16_act hb) ?_
  rintro o σ4 ⟨y5, rfl, hb⟩
  refine ⟨_, rfl, ?_⟩
  refine g_pop C dX16_made_143 rfl ?_
  refine g_aload_n (some v0) C dX16_made_144 0 rfl ?_
  refine g_dup C dX16_made_145 rfl ?_
  obtain ⟨q6, hb⟩ := hb
  refine g_getIx (zFi σ4 1030 v0) C fl_RX16_55 dX16_made_146 q6 rfl rfl rfl ?_
  refine g_iconst (v := 1) C dX16_made_149 (by decide) ?_
  refine g_iadd C dX16_made_150 ?_
  refine g_putI C fl_RX16_55 dX16_made_151 q6 rfl rfl rfl rfl ?_
  refine g_aload_n (some v0) C dX16_made_154 0 rfl ?_
  refine g_iload C dX16_made_155 1 rfl ?_
  refine g_invV (ci := 16) [.int v9] [] zy_X16_done wd_1013 wd_1015 wd_40 ⟨_, _, rfl⟩ (by decide) C dX16_made_157 (by first | exact Nat.le_of_ble_eq_true rfl | simp [cat_rf]) (by first | exact Nat.le_of_ble_eq_true rfl | simp [cat_rf]) (by first | exact Nat.le_of_ble_eq_true rfl | simp [cat_rf]) (Nat.zero_le _) (Nat.zero_le _) rfl rfl (by rw [zK_uFi]; exact q6) (okX16_done hb) ?_
  rintro o σ7 ⟨y8, rfl, hb⟩
  refine ⟨_, rfl, ?_⟩
  exact g_ireturn C hΓ (Nat.zero_le _) (Nat.zero_le _) dX16_made_160 ⟨_, rfl, hb⟩
set_option maxRecDepth 20000 in
theorem kwX16_made_133 {Γ : hCT} (C : hC Γ RX16 cX16_made ((Option.some FieldType.int)) "made" 1 25) {Q : Int32 → St → Prop} (hΓ : Γ.2.2.2.2.2.2.2.2.2.2.2 = (10, 0, 0, oI Q)) (v0 : Nat) (v9 : Int32) (s1 : Int32) (s0 : Nat) (σ : St) (hb : wX16_made_133 Q v0 v9 s1 s0 σ) : hW Γ 0 0 133 [(0, .ref v0), (9, .int v9)] [.int s1, .ref s0] σ := by
  unfold wX16_made_133 at hb
  refine g_iconst (v := 0) C dX16_made_133 (by decide) ?_
  refine g_sub (lv' := [(0, .ref v0), (9, .int v9)]) [0, 1] rfl ?_
  exact kwX16_made_134 C hΓ  _ _ _ _ _ _ hb
set_option maxRecDepth 20000 in
theorem kwX16_made_129 {Γ : hCT} (C : hC Γ RX16 cX16_made ((Option.some FieldType.int)) "made" 1 25) {Q : Int32 → St → Prop} (hΓ : Γ.2.2.2.2.2.2.2.2.2.2.2 = (10, 0, 0, oI Q)) (v0 : Nat) (v9 : Int32) (s1 : Int32) (s0 : Nat) (σ : St) (hb : wX16_made_129 Q v0 v9 s1 s0 σ) : hW Γ 0 0 129 [(0, .ref v0), (9, .int v9)] [.int s1, .ref s0] σ := by
  unfold wX16_made_129 at hb
  refine g_iconst (v := 1) C dX16_made_129 (by decide) ?_
  refine g_goto (tgt := 134) C dX16_made_130 (by decide) ?_
  refine g_sub (lv' := [(0, .ref v0), (9, .int v9)]) [0, 1] rfl ?_
  exact kwX16_made_134 C hΓ  _ _ _ _ _ _ hb
set_option maxRecDepth 20000 in
theorem kwX16_made_115 {Γ : hCT} (C : hC Γ RX16 cX16_made ((Option.some FieldType.int)) "made" 1 25) {Q : Int32 → St → Prop} (hΓ : Γ.2.2.2.2.2.2.2.2.2.2.2 = (10, 0, 0, oI Q)) (v0 : Nat) (v3 : Int32) (v9 : Int32) (s1 : Int32) (s0 : Nat) (σ : St) (hb : wX16_made_115 Q v0 v3 v9 s1 s0 σ) : hW Γ 0 0 115 [(0, .ref v0), (3, .int v3), (9, .int v9)] [.int s1, .ref s0] σ := by
  unfold wX16_made_115 at hb
  refine g_iload_n C dX16_made_115 1 rfl ?_
  refine g_iconst (v := (-1)) C dX16_made_116 (by decide) ?_
  refine g_icmp_eq (tgt := 133) C dX16_made_117 (by decide) (fun c => ?_) (fun c => ?_)
  ·
    replace hb := hb.1 (c)
    refine g_sub (lv' := [(0, .ref v0), (9, .int v9)]) [0, 2] rfl ?_
    exact kwX16_made_133 C hΓ  _ _ _ _ _ hb
  ·
    replace hb := hb.2 (c)
    refine g_aload_n (some v0) C dX16_made_120 0 rfl ?_
    obtain ⟨q1, hb⟩ := hb
    obtain ⟨a2, q3, hb⟩ := hb
    refine g_getR (some a2) C fl_RX16_161 dX16_made_121 q1 rfl rfl q3 ?_
    refine g_iload_n C dX16_made_124 1 rfl ?_
    obtain ⟨q4, hb⟩ := hb
    obtain ⟨q5, hb⟩ := hb
    refine g_zaldx (zAi σ a2 (ix v3)) C dX16_made_125 q4 q5 rfl ?_
    refine g_if_eq (tgt := 133) C dX16_made_126 (by decide) (fun c => ?_) (fun c => ?_)
    ·
      replace hb := hb.1 (c)
      refine g_sub (lv' := [(0, .ref v0), (9, .int v9)]) [0, 2] rfl ?_
      exact kwX16_made_133 C hΓ  _ _ _ _ _ hb
    ·
      replace hb := hb.2 (c)
      refine g_sub (lv' := [(0, .ref v0), (9, .int v9)]) [0, 2] rfl ?_
      exact kwX16_made_129 C hΓ  _ _ _ _ _ hb
set_option maxRecDepth 20000 in
theorem kwX16_made_0 {Γ : hCT} (C : hC Γ RX16 cX16_made ((Option.some FieldType.int)) "made" 1 25) {Q : Int32 → St → Prop} (hΓ : Γ.2.2.2.2.2.2.2.2.2.2.2 = (10, 0, 0, oI Q)) (v0 : Nat) (v1 : Int32) (v2 : Int32) (v3 : Int32) (v4 : Int32) (v5 : Int32) (v6 : Int32) (v7 : Int32) (v8 : Int32) (σ : St) (hb : wX16_made_0 Q v0 v1 v2 v3 v4 v5 v6 v7 v8 σ) : hW Γ 0 0 0 [(0, .ref v0), (1, .int v1), (2, .int v2), (3, .int v3), (4, .int v4), (5, .int v5), (6, .int v6), (7, .int v7), (8, .int v8)] [] σ := by
  unfold wX16_made_0 at hb
  refine g_aload_n (some v0) C dX16_made_0 0 rfl ?_
  obtain ⟨q1, hb⟩ := hb
  refine g_getIx (zFi σ 1030 v0) C fl_RX16_55 dX16_made_1 q1 rfl rfl rfl ?_
  refine g_bipush (v := 40) C dX16_made_4 (by decide) ?_
  refine g_icmp_ne (tgt := 15) C dX16_made_6 (by decide) (fun c => ?_) (fun c => ?_)
  ·
    replace hb := hb.1 (c)
    refine g_aload_n (some v0) C dX16_made_15 0 rfl ?_
    refine g_getIx (zFi σ 1030 v0) C fl_RX16_55 dX16_made_16 q1 rfl rfl rfl ?_
    refine g_istore (lv' := [(9, .int (zFi σ 1030 v0)), (0, .ref v0), (1, .int v1), (2, .int v2), (3, .int v3), (4, .int v4), (5, .int v5), (6, .int v6), (7, .int v7), (8, .int v8)]) C dX16_made_19 (hnl_of hΓ (by decide)) (by first | rfl | simp [cat_rf]) ?_
    refine g_aload_n (some v0) C dX16_made_21 1 rfl ?_
    obtain ⟨a2, q3, hb⟩ := hb
    refine g_getR (some a2) C fl_RX16_137 dX16_made_22 q1 rfl rfl q3 ?_
    refine g_iload C dX16_made_25 0 rfl ?_
    refine g_iload_n C dX16_made_27 2 rfl ?_
    obtain ⟨q4, hb⟩ := hb
    obtain ⟨q5, hb⟩ := hb
    refine g_iast C dX16_made_28 q4 q5 ?_
    refine g_aload_n (some v0) C dX16_made_29 1 rfl ?_
    obtain ⟨a6, q7, hb⟩ := hb
    refine g_getR (some a6) C fl_RX16_140 dX16_made_30 (by rw [zK_uAi]; exact q1) rfl rfl (by rw [zFr_uAi]; exact q7) ?_
    refine g_iload C dX16_made_33 0 rfl ?_
    refine g_iload_n C dX16_made_35 3 rfl ?_
    obtain ⟨q8, hb⟩ := hb
    obtain ⟨q9, hb⟩ := hb
    refine g_iast C dX16_made_36 (by rw [zK_uAi]; exact q8) (by rw [zL_uAi]; exact q9) ?_
    refine g_aload_n (some v0) C dX16_made_37 1 rfl ?_
    obtain ⟨a10, q11, hb⟩ := hb
    refine g_getR (some a10) C fl_RX16_143 dX16_made_38 (by rw [zK_uAi, zK_uAi]; exact q1) rfl rfl (by rw [zFr_uAi, zFr_uAi]; exact q11) ?_
    refine g_iload C dX16_made_41 0 rfl ?_
    refine g_iload_n C dX16_made_43 4 rfl ?_
    obtain ⟨q12, hb⟩ := hb
    obtain ⟨q13, hb⟩ := hb
    refine g_iast C dX16_made_44 (by rw [zK_uAi, zK_uAi]; exact q12) (by rw [zL_uAi, zL_uAi]; exact q13) ?_
    refine g_aload_n (some v0) C dX16_made_45 1 rfl ?_
    obtain ⟨a14, q15, hb⟩ := hb
    refine g_getR (some a14) C fl_RX16_146 dX16_made_46 (by rw [zK_uAi, zK_uAi, zK_uAi]; exact q1) rfl rfl (by rw [zFr_uAi, zFr_uAi, zFr_uAi]; exact q15) ?_
    refine g_iload C dX16_made_49 0 rfl ?_
    refine g_iload C dX16_made_51 5 rfl ?_
    obtain ⟨q16, hb⟩ := hb
    obtain ⟨q17, hb⟩ := hb
    refine g_iast C dX16_made_53 (by rw [zK_uAi, zK_uAi, zK_uAi]; exact q16) (by rw [zL_uAi, zL_uAi, zL_uAi]; exact q17) ?_
    refine g_aload_n (some v0) C dX16_made_54 1 rfl ?_
    obtain ⟨a18, q19, hb⟩ := hb
    refine g_getR (some a18) C fl_RX16_149 dX16_made_55 (by rw [zK_uAi, zK_uAi, zK_uAi, zK_uAi]; exact q1) rfl rfl (by rw [zFr_uAi, zFr_uAi, zFr_uAi, zFr_uAi]; exact q19) ?_
    refine g_iload C dX16_made_58 0 rfl ?_
    refine g_iload C dX16_made_60 6 rfl ?_
    obtain ⟨q20, hb⟩ := hb
    obtain ⟨q21, hb⟩ := hb
    refine g_iast C dX16_made_62 (by rw [zK_uAi, zK_uAi, zK_uAi, zK_uAi]; exact q20) (by rw [zL_uAi, zL_uAi, zL_uAi, zL_uAi]; exact q21) ?_
    refine g_aload_n (some v0) C dX16_made_63 1 rfl ?_
    obtain ⟨a22, q23, hb⟩ := hb
    refine g_getR (some a22) C fl_RX16_152 dX16_made_64 (by rw [zK_uAi, zK_uAi, zK_uAi, zK_uAi, zK_uAi]; exact q1) rfl rfl (by rw [zFr_uAi, zFr_uAi, zFr_uAi, zFr_uAi, zFr_uAi]; exact q23) ?_
    refine g_iload C dX16_made_67 0 rfl ?_
    refine g_iload C dX16_made_69 7 rfl ?_
    obtain ⟨q24, hb⟩ := hb
    obtain ⟨q25, hb⟩ := hb
    refine g_iast C dX16_made_71 (by rw [zK_uAi, zK_uAi, zK_uAi, zK_uAi, zK_uAi]; exact q24) (by rw [zL_uAi, zL_uAi, zL_uAi, zL_uAi, zL_uAi]; exact q25) ?_
    refine g_aload_n (some v0) C dX16_made_72 1 rfl ?_
    obtain ⟨a26, q27, hb⟩ := hb
    refine g_getR (some a26) C fl_RX16_155 dX16_made_73 (by rw [zK_uAi, zK_uAi, zK_uAi, zK_uAi, zK_uAi, zK_uAi]; exact q1) rfl rfl (by rw [zFr_uAi, zFr_uAi, zFr_uAi, zFr_uAi, zFr_uAi, zFr_uAi]; exact q27) ?_
    refine g_iload C dX16_made_76 0 rfl ?_
    refine g_iload C dX16_made_78 8 rfl ?_
    obtain ⟨q28, hb⟩ := hb
    obtain ⟨q29, hb⟩ := hb
    refine g_iast C dX16_made_80 (by rw [zK_uAi, zK_uAi, zK_uAi, zK_uAi, zK_uAi, zK_uAi]; exact q28) (by rw [zL_uAi, zL_uAi, zL_uAi, zL_uAi, zL_uAi, zL_uAi]; exact q29) ?_
    refine g_aload_n (some v0) C dX16_made_81 1 rfl ?_
    obtain ⟨a30, q31, hb⟩ := hb
    refine g_getR (some a30) C fl_RX16_158 dX16_made_82 (by rw [zK_uAi, zK_uAi, zK_uAi, zK_uAi, zK_uAi, zK_uAi, zK_uAi]; exact q1) rfl rfl (by rw [zFr_uAi, zFr_uAi, zFr_uAi, zFr_uAi, zFr_uAi, zFr_uAi, zFr_uAi]; exact q31) ?_
    refine g_iload C dX16_made_85 0 rfl ?_
    refine g_iload C dX16_made_87 9 rfl ?_
    obtain ⟨q32, hb⟩ := hb
    obtain ⟨q33, hb⟩ := hb
    refine g_iast C dX16_made_89 (by rw [zK_uAi, zK_uAi, zK_uAi, zK_uAi, zK_uAi, zK_uAi, zK_uAi]; exact q32) (by rw [zL_uAi, zL_uAi, zL_uAi, zL_uAi, zL_uAi, zL_uAi, zL_uAi]; exact q33) ?_
    refine g_aload_n (some v0) C dX16_made_90 1 rfl ?_
    obtain ⟨a34, q35, hb⟩ := hb
    refine g_getR (some a34) C fl_RX16_161 dX16_made_91 (by rw [zK_uAi, zK_uAi, zK_uAi, zK_uAi, zK_uAi, zK_uAi, zK_uAi, zK_uAi]; exact q1) rfl rfl (by rw [zFr_uAi, zFr_uAi, zFr_uAi, zFr_uAi, zFr_uAi, zFr_uAi, zFr_uAi, zFr_uAi]; exact q35) ?_
    refine g_iload C dX16_made_94 0 rfl ?_
    refine g_iload_n C dX16_made_96 2 rfl ?_
    refine g_bipush (v := 6) C dX16_made_97 (by decide) ?_
    refine g_icmp_eq (tgt := 129) C dX16_made_99 (by decide) (fun c => ?_) (fun c => ?_)
    ·
      replace hb := hb.1 (c)
      refine g_sub (lv' := [(0, .ref v0), (9, .int (zFi σ 1030 v0))]) [1, 0] rfl ?_
      exact kwX16_made_129 C hΓ  _ _ _ _ _ hb
    ·
      replace hb := hb.2 (c)
      refine g_iload_n C dX16_made_102 2 rfl ?_
      refine g_if_eq (tgt := 115) C dX16_made_103 (by decide) (fun c => ?_) (fun c => ?_)
      ·
        replace hb := hb.1 (c)
        refine g_sub (lv' := [(0, .ref v0), (3, .int v3), (9, .int (zFi σ 1030 v0))]) [1, 4, 0] rfl ?_
        exact kwX16_made_115 C hΓ  _ _ _ _ _ _ hb
      ·
        replace hb := hb.2 (c)
        refine g_aload_n (some v0) C dX16_made_106 1 rfl ?_
        refine g_getR (some a34) C fl_RX16_161 dX16_made_107 (by rw [zK_uAi, zK_uAi, zK_uAi, zK_uAi, zK_uAi, zK_uAi, zK_uAi, zK_uAi]; exact q1) rfl rfl (by rw [zFr_uAi, zFr_uAi, zFr_uAi, zFr_uAi, zFr_uAi, zFr_uAi, zFr_uAi, zFr_uAi]; exact q35) ?_
        refine g_iload_n C dX16_made_110 3 rfl ?_
        obtain ⟨q36, hb⟩ := hb
        obtain ⟨q37, hb⟩ := hb
        refine g_zaldx (zAi (uAi (uAi (uAi (uAi (uAi (uAi (uAi (uAi σ a2 (ix (zFi σ 1030 v0)) v1) a6 (ix (zFi σ 1030 v0)) v2) a10 (ix (zFi σ 1030 v0)) v3) a14 (ix (zFi σ 1030 v0)) v4) a18 (ix (zFi σ 1030 v0)) v5) a22 (ix (zFi σ 1030 v0)) v6) a26 (ix (zFi σ 1030 v0)) v7) a30 (ix (zFi σ 1030 v0)) v8) a34 (ix v2)) C dX16_made_111 (by rw [zK_uAi, zK_uAi, zK_uAi, zK_uAi, zK_uAi, zK_uAi, zK_uAi, zK_uAi]; exact q36) (by rw [zL_uAi, zL_uAi, zL_uAi, zL_uAi, zL_uAi, zL_uAi, zL_uAi, zL_uAi]; exact q37) rfl ?_
        refine g_if_ne (tgt := 129) C dX16_made_112 (by decide) (fun c => ?_) (fun c => ?_)
        ·
          replace hb := hb.1 (c)
          refine g_sub (lv' := [(0, .ref v0), (9, .int (zFi σ 1030 v0))]) [1, 0] rfl ?_
          exact kwX16_made_129 C hΓ  _ _ _ _ _ hb
        ·
          replace hb := hb.2 (c)
          refine g_sub (lv' := [(0, .ref v0), (3, .int v3), (9, .int (zFi σ 1030 v0))]) [1, 4, 0] rfl ?_
          exact kwX16_made_115 C hΓ  _ _ _ _ _ _ hb
  ·
    replace hb := hb.2 (c)
    refine g_aload_n (some v0) C dX16_made_9 0 rfl ?_
    refine g_iconst (v := 4) C dX16_made_10 (by decide) ?_
    refine g_invV (ci := 16) [.int 4] [] zy_X16_refused wd_1005 wd_1007 wd_38 ⟨_, _, rfl⟩ (by decide) C dX16_made_11 (by first | exact Nat.le_of_ble_eq_true rfl | simp [cat_rf]) (by first | exact Nat.le_of_ble_eq_true rfl | simp [cat_rf]) (by first | exact Nat.le_of_ble_eq_true rfl | simp [cat_rf]) (Nat.zero_le _) (Nat.zero_le _) rfl rfl q1 (okX16_refused hb) ?_
    rintro o σ38 ⟨y39, rfl, hb⟩
    refine ⟨_, rfl, ?_⟩
    exact g_ireturn C hΓ (Nat.zero_le _) (Nat.zero_le _) dX16_made_14 ⟨_, rfl, hb⟩
theorem okX16_made {v0 : Nat} {v1 : Int32} {v2 : Int32} {v3 : Int32} {v4 : Int32} {v5 : Int32} {v6 : Int32} {v7 : Int32} {v8 : Int32} {σ : St} {Q : Int32 → St → Prop} (hb : wX16_made v0 v1 v2 v3 v4 v5 v6 v7 v8 σ Q) : hM yX16_made cX16_made 10 ((Option.some FieldType.int)) 1 25 0 0 [.ref v0, .int v1, .int v2, .int v3, .int v4, .int v5, .int v6, .int v7, .int v8] σ (oI Q) :=
  hM_of (by decide) (Nat.le_of_ble_eq_true rfl) (fun Γ hΓ C => kwX16_made_0 C hΓ _ _ _ _ _ _ _ _ _ _ hb)
def wX16_base_0 (Q : Int32 → St → Prop) (v0 : Nat) (v1 : Int32) (σ : St) : Prop :=
  zK σ v0 = 17 ∧ wX16_isTable v0 v1 (uFi σ 1024 v0 0) (fun y3 σ2 => ((y3 = 0 → zK σ2 v0 = 17 ∧ wX16_refused v0 1 σ2 (fun y6 σ5 => Q y6 σ5)) ∧ (¬ y3 = 0 → zK σ2 v0 = 17 ∧ ∃ a8 : Nat, zFr σ2 1031 v0 = some a8 ∧ zK σ2 a8 = 20 ∧ vp_in v1 (zL σ2 a8) ∧ wX16_made v0 0 v1 (-1) (zAi σ2 a8 (ix v1)) 0 0 0 0 σ2 (fun y13 σ12 => Q y13 σ12))))
def wX16_base (v0 : Nat) (v1 : Int32) (σ : St) (Q : Int32 → St → Prop) : Prop := wX16_base_0 Q v0 v1 σ
set_option maxRecDepth 20000 in
theorem kwX16_base_0 {Γ : hCT} (C : hC Γ RX16 cX16_base ((Option.some FieldType.int)) "base" 2 54) {Q : Int32 → St → Prop} (hΓ : Γ.2.2.2.2.2.2.2.2.2.2.2 = (2, 0, 0, oI Q)) (v0 : Nat) (v1 : Int32) (σ : St) (hb : wX16_base_0 Q v0 v1 σ) : hW Γ 0 0 0 [(0, .ref v0), (1, .int v1)] [] σ := by
  unfold wX16_base_0 at hb
  refine g_aload_n (some v0) C dX16_base_0 0 rfl ?_
  refine g_iconst (v := 0) C dX16_base_1 (by decide) ?_
  obtain ⟨q1, hb⟩ := hb
  refine g_putI C fl_RX16_1 dX16_base_2 q1 rfl rfl rfl rfl ?_
  refine g_aload_n (some v0) C dX16_base_5 0 rfl ?_
  refine g_iload_n C dX16_base_6 1 rfl ?_
  refine g_invV (ci := 16) [.int v1] [] zy_X16_isTable wd_1021 wd_1023 wd_41 ⟨_, _, rfl⟩ (by decide) C dX16_base_7 (by first | exact Nat.le_of_ble_eq_true rfl | simp [cat_rf]) (by first | exact Nat.le_of_ble_eq_true rfl | simp [cat_rf]) (by first | exact Nat.le_of_ble_eq_true rfl | simp [cat_rf]) (Nat.zero_le _) (Nat.zero_le _) rfl rfl (by rw [zK_uFi]; exact q1) (okX16_isTable hb) ?_
  rintro o σ2 ⟨y3, rfl, hb⟩
  refine ⟨_, rfl, ?_⟩
  refine g_if_eq (tgt := 33) C dX16_base_10 (by decide) (fun c => ?_) (fun c => ?_)
  ·
    replace hb := hb.1 (c)
    refine g_aload_n (some v0) C dX16_base_33 0 rfl ?_
    refine g_iconst (v := 1) C dX16_base_34 (by decide) ?_
    obtain ⟨q4, hb⟩ := hb
    refine g_invV (ci := 16) [.int 1] [] zy_X16_refused wd_1005 wd_1007 wd_38 ⟨_, _, rfl⟩ (by decide) C dX16_base_35 (by first | exact Nat.le_of_ble_eq_true rfl | simp [cat_rf]) (by first | exact Nat.le_of_ble_eq_true rfl | simp [cat_rf]) (by first | exact Nat.le_of_ble_eq_true rfl | simp [cat_rf]) (Nat.zero_le _) (Nat.zero_le _) rfl rfl q4 (okX16_refused hb) ?_
    rintro o σ5 ⟨y6, rfl, hb⟩
    refine ⟨_, rfl, ?_⟩
    exact g_ireturn C hΓ (Nat.zero_le _) (Nat.zero_le _) dX16_base_38 ⟨_, rfl, hb⟩
  ·
    replace hb := hb.2 (c)
    refine g_aload_n (some v0) C dX16_base_13 0 rfl ?_
    refine g_iconst (v := 0) C dX16_base_14 (by decide) ?_
    refine g_iload_n C dX16_base_15 1 rfl ?_
    refine g_iconst (v := (-1)) C dX16_base_16 (by decide) ?_
    refine g_aload_n (some v0) C dX16_base_17 0 rfl ?_
    obtain ⟨q7, hb⟩ := hb
    obtain ⟨a8, q9, hb⟩ := hb
    refine g_getR (some a8) C fl_RX16_76 dX16_base_18 q7 rfl rfl q9 ?_
    refine g_iload_n C dX16_base_21 1 rfl ?_
    obtain ⟨q10, hb⟩ := hb
    obtain ⟨q11, hb⟩ := hb
    refine g_ialdx (zAi σ2 a8 (ix v1)) C dX16_base_22 q10 q11 rfl ?_
    refine g_iconst (v := 0) C dX16_base_23 (by decide) ?_
    refine g_iconst (v := 0) C dX16_base_24 (by decide) ?_
    refine g_iconst (v := 0) C dX16_base_25 (by decide) ?_
    refine g_iconst (v := 0) C dX16_base_26 (by decide) ?_
    refine g_invV (ci := 16) [.int 0, .int v1, .int (-1), .int (zAi σ2 a8 (ix v1)), .int 0, .int 0, .int 0, .int 0] [] zy_X16_made wd_1064 wd_1066 wd_44 ⟨_, _, rfl⟩ (by decide) C dX16_base_27 (by first | exact Nat.le_of_ble_eq_true rfl | simp [cat_rf]) (by first | exact Nat.le_of_ble_eq_true rfl | simp [cat_rf]) (by first | exact Nat.le_of_ble_eq_true rfl | simp [cat_rf]) (Nat.zero_le _) (Nat.zero_le _) rfl rfl q7 (okX16_made hb) ?_
    rintro o σ12 ⟨y13, rfl, hb⟩
    refine ⟨_, rfl, ?_⟩
    refine g_goto (tgt := 38) C dX16_base_30 (by decide) ?_
    exact g_ireturn C hΓ (Nat.zero_le _) (Nat.zero_le _) dX16_base_38 ⟨_, rfl, hb⟩
theorem okX16_base {v0 : Nat} {v1 : Int32} {σ : St} {Q : Int32 → St → Prop} (hb : wX16_base v0 v1 σ Q) : hM yX16_base cX16_base 2 ((Option.some FieldType.int)) 2 54 0 0 [.ref v0, .int v1] σ (oI Q) :=
  hM_of (by decide) (Nat.le_of_ble_eq_true rfl) (fun Γ hΓ C => kwX16_base_0 C hΓ _ _ _ hb)
def wX16_isQuestion_0 (Q : Int32 → St → Prop) (v0 : Nat) (v1 : Int32) (σ : St) : Prop :=
  ((v1 < 0 → Q 0 σ) ∧ (¬ v1 < 0 → zK σ v0 = 17 ∧ (((zFi σ 1030 v0) ≤ v1 → Q 0 σ) ∧ (¬ (zFi σ 1030 v0) ≤ v1 → Q 1 σ))))
def wX16_isQuestion (v0 : Nat) (v1 : Int32) (σ : St) (Q : Int32 → St → Prop) : Prop := wX16_isQuestion_0 Q v0 v1 σ
set_option maxRecDepth 20000 in
theorem kwX16_isQuestion_0 {Γ : hCT} (C : hC Γ RX16 cX16_isQuestion ((Option.some FieldType.boolean)) "isQuestion" 0 0) {Q : Int32 → St → Prop} (hΓ : Γ.2.2.2.2.2.2.2.2.2.2.2 = (2, 0, 0, oI Q)) (v0 : Nat) (v1 : Int32) (σ : St) (hb : wX16_isQuestion_0 Q v0 v1 σ) : hW Γ 0 0 0 [(0, .ref v0), (1, .int v1)] [] σ := by
  unfold wX16_isQuestion_0 at hb
  refine g_iload_n C dX16_isQuestion_0 1 rfl ?_
  refine g_if_lt (tgt := 16) C dX16_isQuestion_1 (by decide) (fun c => ?_) (fun c => ?_)
  ·
    replace hb := hb.1 (c)
    refine g_iconst (v := 0) C dX16_isQuestion_16 (by decide) ?_
    exact g_zreturn C (by decide) hΓ (Nat.zero_le _) (Nat.zero_le _) dX16_isQuestion_17 ⟨_, rfl, hb⟩
  ·
    replace hb := hb.2 (c)
    refine g_iload_n C dX16_isQuestion_4 1 rfl ?_
    refine g_aload_n (some v0) C dX16_isQuestion_5 0 rfl ?_
    obtain ⟨q1, hb⟩ := hb
    refine g_getIx (zFi σ 1030 v0) C fl_RX16_55 dX16_isQuestion_6 q1 rfl rfl rfl ?_
    refine g_icmp_ge (tgt := 16) C dX16_isQuestion_9 (by decide) (fun c => ?_) (fun c => ?_)
    ·
      replace hb := hb.1 (c)
      refine g_iconst (v := 0) C dX16_isQuestion_16 (by decide) ?_
      exact g_zreturn C (by decide) hΓ (Nat.zero_le _) (Nat.zero_le _) dX16_isQuestion_17 ⟨_, rfl, hb⟩
    ·
      replace hb := hb.2 (c)
      refine g_iconst (v := 1) C dX16_isQuestion_12 (by decide) ?_
      refine g_goto (tgt := 17) C dX16_isQuestion_13 (by decide) ?_
      exact g_zreturn C (by decide) hΓ (Nat.zero_le _) (Nat.zero_le _) dX16_isQuestion_17 ⟨_, rfl, hb⟩
theorem okX16_isQuestion {v0 : Nat} {v1 : Int32} {σ : St} {Q : Int32 → St → Prop} (hb : wX16_isQuestion v0 v1 σ Q) : hM yX16_isQuestion cX16_isQuestion 2 ((Option.some FieldType.boolean)) 0 0 0 0 [.ref v0, .int v1] σ (oI Q) :=
  hM_of (by decide) (Nat.le_of_ble_eq_true rfl) (fun Γ hΓ C => kwX16_isQuestion_0 C hΓ _ _ _ hb)
def wX16_isPlace_0 (Q : Int32 → St → Prop) (v0 : Int32) (v1 : Int32) (σ : St) : Prop :=
  ((v0 < 0 → Q 0 σ) ∧ (¬ v0 < 0 → ((v1 ≤ v0 → Q 0 σ) ∧ (¬ v1 ≤ v0 → Q 1 σ))))
def wX16_isPlace (v0 : Int32) (v1 : Int32) (σ : St) (Q : Int32 → St → Prop) : Prop := wX16_isPlace_0 Q v0 v1 σ
set_option maxRecDepth 20000 in
theorem kwX16_isPlace_0 {Γ : hCT} (C : hC Γ RX16 cX16_isPlace ((Option.some FieldType.boolean)) "isPlace" 0 0) {Q : Int32 → St → Prop} (hΓ : Γ.2.2.2.2.2.2.2.2.2.2.2 = (2, 0, 0, oI Q)) (v0 : Int32) (v1 : Int32) (σ : St) (hb : wX16_isPlace_0 Q v0 v1 σ) : hW Γ 0 0 0 [(0, .int v0), (1, .int v1)] [] σ := by
  unfold wX16_isPlace_0 at hb
  refine g_iload_n C dX16_isPlace_0 0 rfl ?_
  refine g_if_lt (tgt := 13) C dX16_isPlace_1 (by decide) (fun c => ?_) (fun c => ?_)
  ·
    replace hb := hb.1 (c)
    refine g_iconst (v := 0) C dX16_isPlace_13 (by decide) ?_
    exact g_zreturn C (by decide) hΓ (Nat.zero_le _) (Nat.zero_le _) dX16_isPlace_14 ⟨_, rfl, hb⟩
  ·
    replace hb := hb.2 (c)
    refine g_iload_n C dX16_isPlace_4 0 rfl ?_
    refine g_iload_n C dX16_isPlace_5 1 rfl ?_
    refine g_icmp_ge (tgt := 13) C dX16_isPlace_6 (by decide) (fun c => ?_) (fun c => ?_)
    ·
      replace hb := hb.1 (c)
      refine g_iconst (v := 0) C dX16_isPlace_13 (by decide) ?_
      exact g_zreturn C (by decide) hΓ (Nat.zero_le _) (Nat.zero_le _) dX16_isPlace_14 ⟨_, rfl, hb⟩
    ·
      replace hb := hb.2 (c)
      refine g_iconst (v := 1) C dX16_isPlace_9 (by decide) ?_
      refine g_goto (tgt := 14) C dX16_isPlace_10 (by decide) ?_
      exact g_zreturn C (by decide) hΓ (Nat.zero_le _) (Nat.zero_le _) dX16_isPlace_14 ⟨_, rfl, hb⟩
theorem okX16_isPlace {v0 : Int32} {v1 : Int32} {σ : St} {Q : Int32 → St → Prop} (hb : wX16_isPlace v0 v1 σ Q) : hM yX16_isPlace cX16_isPlace 2 ((Option.some FieldType.boolean)) 0 0 0 0 [.int v0, .int v1] σ (oI Q) :=
  hM_of (by decide) (Nat.le_of_ble_eq_true rfl) (fun Γ hΓ C => kwX16_isPlace_0 C hΓ _ _ _ hb)
def wX16_pick_0 (Q : Int32 → St → Prop) (v0 : Nat) (v1 : Int32) (v2 : Int32) (v3 : Int32) (σ : St) : Prop :=
  zK σ v0 = 17 ∧ wX16_isQuestion v0 v1 (uFi σ 1024 v0 0) (fun y3 σ2 => ((¬ y3 = 0 → zK σ2 v0 = 17 ∧ ∃ a5 : Nat, zFr σ2 1042 v0 = some a5 ∧ zK σ2 a5 = 20 ∧ vp_in v1 (zL σ2 a5) ∧ wX16_isPlace v2 (zAi σ2 a5 (ix v1)) σ2 (fun y10 σ9 => ((y10 = 0 → zK σ9 v0 = 17 ∧ wX16_refused v0 2 σ9 (fun y13 σ12 => Q y13 σ12)) ∧ (¬ y10 = 0 → zK σ9 v0 = 17 ∧ ∃ a15 : Nat, zFr σ9 1042 v0 = some a15 ∧ zK σ9 a15 = 20 ∧ vp_in v1 (zL σ9 a15) ∧ wX16_made v0 1 v1 (-1) (zAi σ9 a15 (ix v1)) v2 v3 0 0 σ9 (fun y20 σ19 => Q y20 σ19))))) ∧ (y3 = 0 → zK σ2 v0 = 17 ∧ wX16_refused v0 1 σ2 (fun y23 σ22 => Q y23 σ22))))
def wX16_pick (v0 : Nat) (v1 : Int32) (v2 : Int32) (v3 : Int32) (σ : St) (Q : Int32 → St → Prop) : Prop := wX16_pick_0 Q v0 v1 v2 v3 σ
set_option maxRecDepth 20000 in
theorem kwX16_pick_0 {Γ : hCT} (C : hC Γ RX16 cX16_pick ((Option.some FieldType.int)) "pick" 2 54) {Q : Int32 → St → Prop} (hΓ : Γ.2.2.2.2.2.2.2.2.2.2.2 = (4, 0, 0, oI Q)) (v0 : Nat) (v1 : Int32) (v2 : Int32) (v3 : Int32) (σ : St) (hb : wX16_pick_0 Q v0 v1 v2 v3 σ) : hW Γ 0 0 0 [(0, .ref v0), (1, .int v1), (2, .int v2), (3, .int v3)] [] σ := by
  unfold wX16_pick_0 at hb
  refine g_aload_n (some v0) C dX16_pick_0 0 rfl ?_
  refine g_iconst (v := 0) C dX16_pick_1 (by decide) ?_
  obtain ⟨q1, hb⟩ := hb
  refine g_putI C fl_RX16_1 dX16_pick_2 q1 rfl rfl rfl rfl ?_
  refine g_aload_n (some v0) C dX16_pick_5 0 rfl ?_
  refine g_iload_n C dX16_pick_6 1 rfl ?_
  refine g_invV (ci := 16) [.int v1] [] zy_X16_isQuestion wd_1072 wd_1074 wd_45 ⟨_, _, rfl⟩ (by decide) C dX16_pick_7 (by first | exact Nat.le_of_ble_eq_true rfl | simp [cat_rf]) (by first | exact Nat.le_of_ble_eq_true rfl | simp [cat_rf]) (by first | exact Nat.le_of_ble_eq_true rfl | simp [cat_rf]) (Nat.zero_le _) (Nat.zero_le _) rfl rfl (by rw [zK_uFi]; exact q1) (okX16_isQuestion hb) ?_
  rintro o σ2 ⟨y3, rfl, hb⟩
  refine ⟨_, rfl, ?_⟩
  refine g_if_ne (tgt := 19) C dX16_pick_10 (by decide) (fun c => ?_) (fun c => ?_)
  ·
    replace hb := hb.1 (c)
    refine g_iload_n C dX16_pick_19 2 rfl ?_
    refine g_aload_n (some v0) C dX16_pick_20 0 rfl ?_
    obtain ⟨q4, hb⟩ := hb
    obtain ⟨a5, q6, hb⟩ := hb
    refine g_getR (some a5) C fl_RX16_146 dX16_pick_21 q4 rfl rfl q6 ?_
    refine g_iload_n C dX16_pick_24 1 rfl ?_
    obtain ⟨q7, hb⟩ := hb
    obtain ⟨q8, hb⟩ := hb
    refine g_ialdx (zAi σ2 a5 (ix v1)) C dX16_pick_25 q7 q8 rfl ?_
    refine g_invS [.int v2, .int (zAi σ2 a5 (ix v1))] [] zy_X16_isPlace wd_1076 wd_1077 C dX16_pick_26 (by first | exact Nat.le_of_ble_eq_true rfl | simp [cat_rf]) (by first | exact Nat.le_of_ble_eq_true rfl | simp [cat_rf]) (by first | exact Nat.le_of_ble_eq_true rfl | simp [cat_rf]) (Nat.zero_le _) (Nat.zero_le _) rfl rfl  (okX16_isPlace hb) ?_
    rintro o σ9 ⟨y10, rfl, hb⟩
    refine ⟨_, rfl, ?_⟩
    refine g_if_eq (tgt := 52) C dX16_pick_29 (by decide) (fun c => ?_) (fun c => ?_)
    ·
      replace hb := hb.1 (c)
      refine g_aload_n (some v0) C dX16_pick_52 0 rfl ?_
      refine g_iconst (v := 2) C dX16_pick_53 (by decide) ?_
      obtain ⟨q11, hb⟩ := hb
      refine g_invV (ci := 16) [.int 2] [] zy_X16_refused wd_1005 wd_1007 wd_38 ⟨_, _, rfl⟩ (by decide) C dX16_pick_54 (by first | exact Nat.le_of_ble_eq_true rfl | simp [cat_rf]) (by first | exact Nat.le_of_ble_eq_true rfl | simp [cat_rf]) (by first | exact Nat.le_of_ble_eq_true rfl | simp [cat_rf]) (Nat.zero_le _) (Nat.zero_le _) rfl rfl q11 (okX16_refused hb) ?_
      rintro o σ12 ⟨y13, rfl, hb⟩
      refine ⟨_, rfl, ?_⟩
      exact g_ireturn C hΓ (Nat.zero_le _) (Nat.zero_le _) dX16_pick_57 ⟨_, rfl, hb⟩
    ·
      replace hb := hb.2 (c)
      refine g_aload_n (some v0) C dX16_pick_32 0 rfl ?_
      refine g_iconst (v := 1) C dX16_pick_33 (by decide) ?_
      refine g_iload_n C dX16_pick_34 1 rfl ?_
      refine g_iconst (v := (-1)) C dX16_pick_35 (by decide) ?_
      refine g_aload_n (some v0) C dX16_pick_36 0 rfl ?_
      obtain ⟨q14, hb⟩ := hb
      obtain ⟨a15, q16, hb⟩ := hb
      refine g_getR (some a15) C fl_RX16_146 dX16_pick_37 q14 rfl rfl q16 ?_
      refine g_iload_n C dX16_pick_40 1 rfl ?_
      obtain ⟨q17, hb⟩ := hb
      obtain ⟨q18, hb⟩ := hb
      refine g_ialdx (zAi σ9 a15 (ix v1)) C dX16_pick_41 q17 q18 rfl ?_
      refine g_iload_n C dX16_pick_42 2 rfl ?_
      refine g_iload_n C dX16_pick_43 3 rfl ?_
      refine g_iconst (v := 0) C dX16_pick_44 (by decide) ?_
      refine g_iconst (v := 0) C dX16_pick_45 (by decide) ?_
      refine g_invV (ci := 16) [.int 1, .int v1, .int (-1), .int (zAi σ9 a15 (ix v1)), .int v2, .int v3, .int 0, .int 0] [] zy_X16_made wd_1064 wd_1066 wd_44 ⟨_, _, rfl⟩ (by decide) C dX16_pick_46 (by first | exact Nat.le_of_ble_eq_true rfl | simp [cat_rf]) (by first | exact Nat.le_of_ble_eq_true rfl | simp [cat_rf]) (by first | exact Nat.le_of_ble_eq_true rfl | simp [cat_rf]) (Nat.zero_le _) (Nat.zero_le _) rfl rfl q14 (okX16_made hb) ?_
      rintro o σ19 ⟨y20, rfl, hb⟩
      refine ⟨_, rfl, ?_⟩
      refine g_goto (tgt := 57) C dX16_pick_49 (by decide) ?_
      exact g_ireturn C hΓ (Nat.zero_le _) (Nat.zero_le _) dX16_pick_57 ⟨_, rfl, hb⟩
  ·
    replace hb := hb.2 (c)
    refine g_aload_n (some v0) C dX16_pick_13 0 rfl ?_
    refine g_iconst (v := 1) C dX16_pick_14 (by decide) ?_
    obtain ⟨q21, hb⟩ := hb
    refine g_invV (ci := 16) [.int 1] [] zy_X16_refused wd_1005 wd_1007 wd_38 ⟨_, _, rfl⟩ (by decide) C dX16_pick_15 (by first | exact Nat.le_of_ble_eq_true rfl | simp [cat_rf]) (by first | exact Nat.le_of_ble_eq_true rfl | simp [cat_rf]) (by first | exact Nat.le_of_ble_eq_true rfl | simp [cat_rf]) (Nat.zero_le _) (Nat.zero_le _) rfl rfl q21 (okX16_refused hb) ?_
    rintro o σ22 ⟨y23, rfl, hb⟩
    refine ⟨_, rfl, ?_⟩
    exact g_ireturn C hΓ (Nat.zero_le _) (Nat.zero_le _) dX16_pick_18 ⟨_, rfl, hb⟩
theorem okX16_pick {v0 : Nat} {v1 : Int32} {v2 : Int32} {v3 : Int32} {σ : St} {Q : Int32 → St → Prop} (hb : wX16_pick v0 v1 v2 v3 σ Q) : hM yX16_pick cX16_pick 4 ((Option.some FieldType.int)) 2 54 0 0 [.ref v0, .int v1, .int v2, .int v3] σ (oI Q) :=
  hM_of (by decide) (Nat.le_of_ble_eq_true rfl) (fun Γ hΓ C => kwX16_pick_0 C hΓ _ _ _ _ _ hb)
def wX16_like_50 (Q : Int32 → St → Prop) (v0 : Nat) (v1 : Int32) (v2 : Int32) (v3 : Int32) (s0 : Int32) (σ : St) : Prop :=
  ((s0 = 0 → zK σ v0 = 17 ∧ wX16_refused v0 2 σ (fun y3 σ2 => Q y3 σ2)) ∧ (¬ s0 = 0 → zK σ v0 = 17 ∧ ∃ a5 : Nat, zFr σ 1042 v0 = some a5 ∧ zK σ a5 = 20 ∧ vp_in v1 (zL σ a5) ∧ wX16_made v0 2 v1 (-1) (zAi σ a5 (ix v1)) v2 v3 0 0 σ (fun y10 σ9 => Q y10 σ9)))
def wX16_like_49 (Q : Int32 → St → Prop) (v0 : Nat) (v1 : Int32) (v2 : Int32) (v3 : Int32) (σ : St) : Prop :=
  wX16_like_50 Q v0 v1 v2 v3 0 σ
def wX16_like_0 (Q : Int32 → St → Prop) (v0 : Nat) (v1 : Int32) (v2 : Int32) (v3 : Int32) (σ : St) : Prop :=
  zK σ v0 = 17 ∧ wX16_isQuestion v0 v1 (uFi σ 1024 v0 0) (fun y3 σ2 => ((¬ y3 = 0 → zK σ2 v0 = 17 ∧ ∃ a5 : Nat, zFr σ2 1042 v0 = some a5 ∧ zK σ2 a5 = 20 ∧ vp_in v1 (zL σ2 a5) ∧ wX16_isPlace v2 (zAi σ2 a5 (ix v1)) σ2 (fun y10 σ9 => ((y10 = 0 → wX16_like_49 Q v0 v1 v2 v3 σ9) ∧ (¬ y10 = 0 → zK σ9 v0 = 17 ∧ ∃ a12 : Nat, zFr σ9 1042 v0 = some a12 ∧ zK σ9 a12 = 20 ∧ vp_in v1 (zL σ9 a12) ∧ wX16_isPlace v3 (zAi σ9 a12 (ix v1)) σ9 (fun y17 σ16 => ((y17 = 0 → wX16_like_49 Q v0 v1 v2 v3 σ16) ∧ (¬ y17 = 0 → wX16_like_50 Q v0 v1 v2 v3 1 σ16))))))) ∧ (y3 = 0 → zK σ2 v0 = 17 ∧ wX16_refused v0 1 σ2 (fun y20 σ19 => Q y20 σ19))))
def wX16_like (v0 : Nat) (v1 : Int32) (v2 : Int32) (v3 : Int32) (σ : St) (Q : Int32 → St → Prop) : Prop := wX16_like_0 Q v0 v1 v2 v3 σ
set_option maxRecDepth 20000 in
theorem kwX16_like_50 {Γ : hCT} (C : hC Γ RX16 cX16_like ((Option.some FieldType.int)) "like" 2 54) {Q : Int32 → St → Prop} (hΓ : Γ.2.2.2.2.2.2.2.2.2.2.2 = (5, 0, 0, oI Q)) (v0 : Nat) (v1 : Int32) (v2 : Int32) (v3 : Int32) (s0 : Int32) (σ : St) (hb : wX16_like_50 Q v0 v1 v2 v3 s0 σ) : hW Γ 0 0 50 [(0, .ref v0), (1, .int v1), (2, .int v2), (3, .int v3)] [.int s0] σ := by
  unfold wX16_like_50 at hb
  refine g_istore (lv' := [(4, .int s0), (0, .ref v0), (1, .int v1), (2, .int v2), (3, .int v3)]) C dX16_like_50 (hnl_of hΓ (by decide)) (by first | rfl | simp [cat_rf]) ?_
  refine g_iload C dX16_like_52 0 rfl ?_
  refine g_if_eq (tgt := 77) C dX16_like_54 (by decide) (fun c => ?_) (fun c => ?_)
  ·
    replace hb := hb.1 (c)
    refine g_aload_n (some v0) C dX16_like_77 1 rfl ?_
    refine g_iconst (v := 2) C dX16_like_78 (by decide) ?_
    obtain ⟨q1, hb⟩ := hb
    refine g_invV (ci := 16) [.int 2] [] zy_X16_refused wd_1005 wd_1007 wd_38 ⟨_, _, rfl⟩ (by decide) C dX16_like_79 (by first | exact Nat.le_of_ble_eq_true rfl | simp [cat_rf]) (by first | exact Nat.le_of_ble_eq_true rfl | simp [cat_rf]) (by first | exact Nat.le_of_ble_eq_true rfl | simp [cat_rf]) (Nat.zero_le _) (Nat.zero_le _) rfl rfl q1 (okX16_refused hb) ?_
    rintro o σ2 ⟨y3, rfl, hb⟩
    refine ⟨_, rfl, ?_⟩
    exact g_ireturn C hΓ (Nat.zero_le _) (Nat.zero_le _) dX16_like_82 ⟨_, rfl, hb⟩
  ·
    replace hb := hb.2 (c)
    refine g_aload_n (some v0) C dX16_like_57 1 rfl ?_
    refine g_iconst (v := 2) C dX16_like_58 (by decide) ?_
    refine g_iload_n C dX16_like_59 2 rfl ?_
    refine g_iconst (v := (-1)) C dX16_like_60 (by decide) ?_
    refine g_aload_n (some v0) C dX16_like_61 1 rfl ?_
    obtain ⟨q4, hb⟩ := hb
    obtain ⟨a5, q6, hb⟩ := hb
    refine g_getR (some a5) C fl_RX16_146 dX16_like_62 q4 rfl rfl q6 ?_
    refine g_iload_n C dX16_like_65 2 rfl ?_
    obtain ⟨q7, hb⟩ := hb
    obtain ⟨q8, hb⟩ := hb
    refine g_ialdx (zAi σ a5 (ix v1)) C dX16_like_66 q7 q8 rfl ?_
    refine g_iload_n C dX16_like_67 3 rfl ?_
    refine g_iload_n C dX16_like_68 4 rfl ?_
    refine g_iconst (v := 0) C dX16_like_69 (by decide) ?_
    refine g_iconst (v := 0) C dX16_like_70 (by decide) ?_
    refine g_invV (ci := 16) [.int 2, .int v1, .int (-1), .int (zAi σ a5 (ix v1)), .int v2, .int v3, .int 0, .int 0] [] zy_X16_made wd_1064 wd_1066 wd_44 ⟨_, _, rfl⟩ (by decide) C dX16_like_71 (by first | exact Nat.le_of_ble_eq_true rfl | simp [cat_rf]) (by first | exact Nat.le_of_ble_eq_true rfl | simp [cat_rf]) (by first | exact Nat.le_of_ble_eq_true rfl | simp [cat_rf]) (Nat.zero_le _) (Nat.zero_le _) rfl rfl q4 (okX16_made hb) ?_
    rintro o σ9 ⟨y10, rfl, hb⟩
    refine ⟨_, rfl, ?_⟩
    refine g_goto (tgt := 82) C dX16_like_74 (by decide) ?_
    exact g_ireturn C hΓ (Nat.zero_le _) (Nat.zero_le _) dX16_like_82 ⟨_, rfl, hb⟩
set_option maxRecDepth 20000 in
theorem kwX16_like_49 {Γ : hCT} (C : hC Γ RX16 cX16_like ((Option.some FieldType.int)) "like" 2 54) {Q : Int32 → St → Prop} (hΓ : Γ.2.2.2.2.2.2.2.2.2.2.2 = (5, 0, 0, oI Q)) (v0 : Nat) (v1 : Int32) (v2 : Int32) (v3 : Int32) (σ : St) (hb : wX16_like_49 Q v0 v1 v2 v3 σ) : hW Γ 0 0 49 [(0, .ref v0), (1, .int v1), (2, .int v2), (3, .int v3)] [] σ := by
  unfold wX16_like_49 at hb
  refine g_iconst (v := 0) C dX16_like_49 (by decide) ?_
  refine g_sub (lv' := [(0, .ref v0), (1, .int v1), (2, .int v2), (3, .int v3)]) [0, 1, 2, 3] rfl ?_
  exact kwX16_like_50 C hΓ  _ _ _ _ _ _ hb
set_option maxRecDepth 20000 in
theorem kwX16_like_0 {Γ : hCT} (C : hC Γ RX16 cX16_like ((Option.some FieldType.int)) "like" 2 54) {Q : Int32 → St → Prop} (hΓ : Γ.2.2.2.2.2.2.2.2.2.2.2 = (5, 0, 0, oI Q)) (v0 : Nat) (v1 : Int32) (v2 : Int32) (v3 : Int32) (σ : St) (hb : wX16_like_0 Q v0 v1 v2 v3 σ) : hW Γ 0 0 0 [(0, .ref v0), (1, .int v1), (2, .int v2), (3, .int v3)] [] σ := by
  unfold wX16_like_0 at hb
  refine g_aload_n (some v0) C dX16_like_0 0 rfl ?_
  refine g_iconst (v := 0) C dX16_like_1 (by decide) ?_
  obtain ⟨q1, hb⟩ := hb
  refine g_putI C fl_RX16_1 dX16_like_2 q1 rfl rfl rfl rfl ?_
  refine g_aload_n (some v0) C dX16_like_5 0 rfl ?_
  refine g_iload_n C dX16_like_6 1 rfl ?_
  refine g_invV (ci := 16) [.int v1] [] zy_X16_isQuestion wd_1072 wd_1074 wd_45 ⟨_, _, rfl⟩ (by decide) C dX16_like_7 (by first | exact Nat.le_of_ble_eq_true rfl | simp [cat_rf]) (by first | exact Nat.le_of_ble_eq_true rfl | simp [cat_rf]) (by first | exact Nat.le_of_ble_eq_true rfl | simp [cat_rf]) (Nat.zero_le _) (Nat.zero_le _) rfl rfl (by rw [zK_uFi]; exact q1) (okX16_isQuestion hb) ?_
  rintro o σ2 ⟨y3, rfl, hb⟩
  refine ⟨_, rfl, ?_⟩
  refine g_if_ne (tgt := 19) C dX16_like_10 (by decide) (fun c => ?_) (fun c => ?_)
  ·
    replace hb := hb.1 (c)
    refine g_iload_n C dX16_like_19 2 rfl ?_
    refine g_aload_n (some v0) C dX16_like_20 0 rfl ?_
    obtain ⟨q4, hb⟩ := hb
    obtain ⟨a5, q6, hb⟩ := hb
    refine g_getR (some a5) C fl_RX16_146 dX16_like_21 q4 rfl rfl q6 ?_
    refine g_iload_n C dX16_like_24 1 rfl ?_
    obtain ⟨q7, hb⟩ := hb
    obtain ⟨q8, hb⟩ := hb
    refine g_ialdx (zAi σ2 a5 (ix v1)) C dX16_like_25 q7 q8 rfl ?_
    refine g_invS [.int v2, .int (zAi σ2 a5 (ix v1))] [] zy_X16_isPlace wd_1076 wd_1077 C dX16_like_26 (by first | exact Nat.le_of_ble_eq_true rfl | simp [cat_rf]) (by first | exact Nat.le_of_ble_eq_true rfl | simp [cat_rf]) (by first | exact Nat.le_of_ble_eq_true rfl | simp [cat_rf]) (Nat.zero_le _) (Nat.zero_le _) rfl rfl  (okX16_isPlace hb) ?_
    rintro o σ9 ⟨y10, rfl, hb⟩
    refine ⟨_, rfl, ?_⟩
    refine g_if_eq (tgt := 49) C dX16_like_29 (by decide) (fun c => ?_) (fun c => ?_)
    ·
      replace hb := hb.1 (c)
      refine g_sub (lv' := [(0, .ref v0), (1, .int v1), (2, .int v2), (3, .int v3)]) [0, 1, 2, 3] rfl ?_
      exact kwX16_like_49 C hΓ  _ _ _ _ _ hb
    ·
      replace hb := hb.2 (c)
      refine g_iload_n C dX16_like_32 3 rfl ?_
      refine g_aload_n (some v0) C dX16_like_33 0 rfl ?_
      obtain ⟨q11, hb⟩ := hb
      obtain ⟨a12, q13, hb⟩ := hb
      refine g_getR (some a12) C fl_RX16_146 dX16_like_34 q11 rfl rfl q13 ?_
      refine g_iload_n C dX16_like_37 1 rfl ?_
      obtain ⟨q14, hb⟩ := hb
      obtain ⟨q15, hb⟩ := hb
      refine g_ialdx (zAi σ9 a12 (ix v1)) C dX16_like_38 q14 q15 rfl ?_
      refine g_invS [.int v3, .int (zAi σ9 a12 (ix v1))] [] zy_X16_isPlace wd_1076 wd_1077 C dX16_like_39 (by first | exact Nat.le_of_ble_eq_true rfl | simp [cat_rf]) (by first | exact Nat.le_of_ble_eq_true rfl | simp [cat_rf]) (by first | exact Nat.le_of_ble_eq_true rfl | simp [cat_rf]) (Nat.zero_le _) (Nat.zero_le _) rfl rfl  (okX16_isPlace hb) ?_
      rintro o σ16 ⟨y17, rfl, hb⟩
      refine ⟨_, rfl, ?_⟩
      refine g_if_eq (tgt := 49) C dX16_like_42 (by decide) (fun c => ?_) (fun c => ?_)
      ·
        replace hb := hb.1 (c)
        refine g_sub (lv' := [(0, .ref v0), (1, .int v1), (2, .int v2), (3, .int v3)]) [0, 1, 2, 3] rfl ?_
        exact kwX16_like_49 C hΓ  _ _ _ _ _ hb
      ·
        replace hb := hb.2 (c)
        refine g_iconst (v := 1) C dX16_like_45 (by decide) ?_
        refine g_goto (tgt := 50) C dX16_like_46 (by decide) ?_
        refine g_sub (lv' := [(0, .ref v0), (1, .int v1), (2, .int v2), (3, .int v3)]) [0, 1, 2, 3] rfl ?_
        exact kwX16_like_50 C hΓ  _ _ _ _ _ _ hb
  ·
    replace hb := hb.2 (c)
    refine g_aload_n (some v0) C dX16_like_13 0 rfl ?_
    refine g_iconst (v := 1) C dX16_like_14 (by decide) ?_
    obtain ⟨q18, hb⟩ := hb
    refine g_invV (ci := 16) [.int 1] [] zy_X16_refused wd_1005 wd_1007 wd_38 ⟨_, _, rfl⟩ (by decide) C dX16_like_15 (by first | exact Nat.le_of_ble_eq_true rfl | simp [cat_rf]) (by first | exact Nat.le_of_ble_eq_true rfl | simp [cat_rf]) (by first | exact Nat.le_of_ble_eq_true rfl | simp [cat_rf]) (Nat.zero_le _) (Nat.zero_le _) rfl rfl q18 (okX16_refused hb) ?_
    rintro o σ19 ⟨y20, rfl, hb⟩
    refine ⟨_, rfl, ?_⟩
    exact g_ireturn C hΓ (Nat.zero_le _) (Nat.zero_le _) dX16_like_18 ⟨_, rfl, hb⟩
theorem okX16_like {v0 : Nat} {v1 : Int32} {v2 : Int32} {v3 : Int32} {σ : St} {Q : Int32 → St → Prop} (hb : wX16_like v0 v1 v2 v3 σ Q) : hM yX16_like cX16_like 5 ((Option.some FieldType.int)) 2 54 0 0 [.ref v0, .int v1, .int v2, .int v3] σ (oI Q) :=
  hM_of (by decide) (Nat.le_of_ble_eq_true rfl) (fun Γ hΓ C => kwX16_like_0 C hΓ _ _ _ _ _ hb)
def wX16_cut_95 (Q : Int32 → St → Prop) (v0 : Nat) (v1 : Int32) (v2 : Int32) (v3 : Int32) (v4 : Int32) (v5 : Int32) (v6 : Int32) (s0 : Int32) (σ : St) : Prop :=
  ((s0 = 0 → zK σ v0 = 17 ∧ wX16_refused v0 2 σ (fun y3 σ2 => Q y3 σ2)) ∧ (¬ s0 = 0 → zK σ v0 = 17 ∧ wX16_made v0 3 v1 (-1) v2 v3 v4 v5 v6 σ (fun y6 σ5 => Q y6 σ5)))
def wX16_cut_94 (Q : Int32 → St → Prop) (v0 : Nat) (v1 : Int32) (v2 : Int32) (v3 : Int32) (v4 : Int32) (v5 : Int32) (v6 : Int32) (σ : St) : Prop :=
  wX16_cut_95 Q v0 v1 v2 v3 v4 v5 v6 0 σ
def wX16_cut_90 (Q : Int32 → St → Prop) (v0 : Nat) (v1 : Int32) (v2 : Int32) (v3 : Int32) (v4 : Int32) (v5 : Int32) (v6 : Int32) (σ : St) : Prop :=
  wX16_cut_95 Q v0 v1 v2 v3 v4 v5 v6 1 σ
def wX16_cut_75 (Q : Int32 → St → Prop) (v0 : Nat) (v1 : Int32) (v2 : Int32) (v3 : Int32) (v4 : Int32) (v5 : Int32) (v6 : Int32) (v7 : Int32) (σ : St) : Prop :=
  ((v2 < (4 : Int32) → wX16_cut_90 Q v0 v1 v2 v3 v4 v5 v6 σ) ∧ (¬ v2 < (4 : Int32) → wX16_isPlace v6 v7 σ (fun y2 σ1 => ((y2 = 0 → wX16_cut_94 Q v0 v1 v2 v3 v4 v5 v6 σ1) ∧ (¬ y2 = 0 → wX16_cut_90 Q v0 v1 v2 v3 v4 v5 v6 σ1)))))
def wX16_cut_60 (Q : Int32 → St → Prop) (v0 : Nat) (v1 : Int32) (v2 : Int32) (v3 : Int32) (v4 : Int32) (v5 : Int32) (v6 : Int32) (v7 : Int32) (σ : St) : Prop :=
  ((v2 < (3 : Int32) → wX16_cut_75 Q v0 v1 v2 v3 v4 v5 v6 v7 σ) ∧ (¬ v2 < (3 : Int32) → wX16_isPlace v5 v7 σ (fun y2 σ1 => ((y2 = 0 → wX16_cut_94 Q v0 v1 v2 v3 v4 v5 v6 σ1) ∧ (¬ y2 = 0 → wX16_cut_75 Q v0 v1 v2 v3 v4 v5 v6 v7 σ1)))))
def wX16_cut_0 (Q : Int32 → St → Prop) (v0 : Nat) (v1 : Int32) (v2 : Int32) (v3 : Int32) (v4 : Int32) (v5 : Int32) (v6 : Int32) (σ : St) : Prop :=
  zK σ v0 = 17 ∧ wX16_isQuestion v0 v1 (uFi σ 1024 v0 0) (fun y3 σ2 => ((¬ y3 = 0 → zK σ2 v0 = 17 ∧ ∃ a5 : Nat, zFr σ2 1042 v0 = some a5 ∧ zK σ2 a5 = 20 ∧ vp_in v1 (zL σ2 a5) ∧ ((v2 ≤ 0 → wX16_cut_94 Q v0 v1 v2 v3 v4 v5 v6 σ2) ∧ (¬ v2 ≤ 0 → (((5 : Int32) ≤ v2 → wX16_cut_94 Q v0 v1 v2 v3 v4 v5 v6 σ2) ∧ (¬ (5 : Int32) ≤ v2 → wX16_isPlace v3 (zAi σ2 a5 (ix v1)) σ2 (fun y10 σ9 => ((y10 = 0 → wX16_cut_94 Q v0 v1 v2 v3 v4 v5 v6 σ9) ∧ (¬ y10 = 0 → ((v2 < (2 : Int32) → wX16_cut_60 Q v0 v1 v2 v3 v4 v5 v6 (zAi σ2 a5 (ix v1)) σ9) ∧ (¬ v2 < (2 : Int32) → wX16_isPlace v4 (zAi σ2 a5 (ix v1)) σ9 (fun y12 σ11 => ((y12 = 0 → wX16_cut_94 Q v0 v1 v2 v3 v4 v5 v6 σ11) ∧ (¬ y12 = 0 → wX16_cut_60 Q v0 v1 v2 v3 v4 v5 v6 (zAi σ2 a5 (ix v1)) σ11))))))))))))) ∧ (y3 = 0 → zK σ2 v0 = 17 ∧ wX16_refused v0 1 σ2 (fun y15 σ14 => Q y15 σ14))))
def wX16_cut (v0 : Nat) (v1 : Int32) (v2 : Int32) (v3 : Int32) (v4 : Int32) (v5 : Int32) (v6 : Int32) (σ : St) (Q : Int32 → St → Prop) : Prop := wX16_cut_0 Q v0 v1 v2 v3 v4 v5 v6 σ
set_option maxRecDepth 20000 in
theorem kwX16_cut_95 {Γ : hCT} (C : hC Γ RX16 cX16_cut ((Option.some FieldType.int)) "cut" 2 54) {Q : Int32 → St → Prop} (hΓ : Γ.2.2.2.2.2.2.2.2.2.2.2 = (9, 0, 0, oI Q)) (v0 : Nat) (v1 : Int32) (v2 : Int32) (v3 : Int32) (v4 : Int32) (v5 : Int32) (v6 : Int32) (s0 : Int32) (σ : St) (hb : wX16_cut_95 Q v0 v1 v2 v3 v4 v5 v6 s0 σ) : hW Γ 0 0 95 [(0, .ref v0), (1, .int v1), (2, .int v2), (3, .int v3), (4, .int v4), (5, .int v5), (6, .int v6)] [.int s0] σ := by
  unfold wX16_cut_95 at hb
  refine g_istore (lv' := [(8, .int s0), (0, .ref v0), (1, .int v1), (2, .int v2), (3, .int v3), (4, .int v4), (5, .int v5), (6, .int v6)]) C dX16_cut_95 (hnl_of hΓ (by decide)) (by first | rfl | simp [cat_rf]) ?_
  refine g_iload C dX16_cut_97 0 rfl ?_
  refine g_if_eq (tgt := 120) C dX16_cut_99 (by decide) (fun c => ?_) (fun c => ?_)
  ·
    replace hb := hb.1 (c)
    refine g_aload_n (some v0) C dX16_cut_120 1 rfl ?_
    refine g_iconst (v := 2) C dX16_cut_121 (by decide) ?_
    obtain ⟨q1, hb⟩ := hb
    refine g_invV (ci := 16) [.int 2] [] zy_X16_refused wd_1005 wd_1007 wd_38 ⟨_, _, rfl⟩ (by decide) C dX16_cut_122 (by first | exact Nat.le_of_ble_eq_true rfl | simp [cat_rf]) (by first | exact Nat.le_of_ble_eq_true rfl | simp [cat_rf]) (by first | exact Nat.le_of_ble_eq_true rfl | simp [cat_rf]) (Nat.zero_le _) (Nat.zero_le _) rfl rfl q1 (okX16_refused hb) ?_
    rintro o σ2 ⟨y3, rfl, hb⟩
    refine ⟨_, rfl, ?_⟩
    exact g_ireturn C hΓ (Nat.zero_le _) (Nat.zero_le _) dX16_cut_125 ⟨_, rfl, hb⟩
  ·
    replace hb := hb.2 (c)
    refine g_aload_n (some v0) C dX16_cut_102 1 rfl ?_
    refine g_iconst (v := 3) C dX16_cut_103 (by decide) ?_
    refine g_iload_n C dX16_cut_104 2 rfl ?_
    refine g_iconst (v := (-1)) C dX16_cut_105 (by decide) ?_
    refine g_iload_n C dX16_cut_106 3 rfl ?_
    refine g_iload_n C dX16_cut_107 4 rfl ?_
    refine g_iload C dX16_cut_108 5 rfl ?_
    refine g_iload C dX16_cut_110 6 rfl ?_
    refine g_iload C dX16_cut_112 7 rfl ?_
    obtain ⟨q4, hb⟩ := hb
    refine g_invV (ci := 16) [.int 3, .int v1, .int (-1), .int v2, .int v3, .int v4, .int v5, .int v6] [] zy_X16_made wd_1064 wd_1066 wd_44 ⟨_, _, rfl⟩ (by decide) C dX16_cut_114 (by first | exact Nat.le_of_ble_eq_true rfl | simp [cat_rf]) (by first | exact Nat.le_of_ble_eq_true rfl | simp [cat_rf]) (by first | exact Nat.le_of_ble_eq_true rfl | simp [cat_rf]) (Nat.zero_le _) (Nat.zero_le _) rfl rfl q4 (okX16_made hb) ?_
    rintro o σ5 ⟨y6, rfl, hb⟩
    refine ⟨_, rfl, ?_⟩
    refine g_goto (tgt := 125) C dX16_cut_117 (by decide) ?_
    exact g_ireturn C hΓ (Nat.zero_le _) (Nat.zero_le _) dX16_cut_125 ⟨_, rfl, hb⟩
set_option maxRecDepth 20000 in
theorem kwX16_cut_94 {Γ : hCT} (C : hC Γ RX16 cX16_cut ((Option.some FieldType.int)) "cut" 2 54) {Q : Int32 → St → Prop} (hΓ : Γ.2.2.2.2.2.2.2.2.2.2.2 = (9, 0, 0, oI Q)) (v0 : Nat) (v1 : Int32) (v2 : Int32) (v3 : Int32) (v4 : Int32) (v5 : Int32) (v6 : Int32) (σ : St) (hb : wX16_cut_94 Q v0 v1 v2 v3 v4 v5 v6 σ) : hW Γ 0 0 94 [(0, .ref v0), (1, .int v1), (2, .int v2), (3, .int v3), (4, .int v4), (5, .int v5), (6, .int v6)] [] σ := by
  unfold wX16_cut_94 at hb
  refine g_iconst (v := 0) C dX16_cut_94 (by decide) ?_
  refine g_sub (lv' := [(0, .ref v0), (1, .int v1), (2, .int v2), (3, .int v3), (4, .int v4), (5, .int v5), (6, .int v6)]) [0, 1, 2, 3, 4, 5, 6] rfl ?_
  exact kwX16_cut_95 C hΓ  _ _ _ _ _ _ _ _ _ hb
set_option maxRecDepth 20000 in
theorem kwX16_cut_90 {Γ : hCT} (C : hC Γ RX16 cX16_cut ((Option.some FieldType.int)) "cut" 2 54) {Q : Int32 → St → Prop} (hΓ : Γ.2.2.2.2.2.2.2.2.2.2.2 = (9, 0, 0, oI Q)) (v0 : Nat) (v1 : Int32) (v2 : Int32) (v3 : Int32) (v4 : Int32) (v5 : Int32) (v6 : Int32) (σ : St) (hb : wX16_cut_90 Q v0 v1 v2 v3 v4 v5 v6 σ) : hW Γ 0 0 90 [(0, .ref v0), (1, .int v1), (2, .int v2), (3, .int v3), (4, .int v4), (5, .int v5), (6, .int v6)] [] σ := by
  unfold wX16_cut_90 at hb
  refine g_iconst (v := 1) C dX16_cut_90 (by decide) ?_
  refine g_goto (tgt := 95) C dX16_cut_91 (by decide) ?_
  refine g_sub (lv' := [(0, .ref v0), (1, .int v1), (2, .int v2), (3, .int v3), (4, .int v4), (5, .int v5), (6, .int v6)]) [0, 1, 2, 3, 4, 5, 6] rfl ?_
  exact kwX16_cut_95 C hΓ  _ _ _ _ _ _ _ _ _ hb
set_option maxRecDepth 20000 in
theorem kwX16_cut_75 {Γ : hCT} (C : hC Γ RX16 cX16_cut ((Option.some FieldType.int)) "cut" 2 54) {Q : Int32 → St → Prop} (hΓ : Γ.2.2.2.2.2.2.2.2.2.2.2 = (9, 0, 0, oI Q)) (v0 : Nat) (v1 : Int32) (v2 : Int32) (v3 : Int32) (v4 : Int32) (v5 : Int32) (v6 : Int32) (v7 : Int32) (σ : St) (hb : wX16_cut_75 Q v0 v1 v2 v3 v4 v5 v6 v7 σ) : hW Γ 0 0 75 [(0, .ref v0), (1, .int v1), (2, .int v2), (3, .int v3), (4, .int v4), (5, .int v5), (6, .int v6), (7, .int v7)] [] σ := by
  unfold wX16_cut_75 at hb
  refine g_iload_n C dX16_cut_75 2 rfl ?_
  refine g_iconst (v := 4) C dX16_cut_76 (by decide) ?_
  refine g_icmp_lt (tgt := 90) C dX16_cut_77 (by decide) (fun c => ?_) (fun c => ?_)
  ·
    replace hb := hb.1 (c)
    refine g_sub (lv' := [(0, .ref v0), (1, .int v1), (2, .int v2), (3, .int v3), (4, .int v4), (5, .int v5), (6, .int v6)]) [0, 1, 2, 3, 4, 5, 6] rfl ?_
    exact kwX16_cut_90 C hΓ  _ _ _ _ _ _ _ _ hb
  ·
    replace hb := hb.2 (c)
    refine g_iload C dX16_cut_80 6 rfl ?_
    refine g_iload C dX16_cut_82 7 rfl ?_
    refine g_invS [.int v6, .int v7] [] zy_X16_isPlace wd_1076 wd_1077 C dX16_cut_84 (by first | exact Nat.le_of_ble_eq_true rfl | simp [cat_rf]) (by first | exact Nat.le_of_ble_eq_true rfl | simp [cat_rf]) (by first | exact Nat.le_of_ble_eq_true rfl | simp [cat_rf]) (Nat.zero_le _) (Nat.zero_le _) rfl rfl  (okX16_isPlace hb) ?_
    rintro o σ1 ⟨y2, rfl, hb⟩
    refine ⟨_, rfl, ?_⟩
    refine g_if_eq (tgt := 94) C dX16_cut_87 (by decide) (fun c => ?_) (fun c => ?_)
    ·
      replace hb := hb.1 (c)
      refine g_sub (lv' := [(0, .ref v0), (1, .int v1), (2, .int v2), (3, .int v3), (4, .int v4), (5, .int v5), (6, .int v6)]) [0, 1, 2, 3, 4, 5, 6] rfl ?_
      exact kwX16_cut_94 C hΓ  _ _ _ _ _ _ _ _ hb
    ·
      replace hb := hb.2 (c)
      refine g_sub (lv' := [(0, .ref v0), (1, .int v1), (2, .int v2), (3, .int v3), (4, .int v4), (5, .int v5), (6, .int v6)]) [0, 1, 2, 3, 4, 5, 6] rfl ?_
      exact kwX16_cut_90 C hΓ  _ _ _ _ _ _ _ _ hb
set_option maxRecDepth 20000 in
theorem kwX16_cut_60 {Γ : hCT} (C : hC Γ RX16 cX16_cut ((Option.some FieldType.int)) "cut" 2 54) {Q : Int32 → St → Prop} (hΓ : Γ.2.2.2.2.2.2.2.2.2.2.2 = (9, 0, 0, oI Q)) (v0 : Nat) (v1 : Int32) (v2 : Int32) (v3 : Int32) (v4 : Int32) (v5 : Int32) (v6 : Int32) (v7 : Int32) (σ : St) (hb : wX16_cut_60 Q v0 v1 v2 v3 v4 v5 v6 v7 σ) : hW Γ 0 0 60 [(0, .ref v0), (1, .int v1), (2, .int v2), (3, .int v3), (4, .int v4), (5, .int v5), (6, .int v6), (7, .int v7)] [] σ := by
  unfold wX16_cut_60 at hb
  refine g_iload_n C dX16_cut_60 2 rfl ?_
  refine g_iconst (v := 3) C dX16_cut_61 (by decide) ?_
  refine g_icmp_lt (tgt := 75) C dX16_cut_62 (by decide) (fun c => ?_) (fun c => ?_)
  ·
    replace hb := hb.1 (c)
    refine g_sub (lv' := [(0, .ref v0), (1, .int v1), (2, .int v2), (3, .int v3), (4, .int v4), (5, .int v5), (6, .int v6), (7, .int v7)]) [0, 1, 2, 3, 4, 5, 6, 7] rfl ?_
    exact kwX16_cut_75 C hΓ  _ _ _ _ _ _ _ _ _ hb
  ·
    replace hb := hb.2 (c)
    refine g_iload C dX16_cut_65 5 rfl ?_
    refine g_iload C dX16_cut_67 7 rfl ?_
    refine g_invS [.int v5, .int v7] [] zy_X16_isPlace wd_1076 wd_1077 C dX16_cut_69 (by first | exact Nat.le_of_ble_eq_true rfl | simp [cat_rf]) (by first | exact Nat.le_of_ble_eq_true rfl | simp [cat_rf]) (by first | exact Nat.le_of_ble_eq_true rfl | simp [cat_rf]) (Nat.zero_le _) (Nat.zero_le _) rfl rfl  (okX16_isPlace hb) ?_
    rintro o σ1 ⟨y2, rfl, hb⟩
    refine ⟨_, rfl, ?_⟩
    refine g_if_eq (tgt := 94) C dX16_cut_72 (by decide) (fun c => ?_) (fun c => ?_)
    ·
      replace hb := hb.1 (c)
      refine g_sub (lv' := [(0, .ref v0), (1, .int v1), (2, .int v2), (3, .int v3), (4, .int v4), (5, .int v5), (6, .int v6)]) [0, 1, 2, 3, 4, 5, 6] rfl ?_
      exact kwX16_cut_94 C hΓ  _ _ _ _ _ _ _ _ hb
    ·
      replace hb := hb.2 (c)
      refine g_sub (lv' := [(0, .ref v0), (1, .int v1), (2, .int v2), (3, .int v3), (4, .int v4), (5, .int v5), (6, .int v6), (7, .int v7)]) [0, 1, 2, 3, 4, 5, 6, 7] rfl ?_
      exact kwX16_cut_75 C hΓ  _ _ _ _ _ _ _ _ _ hb
set_option maxRecDepth 20000 in
theorem kwX16_cut_0 {Γ : hCT} (C : hC Γ RX16 cX16_cut ((Option.some FieldType.int)) "cut" 2 54) {Q : Int32 → St → Prop} (hΓ : Γ.2.2.2.2.2.2.2.2.2.2.2 = (9, 0, 0, oI Q)) (v0 : Nat) (v1 : Int32) (v2 : Int32) (v3 : Int32) (v4 : Int32) (v5 : Int32) (v6 : Int32) (σ : St) (hb : wX16_cut_0 Q v0 v1 v2 v3 v4 v5 v6 σ) : hW Γ 0 0 0 [(0, .ref v0), (1, .int v1), (2, .int v2), (3, .int v3), (4, .int v4), (5, .int v5), (6, .int v6)] [] σ := by
  unfold wX16_cut_0 at hb
  refine g_aload_n (some v0) C dX16_cut_0 0 rfl ?_
  refine g_iconst (v := 0) C dX16_cut_1 (by decide) ?_
  obtain ⟨q1, hb⟩ := hb
  refine g_putI C fl_RX16_1 dX16_cut_2 q1 rfl rfl rfl rfl ?_
  refine g_aload_n (some v0) C dX16_cut_5 0 rfl ?_
  refine g_iload_n C dX16_cut_6 1 rfl ?_
  refine g_invV (ci := 16) [.int v1] [] zy_X16_isQuestion wd_1072 wd_1074 wd_45 ⟨_, _, rfl⟩ (by decide) C dX16_cut_7 (by first | exact Nat.le_of_ble_eq_true rfl | simp [cat_rf]) (by first | exact Nat.le_of_ble_eq_true rfl | simp [cat_rf]) (by first | exact Nat.le_of_ble_eq_true rfl | simp [cat_rf]) (Nat.zero_le _) (Nat.zero_le _) rfl rfl (by rw [zK_uFi]; exact q1) (okX16_isQuestion hb) ?_
  rintro o σ2 ⟨y3, rfl, hb⟩
  refine ⟨_, rfl, ?_⟩
  refine g_if_ne (tgt := 19) C dX16_cut_10 (by decide) (fun c => ?_) (fun c => ?_)
  ·
    replace hb := hb.1 (c)
    refine g_aload_n (some v0) C dX16_cut_19 0 rfl ?_
    obtain ⟨q4, hb⟩ := hb
    obtain ⟨a5, q6, hb⟩ := hb
    refine g_getR (some a5) C fl_RX16_146 dX16_cut_20 q4 rfl rfl q6 ?_
    refine g_iload_n C dX16_cut_23 1 rfl ?_
    obtain ⟨q7, hb⟩ := hb
    obtain ⟨q8, hb⟩ := hb
    refine g_ialdx (zAi σ2 a5 (ix v1)) C dX16_cut_24 q7 q8 rfl ?_
    refine g_istore (lv' := [(7, .int (zAi σ2 a5 (ix v1))), (0, .ref v0), (1, .int v1), (2, .int v2), (3, .int v3), (4, .int v4), (5, .int v5), (6, .int v6)]) C dX16_cut_25 (hnl_of hΓ (by decide)) (by first | rfl | simp [cat_rf]) ?_
    refine g_iload_n C dX16_cut_27 3 rfl ?_
    refine g_if_le (tgt := 94) C dX16_cut_28 (by decide) (fun c => ?_) (fun c => ?_)
    ·
      replace hb := hb.1 (c)
      refine g_sub (lv' := [(0, .ref v0), (1, .int v1), (2, .int v2), (3, .int v3), (4, .int v4), (5, .int v5), (6, .int v6)]) [1, 2, 3, 4, 5, 6, 7] rfl ?_
      exact kwX16_cut_94 C hΓ  _ _ _ _ _ _ _ _ hb
    ·
      replace hb := hb.2 (c)
      refine g_iload_n C dX16_cut_31 3 rfl ?_
      refine g_iconst (v := 5) C dX16_cut_32 (by decide) ?_
      refine g_icmp_ge (tgt := 94) C dX16_cut_33 (by decide) (fun c => ?_) (fun c => ?_)
      ·
        replace hb := hb.1 (c)
        refine g_sub (lv' := [(0, .ref v0), (1, .int v1), (2, .int v2), (3, .int v3), (4, .int v4), (5, .int v5), (6, .int v6)]) [1, 2, 3, 4, 5, 6, 7] rfl ?_
        exact kwX16_cut_94 C hΓ  _ _ _ _ _ _ _ _ hb
      ·
        replace hb := hb.2 (c)
        refine g_iload_n C dX16_cut_36 4 rfl ?_
        refine g_iload C dX16_cut_37 0 rfl ?_
        refine g_invS [.int v3, .int (zAi σ2 a5 (ix v1))] [] zy_X16_isPlace wd_1076 wd_1077 C dX16_cut_39 (by first | exact Nat.le_of_ble_eq_true rfl | simp [cat_rf]) (by first | exact Nat.le_of_ble_eq_true rfl | simp [cat_rf]) (by first | exact Nat.le_of_ble_eq_true rfl | simp [cat_rf]) (Nat.zero_le _) (Nat.zero_le _) rfl rfl  (okX16_isPlace hb) ?_
        rintro o σ9 ⟨y10, rfl, hb⟩
        refine ⟨_, rfl, ?_⟩
        refine g_if_eq (tgt := 94) C dX16_cut_42 (by decide) (fun c => ?_) (fun c => ?_)
        ·
          replace hb := hb.1 (c)
          refine g_sub (lv' := [(0, .ref v0), (1, .int v1), (2, .int v2), (3, .int v3), (4, .int v4), (5, .int v5), (6, .int v6)]) [1, 2, 3, 4, 5, 6, 7] rfl ?_
          exact kwX16_cut_94 C hΓ  _ _ _ _ _ _ _ _ hb
        ·
          replace hb := hb.2 (c)
          refine g_iload_n C dX16_cut_45 3 rfl ?_
          refine g_iconst (v := 2) C dX16_cut_46 (by decide) ?_
          refine g_icmp_lt (tgt := 60) C dX16_cut_47 (by decide) (fun c => ?_) (fun c => ?_)
          ·
            replace hb := hb.1 (c)
            refine g_sub (lv' := [(0, .ref v0), (1, .int v1), (2, .int v2), (3, .int v3), (4, .int v4), (5, .int v5), (6, .int v6), (7, .int (zAi σ2 a5 (ix v1)))]) [1, 2, 3, 4, 5, 6, 7, 0] rfl ?_
            exact kwX16_cut_60 C hΓ  _ _ _ _ _ _ _ _ _ hb
          ·
            replace hb := hb.2 (c)
            refine g_iload C dX16_cut_50 5 rfl ?_
            refine g_iload C dX16_cut_52 0 rfl ?_
            refine g_invS [.int v4, .int (zAi σ2 a5 (ix v1))] [] zy_X16_isPlace wd_1076 wd_1077 C dX16_cut_54 (by first | exact Nat.le_of_ble_eq_true rfl | simp [cat_rf]) (by first | exact Nat.le_of_ble_eq_true rfl | simp [cat_rf]) (by first | exact Nat.le_of_ble_eq_true rfl | simp [cat_rf]) (Nat.zero_le _) (Nat.zero_le _) rfl rfl  (okX16_isPlace hb) ?_
            rintro o σ11 ⟨y12, rfl, hb⟩
            refine ⟨_, rfl, ?_⟩
            refine g_if_eq (tgt := 94) C dX16_cut_57 (by decide) (fun c => ?_) (fun c => ?_)
            ·
              replace hb := hb.1 (c)
              refine g_sub (lv' := [(0, .ref v0), (1, .int v1), (2, .int v2), (3, .int v3), (4, .int v4), (5, .int v5), (6, .int v6)]) [1, 2, 3, 4, 5, 6, 7] rfl ?_
              exact kwX16_cut_94 C hΓ  _ _ _ _ _ _ _ _ hb
            ·
              replace hb := hb.2 (c)
              refine g_sub (lv' := [(0, .ref v0), (1, .int v1), (2, .int v2), (3, .int v3), (4, .int v4), (5, .int v5), (6, .int v6), (7, .int (zAi σ2 a5 (ix v1)))]) [1, 2, 3, 4, 5, 6, 7, 0] rfl ?_
              exact kwX16_cut_60 C hΓ  _ _ _ _ _ _ _ _ _ hb
  ·
    replace hb := hb.2 (c)
    refine g_aload_n (some v0) C dX16_cut_13 0 rfl ?_
    refine g_iconst (v := 1) C dX16_cut_14 (by decide) ?_
    obtain ⟨q13, hb⟩ := hb
    refine g_invV (ci := 16) [.int 1] [] zy_X16_refused wd_1005 wd_1007 wd_38 ⟨_, _, rfl⟩ (by decide) C dX16_cut_15 (by first | exact Nat.le_of_ble_eq_true rfl | simp [cat_rf]) (by first | exact Nat.le_of_ble_eq_true rfl | simp [cat_rf]) (by first | exact Nat.le_of_ble_eq_true rfl | simp [cat_rf]) (Nat.zero_le _) (Nat.zero_le _) rfl rfl q13 (okX16_refused hb) ?_
    rintro o σ14 ⟨y15, rfl, hb⟩
    refine ⟨_, rfl, ?_⟩
    exact g_ireturn C hΓ (Nat.zero_le _) (Nat.zero_le _) dX16_cut_18 ⟨_, rfl, hb⟩
theorem okX16_cut {v0 : Nat} {v1 : Int32} {v2 : Int32} {v3 : Int32} {v4 : Int32} {v5 : Int32} {v6 : Int32} {σ : St} {Q : Int32 → St → Prop} (hb : wX16_cut v0 v1 v2 v3 v4 v5 v6 σ Q) : hM yX16_cut cX16_cut 9 ((Option.some FieldType.int)) 2 54 0 0 [.ref v0, .int v1, .int v2, .int v3, .int v4, .int v5, .int v6] σ (oI Q) :=
  hM_of (by decide) (Nat.le_of_ble_eq_true rfl) (fun Γ hΓ C => kwX16_cut_0 C hΓ _ _ _ _ _ _ _ _ hb)
def wX16_pair_54 (Q : Int32 → St → Prop) (v0 : Nat) (σ : St) : Prop :=
  zK σ v0 = 17 ∧ wX16_refused v0 2 σ (fun y3 σ2 => Q y3 σ2)
def wX16_pair_21 (Q : Int32 → St → Prop) (v0 : Nat) (σ : St) : Prop :=
  zK σ v0 = 17 ∧ wX16_refused v0 1 σ (fun y3 σ2 => Q y3 σ2)
def wX16_pair_0 (Q : Int32 → St → Prop) (v0 : Nat) (v1 : Int32) (v2 : Int32) (v3 : Int32) (v4 : Int32) (σ : St) : Prop :=
  zK σ v0 = 17 ∧ wX16_isQuestion v0 v1 (uFi σ 1024 v0 0) (fun y3 σ2 => ((y3 = 0 → wX16_pair_21 Q v0 σ2) ∧ (¬ y3 = 0 → zK σ2 v0 = 17 ∧ wX16_isQuestion v0 v2 σ2 (fun y6 σ5 => ((¬ y6 = 0 → zK σ5 v0 = 17 ∧ ∃ a8 : Nat, zFr σ5 1042 v0 = some a8 ∧ zK σ5 a8 = 20 ∧ vp_in v1 (zL σ5 a8) ∧ wX16_isPlace v3 (zAi σ5 a8 (ix v1)) σ5 (fun y13 σ12 => ((y13 = 0 → wX16_pair_54 Q v0 σ12) ∧ (¬ y13 = 0 → zK σ12 v0 = 17 ∧ ∃ a15 : Nat, zFr σ12 1042 v0 = some a15 ∧ zK σ12 a15 = 20 ∧ vp_in v2 (zL σ12 a15) ∧ wX16_isPlace v4 (zAi σ12 a15 (ix v2)) σ12 (fun y20 σ19 => ((¬ y20 = 0 → zK σ19 v0 = 17 ∧ ∃ a22 : Nat, zFr σ19 1042 v0 = some a22 ∧ zK σ19 a22 = 20 ∧ vp_in v1 (zL σ19 a22) ∧ vp_in v2 (zL σ19 a22) ∧ ((((zAi σ19 a22 (ix v1)) + (zAi σ19 a22 (ix v2))) ≤ (6 : Int32) → wX16_made v0 4 v1 v2 ((zAi σ19 a22 (ix v1)) + (zAi σ19 a22 (ix v2))) v3 v4 0 0 σ19 (fun y28 σ27 => Q y28 σ27)) ∧ (¬ ((zAi σ19 a22 (ix v1)) + (zAi σ19 a22 (ix v2))) ≤ (6 : Int32) → wX16_refused v0 3 σ19 (fun y30 σ29 => Q y30 σ29)))) ∧ (y20 = 0 → wX16_pair_54 Q v0 σ19))))))) ∧ (y6 = 0 → wX16_pair_21 Q v0 σ5))))))
def wX16_pair (v0 : Nat) (v1 : Int32) (v2 : Int32) (v3 : Int32) (v4 : Int32) (σ : St) (Q : Int32 → St → Prop) : Prop := wX16_pair_0 Q v0 v1 v2 v3 v4 σ
set_option maxRecDepth 20000 in
theorem kwX16_pair_54 {Γ : hCT} (C : hC Γ RX16 cX16_pair ((Option.some FieldType.int)) "pair" 2 54) {Q : Int32 → St → Prop} (hΓ : Γ.2.2.2.2.2.2.2.2.2.2.2 = (6, 0, 0, oI Q)) (v0 : Nat) (σ : St) (hb : wX16_pair_54 Q v0 σ) : hW Γ 0 0 54 [(0, .ref v0)] [] σ := by
  unfold wX16_pair_54 at hb
  refine g_aload_n (some v0) C dX16_pair_54 0 rfl ?_
  refine g_iconst (v := 2) C dX16_pair_55 (by decide) ?_
  obtain ⟨q1, hb⟩ := hb
  refine g_invV (ci := 16) [.int 2] [] zy_X16_refused wd_1005 wd_1007 wd_38 ⟨_, _, rfl⟩ (by decide) C dX16_pair_56 (by first | exact Nat.le_of_ble_eq_true rfl | simp [cat_rf]) (by first | exact Nat.le_of_ble_eq_true rfl | simp [cat_rf]) (by first | exact Nat.le_of_ble_eq_true rfl | simp [cat_rf]) (Nat.zero_le _) (Nat.zero_le _) rfl rfl q1 (okX16_refused hb) ?_
  rintro o σ2 ⟨y3, rfl, hb⟩
  refine ⟨_, rfl, ?_⟩
  exact g_ireturn C hΓ (Nat.zero_le _) (Nat.zero_le _) dX16_pair_59 ⟨_, rfl, hb⟩
set_option maxRecDepth 20000 in
theorem kwX16_pair_21 {Γ : hCT} (C : hC Γ RX16 cX16_pair ((Option.some FieldType.int)) "pair" 2 54) {Q : Int32 → St → Prop} (hΓ : Γ.2.2.2.2.2.2.2.2.2.2.2 = (6, 0, 0, oI Q)) (v0 : Nat) (σ : St) (hb : wX16_pair_21 Q v0 σ) : hW Γ 0 0 21 [(0, .ref v0)] [] σ := by
  unfold wX16_pair_21 at hb
  refine g_aload_n (some v0) C dX16_pair_21 0 rfl ?_
  refine g_iconst (v := 1) C dX16_pair_22 (by decide) ?_
  obtain ⟨q1, hb⟩ := hb
  refine g_invV (ci := 16) [.int 1] [] zy_X16_refused wd_1005 wd_1007 wd_38 ⟨_, _, rfl⟩ (by decide) C dX16_pair_23 (by first | exact Nat.le_of_ble_eq_true rfl | simp [cat_rf]) (by first | exact Nat.le_of_ble_eq_true rfl | simp [cat_rf]) (by first | exact Nat.le_of_ble_eq_true rfl | simp [cat_rf]) (Nat.zero_le _) (Nat.zero_le _) rfl rfl q1 (okX16_refused hb) ?_
  rintro o σ2 ⟨y3, rfl, hb⟩
  refine ⟨_, rfl, ?_⟩
  exact g_ireturn C hΓ (Nat.zero_le _) (Nat.zero_le _) dX16_pair_26 ⟨_, rfl, hb⟩
set_option maxRecDepth 20000 in
theorem kwX16_pair_0 {Γ : hCT} (C : hC Γ RX16 cX16_pair ((Option.some FieldType.int)) "pair" 2 54) {Q : Int32 → St → Prop} (hΓ : Γ.2.2.2.2.2.2.2.2.2.2.2 = (6, 0, 0, oI Q)) (v0 : Nat) (v1 : Int32) (v2 : Int32) (v3 : Int32) (v4 : Int32) (σ : St) (hb : wX16_pair_0 Q v0 v1 v2 v3 v4 σ) : hW Γ 0 0 0 [(0, .ref v0), (1, .int v1), (2, .int v2), (3, .int v3), (4, .int v4)] [] σ := by
  unfold wX16_pair_0 at hb
  refine g_aload_n (some v0) C dX16_pair_0 0 rfl ?_
  refine g_iconst (v := 0) C dX16_pair_1 (by decide) ?_
  obtain ⟨q1, hb⟩ := hb
  refine g_putI C fl_RX16_1 dX16_pair_2 q1 rfl rfl rfl rfl ?_
  refine g_aload_n (some v0) C dX16_pair_5 0 rfl ?_
  refine g_iload_n C dX16_pair_6 1 rfl ?_
  refine g_invV (ci := 16) [.int v1] [] zy_X16_isQuestion wd_1072 wd_1074 wd_45 ⟨_, _, rfl⟩ (by decide) C dX16_pair_7 (by first | exact Nat.le_of_ble_eq_true rfl | simp [cat_rf]) (by first | exact Nat.le_of_ble_eq_true rfl | simp [cat_rf]) (by first | exact Nat.le_of_ble_eq_true rfl | simp [cat_rf]) (Nat.zero_le _) (Nat.zero_le _) rfl rfl (by rw [zK_uFi]; exact q1) (okX16_isQuestion hb) ?_
  rintro o σ2 ⟨y3, rfl, hb⟩
  refine ⟨_, rfl, ?_⟩
  refine g_if_eq (tgt := 21) C dX16_pair_10 (by decide) (fun c => ?_) (fun c => ?_)
  ·
    replace hb := hb.1 (c)
    refine g_sub (lv' := [(0, .ref v0)]) [0] rfl ?_
    exact kwX16_pair_21 C hΓ  _ _ hb
  ·
    replace hb := hb.2 (c)
    refine g_aload_n (some v0) C dX16_pair_13 0 rfl ?_
    refine g_iload_n C dX16_pair_14 2 rfl ?_
    obtain ⟨q4, hb⟩ := hb
    refine g_invV (ci := 16) [.int v2] [] zy_X16_isQuestion wd_1072 wd_1074 wd_45 ⟨_, _, rfl⟩ (by decide) C dX16_pair_15 (by first | exact Nat.le_of_ble_eq_true rfl | simp [cat_rf]) (by first | exact Nat.le_of_ble_eq_true rfl | simp [cat_rf]) (by first | exact Nat.le_of_ble_eq_true rfl | simp [cat_rf]) (Nat.zero_le _) (Nat.zero_le _) rfl rfl q4 (okX16_isQuestion hb) ?_
    rintro o σ5 ⟨y6, rfl, hb⟩
    refine ⟨_, rfl, ?_⟩
    refine g_if_ne (tgt := 27) C dX16_pair_18 (by decide) (fun c => ?_) (fun c => ?_)
    ·
      replace hb := hb.1 (c)
      refine g_iload_n C dX16_pair_27 3 rfl ?_
      refine g_aload_n (some v0) C dX16_pair_28 0 rfl ?_
      obtain ⟨q7, hb⟩ := hb
      obtain ⟨a8, q9, hb⟩ := hb
      refine g_getR (some a8) C fl_RX16_146 dX16_pair_29 q7 rfl rfl q9 ?_
      refine g_iload_n C dX16_pair_32 1 rfl ?_
      obtain ⟨q10, hb⟩ := hb
      obtain ⟨q11, hb⟩ := hb
      refine g_ialdx (zAi σ5 a8 (ix v1)) C dX16_pair_33 q10 q11 rfl ?_
      refine g_invS [.int v3, .int (zAi σ5 a8 (ix v1))] [] zy_X16_isPlace wd_1076 wd_1077 C dX16_pair_34 (by first | exact Nat.le_of_ble_eq_true rfl | simp [cat_rf]) (by first | exact Nat.le_of_ble_eq_true rfl | simp [cat_rf]) (by first | exact Nat.le_of_ble_eq_true rfl | simp [cat_rf]) (Nat.zero_le _) (Nat.zero_le _) rfl rfl  (okX16_isPlace hb) ?_
      rintro o σ12 ⟨y13, rfl, hb⟩
      refine ⟨_, rfl, ?_⟩
      refine g_if_eq (tgt := 54) C dX16_pair_37 (by decide) (fun c => ?_) (fun c => ?_)
      ·
        replace hb := hb.1 (c)
        refine g_sub (lv' := [(0, .ref v0)]) [0] rfl ?_
        exact kwX16_pair_54 C hΓ  _ _ hb
      ·
        replace hb := hb.2 (c)
        refine g_iload C dX16_pair_40 4 rfl ?_
        refine g_aload_n (some v0) C dX16_pair_42 0 rfl ?_
        obtain ⟨q14, hb⟩ := hb
        obtain ⟨a15, q16, hb⟩ := hb
        refine g_getR (some a15) C fl_RX16_146 dX16_pair_43 q14 rfl rfl q16 ?_
        refine g_iload_n C dX16_pair_46 2 rfl ?_
        obtain ⟨q17, hb⟩ := hb
        obtain ⟨q18, hb⟩ := hb
        refine g_ialdx (zAi σ12 a15 (ix v2)) C dX16_pair_47 q17 q18 rfl ?_
        refine g_invS [.int v4, .int (zAi σ12 a15 (ix v2))] [] zy_X16_isPlace wd_1076 wd_1077 C dX16_pair_48 (by first | exact Nat.le_of_ble_eq_true rfl | simp [cat_rf]) (by first | exact Nat.le_of_ble_eq_true rfl | simp [cat_rf]) (by first | exact Nat.le_of_ble_eq_true rfl | simp [cat_rf]) (Nat.zero_le _) (Nat.zero_le _) rfl rfl  (okX16_isPlace hb) ?_
        rintro o σ19 ⟨y20, rfl, hb⟩
        refine ⟨_, rfl, ?_⟩
        refine g_if_ne (tgt := 60) C dX16_pair_51 (by decide) (fun c => ?_) (fun c => ?_)
        ·
          replace hb := hb.1 (c)
          refine g_aload_n (some v0) C dX16_pair_60 0 rfl ?_
          obtain ⟨q21, hb⟩ := hb
          obtain ⟨a22, q23, hb⟩ := hb
          refine g_getR (some a22) C fl_RX16_146 dX16_pair_61 q21 rfl rfl q23 ?_
          refine g_iload_n C dX16_pair_64 1 rfl ?_
          obtain ⟨q24, hb⟩ := hb
          obtain ⟨q25, hb⟩ := hb
          refine g_ialdx (zAi σ19 a22 (ix v1)) C dX16_pair_65 q24 q25 rfl ?_
          refine g_aload_n (some v0) C dX16_pair_66 0 rfl ?_
          refine g_getR (some a22) C fl_RX16_146 dX16_pair_67 q21 rfl rfl q23 ?_
          refine g_iload_n C dX16_pair_70 2 rfl ?_
          obtain ⟨q26, hb⟩ := hb
          refine g_ialdx (zAi σ19 a22 (ix v2)) C dX16_pair_71 q24 q26 rfl ?_
          refine g_iadd C dX16_pair_72 ?_
          refine g_istore (lv' := [(5, .int ((zAi σ19 a22 (ix v1)) + (zAi σ19 a22 (ix v2)))), (0, .ref v0), (1, .int v1), (2, .int v2), (3, .int v3), (4, .int v4)]) C dX16_pair_73 (hnl_of hΓ (by decide)) (by first | rfl | simp [cat_rf]) ?_
          refine g_iload C dX16_pair_75 0 rfl ?_
          refine g_bipush (v := 6) C dX16_pair_77 (by decide) ?_
          refine g_icmp_le (tgt := 90) C dX16_pair_79 (by decide) (fun c => ?_) (fun c => ?_)
          ·
            replace hb := hb.1 (c)
            refine g_aload_n (some v0) C dX16_pair_90 1 rfl ?_
            refine g_iconst (v := 4) C dX16_pair_91 (by decide) ?_
            refine g_iload_n C dX16_pair_92 2 rfl ?_
            refine g_iload_n C dX16_pair_93 3 rfl ?_
            refine g_iload C dX16_pair_94 0 rfl ?_
            refine g_iload_n C dX16_pair_96 4 rfl ?_
            refine g_iload C dX16_pair_97 5 rfl ?_
            refine g_iconst (v := 0) C dX16_pair_99 (by decide) ?_
            refine g_iconst (v := 0) C dX16_pair_100 (by decide) ?_
            refine g_invV (ci := 16) [.int 4, .int v1, .int v2, .int ((zAi σ19 a22 (ix v1)) + (zAi σ19 a22 (ix v2))), .int v3, .int v4, .int 0, .int 0] [] zy_X16_made wd_1064 wd_1066 wd_44 ⟨_, _, rfl⟩ (by decide) C dX16_pair_101 (by first | exact Nat.le_of_ble_eq_true rfl | simp [cat_rf]) (by first | exact Nat.le_of_ble_eq_true rfl | simp [cat_rf]) (by first | exact Nat.le_of_ble_eq_true rfl | simp [cat_rf]) (Nat.zero_le _) (Nat.zero_le _) rfl rfl q21 (okX16_made hb) ?_
            rintro o σ27 ⟨y28, rfl, hb⟩
            refine ⟨_, rfl, ?_⟩
            exact g_ireturn C hΓ (Nat.zero_le _) (Nat.zero_le _) dX16_pair_104 ⟨_, rfl, hb⟩
          ·
            replace hb := hb.2 (c)
            refine g_aload_n (some v0) C dX16_pair_82 1 rfl ?_
            refine g_iconst (v := 3) C dX16_pair_83 (by decide) ?_
            refine g_invV (ci := 16) [.int 3] [] zy_X16_refused wd_1005 wd_1007 wd_38 ⟨_, _, rfl⟩ (by decide) C dX16_pair_84 (by first | exact Nat.le_of_ble_eq_true rfl | simp [cat_rf]) (by first | exact Nat.le_of_ble_eq_true rfl | simp [cat_rf]) (by first | exact Nat.le_of_ble_eq_true rfl | simp [cat_rf]) (Nat.zero_le _) (Nat.zero_le _) rfl rfl q21 (okX16_refused hb) ?_
            rintro o σ29 ⟨y30, rfl, hb⟩
            refine ⟨_, rfl, ?_⟩
            refine g_goto (tgt := 104) C dX16_pair_87 (by decide) ?_
            exact g_ireturn C hΓ (Nat.zero_le _) (Nat.zero_le _) dX16_pair_104 ⟨_, rfl, hb⟩
        ·
          replace hb := hb.2 (c)
          refine g_sub (lv' := [(0, .ref v0)]) [0] rfl ?_
          exact kwX16_pair_54 C hΓ  _ _ hb
    ·
      replace hb := hb.2 (c)
      refine g_sub (lv' := [(0, .ref v0)]) [0] rfl ?_
      exact kwX16_pair_21 C hΓ  _ _ hb
theorem okX16_pair {v0 : Nat} {v1 : Int32} {v2 : Int32} {v3 : Int32} {v4 : Int32} {σ : St} {Q : Int32 → St → Prop} (hb : wX16_pair v0 v1 v2 v3 v4 σ Q) : hM yX16_pair cX16_pair 6 ((Option.some FieldType.int)) 2 54 0 0 [.ref v0, .int v1, .int v2, .int v3, .int v4] σ (oI Q) :=
  hM_of (by decide) (Nat.le_of_ble_eq_true rfl) (fun Γ hΓ C => kwX16_pair_0 C hΓ _ _ _ _ _ _ hb)
def wX16_either_21 (Q : Int32 → St → Prop) (v0 : Nat) (σ : St) : Prop :=
  zK σ v0 = 17 ∧ wX16_refused v0 1 σ (fun y3 σ2 => Q y3 σ2)
def wX16_either_0 (Q : Int32 → St → Prop) (v0 : Nat) (v1 : Int32) (v2 : Int32) (σ : St) : Prop :=
  zK σ v0 = 17 ∧ wX16_isQuestion v0 v1 (uFi σ 1024 v0 0) (fun y3 σ2 => ((y3 = 0 → wX16_either_21 Q v0 σ2) ∧ (¬ y3 = 0 → zK σ2 v0 = 17 ∧ wX16_isQuestion v0 v2 σ2 (fun y6 σ5 => ((¬ y6 = 0 → zK σ5 v0 = 17 ∧ ∃ a8 : Nat, zFr σ5 1042 v0 = some a8 ∧ zK σ5 a8 = 20 ∧ vp_in v1 (zL σ5 a8) ∧ vp_in v2 (zL σ5 a8) ∧ ((¬ (zAi σ5 a8 (ix v1)) = (zAi σ5 a8 (ix v2)) → wX16_refused v0 3 σ5 (fun y14 σ13 => Q y14 σ13)) ∧ ((zAi σ5 a8 (ix v1)) = (zAi σ5 a8 (ix v2)) → wX16_made v0 5 v1 v2 (zAi σ5 a8 (ix v1)) 0 0 0 0 σ5 (fun y16 σ15 => Q y16 σ15)))) ∧ (y6 = 0 → wX16_either_21 Q v0 σ5))))))
def wX16_either (v0 : Nat) (v1 : Int32) (v2 : Int32) (σ : St) (Q : Int32 → St → Prop) : Prop := wX16_either_0 Q v0 v1 v2 σ
set_option maxRecDepth 20000 in
theorem kwX16_either_21 {Γ : hCT} (C : hC Γ RX16 cX16_either ((Option.some FieldType.int)) "either" 2 54) {Q : Int32 → St → Prop} (hΓ : Γ.2.2.2.2.2.2.2.2.2.2.2 = (3, 0, 0, oI Q)) (v0 : Nat) (σ : St) (hb : wX16_either_21 Q v0 σ) : hW Γ 0 0 21 [(0, .ref v0)] [] σ := by
  unfold wX16_either_21 at hb
  refine g_aload_n (some v0) C dX16_either_21 0 rfl ?_
  refine g_iconst (v := 1) C dX16_either_22 (by decide) ?_
  obtain ⟨q1, hb⟩ := hb
  refine g_invV (ci := 16) [.int 1] [] zy_X16_refused wd_1005 wd_1007 wd_38 ⟨_, _, rfl⟩ (by decide) C dX16_either_23 (by first | exact Nat.le_of_ble_eq_true rfl | simp [cat_rf]) (by first | exact Nat.le_of_ble_eq_true rfl | simp [cat_rf]) (by first | exact Nat.le_of_ble_eq_true rfl | simp [cat_rf]) (Nat.zero_le _) (Nat.zero_le _) rfl rfl q1 (okX16_refused hb) ?_
  rintro o σ2 ⟨y3, rfl, hb⟩
  refine ⟨_, rfl, ?_⟩
  exact g_ireturn C hΓ (Nat.zero_le _) (Nat.zero_le _) dX16_either_26 ⟨_, rfl, hb⟩
set_option maxRecDepth 20000 in
theorem kwX16_either_0 {Γ : hCT} (C : hC Γ RX16 cX16_either ((Option.some FieldType.int)) "either" 2 54) {Q : Int32 → St → Prop} (hΓ : Γ.2.2.2.2.2.2.2.2.2.2.2 = (3, 0, 0, oI Q)) (v0 : Nat) (v1 : Int32) (v2 : Int32) (σ : St) (hb : wX16_either_0 Q v0 v1 v2 σ) : hW Γ 0 0 0 [(0, .ref v0), (1, .int v1), (2, .int v2)] [] σ := by
  unfold wX16_either_0 at hb
  refine g_aload_n (some v0) C dX16_either_0 0 rfl ?_
  refine g_iconst (v := 0) C dX16_either_1 (by decide) ?_
  obtain ⟨q1, hb⟩ := hb
  refine g_putI C fl_RX16_1 dX16_either_2 q1 rfl rfl rfl rfl ?_
  refine g_aload_n (some v0) C dX16_either_5 0 rfl ?_
  refine g_iload_n C dX16_either_6 1 rfl ?_
  refine g_invV (ci := 16) [.int v1] [] zy_X16_isQuestion wd_1072 wd_1074 wd_45 ⟨_, _, rfl⟩ (by decide) C dX16_either_7 (by first | exact Nat.le_of_ble_eq_true rfl | simp [cat_rf]) (by first | exact Nat.le_of_ble_eq_true rfl | simp [cat_rf]) (by first | exact Nat.le_of_ble_eq_true rfl | simp [cat_rf]) (Nat.zero_le _) (Nat.zero_le _) rfl rfl (by rw [zK_uFi]; exact q1) (okX16_isQuestion hb) ?_
  rintro o σ2 ⟨y3, rfl, hb⟩
  refine ⟨_, rfl, ?_⟩
  refine g_if_eq (tgt := 21) C dX16_either_10 (by decide) (fun c => ?_) (fun c => ?_)
  ·
    replace hb := hb.1 (c)
    refine g_sub (lv' := [(0, .ref v0)]) [0] rfl ?_
    exact kwX16_either_21 C hΓ  _ _ hb
  ·
    replace hb := hb.2 (c)
    refine g_aload_n (some v0) C dX16_either_13 0 rfl ?_
    refine g_iload_n C dX16_either_14 2 rfl ?_
    obtain ⟨q4, hb⟩ := hb
    refine g_invV (ci := 16) [.int v2] [] zy_X16_isQuestion wd_1072 wd_1074 wd_45 ⟨_, _, rfl⟩ (by decide) C dX16_either_15 (by first | exact Nat.le_of_ble_eq_true rfl | simp [cat_rf]) (by first | exact Nat.le_of_ble_eq_true rfl | simp [cat_rf]) (by first | exact Nat.le_of_ble_eq_true rfl | simp [cat_rf]) (Nat.zero_le _) (Nat.zero_le _) rfl rfl q4 (okX16_isQuestion hb) ?_
    rintro o σ5 ⟨y6, rfl, hb⟩
    refine ⟨_, rfl, ?_⟩
    refine g_if_ne (tgt := 27) C dX16_either_18 (by decide) (fun c => ?_) (fun c => ?_)
    ·
      replace hb := hb.1 (c)
      refine g_aload_n (some v0) C dX16_either_27 0 rfl ?_
      obtain ⟨q7, hb⟩ := hb
      obtain ⟨a8, q9, hb⟩ := hb
      refine g_getR (some a8) C fl_RX16_146 dX16_either_28 q7 rfl rfl q9 ?_
      refine g_iload_n C dX16_either_31 1 rfl ?_
      obtain ⟨q10, hb⟩ := hb
      obtain ⟨q11, hb⟩ := hb
      refine g_ialdx (zAi σ5 a8 (ix v1)) C dX16_either_32 q10 q11 rfl ?_
      refine g_aload_n (some v0) C dX16_either_33 0 rfl ?_
      refine g_getR (some a8) C fl_RX16_146 dX16_either_34 q7 rfl rfl q9 ?_
      refine g_iload_n C dX16_either_37 2 rfl ?_
      obtain ⟨q12, hb⟩ := hb
      refine g_ialdx (zAi σ5 a8 (ix v2)) C dX16_either_38 q10 q12 rfl ?_
      refine g_icmp_ne (tgt := 62) C dX16_either_39 (by decide) (fun c => ?_) (fun c => ?_)
      ·
        replace hb := hb.1 (c)
        refine g_aload_n (some v0) C dX16_either_62 0 rfl ?_
        refine g_iconst (v := 3) C dX16_either_63 (by decide) ?_
        refine g_invV (ci := 16) [.int 3] [] zy_X16_refused wd_1005 wd_1007 wd_38 ⟨_, _, rfl⟩ (by decide) C dX16_either_64 (by first | exact Nat.le_of_ble_eq_true rfl | simp [cat_rf]) (by first | exact Nat.le_of_ble_eq_true rfl | simp [cat_rf]) (by first | exact Nat.le_of_ble_eq_true rfl | simp [cat_rf]) (Nat.zero_le _) (Nat.zero_le _) rfl rfl q7 (okX16_refused hb) ?_
        rintro o σ13 ⟨y14, rfl, hb⟩
        refine ⟨_, rfl, ?_⟩
        exact g_ireturn C hΓ (Nat.zero_le _) (Nat.zero_le _) dX16_either_67 ⟨_, rfl, hb⟩
      ·
        replace hb := hb.2 (c)
        refine g_aload_n (some v0) C dX16_either_42 0 rfl ?_
        refine g_iconst (v := 5) C dX16_either_43 (by decide) ?_
        refine g_iload_n C dX16_either_44 1 rfl ?_
        refine g_iload_n C dX16_either_45 2 rfl ?_
        refine g_aload_n (some v0) C dX16_either_46 0 rfl ?_
        refine g_getR (some a8) C fl_RX16_146 dX16_either_47 q7 rfl rfl q9 ?_
        refine g_iload_n C dX16_either_50 1 rfl ?_
        refine g_ialdx (zAi σ5 a8 (ix v1)) C dX16_either_51 q10 q11 rfl ?_
        refine g_iconst (v := 0) C dX16_either_52 (by decide) ?_
        refine g_iconst (v := 0) C dX16_either_53 (by decide) ?_
        refine g_iconst (v := 0) C dX16_either_54 (by decide) ?_
        refine g_iconst (v := 0) C dX16_either_55 (by decide) ?_
        refine g_invV (ci := 16) [.int 5, .int v1, .int v2, .int (zAi σ5 a8 (ix v1)), .int 0, .int 0, .int 0, .int 0] [] zy_X16_made wd_1064 wd_1066 wd_44 ⟨_, _, rfl⟩ (by decide) C dX16_either_56 (by first | exact Nat.le_of_ble_eq_true rfl | simp [cat_rf]) (by first | exact Nat.le_of_ble_eq_true rfl | simp [cat_rf]) (by first | exact Nat.le_of_ble_eq_true rfl | simp [cat_rf]) (Nat.zero_le _) (Nat.zero_le _) rfl rfl q7 (okX16_made hb) ?_
        rintro o σ15 ⟨y16, rfl, hb⟩
        refine ⟨_, rfl, ?_⟩
        refine g_goto (tgt := 67) C dX16_either_59 (by decide) ?_
        exact g_ireturn C hΓ (Nat.zero_le _) (Nat.zero_le _) dX16_either_67 ⟨_, rfl, hb⟩
    ·
      replace hb := hb.2 (c)
      refine g_sub (lv' := [(0, .ref v0)]) [0] rfl ?_
      exact kwX16_either_21 C hΓ  _ _ hb
theorem okX16_either {v0 : Nat} {v1 : Int32} {v2 : Int32} {σ : St} {Q : Int32 → St → Prop} (hb : wX16_either v0 v1 v2 σ Q) : hM yX16_either cX16_either 3 ((Option.some FieldType.int)) 2 54 0 0 [.ref v0, .int v1, .int v2] σ (oI Q) :=
  hM_of (by decide) (Nat.le_of_ble_eq_true rfl) (fun Γ hΓ C => kwX16_either_0 C hΓ _ _ _ _ hb)
def wX16_close_0 (Q : Int32 → St → Prop) (v0 : Nat) (v1 : Int32) (σ : St) : Prop :=
  zK σ v0 = 17 ∧ wX16_isQuestion v0 v1 (uFi σ 1024 v0 0) (fun y3 σ2 => ((¬ y3 = 0 → zK σ2 v0 = 17 ∧ ∃ a5 : Nat, zFr σ2 1042 v0 = some a5 ∧ zK σ2 a5 = 20 ∧ vp_in v1 (zL σ2 a5) ∧ ((¬ (zAi σ2 a5 (ix v1)) = (2 : Int32) → wX16_refused v0 3 σ2 (fun y10 σ9 => Q y10 σ9)) ∧ ((zAi σ2 a5 (ix v1)) = (2 : Int32) → wX16_made v0 6 v1 (-1) 2 0 0 0 0 σ2 (fun y12 σ11 => Q y12 σ11)))) ∧ (y3 = 0 → zK σ2 v0 = 17 ∧ wX16_refused v0 1 σ2 (fun y15 σ14 => Q y15 σ14))))
def wX16_close (v0 : Nat) (v1 : Int32) (σ : St) (Q : Int32 → St → Prop) : Prop := wX16_close_0 Q v0 v1 σ
set_option maxRecDepth 20000 in
theorem kwX16_close_0 {Γ : hCT} (C : hC Γ RX16 cX16_close ((Option.some FieldType.int)) "close" 2 54) {Q : Int32 → St → Prop} (hΓ : Γ.2.2.2.2.2.2.2.2.2.2.2 = (2, 0, 0, oI Q)) (v0 : Nat) (v1 : Int32) (σ : St) (hb : wX16_close_0 Q v0 v1 σ) : hW Γ 0 0 0 [(0, .ref v0), (1, .int v1)] [] σ := by
  unfold wX16_close_0 at hb
  refine g_aload_n (some v0) C dX16_close_0 0 rfl ?_
  refine g_iconst (v := 0) C dX16_close_1 (by decide) ?_
  obtain ⟨q1, hb⟩ := hb
  refine g_putI C fl_RX16_1 dX16_close_2 q1 rfl rfl rfl rfl ?_
  refine g_aload_n (some v0) C dX16_close_5 0 rfl ?_
  refine g_iload_n C dX16_close_6 1 rfl ?_
  refine g_invV (ci := 16) [.int v1] [] zy_X16_isQuestion wd_1072 wd_1074 wd_45 ⟨_, _, rfl⟩ (by decide) C dX16_close_7 (by first | exact Nat.le_of_ble_eq_true rfl | simp [cat_rf]) (by first | exact Nat.le_of_ble_eq_true rfl | simp [cat_rf]) (by first | exact Nat.le_of_ble_eq_true rfl | simp [cat_rf]) (Nat.zero_le _) (Nat.zero_le _) rfl rfl (by rw [zK_uFi]; exact q1) (okX16_isQuestion hb) ?_
  rintro o σ2 ⟨y3, rfl, hb⟩
  refine ⟨_, rfl, ?_⟩
  refine g_if_ne (tgt := 19) C dX16_close_10 (by decide) (fun c => ?_) (fun c => ?_)
  ·
    replace hb := hb.1 (c)
    refine g_aload_n (some v0) C dX16_close_19 0 rfl ?_
    obtain ⟨q4, hb⟩ := hb
    obtain ⟨a5, q6, hb⟩ := hb
    refine g_getR (some a5) C fl_RX16_146 dX16_close_20 q4 rfl rfl q6 ?_
    refine g_iload_n C dX16_close_23 1 rfl ?_
    obtain ⟨q7, hb⟩ := hb
    obtain ⟨q8, hb⟩ := hb
    refine g_ialdx (zAi σ2 a5 (ix v1)) C dX16_close_24 q7 q8 rfl ?_
    refine g_iconst (v := 2) C dX16_close_25 (by decide) ?_
    refine g_icmp_ne (tgt := 45) C dX16_close_26 (by decide) (fun c => ?_) (fun c => ?_)
    ·
      replace hb := hb.1 (c)
      refine g_aload_n (some v0) C dX16_close_45 0 rfl ?_
      refine g_iconst (v := 3) C dX16_close_46 (by decide) ?_
      refine g_invV (ci := 16) [.int 3] [] zy_X16_refused wd_1005 wd_1007 wd_38 ⟨_, _, rfl⟩ (by decide) C dX16_close_47 (by first | exact Nat.le_of_ble_eq_true rfl | simp [cat_rf]) (by first | exact Nat.le_of_ble_eq_true rfl | simp [cat_rf]) (by first | exact Nat.le_of_ble_eq_true rfl | simp [cat_rf]) (Nat.zero_le _) (Nat.zero_le _) rfl rfl q4 (okX16_refused hb) ?_
      rintro o σ9 ⟨y10, rfl, hb⟩
      refine ⟨_, rfl, ?_⟩
      exact g_ireturn C hΓ (Nat.zero_le _) (Nat.zero_le _) dX16_close_50 ⟨_, rfl, hb⟩
    ·
      replace hb := hb.2 (c)
      refine g_aload_n (some v0) C dX16_close_29 0 rfl ?_
      refine g_bipush (v := 6) C dX16_close_30 (by decide) ?_
      refine g_iload_n C dX16_close_32 1 rfl ?_
      refine g_iconst (v := (-1)) C dX16_close_33 (by decide) ?_
      refine g_iconst (v := 2) C dX16_close_34 (by decide) ?_
      refine g_iconst (v := 0) C dX16_close_35 (by decide) ?_
      refine g_iconst (v := 0) C dX16_close_36 (by decide) ?_
      refine g_iconst (v := 0) C dX16_close_37 (by decide) ?_
      refine g_iconst (v := 0) C dX16_close_38 (by decide) ?_
      refine g_invV (ci := 16) [.int 6, .int v1, .int (-1), .int 2, .int 0, .int 0, .int 0, .int 0] [] zy_X16_made wd_1064 wd_1066 wd_44 ⟨_, _, rfl⟩ (by decide) C dX16_close_39 (by first | exact Nat.le_of_ble_eq_true rfl | simp [cat_rf]) (by first | exact Nat.le_of_ble_eq_true rfl | simp [cat_rf]) (by first | exact Nat.le_of_ble_eq_true rfl | simp [cat_rf]) (Nat.zero_le _) (Nat.zero_le _) rfl rfl q4 (okX16_made hb) ?_
      rintro o σ11 ⟨y12, rfl, hb⟩
      refine ⟨_, rfl, ?_⟩
      refine g_goto (tgt := 50) C dX16_close_42 (by decide) ?_
      exact g_ireturn C hΓ (Nat.zero_le _) (Nat.zero_le _) dX16_close_50 ⟨_, rfl, hb⟩
  ·
    replace hb := hb.2 (c)
    refine g_aload_n (some v0) C dX16_close_13 0 rfl ?_
    refine g_iconst (v := 1) C dX16_close_14 (by decide) ?_
    obtain ⟨q13, hb⟩ := hb
    refine g_invV (ci := 16) [.int 1] [] zy_X16_refused wd_1005 wd_1007 wd_38 ⟨_, _, rfl⟩ (by decide) C dX16_close_15 (by first | exact Nat.le_of_ble_eq_true rfl | simp [cat_rf]) (by first | exact Nat.le_of_ble_eq_true rfl | simp [cat_rf]) (by first | exact Nat.le_of_ble_eq_true rfl | simp [cat_rf]) (Nat.zero_le _) (Nat.zero_le _) rfl rfl q13 (okX16_refused hb) ?_
    rintro o σ14 ⟨y15, rfl, hb⟩
    refine ⟨_, rfl, ?_⟩
    exact g_ireturn C hΓ (Nat.zero_le _) (Nat.zero_le _) dX16_close_18 ⟨_, rfl, hb⟩
theorem okX16_close {v0 : Nat} {v1 : Int32} {σ : St} {Q : Int32 → St → Prop} (hb : wX16_close v0 v1 σ Q) : hM yX16_close cX16_close 2 ((Option.some FieldType.int)) 2 54 0 0 [.ref v0, .int v1] σ (oI Q) :=
  hM_of (by decide) (Nat.le_of_ble_eq_true rfl) (fun Γ hΓ C => kwX16_close_0 C hΓ _ _ _ hb)
def wX16_most_21 (Q : Int32 → St → Prop) (v0 : Nat) (σ : St) : Prop :=
  zK σ v0 = 17 ∧ wX16_refused v0 1 σ (fun y3 σ2 => Q y3 σ2)
def wX16_most_0 (Q : Int32 → St → Prop) (v0 : Nat) (v1 : Int32) (v2 : Int32) (σ : St) : Prop :=
  zK σ v0 = 17 ∧ wX16_isQuestion v0 v1 (uFi σ 1024 v0 0) (fun y3 σ2 => ((y3 = 0 → wX16_most_21 Q v0 σ2) ∧ (¬ y3 = 0 → zK σ2 v0 = 17 ∧ wX16_isQuestion v0 v2 σ2 (fun y6 σ5 => ((¬ y6 = 0 → zK σ5 v0 = 17 ∧ ∃ a8 : Nat, zFr σ5 1042 v0 = some a8 ∧ zK σ5 a8 = 20 ∧ vp_in v1 (zL σ5 a8) ∧ vp_in v2 (zL σ5 a8) ∧ ((¬ (zAi σ5 a8 (ix v1)) = (zAi σ5 a8 (ix v2)) → wX16_refused v0 3 σ5 (fun y14 σ13 => Q y14 σ13)) ∧ ((zAi σ5 a8 (ix v1)) = (zAi σ5 a8 (ix v2)) → wX16_made v0 7 v1 v2 (zAi σ5 a8 (ix v1)) 0 0 0 0 σ5 (fun y16 σ15 => Q y16 σ15)))) ∧ (y6 = 0 → wX16_most_21 Q v0 σ5))))))
def wX16_most (v0 : Nat) (v1 : Int32) (v2 : Int32) (σ : St) (Q : Int32 → St → Prop) : Prop := wX16_most_0 Q v0 v1 v2 σ
set_option maxRecDepth 20000 in
theorem kwX16_most_21 {Γ : hCT} (C : hC Γ RX16 cX16_most ((Option.some FieldType.int)) "most" 2 54) {Q : Int32 → St → Prop} (hΓ : Γ.2.2.2.2.2.2.2.2.2.2.2 = (3, 0, 0, oI Q)) (v0 : Nat) (σ : St) (hb : wX16_most_21 Q v0 σ) : hW Γ 0 0 21 [(0, .ref v0)] [] σ := by
  unfold wX16_most_21 at hb
  refine g_aload_n (some v0) C dX16_most_21 0 rfl ?_
  refine g_iconst (v := 1) C dX16_most_22 (by decide) ?_
  obtain ⟨q1, hb⟩ := hb
  refine g_invV (ci := 16) [.int 1] [] zy_X16_refused wd_1005 wd_1007 wd_38 ⟨_, _, rfl⟩ (by decide) C dX16_most_23 (by first | exact Nat.le_of_ble_eq_true rfl | simp [cat_rf]) (by first | exact Nat.le_of_ble_eq_true rfl | simp [cat_rf]) (by first | exact Nat.le_of_ble_eq_true rfl | simp [cat_rf]) (Nat.zero_le _) (Nat.zero_le _) rfl rfl q1 (okX16_refused hb) ?_
  rintro o σ2 ⟨y3, rfl, hb⟩
  refine ⟨_, rfl, ?_⟩
  exact g_ireturn C hΓ (Nat.zero_le _) (Nat.zero_le _) dX16_most_26 ⟨_, rfl, hb⟩
set_option maxRecDepth 20000 in
theorem kwX16_most_0 {Γ : hCT} (C : hC Γ RX16 cX16_most ((Option.some FieldType.int)) "most" 2 54) {Q : Int32 → St → Prop} (hΓ : Γ.2.2.2.2.2.2.2.2.2.2.2 = (3, 0, 0, oI Q)) (v0 : Nat) (v1 : Int32) (v2 : Int32) (σ : St) (hb : wX16_most_0 Q v0 v1 v2 σ) : hW Γ 0 0 0 [(0, .ref v0), (1, .int v1), (2, .int v2)] [] σ := by
  unfold wX16_most_0 at hb
  refine g_aload_n (some v0) C dX16_most_0 0 rfl ?_
  refine g_iconst (v := 0) C dX16_most_1 (by decide) ?_
  obtain ⟨q1, hb⟩ := hb
  refine g_putI C fl_RX16_1 dX16_most_2 q1 rfl rfl rfl rfl ?_
  refine g_aload_n (some v0) C dX16_most_5 0 rfl ?_
  refine g_iload_n C dX16_most_6 1 rfl ?_
  refine g_invV (ci := 16) [.int v1] [] zy_X16_isQuestion wd_1072 wd_1074 wd_45 ⟨_, _, rfl⟩ (by decide) C dX16_most_7 (by first | exact Nat.le_of_ble_eq_true rfl | simp [cat_rf]) (by first | exact Nat.le_of_ble_eq_true rfl | simp [cat_rf]) (by first | exact Nat.le_of_ble_eq_true rfl | simp [cat_rf]) (Nat.zero_le _) (Nat.zero_le _) rfl rfl (by rw [zK_uFi]; exact q1) (okX16_isQuestion hb) ?_
  rintro o σ2 ⟨y3, rfl, hb⟩
  refine ⟨_, rfl, ?_⟩
  refine g_if_eq (tgt := 21) C dX16_most_10 (by decide) (fun c => ?_) (fun c => ?_)
  ·
    replace hb := hb.1 (c)
    refine g_sub (lv' := [(0, .ref v0)]) [0] rfl ?_
    exact kwX16_most_21 C hΓ  _ _ hb
  ·
    replace hb := hb.2 (c)
    refine g_aload_n (some v0) C dX16_most_13 0 rfl ?_
    refine g_iload_n C dX16_most_14 2 rfl ?_
    obtain ⟨q4, hb⟩ := hb
    refine g_invV (ci := 16) [.int v2] [] zy_X16_isQuestion wd_1072 wd_1074 wd_45 ⟨_, _, rfl⟩ (by decide) C dX16_most_15 (by first | exact Nat.le_of_ble_eq_true rfl | simp [cat_rf]) (by first | exact Nat.le_of_ble_eq_true rfl | simp [cat_rf]) (by first | exact Nat.le_of_ble_eq_true rfl | simp [cat_rf]) (Nat.zero_le _) (Nat.zero_le _) rfl rfl q4 (okX16_isQuestion hb) ?_
    rintro o σ5 ⟨y6, rfl, hb⟩
    refine ⟨_, rfl, ?_⟩
    refine g_if_ne (tgt := 27) C dX16_most_18 (by decide) (fun c => ?_) (fun c => ?_)
    ·
      replace hb := hb.1 (c)
      refine g_aload_n (some v0) C dX16_most_27 0 rfl ?_
      obtain ⟨q7, hb⟩ := hb
      obtain ⟨a8, q9, hb⟩ := hb
      refine g_getR (some a8) C fl_RX16_146 dX16_most_28 q7 rfl rfl q9 ?_
      refine g_iload_n C dX16_most_31 1 rfl ?_
      obtain ⟨q10, hb⟩ := hb
      obtain ⟨q11, hb⟩ := hb
      refine g_ialdx (zAi σ5 a8 (ix v1)) C dX16_most_32 q10 q11 rfl ?_
      refine g_aload_n (some v0) C dX16_most_33 0 rfl ?_
      refine g_getR (some a8) C fl_RX16_146 dX16_most_34 q7 rfl rfl q9 ?_
      refine g_iload_n C dX16_most_37 2 rfl ?_
      obtain ⟨q12, hb⟩ := hb
      refine g_ialdx (zAi σ5 a8 (ix v2)) C dX16_most_38 q10 q12 rfl ?_
      refine g_icmp_ne (tgt := 63) C dX16_most_39 (by decide) (fun c => ?_) (fun c => ?_)
      ·
        replace hb := hb.1 (c)
        refine g_aload_n (some v0) C dX16_most_63 0 rfl ?_
        refine g_iconst (v := 3) C dX16_most_64 (by decide) ?_
        refine g_invV (ci := 16) [.int 3] [] zy_X16_refused wd_1005 wd_1007 wd_38 ⟨_, _, rfl⟩ (by decide) C dX16_most_65 (by first | exact Nat.le_of_ble_eq_true rfl | simp [cat_rf]) (by first | exact Nat.le_of_ble_eq_true rfl | simp [cat_rf]) (by first | exact Nat.le_of_ble_eq_true rfl | simp [cat_rf]) (Nat.zero_le _) (Nat.zero_le _) rfl rfl q7 (okX16_refused hb) ?_
        rintro o σ13 ⟨y14, rfl, hb⟩
        refine ⟨_, rfl, ?_⟩
        exact g_ireturn C hΓ (Nat.zero_le _) (Nat.zero_le _) dX16_most_68 ⟨_, rfl, hb⟩
      ·
        replace hb := hb.2 (c)
        refine g_aload_n (some v0) C dX16_most_42 0 rfl ?_
        refine g_bipush (v := 7) C dX16_most_43 (by decide) ?_
        refine g_iload_n C dX16_most_45 1 rfl ?_
        refine g_iload_n C dX16_most_46 2 rfl ?_
        refine g_aload_n (some v0) C dX16_most_47 0 rfl ?_
        refine g_getR (some a8) C fl_RX16_146 dX16_most_48 q7 rfl rfl q9 ?_
        refine g_iload_n C dX16_most_51 1 rfl ?_
        refine g_ialdx (zAi σ5 a8 (ix v1)) C dX16_most_52 q10 q11 rfl ?_
        refine g_iconst (v := 0) C dX16_most_53 (by decide) ?_
        refine g_iconst (v := 0) C dX16_most_54 (by decide) ?_
        refine g_iconst (v := 0) C dX16_most_55 (by decide) ?_
        refine g_iconst (v := 0) C dX16_most_56 (by decide) ?_
        refine g_invV (ci := 16) [.int 7, .int v1, .int v2, .int (zAi σ5 a8 (ix v1)), .int 0, .int 0, .int 0, .int 0] [] zy_X16_made wd_1064 wd_1066 wd_44 ⟨_, _, rfl⟩ (by decide) C dX16_most_57 (by first | exact Nat.le_of_ble_eq_true rfl | simp [cat_rf]) (by first | exact Nat.le_of_ble_eq_true rfl | simp [cat_rf]) (by first | exact Nat.le_of_ble_eq_true rfl | simp [cat_rf]) (Nat.zero_le _) (Nat.zero_le _) rfl rfl q7 (okX16_made hb) ?_
        rintro o σ15 ⟨y16, rfl, hb⟩
        refine ⟨_, rfl, ?_⟩
        refine g_goto (tgt := 68) C dX16_most_60 (by decide) ?_
        exact g_ireturn C hΓ (Nat.zero_le _) (Nat.zero_le _) dX16_most_68 ⟨_, rfl, hb⟩
    ·
      replace hb := hb.2 (c)
      refine g_sub (lv' := [(0, .ref v0)]) [0] rfl ?_
      exact kwX16_most_21 C hΓ  _ _ hb
theorem okX16_most {v0 : Nat} {v1 : Int32} {v2 : Int32} {σ : St} {Q : Int32 → St → Prop} (hb : wX16_most v0 v1 v2 σ Q) : hM yX16_most cX16_most 3 ((Option.some FieldType.int)) 2 54 0 0 [.ref v0, .int v1, .int v2] σ (oI Q) :=
  hM_of (by decide) (Nat.le_of_ble_eq_true rfl) (fun Γ hΓ C => kwX16_most_0 C hΓ _ _ _ _ hb)
def wX16_kind_0 (Q : Int32 → St → Prop) (v0 : Nat) (v1 : Int32) (v2 : Int32) (σ : St) : Prop :=
  zK σ v0 = 17 ∧ wX16_isQuestion v0 v1 (uFi σ 1024 v0 0) (fun y3 σ2 => ((¬ y3 = 0 → ((v2 = 0 → zK σ2 v0 = 17 ∧ ∃ a5 : Nat, zFr σ2 1039 v0 = some a5 ∧ zK σ2 a5 = 20 ∧ vp_in v1 (zL σ2 a5) ∧ Q (zAi σ2 a5 (ix v1)) σ2) ∧ (v2 = 1 → zK σ2 v0 = 17 ∧ ∃ a11 : Nat, zFr σ2 1042 v0 = some a11 ∧ zK σ2 a11 = 20 ∧ vp_in v1 (zL σ2 a11) ∧ Q (zAi σ2 a11 (ix v1)) σ2) ∧ (v2 = 2 → zK σ2 v0 = 17 ∧ ∃ a17 : Nat, zFr σ2 1040 v0 = some a17 ∧ zK σ2 a17 = 20 ∧ vp_in v1 (zL σ2 a17) ∧ Q (zAi σ2 a17 (ix v1)) σ2) ∧ (v2 = 3 → zK σ2 v0 = 17 ∧ ∃ a23 : Nat, zFr σ2 1041 v0 = some a23 ∧ zK σ2 a23 = 20 ∧ vp_in v1 (zL σ2 a23) ∧ Q (zAi σ2 a23 (ix v1)) σ2) ∧ (v2 = 4 → zK σ2 v0 = 17 ∧ ∃ a29 : Nat, zFr σ2 1047 v0 = some a29 ∧ zK σ2 a29 = 23 ∧ vp_in v1 (zL σ2 a29) ∧ (((zAi σ2 a29 (ix v1)) = 0 → Q 0 σ2) ∧ (¬ (zAi σ2 a29 (ix v1)) = 0 → Q 1 σ2))) ∧ (¬ v2 = 0 → ¬ v2 = 1 → ¬ v2 = 2 → ¬ v2 = 3 → ¬ v2 = 4 → Q (-1) σ2))) ∧ (y3 = 0 → Q (-1) σ2)))
def wX16_kind (v0 : Nat) (v1 : Int32) (v2 : Int32) (σ : St) (Q : Int32 → St → Prop) : Prop := wX16_kind_0 Q v0 v1 v2 σ
set_option maxRecDepth 20000 in
theorem kwX16_kind_0 {Γ : hCT} (C : hC Γ RX16 cX16_kind ((Option.some FieldType.int)) "kind" 1 21) {Q : Int32 → St → Prop} (hΓ : Γ.2.2.2.2.2.2.2.2.2.2.2 = (3, 0, 0, oI Q)) (v0 : Nat) (v1 : Int32) (v2 : Int32) (σ : St) (hb : wX16_kind_0 Q v0 v1 v2 σ) : hW Γ 0 0 0 [(0, .ref v0), (1, .int v1), (2, .int v2)] [] σ := by
  unfold wX16_kind_0 at hb
  refine g_aload_n (some v0) C dX16_kind_0 0 rfl ?_
  refine g_iconst (v := 0) C dX16_kind_1 (by decide) ?_
  obtain ⟨q1, hb⟩ := hb
  refine g_putI C fl_RX16_1 dX16_kind_2 q1 rfl rfl rfl rfl ?_
  refine g_aload_n (some v0) C dX16_kind_5 0 rfl ?_
  refine g_iload_n C dX16_kind_6 1 rfl ?_
  refine g_invV (ci := 16) [.int v1] [] zy_X16_isQuestion wd_1072 wd_1074 wd_45 ⟨_, _, rfl⟩ (by decide) C dX16_kind_7 (by first | exact Nat.le_of_ble_eq_true rfl | simp [cat_rf]) (by first | exact Nat.le_of_ble_eq_true rfl | simp [cat_rf]) (by first | exact Nat.le_of_ble_eq_true rfl | simp [cat_rf]) (Nat.zero_le _) (Nat.zero_le _) rfl rfl (by rw [zK_uFi]; exact q1) (okX16_isQuestion hb) ?_
  rintro o σ2 ⟨y3, rfl, hb⟩
  refine ⟨_, rfl, ?_⟩
  refine g_if_ne (tgt := 15) C dX16_kind_10 (by decide) (fun c => ?_) (fun c => ?_)
  ·
    replace hb := hb.1 (c)
    refine g_iload_n C dX16_kind_15 2 rfl ?_
    by_cases c9 : v2 = 0
    ·
      replace hb := hb.1 c9
      refine g_tabIn (tgt := 52) (off := 36) C dX16_kind_16 (by rw [c9]; decide) (by rw [c9]; decide) (by rw [c9]; rfl) (by decide) ?_
      refine g_aload_n (some v0) C dX16_kind_52 0 rfl ?_
      obtain ⟨q4, hb⟩ := hb
      obtain ⟨a5, q6, hb⟩ := hb
      refine g_getR (some a5) C fl_RX16_137 dX16_kind_53 q4 rfl rfl q6 ?_
      refine g_iload_n C dX16_kind_56 1 rfl ?_
      obtain ⟨q7, hb⟩ := hb
      obtain ⟨q8, hb⟩ := hb
      refine g_ialdx (zAi σ2 a5 (ix v1)) C dX16_kind_57 q7 q8 rfl ?_
      exact g_ireturn C hΓ (Nat.zero_le _) (Nat.zero_le _) dX16_kind_58 ⟨_, rfl, hb⟩
    ·
      by_cases c15 : v2 = 1
      ·
        replace hb := hb.2.1 c15
        refine g_tabIn (tgt := 59) (off := 43) C dX16_kind_16 (by rw [c15]; decide) (by rw [c15]; decide) (by rw [c15]; rfl) (by decide) ?_
        refine g_aload_n (some v0) C dX16_kind_59 0 rfl ?_
        obtain ⟨q10, hb⟩ := hb
        obtain ⟨a11, q12, hb⟩ := hb
        refine g_getR (some a11) C fl_RX16_146 dX16_kind_60 q10 rfl rfl q12 ?_
        refine g_iload_n C dX16_kind_63 1 rfl ?_
        obtain ⟨q13, hb⟩ := hb
        obtain ⟨q14, hb⟩ := hb
        refine g_ialdx (zAi σ2 a11 (ix v1)) C dX16_kind_64 q13 q14 rfl ?_
        exact g_ireturn C hΓ (Nat.zero_le _) (Nat.zero_le _) dX16_kind_65 ⟨_, rfl, hb⟩
      ·
        by_cases c21 : v2 = 2
        ·
          replace hb := hb.2.2.1 c21
          refine g_tabIn (tgt := 66) (off := 50) C dX16_kind_16 (by rw [c21]; decide) (by rw [c21]; decide) (by rw [c21]; rfl) (by decide) ?_
          refine g_aload_n (some v0) C dX16_kind_66 0 rfl ?_
          obtain ⟨q16, hb⟩ := hb
          obtain ⟨a17, q18, hb⟩ := hb
          refine g_getR (some a17) C fl_RX16_140 dX16_kind_67 q16 rfl rfl q18 ?_
          refine g_iload_n C dX16_kind_70 1 rfl ?_
          obtain ⟨q19, hb⟩ := hb
          obtain ⟨q20, hb⟩ := hb
          refine g_ialdx (zAi σ2 a17 (ix v1)) C dX16_kind_71 q19 q20 rfl ?_
          exact g_ireturn C hΓ (Nat.zero_le _) (Nat.zero_le _) dX16_kind_72 ⟨_, rfl, hb⟩
        ·
          by_cases c27 : v2 = 3
          ·
            replace hb := hb.2.2.2.1 c27
            refine g_tabIn (tgt := 73) (off := 57) C dX16_kind_16 (by rw [c27]; decide) (by rw [c27]; decide) (by rw [c27]; rfl) (by decide) ?_
            refine g_aload_n (some v0) C dX16_kind_73 0 rfl ?_
            obtain ⟨q22, hb⟩ := hb
            obtain ⟨a23, q24, hb⟩ := hb
            refine g_getR (some a23) C fl_RX16_143 dX16_kind_74 q22 rfl rfl q24 ?_
            refine g_iload_n C dX16_kind_77 1 rfl ?_
            obtain ⟨q25, hb⟩ := hb
            obtain ⟨q26, hb⟩ := hb
            refine g_ialdx (zAi σ2 a23 (ix v1)) C dX16_kind_78 q25 q26 rfl ?_
            exact g_ireturn C hΓ (Nat.zero_le _) (Nat.zero_le _) dX16_kind_79 ⟨_, rfl, hb⟩
          ·
            by_cases c33 : v2 = 4
            ·
              replace hb := hb.2.2.2.2.1 c33
              refine g_tabIn (tgt := 80) (off := 64) C dX16_kind_16 (by rw [c33]; decide) (by rw [c33]; decide) (by rw [c33]; rfl) (by decide) ?_
              refine g_aload_n (some v0) C dX16_kind_80 0 rfl ?_
              obtain ⟨q28, hb⟩ := hb
              obtain ⟨a29, q30, hb⟩ := hb
              refine g_getR (some a29) C fl_RX16_161 dX16_kind_81 q28 rfl rfl q30 ?_
              refine g_iload_n C dX16_kind_84 1 rfl ?_
              obtain ⟨q31, hb⟩ := hb
              obtain ⟨q32, hb⟩ := hb
              refine g_zaldx (zAi σ2 a29 (ix v1)) C dX16_kind_85 q31 q32 rfl ?_
              refine g_if_eq (tgt := 93) C dX16_kind_86 (by decide) (fun c => ?_) (fun c => ?_)
              ·
                replace hb := hb.1 (c)
                refine g_iconst (v := 0) C dX16_kind_93 (by decide) ?_
                exact g_ireturn C hΓ (Nat.zero_le _) (Nat.zero_le _) dX16_kind_94 ⟨_, rfl, hb⟩
              ·
                replace hb := hb.2 (c)
                refine g_iconst (v := 1) C dX16_kind_89 (by decide) ?_
                refine g_goto (tgt := 94) C dX16_kind_90 (by decide) ?_
                exact g_ireturn C hΓ (Nat.zero_le _) (Nat.zero_le _) dX16_kind_94 ⟨_, rfl, hb⟩
            ·
              replace hb := hb.2.2.2.2.2 c9 c15 c21 c27 c33
              have hz : Int32.toInt v2 < 0 ∨ 4 < Int32.toInt v2 := by
                have h_c9 := i32_ne c9
                have h_c15 := i32_ne c15
                have h_c21 := i32_ne c21
                have h_c27 := i32_ne c27
                have h_c33 := i32_ne c33
                rw [show Int32.toInt 0 = 0 from rfl] at h_c9; rw [show Int32.toInt 1 = 1 from rfl] at h_c15; rw [show Int32.toInt 2 = 2 from rfl] at h_c21; rw [show Int32.toInt 3 = 3 from rfl] at h_c27; rw [show Int32.toInt 4 = 4 from rfl] at h_c33
                omega
              refine g_tabOut (tgt := 95) C dX16_kind_16 hz (by decide) ?_
              refine g_iconst (v := (-1)) C dX16_kind_95 (by decide) ?_
              exact g_ireturn C hΓ (Nat.zero_le _) (Nat.zero_le _) dX16_kind_96 ⟨_, rfl, hb⟩
  ·
    replace hb := hb.2 (c)
    refine g_iconst (v := (-1)) C dX16_kind_13 (by decide) ?_
    exact g_ireturn C hΓ (Nat.zero_le _) (Nat.zero_le _) dX16_kind_14 ⟨_, rfl, hb⟩
theorem okX16_kind {v0 : Nat} {v1 : Int32} {v2 : Int32} {σ : St} {Q : Int32 → St → Prop} (hb : wX16_kind v0 v1 v2 σ Q) : hM yX16_kind cX16_kind 3 ((Option.some FieldType.int)) 1 21 0 0 [.ref v0, .int v1, .int v2] σ (oI Q) :=
  hM_of (by decide) (Nat.le_of_ble_eq_true rfl) (fun Γ hΓ C => kwX16_kind_0 C hΓ _ _ _ _ hb)
def wX13_init_0 (Q : St → Prop) (v0 : Nat) (σ : St) : Prop :=
  wE25_init v0 none none 0 0 σ (fun σ1 => Q σ1)
def wX13_init (v0 : Nat) (σ : St) (Q : St → Prop) : Prop := wX13_init_0 Q v0 σ
set_option maxRecDepth 20000 in
theorem kwX13_init_0 {Γ : hCT} (C : hC Γ RX13 cX13_init ((Option.none : Option Jvm.ClassFile.FieldType)) "<init>" 4 84) {Q : St → Prop} (hΓ : Γ.2.2.2.2.2.2.2.2.2.2.2 = (1, 0, 0, oV Q)) (v0 : Nat) (σ : St) (hb : wX13_init_0 Q v0 σ) : hW Γ 0 0 0 [(0, .ref v0)] [] σ := by
  unfold wX13_init_0 at hb
  refine g_aload_n (some v0) C dX13_init_0 0 rfl ?_
  refine g_null C dX13_init_1 ?_
  refine g_null C dX13_init_2 ?_
  refine g_iconst (v := 0) C dX13_init_3 (by decide) ?_
  refine g_iconst (v := 0) C dX13_init_4 (by decide) ?_
  refine g_invI [va_rf none, va_rf none, .int 0, .int 0] [] zy_E25_init wd_1156 wd_1157 rfl C dX13_init_5 (by first | exact Nat.le_of_ble_eq_true rfl | simp [cat_rf]) (by first | exact Nat.le_of_ble_eq_true rfl | simp [cat_rf]) (by first | exact Nat.le_of_ble_eq_true rfl | simp [cat_rf]) (Nat.zero_le _) (Nat.zero_le _) rfl rfl  (okE25_init hb) ?_
  rintro o σ1 ⟨rfl, hb⟩
  refine ⟨_, rfl, ?_⟩
  exact g_vreturn C hΓ (Nat.zero_le _) (Nat.zero_le _) dX13_init_8 ⟨rfl, hb⟩
theorem okX13_init {v0 : Nat} {σ : St} {Q : St → Prop} (hb : wX13_init v0 σ Q) : hM yX13_init cX13_init 1 ((Option.none : Option Jvm.ClassFile.FieldType)) 4 84 0 0 [.ref v0] σ (oV Q) :=
  hM_of (by decide) (Nat.le_of_ble_eq_true rfl) (fun Γ hΓ C => kwX13_init_0 C hΓ _ _ hb)
def wX14_init_0 (mc ms : Nat) (Q : St → Prop) (k n : Nat) (v0 : Nat) (σ : St) : Prop :=
  k + 1 ≤ mc ∧ n + 192 ≤ ms ∧ ∀ b3 : Nat, zK σ b3 = 0 → zK (nA σ b3 20 192) v0 = 15 ∧ k + 1 + 1 ≤ mc ∧ n + 192 + 32 ≤ ms ∧ ∀ b8 : Nat, zK (nA σ b3 20 192) b8 = 0 → zK (nA (uFr (nA σ b3 20 192) 898 v0 (some b3)) b8 20 32) v0 = 15 ∧ k + 1 + 1 + 1 ≤ mc ∧ n + 192 + 32 + 32 ≤ ms ∧ ∀ b13 : Nat, zK (nA (uFr (nA σ b3 20 192) 898 v0 (some b3)) b8 20 32) b13 = 0 → zK (nA (uFr (nA (uFr (nA σ b3 20 192) 898 v0 (some b3)) b8 20 32) 899 v0 (some b8)) b13 20 32) v0 = 15 ∧ k + 1 + 1 + 1 + 1 ≤ mc ∧ n + 192 + 32 + 32 + 512 ≤ ms ∧ ∀ b18 : Nat, zK (nA (uFr (nA (uFr (nA σ b3 20 192) 898 v0 (some b3)) b8 20 32) 899 v0 (some b8)) b13 20 32) b18 = 0 → zK (nA (uFr (nA (uFr (nA (uFr (nA σ b3 20 192) 898 v0 (some b3)) b8 20 32) 899 v0 (some b8)) b13 20 32) 900 v0 (some b13)) b18 21 512) v0 = 15 ∧ k + 1 + 1 + 1 + 1 + 1 ≤ mc ∧ n + 192 + 32 + 32 + 512 + 32 ≤ ms ∧ ∀ b23 : Nat, zK (nA (uFr (nA (uFr (nA (uFr (nA σ b3 20 192) 898 v0 (some b3)) b8 20 32) 899 v0 (some b8)) b13 20 32) 900 v0 (some b13)) b18 21 512) b23 = 0 → zK (nA (uFr (nA (uFr (nA (uFr (nA (uFr (nA σ b3 20 192) 898 v0 (some b3)) b8 20 32) 899 v0 (some b8)) b13 20 32) 900 v0 (some b13)) b18 21 512) 901 v0 (some b18)) b23 21 32) v0 = 15 ∧ k + 1 + 1 + 1 + 1 + 1 + 1 ≤ mc ∧ n + 192 + 32 + 32 + 512 + 32 + 32 ≤ ms ∧ ∀ b28 : Nat, zK (nA (uFr (nA (uFr (nA (uFr (nA (uFr (nA σ b3 20 192) 898 v0 (some b3)) b8 20 32) 899 v0 (some b8)) b13 20 32) 900 v0 (some b13)) b18 21 512) 901 v0 (some b18)) b23 21 32) b28 = 0 → zK (nA (uFr (nA (uFr (nA (uFr (nA (uFr (nA (uFr (nA σ b3 20 192) 898 v0 (some b3)) b8 20 32) 899 v0 (some b8)) b13 20 32) 900 v0 (some b13)) b18 21 512) 901 v0 (some b18)) b23 21 32) 902 v0 (some b23)) b28 22 32) v0 = 15 ∧ k + 1 + 1 + 1 + 1 + 1 + 1 ≤ mc ∧ n + 192 + 32 + 32 + 512 + 32 + 32 ≤ ms ∧ Q (uFr (nA (uFr (nA (uFr (nA (uFr (nA (uFr (nA (uFr (nA σ b3 20 192) 898 v0 (some b3)) b8 20 32) 899 v0 (some b8)) b13 20 32) 900 v0 (some b13)) b18 21 512) 901 v0 (some b18)) b23 21 32) 902 v0 (some b23)) b28 22 32) 903 v0 (some b28))
def wX14_init (mc ms : Nat) (v0 : Nat) (σ : St) (Q : St → Prop) : Prop := wX14_init_0 mc ms Q 0 0 v0 σ
set_option maxRecDepth 20000 in
theorem kwX14_init_0 {Γ : hCT} {mc ms : Nat} (C : hC Γ RX14 cX14_init ((Option.none : Option Jvm.ClassFile.FieldType)) "<init>" 1 12) {Q : St → Prop} (hΓ : Γ.2.2.2.2.2.2.2.2.2.2.2 = (1, mc, ms, oV Q)) (k n : Nat) (v0 : Nat) (σ : St) (hb : wX14_init_0 mc ms Q k n v0 σ) : hW Γ k n 0 [(0, .ref v0)] [] σ := by
  unfold wX14_init_0 at hb
  refine g_aload_n (some v0) C dX14_init_0 0 rfl ?_
  refine g_objInit wd_1186 wd_101 wd_102 C dX14_init_1 (by first | exact Nat.le_of_ble_eq_true rfl | simp [cat_rf]) (by first | exact Nat.le_of_ble_eq_true rfl | simp [cat_rf]) ?_
  refine g_aload_n (some v0) C dX14_init_4 0 rfl ?_
  refine g_sipush (v := 192) C dX14_init_5 (by decide) ?_
  obtain ⟨q1, q2, hb⟩ := hb
  refine g_newa (N := 192) at_int C dX14_init_8 (by decide) (by decide) (by decide) (by rw [hmc_of hΓ]; exact q1) (by rw [hms_of hΓ]; exact q2) (fun b3 q4 => ?_)
  replace hb := hb b3 q4
  obtain ⟨q5, hb⟩ := hb
  refine g_putFR (some b3) C fo_RX14_9 dX14_init_10 q5 rfl rfl rfl rfl ?_
  refine g_aload_n (some v0) C dX14_init_13 0 rfl ?_
  refine g_bipush (v := 32) C dX14_init_14 (by decide) ?_
  obtain ⟨q6, q7, hb⟩ := hb
  refine g_newa (N := 32) at_int C dX14_init_16 (by decide) (by decide) (by decide) (by rw [hmc_of hΓ]; exact q6) (by rw [hms_of hΓ]; exact q7) (fun b8 q9 => ?_)
  replace hb := hb b8 (by rw [zK_uFr] at q9; exact q9)
  obtain ⟨q10, hb⟩ := hb
  refine g_putFR (some b8) C fo_RX14_15 dX14_init_18 q10 rfl rfl rfl rfl ?_
  refine g_aload_n (some v0) C dX14_init_21 0 rfl ?_
  refine g_bipush (v := 32) C dX14_init_22 (by decide) ?_
  obtain ⟨q11, q12, hb⟩ := hb
  refine g_newa (N := 32) at_int C dX14_init_24 (by decide) (by decide) (by decide) (by rw [hmc_of hΓ]; exact q11) (by rw [hms_of hΓ]; exact q12) (fun b13 q14 => ?_)
  replace hb := hb b13 (by rw [zK_uFr] at q14; exact q14)
  obtain ⟨q15, hb⟩ := hb
  refine g_putFR (some b13) C fo_RX14_18 dX14_init_26 q15 rfl rfl rfl rfl ?_
  refine g_aload_n (some v0) C dX14_init_29 0 rfl ?_
  refine g_sipush (v := 512) C dX14_init_30 (by decide) ?_
  obtain ⟨q16, q17, hb⟩ := hb
  refine g_newa (N := 512) at_long C dX14_init_33 (by decide) (by decide) (by decide) (by rw [hmc_of hΓ]; exact q16) (by rw [hms_of hΓ]; exact q17) (fun b18 q19 => ?_)
  replace hb := hb b18 (by rw [zK_uFr] at q19; exact q19)
  obtain ⟨q20, hb⟩ := hb
  refine g_putFR (some b18) C fo_RX14_21 dX14_init_35 q20 rfl rfl rfl rfl ?_
  refine g_aload_n (some v0) C dX14_init_38 0 rfl ?_
  refine g_bipush (v := 32) C dX14_init_39 (by decide) ?_
  obtain ⟨q21, q22, hb⟩ := hb
  refine g_newa (N := 32) at_long C dX14_init_41 (by decide) (by decide) (by decide) (by rw [hmc_of hΓ]; exact q21) (by rw [hms_of hΓ]; exact q22) (fun b23 q24 => ?_)
  replace hb := hb b23 (by rw [zK_uFr] at q24; exact q24)
  obtain ⟨q25, hb⟩ := hb
  refine g_putFR (some b23) C fo_RX14_25 dX14_init_43 q25 rfl rfl rfl rfl ?_
  refine g_aload_n (some v0) C dX14_init_46 0 rfl ?_
  refine g_bipush (v := 32) C dX14_init_47 (by decide) ?_
  obtain ⟨q26, q27, hb⟩ := hb
  refine g_newa (N := 32) at_double C dX14_init_49 (by decide) (by decide) (by decide) (by rw [hmc_of hΓ]; exact q26) (by rw [hms_of hΓ]; exact q27) (fun b28 q29 => ?_)
  replace hb := hb b28 (by rw [zK_uFr] at q29; exact q29)
  obtain ⟨q30, hb⟩ := hb
  refine g_putFR (some b28) C fo_RX14_28 dX14_init_51 q30 rfl rfl rfl rfl ?_
  obtain ⟨q31, q32, hb⟩ := hb
  exact g_vreturn C hΓ q31 q32 dX14_init_54 ⟨rfl, hb⟩
theorem okX14_init {mc ms : Nat} {v0 : Nat} {σ : St} {Q : St → Prop} (hb : wX14_init mc ms v0 σ Q) : hM yX14_init cX14_init 1 ((Option.none : Option Jvm.ClassFile.FieldType)) 1 12 mc ms [.ref v0] σ (oV Q) :=
  hM_of (by decide) (Nat.le_of_ble_eq_true rfl) (fun Γ hΓ C => kwX14_init_0 (mc := mc) (ms := ms) C hΓ 0 0 _ _ hb)
def wX15_init_0 (mc ms : Nat) (Q : St → Prop) (k n : Nat) (v0 : Nat) (σ : St) : Prop :=
  k + 1 ≤ mc ∧ n + 6 ≤ ms ∧ ∀ b3 : Nat, zK σ b3 = 0 → zK (nA σ b3 20 6) v0 = 16 ∧ k + 1 + 1 ≤ mc ∧ n + 6 + 16 ≤ ms ∧ ∀ b8 : Nat, zK (nA σ b3 20 6) b8 = 0 → zK (nA (uFr (nA σ b3 20 6) 963 v0 (some b3)) b8 21 16) v0 = 16 ∧ k + 1 + 1 ≤ mc ∧ n + 6 + 16 ≤ ms ∧ Q (uFr (nA (uFr (nA σ b3 20 6) 963 v0 (some b3)) b8 21 16) 964 v0 (some b8))
def wX15_init (mc ms : Nat) (v0 : Nat) (σ : St) (Q : St → Prop) : Prop := wX15_init_0 mc ms Q 0 0 v0 σ
set_option maxRecDepth 20000 in
theorem kwX15_init_0 {Γ : hCT} {mc ms : Nat} (C : hC Γ RX15 cX15_init ((Option.none : Option Jvm.ClassFile.FieldType)) "<init>" 1 12) {Q : St → Prop} (hΓ : Γ.2.2.2.2.2.2.2.2.2.2.2 = (1, mc, ms, oV Q)) (k n : Nat) (v0 : Nat) (σ : St) (hb : wX15_init_0 mc ms Q k n v0 σ) : hW Γ k n 0 [(0, .ref v0)] [] σ := by
  unfold wX15_init_0 at hb
  refine g_aload_n (some v0) C dX15_init_0 0 rfl ?_
  refine g_objInit wd_1232 wd_101 wd_102 C dX15_init_1 (by first | exact Nat.le_of_ble_eq_true rfl | simp [cat_rf]) (by first | exact Nat.le_of_ble_eq_true rfl | simp [cat_rf]) ?_
  refine g_aload_n (some v0) C dX15_init_4 0 rfl ?_
  refine g_bipush (v := 6) C dX15_init_5 (by decide) ?_
  obtain ⟨q1, q2, hb⟩ := hb
  refine g_newa (N := 6) at_int C dX15_init_7 (by decide) (by decide) (by decide) (by rw [hmc_of hΓ]; exact q1) (by rw [hms_of hΓ]; exact q2) (fun b3 q4 => ?_)
  replace hb := hb b3 q4
  obtain ⟨q5, hb⟩ := hb
  refine g_putFR (some b3) C fo_RX15_9 dX15_init_9 q5 rfl rfl rfl rfl ?_
  refine g_aload_n (some v0) C dX15_init_12 0 rfl ?_
  refine g_bipush (v := 16) C dX15_init_13 (by decide) ?_
  obtain ⟨q6, q7, hb⟩ := hb
  refine g_newa (N := 16) at_long C dX15_init_15 (by decide) (by decide) (by decide) (by rw [hmc_of hΓ]; exact q6) (by rw [hms_of hΓ]; exact q7) (fun b8 q9 => ?_)
  replace hb := hb b8 (by rw [zK_uFr] at q9; exact q9)
  obtain ⟨q10, hb⟩ := hb
  refine g_putFR (some b8) C fo_RX15_15 dX15_init_17 q10 rfl rfl rfl rfl ?_
  obtain ⟨q11, q12, hb⟩ := hb
  exact g_vreturn C hΓ q11 q12 dX15_init_20 ⟨rfl, hb⟩
theorem okX15_init {mc ms : Nat} {v0 : Nat} {σ : St} {Q : St → Prop} (hb : wX15_init mc ms v0 σ Q) : hM yX15_init cX15_init 1 ((Option.none : Option Jvm.ClassFile.FieldType)) 1 12 mc ms [.ref v0] σ (oV Q) :=
  hM_of (by decide) (Nat.le_of_ble_eq_true rfl) (fun Γ hΓ C => kwX15_init_0 (mc := mc) (ms := ms) C hΓ 0 0 _ _ hb)
def wX12_init_0 (mc ms : Nat) (Q : St → Prop) (k n : Nat) (v0 : Nat) (σ : St) : Prop :=
  k + 1 ≤ mc ∧ n + 5 ≤ ms ∧ ∀ b3 : Nat, zK σ b3 = 0 → ∃ m5 m6 : Nat, k + 1 + m5 ≤ mc ∧ n + 5 + m6 ≤ ms ∧ wX15_init m5 m6 b3 (nO σ b3 16) (fun σ9 => zK σ9 v0 = 13 ∧ k + 1 + m5 ≤ mc ∧ n + 5 + m6 ≤ ms ∧ Q (uFr σ9 772 v0 (some b3)))
def wX12_init (mc ms : Nat) (v0 : Nat) (σ : St) (Q : St → Prop) : Prop := wX12_init_0 mc ms Q 0 0 v0 σ
set_option maxRecDepth 20000 in
theorem kwX12_init_0 {Γ : hCT} {mc ms : Nat} (C : hC Γ RX12 cX12_init ((Option.none : Option Jvm.ClassFile.FieldType)) "<init>" 2 32) {Q : St → Prop} (hΓ : Γ.2.2.2.2.2.2.2.2.2.2.2 = (1, mc, ms, oV Q)) (k n : Nat) (v0 : Nat) (σ : St) (hb : wX12_init_0 mc ms Q k n v0 σ) : hW Γ k n 0 [(0, .ref v0)] [] σ := by
  unfold wX12_init_0 at hb
  refine g_aload_n (some v0) C dX12_init_0 0 rfl ?_
  refine g_objInit wd_1226 wd_101 wd_102 C dX12_init_1 (by first | exact Nat.le_of_ble_eq_true rfl | simp [cat_rf]) (by first | exact Nat.le_of_ble_eq_true rfl | simp [cat_rf]) ?_
  refine g_aload_n (some v0) C dX12_init_4 0 rfl ?_
  obtain ⟨q1, q2, hb⟩ := hb
  refine g_new zc_15 zd_15 ⟨_, rfl⟩ wd_1227 wd_1228 wd_85 C dX12_init_5 (by rw [hmc_of hΓ]; exact q1) (by rw [hms_of hΓ]; exact q2) (fun b3 q4 => ?_)
  replace hb := hb b3 q4
  refine g_dup C dX12_init_8 rfl ?_
  obtain ⟨m5, m6, q7, q8, hb⟩ := hb
  refine g_invIN [] [.ref b3, .ref v0] zy_X15_init wn_1229 wd_1230 rfl C dX12_init_9 (by first | exact Nat.le_of_ble_eq_true rfl | simp [cat_rf]) (by first | exact Nat.le_of_ble_eq_true rfl | simp [cat_rf]) (by first | exact Nat.le_of_ble_eq_true rfl | simp [cat_rf]) (by rw [hmc_of hΓ]; exact q7) (by rw [hms_of hΓ]; exact q8) rfl rfl  (okX15_init hb) ?_
  rintro o σ9 ⟨rfl, hb⟩
  refine ⟨_, rfl, ?_⟩
  obtain ⟨q10, hb⟩ := hb
  refine g_putFR (some b3) C fo_RX12_10 dX12_init_12 q10 rfl rfl rfl rfl ?_
  obtain ⟨q11, q12, hb⟩ := hb
  exact g_vreturn C hΓ q11 q12 dX12_init_15 ⟨rfl, hb⟩
theorem okX12_init {mc ms : Nat} {v0 : Nat} {σ : St} {Q : St → Prop} (hb : wX12_init mc ms v0 σ Q) : hM yX12_init cX12_init 1 ((Option.none : Option Jvm.ClassFile.FieldType)) 2 32 mc ms [.ref v0] σ (oV Q) :=
  hM_of (by decide) (Nat.le_of_ble_eq_true rfl) (fun Γ hΓ C => kwX12_init_0 (mc := mc) (ms := ms) C hΓ 0 0 _ _ hb)
def wX16_init_322 (mc ms : Nat) (Q : St → Prop) (r322 : Nat → Nat → Nat → Int32 → St → Prop) (k n : Nat) (v0 : Nat) (v1 : Int32) (σ : St) : Prop :=
  (((20 : Int32) ≤ v1 → k ≤ mc ∧ n ≤ ms ∧ Q σ) ∧ (¬ (20 : Int32) ≤ v1 → zK σ v0 = 17 ∧ ∃ a4 : Nat, zFr σ 1052 v0 = some a4 ∧ k + 1 ≤ mc ∧ n + 5 ≤ ms ∧ ∀ b8 : Nat, zK σ b8 = 0 → ∃ m10 m11 : Nat, k + 1 + m10 ≤ mc ∧ n + 5 + m11 ≤ ms ∧ wX15_init m10 m11 b8 (nO σ b8 16) (fun σ14 => zK σ14 a4 = 31 ∧ vp_in v1 (zL σ14 a4) ∧ zK σ14 b8 = 16 ∧ r322 (k + 1 + m10) (n + 5 + m11) v0 (v1 + 1) (uAr σ14 a4 (ix v1) (some b8)))))
def lX16_init_322 (mc ms : Nat) (Q : St → Prop) : Nat → Nat → Nat → Nat → Int32 → St → Prop
  | 0, _, _, _, _, _ => False
  | f + 1, k, n, v0, v1, σ => wX16_init_322 mc ms Q (lX16_init_322 mc ms Q f) k n v0 v1 σ
def wX16_init_295 (mc ms : Nat) (Q : St → Prop) (r295 : Nat → Nat → Nat → Int32 → St → Prop) (k n : Nat) (v0 : Nat) (v1 : Int32) (σ : St) : Prop :=
  (((40 : Int32) ≤ v1 → ∃ f, lX16_init_322 mc ms Q f k n v0 0 σ) ∧ (¬ (40 : Int32) ≤ v1 → zK σ v0 = 17 ∧ ∃ a3 : Nat, zFr σ 1049 v0 = some a3 ∧ k + 1 ≤ mc ∧ n + 8 ≤ ms ∧ ∀ b7 : Nat, zK σ b7 = 0 → ∃ m9 m10 : Nat, k + 1 + m9 ≤ mc ∧ n + 8 + m10 ≤ ms ∧ wX14_init m9 m10 b7 (nO σ b7 15) (fun σ13 => zK σ13 a3 = 30 ∧ vp_in v1 (zL σ13 a3) ∧ zK σ13 b7 = 15 ∧ r295 (k + 1 + m9) (n + 8 + m10) v0 (v1 + 1) (uAr σ13 a3 (ix v1) (some b7)))))
def lX16_init_295 (mc ms : Nat) (Q : St → Prop) : Nat → Nat → Nat → Nat → Int32 → St → Prop
  | 0, _, _, _, _, _ => False
  | f + 1, k, n, v0, v1, σ => wX16_init_295 mc ms Q (lX16_init_295 mc ms Q f) k n v0 v1 σ
def wX16_init_268 (mc ms : Nat) (Q : St → Prop) (r268 : Nat → Nat → Nat → Int32 → St → Prop) (k n : Nat) (v0 : Nat) (v1 : Int32) (σ : St) : Prop :=
  (((100 : Int32) ≤ v1 → ∃ f, lX16_init_295 mc ms Q f k n v0 0 σ) ∧ (¬ (100 : Int32) ≤ v1 → zK σ v0 = 17 ∧ ∃ a3 : Nat, zFr σ 1026 v0 = some a3 ∧ k + 1 ≤ mc ∧ n + 5 ≤ ms ∧ ∀ b7 : Nat, zK σ b7 = 0 → ∃ m9 m10 : Nat, k + 1 + m9 ≤ mc ∧ n + 5 + m10 ≤ ms ∧ wX12_init m9 m10 b7 (nO σ b7 13) (fun σ13 => zK σ13 a3 = 29 ∧ vp_in v1 (zL σ13 a3) ∧ zK σ13 b7 = 13 ∧ r268 (k + 1 + m9) (n + 5 + m10) v0 (v1 + 1) (uAr σ13 a3 (ix v1) (some b7)))))
def lX16_init_268 (mc ms : Nat) (Q : St → Prop) : Nat → Nat → Nat → Nat → Int32 → St → Prop
  | 0, _, _, _, _, _ => False
  | f + 1, k, n, v0, v1, σ => wX16_init_268 mc ms Q (lX16_init_268 mc ms Q f) k n v0 v1 σ
def wX16_init_0 (mc ms : Nat) (Q : St → Prop) (k n : Nat) (v0 : Nat) (σ : St) : Prop :=
  k + 1 ≤ mc ∧ n + 100 ≤ ms ∧ ∀ b3 : Nat, zK σ b3 = 0 → zK (nA σ b3 29 100) v0 = 17 ∧ k + 1 + 1 ≤ mc ∧ n + 100 + 10 ≤ ms ∧ ∀ b8 : Nat, zK (nA σ b3 29 100) b8 = 0 → zK (nA (uFr (nA σ b3 29 100) 1026 v0 (some b3)) b8 20 10) v0 = 17 ∧ k + 1 + 1 + 1 ≤ mc ∧ n + 100 + 10 + 60 ≤ ms ∧ ∀ b13 : Nat, zK (nA (uFr (nA σ b3 29 100) 1026 v0 (some b3)) b8 20 10) b13 = 0 → zK (nA (uFr (nA (uFr (nA σ b3 29 100) 1026 v0 (some b3)) b8 20 10) 1031 v0 (some b8)) b13 20 60) v0 = 17 ∧ k + 1 + 1 + 1 + 1 ≤ mc ∧ n + 100 + 10 + 60 + 240 ≤ ms ∧ ∀ b18 : Nat, zK (nA (uFr (nA (uFr (nA σ b3 29 100) 1026 v0 (some b3)) b8 20 10) 1031 v0 (some b8)) b13 20 60) b18 = 0 → zK (nA (uFr (nA (uFr (nA (uFr (nA σ b3 29 100) 1026 v0 (some b3)) b8 20 10) 1031 v0 (some b8)) b13 20 60) 1032 v0 (some b13)) b18 20 240) v0 = 17 ∧ k + 1 + 1 + 1 + 1 + 1 ≤ mc ∧ n + 100 + 10 + 60 + 240 + 60 ≤ ms ∧ ∀ b23 : Nat, zK (nA (uFr (nA (uFr (nA (uFr (nA σ b3 29 100) 1026 v0 (some b3)) b8 20 10) 1031 v0 (some b8)) b13 20 60) 1032 v0 (some b13)) b18 20 240) b23 = 0 → zK (nA (uFr (nA (uFr (nA (uFr (nA (uFr (nA σ b3 29 100) 1026 v0 (some b3)) b8 20 10) 1031 v0 (some b8)) b13 20 60) 1032 v0 (some b13)) b18 20 240) 1033 v0 (some b18)) b23 20 60) v0 = 17 ∧ k + 1 + 1 + 1 + 1 + 1 + 1 ≤ mc ∧ n + 100 + 10 + 60 + 240 + 60 + 60 ≤ ms ∧ ∀ b28 : Nat, zK (nA (uFr (nA (uFr (nA (uFr (nA (uFr (nA σ b3 29 100) 1026 v0 (some b3)) b8 20 10) 1031 v0 (some b8)) b13 20 60) 1032 v0 (some b13)) b18 20 240) 1033 v0 (some b18)) b23 20 60) b28 = 0 → zK (nA (uFr (nA (uFr (nA (uFr (nA (uFr (nA (uFr (nA σ b3 29 100) 1026 v0 (some b3)) b8 20 10) 1031 v0 (some b8)) b13 20 60) 1032 v0 (some b13)) b18 20 240) 1033 v0 (some b18)) b23 20 60) 1034 v0 (some b23)) b28 20 60) v0 = 17 ∧ k + 1 + 1 + 1 + 1 + 1 + 1 + 1 ≤ mc ∧ n + 100 + 10 + 60 + 240 + 60 + 60 + 60 ≤ ms ∧ ∀ b33 : Nat, zK (nA (uFr (nA (uFr (nA (uFr (nA (uFr (nA (uFr (nA σ b3 29 100) 1026 v0 (some b3)) b8 20 10) 1031 v0 (some b8)) b13 20 60) 1032 v0 (some b13)) b18 20 240) 1033 v0 (some b18)) b23 20 60) 1034 v0 (some b23)) b28 20 60) b33 = 0 → zK (nA (uFr (nA (uFr (nA (uFr (nA (uFr (nA (uFr (nA (uFr (nA σ b3 29 100) 1026 v0 (some b3)) b8 20 10) 1031 v0 (some b8)) b13 20 60) 1032 v0 (some b13)) b18 20 240) 1033 v0 (some b18)) b23 20 60) 1034 v0 (some b23)) b28 20 60) 1035 v0 (some b28)) b33 20 60) v0 = 17 ∧ k + 1 + 1 + 1 + 1 + 1 + 1 + 1 + 1 ≤ mc ∧ n + 100 + 10 + 60 + 240 + 60 + 60 + 60 + 60 ≤ ms ∧ ∀ b38 : Nat, zK (nA (uFr (nA (uFr (nA (uFr (nA (uFr (nA (uFr (nA (uFr (nA σ b3 29 100) 1026 v0 (some b3)) b8 20 10) 1031 v0 (some b8)) b13 20 60) 1032 v0 (some b13)) b18 20 240) 1033 v0 (some b18)) b23 20 60) 1034 v0 (some b23)) b28 20 60) 1035 v0 (some b28)) b33 20 60) b38 = 0 → zK (nA (uFr (nA (uFr (nA (uFr (nA (uFr (nA (uFr (nA (uFr (nA (uFr (nA σ b3 29 100) 1026 v0 (some b3)) b8 20 10) 1031 v0 (some b8)) b13 20 60) 1032 v0 (some b13)) b18 20 240) 1033 v0 (some b18)) b23 20 60) 1034 v0 (some b23)) b28 20 60) 1035 v0 (some b28)) b33 20 60) 1036 v0 (some b33)) b38 22 60) v0 = 17 ∧ k + 1 + 1 + 1 + 1 + 1 + 1 + 1 + 1 + 1 ≤ mc ∧ n + 100 + 10 + 60 + 240 + 60 + 60 + 60 + 60 + 60 ≤ ms ∧ ∀ b43 : Nat, zK (nA (uFr (nA (uFr (nA (uFr (nA (uFr (nA (uFr (nA (uFr (nA (uFr (nA σ b3 29 100) 1026 v0 (some b3)) b8 20 10) 1031 v0 (some b8)) b13 20 60) 1032 v0 (some b13)) b18 20 240) 1033 v0 (some b18)) b23 20 60) 1034 v0 (some b23)) b28 20 60) 1035 v0 (some b28)) b33 20 60) 1036 v0 (some b33)) b38 22 60) b43 = 0 → zK (nA (uFr (nA (uFr (nA (uFr (nA (uFr (nA (uFr (nA (uFr (nA (uFr (nA (uFr (nA σ b3 29 100) 1026 v0 (some b3)) b8 20 10) 1031 v0 (some b8)) b13 20 60) 1032 v0 (some b13)) b18 20 240) 1033 v0 (some b18)) b23 20 60) 1034 v0 (some b23)) b28 20 60) 1035 v0 (some b28)) b33 20 60) 1036 v0 (some b33)) b38 22 60) 1037 v0 (some b38)) b43 23 60) v0 = 17 ∧ k + 1 + 1 + 1 + 1 + 1 + 1 + 1 + 1 + 1 + 1 ≤ mc ∧ n + 100 + 10 + 60 + 240 + 60 + 60 + 60 + 60 + 60 + 40 ≤ ms ∧ ∀ b48 : Nat, zK (nA (uFr (nA (uFr (nA (uFr (nA (uFr (nA (uFr (nA (uFr (nA (uFr (nA (uFr (nA σ b3 29 100) 1026 v0 (some b3)) b8 20 10) 1031 v0 (some b8)) b13 20 60) 1032 v0 (some b13)) b18 20 240) 1033 v0 (some b18)) b23 20 60) 1034 v0 (some b23)) b28 20 60) 1035 v0 (some b28)) b33 20 60) 1036 v0 (some b33)) b38 22 60) 1037 v0 (some b38)) b43 23 60) b48 = 0 → zK (nA (uFr (nA (uFr (nA (uFr (nA (uFr (nA (uFr (nA (uFr (nA (uFr (nA (uFr (nA (uFr (nA σ b3 29 100) 1026 v0 (some b3)) b8 20 10) 1031 v0 (some b8)) b13 20 60) 1032 v0 (some b13)) b18 20 240) 1033 v0 (some b18)) b23 20 60) 1034 v0 (some b23)) b28 20 60) 1035 v0 (some b28)) b33 20 60) 1036 v0 (some b33)) b38 22 60) 1037 v0 (some b38)) b43 23 60) 1038 v0 (some b43)) b48 20 40) v0 = 17 ∧ k + 1 + 1 + 1 + 1 + 1 + 1 + 1 + 1 + 1 + 1 + 1 ≤ mc ∧ n + 100 + 10 + 60 + 240 + 60 + 60 + 60 + 60 + 60 + 40 + 40 ≤ ms ∧ ∀ b53 : Nat, zK (nA (uFr (nA (uFr (nA (uFr (nA (uFr (nA (uFr (nA (uFr (nA (uFr (nA (uFr (nA (uFr (nA σ b3 29 100) 1026 v0 (some b3)) b8 20 10) 1031 v0 (some b8)) b13 20 60) 1032 v0 (some b13)) b18 20 240) 1033 v0 (some b18)) b23 20 60) 1034 v0 (some b23)) b28 20 60) 1035 v0 (some b28)) b33 20 60) 1036 v0 (some b33)) b38 22 60) 1037 v0 (some b38)) b43 23 60) 1038 v0 (some b43)) b48 20 40) b53 = 0 → zK (nA (uFr (nA (uFr (nA (uFr (nA (uFr (nA (uFr (nA (uFr (nA (uFr (nA (uFr (nA (uFr (nA (uFr (nA σ b3 29 100) 1026 v0 (some b3)) b8 20 10) 1031 v0 (some b8)) b13 20 60) 1032 v0 (some b13)) b18 20 240) 1033 v0 (some b18)) b23 20 60) 1034 v0 (some b23)) b28 20 60) 1035 v0 (some b28)) b33 20 60) 1036 v0 (some b33)) b38 22 60) 1037 v0 (some b38)) b43 23 60) 1038 v0 (some b43)) b48 20 40) 1039 v0 (some b48)) b53 20 40) v0 = 17 ∧ k + 1 + 1 + 1 + 1 + 1 + 1 + 1 + 1 + 1 + 1 + 1 + 1 ≤ mc ∧ n + 100 + 10 + 60 + 240 + 60 + 60 + 60 + 60 + 60 + 40 + 40 + 40 ≤ ms ∧ ∀ b58 : Nat, zK (nA (uFr (nA (uFr (nA (uFr (nA (uFr (nA (uFr (nA (uFr (nA (uFr (nA (uFr (nA (uFr (nA (uFr (nA σ b3 29 100) 1026 v0 (some b3)) b8 20 10) 1031 v0 (some b8)) b13 20 60) 1032 v0 (some b13)) b18 20 240) 1033 v0 (some b18)) b23 20 60) 1034 v0 (some b23)) b28 20 60) 1035 v0 (some b28)) b33 20 60) 1036 v0 (some b33)) b38 22 60) 1037 v0 (some b38)) b43 23 60) 1038 v0 (some b43)) b48 20 40) 1039 v0 (some b48)) b53 20 40) b58 = 0 → zK (nA (uFr (nA (uFr (nA (uFr (nA (uFr (nA (uFr (nA (uFr (nA (uFr (nA (uFr (nA (uFr (nA (uFr (nA (uFr (nA σ b3 29 100) 1026 v0 (some b3)) b8 20 10) 1031 v0 (some b8)) b13 20 60) 1032 v0 (some b13)) b18 20 240) 1033 v0 (some b18)) b23 20 60) 1034 v0 (some b23)) b28 20 60) 1035 v0 (some b28)) b33 20 60) 1036 v0 (some b33)) b38 22 60) 1037 v0 (some b38)) b43 23 60) 1038 v0 (some b43)) b48 20 40) 1039 v0 (some b48)) b53 20 40) 1040 v0 (some b53)) b58 20 40) v0 = 17 ∧ k + 1 + 1 + 1 + 1 + 1 + 1 + 1 + 1 + 1 + 1 + 1 + 1 + 1 ≤ mc ∧ n + 100 + 10 + 60 + 240 + 60 + 60 + 60 + 60 + 60 + 40 + 40 + 40 + 40 ≤ ms ∧ ∀ b63 : Nat, zK (nA (uFr (nA (uFr (nA (uFr (nA (uFr (nA (uFr (nA (uFr (nA (uFr (nA (uFr (nA (uFr (nA (uFr (nA (uFr (nA σ b3 29 100) 1026 v0 (some b3)) b8 20 10) 1031 v0 (some b8)) b13 20 60) 1032 v0 (some b13)) b18 20 240) 1033 v0 (some b18)) b23 20 60) 1034 v0 (some b23)) b28 20 60) 1035 v0 (some b28)) b33 20 60) 1036 v0 (some b33)) b38 22 60) 1037 v0 (some b38)) b43 23 60) 1038 v0 (some b43)) b48 20 40) 1039 v0 (some b48)) b53 20 40) 1040 v0 (some b53)) b58 20 40) b63 = 0 → zK (nA (uFr (nA (uFr (nA (uFr (nA (uFr (nA (uFr (nA (uFr (nA (uFr (nA (uFr (nA (uFr (nA (uFr (nA (uFr (nA (uFr (nA σ b3 29 100) 1026 v0 (some b3)) b8 20 10) 1031 v0 (some b8)) b13 20 60) 1032 v0 (some b13)) b18 20 240) 1033 v0 (some b18)) b23 20 60) 1034 v0 (some b23)) b28 20 60) 1035 v0 (some b28)) b33 20 60) 1036 v0 (some b33)) b38 22 60) 1037 v0 (some b38)) b43 23 60) 1038 v0 (some b43)) b48 20 40) 1039 v0 (some b48)) b53 20 40) 1040 v0 (some b53)) b58 20 40) 1041 v0 (some b58)) b63 20 40) v0 = 17 ∧ k + 1 + 1 + 1 + 1 + 1 + 1 + 1 + 1 + 1 + 1 + 1 + 1 + 1 + 1 ≤ mc ∧ n + 100 + 10 + 60 + 240 + 60 + 60 + 60 + 60 + 60 + 40 + 40 + 40 + 40 + 40 ≤ ms ∧ ∀ b68 : Nat, zK (nA (uFr (nA (uFr (nA (uFr (nA (uFr (nA (uFr (nA (uFr (nA (uFr (nA (uFr (nA (uFr (nA (uFr (nA (uFr (nA (uFr (nA σ b3 29 100) 1026 v0 (some b3)) b8 20 10) 1031 v0 (some b8)) b13 20 60) 1032 v0 (some b13)) b18 20 240) 1033 v0 (some b18)) b23 20 60) 1034 v0 (some b23)) b28 20 60) 1035 v0 (some b28)) b33 20 60) 1036 v0 (some b33)) b38 22 60) 1037 v0 (some b38)) b43 23 60) 1038 v0 (some b43)) b48 20 40) 1039 v0 (some b48)) b53 20 40) 1040 v0 (some b53)) b58 20 40) 1041 v0 (some b58)) b63 20 40) b68 = 0 → zK (nA (uFr (nA (uFr (nA (uFr (nA (uFr (nA (uFr (nA (uFr (nA (uFr (nA (uFr (nA (uFr (nA (uFr (nA (uFr (nA (uFr (nA (uFr (nA σ b3 29 100) 1026 v0 (some b3)) b8 20 10) 1031 v0 (some b8)) b13 20 60) 1032 v0 (some b13)) b18 20 240) 1033 v0 (some b18)) b23 20 60) 1034 v0 (some b23)) b28 20 60) 1035 v0 (some b28)) b33 20 60) 1036 v0 (some b33)) b38 22 60) 1037 v0 (some b38)) b43 23 60) 1038 v0 (some b43)) b48 20 40) 1039 v0 (some b48)) b53 20 40) 1040 v0 (some b53)) b58 20 40) 1041 v0 (some b58)) b63 20 40) 1042 v0 (some b63)) b68 20 40) v0 = 17 ∧ k + 1 + 1 + 1 + 1 + 1 + 1 + 1 + 1 + 1 + 1 + 1 + 1 + 1 + 1 + 1 ≤ mc ∧ n + 100 + 10 + 60 + 240 + 60 + 60 + 60 + 60 + 60 + 40 + 40 + 40 + 40 + 40 + 40 ≤ ms ∧ ∀ b73 : Nat, zK (nA (uFr (nA (uFr (nA (uFr (nA (uFr (nA (uFr (nA (uFr (nA (uFr (nA (uFr (nA (uFr (nA (uFr (nA (uFr (nA (uFr (nA (uFr (nA σ b3 29 100) 1026 v0 (some b3)) b8 20 10) 1031 v0 (some b8)) b13 20 60) 1032 v0 (some b13)) b18 20 240) 1033 v0 (some b18)) b23 20 60) 1034 v0 (some b23)) b28 20 60) 1035 v0 (some b28)) b33 20 60) 1036 v0 (some b33)) b38 22 60) 1037 v0 (some b38)) b43 23 60) 1038 v0 (some b43)) b48 20 40) 1039 v0 (some b48)) b53 20 40) 1040 v0 (some b53)) b58 20 40) 1041 v0 (some b58)) b63 20 40) 1042 v0 (some b63)) b68 20 40) b73 = 0 → zK (nA (uFr (nA (uFr (nA (uFr (nA (uFr (nA (uFr (nA (uFr (nA (uFr (nA (uFr (nA (uFr (nA (uFr (nA (uFr (nA (uFr (nA (uFr (nA (uFr (nA σ b3 29 100) 1026 v0 (some b3)) b8 20 10) 1031 v0 (some b8)) b13 20 60) 1032 v0 (some b13)) b18 20 240) 1033 v0 (some b18)) b23 20 60) 1034 v0 (some b23)) b28 20 60) 1035 v0 (some b28)) b33 20 60) 1036 v0 (some b33)) b38 22 60) 1037 v0 (some b38)) b43 23 60) 1038 v0 (some b43)) b48 20 40) 1039 v0 (some b48)) b53 20 40) 1040 v0 (some b53)) b58 20 40) 1041 v0 (some b58)) b63 20 40) 1042 v0 (some b63)) b68 20 40) 1043 v0 (some b68)) b73 20 40) v0 = 17 ∧ k + 1 + 1 + 1 + 1 + 1 + 1 + 1 + 1 + 1 + 1 + 1 + 1 + 1 + 1 + 1 + 1 ≤ mc ∧ n + 100 + 10 + 60 + 240 + 60 + 60 + 60 + 60 + 60 + 40 + 40 + 40 + 40 + 40 + 40 + 40 ≤ ms ∧ ∀ b78 : Nat, zK (nA (uFr (nA (uFr (nA (uFr (nA (uFr (nA (uFr (nA (uFr (nA (uFr (nA (uFr (nA (uFr (nA (uFr (nA (uFr (nA (uFr (nA (uFr (nA (uFr (nA σ b3 29 100) 1026 v0 (some b3)) b8 20 10) 1031 v0 (some b8)) b13 20 60) 1032 v0 (some b13)) b18 20 240) 1033 v0 (some b18)) b23 20 60) 1034 v0 (some b23)) b28 20 60) 1035 v0 (some b28)) b33 20 60) 1036 v0 (some b33)) b38 22 60) 1037 v0 (some b38)) b43 23 60) 1038 v0 (some b43)) b48 20 40) 1039 v0 (some b48)) b53 20 40) 1040 v0 (some b53)) b58 20 40) 1041 v0 (some b58)) b63 20 40) 1042 v0 (some b63)) b68 20 40) 1043 v0 (some b68)) b73 20 40) b78 = 0 → zK (nA (uFr (nA (uFr (nA (uFr (nA (uFr (nA (uFr (nA (uFr (nA (uFr (nA (uFr (nA (uFr (nA (uFr (nA (uFr (nA (uFr (nA (uFr (nA (uFr (nA (uFr (nA σ b3 29 100) 1026 v0 (some b3)) b8 20 10) 1031 v0 (some b8)) b13 20 60) 1032 v0 (some b13)) b18 20 240) 1033 v0 (some b18)) b23 20 60) 1034 v0 (some b23)) b28 20 60) 1035 v0 (some b28)) b33 20 60) 1036 v0 (some b33)) b38 22 60) 1037 v0 (some b38)) b43 23 60) 1038 v0 (some b43)) b48 20 40) 1039 v0 (some b48)) b53 20 40) 1040 v0 (some b53)) b58 20 40) 1041 v0 (some b58)) b63 20 40) 1042 v0 (some b63)) b68 20 40) 1043 v0 (some b68)) b73 20 40) 1044 v0 (some b73)) b78 20 40) v0 = 17 ∧ k + 1 + 1 + 1 + 1 + 1 + 1 + 1 + 1 + 1 + 1 + 1 + 1 + 1 + 1 + 1 + 1 + 1 ≤ mc ∧ n + 100 + 10 + 60 + 240 + 60 + 60 + 60 + 60 + 60 + 40 + 40 + 40 + 40 + 40 + 40 + 40 + 40 ≤ ms ∧ ∀ b83 : Nat, zK (nA (uFr (nA (uFr (nA (uFr (nA (uFr (nA (uFr (nA (uFr (nA (uFr (nA (uFr (nA (uFr (nA (uFr (nA (uFr (nA (uFr (nA (uFr (nA (uFr (nA (uFr (nA σ b3 29 100) 1026 v0 (some b3)) b8 20 10) 1031 v0 (some b8)) b13 20 60) 1032 v0 (some b13)) b18 20 240) 1033 v0 (some b18)) b23 20 60) 1034 v0 (some b23)) b28 20 60) 1035 v0 (some b28)) b33 20 60) 1036 v0 (some b33)) b38 22 60) 1037 v0 (some b38)) b43 23 60) 1038 v0 (some b43)) b48 20 40) 1039 v0 (some b48)) b53 20 40) 1040 v0 (some b53)) b58 20 40) 1041 v0 (some b58)) b63 20 40) 1042 v0 (some b63)) b68 20 40) 1043 v0 (some b68)) b73 20 40) 1044 v0 (some b73)) b78 20 40) b83 = 0 → zK (nA (uFr (nA (uFr (nA (uFr (nA (uFr (nA (uFr (nA (uFr (nA (uFr (nA (uFr (nA (uFr (nA (uFr (nA (uFr (nA (uFr (nA (uFr (nA (uFr (nA (uFr (nA (uFr (nA σ b3 29 100) 1026 v0 (some b3)) b8 20 10) 1031 v0 (some b8)) b13 20 60) 1032 v0 (some b13)) b18 20 240) 1033 v0 (some b18)) b23 20 60) 1034 v0 (some b23)) b28 20 60) 1035 v0 (some b28)) b33 20 60) 1036 v0 (some b33)) b38 22 60) 1037 v0 (some b38)) b43 23 60) 1038 v0 (some b43)) b48 20 40) 1039 v0 (some b48)) b53 20 40) 1040 v0 (some b53)) b58 20 40) 1041 v0 (some b58)) b63 20 40) 1042 v0 (some b63)) b68 20 40) 1043 v0 (some b68)) b73 20 40) 1044 v0 (some b73)) b78 20 40) 1045 v0 (some b78)) b83 20 40) v0 = 17 ∧ k + 1 + 1 + 1 + 1 + 1 + 1 + 1 + 1 + 1 + 1 + 1 + 1 + 1 + 1 + 1 + 1 + 1 + 1 ≤ mc ∧ n + 100 + 10 + 60 + 240 + 60 + 60 + 60 + 60 + 60 + 40 + 40 + 40 + 40 + 40 + 40 + 40 + 40 + 40 ≤ ms ∧ ∀ b88 : Nat, zK (nA (uFr (nA (uFr (nA (uFr (nA (uFr (nA (uFr (nA (uFr (nA (uFr (nA (uFr (nA (uFr (nA (uFr (nA (uFr (nA (uFr (nA (uFr (nA (uFr (nA (uFr (nA (uFr (nA σ b3 29 100) 1026 v0 (some b3)) b8 20 10) 1031 v0 (some b8)) b13 20 60) 1032 v0 (some b13)) b18 20 240) 1033 v0 (some b18)) b23 20 60) 1034 v0 (some b23)) b28 20 60) 1035 v0 (some b28)) b33 20 60) 1036 v0 (some b33)) b38 22 60) 1037 v0 (some b38)) b43 23 60) 1038 v0 (some b43)) b48 20 40) 1039 v0 (some b48)) b53 20 40) 1040 v0 (some b53)) b58 20 40) 1041 v0 (some b58)) b63 20 40) 1042 v0 (some b63)) b68 20 40) 1043 v0 (some b68)) b73 20 40) 1044 v0 (some b73)) b78 20 40) 1045 v0 (some b78)) b83 20 40) b88 = 0 → zK (nA (uFr (nA (uFr (nA (uFr (nA (uFr (nA (uFr (nA (uFr (nA (uFr (nA (uFr (nA (uFr (nA (uFr (nA (uFr (nA (uFr (nA (uFr (nA (uFr (nA (uFr (nA (uFr (nA (uFr (nA σ b3 29 100) 1026 v0 (some b3)) b8 20 10) 1031 v0 (some b8)) b13 20 60) 1032 v0 (some b13)) b18 20 240) 1033 v0 (some b18)) b23 20 60) 1034 v0 (some b23)) b28 20 60) 1035 v0 (some b28)) b33 20 60) 1036 v0 (some b33)) b38 22 60) 1037 v0 (some b38)) b43 23 60) 1038 v0 (some b43)) b48 20 40) 1039 v0 (some b48)) b53 20 40) 1040 v0 (some b53)) b58 20 40) 1041 v0 (some b58)) b63 20 40) 1042 v0 (some b63)) b68 20 40) 1043 v0 (some b68)) b73 20 40) 1044 v0 (some b73)) b78 20 40) 1045 v0 (some b78)) b83 20 40) 1046 v0 (some b83)) b88 23 40) v0 = 17 ∧ k + 1 + 1 + 1 + 1 + 1 + 1 + 1 + 1 + 1 + 1 + 1 + 1 + 1 + 1 + 1 + 1 + 1 + 1 + 1 ≤ mc ∧ n + 100 + 10 + 60 + 240 + 60 + 60 + 60 + 60 + 60 + 40 + 40 + 40 + 40 + 40 + 40 + 40 + 40 + 40 + 6 ≤ ms ∧ ∀ b93 : Nat, zK (nA (uFr (nA (uFr (nA (uFr (nA (uFr (nA (uFr (nA (uFr (nA (uFr (nA (uFr (nA (uFr (nA (uFr (nA (uFr (nA (uFr (nA (uFr (nA (uFr (nA (uFr (nA (uFr (nA (uFr (nA σ b3 29 100) 1026 v0 (some b3)) b8 20 10) 1031 v0 (some b8)) b13 20 60) 1032 v0 (some b13)) b18 20 240) 1033 v0 (some b18)) b23 20 60) 1034 v0 (some b23)) b28 20 60) 1035 v0 (some b28)) b33 20 60) 1036 v0 (some b33)) b38 22 60) 1037 v0 (some b38)) b43 23 60) 1038 v0 (some b43)) b48 20 40) 1039 v0 (some b48)) b53 20 40) 1040 v0 (some b53)) b58 20 40) 1041 v0 (some b58)) b63 20 40) 1042 v0 (some b63)) b68 20 40) 1043 v0 (some b68)) b73 20 40) 1044 v0 (some b73)) b78 20 40) 1045 v0 (some b78)) b83 20 40) 1046 v0 (some b83)) b88 23 40) b93 = 0 → k + 1 + 1 + 1 + 1 + 1 + 1 + 1 + 1 + 1 + 1 + 1 + 1 + 1 + 1 + 1 + 1 + 1 + 1 + 1 ≤ mc ∧ n + 100 + 10 + 60 + 240 + 60 + 60 + 60 + 60 + 60 + 40 + 40 + 40 + 40 + 40 + 40 + 40 + 40 + 40 + 6 ≤ ms ∧ wX13_init b93 (nO (uFr (nA (uFr (nA (uFr (nA (uFr (nA (uFr (nA (uFr (nA (uFr (nA (uFr (nA (uFr (nA (uFr (nA (uFr (nA (uFr (nA (uFr (nA (uFr (nA (uFr (nA (uFr (nA (uFr (nA (uFr (nA σ b3 29 100) 1026 v0 (some b3)) b8 20 10) 1031 v0 (some b8)) b13 20 60) 1032 v0 (some b13)) b18 20 240) 1033 v0 (some b18)) b23 20 60) 1034 v0 (some b23)) b28 20 60) 1035 v0 (some b28)) b33 20 60) 1036 v0 (some b33)) b38 22 60) 1037 v0 (some b38)) b43 23 60) 1038 v0 (some b43)) b48 20 40) 1039 v0 (some b48)) b53 20 40) 1040 v0 (some b53)) b58 20 40) 1041 v0 (some b58)) b63 20 40) 1042 v0 (some b63)) b68 20 40) 1043 v0 (some b68)) b73 20 40) 1044 v0 (some b73)) b78 20 40) 1045 v0 (some b78)) b83 20 40) 1046 v0 (some b83)) b88 23 40) 1047 v0 (some b88)) b93 14) (fun σ97 => zK σ97 v0 = 17 ∧ k + 1 + 1 + 1 + 1 + 1 + 1 + 1 + 1 + 1 + 1 + 1 + 1 + 1 + 1 + 1 + 1 + 1 + 1 + 1 + 1 ≤ mc ∧ n + 100 + 10 + 60 + 240 + 60 + 60 + 60 + 60 + 60 + 40 + 40 + 40 + 40 + 40 + 40 + 40 + 40 + 40 + 6 + 40 ≤ ms ∧ ∀ b101 : Nat, zK σ97 b101 = 0 → zK (nA (uFr σ97 1048 v0 (some b93)) b101 30 40) v0 = 17 ∧ k + 1 + 1 + 1 + 1 + 1 + 1 + 1 + 1 + 1 + 1 + 1 + 1 + 1 + 1 + 1 + 1 + 1 + 1 + 1 + 1 + 1 ≤ mc ∧ n + 100 + 10 + 60 + 240 + 60 + 60 + 60 + 60 + 60 + 40 + 40 + 40 + 40 + 40 + 40 + 40 + 40 + 40 + 6 + 40 + 8 ≤ ms ∧ ∀ b106 : Nat, zK (nA (uFr σ97 1048 v0 (some b93)) b101 30 40) b106 = 0 → ∃ m108 m109 : Nat, k + 1 + 1 + 1 + 1 + 1 + 1 + 1 + 1 + 1 + 1 + 1 + 1 + 1 + 1 + 1 + 1 + 1 + 1 + 1 + 1 + 1 + m108 ≤ mc ∧ n + 100 + 10 + 60 + 240 + 60 + 60 + 60 + 60 + 60 + 40 + 40 + 40 + 40 + 40 + 40 + 40 + 40 + 40 + 6 + 40 + 8 + m109 ≤ ms ∧ wX14_init m108 m109 b106 (nO (uFr (nA (uFr σ97 1048 v0 (some b93)) b101 30 40) 1049 v0 (some b101)) b106 15) (fun σ112 => zK σ112 v0 = 17 ∧ k + 1 + 1 + 1 + 1 + 1 + 1 + 1 + 1 + 1 + 1 + 1 + 1 + 1 + 1 + 1 + 1 + 1 + 1 + 1 + 1 + 1 + m108 + 1 ≤ mc ∧ n + 100 + 10 + 60 + 240 + 60 + 60 + 60 + 60 + 60 + 40 + 40 + 40 + 40 + 40 + 40 + 40 + 40 + 40 + 6 + 40 + 8 + m109 + 8 ≤ ms ∧ ∀ b116 : Nat, zK σ112 b116 = 0 → ∃ m118 m119 : Nat, k + 1 + 1 + 1 + 1 + 1 + 1 + 1 + 1 + 1 + 1 + 1 + 1 + 1 + 1 + 1 + 1 + 1 + 1 + 1 + 1 + 1 + m108 + 1 + m118 ≤ mc ∧ n + 100 + 10 + 60 + 240 + 60 + 60 + 60 + 60 + 60 + 40 + 40 + 40 + 40 + 40 + 40 + 40 + 40 + 40 + 6 + 40 + 8 + m109 + 8 + m119 ≤ ms ∧ wX14_init m118 m119 b116 (nO (uFr σ112 1050 v0 (some b106)) b116 15) (fun σ122 => zK σ122 v0 = 17 ∧ k + 1 + 1 + 1 + 1 + 1 + 1 + 1 + 1 + 1 + 1 + 1 + 1 + 1 + 1 + 1 + 1 + 1 + 1 + 1 + 1 + 1 + m108 + 1 + m118 + 1 ≤ mc ∧ n + 100 + 10 + 60 + 240 + 60 + 60 + 60 + 60 + 60 + 40 + 40 + 40 + 40 + 40 + 40 + 40 + 40 + 40 + 6 + 40 + 8 + m109 + 8 + m119 + 20 ≤ ms ∧ ∀ b126 : Nat, zK σ122 b126 = 0 → zK (nA (uFr σ122 1051 v0 (some b116)) b126 31 20) v0 = 17 ∧ k + 1 + 1 + 1 + 1 + 1 + 1 + 1 + 1 + 1 + 1 + 1 + 1 + 1 + 1 + 1 + 1 + 1 + 1 + 1 + 1 + 1 + m108 + 1 + m118 + 1 + 1 ≤ mc ∧ n + 100 + 10 + 60 + 240 + 60 + 60 + 60 + 60 + 60 + 40 + 40 + 40 + 40 + 40 + 40 + 40 + 40 + 40 + 6 + 40 + 8 + m109 + 8 + m119 + 20 + 8208 ≤ ms ∧ ∀ b131 : Nat, zK (nA (uFr σ122 1051 v0 (some b116)) b126 31 20) b131 = 0 → zK (nA (uFr (nA (uFr σ122 1051 v0 (some b116)) b126 31 20) 1052 v0 (some b126)) b131 21 8208) v0 = 17 ∧ k + 1 + 1 + 1 + 1 + 1 + 1 + 1 + 1 + 1 + 1 + 1 + 1 + 1 + 1 + 1 + 1 + 1 + 1 + 1 + 1 + 1 + m108 + 1 + m118 + 1 + 1 + 1 ≤ mc ∧ n + 100 + 10 + 60 + 240 + 60 + 60 + 60 + 60 + 60 + 40 + 40 + 40 + 40 + 40 + 40 + 40 + 40 + 40 + 6 + 40 + 8 + m109 + 8 + m119 + 20 + 8208 + 6 ≤ ms ∧ ∀ b136 : Nat, zK (nA (uFr (nA (uFr σ122 1051 v0 (some b116)) b126 31 20) 1052 v0 (some b126)) b131 21 8208) b136 = 0 → zK (nA (uFr (nA (uFr (nA (uFr σ122 1051 v0 (some b116)) b126 31 20) 1052 v0 (some b126)) b131 21 8208) 1053 v0 (some b131)) b136 20 6) v0 = 17 ∧ k + 1 + 1 + 1 + 1 + 1 + 1 + 1 + 1 + 1 + 1 + 1 + 1 + 1 + 1 + 1 + 1 + 1 + 1 + 1 + 1 + 1 + m108 + 1 + m118 + 1 + 1 + 1 + 1 ≤ mc ∧ n + 100 + 10 + 60 + 240 + 60 + 60 + 60 + 60 + 60 + 40 + 40 + 40 + 40 + 40 + 40 + 40 + 40 + 40 + 6 + 40 + 8 + m109 + 8 + m119 + 20 + 8208 + 6 + 32 ≤ ms ∧ ∀ b141 : Nat, zK (nA (uFr (nA (uFr (nA (uFr σ122 1051 v0 (some b116)) b126 31 20) 1052 v0 (some b126)) b131 21 8208) 1053 v0 (some b131)) b136 20 6) b141 = 0 → zK (nA (uFr (nA (uFr (nA (uFr (nA (uFr σ122 1051 v0 (some b116)) b126 31 20) 1052 v0 (some b126)) b131 21 8208) 1053 v0 (some b131)) b136 20 6) 1055 v0 (some b136)) b141 20 32) v0 = 17 ∧ k + 1 + 1 + 1 + 1 + 1 + 1 + 1 + 1 + 1 + 1 + 1 + 1 + 1 + 1 + 1 + 1 + 1 + 1 + 1 + 1 + 1 + m108 + 1 + m118 + 1 + 1 + 1 + 1 + 1 ≤ mc ∧ n + 100 + 10 + 60 + 240 + 60 + 60 + 60 + 60 + 60 + 40 + 40 + 40 + 40 + 40 + 40 + 40 + 40 + 40 + 6 + 40 + 8 + m109 + 8 + m119 + 20 + 8208 + 6 + 32 + 40 ≤ ms ∧ ∀ b146 : Nat, zK (nA (uFr (nA (uFr (nA (uFr (nA (uFr σ122 1051 v0 (some b116)) b126 31 20) 1052 v0 (some b126)) b131 21 8208) 1053 v0 (some b131)) b136 20 6) 1055 v0 (some b136)) b141 20 32) b146 = 0 → zK (nA (uFr (nA (uFr (nA (uFr (nA (uFr (nA (uFr σ122 1051 v0 (some b116)) b126 31 20) 1052 v0 (some b126)) b131 21 8208) 1053 v0 (some b131)) b136 20 6) 1055 v0 (some b136)) b141 20 32) 1056 v0 (some b141)) b146 23 40) v0 = 17 ∧ k + 1 + 1 + 1 + 1 + 1 + 1 + 1 + 1 + 1 + 1 + 1 + 1 + 1 + 1 + 1 + 1 + 1 + 1 + 1 + 1 + 1 + m108 + 1 + m118 + 1 + 1 + 1 + 1 + 1 + 1 ≤ mc ∧ n + 100 + 10 + 60 + 240 + 60 + 60 + 60 + 60 + 60 + 40 + 40 + 40 + 40 + 40 + 40 + 40 + 40 + 40 + 6 + 40 + 8 + m109 + 8 + m119 + 20 + 8208 + 6 + 32 + 40 + 32 ≤ ms ∧ ∀ b151 : Nat, zK (nA (uFr (nA (uFr (nA (uFr (nA (uFr (nA (uFr σ122 1051 v0 (some b116)) b126 31 20) 1052 v0 (some b126)) b131 21 8208) 1053 v0 (some b131)) b136 20 6) 1055 v0 (some b136)) b141 20 32) 1056 v0 (some b141)) b146 23 40) b151 = 0 → zK (nA (uFr (nA (uFr (nA (uFr (nA (uFr (nA (uFr (nA (uFr σ122 1051 v0 (some b116)) b126 31 20) 1052 v0 (some b126)) b131 21 8208) 1053 v0 (some b131)) b136 20 6) 1055 v0 (some b136)) b141 20 32) 1056 v0 (some b141)) b146 23 40) 1058 v0 (some b146)) b151 23 32) v0 = 17 ∧ k + 1 + 1 + 1 + 1 + 1 + 1 + 1 + 1 + 1 + 1 + 1 + 1 + 1 + 1 + 1 + 1 + 1 + 1 + 1 + 1 + 1 + m108 + 1 + m118 + 1 + 1 + 1 + 1 + 1 + 1 + 1 ≤ mc ∧ n + 100 + 10 + 60 + 240 + 60 + 60 + 60 + 60 + 60 + 40 + 40 + 40 + 40 + 40 + 40 + 40 + 40 + 40 + 6 + 40 + 8 + m109 + 8 + m119 + 20 + 8208 + 6 + 32 + 40 + 32 + 16 ≤ ms ∧ ∀ b156 : Nat, zK (nA (uFr (nA (uFr (nA (uFr (nA (uFr (nA (uFr (nA (uFr σ122 1051 v0 (some b116)) b126 31 20) 1052 v0 (some b126)) b131 21 8208) 1053 v0 (some b131)) b136 20 6) 1055 v0 (some b136)) b141 20 32) 1056 v0 (some b141)) b146 23 40) 1058 v0 (some b146)) b151 23 32) b156 = 0 → zK (nA (uFr (nA (uFr (nA (uFr (nA (uFr (nA (uFr (nA (uFr (nA (uFr σ122 1051 v0 (some b116)) b126 31 20) 1052 v0 (some b126)) b131 21 8208) 1053 v0 (some b131)) b136 20 6) 1055 v0 (some b136)) b141 20 32) 1056 v0 (some b141)) b146 23 40) 1058 v0 (some b146)) b151 23 32) 1059 v0 (some b151)) b156 20 16) v0 = 17 ∧ k + 1 + 1 + 1 + 1 + 1 + 1 + 1 + 1 + 1 + 1 + 1 + 1 + 1 + 1 + 1 + 1 + 1 + 1 + 1 + 1 + 1 + m108 + 1 + m118 + 1 + 1 + 1 + 1 + 1 + 1 + 1 + 1 ≤ mc ∧ n + 100 + 10 + 60 + 240 + 60 + 60 + 60 + 60 + 60 + 40 + 40 + 40 + 40 + 40 + 40 + 40 + 40 + 40 + 6 + 40 + 8 + m109 + 8 + m119 + 20 + 8208 + 6 + 32 + 40 + 32 + 16 + 16 ≤ ms ∧ ∀ b161 : Nat, zK (nA (uFr (nA (uFr (nA (uFr (nA (uFr (nA (uFr (nA (uFr (nA (uFr σ122 1051 v0 (some b116)) b126 31 20) 1052 v0 (some b126)) b131 21 8208) 1053 v0 (some b131)) b136 20 6) 1055 v0 (some b136)) b141 20 32) 1056 v0 (some b141)) b146 23 40) 1058 v0 (some b146)) b151 23 32) 1059 v0 (some b151)) b156 20 16) b161 = 0 → zK (nA (uFr (nA (uFr (nA (uFr (nA (uFr (nA (uFr (nA (uFr (nA (uFr (nA (uFr σ122 1051 v0 (some b116)) b126 31 20) 1052 v0 (some b126)) b131 21 8208) 1053 v0 (some b131)) b136 20 6) 1055 v0 (some b136)) b141 20 32) 1056 v0 (some b141)) b146 23 40) 1058 v0 (some b146)) b151 23 32) 1059 v0 (some b151)) b156 20 16) 1060 v0 (some b156)) b161 20 16) v0 = 17 ∧ k + 1 + 1 + 1 + 1 + 1 + 1 + 1 + 1 + 1 + 1 + 1 + 1 + 1 + 1 + 1 + 1 + 1 + 1 + 1 + 1 + 1 + m108 + 1 + m118 + 1 + 1 + 1 + 1 + 1 + 1 + 1 + 1 + 1 ≤ mc ∧ n + 100 + 10 + 60 + 240 + 60 + 60 + 60 + 60 + 60 + 40 + 40 + 40 + 40 + 40 + 40 + 40 + 40 + 40 + 6 + 40 + 8 + m109 + 8 + m119 + 20 + 8208 + 6 + 32 + 40 + 32 + 16 + 16 + 16 ≤ ms ∧ ∀ b166 : Nat, zK (nA (uFr (nA (uFr (nA (uFr (nA (uFr (nA (uFr (nA (uFr (nA (uFr (nA (uFr σ122 1051 v0 (some b116)) b126 31 20) 1052 v0 (some b126)) b131 21 8208) 1053 v0 (some b131)) b136 20 6) 1055 v0 (some b136)) b141 20 32) 1056 v0 (some b141)) b146 23 40) 1058 v0 (some b146)) b151 23 32) 1059 v0 (some b151)) b156 20 16) 1060 v0 (some b156)) b161 20 16) b166 = 0 → zK (nA (uFr (nA (uFr (nA (uFr (nA (uFr (nA (uFr (nA (uFr (nA (uFr (nA (uFr (nA (uFr σ122 1051 v0 (some b116)) b126 31 20) 1052 v0 (some b126)) b131 21 8208) 1053 v0 (some b131)) b136 20 6) 1055 v0 (some b136)) b141 20 32) 1056 v0 (some b141)) b146 23 40) 1058 v0 (some b146)) b151 23 32) 1059 v0 (some b151)) b156 20 16) 1060 v0 (some b156)) b161 20 16) 1061 v0 (some b161)) b166 20 16) v0 = 17 ∧ ∃ f, lX16_init_268 mc ms Q f (k + 1 + 1 + 1 + 1 + 1 + 1 + 1 + 1 + 1 + 1 + 1 + 1 + 1 + 1 + 1 + 1 + 1 + 1 + 1 + 1 + 1 + m108 + 1 + m118 + 1 + 1 + 1 + 1 + 1 + 1 + 1 + 1 + 1) (n + 100 + 10 + 60 + 240 + 60 + 60 + 60 + 60 + 60 + 40 + 40 + 40 + 40 + 40 + 40 + 40 + 40 + 40 + 6 + 40 + 8 + m109 + 8 + m119 + 20 + 8208 + 6 + 32 + 40 + 32 + 16 + 16 + 16) v0 0 (uFr (nA (uFr (nA (uFr (nA (uFr (nA (uFr (nA (uFr (nA (uFr (nA (uFr (nA (uFr (nA (uFr σ122 1051 v0 (some b116)) b126 31 20) 1052 v0 (some b126)) b131 21 8208) 1053 v0 (some b131)) b136 20 6) 1055 v0 (some b136)) b141 20 32) 1056 v0 (some b141)) b146 23 40) 1058 v0 (some b146)) b151 23 32) 1059 v0 (some b151)) b156 20 16) 1060 v0 (some b156)) b161 20 16) 1061 v0 (some b161)) b166 20 16) 1063 v0 (some b166)))))
def wX16_init (mc ms : Nat) (v0 : Nat) (σ : St) (Q : St → Prop) : Prop := wX16_init_0 mc ms Q 0 0 v0 σ
set_option maxRecDepth 20000 in
theorem kwX16_init_322 {Γ : hCT} {mc ms : Nat} (C : hC Γ RX16 cX16_init ((Option.none : Option Jvm.ClassFile.FieldType)) "<init>" 5 104) {Q : St → Prop} (hΓ : Γ.2.2.2.2.2.2.2.2.2.2.2 = (2, mc, ms, oV Q)) {r322 : Nat → Nat → Nat → Int32 → St → Prop} (h322 : ∀ (k n : Nat) (v0 : Nat) (v1 : Int32) (σ : St), r322 k n v0 v1 σ → hW Γ k n 322 [(0, .ref v0), (1, .int v1)] [] σ) (k n : Nat) (v0 : Nat) (v1 : Int32) (σ : St) (hb : wX16_init_322 mc ms Q r322 k n v0 v1 σ) : hW Γ k n 322 [(0, .ref v0), (1, .int v1)] [] σ := by
  unfold wX16_init_322 at hb
  refine g_iload_n C dX16_init_322 1 rfl ?_
  refine g_bipush (v := 20) C dX16_init_323 (by decide) ?_
  refine g_icmp_ge (tgt := 347) C dX16_init_325 (by decide) (fun c => ?_) (fun c => ?_)
  ·
    replace hb := hb.1 (c)
    obtain ⟨q1, q2, hb⟩ := hb
    exact g_vreturn C hΓ q1 q2 dX16_init_347 ⟨rfl, hb⟩
  ·
    replace hb := hb.2 (c)
    refine g_aload_n (some v0) C dX16_init_328 0 rfl ?_
    obtain ⟨q3, hb⟩ := hb
    obtain ⟨a4, q5, hb⟩ := hb
    refine g_getR (some a4) C fl_RX16_58 dX16_init_329 q3 rfl rfl q5 ?_
    refine g_iload_n C dX16_init_332 1 rfl ?_
    obtain ⟨q6, q7, hb⟩ := hb
    refine g_new zc_15 zd_15 ⟨_, rfl⟩ wd_1220 wd_1228 wd_85 C dX16_init_333 (by rw [hmc_of hΓ]; exact q6) (by rw [hms_of hΓ]; exact q7) (fun b8 q9 => ?_)
    replace hb := hb b8 q9
    refine g_dup C dX16_init_336 rfl ?_
    obtain ⟨m10, m11, q12, q13, hb⟩ := hb
    refine g_invIN [] [.ref b8, .int v1, .ref a4] zy_X15_init wn_1271 wd_1230 rfl C dX16_init_337 (by first | exact Nat.le_of_ble_eq_true rfl | simp [cat_rf]) (by first | exact Nat.le_of_ble_eq_true rfl | simp [cat_rf]) (by first | exact Nat.le_of_ble_eq_true rfl | simp [cat_rf]) (by rw [hmc_of hΓ]; exact q12) (by rw [hms_of hΓ]; exact q13) rfl rfl  (okX15_init hb) ?_
    rintro o σ14 ⟨rfl, hb⟩
    refine ⟨_, rfl, ?_⟩
    obtain ⟨q15, hb⟩ := hb
    obtain ⟨q16, hb⟩ := hb
    obtain ⟨q17, hb⟩ := hb
    refine g_aast (some b8) el_31 C dX16_init_340 q15 q16 (fun _ hv => by cases hv; exact q17) ?_
    refine g_iinc (v := v1 + 1) (lv' := [(1, .int (v1 + 1)), (0, .ref v0)]) C dX16_init_341 1 rfl rfl (hnl_of hΓ (by decide)) (by first | rfl | simp [cat_rf]) ?_
    refine g_goto (tgt := 322) C dX16_init_344 (by decide) ?_
    refine g_sub (lv' := [(0, .ref v0), (1, .int (v1 + 1))]) [1, 0] rfl ?_
    exact h322 _ _ _ _ _ hb
theorem klX16_init_322 {Γ : hCT} {mc ms : Nat} (C : hC Γ RX16 cX16_init ((Option.none : Option Jvm.ClassFile.FieldType)) "<init>" 5 104) {Q : St → Prop} (hΓ : Γ.2.2.2.2.2.2.2.2.2.2.2 = (2, mc, ms, oV Q)) (f : Nat) (k n : Nat) (v0 : Nat) (v1 : Int32) (σ : St) (hb : lX16_init_322 mc ms Q f k n v0 v1 σ) : hW Γ k n 322 [(0, .ref v0), (1, .int v1)] [] σ := by
  induction f generalizing k n v0 v1 σ with
  | zero => exact hb.elim
  | succ f ih => exact kwX16_init_322 C hΓ  (fun k n v0 v1 σ h => ih k n v0 v1 σ h) _ _ _ _ _ hb
set_option maxRecDepth 20000 in
theorem kwX16_init_295 {Γ : hCT} {mc ms : Nat} (C : hC Γ RX16 cX16_init ((Option.none : Option Jvm.ClassFile.FieldType)) "<init>" 5 104) {Q : St → Prop} (hΓ : Γ.2.2.2.2.2.2.2.2.2.2.2 = (2, mc, ms, oV Q)) {r295 : Nat → Nat → Nat → Int32 → St → Prop} (h295 : ∀ (k n : Nat) (v0 : Nat) (v1 : Int32) (σ : St), r295 k n v0 v1 σ → hW Γ k n 295 [(0, .ref v0), (1, .int v1)] [] σ) (k n : Nat) (v0 : Nat) (v1 : Int32) (σ : St) (hb : wX16_init_295 mc ms Q r295 k n v0 v1 σ) : hW Γ k n 295 [(0, .ref v0), (1, .int v1)] [] σ := by
  unfold wX16_init_295 at hb
  refine g_iload_n C dX16_init_295 1 rfl ?_
  refine g_bipush (v := 40) C dX16_init_296 (by decide) ?_
  refine g_icmp_ge (tgt := 320) C dX16_init_298 (by decide) (fun c => ?_) (fun c => ?_)
  ·
    replace hb := hb.1 (c)
    refine g_iconst (v := 0) C dX16_init_320 (by decide) ?_
    refine g_istore_n (i := 1) (lv' := [(1, .int 0), (0, .ref v0)]) C dX16_init_321 rfl (hnl_of hΓ (by decide)) (by first | rfl | simp [cat_rf]) ?_
    refine g_sub (lv' := [(0, .ref v0), (1, .int 0)]) [1, 0] rfl ?_
    obtain ⟨f1, hb⟩ := hb
    exact klX16_init_322 C hΓ  f1 _ _ _ _ _ hb
  ·
    replace hb := hb.2 (c)
    refine g_aload_n (some v0) C dX16_init_301 0 rfl ?_
    obtain ⟨q2, hb⟩ := hb
    obtain ⟨a3, q4, hb⟩ := hb
    refine g_getR (some a3) C fl_RX16_188 dX16_init_302 q2 rfl rfl q4 ?_
    refine g_iload_n C dX16_init_305 1 rfl ?_
    obtain ⟨q5, q6, hb⟩ := hb
    refine g_new zc_14 zd_14 ⟨_, rfl⟩ wd_1180 wd_1182 wd_83 C dX16_init_306 (by rw [hmc_of hΓ]; exact q5) (by rw [hms_of hΓ]; exact q6) (fun b7 q8 => ?_)
    replace hb := hb b7 q8
    refine g_dup C dX16_init_309 rfl ?_
    obtain ⟨m9, m10, q11, q12, hb⟩ := hb
    refine g_invIN [] [.ref b7, .int v1, .ref a3] zy_X14_init wn_1183 wd_1184 rfl C dX16_init_310 (by first | exact Nat.le_of_ble_eq_true rfl | simp [cat_rf]) (by first | exact Nat.le_of_ble_eq_true rfl | simp [cat_rf]) (by first | exact Nat.le_of_ble_eq_true rfl | simp [cat_rf]) (by rw [hmc_of hΓ]; exact q11) (by rw [hms_of hΓ]; exact q12) rfl rfl  (okX14_init hb) ?_
    rintro o σ13 ⟨rfl, hb⟩
    refine ⟨_, rfl, ?_⟩
    obtain ⟨q14, hb⟩ := hb
    obtain ⟨q15, hb⟩ := hb
    obtain ⟨q16, hb⟩ := hb
    refine g_aast (some b7) el_30 C dX16_init_313 q14 q15 (fun _ hv => by cases hv; exact q16) ?_
    refine g_iinc (v := v1 + 1) (lv' := [(1, .int (v1 + 1)), (0, .ref v0)]) C dX16_init_314 1 rfl rfl (hnl_of hΓ (by decide)) (by first | rfl | simp [cat_rf]) ?_
    refine g_goto (tgt := 295) C dX16_init_317 (by decide) ?_
    refine g_sub (lv' := [(0, .ref v0), (1, .int (v1 + 1))]) [1, 0] rfl ?_
    exact h295 _ _ _ _ _ hb
theorem klX16_init_295 {Γ : hCT} {mc ms : Nat} (C : hC Γ RX16 cX16_init ((Option.none : Option Jvm.ClassFile.FieldType)) "<init>" 5 104) {Q : St → Prop} (hΓ : Γ.2.2.2.2.2.2.2.2.2.2.2 = (2, mc, ms, oV Q)) (f : Nat) (k n : Nat) (v0 : Nat) (v1 : Int32) (σ : St) (hb : lX16_init_295 mc ms Q f k n v0 v1 σ) : hW Γ k n 295 [(0, .ref v0), (1, .int v1)] [] σ := by
  induction f generalizing k n v0 v1 σ with
  | zero => exact hb.elim
  | succ f ih => exact kwX16_init_295 C hΓ  (fun k n v0 v1 σ h => ih k n v0 v1 σ h) _ _ _ _ _ hb
set_option maxRecDepth 20000 in
theorem kwX16_init_268 {Γ : hCT} {mc ms : Nat} (C : hC Γ RX16 cX16_init ((Option.none : Option Jvm.ClassFile.FieldType)) "<init>" 5 104) {Q : St → Prop} (hΓ : Γ.2.2.2.2.2.2.2.2.2.2.2 = (2, mc, ms, oV Q)) {r268 : Nat → Nat → Nat → Int32 → St → Prop} (h268 : ∀ (k n : Nat) (v0 : Nat) (v1 : Int32) (σ : St), r268 k n v0 v1 σ → hW Γ k n 268 [(0, .ref v0), (1, .int v1)] [] σ) (k n : Nat) (v0 : Nat) (v1 : Int32) (σ : St) (hb : wX16_init_268 mc ms Q r268 k n v0 v1 σ) : hW Γ k n 268 [(0, .ref v0), (1, .int v1)] [] σ := by
  unfold wX16_init_268 at hb
  refine g_iload_n C dX16_init_268 1 rfl ?_
  refine g_bipush (v := 100) C dX16_init_269 (by decide) ?_
  refine g_icmp_ge (tgt := 293) C dX16_init_271 (by decide) (fun c => ?_) (fun c => ?_)
  ·
    replace hb := hb.1 (c)
    refine g_iconst (v := 0) C dX16_init_293 (by decide) ?_
    refine g_istore_n (i := 1) (lv' := [(1, .int 0), (0, .ref v0)]) C dX16_init_294 rfl (hnl_of hΓ (by decide)) (by first | rfl | simp [cat_rf]) ?_
    refine g_sub (lv' := [(0, .ref v0), (1, .int 0)]) [1, 0] rfl ?_
    obtain ⟨f1, hb⟩ := hb
    exact klX16_init_295 C hΓ  f1 _ _ _ _ _ hb
  ·
    replace hb := hb.2 (c)
    refine g_aload_n (some v0) C dX16_init_274 0 rfl ?_
    obtain ⟨q2, hb⟩ := hb
    obtain ⟨a3, q4, hb⟩ := hb
    refine g_getR (some a3) C fl_RX16_13 dX16_init_275 q2 rfl rfl q4 ?_
    refine g_iload_n C dX16_init_278 1 rfl ?_
    obtain ⟨q5, q6, hb⟩ := hb
    refine g_new zc_12 zd_12 ⟨_, rfl⟩ wd_1112 wd_1222 wd_84 C dX16_init_279 (by rw [hmc_of hΓ]; exact q5) (by rw [hms_of hΓ]; exact q6) (fun b7 q8 => ?_)
    replace hb := hb b7 q8
    refine g_dup C dX16_init_282 rfl ?_
    obtain ⟨m9, m10, q11, q12, hb⟩ := hb
    refine g_invIN [] [.ref b7, .int v1, .ref a3] zy_X12_init wn_1223 wd_1224 rfl C dX16_init_283 (by first | exact Nat.le_of_ble_eq_true rfl | simp [cat_rf]) (by first | exact Nat.le_of_ble_eq_true rfl | simp [cat_rf]) (by first | exact Nat.le_of_ble_eq_true rfl | simp [cat_rf]) (by rw [hmc_of hΓ]; exact q11) (by rw [hms_of hΓ]; exact q12) rfl rfl  (okX12_init hb) ?_
    rintro o σ13 ⟨rfl, hb⟩
    refine ⟨_, rfl, ?_⟩
    obtain ⟨q14, hb⟩ := hb
    obtain ⟨q15, hb⟩ := hb
    obtain ⟨q16, hb⟩ := hb
    refine g_aast (some b7) el_29 C dX16_init_286 q14 q15 (fun _ hv => by cases hv; exact q16) ?_
    refine g_iinc (v := v1 + 1) (lv' := [(1, .int (v1 + 1)), (0, .ref v0)]) C dX16_init_287 1 rfl rfl (hnl_of hΓ (by decide)) (by first | rfl | simp [cat_rf]) ?_
    refine g_goto (tgt := 268) C dX16_init_290 (by decide) ?_
    refine g_sub (lv' := [(0, .ref v0), (1, .int (v1 + 1))]) [1, 0] rfl ?_
    exact h268 _ _ _ _ _ hb
theorem klX16_init_268 {Γ : hCT} {mc ms : Nat} (C : hC Γ RX16 cX16_init ((Option.none : Option Jvm.ClassFile.FieldType)) "<init>" 5 104) {Q : St → Prop} (hΓ : Γ.2.2.2.2.2.2.2.2.2.2.2 = (2, mc, ms, oV Q)) (f : Nat) (k n : Nat) (v0 : Nat) (v1 : Int32) (σ : St) (hb : lX16_init_268 mc ms Q f k n v0 v1 σ) : hW Γ k n 268 [(0, .ref v0), (1, .int v1)] [] σ := by
  induction f generalizing k n v0 v1 σ with
  | zero => exact hb.elim
  | succ f ih => exact kwX16_init_268 C hΓ  (fun k n v0 v1 σ h => ih k n v0 v1 σ h) _ _ _ _ _ hb
set_option maxRecDepth 20000 in
theorem kwX16_init_0 {Γ : hCT} {mc ms : Nat} (C : hC Γ RX16 cX16_init ((Option.none : Option Jvm.ClassFile.FieldType)) "<init>" 5 104) {Q : St → Prop} (hΓ : Γ.2.2.2.2.2.2.2.2.2.2.2 = (2, mc, ms, oV Q)) (k n : Nat) (v0 : Nat) (σ : St) (hb : wX16_init_0 mc ms Q k n v0 σ) : hW Γ k n 0 [(0, .ref v0)] [] σ := by
  unfold wX16_init_0 at hb
  refine g_aload_n (some v0) C dX16_init_0 0 rfl ?_
  refine g_objInit wd_1111 wd_101 wd_102 C dX16_init_1 (by first | exact Nat.le_of_ble_eq_true rfl | simp [cat_rf]) (by first | exact Nat.le_of_ble_eq_true rfl | simp [cat_rf]) ?_
  refine g_aload_n (some v0) C dX16_init_4 0 rfl ?_
  refine g_bipush (v := 100) C dX16_init_5 (by decide) ?_
  obtain ⟨q1, q2, hb⟩ := hb
  refine g_newq (N := 100) el_29 (fun r hr => by cases hr; rfl) wd_1112 (by decide) C dX16_init_7 (by decide) (by decide) (by decide) (by rw [hmc_of hΓ]; exact q1) (by rw [hms_of hΓ]; exact q2) (fun b3 q4 => ?_)
  replace hb := hb b3 q4
  obtain ⟨q5, hb⟩ := hb
  refine g_putFR (some b3) C fo_RX16_13 dX16_init_10 q5 rfl rfl rfl rfl ?_
  refine g_aload_n (some v0) C dX16_init_13 0 rfl ?_
  refine g_bipush (v := 10) C dX16_init_14 (by decide) ?_
  obtain ⟨q6, q7, hb⟩ := hb
  refine g_newa (N := 10) at_int C dX16_init_16 (by decide) (by decide) (by decide) (by rw [hmc_of hΓ]; exact q6) (by rw [hms_of hΓ]; exact q7) (fun b8 q9 => ?_)
  replace hb := hb b8 (by rw [zK_uFr] at q9; exact q9)
  obtain ⟨q10, hb⟩ := hb
  refine g_putFR (some b8) C fo_RX16_76 dX16_init_18 q10 rfl rfl rfl rfl ?_
  refine g_aload_n (some v0) C dX16_init_21 0 rfl ?_
  refine g_bipush (v := 60) C dX16_init_22 (by decide) ?_
  obtain ⟨q11, q12, hb⟩ := hb
  refine g_newa (N := 60) at_int C dX16_init_24 (by decide) (by decide) (by decide) (by rw [hmc_of hΓ]; exact q11) (by rw [hms_of hΓ]; exact q12) (fun b13 q14 => ?_)
  replace hb := hb b13 (by rw [zK_uFr] at q14; exact q14)
  obtain ⟨q15, hb⟩ := hb
  refine g_putFR (some b13) C fo_RX16_91 dX16_init_26 q15 rfl rfl rfl rfl ?_
  refine g_aload_n (some v0) C dX16_init_29 0 rfl ?_
  refine g_sipush (v := 240) C dX16_init_30 (by decide) ?_
  obtain ⟨q16, q17, hb⟩ := hb
  refine g_newa (N := 240) at_int C dX16_init_33 (by decide) (by decide) (by decide) (by rw [hmc_of hΓ]; exact q16) (by rw [hms_of hΓ]; exact q17) (fun b18 q19 => ?_)
  replace hb := hb b18 (by rw [zK_uFr] at q19; exact q19)
  obtain ⟨q20, hb⟩ := hb
  refine g_putFR (some b18) C fo_RX16_94 dX16_init_35 q20 rfl rfl rfl rfl ?_
  refine g_aload_n (some v0) C dX16_init_38 0 rfl ?_
  refine g_bipush (v := 60) C dX16_init_39 (by decide) ?_
  obtain ⟨q21, q22, hb⟩ := hb
  refine g_newa (N := 60) at_int C dX16_init_41 (by decide) (by decide) (by decide) (by rw [hmc_of hΓ]; exact q21) (by rw [hms_of hΓ]; exact q22) (fun b23 q24 => ?_)
  replace hb := hb b23 (by rw [zK_uFr] at q24; exact q24)
  obtain ⟨q25, hb⟩ := hb
  refine g_putFR (some b23) C fo_RX16_97 dX16_init_43 q25 rfl rfl rfl rfl ?_
  refine g_aload_n (some v0) C dX16_init_46 0 rfl ?_
  refine g_bipush (v := 60) C dX16_init_47 (by decide) ?_
  obtain ⟨q26, q27, hb⟩ := hb
  refine g_newa (N := 60) at_int C dX16_init_49 (by decide) (by decide) (by decide) (by rw [hmc_of hΓ]; exact q26) (by rw [hms_of hΓ]; exact q27) (fun b28 q29 => ?_)
  replace hb := hb b28 (by rw [zK_uFr] at q29; exact q29)
  obtain ⟨q30, hb⟩ := hb
  refine g_putFR (some b28) C fo_RX16_100 dX16_init_51 q30 rfl rfl rfl rfl ?_
  refine g_aload_n (some v0) C dX16_init_54 0 rfl ?_
  refine g_bipush (v := 60) C dX16_init_55 (by decide) ?_
  obtain ⟨q31, q32, hb⟩ := hb
  refine g_newa (N := 60) at_int C dX16_init_57 (by decide) (by decide) (by decide) (by rw [hmc_of hΓ]; exact q31) (by rw [hms_of hΓ]; exact q32) (fun b33 q34 => ?_)
  replace hb := hb b33 (by rw [zK_uFr] at q34; exact q34)
  obtain ⟨q35, hb⟩ := hb
  refine g_putFR (some b33) C fo_RX16_107 dX16_init_59 q35 rfl rfl rfl rfl ?_
  refine g_aload_n (some v0) C dX16_init_62 0 rfl ?_
  refine g_bipush (v := 60) C dX16_init_63 (by decide) ?_
  obtain ⟨q36, q37, hb⟩ := hb
  refine g_newa (N := 60) at_double C dX16_init_65 (by decide) (by decide) (by decide) (by rw [hmc_of hΓ]; exact q36) (by rw [hms_of hΓ]; exact q37) (fun b38 q39 => ?_)
  replace hb := hb b38 (by rw [zK_uFr] at q39; exact q39)
  obtain ⟨q40, hb⟩ := hb
  refine g_putFR (some b38) C fo_RX16_103 dX16_init_67 q40 rfl rfl rfl rfl ?_
  refine g_aload_n (some v0) C dX16_init_70 0 rfl ?_
  refine g_bipush (v := 60) C dX16_init_71 (by decide) ?_
  obtain ⟨q41, q42, hb⟩ := hb
  refine g_newa (N := 60) at_bool C dX16_init_73 (by decide) (by decide) (by decide) (by rw [hmc_of hΓ]; exact q41) (by rw [hms_of hΓ]; exact q42) (fun b43 q44 => ?_)
  replace hb := hb b43 (by rw [zK_uFr] at q44; exact q44)
  obtain ⟨q45, hb⟩ := hb
  refine g_putFR (some b43) C fo_RX16_43 dX16_init_75 q45 rfl rfl rfl rfl ?_
  refine g_aload_n (some v0) C dX16_init_78 0 rfl ?_
  refine g_bipush (v := 40) C dX16_init_79 (by decide) ?_
  obtain ⟨q46, q47, hb⟩ := hb
  refine g_newa (N := 40) at_int C dX16_init_81 (by decide) (by decide) (by decide) (by rw [hmc_of hΓ]; exact q46) (by rw [hms_of hΓ]; exact q47) (fun b48 q49 => ?_)
  replace hb := hb b48 (by rw [zK_uFr] at q49; exact q49)
  obtain ⟨q50, hb⟩ := hb
  refine g_putFR (some b48) C fo_RX16_137 dX16_init_83 q50 rfl rfl rfl rfl ?_
  refine g_aload_n (some v0) C dX16_init_86 0 rfl ?_
  refine g_bipush (v := 40) C dX16_init_87 (by decide) ?_
  obtain ⟨q51, q52, hb⟩ := hb
  refine g_newa (N := 40) at_int C dX16_init_89 (by decide) (by decide) (by decide) (by rw [hmc_of hΓ]; exact q51) (by rw [hms_of hΓ]; exact q52) (fun b53 q54 => ?_)
  replace hb := hb b53 (by rw [zK_uFr] at q54; exact q54)
  obtain ⟨q55, hb⟩ := hb
  refine g_putFR (some b53) C fo_RX16_140 dX16_init_91 q55 rfl rfl rfl rfl ?_
  refine g_aload_n (some v0) C dX16_init_94 0 rfl ?_
  refine g_bipush (v := 40) C dX16_init_95 (by decide) ?_
  obtain ⟨q56, q57, hb⟩ := hb
  refine g_newa (N := 40) at_int C dX16_init_97 (by decide) (by decide) (by decide) (by rw [hmc_of hΓ]; exact q56) (by rw [hms_of hΓ]; exact q57) (fun b58 q59 => ?_)
  replace hb := hb b58 (by rw [zK_uFr] at q59; exact q59)
  obtain ⟨q60, hb⟩ := hb
  refine g_putFR (some b58) C fo_RX16_143 dX16_init_99 q60 rfl rfl rfl rfl ?_
  refine g_aload_n (some v0) C dX16_init_102 0 rfl ?_
  refine g_bipush (v := 40) C dX16_init_103 (by decide) ?_
  obtain ⟨q61, q62, hb⟩ := hb
  refine g_newa (N := 40) at_int C dX16_init_105 (by decide) (by decide) (by decide) (by rw [hmc_of hΓ]; exact q61) (by rw [hms_of hΓ]; exact q62) (fun b63 q64 => ?_)
  replace hb := hb b63 (by rw [zK_uFr] at q64; exact q64)
  obtain ⟨q65, hb⟩ := hb
  refine g_putFR (some b63) C fo_RX16_146 dX16_init_107 q65 rfl rfl rfl rfl ?_
  refine g_aload_n (some v0) C dX16_init_110 0 rfl ?_
  refine g_bipush (v := 40) C dX16_init_111 (by decide) ?_
  obtain ⟨q66, q67, hb⟩ := hb
  refine g_newa (N := 40) at_int C dX16_init_113 (by decide) (by decide) (by decide) (by rw [hmc_of hΓ]; exact q66) (by rw [hms_of hΓ]; exact q67) (fun b68 q69 => ?_)
  replace hb := hb b68 (by rw [zK_uFr] at q69; exact q69)
  obtain ⟨q70, hb⟩ := hb
  refine g_putFR (some b68) C fo_RX16_149 dX16_init_115 q70 rfl rfl rfl rfl ?_
  refine g_aload_n (some v0) C dX16_init_118 0 rfl ?_
  refine g_bipush (v := 40) C dX16_init_119 (by decide) ?_
  obtain ⟨q71, q72, hb⟩ := hb
  refine g_newa (N := 40) at_int C dX16_init_121 (by decide) (by decide) (by decide) (by rw [hmc_of hΓ]; exact q71) (by rw [hms_of hΓ]; exact q72) (fun b73 q74 => ?_)
  replace hb := hb b73 (by rw [zK_uFr] at q74; exact q74)
  obtain ⟨q75, hb⟩ := hb
  refine g_putFR (some b73) C fo_RX16_152 dX16_init_123 q75 rfl rfl rfl rfl ?_
  refine g_aload_n (some v0) C dX16_init_126 0 rfl ?_
  refine g_bipush (v := 40) C dX16_init_127 (by decide) ?_
  obtain ⟨q76, q77, hb⟩ := hb
  refine g_newa (N := 40) at_int C dX16_init_129 (by decide) (by decide) (by decide) (by rw [hmc_of hΓ]; exact q76) (by rw [hms_of hΓ]; exact q77) (fun b78 q79 => ?_)
  replace hb := hb b78 (by rw [zK_uFr] at q79; exact q79)
  obtain ⟨q80, hb⟩ := hb
  refine g_putFR (some b78) C fo_RX16_155 dX16_init_131 q80 rfl rfl rfl rfl ?_
  refine g_aload_n (some v0) C dX16_init_134 0 rfl ?_
  refine g_bipush (v := 40) C dX16_init_135 (by decide) ?_
  obtain ⟨q81, q82, hb⟩ := hb
  refine g_newa (N := 40) at_int C dX16_init_137 (by decide) (by decide) (by decide) (by rw [hmc_of hΓ]; exact q81) (by rw [hms_of hΓ]; exact q82) (fun b83 q84 => ?_)
  replace hb := hb b83 (by rw [zK_uFr] at q84; exact q84)
  obtain ⟨q85, hb⟩ := hb
  refine g_putFR (some b83) C fo_RX16_158 dX16_init_139 q85 rfl rfl rfl rfl ?_
  refine g_aload_n (some v0) C dX16_init_142 0 rfl ?_
  refine g_bipush (v := 40) C dX16_init_143 (by decide) ?_
  obtain ⟨q86, q87, hb⟩ := hb
  refine g_newa (N := 40) at_bool C dX16_init_145 (by decide) (by decide) (by decide) (by rw [hmc_of hΓ]; exact q86) (by rw [hms_of hΓ]; exact q87) (fun b88 q89 => ?_)
  replace hb := hb b88 (by rw [zK_uFr] at q89; exact q89)
  obtain ⟨q90, hb⟩ := hb
  refine g_putFR (some b88) C fo_RX16_161 dX16_init_147 q90 rfl rfl rfl rfl ?_
  refine g_aload_n (some v0) C dX16_init_150 0 rfl ?_
  obtain ⟨q91, q92, hb⟩ := hb
  refine g_new zc_13 zd_13 ⟨_, rfl⟩ wd_1114 wd_1115 wd_82 C dX16_init_151 (by rw [hmc_of hΓ]; exact q91) (by rw [hms_of hΓ]; exact q92) (fun b93 q94 => ?_)
  replace hb := hb b93 (by rw [zK_uFr] at q94; exact q94)
  refine g_dup C dX16_init_154 rfl ?_
  obtain ⟨q95, q96, hb⟩ := hb
  refine g_invI [] [.ref b93, .ref v0] zy_X13_init wd_1153 wd_1154 rfl C dX16_init_155 (by first | exact Nat.le_of_ble_eq_true rfl | simp [cat_rf]) (by first | exact Nat.le_of_ble_eq_true rfl | simp [cat_rf]) (by first | exact Nat.le_of_ble_eq_true rfl | simp [cat_rf]) (by rw [hmc_of hΓ]; exact q95) (by rw [hms_of hΓ]; exact q96) rfl rfl  (okX13_init hb) ?_
  rintro o σ97 ⟨rfl, hb⟩
  refine ⟨_, rfl, ?_⟩
  obtain ⟨q98, hb⟩ := hb
  refine g_putFR (some b93) C fo_RX16_184 dX16_init_158 q98 rfl rfl rfl rfl ?_
  refine g_aload_n (some v0) C dX16_init_161 0 rfl ?_
  refine g_bipush (v := 40) C dX16_init_162 (by decide) ?_
  obtain ⟨q99, q100, hb⟩ := hb
  refine g_newq (N := 40) el_30 (fun r hr => by cases hr; rfl) wd_1180 (by decide) C dX16_init_164 (by decide) (by decide) (by decide) (by rw [hmc_of hΓ]; exact q99) (by rw [hms_of hΓ]; exact q100) (fun b101 q102 => ?_)
  replace hb := hb b101 (by rw [zK_uFr] at q102; exact q102)
  obtain ⟨q103, hb⟩ := hb
  refine g_putFR (some b101) C fo_RX16_188 dX16_init_167 q103 rfl rfl rfl rfl ?_
  refine g_aload_n (some v0) C dX16_init_170 0 rfl ?_
  obtain ⟨q104, q105, hb⟩ := hb
  refine g_new zc_14 zd_14 ⟨_, rfl⟩ wd_1180 wd_1182 wd_83 C dX16_init_171 (by rw [hmc_of hΓ]; exact q104) (by rw [hms_of hΓ]; exact q105) (fun b106 q107 => ?_)
  replace hb := hb b106 (by rw [zK_uFr] at q107; exact q107)
  refine g_dup C dX16_init_174 rfl ?_
  obtain ⟨m108, m109, q110, q111, hb⟩ := hb
  refine g_invIN [] [.ref b106, .ref v0] zy_X14_init wn_1183 wd_1184 rfl C dX16_init_175 (by first | exact Nat.le_of_ble_eq_true rfl | simp [cat_rf]) (by first | exact Nat.le_of_ble_eq_true rfl | simp [cat_rf]) (by first | exact Nat.le_of_ble_eq_true rfl | simp [cat_rf]) (by rw [hmc_of hΓ]; exact q110) (by rw [hms_of hΓ]; exact q111) rfl rfl  (okX14_init hb) ?_
  rintro o σ112 ⟨rfl, hb⟩
  refine ⟨_, rfl, ?_⟩
  obtain ⟨q113, hb⟩ := hb
  refine g_putFR (some b106) C fo_RX16_31 dX16_init_178 q113 rfl rfl rfl rfl ?_
  refine g_aload_n (some v0) C dX16_init_181 0 rfl ?_
  obtain ⟨q114, q115, hb⟩ := hb
  refine g_new zc_14 zd_14 ⟨_, rfl⟩ wd_1180 wd_1182 wd_83 C dX16_init_182 (by rw [hmc_of hΓ]; exact q114) (by rw [hms_of hΓ]; exact q115) (fun b116 q117 => ?_)
  replace hb := hb b116 (by rw [zK_uFr] at q117; exact q117)
  refine g_dup C dX16_init_185 rfl ?_
  obtain ⟨m118, m119, q120, q121, hb⟩ := hb
  refine g_invIN [] [.ref b116, .ref v0] zy_X14_init wn_1183 wd_1184 rfl C dX16_init_186 (by first | exact Nat.le_of_ble_eq_true rfl | simp [cat_rf]) (by first | exact Nat.le_of_ble_eq_true rfl | simp [cat_rf]) (by first | exact Nat.le_of_ble_eq_true rfl | simp [cat_rf]) (by rw [hmc_of hΓ]; exact q120) (by rw [hms_of hΓ]; exact q121) rfl rfl  (okX14_init hb) ?_
  rintro o σ122 ⟨rfl, hb⟩
  refine ⟨_, rfl, ?_⟩
  obtain ⟨q123, hb⟩ := hb
  refine g_putFR (some b116) C fo_RX16_193 dX16_init_189 q123 rfl rfl rfl rfl ?_
  refine g_aload_n (some v0) C dX16_init_192 0 rfl ?_
  refine g_bipush (v := 20) C dX16_init_193 (by decide) ?_
  obtain ⟨q124, q125, hb⟩ := hb
  refine g_newq (N := 20) el_31 (fun r hr => by cases hr; rfl) wd_1220 (by decide) C dX16_init_195 (by decide) (by decide) (by decide) (by rw [hmc_of hΓ]; exact q124) (by rw [hms_of hΓ]; exact q125) (fun b126 q127 => ?_)
  replace hb := hb b126 (by rw [zK_uFr] at q127; exact q127)
  obtain ⟨q128, hb⟩ := hb
  refine g_putFR (some b126) C fo_RX16_58 dX16_init_198 q128 rfl rfl rfl rfl ?_
  refine g_aload_n (some v0) C dX16_init_201 0 rfl ?_
  refine g_sipush (v := 8208) C dX16_init_202 (by decide) ?_
  obtain ⟨q129, q130, hb⟩ := hb
  refine g_newa (N := 8208) at_long C dX16_init_205 (by decide) (by decide) (by decide) (by rw [hmc_of hΓ]; exact q129) (by rw [hms_of hΓ]; exact q130) (fun b131 q132 => ?_)
  replace hb := hb b131 (by rw [zK_uFr] at q132; exact q132)
  obtain ⟨q133, hb⟩ := hb
  refine g_putFR (some b131) C fo_RX16_196 dX16_init_207 q133 rfl rfl rfl rfl ?_
  refine g_aload_n (some v0) C dX16_init_210 0 rfl ?_
  refine g_bipush (v := 6) C dX16_init_211 (by decide) ?_
  obtain ⟨q134, q135, hb⟩ := hb
  refine g_newa (N := 6) at_int C dX16_init_213 (by decide) (by decide) (by decide) (by rw [hmc_of hΓ]; exact q134) (by rw [hms_of hΓ]; exact q135) (fun b136 q137 => ?_)
  replace hb := hb b136 (by rw [zK_uFr] at q137; exact q137)
  obtain ⟨q138, hb⟩ := hb
  refine g_putFR (some b136) C fo_RX16_200 dX16_init_215 q138 rfl rfl rfl rfl ?_
  refine g_aload_n (some v0) C dX16_init_218 0 rfl ?_
  refine g_bipush (v := 32) C dX16_init_219 (by decide) ?_
  obtain ⟨q139, q140, hb⟩ := hb
  refine g_newa (N := 32) at_int C dX16_init_221 (by decide) (by decide) (by decide) (by rw [hmc_of hΓ]; exact q139) (by rw [hms_of hΓ]; exact q140) (fun b141 q142 => ?_)
  replace hb := hb b141 (by rw [zK_uFr] at q142; exact q142)
  obtain ⟨q143, hb⟩ := hb
  refine g_putFR (some b141) C fo_RX16_203 dX16_init_223 q143 rfl rfl rfl rfl ?_
  refine g_aload_n (some v0) C dX16_init_226 0 rfl ?_
  refine g_bipush (v := 40) C dX16_init_227 (by decide) ?_
  obtain ⟨q144, q145, hb⟩ := hb
  refine g_newa (N := 40) at_bool C dX16_init_229 (by decide) (by decide) (by decide) (by rw [hmc_of hΓ]; exact q144) (by rw [hms_of hΓ]; exact q145) (fun b146 q147 => ?_)
  replace hb := hb b146 (by rw [zK_uFr] at q147; exact q147)
  obtain ⟨q148, hb⟩ := hb
  refine g_putFR (some b146) C fo_RX16_206 dX16_init_231 q148 rfl rfl rfl rfl ?_
  refine g_aload_n (some v0) C dX16_init_234 0 rfl ?_
  refine g_bipush (v := 32) C dX16_init_235 (by decide) ?_
  obtain ⟨q149, q150, hb⟩ := hb
  refine g_newa (N := 32) at_bool C dX16_init_237 (by decide) (by decide) (by decide) (by rw [hmc_of hΓ]; exact q149) (by rw [hms_of hΓ]; exact q150) (fun b151 q152 => ?_)
  replace hb := hb b151 (by rw [zK_uFr] at q152; exact q152)
  obtain ⟨q153, hb⟩ := hb
  refine g_putFR (some b151) C fo_RX16_209 dX16_init_239 q153 rfl rfl rfl rfl ?_
  refine g_aload_n (some v0) C dX16_init_242 0 rfl ?_
  refine g_bipush (v := 16) C dX16_init_243 (by decide) ?_
  obtain ⟨q154, q155, hb⟩ := hb
  refine g_newa (N := 16) at_int C dX16_init_245 (by decide) (by decide) (by decide) (by rw [hmc_of hΓ]; exact q154) (by rw [hms_of hΓ]; exact q155) (fun b156 q157 => ?_)
  replace hb := hb b156 (by rw [zK_uFr] at q157; exact q157)
  obtain ⟨q158, hb⟩ := hb
  refine g_putFR (some b156) C fo_RX16_212 dX16_init_247 q158 rfl rfl rfl rfl ?_
  refine g_aload_n (some v0) C dX16_init_250 0 rfl ?_
  refine g_bipush (v := 16) C dX16_init_251 (by decide) ?_
  obtain ⟨q159, q160, hb⟩ := hb
  refine g_newa (N := 16) at_int C dX16_init_253 (by decide) (by decide) (by decide) (by rw [hmc_of hΓ]; exact q159) (by rw [hms_of hΓ]; exact q160) (fun b161 q162 => ?_)
  replace hb := hb b161 (by rw [zK_uFr] at q162; exact q162)
  obtain ⟨q163, hb⟩ := hb
  refine g_putFR (some b161) C fo_RX16_215 dX16_init_255 q163 rfl rfl rfl rfl ?_
  refine g_aload_n (some v0) C dX16_init_258 0 rfl ?_
  refine g_bipush (v := 16) C dX16_init_259 (by decide) ?_
  obtain ⟨q164, q165, hb⟩ := hb
  refine g_newa (N := 16) at_int C dX16_init_261 (by decide) (by decide) (by decide) (by rw [hmc_of hΓ]; exact q164) (by rw [hms_of hΓ]; exact q165) (fun b166 q167 => ?_)
  replace hb := hb b166 (by rw [zK_uFr] at q167; exact q167)
  obtain ⟨q168, hb⟩ := hb
  refine g_putFR (some b166) C fo_RX16_218 dX16_init_263 q168 rfl rfl rfl rfl ?_
  refine g_iconst (v := 0) C dX16_init_266 (by decide) ?_
  refine g_istore_n (i := 1) (lv' := [(1, .int 0), (0, .ref v0)]) C dX16_init_267 rfl (hnl_of hΓ (by decide)) (by first | rfl | simp [cat_rf]) ?_
  refine g_sub (lv' := [(0, .ref v0), (1, .int 0)]) [1, 0] rfl ?_
  obtain ⟨f169, hb⟩ := hb
  exact klX16_init_268 C hΓ  f169 _ _ _ _ _ hb
theorem okX16_init {mc ms : Nat} {v0 : Nat} {σ : St} {Q : St → Prop} (hb : wX16_init mc ms v0 σ Q) : hM yX16_init cX16_init 2 ((Option.none : Option Jvm.ClassFile.FieldType)) 5 104 mc ms [.ref v0] σ (oV Q) :=
  hM_of (by decide) (Nat.le_of_ble_eq_true rfl) (fun Γ hΓ C => kwX16_init_0 (mc := mc) (ms := ms) C hΓ 0 0 _ _ hb)
def wX14_find_64 (Q : Int32 → St → Prop) (r2 : Nat → Nat → Int32 → Int32 → St → Prop) (v0 : Nat) (v1 : Nat) (v2 : Int32) (v3 : Int32) (v4 : Int32) (σ : St) : Prop :=
  ((v4 = 0 → r2 v0 v1 v2 (v3 + 1) σ) ∧ (¬ v4 = 0 → Q v3 σ))
def wX14_find_16 (Q : Int32 → St → Prop) (r2 : Nat → Nat → Int32 → Int32 → St → Prop) (r16 : Nat → Nat → Int32 → Int32 → Int32 → Int32 → St → Prop) (v0 : Nat) (v1 : Nat) (v2 : Int32) (v3 : Int32) (v4 : Int32) (v5 : Int32) (σ : St) : Prop :=
  zK σ v0 = 15 ∧ (((zFi σ 897 v0) ≤ v5 → wX14_find_64 Q r2 v0 v1 v2 v3 v4 σ) ∧ (¬ (zFi σ 897 v0) ≤ v5 → ((v4 = 0 → wX14_find_64 Q r2 v0 v1 v2 v3 v4 σ) ∧ (¬ v4 = 0 → ∃ a2 : Nat, zFr σ 898 v0 = some a2 ∧ zK σ a2 = 20 ∧ vp_in ((6 * v3) + v5) (zL σ a2) ∧ zK σ v1 = 20 ∧ vp_in (v2 + v5) (zL σ v1) ∧ ((¬ (zAi σ a2 (ix ((6 * v3) + v5))) = (zAi σ v1 (ix (v2 + v5))) → r16 v0 v1 v2 v3 0 (v5 + 1) σ) ∧ ((zAi σ a2 (ix ((6 * v3) + v5))) = (zAi σ v1 (ix (v2 + v5))) → r16 v0 v1 v2 v3 1 (v5 + 1) σ))))))
def lX14_find_16 (Q : Int32 → St → Prop) (r2 : Nat → Nat → Int32 → Int32 → St → Prop) : Nat → Nat → Nat → Int32 → Int32 → Int32 → Int32 → St → Prop
  | 0, _, _, _, _, _, _, _ => False
  | f + 1, v0, v1, v2, v3, v4, v5, σ => wX14_find_16 Q r2 (lX14_find_16 Q r2 f) v0 v1 v2 v3 v4 v5 σ
def wX14_find_2 (Q : Int32 → St → Prop) (r2 : Nat → Nat → Int32 → Int32 → St → Prop) (v0 : Nat) (v1 : Nat) (v2 : Int32) (v3 : Int32) (σ : St) : Prop :=
  zK σ v0 = 15 ∧ (((zFi σ 896 v0) ≤ v3 → Q (-1) σ) ∧ (¬ (zFi σ 896 v0) ≤ v3 → ∃ f, lX14_find_16 Q r2 f v0 v1 v2 v3 1 0 σ))
def lX14_find_2 (Q : Int32 → St → Prop) : Nat → Nat → Nat → Int32 → Int32 → St → Prop
  | 0, _, _, _, _, _ => False
  | f + 1, v0, v1, v2, v3, σ => wX14_find_2 Q (lX14_find_2 Q f) v0 v1 v2 v3 σ
def wX14_find_0 (Q : Int32 → St → Prop) (v0 : Nat) (v1 : Nat) (v2 : Int32) (σ : St) : Prop :=
  ∃ f, lX14_find_2 Q f v0 v1 v2 0 σ
def wX14_find (v0 : Nat) (v1 : Nat) (v2 : Int32) (σ : St) (Q : Int32 → St → Prop) : Prop := wX14_find_0 Q v0 v1 v2 σ
set_option maxRecDepth 20000 in
theorem kwX14_find_64 {Γ : hCT} (C : hC Γ RX14 cX14_find ((Option.some FieldType.int)) "find" 0 0) {Q : Int32 → St → Prop} (hΓ : Γ.2.2.2.2.2.2.2.2.2.2.2 = (6, 0, 0, oI Q)) {r2 : Nat → Nat → Int32 → Int32 → St → Prop} (h2 : ∀ (v0 : Nat) (v1 : Nat) (v2 : Int32) (v3 : Int32) (σ : St), r2 v0 v1 v2 v3 σ → hW Γ 0 0 2 [(0, .ref v0), (1, .ref v1), (2, .int v2), (3, .int v3)] [] σ) (v0 : Nat) (v1 : Nat) (v2 : Int32) (v3 : Int32) (v4 : Int32) (σ : St) (hb : wX14_find_64 Q r2 v0 v1 v2 v3 v4 σ) : hW Γ 0 0 64 [(0, .ref v0), (1, .ref v1), (2, .int v2), (3, .int v3), (4, .int v4)] [] σ := by
  unfold wX14_find_64 at hb
  refine g_iload C dX14_find_64 4 rfl ?_
  refine g_if_eq (tgt := 71) C dX14_find_66 (by decide) (fun c => ?_) (fun c => ?_)
  ·
    replace hb := hb.1 (c)
    refine g_iinc (v := v3 + 1) (lv' := [(3, .int (v3 + 1)), (0, .ref v0), (1, .ref v1), (2, .int v2), (4, .int v4)]) C dX14_find_71 3 rfl rfl (hnl_of hΓ (by decide)) (by first | rfl | simp [cat_rf]) ?_
    refine g_goto (tgt := 2) C dX14_find_74 (by decide) ?_
    refine g_sub (lv' := [(0, .ref v0), (1, .ref v1), (2, .int v2), (3, .int (v3 + 1))]) [1, 2, 3, 0] rfl ?_
    exact h2 _ _ _ _ _ hb
  ·
    replace hb := hb.2 (c)
    refine g_iload_n C dX14_find_69 3 rfl ?_
    exact g_ireturn C hΓ (Nat.zero_le _) (Nat.zero_le _) dX14_find_70 ⟨_, rfl, hb⟩
set_option maxRecDepth 20000 in
theorem kwX14_find_16 {Γ : hCT} (C : hC Γ RX14 cX14_find ((Option.some FieldType.int)) "find" 0 0) {Q : Int32 → St → Prop} (hΓ : Γ.2.2.2.2.2.2.2.2.2.2.2 = (6, 0, 0, oI Q)) {r2 : Nat → Nat → Int32 → Int32 → St → Prop} (h2 : ∀ (v0 : Nat) (v1 : Nat) (v2 : Int32) (v3 : Int32) (σ : St), r2 v0 v1 v2 v3 σ → hW Γ 0 0 2 [(0, .ref v0), (1, .ref v1), (2, .int v2), (3, .int v3)] [] σ) {r16 : Nat → Nat → Int32 → Int32 → Int32 → Int32 → St → Prop} (h16 : ∀ (v0 : Nat) (v1 : Nat) (v2 : Int32) (v3 : Int32) (v4 : Int32) (v5 : Int32) (σ : St), r16 v0 v1 v2 v3 v4 v5 σ → hW Γ 0 0 16 [(0, .ref v0), (1, .ref v1), (2, .int v2), (3, .int v3), (4, .int v4), (5, .int v5)] [] σ) (v0 : Nat) (v1 : Nat) (v2 : Int32) (v3 : Int32) (v4 : Int32) (v5 : Int32) (σ : St) (hb : wX14_find_16 Q r2 r16 v0 v1 v2 v3 v4 v5 σ) : hW Γ 0 0 16 [(0, .ref v0), (1, .ref v1), (2, .int v2), (3, .int v3), (4, .int v4), (5, .int v5)] [] σ := by
  unfold wX14_find_16 at hb
  refine g_iload C dX14_find_16 5 rfl ?_
  refine g_aload_n (some v0) C dX14_find_18 0 rfl ?_
  obtain ⟨q1, hb⟩ := hb
  refine g_getIx (zFi σ 897 v0) C fl_RX14_36 dX14_find_19 q1 rfl rfl rfl ?_
  refine g_icmp_ge (tgt := 64) C dX14_find_22 (by decide) (fun c => ?_) (fun c => ?_)
  ·
    replace hb := hb.1 (c)
    refine g_sub (lv' := [(0, .ref v0), (1, .ref v1), (2, .int v2), (3, .int v3), (4, .int v4)]) [0, 1, 2, 3, 4] rfl ?_
    exact kwX14_find_64 C hΓ h2 _ _ _ _ _ _ hb
  ·
    replace hb := hb.2 (c)
    refine g_iload C dX14_find_25 4 rfl ?_
    refine g_if_eq (tgt := 64) C dX14_find_27 (by decide) (fun c => ?_) (fun c => ?_)
    ·
      replace hb := hb.1 (c)
      refine g_sub (lv' := [(0, .ref v0), (1, .ref v1), (2, .int v2), (3, .int v3), (4, .int v4)]) [0, 1, 2, 3, 4] rfl ?_
      exact kwX14_find_64 C hΓ h2 _ _ _ _ _ _ hb
    ·
      replace hb := hb.2 (c)
      refine g_aload_n (some v0) C dX14_find_30 0 rfl ?_
      obtain ⟨a2, q3, hb⟩ := hb
      refine g_getR (some a2) C fl_RX14_9 dX14_find_31 q1 rfl rfl q3 ?_
      refine g_bipush (v := 6) C dX14_find_34 (by decide) ?_
      refine g_iload_n C dX14_find_36 3 rfl ?_
      refine g_imul C dX14_find_37 ?_
      refine g_iload C dX14_find_38 5 rfl ?_
      refine g_iadd C dX14_find_40 ?_
      obtain ⟨q4, hb⟩ := hb
      obtain ⟨q5, hb⟩ := hb
      refine g_ialdx (zAi σ a2 (ix ((6 * v3) + v5))) C dX14_find_41 q4 q5 rfl ?_
      refine g_aload_n (some v1) C dX14_find_42 1 rfl ?_
      refine g_iload_n C dX14_find_43 2 rfl ?_
      refine g_iload C dX14_find_44 5 rfl ?_
      refine g_iadd C dX14_find_46 ?_
      obtain ⟨q6, hb⟩ := hb
      obtain ⟨q7, hb⟩ := hb
      refine g_ialdx (zAi σ v1 (ix (v2 + v5))) C dX14_find_47 q6 q7 rfl ?_
      refine g_icmp_ne (tgt := 55) C dX14_find_48 (by decide) (fun c => ?_) (fun c => ?_)
      ·
        replace hb := hb.1 (c)
        refine g_iconst (v := 0) C dX14_find_55 (by decide) ?_
        refine g_istore (lv' := [(4, .int 0), (0, .ref v0), (1, .ref v1), (2, .int v2), (3, .int v3), (5, .int v5)]) C dX14_find_56 (hnl_of hΓ (by decide)) (by first | rfl | simp [cat_rf]) ?_
        refine g_iinc (v := v5 + 1) (lv' := [(5, .int (v5 + 1)), (4, .int 0), (0, .ref v0), (1, .ref v1), (2, .int v2), (3, .int v3)]) C dX14_find_58 5 rfl rfl (hnl_of hΓ (by decide)) (by first | rfl | simp [cat_rf]) ?_
        refine g_goto (tgt := 16) C dX14_find_61 (by decide) ?_
        refine g_sub (lv' := [(0, .ref v0), (1, .ref v1), (2, .int v2), (3, .int v3), (4, .int 0), (5, .int (v5 + 1))]) [2, 3, 4, 5, 1, 0] rfl ?_
        exact h16 _ _ _ _ _ _ _ hb
      ·
        replace hb := hb.2 (c)
        refine g_iconst (v := 1) C dX14_find_51 (by decide) ?_
        refine g_goto (tgt := 56) C dX14_find_52 (by decide) ?_
        refine g_istore (lv' := [(4, .int 1), (0, .ref v0), (1, .ref v1), (2, .int v2), (3, .int v3), (5, .int v5)]) C dX14_find_56 (hnl_of hΓ (by decide)) (by first | rfl | simp [cat_rf]) ?_
        refine g_iinc (v := v5 + 1) (lv' := [(5, .int (v5 + 1)), (4, .int 1), (0, .ref v0), (1, .ref v1), (2, .int v2), (3, .int v3)]) C dX14_find_58 5 rfl rfl (hnl_of hΓ (by decide)) (by first | rfl | simp [cat_rf]) ?_
        refine g_goto (tgt := 16) C dX14_find_61 (by decide) ?_
        refine g_sub (lv' := [(0, .ref v0), (1, .ref v1), (2, .int v2), (3, .int v3), (4, .int 1), (5, .int (v5 + 1))]) [2, 3, 4, 5, 1, 0] rfl ?_
        exact h16 _ _ _ _ _ _ _ hb
theorem klX14_find_16 {Γ : hCT} (C : hC Γ RX14 cX14_find ((Option.some FieldType.int)) "find" 0 0) {Q : Int32 → St → Prop} (hΓ : Γ.2.2.2.2.2.2.2.2.2.2.2 = (6, 0, 0, oI Q)) {r2 : Nat → Nat → Int32 → Int32 → St → Prop} (h2 : ∀ (v0 : Nat) (v1 : Nat) (v2 : Int32) (v3 : Int32) (σ : St), r2 v0 v1 v2 v3 σ → hW Γ 0 0 2 [(0, .ref v0), (1, .ref v1), (2, .int v2), (3, .int v3)] [] σ) (f : Nat) (v0 : Nat) (v1 : Nat) (v2 : Int32) (v3 : Int32) (v4 : Int32) (v5 : Int32) (σ : St) (hb : lX14_find_16 Q r2 f v0 v1 v2 v3 v4 v5 σ) : hW Γ 0 0 16 [(0, .ref v0), (1, .ref v1), (2, .int v2), (3, .int v3), (4, .int v4), (5, .int v5)] [] σ := by
  induction f generalizing v0 v1 v2 v3 v4 v5 σ with
  | zero => exact hb.elim
  | succ f ih => exact kwX14_find_16 C hΓ h2 (fun v0 v1 v2 v3 v4 v5 σ h => ih v0 v1 v2 v3 v4 v5 σ h) _ _ _ _ _ _ _ hb
set_option maxRecDepth 20000 in
theorem kwX14_find_2 {Γ : hCT} (C : hC Γ RX14 cX14_find ((Option.some FieldType.int)) "find" 0 0) {Q : Int32 → St → Prop} (hΓ : Γ.2.2.2.2.2.2.2.2.2.2.2 = (6, 0, 0, oI Q)) {r2 : Nat → Nat → Int32 → Int32 → St → Prop} (h2 : ∀ (v0 : Nat) (v1 : Nat) (v2 : Int32) (v3 : Int32) (σ : St), r2 v0 v1 v2 v3 σ → hW Γ 0 0 2 [(0, .ref v0), (1, .ref v1), (2, .int v2), (3, .int v3)] [] σ) (v0 : Nat) (v1 : Nat) (v2 : Int32) (v3 : Int32) (σ : St) (hb : wX14_find_2 Q r2 v0 v1 v2 v3 σ) : hW Γ 0 0 2 [(0, .ref v0), (1, .ref v1), (2, .int v2), (3, .int v3)] [] σ := by
  unfold wX14_find_2 at hb
  refine g_iload_n C dX14_find_2 3 rfl ?_
  refine g_aload_n (some v0) C dX14_find_3 0 rfl ?_
  obtain ⟨q1, hb⟩ := hb
  refine g_getIx (zFi σ 896 v0) C fl_RX14_32 dX14_find_4 q1 rfl rfl rfl ?_
  refine g_icmp_ge (tgt := 77) C dX14_find_7 (by decide) (fun c => ?_) (fun c => ?_)
  ·
    replace hb := hb.1 (c)
    refine g_iconst (v := (-1)) C dX14_find_77 (by decide) ?_
    exact g_ireturn C hΓ (Nat.zero_le _) (Nat.zero_le _) dX14_find_78 ⟨_, rfl, hb⟩
  ·
    replace hb := hb.2 (c)
    refine g_iconst (v := 1) C dX14_find_10 (by decide) ?_
    refine g_istore (lv' := [(4, .int 1), (0, .ref v0), (1, .ref v1), (2, .int v2), (3, .int v3)]) C dX14_find_11 (hnl_of hΓ (by decide)) (by first | rfl | simp [cat_rf]) ?_
    refine g_iconst (v := 0) C dX14_find_13 (by decide) ?_
    refine g_istore (lv' := [(5, .int 0), (4, .int 1), (0, .ref v0), (1, .ref v1), (2, .int v2), (3, .int v3)]) C dX14_find_14 (hnl_of hΓ (by decide)) (by first | rfl | simp [cat_rf]) ?_
    refine g_sub (lv' := [(0, .ref v0), (1, .ref v1), (2, .int v2), (3, .int v3), (4, .int 1), (5, .int 0)]) [2, 3, 4, 5, 1, 0] rfl ?_
    obtain ⟨f2, hb⟩ := hb
    exact klX14_find_16 C hΓ h2 f2 _ _ _ _ _ _ _ hb
theorem klX14_find_2 {Γ : hCT} (C : hC Γ RX14 cX14_find ((Option.some FieldType.int)) "find" 0 0) {Q : Int32 → St → Prop} (hΓ : Γ.2.2.2.2.2.2.2.2.2.2.2 = (6, 0, 0, oI Q)) (f : Nat) (v0 : Nat) (v1 : Nat) (v2 : Int32) (v3 : Int32) (σ : St) (hb : lX14_find_2 Q f v0 v1 v2 v3 σ) : hW Γ 0 0 2 [(0, .ref v0), (1, .ref v1), (2, .int v2), (3, .int v3)] [] σ := by
  induction f generalizing v0 v1 v2 v3 σ with
  | zero => exact hb.elim
  | succ f ih => exact kwX14_find_2 C hΓ  (fun v0 v1 v2 v3 σ h => ih v0 v1 v2 v3 σ h) _ _ _ _ _ hb
set_option maxRecDepth 20000 in
theorem kwX14_find_0 {Γ : hCT} (C : hC Γ RX14 cX14_find ((Option.some FieldType.int)) "find" 0 0) {Q : Int32 → St → Prop} (hΓ : Γ.2.2.2.2.2.2.2.2.2.2.2 = (6, 0, 0, oI Q)) (v0 : Nat) (v1 : Nat) (v2 : Int32) (σ : St) (hb : wX14_find_0 Q v0 v1 v2 σ) : hW Γ 0 0 0 [(0, .ref v0), (1, .ref v1), (2, .int v2)] [] σ := by
  unfold wX14_find_0 at hb
  refine g_iconst (v := 0) C dX14_find_0 (by decide) ?_
  refine g_istore_n (i := 3) (lv' := [(3, .int 0), (0, .ref v0), (1, .ref v1), (2, .int v2)]) C dX14_find_1 rfl (hnl_of hΓ (by decide)) (by first | rfl | simp [cat_rf]) ?_
  refine g_sub (lv' := [(0, .ref v0), (1, .ref v1), (2, .int v2), (3, .int 0)]) [1, 2, 3, 0] rfl ?_
  obtain ⟨f1, hb⟩ := hb
  exact klX14_find_2 C hΓ  f1 _ _ _ _ _ hb
theorem okX14_find {v0 : Nat} {v1 : Nat} {v2 : Int32} {σ : St} {Q : Int32 → St → Prop} (hb : wX14_find v0 v1 v2 σ Q) : hM yX14_find cX14_find 6 ((Option.some FieldType.int)) 0 0 0 0 [.ref v0, .ref v1, .int v2] σ (oI Q) :=
  hM_of (by decide) (Nat.le_of_ble_eq_true rfl) (fun Γ hΓ C => kwX14_find_0 C hΓ _ _ _ _ hb)
def wX16_adds_33 (Q : Int32 → St → Prop) (E : St → Prop) (r33 : Nat → Nat → Int32 → Int32 → Int32 → St → Prop) (v1 : Nat) (v2 : Nat) (v3 : Int32) (v4 : Int32) (v5 : Int32) (σ : St) : Prop :=
  zK σ v1 = 15 ∧ (((zFi σ 897 v1) ≤ v5 → ∃ a2 : Nat, zFr σ 899 v1 = some a2 ∧ zK σ a2 = 20 ∧ vp_in v4 (zL σ a2) ∧ ∃ a6 : Nat, zFr σ 902 v1 = some a6 ∧ zK σ a6 = 21 ∧ vp_in v4 (zL σ a6) ∧ ∃ a10 : Nat, zFr σ 900 v1 = some a10 ∧ zK σ a10 = 20 ∧ vp_in v4 (zL σ a10) ∧ ∃ a14 : Nat, zFr σ 903 v1 = some a14 ∧ zK σ a14 = 22 ∧ vp_in v4 (zL σ a14) ∧ Q v4 (uAd (uAi (uAj (uAi σ a2 (ix v4) 0) a6 (ix v4) 0) a10 (ix v4) 1000000000) a14 (ix v4) FP.dconst0)) ∧ (¬ (zFi σ 897 v1) ≤ v5 → ∃ a18 : Nat, zFr σ 898 v1 = some a18 ∧ zK σ v2 = 20 ∧ vp_in (v3 + v5) (zL σ v2) ∧ zK σ a18 = 20 ∧ vp_in ((6 * v4) + v5) (zL σ a18) ∧ r33 v1 v2 v3 v4 (v5 + 1) (uAi σ a18 (ix ((6 * v4) + v5)) (zAi σ v2 (ix (v3 + v5))))))
def lX16_adds_33 (Q : Int32 → St → Prop) (E : St → Prop) : Nat → Nat → Nat → Int32 → Int32 → Int32 → St → Prop
  | 0, _, _, _, _, _, _ => False
  | f + 1, v1, v2, v3, v4, v5, σ => wX16_adds_33 Q E (lX16_adds_33 Q E f) v1 v2 v3 v4 v5 σ
def wX16_adds_0 (Q : Int32 → St → Prop) (E : St → Prop) (v0 : Nat) (v1 : Nat) (v2 : Nat) (v3 : Int32) (σ : St) : Prop :=
  zK σ v1 = 15 ∧ ((¬ (zFi σ 896 v1) = (32 : Int32) → ∃ f, lX16_adds_33 Q E f v1 v2 v3 (zFi σ 896 v1) 0 (uFi σ 896 v1 ((zFi σ 896 v1) + 1))) ∧ ((zFi σ 896 v1) = (32 : Int32) → zK σ v0 = 17 ∧ ∃ a4 : Nat, zFr σ 1048 v0 = some a4 ∧ zK σ a4 = 14 ∧ E σ))
def wX16_adds (v0 : Nat) (v1 : Nat) (v2 : Nat) (v3 : Int32) (σ : St) (Q : Int32 → St → Prop) (E : St → Prop) : Prop := wX16_adds_0 Q E v0 v1 v2 v3 σ
set_option maxRecDepth 20000 in
theorem kwX16_adds_33 {Γ : hCT} (C : hC Γ RX16 cX16_adds ((Option.some FieldType.int)) "adds" 0 0) {Q : Int32 → St → Prop} {E : St → Prop} (hΓ : Γ.2.2.2.2.2.2.2.2.2.2.2 = (6, 0, 0, oT (oI Q) E)) (hne : hNE Γ) {r33 : Nat → Nat → Int32 → Int32 → Int32 → St → Prop} (h33 : ∀ (v1 : Nat) (v2 : Nat) (v3 : Int32) (v4 : Int32) (v5 : Int32) (σ : St), r33 v1 v2 v3 v4 v5 σ → hW Γ 0 0 33 [(1, .ref v1), (2, .ref v2), (3, .int v3), (4, .int v4), (5, .int v5)] [] σ) (v1 : Nat) (v2 : Nat) (v3 : Int32) (v4 : Int32) (v5 : Int32) (σ : St) (hb : wX16_adds_33 Q E r33 v1 v2 v3 v4 v5 σ) : hW Γ 0 0 33 [(1, .ref v1), (2, .ref v2), (3, .int v3), (4, .int v4), (5, .int v5)] [] σ := by
  unfold wX16_adds_33 at hb
  refine g_iload C dX16_adds_33 4 rfl ?_
  refine g_aload_n (some v1) C dX16_adds_35 0 rfl ?_
  obtain ⟨q1, hb⟩ := hb
  refine g_getIx (zFi σ 897 v1) C fl_RX16_236 dX16_adds_36 q1 rfl rfl rfl ?_
  refine g_icmp_ge (tgt := 67) C dX16_adds_39 (by decide) (fun c => ?_) (fun c => ?_)
  ·
    replace hb := hb.1 (c)
    refine g_aload_n (some v1) C dX16_adds_67 0 rfl ?_
    obtain ⟨a2, q3, hb⟩ := hb
    refine g_getR (some a2) C fl_RX16_226 dX16_adds_68 q1 rfl rfl q3 ?_
    refine g_iload C dX16_adds_71 3 rfl ?_
    refine g_iconst (v := 0) C dX16_adds_73 (by decide) ?_
    obtain ⟨q4, hb⟩ := hb
    obtain ⟨q5, hb⟩ := hb
    refine g_iast C dX16_adds_74 q4 q5 ?_
    refine g_aload_n (some v1) C dX16_adds_75 0 rfl ?_
    obtain ⟨a6, q7, hb⟩ := hb
    refine g_getR (some a6) C fl_RX16_242 dX16_adds_76 (by rw [zK_uAi]; exact q1) rfl rfl (by rw [zFr_uAi]; exact q7) ?_
    refine g_iload C dX16_adds_79 3 rfl ?_
    refine g_lconst (v := 0) C dX16_adds_81 (by decide) ?_
    obtain ⟨q8, hb⟩ := hb
    obtain ⟨q9, hb⟩ := hb
    refine g_last C dX16_adds_82 (by rw [zK_uAi]; exact q8) (by rw [zL_uAi]; exact q9) ?_
    refine g_aload_n (some v1) C dX16_adds_83 0 rfl ?_
    obtain ⟨a10, q11, hb⟩ := hb
    refine g_getR (some a10) C fl_RX16_245 dX16_adds_84 (by rw [zK_uAj, zK_uAi]; exact q1) rfl rfl (by rw [zFr_uAj, zFr_uAi]; exact q11) ?_
    refine g_iload C dX16_adds_87 3 rfl ?_
    refine g_ldc C wd_1413 dX16_adds_89 ?_
    obtain ⟨q12, hb⟩ := hb
    obtain ⟨q13, hb⟩ := hb
    refine g_iast C dX16_adds_91 (by rw [zK_uAj, zK_uAi]; exact q12) (by rw [zL_uAj, zL_uAi]; exact q13) ?_
    refine g_aload_n (some v1) C dX16_adds_92 0 rfl ?_
    obtain ⟨a14, q15, hb⟩ := hb
    refine g_getR (some a14) C fl_RX16_249 dX16_adds_93 (by rw [zK_uAi, zK_uAj, zK_uAi]; exact q1) rfl rfl (by rw [zFr_uAi, zFr_uAj, zFr_uAi]; exact q15) ?_
    refine g_iload C dX16_adds_96 3 rfl ?_
    refine g_dconst0 C dX16_adds_98 ?_
    obtain ⟨q16, hb⟩ := hb
    obtain ⟨q17, hb⟩ := hb
    refine g_dast C dX16_adds_99 (by rw [zK_uAi, zK_uAj, zK_uAi]; exact q16) (by rw [zL_uAi, zL_uAj, zL_uAi]; exact q17) ?_
    refine g_iload C dX16_adds_100 3 rfl ?_
    exact g_ireturn C hΓ (Nat.zero_le _) (Nat.zero_le _) dX16_adds_102 (Or.inl ⟨_, rfl, hb⟩)
  ·
    replace hb := hb.2 (c)
    refine g_aload_n (some v1) C dX16_adds_42 0 rfl ?_
    obtain ⟨a18, q19, hb⟩ := hb
    refine g_getR (some a18) C fl_RX16_239 dX16_adds_43 q1 rfl rfl q19 ?_
    refine g_bipush (v := 6) C dX16_adds_46 (by decide) ?_
    refine g_iload C dX16_adds_48 3 rfl ?_
    refine g_imul C dX16_adds_50 ?_
    refine g_iload C dX16_adds_51 4 rfl ?_
    refine g_iadd C dX16_adds_53 ?_
    refine g_aload_n (some v2) C dX16_adds_54 1 rfl ?_
    refine g_iload_n C dX16_adds_55 2 rfl ?_
    refine g_iload C dX16_adds_56 4 rfl ?_
    refine g_iadd C dX16_adds_58 ?_
    obtain ⟨q20, hb⟩ := hb
    obtain ⟨q21, hb⟩ := hb
    refine g_ialdx (zAi σ v2 (ix (v3 + v5))) C dX16_adds_59 q20 q21 rfl ?_
    obtain ⟨q22, hb⟩ := hb
    obtain ⟨q23, hb⟩ := hb
    refine g_iast C dX16_adds_60 q22 q23 ?_
    refine g_iinc (v := v5 + 1) (lv' := [(5, .int (v5 + 1)), (1, .ref v1), (2, .ref v2), (3, .int v3), (4, .int v4)]) C dX16_adds_61 4 rfl rfl (hnl_of hΓ (by decide)) (by first | rfl | simp [cat_rf]) ?_
    refine g_goto (tgt := 33) C dX16_adds_64 (by decide) ?_
    refine g_sub (lv' := [(1, .ref v1), (2, .ref v2), (3, .int v3), (4, .int v4), (5, .int (v5 + 1))]) [1, 2, 3, 4, 0] rfl ?_
    exact h33 _ _ _ _ _ _ hb
theorem klX16_adds_33 {Γ : hCT} (C : hC Γ RX16 cX16_adds ((Option.some FieldType.int)) "adds" 0 0) {Q : Int32 → St → Prop} {E : St → Prop} (hΓ : Γ.2.2.2.2.2.2.2.2.2.2.2 = (6, 0, 0, oT (oI Q) E)) (hne : hNE Γ) (f : Nat) (v1 : Nat) (v2 : Nat) (v3 : Int32) (v4 : Int32) (v5 : Int32) (σ : St) (hb : lX16_adds_33 Q E f v1 v2 v3 v4 v5 σ) : hW Γ 0 0 33 [(1, .ref v1), (2, .ref v2), (3, .int v3), (4, .int v4), (5, .int v5)] [] σ := by
  induction f generalizing v1 v2 v3 v4 v5 σ with
  | zero => exact hb.elim
  | succ f ih => exact kwX16_adds_33 C hΓ hne  (fun v1 v2 v3 v4 v5 σ h => ih v1 v2 v3 v4 v5 σ h) _ _ _ _ _ _ hb
set_option maxRecDepth 20000 in
theorem kwX16_adds_0 {Γ : hCT} (C : hC Γ RX16 cX16_adds ((Option.some FieldType.int)) "adds" 0 0) {Q : Int32 → St → Prop} {E : St → Prop} (hΓ : Γ.2.2.2.2.2.2.2.2.2.2.2 = (6, 0, 0, oT (oI Q) E)) (hne : hNE Γ) (v0 : Nat) (v1 : Nat) (v2 : Nat) (v3 : Int32) (σ : St) (hb : wX16_adds_0 Q E v0 v1 v2 v3 σ) : hW Γ 0 0 0 [(0, .ref v0), (1, .ref v1), (2, .ref v2), (3, .int v3)] [] σ := by
  unfold wX16_adds_0 at hb
  refine g_aload_n (some v1) C dX16_adds_0 1 rfl ?_
  obtain ⟨q1, hb⟩ := hb
  refine g_getIx (zFi σ 896 v1) C fl_RX16_35 dX16_adds_1 q1 rfl rfl rfl ?_
  refine g_bipush (v := 32) C dX16_adds_4 (by decide) ?_
  refine g_icmp_ne (tgt := 14) C dX16_adds_6 (by decide) (fun c => ?_) (fun c => ?_)
  ·
    replace hb := hb.1 (c)
    refine g_aload_n (some v1) C dX16_adds_14 1 rfl ?_
    refine g_getIx (zFi σ 896 v1) C fl_RX16_35 dX16_adds_15 q1 rfl rfl rfl ?_
    refine g_istore (lv' := [(4, .int (zFi σ 896 v1)), (0, .ref v0), (1, .ref v1), (2, .ref v2), (3, .int v3)]) C dX16_adds_18 (hnl_of hΓ (by decide)) (by first | rfl | simp [cat_rf]) ?_
    refine g_aload_n (some v1) C dX16_adds_20 2 rfl ?_
    refine g_dup C dX16_adds_21 rfl ?_
    refine g_getIx (zFi σ 896 v1) C fl_RX16_35 dX16_adds_22 q1 rfl rfl rfl ?_
    refine g_iconst (v := 1) C dX16_adds_25 (by decide) ?_
    refine g_iadd C dX16_adds_26 ?_
    refine g_putI C fl_RX16_35 dX16_adds_27 q1 rfl rfl rfl rfl ?_
    refine g_iconst (v := 0) C dX16_adds_30 (by decide) ?_
    refine g_istore (lv' := [(5, .int 0), (4, .int (zFi σ 896 v1)), (0, .ref v0), (1, .ref v1), (2, .ref v2), (3, .int v3)]) C dX16_adds_31 (hnl_of hΓ (by decide)) (by first | rfl | simp [cat_rf]) ?_
    refine g_sub (lv' := [(1, .ref v1), (2, .ref v2), (3, .int v3), (4, .int (zFi σ 896 v1)), (5, .int 0)]) [3, 4, 5, 1, 0] rfl ?_
    obtain ⟨f2, hb⟩ := hb
    exact klX16_adds_33 C hΓ hne  f2 _ _ _ _ _ _ hb
  ·
    replace hb := hb.2 (c)
    refine g_aload_n (some v0) C dX16_adds_9 0 rfl ?_
    obtain ⟨q3, hb⟩ := hb
    obtain ⟨a4, q5, hb⟩ := hb
    refine g_getR (some a4) C fl_RX16_184 dX16_adds_10 q3 rfl rfl q5 ?_
    obtain ⟨q6, hb⟩ := hb
    exact g_athrow C hne hΓ (Nat.zero_le _) (Nat.zero_le _) dX16_adds_13 (g_thrown hΓ q6 hb)
theorem okX16_adds {v0 : Nat} {v1 : Nat} {v2 : Nat} {v3 : Int32} {σ : St} {Q : Int32 → St → Prop} {E : St → Prop} (hb : wX16_adds v0 v1 v2 v3 σ Q E) : hM yX16_adds cX16_adds 6 ((Option.some FieldType.int)) 0 0 0 0 [.ref v0, .ref v1, .ref v2, .int v3] σ (oT (oI Q) E) :=
  hM_ofX (by decide) (Nat.le_of_ble_eq_true rfl) (fun Γ hΓ C hne => kwX16_adds_0 C hΓ hne _ _ _ _ _ hb)
def wX16_piles_42 (Q : St → Prop) (r42 : Nat → Int64 → Int32 → Int32 → St → Prop) (v0 : Nat) (v1 : Int64) (v3 : Int32) (v4 : Int32) (σ : St) : Prop :=
  zK σ v0 = 17 ∧ (((zFi σ 1054 v0) ≤ v4 → ∃ a2 : Nat, zFr σ 1053 v0 = some a2 ∧ zK σ a2 = 21 ∧ vp_in v3 (zL σ a2) ∧ Q (uFi (uAj σ a2 (ix v3) v1) 1054 v0 (v3 + 1))) ∧ (¬ (zFi σ 1054 v0) ≤ v4 → ∃ a6 : Nat, zFr σ 1053 v0 = some a6 ∧ zK σ a6 = 21 ∧ vp_in v4 (zL σ a6) ∧ ((¬ (v1 &&& ((zAj σ a6 (ix v4)) ^^^ (-1))) = 0 → vp_in v3 (zL σ a6) ∧ r42 v0 v1 (v3 + 1) (v4 + 1) (uAj σ a6 (ix v3) (zAj σ a6 (ix v4)))) ∧ ((v1 &&& ((zAj σ a6 (ix v4)) ^^^ (-1))) = 0 → r42 v0 v1 v3 (v4 + 1) σ))))
def lX16_piles_42 (Q : St → Prop) : Nat → Nat → Int64 → Int32 → Int32 → St → Prop
  | 0, _, _, _, _, _ => False
  | f + 1, v0, v1, v3, v4, σ => wX16_piles_42 Q (lX16_piles_42 Q f) v0 v1 v3 v4 σ
def wX16_piles_5 (Q : St → Prop) (r5 : Nat → Int64 → Int32 → Int32 → St → Prop) (v0 : Nat) (v1 : Int64) (v3 : Int32) (v4 : Int32) (σ : St) : Prop :=
  zK σ v0 = 17 ∧ (((zFi σ 1054 v0) ≤ v4 → ∃ f, lX16_piles_42 Q f v0 v1 v3 0 σ) ∧ (¬ (zFi σ 1054 v0) ≤ v4 → ∃ a3 : Nat, zFr σ 1053 v0 = some a3 ∧ zK σ a3 = 21 ∧ vp_in v4 (zL σ a3) ∧ ((¬ ((zAj σ a3 (ix v4)) &&& (v1 ^^^ (-1))) = 0 → r5 v0 v1 v3 (v4 + 1) σ) ∧ (((zAj σ a3 (ix v4)) &&& (v1 ^^^ (-1))) = 0 → Q σ))))
def lX16_piles_5 (Q : St → Prop) : Nat → Nat → Int64 → Int32 → Int32 → St → Prop
  | 0, _, _, _, _, _ => False
  | f + 1, v0, v1, v3, v4, σ => wX16_piles_5 Q (lX16_piles_5 Q f) v0 v1 v3 v4 σ
def wX16_piles_0 (Q : St → Prop) (v0 : Nat) (v1 : Int64) (σ : St) : Prop :=
  ∃ f, lX16_piles_5 Q f v0 v1 0 0 σ
def wX16_piles (v0 : Nat) (v1 : Int64) (σ : St) (Q : St → Prop) : Prop := wX16_piles_0 Q v0 v1 σ
set_option maxRecDepth 20000 in
theorem kwX16_piles_42 {Γ : hCT} (C : hC Γ RX16 cX16_piles ((Option.none : Option Jvm.ClassFile.FieldType)) "piles" 0 0) {Q : St → Prop} (hΓ : Γ.2.2.2.2.2.2.2.2.2.2.2 = (5, 0, 0, oV Q)) {r42 : Nat → Int64 → Int32 → Int32 → St → Prop} (h42 : ∀ (v0 : Nat) (v1 : Int64) (v3 : Int32) (v4 : Int32) (σ : St), r42 v0 v1 v3 v4 σ → hW Γ 0 0 42 [(0, .ref v0), (1, .long v1), (3, .int v3), (4, .int v4)] [] σ) (v0 : Nat) (v1 : Int64) (v3 : Int32) (v4 : Int32) (σ : St) (hb : wX16_piles_42 Q r42 v0 v1 v3 v4 σ) : hW Γ 0 0 42 [(0, .ref v0), (1, .long v1), (3, .int v3), (4, .int v4)] [] σ := by
  unfold wX16_piles_42 at hb
  refine g_iload C dX16_piles_42 3 rfl ?_
  refine g_aload_n (some v0) C dX16_piles_44 0 rfl ?_
  obtain ⟨q1, hb⟩ := hb
  refine g_getIx (zFi σ 1054 v0) C fl_RX16_223 dX16_piles_45 q1 rfl rfl rfl ?_
  refine g_icmp_ge (tgt := 94) C dX16_piles_48 (by decide) (fun c => ?_) (fun c => ?_)
  ·
    replace hb := hb.1 (c)
    refine g_aload_n (some v0) C dX16_piles_94 0 rfl ?_
    obtain ⟨a2, q3, hb⟩ := hb
    refine g_getR (some a2) C fl_RX16_196 dX16_piles_95 q1 rfl rfl q3 ?_
    refine g_iload_n C dX16_piles_98 2 rfl ?_
    refine g_lload_n C dX16_piles_99 1 rfl ?_
    obtain ⟨q4, hb⟩ := hb
    obtain ⟨q5, hb⟩ := hb
    refine g_last C dX16_piles_100 q4 q5 ?_
    refine g_aload_n (some v0) C dX16_piles_101 0 rfl ?_
    refine g_iload_n C dX16_piles_102 2 rfl ?_
    refine g_iconst (v := 1) C dX16_piles_103 (by decide) ?_
    refine g_iadd C dX16_piles_104 ?_
    refine g_putI C fl_RX16_223 dX16_piles_105 (by rw [zK_uAj]; exact q1) rfl rfl rfl rfl ?_
    exact g_vreturn C hΓ (Nat.zero_le _) (Nat.zero_le _) dX16_piles_108 ⟨rfl, hb⟩
  ·
    replace hb := hb.2 (c)
    refine g_lload_n C dX16_piles_51 1 rfl ?_
    refine g_aload_n (some v0) C dX16_piles_52 0 rfl ?_
    obtain ⟨a6, q7, hb⟩ := hb
    refine g_getR (some a6) C fl_RX16_196 dX16_piles_53 q1 rfl rfl q7 ?_
    refine g_iload C dX16_piles_56 3 rfl ?_
    obtain ⟨q8, hb⟩ := hb
    obtain ⟨q9, hb⟩ := hb
    refine g_laldx (zAj σ a6 (ix v4)) C dX16_piles_58 q8 q9 rfl ?_
    refine g_ldc2 C wd_1059 dX16_piles_59 ?_
    refine g_lxor C dX16_piles_62 ?_
    refine g_land C dX16_piles_63 ?_
    refine g_lconst (v := 0) C dX16_piles_64 (by decide) ?_
    refine g_lcmp C dX16_piles_65 ?_
    refine g_if_ne (tgt := 72) C dX16_piles_66 (by decide) (fun c => ?_) (fun c => ?_)
    ·
      replace hb := hb.1 (lc_ne.mp c)
      refine g_aload_n (some v0) C dX16_piles_72 0 rfl ?_
      refine g_getR (some a6) C fl_RX16_196 dX16_piles_73 q1 rfl rfl q7 ?_
      refine g_iload_n C dX16_piles_76 2 rfl ?_
      refine g_aload_n (some v0) C dX16_piles_77 0 rfl ?_
      refine g_getR (some a6) C fl_RX16_196 dX16_piles_78 q1 rfl rfl q7 ?_
      refine g_iload C dX16_piles_81 3 rfl ?_
      refine g_laldx (zAj σ a6 (ix v4)) C dX16_piles_83 q8 q9 rfl ?_
      obtain ⟨q10, hb⟩ := hb
      refine g_last C dX16_piles_84 q8 q10 ?_
      refine g_iinc (v := v3 + 1) (lv' := [(3, .int (v3 + 1)), (0, .ref v0), (1, .long v1), (4, .int v4)]) C dX16_piles_85 2 rfl rfl (hnl_of hΓ (by decide)) (by first | rfl | simp [cat_rf]) ?_
      refine g_iinc (v := v4 + 1) (lv' := [(4, .int (v4 + 1)), (3, .int (v3 + 1)), (0, .ref v0), (1, .long v1)]) C dX16_piles_88 3 rfl rfl (hnl_of hΓ (by decide)) (by first | rfl | simp [cat_rf]) ?_
      refine g_goto (tgt := 42) C dX16_piles_91 (by decide) ?_
      refine g_sub (lv' := [(0, .ref v0), (1, .long v1), (3, .int (v3 + 1)), (4, .int (v4 + 1))]) [2, 3, 1, 0] rfl ?_
      exact h42 _ _ _ _ _ hb
    ·
      replace hb := hb.2 (lcn_ne.mp c)
      refine g_goto (tgt := 88) C dX16_piles_69 (by decide) ?_
      refine g_iinc (v := v4 + 1) (lv' := [(4, .int (v4 + 1)), (0, .ref v0), (1, .long v1), (3, .int v3)]) C dX16_piles_88 3 rfl rfl (hnl_of hΓ (by decide)) (by first | rfl | simp [cat_rf]) ?_
      refine g_goto (tgt := 42) C dX16_piles_91 (by decide) ?_
      refine g_sub (lv' := [(0, .ref v0), (1, .long v1), (3, .int v3), (4, .int (v4 + 1))]) [1, 2, 3, 0] rfl ?_
      exact h42 _ _ _ _ _ hb
theorem klX16_piles_42 {Γ : hCT} (C : hC Γ RX16 cX16_piles ((Option.none : Option Jvm.ClassFile.FieldType)) "piles" 0 0) {Q : St → Prop} (hΓ : Γ.2.2.2.2.2.2.2.2.2.2.2 = (5, 0, 0, oV Q)) (f : Nat) (v0 : Nat) (v1 : Int64) (v3 : Int32) (v4 : Int32) (σ : St) (hb : lX16_piles_42 Q f v0 v1 v3 v4 σ) : hW Γ 0 0 42 [(0, .ref v0), (1, .long v1), (3, .int v3), (4, .int v4)] [] σ := by
  induction f generalizing v0 v1 v3 v4 σ with
  | zero => exact hb.elim
  | succ f ih => exact kwX16_piles_42 C hΓ  (fun v0 v1 v3 v4 σ h => ih v0 v1 v3 v4 σ h) _ _ _ _ _ hb
set_option maxRecDepth 20000 in
theorem kwX16_piles_5 {Γ : hCT} (C : hC Γ RX16 cX16_piles ((Option.none : Option Jvm.ClassFile.FieldType)) "piles" 0 0) {Q : St → Prop} (hΓ : Γ.2.2.2.2.2.2.2.2.2.2.2 = (5, 0, 0, oV Q)) {r5 : Nat → Int64 → Int32 → Int32 → St → Prop} (h5 : ∀ (v0 : Nat) (v1 : Int64) (v3 : Int32) (v4 : Int32) (σ : St), r5 v0 v1 v3 v4 σ → hW Γ 0 0 5 [(0, .ref v0), (1, .long v1), (3, .int v3), (4, .int v4)] [] σ) (v0 : Nat) (v1 : Int64) (v3 : Int32) (v4 : Int32) (σ : St) (hb : wX16_piles_5 Q r5 v0 v1 v3 v4 σ) : hW Γ 0 0 5 [(0, .ref v0), (1, .long v1), (3, .int v3), (4, .int v4)] [] σ := by
  unfold wX16_piles_5 at hb
  refine g_iload C dX16_piles_5 3 rfl ?_
  refine g_aload_n (some v0) C dX16_piles_7 0 rfl ?_
  obtain ⟨q1, hb⟩ := hb
  refine g_getIx (zFi σ 1054 v0) C fl_RX16_223 dX16_piles_8 q1 rfl rfl rfl ?_
  refine g_icmp_ge (tgt := 39) C dX16_piles_11 (by decide) (fun c => ?_) (fun c => ?_)
  ·
    replace hb := hb.1 (c)
    refine g_iconst (v := 0) C dX16_piles_39 (by decide) ?_
    refine g_istore (lv' := [(4, .int 0), (0, .ref v0), (1, .long v1), (3, .int v3)]) C dX16_piles_40 (hnl_of hΓ (by decide)) (by first | rfl | simp [cat_rf]) ?_
    refine g_sub (lv' := [(0, .ref v0), (1, .long v1), (3, .int v3), (4, .int 0)]) [1, 2, 3, 0] rfl ?_
    obtain ⟨f2, hb⟩ := hb
    exact klX16_piles_42 C hΓ  f2 _ _ _ _ _ hb
  ·
    replace hb := hb.2 (c)
    refine g_aload_n (some v0) C dX16_piles_14 0 rfl ?_
    obtain ⟨a3, q4, hb⟩ := hb
    refine g_getR (some a3) C fl_RX16_196 dX16_piles_15 q1 rfl rfl q4 ?_
    refine g_iload C dX16_piles_18 3 rfl ?_
    obtain ⟨q5, hb⟩ := hb
    obtain ⟨q6, hb⟩ := hb
    refine g_laldx (zAj σ a3 (ix v4)) C dX16_piles_20 q5 q6 rfl ?_
    refine g_lload_n C dX16_piles_21 1 rfl ?_
    refine g_ldc2 C wd_1059 dX16_piles_22 ?_
    refine g_lxor C dX16_piles_25 ?_
    refine g_land C dX16_piles_26 ?_
    refine g_lconst (v := 0) C dX16_piles_27 (by decide) ?_
    refine g_lcmp C dX16_piles_28 ?_
    refine g_if_ne (tgt := 33) C dX16_piles_29 (by decide) (fun c => ?_) (fun c => ?_)
    ·
      replace hb := hb.1 (lc_ne.mp c)
      refine g_iinc (v := v4 + 1) (lv' := [(4, .int (v4 + 1)), (0, .ref v0), (1, .long v1), (3, .int v3)]) C dX16_piles_33 3 rfl rfl (hnl_of hΓ (by decide)) (by first | rfl | simp [cat_rf]) ?_
      refine g_goto (tgt := 5) C dX16_piles_36 (by decide) ?_
      refine g_sub (lv' := [(0, .ref v0), (1, .long v1), (3, .int v3), (4, .int (v4 + 1))]) [1, 2, 3, 0] rfl ?_
      exact h5 _ _ _ _ _ hb
    ·
      replace hb := hb.2 (lcn_ne.mp c)
      exact g_vreturn C hΓ (Nat.zero_le _) (Nat.zero_le _) dX16_piles_32 ⟨rfl, hb⟩
theorem klX16_piles_5 {Γ : hCT} (C : hC Γ RX16 cX16_piles ((Option.none : Option Jvm.ClassFile.FieldType)) "piles" 0 0) {Q : St → Prop} (hΓ : Γ.2.2.2.2.2.2.2.2.2.2.2 = (5, 0, 0, oV Q)) (f : Nat) (v0 : Nat) (v1 : Int64) (v3 : Int32) (v4 : Int32) (σ : St) (hb : lX16_piles_5 Q f v0 v1 v3 v4 σ) : hW Γ 0 0 5 [(0, .ref v0), (1, .long v1), (3, .int v3), (4, .int v4)] [] σ := by
  induction f generalizing v0 v1 v3 v4 σ with
  | zero => exact hb.elim
  | succ f ih => exact kwX16_piles_5 C hΓ  (fun v0 v1 v3 v4 σ h => ih v0 v1 v3 v4 σ h) _ _ _ _ _ hb
set_option maxRecDepth 20000 in
theorem kwX16_piles_0 {Γ : hCT} (C : hC Γ RX16 cX16_piles ((Option.none : Option Jvm.ClassFile.FieldType)) "piles" 0 0) {Q : St → Prop} (hΓ : Γ.2.2.2.2.2.2.2.2.2.2.2 = (5, 0, 0, oV Q)) (v0 : Nat) (v1 : Int64) (σ : St) (hb : wX16_piles_0 Q v0 v1 σ) : hW Γ 0 0 0 [(0, .ref v0), (1, .long v1)] [] σ := by
  unfold wX16_piles_0 at hb
  refine g_iconst (v := 0) C dX16_piles_0 (by decide) ?_
  refine g_istore_n (i := 3) (lv' := [(3, .int 0), (0, .ref v0), (1, .long v1)]) C dX16_piles_1 rfl (hnl_of hΓ (by decide)) (by first | rfl | simp [cat_rf]) ?_
  refine g_iconst (v := 0) C dX16_piles_2 (by decide) ?_
  refine g_istore (lv' := [(4, .int 0), (3, .int 0), (0, .ref v0), (1, .long v1)]) C dX16_piles_3 (hnl_of hΓ (by decide)) (by first | rfl | simp [cat_rf]) ?_
  refine g_sub (lv' := [(0, .ref v0), (1, .long v1), (3, .int 0), (4, .int 0)]) [2, 3, 1, 0] rfl ?_
  obtain ⟨f1, hb⟩ := hb
  exact klX16_piles_5 C hΓ  f1 _ _ _ _ _ hb
theorem okX16_piles {v0 : Nat} {v1 : Int64} {σ : St} {Q : St → Prop} (hb : wX16_piles v0 v1 σ Q) : hM yX16_piles cX16_piles 5 ((Option.none : Option Jvm.ClassFile.FieldType)) 0 0 0 0 [.ref v0, .long v1] σ (oV Q) :=
  hM_of (by decide) (Nat.le_of_ble_eq_true rfl) (fun Γ hΓ C => kwX16_piles_0 C hΓ _ _ _ hb)
def wX16_pilesAll_2 (Q : St → Prop) (r2 : Nat → Nat → Int32 → Int32 → St → Prop) (v0 : Nat) (v1 : Nat) (v2 : Int32) (v3 : Int32) (σ : St) : Prop :=
  zK σ v1 = 15 ∧ ∃ a2 : Nat, zFr σ 899 v1 = some a2 ∧ zK σ a2 = 20 ∧ vp_in v2 (zL σ a2) ∧ (((zAi σ a2 (ix v2)) ≤ v3 → Q σ) ∧ (¬ (zAi σ a2 (ix v2)) ≤ v3 → ∃ a6 : Nat, zFr σ 901 v1 = some a6 ∧ zK σ a6 = 21 ∧ vp_in ((16 * v2) + v3) (zL σ a6) ∧ zK σ v0 = 17 ∧ wX16_piles v0 (zAj σ a6 (ix ((16 * v2) + v3))) σ (fun σ11 => r2 v0 v1 v2 (v3 + 1) σ11)))
def lX16_pilesAll_2 (Q : St → Prop) : Nat → Nat → Nat → Int32 → Int32 → St → Prop
  | 0, _, _, _, _, _ => False
  | f + 1, v0, v1, v2, v3, σ => wX16_pilesAll_2 Q (lX16_pilesAll_2 Q f) v0 v1 v2 v3 σ
def wX16_pilesAll_0 (Q : St → Prop) (v0 : Nat) (v1 : Nat) (v2 : Int32) (σ : St) : Prop :=
  ∃ f, lX16_pilesAll_2 Q f v0 v1 v2 0 σ
def wX16_pilesAll (v0 : Nat) (v1 : Nat) (v2 : Int32) (σ : St) (Q : St → Prop) : Prop := wX16_pilesAll_0 Q v0 v1 v2 σ
set_option maxRecDepth 20000 in
theorem kwX16_pilesAll_2 {Γ : hCT} (C : hC Γ RX16 cX16_pilesAll ((Option.none : Option Jvm.ClassFile.FieldType)) "pilesAll" 1 24) {Q : St → Prop} (hΓ : Γ.2.2.2.2.2.2.2.2.2.2.2 = (4, 0, 0, oV Q)) {r2 : Nat → Nat → Int32 → Int32 → St → Prop} (h2 : ∀ (v0 : Nat) (v1 : Nat) (v2 : Int32) (v3 : Int32) (σ : St), r2 v0 v1 v2 v3 σ → hW Γ 0 0 2 [(0, .ref v0), (1, .ref v1), (2, .int v2), (3, .int v3)] [] σ) (v0 : Nat) (v1 : Nat) (v2 : Int32) (v3 : Int32) (σ : St) (hb : wX16_pilesAll_2 Q r2 v0 v1 v2 v3 σ) : hW Γ 0 0 2 [(0, .ref v0), (1, .ref v1), (2, .int v2), (3, .int v3)] [] σ := by
  unfold wX16_pilesAll_2 at hb
  refine g_iload_n C dX16_pilesAll_2 3 rfl ?_
  refine g_aload_n (some v1) C dX16_pilesAll_3 1 rfl ?_
  obtain ⟨q1, hb⟩ := hb
  obtain ⟨a2, q3, hb⟩ := hb
  refine g_getR (some a2) C fl_RX16_226 dX16_pilesAll_4 q1 rfl rfl q3 ?_
  refine g_iload_n C dX16_pilesAll_7 2 rfl ?_
  obtain ⟨q4, hb⟩ := hb
  obtain ⟨q5, hb⟩ := hb
  refine g_ialdx (zAi σ a2 (ix v2)) C dX16_pilesAll_8 q4 q5 rfl ?_
  refine g_icmp_ge (tgt := 33) C dX16_pilesAll_9 (by decide) (fun c => ?_) (fun c => ?_)
  ·
    replace hb := hb.1 (c)
    exact g_vreturn C hΓ (Nat.zero_le _) (Nat.zero_le _) dX16_pilesAll_33 ⟨rfl, hb⟩
  ·
    replace hb := hb.2 (c)
    refine g_aload_n (some v0) C dX16_pilesAll_12 0 rfl ?_
    refine g_aload_n (some v1) C dX16_pilesAll_13 1 rfl ?_
    obtain ⟨a6, q7, hb⟩ := hb
    refine g_getR (some a6) C fl_RX16_229 dX16_pilesAll_14 q1 rfl rfl q7 ?_
    refine g_bipush (v := 16) C dX16_pilesAll_17 (by decide) ?_
    refine g_iload_n C dX16_pilesAll_19 2 rfl ?_
    refine g_imul C dX16_pilesAll_20 ?_
    refine g_iload_n C dX16_pilesAll_21 3 rfl ?_
    refine g_iadd C dX16_pilesAll_22 ?_
    obtain ⟨q8, hb⟩ := hb
    obtain ⟨q9, hb⟩ := hb
    refine g_laldx (zAj σ a6 (ix ((16 * v2) + v3))) C dX16_pilesAll_23 q8 q9 rfl ?_
    obtain ⟨q10, hb⟩ := hb
    refine g_invV (ci := 16) [.long (zAj σ a6 (ix ((16 * v2) + v3)))] [] zy_X16_piles wd_1418 wd_1420 wd_51 ⟨_, _, rfl⟩ (by decide) C dX16_pilesAll_24 (by first | exact Nat.le_of_ble_eq_true rfl | simp [cat_rf]) (by first | exact Nat.le_of_ble_eq_true rfl | simp [cat_rf]) (by first | exact Nat.le_of_ble_eq_true rfl | simp [cat_rf]) (Nat.zero_le _) (Nat.zero_le _) rfl rfl q10 (okX16_piles hb) ?_
    rintro o σ11 ⟨rfl, hb⟩
    refine ⟨_, rfl, ?_⟩
    refine g_iinc (v := v3 + 1) (lv' := [(3, .int (v3 + 1)), (0, .ref v0), (1, .ref v1), (2, .int v2)]) C dX16_pilesAll_27 3 rfl rfl (hnl_of hΓ (by decide)) (by first | rfl | simp [cat_rf]) ?_
    refine g_goto (tgt := 2) C dX16_pilesAll_30 (by decide) ?_
    refine g_sub (lv' := [(0, .ref v0), (1, .ref v1), (2, .int v2), (3, .int (v3 + 1))]) [1, 2, 3, 0] rfl ?_
    exact h2 _ _ _ _ _ hb
theorem klX16_pilesAll_2 {Γ : hCT} (C : hC Γ RX16 cX16_pilesAll ((Option.none : Option Jvm.ClassFile.FieldType)) "pilesAll" 1 24) {Q : St → Prop} (hΓ : Γ.2.2.2.2.2.2.2.2.2.2.2 = (4, 0, 0, oV Q)) (f : Nat) (v0 : Nat) (v1 : Nat) (v2 : Int32) (v3 : Int32) (σ : St) (hb : lX16_pilesAll_2 Q f v0 v1 v2 v3 σ) : hW Γ 0 0 2 [(0, .ref v0), (1, .ref v1), (2, .int v2), (3, .int v3)] [] σ := by
  induction f generalizing v0 v1 v2 v3 σ with
  | zero => exact hb.elim
  | succ f ih => exact kwX16_pilesAll_2 C hΓ  (fun v0 v1 v2 v3 σ h => ih v0 v1 v2 v3 σ h) _ _ _ _ _ hb
set_option maxRecDepth 20000 in
theorem kwX16_pilesAll_0 {Γ : hCT} (C : hC Γ RX16 cX16_pilesAll ((Option.none : Option Jvm.ClassFile.FieldType)) "pilesAll" 1 24) {Q : St → Prop} (hΓ : Γ.2.2.2.2.2.2.2.2.2.2.2 = (4, 0, 0, oV Q)) (v0 : Nat) (v1 : Nat) (v2 : Int32) (σ : St) (hb : wX16_pilesAll_0 Q v0 v1 v2 σ) : hW Γ 0 0 0 [(0, .ref v0), (1, .ref v1), (2, .int v2)] [] σ := by
  unfold wX16_pilesAll_0 at hb
  refine g_iconst (v := 0) C dX16_pilesAll_0 (by decide) ?_
  refine g_istore_n (i := 3) (lv' := [(3, .int 0), (0, .ref v0), (1, .ref v1), (2, .int v2)]) C dX16_pilesAll_1 rfl (hnl_of hΓ (by decide)) (by first | rfl | simp [cat_rf]) ?_
  refine g_sub (lv' := [(0, .ref v0), (1, .ref v1), (2, .int v2), (3, .int 0)]) [1, 2, 3, 0] rfl ?_
  obtain ⟨f1, hb⟩ := hb
  exact klX16_pilesAll_2 C hΓ  f1 _ _ _ _ _ hb
theorem okX16_pilesAll {v0 : Nat} {v1 : Nat} {v2 : Int32} {σ : St} {Q : St → Prop} (hb : wX16_pilesAll v0 v1 v2 σ Q) : hM yX16_pilesAll cX16_pilesAll 4 ((Option.none : Option Jvm.ClassFile.FieldType)) 1 24 0 0 [.ref v0, .ref v1, .int v2] σ (oV Q) :=
  hM_of (by decide) (Nat.le_of_ble_eq_true rfl) (fun Γ hΓ C => kwX16_pilesAll_0 C hΓ _ _ _ _ hb)
def wX16_lays_155 (Q : Int32 → St → Prop) (E : St → Prop) (r114 : Nat → Nat → Int32 → Int32 → Int32 → St → Prop) (v0 : Nat) (v1 : Nat) (v2 : Int32) (v4 : Int32) (s0 : Int32) (σ : St) : Prop :=
  zK σ v1 = 15 ∧ ∃ a2 : Nat, zFr σ 901 v1 = some a2 ∧ zK σ v0 = 17 ∧ ∃ a5 : Nat, zFr σ 1053 v0 = some a5 ∧ zK σ a5 = 21 ∧ vp_in v4 (zL σ a5) ∧ zK σ a2 = 21 ∧ vp_in ((16 * v2) + v4) (zL σ a2) ∧ r114 v0 v1 v2 s0 (v4 + 1) (uAj σ a2 (ix ((16 * v2) + v4)) (zAj σ a5 (ix v4)))
def wX16_lays_150 (Q : Int32 → St → Prop) (E : St → Prop) (r114 : Nat → Nat → Int32 → Int32 → Int32 → St → Prop) (v0 : Nat) (v1 : Nat) (v2 : Int32) (v4 : Int32) (σ : St) : Prop :=
  wX16_lays_155 Q E r114 v0 v1 v2 v4 1 σ
def wX16_lays_114 (Q : Int32 → St → Prop) (E : St → Prop) (r114 : Nat → Nat → Int32 → Int32 → Int32 → St → Prop) (v0 : Nat) (v1 : Nat) (v2 : Int32) (v3 : Int32) (v4 : Int32) (σ : St) : Prop :=
  zK σ v0 = 17 ∧ (((zFi σ 1054 v0) ≤ v4 → zK σ v1 = 15 ∧ ∃ a3 : Nat, zFr σ 899 v1 = some a3 ∧ zK σ a3 = 20 ∧ vp_in v2 (zL σ a3) ∧ (v3 = 0 ∨ v3 = 1) ∧ Q v3 (uAi σ a3 (ix v2) (zFi σ 1054 v0))) ∧ (¬ (zFi σ 1054 v0) ≤ v4 → ((¬ v3 = 0 → wX16_lays_150 Q E r114 v0 v1 v2 v4 σ) ∧ (v3 = 0 → zK σ v1 = 15 ∧ ∃ a9 : Nat, zFr σ 901 v1 = some a9 ∧ zK σ a9 = 21 ∧ vp_in ((16 * v2) + v4) (zL σ a9) ∧ ∃ a13 : Nat, zFr σ 1053 v0 = some a13 ∧ zK σ a13 = 21 ∧ vp_in v4 (zL σ a13) ∧ (((zAj σ a9 (ix ((16 * v2) + v4))) = (zAj σ a13 (ix v4)) → wX16_lays_155 Q E r114 v0 v1 v2 v4 0 σ) ∧ (¬ (zAj σ a9 (ix ((16 * v2) + v4))) = (zAj σ a13 (ix v4)) → wX16_lays_150 Q E r114 v0 v1 v2 v4 σ))))))
def lX16_lays_114 (Q : Int32 → St → Prop) (E : St → Prop) : Nat → Nat → Nat → Int32 → Int32 → Int32 → St → Prop
  | 0, _, _, _, _, _, _ => False
  | f + 1, v0, v1, v2, v3, v4, σ => wX16_lays_114 Q E (lX16_lays_114 Q E f) v0 v1 v2 v3 v4 σ
def wX16_lays_110 (Q : Int32 → St → Prop) (E : St → Prop) (v0 : Nat) (v1 : Nat) (v2 : Int32) (s0 : Int32) (σ : St) : Prop :=
  ∃ f, lX16_lays_114 Q E f v0 v1 v2 s0 0 σ
def wX16_lays_77 (Q : Int32 → St → Prop) (E : St → Prop) (r16 : Nat → Nat → Int32 → Int32 → St → Prop) (v0 : Nat) (v1 : Nat) (v2 : Int32) (v3 : Int32) (v4 : Int64) (v6 : Int32) (σ : St) : Prop :=
  zK σ v0 = 17 ∧ ∃ a2 : Nat, zFr σ 1053 v0 = some a2 ∧ zK σ a2 = 21 ∧ vp_in v6 (zL σ a2) ∧ r16 v0 v1 v2 (v3 + 1) (uAj σ a2 (ix v6) v4)
def wX16_lays_35 (Q : Int32 → St → Prop) (E : St → Prop) (r16 : Nat → Nat → Int32 → Int32 → St → Prop) (r35 : Nat → Nat → Int32 → Int32 → Int64 → Int32 → St → Prop) (v0 : Nat) (v1 : Nat) (v2 : Int32) (v3 : Int32) (v4 : Int64) (v6 : Int32) (σ : St) : Prop :=
  ((v6 ≤ 0 → wX16_lays_77 Q E r16 v0 v1 v2 v3 v4 v6 σ) ∧ (¬ v6 ≤ 0 → zK σ v0 = 17 ∧ ∃ a2 : Nat, zFr σ 1053 v0 = some a2 ∧ zK σ a2 = 21 ∧ vp_in (v6 - 1) (zL σ a2) ∧ (((zAj σ a2 (ix (v6 - 1))) ≤ v4 → wX16_lays_77 Q E r16 v0 v1 v2 v3 v4 v6 σ) ∧ (¬ (zAj σ a2 (ix (v6 - 1))) ≤ v4 → vp_in v6 (zL σ a2) ∧ r35 v0 v1 v2 v3 v4 (v6 + (-1)) (uAj σ a2 (ix v6) (zAj σ a2 (ix (v6 - 1))))))))
def lX16_lays_35 (Q : Int32 → St → Prop) (E : St → Prop) (r16 : Nat → Nat → Int32 → Int32 → St → Prop) : Nat → Nat → Nat → Int32 → Int32 → Int64 → Int32 → St → Prop
  | 0, _, _, _, _, _, _, _ => False
  | f + 1, v0, v1, v2, v3, v4, v6, σ => wX16_lays_35 Q E r16 (lX16_lays_35 Q E r16 f) v0 v1 v2 v3 v4 v6 σ
def wX16_lays_16 (Q : Int32 → St → Prop) (E : St → Prop) (r16 : Nat → Nat → Int32 → Int32 → St → Prop) (v0 : Nat) (v1 : Nat) (v2 : Int32) (v3 : Int32) (σ : St) : Prop :=
  zK σ v0 = 17 ∧ (((zFi σ 1054 v0) ≤ v3 → zK σ v1 = 15 ∧ ∃ a3 : Nat, zFr σ 899 v1 = some a3 ∧ zK σ a3 = 20 ∧ vp_in v2 (zL σ a3) ∧ (((zAi σ a3 (ix v2)) = (zFi σ 1054 v0) → wX16_lays_110 Q E v0 v1 v2 0 σ) ∧ (¬ (zAi σ a3 (ix v2)) = (zFi σ 1054 v0) → wX16_lays_110 Q E v0 v1 v2 1 σ))) ∧ (¬ (zFi σ 1054 v0) ≤ v3 → ∃ a7 : Nat, zFr σ 1053 v0 = some a7 ∧ zK σ a7 = 21 ∧ vp_in v3 (zL σ a7) ∧ ∃ f, lX16_lays_35 Q E r16 f v0 v1 v2 v3 (zAj σ a7 (ix v3)) v3 σ))
def lX16_lays_16 (Q : Int32 → St → Prop) (E : St → Prop) : Nat → Nat → Nat → Int32 → Int32 → St → Prop
  | 0, _, _, _, _, _ => False
  | f + 1, v0, v1, v2, v3, σ => wX16_lays_16 Q E (lX16_lays_16 Q E f) v0 v1 v2 v3 σ
def wX16_lays_0 (Q : Int32 → St → Prop) (E : St → Prop) (v0 : Nat) (v1 : Nat) (v2 : Int32) (σ : St) : Prop :=
  zK σ v0 = 17 ∧ (((zFi σ 1054 v0) ≤ (16 : Int32) → ∃ f, lX16_lays_16 Q E f v0 v1 v2 1 σ) ∧ (¬ (zFi σ 1054 v0) ≤ (16 : Int32) → ∃ a3 : Nat, zFr σ 1048 v0 = some a3 ∧ zK σ a3 = 14 ∧ E σ))
def wX16_lays (v0 : Nat) (v1 : Nat) (v2 : Int32) (σ : St) (Q : Int32 → St → Prop) (E : St → Prop) : Prop := wX16_lays_0 Q E v0 v1 v2 σ
set_option maxRecDepth 20000 in
theorem kwX16_lays_155 {Γ : hCT} (C : hC Γ RX16 cX16_lays ((Option.some FieldType.boolean)) "lays" 0 0) {Q : Int32 → St → Prop} {E : St → Prop} (hΓ : Γ.2.2.2.2.2.2.2.2.2.2.2 = (7, 0, 0, oT (oI Q) E)) (hne : hNE Γ) {r114 : Nat → Nat → Int32 → Int32 → Int32 → St → Prop} (h114 : ∀ (v0 : Nat) (v1 : Nat) (v2 : Int32) (v3 : Int32) (v4 : Int32) (σ : St), r114 v0 v1 v2 v3 v4 σ → hW Γ 0 0 114 [(0, .ref v0), (1, .ref v1), (2, .int v2), (3, .int v3), (4, .int v4)] [] σ) (v0 : Nat) (v1 : Nat) (v2 : Int32) (v4 : Int32) (s0 : Int32) (σ : St) (hb : wX16_lays_155 Q E r114 v0 v1 v2 v4 s0 σ) : hW Γ 0 0 155 [(0, .ref v0), (1, .ref v1), (2, .int v2), (4, .int v4)] [.int s0] σ := by
  unfold wX16_lays_155 at hb
  refine g_istore_n (i := 3) (lv' := [(3, .int s0), (0, .ref v0), (1, .ref v1), (2, .int v2), (4, .int v4)]) C dX16_lays_155 rfl (hnl_of hΓ (by decide)) (by first | rfl | simp [cat_rf]) ?_
  refine g_aload_n (some v1) C dX16_lays_156 2 rfl ?_
  obtain ⟨q1, hb⟩ := hb
  obtain ⟨a2, q3, hb⟩ := hb
  refine g_getR (some a2) C fl_RX16_229 dX16_lays_157 q1 rfl rfl q3 ?_
  refine g_bipush (v := 16) C dX16_lays_160 (by decide) ?_
  refine g_iload_n C dX16_lays_162 3 rfl ?_
  refine g_imul C dX16_lays_163 ?_
  refine g_iload C dX16_lays_164 4 rfl ?_
  refine g_iadd C dX16_lays_166 ?_
  refine g_aload_n (some v0) C dX16_lays_167 1 rfl ?_
  obtain ⟨q4, hb⟩ := hb
  obtain ⟨a5, q6, hb⟩ := hb
  refine g_getR (some a5) C fl_RX16_196 dX16_lays_168 q4 rfl rfl q6 ?_
  refine g_iload C dX16_lays_171 4 rfl ?_
  obtain ⟨q7, hb⟩ := hb
  obtain ⟨q8, hb⟩ := hb
  refine g_laldx (zAj σ a5 (ix v4)) C dX16_lays_173 q7 q8 rfl ?_
  obtain ⟨q9, hb⟩ := hb
  obtain ⟨q10, hb⟩ := hb
  refine g_last C dX16_lays_174 q9 q10 ?_
  refine g_iinc (v := v4 + 1) (lv' := [(4, .int (v4 + 1)), (3, .int s0), (0, .ref v0), (1, .ref v1), (2, .int v2)]) C dX16_lays_175 4 rfl rfl (hnl_of hΓ (by decide)) (by first | rfl | simp [cat_rf]) ?_
  refine g_goto (tgt := 114) C dX16_lays_178 (by decide) ?_
  refine g_sub (lv' := [(0, .ref v0), (1, .ref v1), (2, .int v2), (3, .int s0), (4, .int (v4 + 1))]) [2, 3, 4, 1, 0] rfl ?_
  exact h114 _ _ _ _ _ _ hb
set_option maxRecDepth 20000 in
theorem kwX16_lays_150 {Γ : hCT} (C : hC Γ RX16 cX16_lays ((Option.some FieldType.boolean)) "lays" 0 0) {Q : Int32 → St → Prop} {E : St → Prop} (hΓ : Γ.2.2.2.2.2.2.2.2.2.2.2 = (7, 0, 0, oT (oI Q) E)) (hne : hNE Γ) {r114 : Nat → Nat → Int32 → Int32 → Int32 → St → Prop} (h114 : ∀ (v0 : Nat) (v1 : Nat) (v2 : Int32) (v3 : Int32) (v4 : Int32) (σ : St), r114 v0 v1 v2 v3 v4 σ → hW Γ 0 0 114 [(0, .ref v0), (1, .ref v1), (2, .int v2), (3, .int v3), (4, .int v4)] [] σ) (v0 : Nat) (v1 : Nat) (v2 : Int32) (v4 : Int32) (σ : St) (hb : wX16_lays_150 Q E r114 v0 v1 v2 v4 σ) : hW Γ 0 0 150 [(0, .ref v0), (1, .ref v1), (2, .int v2), (4, .int v4)] [] σ := by
  unfold wX16_lays_150 at hb
  refine g_iconst (v := 1) C dX16_lays_150 (by decide) ?_
  refine g_goto (tgt := 155) C dX16_lays_151 (by decide) ?_
  refine g_sub (lv' := [(0, .ref v0), (1, .ref v1), (2, .int v2), (4, .int v4)]) [0, 1, 2, 3] rfl ?_
  exact kwX16_lays_155 C hΓ hne h114 _ _ _ _ _ _ hb
set_option maxRecDepth 20000 in
theorem kwX16_lays_114 {Γ : hCT} (C : hC Γ RX16 cX16_lays ((Option.some FieldType.boolean)) "lays" 0 0) {Q : Int32 → St → Prop} {E : St → Prop} (hΓ : Γ.2.2.2.2.2.2.2.2.2.2.2 = (7, 0, 0, oT (oI Q) E)) (hne : hNE Γ) {r114 : Nat → Nat → Int32 → Int32 → Int32 → St → Prop} (h114 : ∀ (v0 : Nat) (v1 : Nat) (v2 : Int32) (v3 : Int32) (v4 : Int32) (σ : St), r114 v0 v1 v2 v3 v4 σ → hW Γ 0 0 114 [(0, .ref v0), (1, .ref v1), (2, .int v2), (3, .int v3), (4, .int v4)] [] σ) (v0 : Nat) (v1 : Nat) (v2 : Int32) (v3 : Int32) (v4 : Int32) (σ : St) (hb : wX16_lays_114 Q E r114 v0 v1 v2 v3 v4 σ) : hW Γ 0 0 114 [(0, .ref v0), (1, .ref v1), (2, .int v2), (3, .int v3), (4, .int v4)] [] σ := by
  unfold wX16_lays_114 at hb
  refine g_iload C dX16_lays_114 4 rfl ?_
  refine g_aload_n (some v0) C dX16_lays_116 0 rfl ?_
  obtain ⟨q1, hb⟩ := hb
  refine g_getIx (zFi σ 1054 v0) C fl_RX16_223 dX16_lays_117 q1 rfl rfl rfl ?_
  refine g_icmp_ge (tgt := 181) C dX16_lays_120 (by decide) (fun c => ?_) (fun c => ?_)
  ·
    replace hb := hb.1 (c)
    refine g_aload_n (some v1) C dX16_lays_181 1 rfl ?_
    obtain ⟨q2, hb⟩ := hb
    obtain ⟨a3, q4, hb⟩ := hb
    refine g_getR (some a3) C fl_RX16_226 dX16_lays_182 q2 rfl rfl q4 ?_
    refine g_iload_n C dX16_lays_185 2 rfl ?_
    refine g_aload_n (some v0) C dX16_lays_186 0 rfl ?_
    refine g_getIx (zFi σ 1054 v0) C fl_RX16_223 dX16_lays_187 q1 rfl rfl rfl ?_
    obtain ⟨q5, hb⟩ := hb
    obtain ⟨q6, hb⟩ := hb
    refine g_iast C dX16_lays_190 q5 q6 ?_
    refine g_iload_n C dX16_lays_191 3 rfl ?_
    obtain ⟨q7, hb⟩ := hb
    exact g_zreturn C (nz_n q7) hΓ (Nat.zero_le _) (Nat.zero_le _) dX16_lays_192 (Or.inl ⟨_, rfl, hb⟩)
  ·
    replace hb := hb.2 (c)
    refine g_iload_n C dX16_lays_123 3 rfl ?_
    refine g_if_ne (tgt := 150) C dX16_lays_124 (by decide) (fun c => ?_) (fun c => ?_)
    ·
      replace hb := hb.1 (c)
      refine g_sub (lv' := [(0, .ref v0), (1, .ref v1), (2, .int v2), (4, .int v4)]) [0, 1, 2, 4] rfl ?_
      exact kwX16_lays_150 C hΓ hne h114 _ _ _ _ _ hb
    ·
      replace hb := hb.2 (c)
      refine g_aload_n (some v1) C dX16_lays_127 1 rfl ?_
      obtain ⟨q8, hb⟩ := hb
      obtain ⟨a9, q10, hb⟩ := hb
      refine g_getR (some a9) C fl_RX16_229 dX16_lays_128 q8 rfl rfl q10 ?_
      refine g_bipush (v := 16) C dX16_lays_131 (by decide) ?_
      refine g_iload_n C dX16_lays_133 2 rfl ?_
      refine g_imul C dX16_lays_134 ?_
      refine g_iload C dX16_lays_135 4 rfl ?_
      refine g_iadd C dX16_lays_137 ?_
      obtain ⟨q11, hb⟩ := hb
      obtain ⟨q12, hb⟩ := hb
      refine g_laldx (zAj σ a9 (ix ((16 * v2) + v4))) C dX16_lays_138 q11 q12 rfl ?_
      refine g_aload_n (some v0) C dX16_lays_139 0 rfl ?_
      obtain ⟨a13, q14, hb⟩ := hb
      refine g_getR (some a13) C fl_RX16_196 dX16_lays_140 q1 rfl rfl q14 ?_
      refine g_iload C dX16_lays_143 4 rfl ?_
      obtain ⟨q15, hb⟩ := hb
      obtain ⟨q16, hb⟩ := hb
      refine g_laldx (zAj σ a13 (ix v4)) C dX16_lays_145 q15 q16 rfl ?_
      refine g_lcmp C dX16_lays_146 ?_
      refine g_if_eq (tgt := 154) C dX16_lays_147 (by decide) (fun c => ?_) (fun c => ?_)
      ·
        replace hb := hb.1 (lc_eq.mp c)
        refine g_iconst (v := 0) C dX16_lays_154 (by decide) ?_
        refine g_sub (lv' := [(0, .ref v0), (1, .ref v1), (2, .int v2), (4, .int v4)]) [0, 1, 2, 4] rfl ?_
        exact kwX16_lays_155 C hΓ hne h114 _ _ _ _ _ _ hb
      ·
        replace hb := hb.2 (lcn_eq.mp c)
        refine g_sub (lv' := [(0, .ref v0), (1, .ref v1), (2, .int v2), (4, .int v4)]) [0, 1, 2, 4] rfl ?_
        exact kwX16_lays_150 C hΓ hne h114 _ _ _ _ _ hb
theorem klX16_lays_114 {Γ : hCT} (C : hC Γ RX16 cX16_lays ((Option.some FieldType.boolean)) "lays" 0 0) {Q : Int32 → St → Prop} {E : St → Prop} (hΓ : Γ.2.2.2.2.2.2.2.2.2.2.2 = (7, 0, 0, oT (oI Q) E)) (hne : hNE Γ) (f : Nat) (v0 : Nat) (v1 : Nat) (v2 : Int32) (v3 : Int32) (v4 : Int32) (σ : St) (hb : lX16_lays_114 Q E f v0 v1 v2 v3 v4 σ) : hW Γ 0 0 114 [(0, .ref v0), (1, .ref v1), (2, .int v2), (3, .int v3), (4, .int v4)] [] σ := by
  induction f generalizing v0 v1 v2 v3 v4 σ with
  | zero => exact hb.elim
  | succ f ih => exact kwX16_lays_114 C hΓ hne  (fun v0 v1 v2 v3 v4 σ h => ih v0 v1 v2 v3 v4 σ h) _ _ _ _ _ _ hb
set_option maxRecDepth 20000 in
theorem kwX16_lays_110 {Γ : hCT} (C : hC Γ RX16 cX16_lays ((Option.some FieldType.boolean)) "lays" 0 0) {Q : Int32 → St → Prop} {E : St → Prop} (hΓ : Γ.2.2.2.2.2.2.2.2.2.2.2 = (7, 0, 0, oT (oI Q) E)) (hne : hNE Γ) (v0 : Nat) (v1 : Nat) (v2 : Int32) (s0 : Int32) (σ : St) (hb : wX16_lays_110 Q E v0 v1 v2 s0 σ) : hW Γ 0 0 110 [(0, .ref v0), (1, .ref v1), (2, .int v2)] [.int s0] σ := by
  unfold wX16_lays_110 at hb
  refine g_istore_n (i := 3) (lv' := [(3, .int s0), (0, .ref v0), (1, .ref v1), (2, .int v2)]) C dX16_lays_110 rfl (hnl_of hΓ (by decide)) (by first | rfl | simp [cat_rf]) ?_
  refine g_iconst (v := 0) C dX16_lays_111 (by decide) ?_
  refine g_istore (lv' := [(4, .int 0), (3, .int s0), (0, .ref v0), (1, .ref v1), (2, .int v2)]) C dX16_lays_112 (hnl_of hΓ (by decide)) (by first | rfl | simp [cat_rf]) ?_
  refine g_sub (lv' := [(0, .ref v0), (1, .ref v1), (2, .int v2), (3, .int s0), (4, .int 0)]) [2, 3, 4, 1, 0] rfl ?_
  obtain ⟨f1, hb⟩ := hb
  exact klX16_lays_114 C hΓ hne  f1 _ _ _ _ _ _ hb
set_option maxRecDepth 20000 in
theorem kwX16_lays_77 {Γ : hCT} (C : hC Γ RX16 cX16_lays ((Option.some FieldType.boolean)) "lays" 0 0) {Q : Int32 → St → Prop} {E : St → Prop} (hΓ : Γ.2.2.2.2.2.2.2.2.2.2.2 = (7, 0, 0, oT (oI Q) E)) (hne : hNE Γ) {r16 : Nat → Nat → Int32 → Int32 → St → Prop} (h16 : ∀ (v0 : Nat) (v1 : Nat) (v2 : Int32) (v3 : Int32) (σ : St), r16 v0 v1 v2 v3 σ → hW Γ 0 0 16 [(0, .ref v0), (1, .ref v1), (2, .int v2), (3, .int v3)] [] σ) (v0 : Nat) (v1 : Nat) (v2 : Int32) (v3 : Int32) (v4 : Int64) (v6 : Int32) (σ : St) (hb : wX16_lays_77 Q E r16 v0 v1 v2 v3 v4 v6 σ) : hW Γ 0 0 77 [(0, .ref v0), (1, .ref v1), (2, .int v2), (3, .int v3), (4, .long v4), (6, .int v6)] [] σ := by
  unfold wX16_lays_77 at hb
  refine g_aload_n (some v0) C dX16_lays_77 0 rfl ?_
  obtain ⟨q1, hb⟩ := hb
  obtain ⟨a2, q3, hb⟩ := hb
  refine g_getR (some a2) C fl_RX16_196 dX16_lays_78 q1 rfl rfl q3 ?_
  refine g_iload C dX16_lays_81 5 rfl ?_
  refine g_lload C dX16_lays_83 4 rfl ?_
  obtain ⟨q4, hb⟩ := hb
  obtain ⟨q5, hb⟩ := hb
  refine g_last C dX16_lays_85 q4 q5 ?_
  refine g_iinc (v := v3 + 1) (lv' := [(3, .int (v3 + 1)), (0, .ref v0), (1, .ref v1), (2, .int v2), (4, .long v4), (6, .int v6)]) C dX16_lays_86 3 rfl rfl (hnl_of hΓ (by decide)) (by first | rfl | simp [cat_rf]) ?_
  refine g_goto (tgt := 16) C dX16_lays_89 (by decide) ?_
  refine g_sub (lv' := [(0, .ref v0), (1, .ref v1), (2, .int v2), (3, .int (v3 + 1))]) [1, 2, 3, 0] rfl ?_
  exact h16 _ _ _ _ _ hb
set_option maxRecDepth 20000 in
theorem kwX16_lays_35 {Γ : hCT} (C : hC Γ RX16 cX16_lays ((Option.some FieldType.boolean)) "lays" 0 0) {Q : Int32 → St → Prop} {E : St → Prop} (hΓ : Γ.2.2.2.2.2.2.2.2.2.2.2 = (7, 0, 0, oT (oI Q) E)) (hne : hNE Γ) {r16 : Nat → Nat → Int32 → Int32 → St → Prop} (h16 : ∀ (v0 : Nat) (v1 : Nat) (v2 : Int32) (v3 : Int32) (σ : St), r16 v0 v1 v2 v3 σ → hW Γ 0 0 16 [(0, .ref v0), (1, .ref v1), (2, .int v2), (3, .int v3)] [] σ) {r35 : Nat → Nat → Int32 → Int32 → Int64 → Int32 → St → Prop} (h35 : ∀ (v0 : Nat) (v1 : Nat) (v2 : Int32) (v3 : Int32) (v4 : Int64) (v6 : Int32) (σ : St), r35 v0 v1 v2 v3 v4 v6 σ → hW Γ 0 0 35 [(0, .ref v0), (1, .ref v1), (2, .int v2), (3, .int v3), (4, .long v4), (6, .int v6)] [] σ) (v0 : Nat) (v1 : Nat) (v2 : Int32) (v3 : Int32) (v4 : Int64) (v6 : Int32) (σ : St) (hb : wX16_lays_35 Q E r16 r35 v0 v1 v2 v3 v4 v6 σ) : hW Γ 0 0 35 [(0, .ref v0), (1, .ref v1), (2, .int v2), (3, .int v3), (4, .long v4), (6, .int v6)] [] σ := by
  unfold wX16_lays_35 at hb
  refine g_iload C dX16_lays_35 5 rfl ?_
  refine g_if_le (tgt := 77) C dX16_lays_37 (by decide) (fun c => ?_) (fun c => ?_)
  ·
    replace hb := hb.1 (c)
    refine g_sub (lv' := [(0, .ref v0), (1, .ref v1), (2, .int v2), (3, .int v3), (4, .long v4), (6, .int v6)]) [0, 1, 2, 3, 4, 5] rfl ?_
    exact kwX16_lays_77 C hΓ hne h16 _ _ _ _ _ _ _ hb
  ·
    replace hb := hb.2 (c)
    refine g_aload_n (some v0) C dX16_lays_40 0 rfl ?_
    obtain ⟨q1, hb⟩ := hb
    obtain ⟨a2, q3, hb⟩ := hb
    refine g_getR (some a2) C fl_RX16_196 dX16_lays_41 q1 rfl rfl q3 ?_
    refine g_iload C dX16_lays_44 5 rfl ?_
    refine g_iconst (v := 1) C dX16_lays_46 (by decide) ?_
    refine g_isub C dX16_lays_47 ?_
    obtain ⟨q4, hb⟩ := hb
    obtain ⟨q5, hb⟩ := hb
    refine g_laldx (zAj σ a2 (ix (v6 - 1))) C dX16_lays_48 q4 q5 rfl ?_
    refine g_lload C dX16_lays_49 4 rfl ?_
    refine g_lcmp C dX16_lays_51 ?_
    refine g_if_le (tgt := 77) C dX16_lays_52 (by decide) (fun c => ?_) (fun c => ?_)
    ·
      replace hb := hb.1 (lc_le.mp c)
      refine g_sub (lv' := [(0, .ref v0), (1, .ref v1), (2, .int v2), (3, .int v3), (4, .long v4), (6, .int v6)]) [0, 1, 2, 3, 4, 5] rfl ?_
      exact kwX16_lays_77 C hΓ hne h16 _ _ _ _ _ _ _ hb
    ·
      replace hb := hb.2 (lcn_le.mp c)
      refine g_aload_n (some v0) C dX16_lays_55 0 rfl ?_
      refine g_getR (some a2) C fl_RX16_196 dX16_lays_56 q1 rfl rfl q3 ?_
      refine g_iload C dX16_lays_59 5 rfl ?_
      refine g_aload_n (some v0) C dX16_lays_61 0 rfl ?_
      refine g_getR (some a2) C fl_RX16_196 dX16_lays_62 q1 rfl rfl q3 ?_
      refine g_iload C dX16_lays_65 5 rfl ?_
      refine g_iconst (v := 1) C dX16_lays_67 (by decide) ?_
      refine g_isub C dX16_lays_68 ?_
      refine g_laldx (zAj σ a2 (ix (v6 - 1))) C dX16_lays_69 q4 q5 rfl ?_
      obtain ⟨q6, hb⟩ := hb
      refine g_last C dX16_lays_70 q4 q6 ?_
      refine g_iinc (v := v6 + (-1)) (lv' := [(6, .int (v6 + (-1))), (0, .ref v0), (1, .ref v1), (2, .int v2), (3, .int v3), (4, .long v4)]) C dX16_lays_71 5 rfl rfl (hnl_of hΓ (by decide)) (by first | rfl | simp [cat_rf]) ?_
      refine g_goto (tgt := 35) C dX16_lays_74 (by decide) ?_
      refine g_sub (lv' := [(0, .ref v0), (1, .ref v1), (2, .int v2), (3, .int v3), (4, .long v4), (6, .int (v6 + (-1)))]) [1, 2, 3, 4, 5, 0] rfl ?_
      exact h35 _ _ _ _ _ _ _ hb
theorem klX16_lays_35 {Γ : hCT} (C : hC Γ RX16 cX16_lays ((Option.some FieldType.boolean)) "lays" 0 0) {Q : Int32 → St → Prop} {E : St → Prop} (hΓ : Γ.2.2.2.2.2.2.2.2.2.2.2 = (7, 0, 0, oT (oI Q) E)) (hne : hNE Γ) {r16 : Nat → Nat → Int32 → Int32 → St → Prop} (h16 : ∀ (v0 : Nat) (v1 : Nat) (v2 : Int32) (v3 : Int32) (σ : St), r16 v0 v1 v2 v3 σ → hW Γ 0 0 16 [(0, .ref v0), (1, .ref v1), (2, .int v2), (3, .int v3)] [] σ) (f : Nat) (v0 : Nat) (v1 : Nat) (v2 : Int32) (v3 : Int32) (v4 : Int64) (v6 : Int32) (σ : St) (hb : lX16_lays_35 Q E r16 f v0 v1 v2 v3 v4 v6 σ) : hW Γ 0 0 35 [(0, .ref v0), (1, .ref v1), (2, .int v2), (3, .int v3), (4, .long v4), (6, .int v6)] [] σ := by
  induction f generalizing v0 v1 v2 v3 v4 v6 σ with
  | zero => exact hb.elim
  | succ f ih => exact kwX16_lays_35 C hΓ hne h16 (fun v0 v1 v2 v3 v4 v6 σ h => ih v0 v1 v2 v3 v4 v6 σ h) _ _ _ _ _ _ _ hb
set_option maxRecDepth 20000 in
theorem kwX16_lays_16 {Γ : hCT} (C : hC Γ RX16 cX16_lays ((Option.some FieldType.boolean)) "lays" 0 0) {Q : Int32 → St → Prop} {E : St → Prop} (hΓ : Γ.2.2.2.2.2.2.2.2.2.2.2 = (7, 0, 0, oT (oI Q) E)) (hne : hNE Γ) {r16 : Nat → Nat → Int32 → Int32 → St → Prop} (h16 : ∀ (v0 : Nat) (v1 : Nat) (v2 : Int32) (v3 : Int32) (σ : St), r16 v0 v1 v2 v3 σ → hW Γ 0 0 16 [(0, .ref v0), (1, .ref v1), (2, .int v2), (3, .int v3)] [] σ) (v0 : Nat) (v1 : Nat) (v2 : Int32) (v3 : Int32) (σ : St) (hb : wX16_lays_16 Q E r16 v0 v1 v2 v3 σ) : hW Γ 0 0 16 [(0, .ref v0), (1, .ref v1), (2, .int v2), (3, .int v3)] [] σ := by
  unfold wX16_lays_16 at hb
  refine g_iload_n C dX16_lays_16 3 rfl ?_
  refine g_aload_n (some v0) C dX16_lays_17 0 rfl ?_
  obtain ⟨q1, hb⟩ := hb
  refine g_getIx (zFi σ 1054 v0) C fl_RX16_223 dX16_lays_18 q1 rfl rfl rfl ?_
  refine g_icmp_ge (tgt := 92) C dX16_lays_21 (by decide) (fun c => ?_) (fun c => ?_)
  ·
    replace hb := hb.1 (c)
    refine g_aload_n (some v1) C dX16_lays_92 1 rfl ?_
    obtain ⟨q2, hb⟩ := hb
    obtain ⟨a3, q4, hb⟩ := hb
    refine g_getR (some a3) C fl_RX16_226 dX16_lays_93 q2 rfl rfl q4 ?_
    refine g_iload_n C dX16_lays_96 2 rfl ?_
    obtain ⟨q5, hb⟩ := hb
    obtain ⟨q6, hb⟩ := hb
    refine g_ialdx (zAi σ a3 (ix v2)) C dX16_lays_97 q5 q6 rfl ?_
    refine g_aload_n (some v0) C dX16_lays_98 0 rfl ?_
    refine g_getIx (zFi σ 1054 v0) C fl_RX16_223 dX16_lays_99 q1 rfl rfl rfl ?_
    refine g_icmp_eq (tgt := 109) C dX16_lays_102 (by decide) (fun c => ?_) (fun c => ?_)
    ·
      replace hb := hb.1 (c)
      refine g_iconst (v := 0) C dX16_lays_109 (by decide) ?_
      refine g_sub (lv' := [(0, .ref v0), (1, .ref v1), (2, .int v2)]) [0, 1, 2] rfl ?_
      exact kwX16_lays_110 C hΓ hne  _ _ _ _ _ hb
    ·
      replace hb := hb.2 (c)
      refine g_iconst (v := 1) C dX16_lays_105 (by decide) ?_
      refine g_goto (tgt := 110) C dX16_lays_106 (by decide) ?_
      refine g_sub (lv' := [(0, .ref v0), (1, .ref v1), (2, .int v2)]) [0, 1, 2] rfl ?_
      exact kwX16_lays_110 C hΓ hne  _ _ _ _ _ hb
  ·
    replace hb := hb.2 (c)
    refine g_aload_n (some v0) C dX16_lays_24 0 rfl ?_
    obtain ⟨a7, q8, hb⟩ := hb
    refine g_getR (some a7) C fl_RX16_196 dX16_lays_25 q1 rfl rfl q8 ?_
    refine g_iload_n C dX16_lays_28 3 rfl ?_
    obtain ⟨q9, hb⟩ := hb
    obtain ⟨q10, hb⟩ := hb
    refine g_laldx (zAj σ a7 (ix v3)) C dX16_lays_29 q9 q10 rfl ?_
    refine g_lstore (lv' := [(4, .long (zAj σ a7 (ix v3))), (0, .ref v0), (1, .ref v1), (2, .int v2), (3, .int v3)]) C dX16_lays_30 (hnl_of hΓ (by decide)) (by first | rfl | simp [cat_rf]) ?_
    refine g_iload_n C dX16_lays_32 4 rfl ?_
    refine g_istore (lv' := [(6, .int v3), (4, .long (zAj σ a7 (ix v3))), (0, .ref v0), (1, .ref v1), (2, .int v2), (3, .int v3)]) C dX16_lays_33 (hnl_of hΓ (by decide)) (by first | rfl | simp [cat_rf]) ?_
    refine g_sub (lv' := [(0, .ref v0), (1, .ref v1), (2, .int v2), (3, .int v3), (4, .long (zAj σ a7 (ix v3))), (6, .int v3)]) [2, 3, 4, 5, 1, 0] rfl ?_
    obtain ⟨f11, hb⟩ := hb
    exact klX16_lays_35 C hΓ hne h16 f11 _ _ _ _ _ _ _ hb
theorem klX16_lays_16 {Γ : hCT} (C : hC Γ RX16 cX16_lays ((Option.some FieldType.boolean)) "lays" 0 0) {Q : Int32 → St → Prop} {E : St → Prop} (hΓ : Γ.2.2.2.2.2.2.2.2.2.2.2 = (7, 0, 0, oT (oI Q) E)) (hne : hNE Γ) (f : Nat) (v0 : Nat) (v1 : Nat) (v2 : Int32) (v3 : Int32) (σ : St) (hb : lX16_lays_16 Q E f v0 v1 v2 v3 σ) : hW Γ 0 0 16 [(0, .ref v0), (1, .ref v1), (2, .int v2), (3, .int v3)] [] σ := by
  induction f generalizing v0 v1 v2 v3 σ with
  | zero => exact hb.elim
  | succ f ih => exact kwX16_lays_16 C hΓ hne  (fun v0 v1 v2 v3 σ h => ih v0 v1 v2 v3 σ h) _ _ _ _ _ hb
set_option maxRecDepth 20000 in
theorem kwX16_lays_0 {Γ : hCT} (C : hC Γ RX16 cX16_lays ((Option.some FieldType.boolean)) "lays" 0 0) {Q : Int32 → St → Prop} {E : St → Prop} (hΓ : Γ.2.2.2.2.2.2.2.2.2.2.2 = (7, 0, 0, oT (oI Q) E)) (hne : hNE Γ) (v0 : Nat) (v1 : Nat) (v2 : Int32) (σ : St) (hb : wX16_lays_0 Q E v0 v1 v2 σ) : hW Γ 0 0 0 [(0, .ref v0), (1, .ref v1), (2, .int v2)] [] σ := by
  unfold wX16_lays_0 at hb
  refine g_aload_n (some v0) C dX16_lays_0 0 rfl ?_
  obtain ⟨q1, hb⟩ := hb
  refine g_getIx (zFi σ 1054 v0) C fl_RX16_223 dX16_lays_1 q1 rfl rfl rfl ?_
  refine g_bipush (v := 16) C dX16_lays_4 (by decide) ?_
  refine g_icmp_le (tgt := 14) C dX16_lays_6 (by decide) (fun c => ?_) (fun c => ?_)
  ·
    replace hb := hb.1 (c)
    refine g_iconst (v := 1) C dX16_lays_14 (by decide) ?_
    refine g_istore_n (i := 3) (lv' := [(3, .int 1), (0, .ref v0), (1, .ref v1), (2, .int v2)]) C dX16_lays_15 rfl (hnl_of hΓ (by decide)) (by first | rfl | simp [cat_rf]) ?_
    refine g_sub (lv' := [(0, .ref v0), (1, .ref v1), (2, .int v2), (3, .int 1)]) [1, 2, 3, 0] rfl ?_
    obtain ⟨f2, hb⟩ := hb
    exact klX16_lays_16 C hΓ hne  f2 _ _ _ _ _ hb
  ·
    replace hb := hb.2 (c)
    refine g_aload_n (some v0) C dX16_lays_9 0 rfl ?_
    obtain ⟨a3, q4, hb⟩ := hb
    refine g_getR (some a3) C fl_RX16_184 dX16_lays_10 q1 rfl rfl q4 ?_
    obtain ⟨q5, hb⟩ := hb
    exact g_athrow C hne hΓ (Nat.zero_le _) (Nat.zero_le _) dX16_lays_13 (g_thrown hΓ q5 hb)
theorem okX16_lays {v0 : Nat} {v1 : Nat} {v2 : Int32} {σ : St} {Q : Int32 → St → Prop} {E : St → Prop} (hb : wX16_lays v0 v1 v2 σ Q E) : hM yX16_lays cX16_lays 7 ((Option.some FieldType.boolean)) 0 0 0 0 [.ref v0, .ref v1, .int v2] σ (oT (oI Q) E) :=
  hM_ofX (by decide) (Nat.le_of_ble_eq_true rfl) (fun Γ hΓ C hne => kwX16_lays_0 C hΓ hne _ _ _ _ hb)
